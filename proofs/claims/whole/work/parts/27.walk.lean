def rmS_89 (d : Nat) : Room := { frames := 5 + d, cells := 0, slots := 0, locals := 145 + 26 * d }
def F_X7_lotsBehind_26 (f_X7_lotsBehind : Int32 → Int32 → Mm → Option (Int32 × Mm)) (r10 : Nat) (m : Mm) : Option (Int32 × Mm) :=
  gdS (9, 2) r10 fun r10 =>
  bnd (F_X2_closeByLaw r10 m) fun _ m2 =>
  bnd (F_X7_firstUnlikeTold r10 m2) fun v3 m4 =>
  (if v3 = (iI (-2)) then
    some ((iI 1), m4)
  else
    some ((iI 0), m4))
set_option maxRecDepth 100000 in
set_option maxHeartbeats 4000000 in
theorem t_X7_lotsBehind_26 {pp : Program} {ll : Launch} {ee : Env} {ss : State} {mm : MethodId} {aa : Array Value} {bb : List Frame} {me : Method} {co : Code} {cx : CX} {dd : Nat}  {f_X7_lotsBehind : Int32 → Int32 → Mm → Option (Int32 × Mm)}  (C : CM pp ss mm aa me co cX7_lotsBehind 7 RX7 cx ((some .int)))  (hf_X7_lotsBehind : ∀ (x1 : Int32) (x2 : Int32) (m : Mm), MT ll yX7_lotsBehind cX7_lotsBehind 7 ((some .int)) (rmS_89 dd) cx NN NN Lay cvI 0 0 [.ref (cx.2.2.1 + 33), .int x1, .int x2] m (f_X7_lotsBehind x1 x2 m))   (r10 : Nat) (m : Mm) : TI pp ll ee (rmS_89 (dd + 1)) ss mm aa bb me co 7 cx 26 [(0, .ref (cx.2.2.1 + 33)), (3, .ref (cx.2.2.1 + r10))] [] m (F_X7_lotsBehind_26 f_X7_lotsBehind r10 m) := by
  unfold F_X7_lotsBehind_26
  refine T_gdS (fun hr10 => ?_)
  refine T_aload_n C.1 dX7_lotsBehind_26 1 rfl ?_
  refine T_aload_n C.1 dX7_lotsBehind_27 0 rfl ?_
  refine T_getR (x := 2) C.1 fd_X7_43 (fun _ _ _ _ => rfl) sh33 le33 (fun _ h => h) rfl (by decide) dX7_lotsBehind_28 ?_
  refine T_callVV (rm := rm_X2_closeByLaw) [.ref (cx.2.2.1 + 2)] [] C.1 dX7_lotsBehind_31 mw_X2_closeByLaw wm_3_145 wm_3_146 wm_3_147 (by constructor <;> (simp only [rmS_89, rm_X2_closeByLaw]; omega)) ⟨rfl, rfl⟩ ⟨Nat.zero_le _, Nat.zero_le _⟩ rfl rfl (Nat.le_of_ble_eq_true rfl) hr10 (shp_le hr10 (by decide)) ⟨rfl, rfl⟩ (c_X2_closeByLaw ll cx r10 m) (fun u1 m2 => ?_)
  refine T_aload_n C.1 dX7_lotsBehind_34 0 rfl ?_
  refine T_aload_n C.1 dX7_lotsBehind_35 1 rfl ?_
  refine T_callVI (rm := rm_X7_firstUnlikeTold) [.ref (cx.2.2.1 + r10)] [] C.1 dX7_lotsBehind_36 mw_X7_firstUnlikeTold wm_4_39 wm_4_23 wm_4_24 (by constructor <;> (simp only [rmS_89, rm_X7_firstUnlikeTold]; omega)) ⟨rfl, rfl⟩ ⟨Nat.zero_le _, Nat.zero_le _⟩ rfl rfl (Nat.le_of_ble_eq_true rfl) sh33 le33 ⟨rfl, rfl⟩ (c_X7_firstUnlikeTold ll cx r10 m2) (fun v3 m4 => ?_)
  refine T_bipush C.1 dX7_lotsBehind_39 rfl ?_
  refine T_icmp_ne (tgt := 48) C.1 dX7_lotsBehind_41 (by decide) ?_ ?_
  · refine T_iconst C.1 dX7_lotsBehind_48 ?_
    exact T_iret C.1 C.2.1 C.2.2 dX7_lotsBehind_49
  · refine T_iconst C.1 dX7_lotsBehind_44 ?_
    refine T_goto (tgt := 49) C.1 dX7_lotsBehind_45 (by decide) ?_
    exact T_iret C.1 C.2.1 C.2.2 dX7_lotsBehind_49
def F_X7_lotsBehind_133 (k_66 : Int32 → Int32 → Nat → Nat → Int32 → Int32 → Mm → Option (Int32 × Mm)) (f_X7_lotsBehind : Int32 → Int32 → Mm → Option (Int32 × Mm)) (a1 : Int32) (a2 : Int32) (r30 : Nat) (r40 : Nat) (a5 : Int32) (a6 : Int32) (m : Mm) : Option (Int32 × Mm) :=
  gdS (9, 2) r30 fun r30 =>
  gdS (9, 2) r40 fun r40 =>
  nm (a6 + (iI 1)) fun v1 =>
  k_66 a1 a2 r30 r40 a5 v1 m
set_option maxRecDepth 100000 in
set_option maxHeartbeats 4000000 in
theorem t_X7_lotsBehind_133 {pp : Program} {ll : Launch} {ee : Env} {ss : State} {mm : MethodId} {aa : Array Value} {bb : List Frame} {me : Method} {co : Code} {cx : CX} {dd : Nat} {k_66 : Int32 → Int32 → Nat → Nat → Int32 → Int32 → Mm → Option (Int32 × Mm)} {f_X7_lotsBehind : Int32 → Int32 → Mm → Option (Int32 × Mm)}  (C : CM pp ss mm aa me co cX7_lotsBehind 7 RX7 cx ((some .int)))  (hf_X7_lotsBehind : ∀ (x1 : Int32) (x2 : Int32) (m : Mm), MT ll yX7_lotsBehind cX7_lotsBehind 7 ((some .int)) (rmS_89 dd) cx NN NN Lay cvI 0 0 [.ref (cx.2.2.1 + 33), .int x1, .int x2] m (f_X7_lotsBehind x1 x2 m))  (hk_66 : ∀ (a1 : Int32) (a2 : Int32) (r30 : Nat) (r40 : Nat) (a5 : Int32) (a6 : Int32) (m : Mm), TI pp ll ee (rmS_89 (dd + 1)) ss mm aa bb me co 7 cx 66 [(0, .ref (cx.2.2.1 + 33)), (1, .int a1), (2, .int a2), (3, .ref (cx.2.2.1 + r30)), (4, .ref (cx.2.2.1 + r40)), (5, .int a5), (6, .int a6)] [] m (k_66 a1 a2 r30 r40 a5 a6 m)) (a1 : Int32) (a2 : Int32) (r30 : Nat) (r40 : Nat) (a5 : Int32) (a6 : Int32) (m : Mm) : TI pp ll ee (rmS_89 (dd + 1)) ss mm aa bb me co 7 cx 133 [(0, .ref (cx.2.2.1 + 33)), (1, .int a1), (2, .int a2), (3, .ref (cx.2.2.1 + r30)), (4, .ref (cx.2.2.1 + r40)), (5, .int a5), (6, .int a6)] [] m (F_X7_lotsBehind_133 k_66 f_X7_lotsBehind a1 a2 r30 r40 a5 a6 m) := by
  unfold F_X7_lotsBehind_133
  refine T_gdS (fun hr30 => ?_)
  refine T_gdS (fun hr40 => ?_)
  refine T_iincN C.1 (fun v1 => [(6, .int v1), (0, .ref (cx.2.2.1 + 33)), (1, .int a1), (2, .int a2), (3, .ref (cx.2.2.1 + r30)), (4, .ref (cx.2.2.1 + r40)), (5, .int a5)]) dX7_lotsBehind_133 6 rfl (by decide) (fun _ => rfl) (fun v1 => ?_)
  refine T_goto (tgt := 66) C.1 dX7_lotsBehind_136 (by decide) ?_
  exact T_sub [1, 2, 3, 4, 5, 6, 0] rfl (hk_66 a1 a2 r30 r40 a5 v1 m)
def F_X7_lotsBehind_66 (f_X7_lotsBehind : Int32 → Int32 → Mm → Option (Int32 × Mm)) : Nat → Int32 → Int32 → Nat → Nat → Int32 → Int32 → Mm → Option (Int32 × Mm)
  | 0, _, _, _, _, _, _, _ => none
  | f + 1, a1, a2, r30, r40, a5, a6, m =>
    gdS (9, 2) r30 fun r30 =>
    gdS (9, 2) r40 fun r40 =>
    (if (gI m 2 0) ≤ a6 then
      some (a5, m)
    else
      (if ((a2 >>> (a6 &&& 31)) &&& (iI 1)) = iI 0 then
        bnd (F_X2_become r40 r30 m) fun _ m2 =>
        wrI 7 m2 (r40 + 1) a1 a6 fun m3 =>
        bnd (F_X2_playTill r40 (a1 + (iI 1)) m3) fun v4 m5 =>
        bnd (f_X7_lotsBehind (a1 + (iI 1)) (a2 ||| ((iI 1) <<< (a6 &&& 31))) m5) fun v6 m7 =>
        nm (a5 + v6) fun v8 =>
        F_X7_lotsBehind_133 (F_X7_lotsBehind_66 f_X7_lotsBehind f) f_X7_lotsBehind a1 a2 r30 r40 v8 a6 m7
      else
        F_X7_lotsBehind_133 (F_X7_lotsBehind_66 f_X7_lotsBehind f) f_X7_lotsBehind a1 a2 r30 r40 a5 a6 m))
set_option maxRecDepth 100000 in
set_option maxHeartbeats 4000000 in
theorem t_X7_lotsBehind_66 {pp : Program} {ll : Launch} {ee : Env} {ss : State} {mm : MethodId} {aa : Array Value} {bb : List Frame} {me : Method} {co : Code} {cx : CX} {dd : Nat}  {f_X7_lotsBehind : Int32 → Int32 → Mm → Option (Int32 × Mm)}  (C : CM pp ss mm aa me co cX7_lotsBehind 7 RX7 cx ((some .int)))  (hf_X7_lotsBehind : ∀ (x1 : Int32) (x2 : Int32) (m : Mm), MT ll yX7_lotsBehind cX7_lotsBehind 7 ((some .int)) (rmS_89 dd) cx NN NN Lay cvI 0 0 [.ref (cx.2.2.1 + 33), .int x1, .int x2] m (f_X7_lotsBehind x1 x2 m))   : ∀ (f : Nat) (a1 : Int32) (a2 : Int32) (r30 : Nat) (r40 : Nat) (a5 : Int32) (a6 : Int32) (m : Mm), TI pp ll ee (rmS_89 (dd + 1)) ss mm aa bb me co 7 cx 66 [(0, .ref (cx.2.2.1 + 33)), (1, .int a1), (2, .int a2), (3, .ref (cx.2.2.1 + r30)), (4, .ref (cx.2.2.1 + r40)), (5, .int a5), (6, .int a6)] [] m (F_X7_lotsBehind_66 f_X7_lotsBehind f a1 a2 r30 r40 a5 a6 m) := by
  intro f
  induction f with
  | zero => exact fun _ _ _ _ _ _ _ => T_none
  | succ f ih =>
    intro a1 a2 r30 r40 a5 a6 m
    unfold F_X7_lotsBehind_66
    refine T_gdS (fun hr30 => ?_)
    refine T_gdS (fun hr40 => ?_)
    refine T_iload C.1 dX7_lotsBehind_66 6 rfl ?_
    refine T_aload_n C.1 dX7_lotsBehind_68 0 rfl ?_
    refine T_getR (x := 2) C.1 fd_X7_43 (fun _ _ _ _ => rfl) sh33 le33 (fun _ h => h) rfl (by decide) dX7_lotsBehind_69 ?_
    refine T_getI C.1 fd_X7_52 (fun _ _ _ _ => rfl) sh2 le2 dX7_lotsBehind_72 ?_
    refine T_icmp_ge (tgt := 139) C.1 dX7_lotsBehind_75 (by decide) ?_ ?_
    · refine T_iload C.1 dX7_lotsBehind_139 5 rfl ?_
      exact T_iret C.1 C.2.1 C.2.2 dX7_lotsBehind_141
    · refine T_iload_n C.1 dX7_lotsBehind_78 2 rfl ?_
      refine T_iload C.1 dX7_lotsBehind_79 6 rfl ?_
      refine T_ishr C.1 dX7_lotsBehind_81 ?_
      refine T_iconst C.1 dX7_lotsBehind_82 ?_
      refine T_iand C.1 dX7_lotsBehind_83 ?_
      refine T_if_ne (tgt := 133) C.1 dX7_lotsBehind_84 (by decide) ?_ ?_
      · exact T_sub [0, 1, 2, 3, 4, 5, 6] rfl (t_X7_lotsBehind_133 C hf_X7_lotsBehind (ih) a1 a2 r30 r40 a5 a6 m)
      · refine T_aload C.1 dX7_lotsBehind_87 4 rfl ?_
        refine T_aload_n C.1 dX7_lotsBehind_89 3 rfl ?_
        refine T_callVV (rm := rm_X2_become) [.ref (cx.2.2.1 + r30)] [] C.1 dX7_lotsBehind_90 mw_X2_become wm_3_169 wm_3_170 wm_3_171 (by constructor <;> (simp only [rmS_89, rm_X2_become]; omega)) ⟨rfl, rfl⟩ ⟨Nat.zero_le _, Nat.zero_le _⟩ rfl rfl (Nat.le_of_ble_eq_true rfl) hr40 (shp_le hr40 (by decide)) ⟨rfl, rfl⟩ (c_X2_become ll cx r40 r30 m) (fun u1 m2 => ?_)
        refine T_aload C.1 dX7_lotsBehind_93 4 rfl ?_
        refine T_getR (x := (r40 + 1)) C.1 fd_X7_171 (fun _ _ _ _ => rfl) hr40 (shp_le hr40 (by decide)) (fun _ h => h) rfl (Nat.succ_ne_zero _) dX7_lotsBehind_95 ?_
        refine T_iload_n C.1 dX7_lotsBehind_98 1 rfl ?_
        refine T_iload C.1 dX7_lotsBehind_99 6 rfl ?_
        refine T_iast C.1 LyI_Lay (shr_2_1 hr40) (shp_le (shr_2_1 hr40) (by decide)) dX7_lotsBehind_101 (fun m3 => ?_)
        refine T_aload C.1 dX7_lotsBehind_102 4 rfl ?_
        refine T_iload_n C.1 dX7_lotsBehind_104 1 rfl ?_
        refine T_iconst C.1 dX7_lotsBehind_105 ?_
        refine T_iadd C.1 dX7_lotsBehind_106 ?_
        refine T_aload_n C.1 dX7_lotsBehind_107 0 rfl ?_
        refine T_getR (x := 2) C.1 fd_X7_43 (fun _ _ _ _ => rfl) sh33 le33 (fun _ h => h) rfl (by decide) dX7_lotsBehind_108 ?_
        refine T_callVI (rm := rm_X2_playTill) [.int (a1 + (iI 1)), .ref (cx.2.2.1 + 2)] [] C.1 dX7_lotsBehind_111 mw_X2_playTill wm_3_144 wm_3_60 wm_3_61 (by constructor <;> (simp only [rmS_89, rm_X2_playTill]; omega)) ⟨rfl, rfl⟩ ⟨Nat.zero_le _, Nat.zero_le _⟩ rfl rfl (Nat.le_of_ble_eq_true rfl) hr40 (shp_le hr40 (by decide)) ⟨rfl, rfl⟩ (c_X2_playTill ll cx r40 (a1 + (iI 1)) m3) (fun v4 m5 => ?_)
        refine T_pop C.1 dX7_lotsBehind_114 rfl ?_
        refine T_iload C.1 dX7_lotsBehind_115 5 rfl ?_
        refine T_aload_n C.1 dX7_lotsBehind_117 0 rfl ?_
        refine T_iload_n C.1 dX7_lotsBehind_118 1 rfl ?_
        refine T_iconst C.1 dX7_lotsBehind_119 ?_
        refine T_iadd C.1 dX7_lotsBehind_120 ?_
        refine T_iload_n C.1 dX7_lotsBehind_121 2 rfl ?_
        refine T_iconst C.1 dX7_lotsBehind_122 ?_
        refine T_iload C.1 dX7_lotsBehind_123 6 rfl ?_
        refine T_ishl C.1 dX7_lotsBehind_125 ?_
        refine T_ior C.1 dX7_lotsBehind_126 ?_
        refine T_callVI (rm := (rmS_89 dd)) [.int (a1 + (iI 1)), .int (a2 ||| ((iI 1) <<< (a6 &&& 31)))] [.int a5] C.1 dX7_lotsBehind_127 mw_X7_lotsBehind wm_4_35 wm_4_37 wm_p_29 (by constructor <;> (simp only [rmS_89]; omega)) ⟨rfl, rfl⟩ ⟨Nat.zero_le _, Nat.zero_le _⟩ rfl rfl (Nat.le_of_ble_eq_true rfl) sh33 le33 ⟨rfl, rfl⟩ (hf_X7_lotsBehind (a1 + (iI 1)) (a2 ||| ((iI 1) <<< (a6 &&& 31))) m5) (fun v6 m7 => ?_)
        refine T_iadd C.1 dX7_lotsBehind_130 ?_
        refine T_istoreN C.1 (fun v8 => [(5, .int v8), (0, .ref (cx.2.2.1 + 33)), (1, .int a1), (2, .int a2), (3, .ref (cx.2.2.1 + r30)), (4, .ref (cx.2.2.1 + r40)), (6, .int a6)]) dX7_lotsBehind_131 (by decide) (fun _ => rfl) (fun v8 => ?_)
        exact T_sub [1, 2, 3, 4, 5, 0, 6] rfl (t_X7_lotsBehind_133 C hf_X7_lotsBehind (ih) a1 a2 r30 r40 v8 a6 m7)
def B_X7_lotsBehind (f_X7_lotsBehind : Int32 → Int32 → Mm → Option (Int32 × Mm)) (x1 : Int32) (x2 : Int32) (m : Mm) : Option (Int32 × Mm) :=
  rd 10 x1 fun j1 =>
  (if (gI m 2 0) ≤ x1 then
    F_X7_lotsBehind_26 f_X7_lotsBehind (50 + 5 * j1) m
  else
    (if (x1 + (iI 1)) < (iI 10) then
      rd 10 (x1 + (iI 1)) fun j2 =>
      F_X7_lotsBehind_66 f_X7_lotsBehind FU x1 x2 (50 + 5 * j1) (50 + 5 * j2) (iI 0) (iI 0) m
    else
      F_X7_lotsBehind_26 f_X7_lotsBehind (50 + 5 * j1) m))
set_option maxRecDepth 100000 in
set_option maxHeartbeats 4000000 in
theorem b_X7_lotsBehind {ll : Launch} {cx : CX} {dd : Nat} (f_X7_lotsBehind : Int32 → Int32 → Mm → Option (Int32 × Mm)) (hf_X7_lotsBehind : ∀ (x1 : Int32) (x2 : Int32) (m : Mm), MT ll yX7_lotsBehind cX7_lotsBehind 7 ((some .int)) (rmS_89 dd) cx NN NN Lay cvI 0 0 [.ref (cx.2.2.1 + 33), .int x1, .int x2] m (f_X7_lotsBehind x1 x2 m))  (x1 : Int32) (x2 : Int32) (m : Mm) : MT ll yX7_lotsBehind cX7_lotsBehind 7 ((some .int)) (rmS_89 (dd + 1)) cx NN NN Lay cvI 0 0 [.ref (cx.2.2.1 + 33), .int x1, .int x2] m (B_X7_lotsBehind f_X7_lotsBehind x1 x2 m) := by
  refine MT_of (by decide) (Nat.le_of_ble_eq_true rfl) ?_
  intro pp ee ss mm aa bb me co hK hr hk hn
  have C : CM pp ss mm aa me co cX7_lotsBehind 7 RX7 cx ((some .int)) := ⟨hK, hr, hk⟩
  show TI pp ll ee (rmS_89 (dd + 1)) ss mm aa bb me co 7 cx 0 [(0, .ref (cx.2.2.1 + 33)), (1, .int x1), (2, .int x2)] [] m (B_X7_lotsBehind f_X7_lotsBehind x1 x2 m)
  unfold B_X7_lotsBehind
  refine T_aload_n C.1 dX7_lotsBehind_0 0 rfl ?_
  refine T_getR (x := 34) C.1 fd_X7_13 (fun _ _ _ _ => rfl) sh33 le33 (fun _ h => h) rfl (by decide) dX7_lotsBehind_1 ?_
  refine T_iload_n C.1 dX7_lotsBehind_4 1 rfl ?_
  refine T_aald (x := fun j => 50 + 5 * j) C.1 dX7_lotsBehind_5 (by decide) sh34 le34 (fun _ h => h) ar34 (fun j1 hj1 => ?_)
  refine T_astore_n (lv' := [(3, .ref (cx.2.2.1 + (50 + 5 * j1))), (0, .ref (cx.2.2.1 + 33)), (1, .int x1), (2, .int x2)]) C.1 dX7_lotsBehind_6 (by decide) rfl ?_
  refine T_iload_n C.1 dX7_lotsBehind_7 2 rfl ?_
  refine T_aload_n C.1 dX7_lotsBehind_8 1 rfl ?_
  refine T_getR (x := 2) C.1 fd_X7_43 (fun _ _ _ _ => rfl) sh33 le33 (fun _ h => h) rfl (by decide) dX7_lotsBehind_9 ?_
  refine T_getI C.1 fd_X7_52 (fun _ _ _ _ => rfl) sh2 le2 dX7_lotsBehind_12 ?_
  refine T_icmp_ge (tgt := 26) C.1 dX7_lotsBehind_15 (by decide) ?_ ?_
  · exact T_sub [1, 0] rfl (t_X7_lotsBehind_26 C hf_X7_lotsBehind (50 + 5 * j1) m)
  · refine T_iload_n C.1 dX7_lotsBehind_18 2 rfl ?_
    refine T_iconst C.1 dX7_lotsBehind_19 ?_
    refine T_iadd C.1 dX7_lotsBehind_20 ?_
    refine T_bipush C.1 dX7_lotsBehind_21 rfl ?_
    refine T_icmp_lt (tgt := 50) C.1 dX7_lotsBehind_23 (by decide) ?_ ?_
    · refine T_aload_n C.1 dX7_lotsBehind_50 1 rfl ?_
      refine T_getR (x := 34) C.1 fd_X7_13 (fun _ _ _ _ => rfl) sh33 le33 (fun _ h => h) rfl (by decide) dX7_lotsBehind_51 ?_
      refine T_iload_n C.1 dX7_lotsBehind_54 2 rfl ?_
      refine T_iconst C.1 dX7_lotsBehind_55 ?_
      refine T_iadd C.1 dX7_lotsBehind_56 ?_
      refine T_aald (x := fun j => 50 + 5 * j) C.1 dX7_lotsBehind_57 (by decide) sh34 le34 (fun _ h => h) ar34 (fun j2 hj2 => ?_)
      refine T_astore (lv' := [(4, .ref (cx.2.2.1 + (50 + 5 * j2))), (3, .ref (cx.2.2.1 + (50 + 5 * j1))), (0, .ref (cx.2.2.1 + 33)), (1, .int x1), (2, .int x2)]) C.1 dX7_lotsBehind_58 (by decide) rfl ?_
      refine T_iconst C.1 dX7_lotsBehind_60 ?_
      refine T_istore (lv' := [(5, .int (iI 0)), (4, .ref (cx.2.2.1 + (50 + 5 * j2))), (3, .ref (cx.2.2.1 + (50 + 5 * j1))), (0, .ref (cx.2.2.1 + 33)), (1, .int x1), (2, .int x2)]) C.1 dX7_lotsBehind_61 (by decide) rfl ?_
      refine T_iconst C.1 dX7_lotsBehind_63 ?_
      refine T_istore (lv' := [(6, .int (iI 0)), (5, .int (iI 0)), (4, .ref (cx.2.2.1 + (50 + 5 * j2))), (3, .ref (cx.2.2.1 + (50 + 5 * j1))), (0, .ref (cx.2.2.1 + 33)), (1, .int x1), (2, .int x2)]) C.1 dX7_lotsBehind_64 (by decide) rfl ?_
      exact T_sub [4, 5, 6, 3, 2, 1, 0] rfl (t_X7_lotsBehind_66 C hf_X7_lotsBehind FU x1 x2 (50 + 5 * j1) (50 + 5 * j2) (iI 0) (iI 0) m)
    · exact T_sub [1, 0] rfl (t_X7_lotsBehind_26 C hf_X7_lotsBehind (50 + 5 * j1) m)
def R_89 : Nat → (Int32 → Int32 → Mm → Option (Int32 × Mm))
  | 0 => (fun _ _ _ => none)
  | d + 1 => (B_X7_lotsBehind (R_89 d))
set_option maxRecDepth 100000 in
set_option maxHeartbeats 4000000 in
theorem r_89 (ll : Launch) (cx : CX) : ∀ d : Nat, (∀ (x1 : Int32) (x2 : Int32) (m : Mm), MT ll yX7_lotsBehind cX7_lotsBehind 7 ((some .int)) (rmS_89 d) cx NN NN Lay cvI 0 0 [.ref (cx.2.2.1 + 33), .int x1, .int x2] m ((R_89 d) x1 x2 m))
  | 0 => fun _ _ _ => fun r μ1 h => (by cases (show (none : Option (Int32 × Mm)) = some (r, μ1) from h))
  | d + 1 => b_X7_lotsBehind _ (r_89 ll cx d)
def F_X7_lotsBehind (x1 : Int32) (x2 : Int32) (m : Mm) : Option (Int32 × Mm) := (R_89 40) x1 x2 m
theorem c_X7_lotsBehind (ll : Launch) (cx : CX) (x1 : Int32) (x2 : Int32) (m : Mm) : MT ll yX7_lotsBehind cX7_lotsBehind 7 ((some .int)) (rmS_89 40) cx NN NN Lay cvI 0 0 [.ref (cx.2.2.1 + 33), .int x1, .int x2] m (F_X7_lotsBehind x1 x2 m) := (r_89 ll cx 40) x1 x2 m
def rm_X7_lotsAsTold : Room := { frames := 46, cells := 0, slots := 0, locals := 1211 }
def F_X7_lotsAsTold   (m : Mm) : Option (Int32 × Mm) :=
  rd 10 (iI 0) fun j1 =>
  bnd (F_X2_wrapAll (50 + 5 * j1) m) fun _ m3 =>
  bnd (F_X7_lotsBehind (iI 0) (iI 0) m3) fun v4 m5 =>
  some (v4, m5)
set_option maxRecDepth 100000 in
set_option maxHeartbeats 4000000 in
theorem c_X7_lotsAsTold (ll : Launch) (cx : CX)  (m : Mm) : MT ll yX7_lotsAsTold cX7_lotsAsTold 1 ((some .int)) rm_X7_lotsAsTold cx NN NN Lay cvI 0 0 [.ref (cx.2.2.1 + 33)] m (F_X7_lotsAsTold  m) := by
  refine MT_of (by decide) (Nat.le_of_ble_eq_true rfl) ?_
  intro pp ee ss mm aa bb me co hK hr hk hn
  have C : CM pp ss mm aa me co cX7_lotsAsTold 1 RX7 cx ((some .int)) := ⟨hK, hr, hk⟩
  show TI pp ll ee rm_X7_lotsAsTold ss mm aa bb me co 1 cx 0 [(0, .ref (cx.2.2.1 + 33))] [] m (F_X7_lotsAsTold  m)
  unfold F_X7_lotsAsTold
  refine T_aload_n C.1 dX7_lotsAsTold_0 0 rfl ?_
  refine T_getR (x := 34) C.1 fd_X7_13 (fun _ _ _ _ => rfl) sh33 le33 (fun _ h => h) rfl (by decide) dX7_lotsAsTold_1 ?_
  refine T_iconst C.1 dX7_lotsAsTold_4 ?_
  refine T_aald (x := fun j => 50 + 5 * j) C.1 dX7_lotsAsTold_5 (by decide) sh34 le34 (fun _ h => h) ar34 (fun j1 hj1 => ?_)
  refine T_callVV (rm := rm_X2_wrapAll) [] [] C.1 dX7_lotsAsTold_6 mw_X2_wrapAll wm_4_34 wm_3_123 wm_3_124 ⟨Nat.le_of_ble_eq_true rfl, Nat.le_of_ble_eq_true rfl⟩ ⟨rfl, rfl⟩ ⟨Nat.zero_le _, Nat.zero_le _⟩ rfl rfl (Nat.le_of_ble_eq_true rfl) (shar34 hj1) (shp_le (shar34 hj1) (by decide)) ⟨rfl, rfl⟩ (c_X2_wrapAll ll cx (50 + 5 * j1) m) (fun u2 m3 => ?_)
  refine T_aload_n C.1 dX7_lotsAsTold_9 0 rfl ?_
  refine T_iconst C.1 dX7_lotsAsTold_10 ?_
  refine T_iconst C.1 dX7_lotsAsTold_11 ?_
  refine T_callVI (rm := (rmS_89 40)) [.int (iI 0), .int (iI 0)] [] C.1 dX7_lotsAsTold_12 mw_X7_lotsBehind wm_4_35 wm_4_37 wm_p_29 ⟨Nat.le_of_ble_eq_true rfl, Nat.le_of_ble_eq_true rfl⟩ ⟨rfl, rfl⟩ ⟨Nat.zero_le _, Nat.zero_le _⟩ rfl rfl (Nat.le_of_ble_eq_true rfl) sh33 le33 ⟨rfl, rfl⟩ (c_X7_lotsBehind ll cx (iI 0) (iI 0) m3) (fun v4 m5 => ?_)
  exact T_iret C.1 C.2.1 C.2.2 dX7_lotsAsTold_15
def rm_X8_welcome : Room := { frames := 1, cells := 0, slots := 0, locals := 40 }
def F_X8_welcome  (x1 : Int32) (m : Mm) : Option (Int32 × Mm) :=
  nm (gI m 2 0) fun v1 =>
  (if v1 < (iI 7) then
    wrI 7 m 5 v1 x1 fun m2 =>
    wrI 7 m2 24 v1 v1 fun m3 =>
    nm (pI m3 2 0 (v1 + (iI 1))) fun m4 =>
    some (v1, m4)
  else
    some ((iI (-3)), m))
set_option maxRecDepth 100000 in
set_option maxHeartbeats 4000000 in
theorem c_X8_welcome (ll : Launch) (cx : CX) (x1 : Int32) (m : Mm) : MT ll yX8_welcome cX8_welcome 3 ((some .int)) rm_X8_welcome cx NN NN Lay cvI 0 0 [.ref (cx.2.2.1 + 1), .int x1] m (F_X8_welcome x1 m) := by
  refine MT_of (by decide) (Nat.le_of_ble_eq_true rfl) ?_
  intro pp ee ss mm aa bb me co hK hr hk hn
  have C : CM pp ss mm aa me co cX8_welcome 3 RX8 cx ((some .int)) := ⟨hK, hr, hk⟩
  show TI pp ll ee rm_X8_welcome ss mm aa bb me co 3 cx 0 [(0, .ref (cx.2.2.1 + 1)), (1, .int x1)] [] m (F_X8_welcome x1 m)
  unfold F_X8_welcome
  refine T_aload_n C.1 dX8_welcome_0 0 rfl ?_
  refine T_getR (x := 2) C.1 fd_X8_10 (fun _ _ _ _ => rfl) sh1 le1 (fun _ h => h) rfl (by decide) dX8_welcome_1 ?_
  refine T_getI C.1 fd_X8_71 (fun _ _ _ _ => rfl) sh2 le2 dX8_welcome_4 ?_
  refine T_istore_nN C.1 (fun v1 => [(2, .int v1), (0, .ref (cx.2.2.1 + 1)), (1, .int x1)]) dX8_welcome_7 (by decide) (fun _ => rfl) (fun v1 => ?_)
  refine T_iload_n C.1 dX8_welcome_8 0 rfl ?_
  refine T_bipush C.1 dX8_welcome_9 rfl ?_
  refine T_icmp_lt (tgt := 17) C.1 dX8_welcome_11 (by decide) ?_ ?_
  · refine T_aload_n C.1 dX8_welcome_17 1 rfl ?_
    refine T_getR (x := 2) C.1 fd_X8_10 (fun _ _ _ _ => rfl) sh1 le1 (fun _ h => h) rfl (by decide) dX8_welcome_18 ?_
    refine T_getR (x := 5) C.1 fd_X8_323 (fun _ _ _ _ => rfl) sh2 le2 (fun _ h => h) rfl (by decide) dX8_welcome_21 ?_
    refine T_iload_n C.1 dX8_welcome_24 0 rfl ?_
    refine T_iload_n C.1 dX8_welcome_25 2 rfl ?_
    refine T_iast C.1 LyI_Lay sh5 le5 dX8_welcome_26 (fun m2 => ?_)
    refine T_aload_n C.1 dX8_welcome_27 1 rfl ?_
    refine T_getR (x := 23) C.1 fd_X8_33 (fun _ _ _ _ => rfl) sh1 le1 (fun _ h => h) rfl (by decide) dX8_welcome_28 ?_
    refine T_getR (x := 24) C.1 fd_X8_110 (fun _ _ _ _ => rfl) sh23 le23 (fun _ h => h) rfl (by decide) dX8_welcome_31 ?_
    refine T_iload_n C.1 dX8_welcome_34 0 rfl ?_
    refine T_iload_n C.1 dX8_welcome_35 0 rfl ?_
    refine T_iast C.1 LyI_Lay sh24 le24 dX8_welcome_36 (fun m3 => ?_)
    refine T_aload_n C.1 dX8_welcome_37 1 rfl ?_
    refine T_getR (x := 2) C.1 fd_X8_10 (fun _ _ _ _ => rfl) sh1 le1 (fun _ h => h) rfl (by decide) dX8_welcome_38 ?_
    refine T_iload_n C.1 dX8_welcome_41 0 rfl ?_
    refine T_iconst C.1 dX8_welcome_42 ?_
    refine T_iadd C.1 dX8_welcome_43 ?_
    refine T_putI C.1 LyI_Lay fd_X8_71 sh2 le2 dX8_welcome_44 (fun m4 => ?_)
    refine T_iload_n C.1 dX8_welcome_47 0 rfl ?_
    exact T_iret C.1 C.2.1 C.2.2 dX8_welcome_48
  · refine T_bipush C.1 dX8_welcome_14 rfl ?_
    exact T_iret C.1 C.2.1 C.2.2 dX8_welcome_16
def rm_X8_person : Room := { frames := 2, cells := 0, slots := 0, locals := 62 }
def F_X8_person  (x1 : Int32) (m : Mm) : Option (Int32 × Mm) :=
  (if x1 < iI 0 then
    some ((iI (-1)), m)
  else
    (if x1 ≤ (iI 2) then
      bnd (F_X2_hasBegun 23 m) fun v1 m2 =>
      (if v1 = iI 0 then
        (if (gI m2 2 0) < (iI 7) then
          bnd (F_X8_welcome x1 m2) fun v3 m4 =>
          some (v3, m4)
        else
          some ((iI (-3)), m2))
      else
        some ((iI (-5)), m2))
    else
      some ((iI (-1)), m)))
set_option maxRecDepth 100000 in
set_option maxHeartbeats 4000000 in
theorem c_X8_person (ll : Launch) (cx : CX) (x1 : Int32) (m : Mm) : MT ll yX8_person cX8_person 2 ((some .int)) rm_X8_person cx NN NN Lay cvI 0 0 [.ref (cx.2.2.1 + 1), .int x1] m (F_X8_person x1 m) := by
  refine MT_of (by decide) (Nat.le_of_ble_eq_true rfl) ?_
  intro pp ee ss mm aa bb me co hK hr hk hn
  have C : CM pp ss mm aa me co cX8_person 2 RX8 cx ((some .int)) := ⟨hK, hr, hk⟩
  show TI pp ll ee rm_X8_person ss mm aa bb me co 2 cx 0 [(0, .ref (cx.2.2.1 + 1)), (1, .int x1)] [] m (F_X8_person x1 m)
  unfold F_X8_person
  refine T_iload_n C.1 dX8_person_0 1 rfl ?_
  refine T_if_lt (tgt := 9) C.1 dX8_person_1 (by decide) ?_ ?_
  · refine T_iconst C.1 dX8_person_9 ?_
    exact T_iret C.1 C.2.1 C.2.2 dX8_person_10
  · refine T_iload_n C.1 dX8_person_4 1 rfl ?_
    refine T_iconst C.1 dX8_person_5 ?_
    refine T_icmp_le (tgt := 11) C.1 dX8_person_6 (by decide) ?_ ?_
    · refine T_aload_n C.1 dX8_person_11 0 rfl ?_
      refine T_getR (x := 23) C.1 fd_X8_33 (fun _ _ _ _ => rfl) sh1 le1 (fun _ h => h) rfl (by decide) dX8_person_12 ?_
      refine T_callVI (rm := rm_X2_hasBegun) [] [] C.1 dX8_person_15 mw_X2_hasBegun wm_2_78 wm_2_79 wm_2_80 ⟨Nat.le_of_ble_eq_true rfl, Nat.le_of_ble_eq_true rfl⟩ ⟨rfl, rfl⟩ ⟨Nat.zero_le _, Nat.zero_le _⟩ rfl rfl (Nat.le_of_ble_eq_true rfl) sh23 le23 ⟨rfl, rfl⟩ (c_X2_hasBegun ll cx 23 m) (fun v1 m2 => ?_)
      refine T_if_eq (tgt := 24) C.1 dX8_person_18 (by decide) ?_ ?_
      · refine T_aload_n C.1 dX8_person_24 0 rfl ?_
        refine T_getR (x := 2) C.1 fd_X8_10 (fun _ _ _ _ => rfl) sh1 le1 (fun _ h => h) rfl (by decide) dX8_person_25 ?_
        refine T_getI C.1 fd_X8_71 (fun _ _ _ _ => rfl) sh2 le2 dX8_person_28 ?_
        refine T_bipush C.1 dX8_person_31 rfl ?_
        refine T_icmp_lt (tgt := 41) C.1 dX8_person_33 (by decide) ?_ ?_
        · refine T_aload_n C.1 dX8_person_41 0 rfl ?_
          refine T_iload_n C.1 dX8_person_42 1 rfl ?_
          refine T_callVI (rm := rm_X8_welcome) [.int x1] [] C.1 dX8_person_43 mw_X8_welcome wm_2_82 wm_2_84 wm_p_0 ⟨Nat.le_of_ble_eq_true rfl, Nat.le_of_ble_eq_true rfl⟩ ⟨rfl, rfl⟩ ⟨Nat.zero_le _, Nat.zero_le _⟩ rfl rfl (Nat.le_of_ble_eq_true rfl) sh1 le1 ⟨rfl, rfl⟩ (c_X8_welcome ll cx x1 m2) (fun v3 m4 => ?_)
          exact T_iret C.1 C.2.1 C.2.2 dX8_person_46
        · refine T_bipush C.1 dX8_person_36 rfl ?_
          refine T_goto (tgt := 46) C.1 dX8_person_38 (by decide) ?_
          exact T_iret C.1 C.2.1 C.2.2 dX8_person_46
      · refine T_bipush C.1 dX8_person_21 rfl ?_
        exact T_iret C.1 C.2.1 C.2.2 dX8_person_23
    · refine T_iconst C.1 dX8_person_9 ?_
      exact T_iret C.1 C.2.1 C.2.2 dX8_person_10
def rm_X8_welcomeFrom : Room := { frames := 3, cells := 0, slots := 0, locals := 83 }
def F_X8_welcomeFrom  (x1 : Int32) (x2 : Int32) (m : Mm) : Option (Int32 × Mm) :=
  bnd (F_X5_refusalOfElement x1 x2 m) fun v1 m2 =>
  (if v1 = iI 0 then
    rd 6 x1 fun j3 =>
    rd 60 x2 fun j4 =>
    nm ((gL m2 (107 + 1 * j3) j4).toInt32) fun v5 =>
    (if v5 < iI 0 then
      rz (iI 0) m2
    else
      (if (iI 2) < v5 then
        rz (iI 0) m2
      else
        bnd (F_X8_welcome v5 m2) fun v6 m7 =>
        (if v6 < iI 0 then
          rz (iI 0) m7
        else
          rz (iI 1) m7)))
  else
    rz (iI 0) m2)
set_option maxRecDepth 100000 in
set_option maxHeartbeats 4000000 in
theorem c_X8_welcomeFrom (ll : Launch) (cx : CX) (x1 : Int32) (x2 : Int32) (m : Mm) : MT ll yX8_welcomeFrom cX8_welcomeFrom 4 ((some .boolean)) rm_X8_welcomeFrom cx NN NN Lay cvI 0 0 [.ref (cx.2.2.1 + 1), .int x1, .int x2] m (F_X8_welcomeFrom x1 x2 m) := by
  refine MT_of (by decide) (Nat.le_of_ble_eq_true rfl) ?_
  intro pp ee ss mm aa bb me co hK hr hk hn
  have C : CM pp ss mm aa me co cX8_welcomeFrom 4 RX8 cx ((some .boolean)) := ⟨hK, hr, hk⟩
  show TI pp ll ee rm_X8_welcomeFrom ss mm aa bb me co 4 cx 0 [(0, .ref (cx.2.2.1 + 1)), (1, .int x1), (2, .int x2)] [] m (F_X8_welcomeFrom x1 x2 m)
  unfold F_X8_welcomeFrom
  refine T_aload_n C.1 dX8_welcomeFrom_0 0 rfl ?_
  refine T_getR (x := 103) C.1 fd_X8_59 (fun _ _ _ _ => rfl) sh1 le1 (fun _ h => h) rfl (by decide) dX8_welcomeFrom_1 ?_
  refine T_iload_n C.1 dX8_welcomeFrom_4 1 rfl ?_
  refine T_iload_n C.1 dX8_welcomeFrom_5 2 rfl ?_
  refine T_callVI (rm := rm_X5_refusalOfElement) [.int x1, .int x2] [] C.1 dX8_welcomeFrom_6 mw_X5_refusalOfElement wm_2_107 wm_2_108 wm_2_109 ⟨Nat.le_of_ble_eq_true rfl, Nat.le_of_ble_eq_true rfl⟩ ⟨rfl, rfl⟩ ⟨Nat.zero_le _, Nat.zero_le _⟩ rfl rfl (Nat.le_of_ble_eq_true rfl) sh103 le103 ⟨rfl, rfl⟩ (c_X5_refusalOfElement ll cx x1 x2 m) (fun v1 m2 => ?_)
  refine T_if_eq (tgt := 14) C.1 dX8_welcomeFrom_9 (by decide) ?_ ?_
  · refine T_aload_n C.1 dX8_welcomeFrom_14 0 rfl ?_
    refine T_getR (x := 103) C.1 fd_X8_59 (fun _ _ _ _ => rfl) sh1 le1 (fun _ h => h) rfl (by decide) dX8_welcomeFrom_15 ?_
    refine T_getR (x := 106) C.1 fd_X8_226 (fun _ _ _ _ => rfl) sh103 le103 (fun _ h => h) rfl (by decide) dX8_welcomeFrom_18 ?_
    refine T_iload_n C.1 dX8_welcomeFrom_21 1 rfl ?_
    refine T_aald (x := fun j => 107 + 1 * j) C.1 dX8_welcomeFrom_22 (by decide) sh106 le106 (fun _ h => h) ar106 (fun j3 hj3 => ?_)
    refine T_iload_n C.1 dX8_welcomeFrom_23 2 rfl ?_
    refine T_lald C.1 dX8_welcomeFrom_24 (shar106 hj3) (shp_le (shar106 hj3) (by decide)) (fun j4 => ?_)
    refine T_l2i C.1 dX8_welcomeFrom_25 ?_
    refine T_istore_nN C.1 (fun v5 => [(3, .int v5), (0, .ref (cx.2.2.1 + 1)), (1, .int x1), (2, .int x2)]) dX8_welcomeFrom_26 (by decide) (fun _ => rfl) (fun v5 => ?_)
    refine T_iload_n C.1 dX8_welcomeFrom_27 0 rfl ?_
    refine T_if_lt (tgt := 48) C.1 dX8_welcomeFrom_28 (by decide) ?_ ?_
    · refine T_iconst C.1 dX8_welcomeFrom_48 ?_
      exact T_zret C.1 C.2.1 C.2.2 dX8_welcomeFrom_49
    · refine T_iload_n C.1 dX8_welcomeFrom_31 0 rfl ?_
      refine T_iconst C.1 dX8_welcomeFrom_32 ?_
      refine T_icmp_gt (tgt := 48) C.1 dX8_welcomeFrom_33 (by decide) ?_ ?_
      · refine T_iconst C.1 dX8_welcomeFrom_48 ?_
        exact T_zret C.1 C.2.1 C.2.2 dX8_welcomeFrom_49
      · refine T_aload_n C.1 dX8_welcomeFrom_36 1 rfl ?_
        refine T_iload_n C.1 dX8_welcomeFrom_37 0 rfl ?_
        refine T_callVI (rm := rm_X8_welcome) [.int v5] [] C.1 dX8_welcomeFrom_38 mw_X8_welcome wm_2_82 wm_2_84 wm_p_0 ⟨Nat.le_of_ble_eq_true rfl, Nat.le_of_ble_eq_true rfl⟩ ⟨rfl, rfl⟩ ⟨Nat.zero_le _, Nat.zero_le _⟩ rfl rfl (Nat.le_of_ble_eq_true rfl) sh1 le1 ⟨rfl, rfl⟩ (c_X8_welcome ll cx v5 m2) (fun v6 m7 => ?_)
        refine T_if_lt (tgt := 48) C.1 dX8_welcomeFrom_41 (by decide) ?_ ?_
        · refine T_iconst C.1 dX8_welcomeFrom_48 ?_
          exact T_zret C.1 C.2.1 C.2.2 dX8_welcomeFrom_49
        · refine T_iconst C.1 dX8_welcomeFrom_44 ?_
          refine T_goto (tgt := 49) C.1 dX8_welcomeFrom_45 (by decide) ?_
          exact T_zret C.1 C.2.1 C.2.2 dX8_welcomeFrom_49
  · refine T_iconst C.1 dX8_welcomeFrom_12 ?_
    exact T_zret C.1 C.2.1 C.2.2 dX8_welcomeFrom_13
def rm_X8_people : Room := { frames := 4, cells := 0, slots := 0, locals := 106 }
def F_X8_people_75  : Nat → Int32 → Int32 → Int32 → Int32 → Mm → Option (Int32 × Mm)
  | 0, _, _, _, _, _ => none
  | f + 1, a1, a2, a3, a4, m =>
    (if a3 ≤ a4 then
      some (a4, m)
    else
      (if (iI 7) ≤ (gI m 2 0) then
        some (a4, m)
      else
        bnd (F_X8_welcomeFrom a1 (a2 + a4) m) fun v1 m2 =>
        (if v1 = iI 0 then
          some (a4, m2)
        else
          nm (a4 + (iI 1)) fun v3 =>
          F_X8_people_75  f a1 a2 a3 v3 m2)))
set_option maxRecDepth 100000 in
set_option maxHeartbeats 4000000 in
theorem t_X8_people_75 {pp : Program} {ll : Launch} {ee : Env} {ss : State} {mm : MethodId} {aa : Array Value} {bb : List Frame} {me : Method} {co : Code} {cx : CX}     (C : CM pp ss mm aa me co cX8_people 6 RX8 cx ((some .int)))    : ∀ (f : Nat) (a1 : Int32) (a2 : Int32) (a3 : Int32) (a4 : Int32) (m : Mm), TI pp ll ee rm_X8_people ss mm aa bb me co 6 cx 75 [(0, .ref (cx.2.2.1 + 1)), (1, .int a1), (2, .int a2), (3, .int a3), (5, .int a4)] [] m (F_X8_people_75  f a1 a2 a3 a4 m) := by
  intro f
  induction f with
  | zero => exact fun _ _ _ _ _ => T_none
  | succ f ih =>
    intro a1 a2 a3 a4 m
    unfold F_X8_people_75
    refine T_iload C.1 dX8_people_75 4 rfl ?_
    refine T_iload_n C.1 dX8_people_77 3 rfl ?_
    refine T_icmp_ge (tgt := 111) C.1 dX8_people_78 (by decide) ?_ ?_
    · refine T_iload C.1 dX8_people_111 4 rfl ?_
      exact T_iret C.1 C.2.1 C.2.2 dX8_people_113
    · refine T_aload_n C.1 dX8_people_81 0 rfl ?_
      refine T_getR (x := 2) C.1 fd_X8_10 (fun _ _ _ _ => rfl) sh1 le1 (fun _ h => h) rfl (by decide) dX8_people_82 ?_
      refine T_getI C.1 fd_X8_71 (fun _ _ _ _ => rfl) sh2 le2 dX8_people_85 ?_
      refine T_bipush C.1 dX8_people_88 rfl ?_
      refine T_icmp_ge (tgt := 111) C.1 dX8_people_90 (by decide) ?_ ?_
      · refine T_iload C.1 dX8_people_111 4 rfl ?_
        exact T_iret C.1 C.2.1 C.2.2 dX8_people_113
      · refine T_aload_n C.1 dX8_people_93 0 rfl ?_
        refine T_iload_n C.1 dX8_people_94 1 rfl ?_
        refine T_iload_n C.1 dX8_people_95 2 rfl ?_
        refine T_iload C.1 dX8_people_96 4 rfl ?_
        refine T_iadd C.1 dX8_people_98 ?_
        refine T_callVI (rm := rm_X8_welcomeFrom) [.int a1, .int (a2 + a4)] [] C.1 dX8_people_99 mw_X8_welcomeFrom wm_2_103 wm_2_105 wm_p_1 ⟨Nat.le_of_ble_eq_true rfl, Nat.le_of_ble_eq_true rfl⟩ ⟨rfl, rfl⟩ ⟨Nat.zero_le _, Nat.zero_le _⟩ rfl rfl (Nat.le_of_ble_eq_true rfl) sh1 le1 ⟨rfl, rfl⟩ (c_X8_welcomeFrom ll cx a1 (a2 + a4) m) (fun v1 m2 => ?_)
        refine T_if_eq (tgt := 111) C.1 dX8_people_102 (by decide) ?_ ?_
        · refine T_iload C.1 dX8_people_111 4 rfl ?_
          exact T_iret C.1 C.2.1 C.2.2 dX8_people_113
        · refine T_iincN C.1 (fun v3 => [(5, .int v3), (0, .ref (cx.2.2.1 + 1)), (1, .int a1), (2, .int a2), (3, .int a3)]) dX8_people_105 4 rfl (by decide) (fun _ => rfl) (fun v3 => ?_)
          refine T_goto (tgt := 75) C.1 dX8_people_108 (by decide) ?_
          exact T_sub [1, 2, 3, 4, 0] rfl (ih a1 a2 a3 v3 m2)
def F_X8_people  (x1 : Int32) (x2 : Int32) (x3 : Int32) (m : Mm) : Option (Int32 × Mm) :=
  bnd (F_X5_isShelf x1 m) fun v1 m2 =>
  (if v1 = iI 0 then
    some ((iI (-1)), m2)
  else
    (if x3 < (iI 1) then
      some ((iI (-1)), m2)
    else
      (if x3 ≤ (iI 7) then
        bnd (F_X5_refusalOfBytes x1 m2) fun v3 m4 =>
        (if v3 = (iI (-12)) then
          some ((iI (-12)), m4)
        else
          bnd (F_X2_hasBegun 23 m4) fun v5 m6 =>
          (if v5 = iI 0 then
            (if v3 = iI 0 then
              (if x2 < iI 0 then
                some ((iI 0), m6)
              else
                (if (iI 60) ≤ x2 then
                  some ((iI 0), m6)
                else
                  F_X8_people_75 FU x1 x2 x3 (iI 0) m6))
            else
              some ((iI 0), m6))
          else
            some ((iI (-5)), m6)))
      else
        some ((iI (-1)), m2))))
set_option maxRecDepth 100000 in
set_option maxHeartbeats 4000000 in
theorem c_X8_people (ll : Launch) (cx : CX) (x1 : Int32) (x2 : Int32) (x3 : Int32) (m : Mm) : MT ll yX8_people cX8_people 6 ((some .int)) rm_X8_people cx NN NN Lay cvI 0 0 [.ref (cx.2.2.1 + 1), .int x1, .int x2, .int x3] m (F_X8_people x1 x2 x3 m) := by
  refine MT_of (by decide) (Nat.le_of_ble_eq_true rfl) ?_
  intro pp ee ss mm aa bb me co hK hr hk hn
  have C : CM pp ss mm aa me co cX8_people 6 RX8 cx ((some .int)) := ⟨hK, hr, hk⟩
  show TI pp ll ee rm_X8_people ss mm aa bb me co 6 cx 0 [(0, .ref (cx.2.2.1 + 1)), (1, .int x1), (2, .int x2), (3, .int x3)] [] m (F_X8_people x1 x2 x3 m)
  unfold F_X8_people
  refine T_aload_n C.1 dX8_people_0 0 rfl ?_
  refine T_getR (x := 103) C.1 fd_X8_59 (fun _ _ _ _ => rfl) sh1 le1 (fun _ h => h) rfl (by decide) dX8_people_1 ?_
  refine T_iload_n C.1 dX8_people_4 1 rfl ?_
  refine T_callVI (rm := rm_X5_isShelf) [.int x1] [] C.1 dX8_people_5 mw_X5_isShelf wm_2_90 wm_2_91 wm_2_92 ⟨Nat.le_of_ble_eq_true rfl, Nat.le_of_ble_eq_true rfl⟩ ⟨rfl, rfl⟩ ⟨Nat.zero_le _, Nat.zero_le _⟩ rfl rfl (Nat.le_of_ble_eq_true rfl) sh103 le103 ⟨rfl, rfl⟩ (c_X5_isShelf ll cx x1 m) (fun v1 m2 => ?_)
  refine T_if_eq (tgt := 22) C.1 dX8_people_8 (by decide) ?_ ?_
  · refine T_iconst C.1 dX8_people_22 ?_
    exact T_iret C.1 C.2.1 C.2.2 dX8_people_23
  · refine T_iload_n C.1 dX8_people_11 3 rfl ?_
    refine T_iconst C.1 dX8_people_12 ?_
    refine T_icmp_lt (tgt := 22) C.1 dX8_people_13 (by decide) ?_ ?_
    · refine T_iconst C.1 dX8_people_22 ?_
      exact T_iret C.1 C.2.1 C.2.2 dX8_people_23
    · refine T_iload_n C.1 dX8_people_16 3 rfl ?_
      refine T_bipush C.1 dX8_people_17 rfl ?_
      refine T_icmp_le (tgt := 24) C.1 dX8_people_19 (by decide) ?_ ?_
      · refine T_aload_n C.1 dX8_people_24 0 rfl ?_
        refine T_getR (x := 103) C.1 fd_X8_59 (fun _ _ _ _ => rfl) sh1 le1 (fun _ h => h) rfl (by decide) dX8_people_25 ?_
        refine T_iload_n C.1 dX8_people_28 1 rfl ?_
        refine T_callVI (rm := rm_X5_refusalOfBytes) [.int x1] [] C.1 dX8_people_29 mw_X5_refusalOfBytes wm_2_94 wm_2_95 wm_2_96 ⟨Nat.le_of_ble_eq_true rfl, Nat.le_of_ble_eq_true rfl⟩ ⟨rfl, rfl⟩ ⟨Nat.zero_le _, Nat.zero_le _⟩ rfl rfl (Nat.le_of_ble_eq_true rfl) sh103 le103 ⟨rfl, rfl⟩ (c_X5_refusalOfBytes ll cx x1 m2) (fun v3 m4 => ?_)
        refine T_istore (lv' := [(4, .int v3), (0, .ref (cx.2.2.1 + 1)), (1, .int x1), (2, .int x2), (3, .int x3)]) C.1 dX8_people_32 (by decide) rfl ?_
        refine T_iload C.1 dX8_people_34 0 rfl ?_
        refine T_bipush C.1 dX8_people_36 rfl ?_
        refine T_icmp_ne (tgt := 44) C.1 dX8_people_38 (by decide) ?_ ?_
        · refine T_aload_n C.1 dX8_people_44 1 rfl ?_
          refine T_getR (x := 23) C.1 fd_X8_33 (fun _ _ _ _ => rfl) sh1 le1 (fun _ h => h) rfl (by decide) dX8_people_45 ?_
          refine T_callVI (rm := rm_X2_hasBegun) [] [] C.1 dX8_people_48 mw_X2_hasBegun wm_2_78 wm_2_79 wm_2_80 ⟨Nat.le_of_ble_eq_true rfl, Nat.le_of_ble_eq_true rfl⟩ ⟨rfl, rfl⟩ ⟨Nat.zero_le _, Nat.zero_le _⟩ rfl rfl (Nat.le_of_ble_eq_true rfl) sh23 le23 ⟨rfl, rfl⟩ (c_X2_hasBegun ll cx 23 m4) (fun v5 m6 => ?_)
          refine T_if_eq (tgt := 57) C.1 dX8_people_51 (by decide) ?_ ?_
          · refine T_iconst C.1 dX8_people_57 ?_
            refine T_istore (lv' := [(5, .int (iI 0)), (4, .int v3), (0, .ref (cx.2.2.1 + 1)), (1, .int x1), (2, .int x2), (3, .int x3)]) C.1 dX8_people_58 (by decide) rfl ?_
            refine T_iload C.1 dX8_people_60 1 rfl ?_
            refine T_if_ne (tgt := 111) C.1 dX8_people_62 (by decide) ?_ ?_
            · refine T_iload C.1 dX8_people_111 0 rfl ?_
              exact T_iret C.1 C.2.1 C.2.2 dX8_people_113
            · refine T_iload_n C.1 dX8_people_65 4 rfl ?_
              refine T_if_lt (tgt := 111) C.1 dX8_people_66 (by decide) ?_ ?_
              · refine T_iload C.1 dX8_people_111 0 rfl ?_
                exact T_iret C.1 C.2.1 C.2.2 dX8_people_113
              · refine T_iload_n C.1 dX8_people_69 4 rfl ?_
                refine T_bipush C.1 dX8_people_70 rfl ?_
                refine T_icmp_ge (tgt := 111) C.1 dX8_people_72 (by decide) ?_ ?_
                · refine T_iload C.1 dX8_people_111 0 rfl ?_
                  exact T_iret C.1 C.2.1 C.2.2 dX8_people_113
                · exact T_sub [2, 3, 4, 5, 0] rfl (t_X8_people_75 C FU x1 x2 x3 (iI 0) m6)
          · refine T_bipush C.1 dX8_people_54 rfl ?_
            exact T_iret C.1 C.2.1 C.2.2 dX8_people_56
        · refine T_bipush C.1 dX8_people_41 rfl ?_
          exact T_iret C.1 C.2.1 C.2.2 dX8_people_43
      · refine T_iconst C.1 dX8_people_22 ?_
        exact T_iret C.1 C.2.1 C.2.2 dX8_people_23
def rm_X8_mend : Room := { frames := 5, cells := 0, slots := 0, locals := 127 }
def F_X8_mend  (x1 : Int32) (x2 : Int32) (x3 : Int32) (m : Mm) : Option (Int32 × Mm) :=
  bnd (F_X4_knows x1 x2 m) fun v1 m2 =>
  (if v1 = iI 0 then
    some ((iI (-1)), m2)
  else
    bnd (F_X4_allows x2 x3 m2) fun v3 m4 =>
    (if v3 = iI 0 then
      some ((iI (-1)), m4)
    else
      bnd (F_X4_value x1 x2 m4) fun v5 m6 =>
      bnd (F_X1_note x1 x2 v5 x3 m6) fun _ m8 =>
      bnd (F_X4_become x1 x2 x3 m8) fun _ m10 =>
      some (v5, m10)))
set_option maxRecDepth 100000 in
set_option maxHeartbeats 4000000 in
theorem c_X8_mend (ll : Launch) (cx : CX) (x1 : Int32) (x2 : Int32) (x3 : Int32) (m : Mm) : MT ll yX8_mend cX8_mend 5 ((some .int)) rm_X8_mend cx NN NN Lay cvI 0 0 [.ref (cx.2.2.1 + 1), .int x1, .int x2, .int x3] m (F_X8_mend x1 x2 x3 m) := by
  refine MT_of (by decide) (Nat.le_of_ble_eq_true rfl) ?_
  intro pp ee ss mm aa bb me co hK hr hk hn
  have C : CM pp ss mm aa me co cX8_mend 5 RX8 cx ((some .int)) := ⟨hK, hr, hk⟩
  show TI pp ll ee rm_X8_mend ss mm aa bb me co 5 cx 0 [(0, .ref (cx.2.2.1 + 1)), (1, .int x1), (2, .int x2), (3, .int x3)] [] m (F_X8_mend x1 x2 x3 m)
  unfold F_X8_mend
  refine T_aload_n C.1 dX8_mend_0 0 rfl ?_
  refine T_getR (x := 2) C.1 fd_X8_10 (fun _ _ _ _ => rfl) sh1 le1 (fun _ h => h) rfl (by decide) dX8_mend_1 ?_
  refine T_iload_n C.1 dX8_mend_4 1 rfl ?_
  refine T_iload_n C.1 dX8_mend_5 2 rfl ?_
  refine T_callVI (rm := rm_X4_knows) [.int x1, .int x2] [] C.1 dX8_mend_6 mw_X4_knows wm_2_119 wm_2_120 wm_2_121 ⟨Nat.le_of_ble_eq_true rfl, Nat.le_of_ble_eq_true rfl⟩ ⟨rfl, rfl⟩ ⟨Nat.zero_le _, Nat.zero_le _⟩ rfl rfl (Nat.le_of_ble_eq_true rfl) sh2 le2 ⟨rfl, rfl⟩ (c_X4_knows ll cx x1 x2 m) (fun v1 m2 => ?_)
  refine T_if_eq (tgt := 20) C.1 dX8_mend_9 (by decide) ?_ ?_
  · refine T_iconst C.1 dX8_mend_20 ?_
    exact T_iret C.1 C.2.1 C.2.2 dX8_mend_21
  · refine T_iload_n C.1 dX8_mend_12 2 rfl ?_
    refine T_iload_n C.1 dX8_mend_13 3 rfl ?_
    refine T_callSI (rm := rm_X4_allows) [.int x2, .int x3] [] C.1 dX8_mend_14 mw_X4_allows wm_2_131 wm_2_132 ⟨Nat.le_of_ble_eq_true rfl, Nat.le_of_ble_eq_true rfl⟩ ⟨rfl, rfl⟩ ⟨Nat.zero_le _, Nat.zero_le _⟩ rfl rfl (Nat.le_of_ble_eq_true rfl) (c_X4_allows ll cx x2 x3 m2) (fun v3 m4 => ?_)
    refine T_if_ne (tgt := 22) C.1 dX8_mend_17 (by decide) ?_ ?_
    · refine T_aload_n C.1 dX8_mend_22 0 rfl ?_
      refine T_getR (x := 2) C.1 fd_X8_10 (fun _ _ _ _ => rfl) sh1 le1 (fun _ h => h) rfl (by decide) dX8_mend_23 ?_
      refine T_iload_n C.1 dX8_mend_26 1 rfl ?_
      refine T_iload_n C.1 dX8_mend_27 2 rfl ?_
      refine T_callVI (rm := rm_X4_value) [.int x1, .int x2] [] C.1 dX8_mend_28 mw_X4_value wm_2_134 wm_2_135 wm_2_136 ⟨Nat.le_of_ble_eq_true rfl, Nat.le_of_ble_eq_true rfl⟩ ⟨rfl, rfl⟩ ⟨Nat.zero_le _, Nat.zero_le _⟩ rfl rfl (Nat.le_of_ble_eq_true rfl) sh2 le2 ⟨rfl, rfl⟩ (c_X4_value ll cx x1 x2 m4) (fun v5 m6 => ?_)
      refine T_istore (lv' := [(4, .int v5), (0, .ref (cx.2.2.1 + 1)), (1, .int x1), (2, .int x2), (3, .int x3)]) C.1 dX8_mend_31 (by decide) rfl ?_
      refine T_aload_n C.1 dX8_mend_33 1 rfl ?_
      refine T_getR (x := 11) C.1 fd_X8_19 (fun _ _ _ _ => rfl) sh1 le1 (fun _ h => h) rfl (by decide) dX8_mend_34 ?_
      refine T_iload_n C.1 dX8_mend_37 2 rfl ?_
      refine T_iload_n C.1 dX8_mend_38 3 rfl ?_
      refine T_iload C.1 dX8_mend_39 0 rfl ?_
      refine T_iload_n C.1 dX8_mend_41 4 rfl ?_
      refine T_callVV (rm := rm_X1_note) [.int x1, .int x2, .int v5, .int x3] [] C.1 dX8_mend_42 mw_X1_note wm_2_139 wm_2_140 wm_2_141 ⟨Nat.le_of_ble_eq_true rfl, Nat.le_of_ble_eq_true rfl⟩ ⟨rfl, rfl⟩ ⟨Nat.zero_le _, Nat.zero_le _⟩ rfl rfl (Nat.le_of_ble_eq_true rfl) sh11 le11 ⟨rfl, rfl⟩ (c_X1_note ll cx x1 x2 v5 x3 m6) (fun u7 m8 => ?_)
      refine T_aload_n C.1 dX8_mend_45 1 rfl ?_
      refine T_getR (x := 2) C.1 fd_X8_10 (fun _ _ _ _ => rfl) sh1 le1 (fun _ h => h) rfl (by decide) dX8_mend_46 ?_
      refine T_iload_n C.1 dX8_mend_49 2 rfl ?_
      refine T_iload_n C.1 dX8_mend_50 3 rfl ?_
      refine T_iload_n C.1 dX8_mend_51 4 rfl ?_
      refine T_callVV (rm := rm_X4_become) [.int x1, .int x2, .int x3] [] C.1 dX8_mend_52 mw_X4_become wm_2_150 wm_2_151 wm_2_152 ⟨Nat.le_of_ble_eq_true rfl, Nat.le_of_ble_eq_true rfl⟩ ⟨rfl, rfl⟩ ⟨Nat.zero_le _, Nat.zero_le _⟩ rfl rfl (Nat.le_of_ble_eq_true rfl) sh2 le2 ⟨rfl, rfl⟩ (c_X4_become ll cx x1 x2 x3 m8) (fun u9 m10 => ?_)
      refine T_iload C.1 dX8_mend_55 0 rfl ?_
      exact T_iret C.1 C.2.1 C.2.2 dX8_mend_57
    · refine T_iconst C.1 dX8_mend_20 ?_
      exact T_iret C.1 C.2.1 C.2.2 dX8_mend_21
def rm_X8_of : Room := { frames := 5, cells := 0, slots := 0, locals := 126 }
def F_X8_of_35  (a1 : Int32) (a2 : Int32) (m : Mm) : Option (Int32 × Mm) :=
  bnd (F_X4_isOne a1 m) fun v1 m2 =>
  (if v1 = iI 0 then
    some ((iI (-1)), m2)
  else
    tsw a2 (10) [(rd 7 a1 fun j3 =>
    some ((gI m2 24 j3), m2)),
     (rd 7 a1 fun j4 =>
    (if iI 0 ≤ (gI m2 25 j4) then
      rd 7 a1 fun j5 =>
      some ((gI m2 25 j5), m2)
    else
      some ((iI (-2)), m2))),
     (rd 7 a1 fun j6 =>
    some ((gI m2 27 j6), m2)),
     ((if a1 < (gI m2 23 4) then
      some ((iI 0), m2)
    else
      some ((iI 1), m2)))] (some ((iI (-1)), m2)))
set_option maxRecDepth 100000 in
set_option maxHeartbeats 4000000 in
theorem t_X8_of_35 {pp : Program} {ll : Launch} {ee : Env} {ss : State} {mm : MethodId} {aa : Array Value} {bb : List Frame} {me : Method} {co : Code} {cx : CX}     (C : CM pp ss mm aa me co cX8_of 3 RX8 cx ((some .int)))    (a1 : Int32) (a2 : Int32) (m : Mm) : TI pp ll ee rm_X8_of ss mm aa bb me co 3 cx 35 [(0, .ref (cx.2.2.1 + 1)), (1, .int a1), (2, .int a2)] [] m (F_X8_of_35  a1 a2 m) := by
  unfold F_X8_of_35
  refine T_aload_n C.1 dX8_of_35 0 rfl ?_
  refine T_getR (x := 2) C.1 fd_X8_10 (fun _ _ _ _ => rfl) sh1 le1 (fun _ h => h) rfl (by decide) dX8_of_36 ?_
  refine T_iload_n C.1 dX8_of_39 1 rfl ?_
  refine T_callVI (rm := rm_X4_isOne) [.int a1] [] C.1 dX8_of_40 mw_X4_isOne wm_2_158 wm_2_128 wm_2_129 ⟨Nat.le_of_ble_eq_true rfl, Nat.le_of_ble_eq_true rfl⟩ ⟨rfl, rfl⟩ ⟨Nat.zero_le _, Nat.zero_le _⟩ rfl rfl (Nat.le_of_ble_eq_true rfl) sh2 le2 ⟨rfl, rfl⟩ (c_X4_isOne ll cx a1 m) (fun v1 m2 => ?_)
  refine T_if_ne (tgt := 48) C.1 dX8_of_43 (by decide) ?_ ?_
  · refine T_iload_n C.1 dX8_of_48 2 rfl ?_
    refine T_tsw (lo := (10)) (os := [31, 41, 68, 78]) C.1 dX8_of_49 rfl (by decide) (tgd := 144) (by decide) ⟨⟨80, by decide, ?_⟩, ⟨90, by decide, ?_⟩, ⟨117, by decide, ?_⟩, ⟨127, by decide, ?_⟩, trivial⟩ ?_
    · show TI pp ll ee rm_X8_of ss mm aa bb me co 3 cx _ _ _ _ _
      refine T_aload_n C.1 dX8_of_80 0 rfl ?_
      refine T_getR (x := 23) C.1 fd_X8_33 (fun _ _ _ _ => rfl) sh1 le1 (fun _ h => h) rfl (by decide) dX8_of_81 ?_
      refine T_getR (x := 24) C.1 fd_X8_110 (fun _ _ _ _ => rfl) sh23 le23 (fun _ h => h) rfl (by decide) dX8_of_84 ?_
      refine T_iload_n C.1 dX8_of_87 1 rfl ?_
      refine T_iald C.1 dX8_of_88 sh24 le24 (fun j3 => ?_)
      exact T_iret C.1 C.2.1 C.2.2 dX8_of_89
    · show TI pp ll ee rm_X8_of ss mm aa bb me co 3 cx _ _ _ _ _
      refine T_aload_n C.1 dX8_of_90 0 rfl ?_
      refine T_getR (x := 23) C.1 fd_X8_33 (fun _ _ _ _ => rfl) sh1 le1 (fun _ h => h) rfl (by decide) dX8_of_91 ?_
      refine T_getR (x := 25) C.1 fd_X8_114 (fun _ _ _ _ => rfl) sh23 le23 (fun _ h => h) rfl (by decide) dX8_of_94 ?_
      refine T_iload_n C.1 dX8_of_97 1 rfl ?_
      refine T_iald C.1 dX8_of_98 sh25 le25 (fun j4 => ?_)
      refine T_if_ge (tgt := 107) C.1 dX8_of_99 (by decide) ?_ ?_
      · refine T_aload_n C.1 dX8_of_107 0 rfl ?_
        refine T_getR (x := 23) C.1 fd_X8_33 (fun _ _ _ _ => rfl) sh1 le1 (fun _ h => h) rfl (by decide) dX8_of_108 ?_
        refine T_getR (x := 25) C.1 fd_X8_114 (fun _ _ _ _ => rfl) sh23 le23 (fun _ h => h) rfl (by decide) dX8_of_111 ?_
        refine T_iload_n C.1 dX8_of_114 1 rfl ?_
        refine T_iald C.1 dX8_of_115 sh25 le25 (fun j5 => ?_)
        exact T_iret C.1 C.2.1 C.2.2 dX8_of_116
      · refine T_bipush C.1 dX8_of_102 rfl ?_
        refine T_goto (tgt := 116) C.1 dX8_of_104 (by decide) ?_
        exact T_iret C.1 C.2.1 C.2.2 dX8_of_116
    · show TI pp ll ee rm_X8_of ss mm aa bb me co 3 cx _ _ _ _ _
      refine T_aload_n C.1 dX8_of_117 0 rfl ?_
      refine T_getR (x := 23) C.1 fd_X8_33 (fun _ _ _ _ => rfl) sh1 le1 (fun _ h => h) rfl (by decide) dX8_of_118 ?_
      refine T_getR (x := 27) C.1 fd_X8_117 (fun _ _ _ _ => rfl) sh23 le23 (fun _ h => h) rfl (by decide) dX8_of_121 ?_
      refine T_iload_n C.1 dX8_of_124 1 rfl ?_
      refine T_iald C.1 dX8_of_125 sh27 le27 (fun j6 => ?_)
      exact T_iret C.1 C.2.1 C.2.2 dX8_of_126
    · show TI pp ll ee rm_X8_of ss mm aa bb me co 3 cx _ _ _ _ _
      refine T_iload_n C.1 dX8_of_127 1 rfl ?_
      refine T_aload_n C.1 dX8_of_128 0 rfl ?_
      refine T_getR (x := 23) C.1 fd_X8_33 (fun _ _ _ _ => rfl) sh1 le1 (fun _ h => h) rfl (by decide) dX8_of_129 ?_
      refine T_getI C.1 fd_X8_120 (fun _ _ _ _ => rfl) sh23 le23 dX8_of_132 ?_
      refine T_icmp_lt (tgt := 142) C.1 dX8_of_135 (by decide) ?_ ?_
      · refine T_iconst C.1 dX8_of_142 ?_
        exact T_iret C.1 C.2.1 C.2.2 dX8_of_143
      · refine T_iconst C.1 dX8_of_138 ?_
        refine T_goto (tgt := 143) C.1 dX8_of_139 (by decide) ?_
        exact T_iret C.1 C.2.1 C.2.2 dX8_of_143
    · show TI pp ll ee rm_X8_of ss mm aa bb me co 3 cx _ _ _ _ _
      refine T_iconst C.1 dX8_of_144 ?_
      exact T_iret C.1 C.2.1 C.2.2 dX8_of_145
  · refine T_iconst C.1 dX8_of_46 ?_
    exact T_iret C.1 C.2.1 C.2.2 dX8_of_47
def F_X8_of  (x1 : Int32) (x2 : Int32) (m : Mm) : Option (Int32 × Mm) :=
  (if x2 < iI 0 then
    F_X8_of_35 x1 x2 m
  else
    (if (iI 4) < x2 then
      F_X8_of_35 x1 x2 m
    else
      bnd (F_X4_knows x1 x2 m) fun v1 m2 =>
      (if v1 = iI 0 then
        some ((iI (-1)), m2)
      else
        bnd (F_X4_value x1 x2 m2) fun v3 m4 =>
        some (v3, m4))))
set_option maxRecDepth 100000 in
set_option maxHeartbeats 4000000 in
theorem c_X8_of (ll : Launch) (cx : CX) (x1 : Int32) (x2 : Int32) (m : Mm) : MT ll yX8_of cX8_of 3 ((some .int)) rm_X8_of cx NN NN Lay cvI 0 0 [.ref (cx.2.2.1 + 1), .int x1, .int x2] m (F_X8_of x1 x2 m) := by
  refine MT_of (by decide) (Nat.le_of_ble_eq_true rfl) ?_
  intro pp ee ss mm aa bb me co hK hr hk hn
  have C : CM pp ss mm aa me co cX8_of 3 RX8 cx ((some .int)) := ⟨hK, hr, hk⟩
  show TI pp ll ee rm_X8_of ss mm aa bb me co 3 cx 0 [(0, .ref (cx.2.2.1 + 1)), (1, .int x1), (2, .int x2)] [] m (F_X8_of x1 x2 m)
  unfold F_X8_of
  refine T_iload_n C.1 dX8_of_0 2 rfl ?_
  refine T_if_lt (tgt := 35) C.1 dX8_of_1 (by decide) ?_ ?_
  · exact T_sub [0, 1, 2] rfl (t_X8_of_35 C x1 x2 m)
  · refine T_iload_n C.1 dX8_of_4 2 rfl ?_
    refine T_iconst C.1 dX8_of_5 ?_
    refine T_icmp_gt (tgt := 35) C.1 dX8_of_6 (by decide) ?_ ?_
    · exact T_sub [0, 1, 2] rfl (t_X8_of_35 C x1 x2 m)
    · refine T_aload_n C.1 dX8_of_9 0 rfl ?_
      refine T_getR (x := 2) C.1 fd_X8_10 (fun _ _ _ _ => rfl) sh1 le1 (fun _ h => h) rfl (by decide) dX8_of_10 ?_
      refine T_iload_n C.1 dX8_of_13 1 rfl ?_
      refine T_iload_n C.1 dX8_of_14 2 rfl ?_
      refine T_callVI (rm := rm_X4_knows) [.int x1, .int x2] [] C.1 dX8_of_15 mw_X4_knows wm_2_119 wm_2_120 wm_2_121 ⟨Nat.le_of_ble_eq_true rfl, Nat.le_of_ble_eq_true rfl⟩ ⟨rfl, rfl⟩ ⟨Nat.zero_le _, Nat.zero_le _⟩ rfl rfl (Nat.le_of_ble_eq_true rfl) sh2 le2 ⟨rfl, rfl⟩ (c_X4_knows ll cx x1 x2 m) (fun v1 m2 => ?_)
      refine T_if_eq (tgt := 33) C.1 dX8_of_18 (by decide) ?_ ?_
      · refine T_iconst C.1 dX8_of_33 ?_
        exact T_iret C.1 C.2.1 C.2.2 dX8_of_34
      · refine T_aload_n C.1 dX8_of_21 0 rfl ?_
        refine T_getR (x := 2) C.1 fd_X8_10 (fun _ _ _ _ => rfl) sh1 le1 (fun _ h => h) rfl (by decide) dX8_of_22 ?_
        refine T_iload_n C.1 dX8_of_25 1 rfl ?_
        refine T_iload_n C.1 dX8_of_26 2 rfl ?_
        refine T_callVI (rm := rm_X4_value) [.int x1, .int x2] [] C.1 dX8_of_27 mw_X4_value wm_2_134 wm_2_135 wm_2_136 ⟨Nat.le_of_ble_eq_true rfl, Nat.le_of_ble_eq_true rfl⟩ ⟨rfl, rfl⟩ ⟨Nat.zero_le _, Nat.zero_le _⟩ rfl rfl (Nat.le_of_ble_eq_true rfl) sh2 le2 ⟨rfl, rfl⟩ (c_X4_value ll cx x1 x2 m2) (fun v3 m4 => ?_)
        refine T_goto (tgt := 34) C.1 dX8_of_30 (by decide) ?_
        exact T_iret C.1 C.2.1 C.2.2 dX8_of_34
def rm_X8_swap : Room := { frames := 3, cells := 0, slots := 0, locals := 82 }
def F_X8_swap  (x1 : Int32) (m : Mm) : Option (Int32 × Mm) :=
  bnd (F_X4_isPair x1 m) fun v1 m2 =>
  (if v1 = iI 0 then
    some ((iI (-1)), m2)
  else
    dvI x1 (iI 10) fun v3 =>
    rmI x1 (iI 10) fun v4 =>
    (if v3 = v4 then
      some ((iI (-1)), m2)
    else
      bnd (F_X2_hasBegun 23 m2) fun v5 m6 =>
      (if v5 = iI 0 then
        dvI x1 (iI 10) fun v7 =>
        rmI x1 (iI 10) fun v8 =>
        bnd (F_X2_changePlaces 23 v7 v8 m6) fun _ m10 =>
        dvI x1 (iI 10) fun v11 =>
        rd 7 v11 fun j12 =>
        some ((gI m10 24 j12), m10)
      else
        some ((iI (-5)), m6))))
set_option maxRecDepth 100000 in
set_option maxHeartbeats 4000000 in
theorem c_X8_swap (ll : Launch) (cx : CX) (x1 : Int32) (m : Mm) : MT ll yX8_swap cX8_swap 2 ((some .int)) rm_X8_swap cx NN NN Lay cvI 0 0 [.ref (cx.2.2.1 + 1), .int x1] m (F_X8_swap x1 m) := by
  refine MT_of (by decide) (Nat.le_of_ble_eq_true rfl) ?_
  intro pp ee ss mm aa bb me co hK hr hk hn
  have C : CM pp ss mm aa me co cX8_swap 2 RX8 cx ((some .int)) := ⟨hK, hr, hk⟩
  show TI pp ll ee rm_X8_swap ss mm aa bb me co 2 cx 0 [(0, .ref (cx.2.2.1 + 1)), (1, .int x1)] [] m (F_X8_swap x1 m)
  unfold F_X8_swap
  refine T_aload_n C.1 dX8_swap_0 0 rfl ?_
  refine T_getR (x := 2) C.1 fd_X8_10 (fun _ _ _ _ => rfl) sh1 le1 (fun _ h => h) rfl (by decide) dX8_swap_1 ?_
  refine T_iload_n C.1 dX8_swap_4 1 rfl ?_
  refine T_callVI (rm := rm_X4_isPair) [.int x1] [] C.1 dX8_swap_5 mw_X4_isPair wm_2_163 wm_2_124 wm_2_125 ⟨Nat.le_of_ble_eq_true rfl, Nat.le_of_ble_eq_true rfl⟩ ⟨rfl, rfl⟩ ⟨Nat.zero_le _, Nat.zero_le _⟩ rfl rfl (Nat.le_of_ble_eq_true rfl) sh2 le2 ⟨rfl, rfl⟩ (c_X4_isPair ll cx x1 m) (fun v1 m2 => ?_)
  refine T_if_eq (tgt := 22) C.1 dX8_swap_8 (by decide) ?_ ?_
  · refine T_iconst C.1 dX8_swap_22 ?_
    exact T_iret C.1 C.2.1 C.2.2 dX8_swap_23
  · refine T_iload_n C.1 dX8_swap_11 1 rfl ?_
    refine T_bipush C.1 dX8_swap_12 rfl ?_
    refine T_idiv C.1 dX8_swap_14 (fun v3 => ?_)
    refine T_iload_n C.1 dX8_swap_15 1 rfl ?_
    refine T_bipush C.1 dX8_swap_16 rfl ?_
    refine T_irem C.1 dX8_swap_18 (fun v4 => ?_)
    refine T_icmp_ne (tgt := 24) C.1 dX8_swap_19 (by decide) ?_ ?_
    · refine T_aload_n C.1 dX8_swap_24 0 rfl ?_
      refine T_getR (x := 23) C.1 fd_X8_33 (fun _ _ _ _ => rfl) sh1 le1 (fun _ h => h) rfl (by decide) dX8_swap_25 ?_
      refine T_callVI (rm := rm_X2_hasBegun) [] [] C.1 dX8_swap_28 mw_X2_hasBegun wm_2_78 wm_2_79 wm_2_80 ⟨Nat.le_of_ble_eq_true rfl, Nat.le_of_ble_eq_true rfl⟩ ⟨rfl, rfl⟩ ⟨Nat.zero_le _, Nat.zero_le _⟩ rfl rfl (Nat.le_of_ble_eq_true rfl) sh23 le23 ⟨rfl, rfl⟩ (c_X2_hasBegun ll cx 23 m2) (fun v5 m6 => ?_)
      refine T_if_eq (tgt := 37) C.1 dX8_swap_31 (by decide) ?_ ?_
      · refine T_aload_n C.1 dX8_swap_37 0 rfl ?_
        refine T_getR (x := 23) C.1 fd_X8_33 (fun _ _ _ _ => rfl) sh1 le1 (fun _ h => h) rfl (by decide) dX8_swap_38 ?_
        refine T_iload_n C.1 dX8_swap_41 1 rfl ?_
        refine T_bipush C.1 dX8_swap_42 rfl ?_
        refine T_idiv C.1 dX8_swap_44 (fun v7 => ?_)
        refine T_iload_n C.1 dX8_swap_45 1 rfl ?_
        refine T_bipush C.1 dX8_swap_46 rfl ?_
        refine T_irem C.1 dX8_swap_48 (fun v8 => ?_)
        refine T_callVV (rm := rm_X2_changePlaces) [.int v7, .int v8] [] C.1 dX8_swap_49 mw_X2_changePlaces wm_2_164 wm_2_165 wm_2_166 ⟨Nat.le_of_ble_eq_true rfl, Nat.le_of_ble_eq_true rfl⟩ ⟨rfl, rfl⟩ ⟨Nat.zero_le _, Nat.zero_le _⟩ rfl rfl (Nat.le_of_ble_eq_true rfl) sh23 le23 ⟨rfl, rfl⟩ (c_X2_changePlaces ll cx 23 v7 v8 m6) (fun u9 m10 => ?_)
        refine T_aload_n C.1 dX8_swap_52 0 rfl ?_
        refine T_getR (x := 23) C.1 fd_X8_33 (fun _ _ _ _ => rfl) sh1 le1 (fun _ h => h) rfl (by decide) dX8_swap_53 ?_
        refine T_getR (x := 24) C.1 fd_X8_110 (fun _ _ _ _ => rfl) sh23 le23 (fun _ h => h) rfl (by decide) dX8_swap_56 ?_
        refine T_iload_n C.1 dX8_swap_59 1 rfl ?_
        refine T_bipush C.1 dX8_swap_60 rfl ?_
        refine T_idiv C.1 dX8_swap_62 (fun v11 => ?_)
        refine T_iald C.1 dX8_swap_63 sh24 le24 (fun j12 => ?_)
        exact T_iret C.1 C.2.1 C.2.2 dX8_swap_64
      · refine T_bipush C.1 dX8_swap_34 rfl ?_
        exact T_iret C.1 C.2.1 C.2.2 dX8_swap_36
    · refine T_iconst C.1 dX8_swap_22 ?_
      exact T_iret C.1 C.2.1 C.2.2 dX8_swap_23
def rm_X8_feed : Room := { frames := 2, cells := 0, slots := 0, locals := 61 }
def F_X8_feed  (x1 : Int32) (m : Mm) : Option (Int32 × Mm) :=
  (if x1 < iI 0 then
    some ((iI (-1)), m)
  else
    (if x1 ≤ (iI 255) then
      bnd (F_X6_append x1 m) fun v1 m2 =>
      (if v1 = iI 0 then
        some ((iI (-3)), m2)
      else
        some ((gI m2 16 1), m2))
    else
      some ((iI (-1)), m)))
set_option maxRecDepth 100000 in
set_option maxHeartbeats 4000000 in
theorem c_X8_feed (ll : Launch) (cx : CX) (x1 : Int32) (m : Mm) : MT ll yX8_feed cX8_feed 2 ((some .int)) rm_X8_feed cx NN NN Lay cvI 0 0 [.ref (cx.2.2.1 + 1), .int x1] m (F_X8_feed x1 m) := by
  refine MT_of (by decide) (Nat.le_of_ble_eq_true rfl) ?_
  intro pp ee ss mm aa bb me co hK hr hk hn
  have C : CM pp ss mm aa me co cX8_feed 2 RX8 cx ((some .int)) := ⟨hK, hr, hk⟩
  show TI pp ll ee rm_X8_feed ss mm aa bb me co 2 cx 0 [(0, .ref (cx.2.2.1 + 1)), (1, .int x1)] [] m (F_X8_feed x1 m)
  unfold F_X8_feed
  refine T_iload_n C.1 dX8_feed_0 1 rfl ?_
  refine T_if_lt (tgt := 11) C.1 dX8_feed_1 (by decide) ?_ ?_
  · refine T_iconst C.1 dX8_feed_11 ?_
    exact T_iret C.1 C.2.1 C.2.2 dX8_feed_12
  · refine T_iload_n C.1 dX8_feed_4 1 rfl ?_
    refine T_sipush C.1 dX8_feed_5 rfl ?_
    refine T_icmp_le (tgt := 13) C.1 dX8_feed_8 (by decide) ?_ ?_
    · refine T_aload_n C.1 dX8_feed_13 0 rfl ?_
      refine T_getR (x := 16) C.1 fd_X8_26 (fun _ _ _ _ => rfl) sh1 le1 (fun _ h => h) rfl (by decide) dX8_feed_14 ?_
      refine T_iload_n C.1 dX8_feed_17 1 rfl ?_
      refine T_callVI (rm := rm_X6_append) [.int x1] [] C.1 dX8_feed_18 mw_X6_append wm_2_172 wm_2_173 wm_2_174 ⟨Nat.le_of_ble_eq_true rfl, Nat.le_of_ble_eq_true rfl⟩ ⟨rfl, rfl⟩ ⟨Nat.zero_le _, Nat.zero_le _⟩ rfl rfl (Nat.le_of_ble_eq_true rfl) sh16 le16 ⟨rfl, rfl⟩ (c_X6_append ll cx x1 m) (fun v1 m2 => ?_)
      refine T_if_eq (tgt := 34) C.1 dX8_feed_21 (by decide) ?_ ?_
      · refine T_bipush C.1 dX8_feed_34 rfl ?_
        exact T_iret C.1 C.2.1 C.2.2 dX8_feed_36
      · refine T_aload_n C.1 dX8_feed_24 0 rfl ?_
        refine T_getR (x := 16) C.1 fd_X8_26 (fun _ _ _ _ => rfl) sh1 le1 (fun _ h => h) rfl (by decide) dX8_feed_25 ?_
        refine T_getI C.1 fd_X8_133 (fun _ _ _ _ => rfl) sh16 le16 dX8_feed_28 ?_
        refine T_goto (tgt := 36) C.1 dX8_feed_31 (by decide) ?_
        exact T_iret C.1 C.2.1 C.2.2 dX8_feed_36
    · refine T_iconst C.1 dX8_feed_11 ?_
      exact T_iret C.1 C.2.1 C.2.2 dX8_feed_12
def rm_X8_law : Room := { frames := 906, cells := 0, slots := 0, locals := 20847 }
def F_X8_law   (m : Mm) : Option (Int32 × Mm) :=
  bnd (F_X6_read m) fun v1 m2 =>
  (if v1 = (iI (-1)) then
    gdS (9, 3) (gR m2 2 6) fun q3 =>
    bnd (F_X6_draftFor q3 m2) fun q4 m5 =>
    gdS (9, 3) q4 fun q4 =>
    nm (pR m5 2 6 q4) fun m6 =>
    some ((iI 1), m6)
  else
    some (((iI (-100)) - v1), m2))
set_option maxRecDepth 100000 in
set_option maxHeartbeats 4000000 in
theorem c_X8_law (ll : Launch) (cx : CX)  (m : Mm) : MT ll yX8_law cX8_law 2 ((some .int)) rm_X8_law cx NN NN Lay cvI 0 0 [.ref (cx.2.2.1 + 1)] m (F_X8_law  m) := by
  refine MT_of (by decide) (Nat.le_of_ble_eq_true rfl) ?_
  intro pp ee ss mm aa bb me co hK hr hk hn
  have C : CM pp ss mm aa me co cX8_law 2 RX8 cx ((some .int)) := ⟨hK, hr, hk⟩
  show TI pp ll ee rm_X8_law ss mm aa bb me co 2 cx 0 [(0, .ref (cx.2.2.1 + 1))] [] m (F_X8_law  m)
  unfold F_X8_law
  refine T_aload_n C.1 dX8_law_0 0 rfl ?_
  refine T_getR (x := 16) C.1 fd_X8_26 (fun _ _ _ _ => rfl) sh1 le1 (fun _ h => h) rfl (by decide) dX8_law_1 ?_
  refine T_callVI (rm := rm_X6_read) [] [] C.1 dX8_law_4 mw_X6_read wm_2_180 wm_2_181 wm_2_182 ⟨Nat.le_of_ble_eq_true rfl, Nat.le_of_ble_eq_true rfl⟩ ⟨rfl, rfl⟩ ⟨Nat.zero_le _, Nat.zero_le _⟩ rfl rfl (Nat.le_of_ble_eq_true rfl) sh16 le16 ⟨rfl, rfl⟩ (c_X6_read ll cx m) (fun v1 m2 => ?_)
  refine T_istore_n (lv' := [(1, .int v1), (0, .ref (cx.2.2.1 + 1))]) C.1 dX8_law_7 (by decide) rfl ?_
  refine T_iload_n C.1 dX8_law_8 0 rfl ?_
  refine T_iconst C.1 dX8_law_9 ?_
  refine T_icmp_eq (tgt := 18) C.1 dX8_law_10 (by decide) ?_ ?_
  · refine T_aload_n C.1 dX8_law_18 1 rfl ?_
    refine T_getR (x := 2) C.1 fd_X8_10 (fun _ _ _ _ => rfl) sh1 le1 (fun _ h => h) rfl (by decide) dX8_law_19 ?_
    refine T_aload_n C.1 dX8_law_22 1 rfl ?_
    refine T_getR (x := 16) C.1 fd_X8_26 (fun _ _ _ _ => rfl) sh1 le1 (fun _ h => h) rfl (by decide) dX8_law_23 ?_
    refine T_aload_n C.1 dX8_law_26 1 rfl ?_
    refine T_getR (x := 2) C.1 fd_X8_10 (fun _ _ _ _ => rfl) sh1 le1 (fun _ h => h) rfl (by decide) dX8_law_27 ?_
    refine T_getS C.1 fd_X8_140 (fun _ _ _ _ => rfl) sh2 le2 (by decide) dX8_law_30 (fun q3 hq3 => ?_)
    refine T_callVR (rm := rm_X6_draftFor) [.ref (cx.2.2.1 + q3)] [.ref (cx.2.2.1 + 2)] C.1 dX8_law_33 mw_X6_draftFor wm_3_15 wm_3_16 wm_3_17 ⟨Nat.le_of_ble_eq_true rfl, Nat.le_of_ble_eq_true rfl⟩ ⟨rfl, rfl⟩ ⟨Nat.zero_le _, Nat.zero_le _⟩ rfl rfl (Nat.le_of_ble_eq_true rfl) sh16 le16 ⟨rfl, rfl⟩ (c_X6_draftFor ll cx q3 m2) (fun q4 m5 => ?_)
    refine T_gdS (fun hq4 => ?_)
    refine T_putD C.1 (fun _ _ _ _ => rfl) (fun _ => rfl) (fun _ => rfl) fd_X8_140 sh2 le2 (shp_pk hq4 (by decide)) (fun _ _ h => Lay_pR h sh2 (fun _ => rfl) (fun _ => rfl)) dX8_law_36 (fun m6 => ?_)
    refine T_iconst C.1 dX8_law_39 ?_
    exact T_iret C.1 C.2.1 C.2.2 dX8_law_40
  · refine T_bipush C.1 dX8_law_13 rfl ?_
    refine T_iload_n C.1 dX8_law_15 0 rfl ?_
    refine T_isub C.1 dX8_law_16 ?_
    exact T_iret C.1 C.2.1 C.2.2 dX8_law_17
def rm_X8_turn : Room := { frames := 2, cells := 0, slots := 0, locals := 61 }
def F_X8_turn   (m : Mm) : Option (Int32 × Mm) :=
  bnd (F_X2_whoseTurn 23 m) fun v1 m2 =>
  some (v1, m2)
set_option maxRecDepth 100000 in
set_option maxHeartbeats 4000000 in
theorem c_X8_turn (ll : Launch) (cx : CX)  (m : Mm) : MT ll yX8_turn cX8_turn 1 ((some .int)) rm_X8_turn cx NN NN Lay cvI 0 0 [.ref (cx.2.2.1 + 1)] m (F_X8_turn  m) := by
  refine MT_of (by decide) (Nat.le_of_ble_eq_true rfl) ?_
  intro pp ee ss mm aa bb me co hK hr hk hn
  have C : CM pp ss mm aa me co cX8_turn 1 RX8 cx ((some .int)) := ⟨hK, hr, hk⟩
  show TI pp ll ee rm_X8_turn ss mm aa bb me co 1 cx 0 [(0, .ref (cx.2.2.1 + 1))] [] m (F_X8_turn  m)
  unfold F_X8_turn
  refine T_aload_n C.1 dX8_turn_0 0 rfl ?_
  refine T_getR (x := 23) C.1 fd_X8_33 (fun _ _ _ _ => rfl) sh1 le1 (fun _ h => h) rfl (by decide) dX8_turn_1 ?_
  refine T_aload_n C.1 dX8_turn_4 0 rfl ?_
  refine T_getR (x := 2) C.1 fd_X8_10 (fun _ _ _ _ => rfl) sh1 le1 (fun _ h => h) rfl (by decide) dX8_turn_5 ?_
  refine T_callVI (rm := rm_X2_whoseTurn) [.ref (cx.2.2.1 + 2)] [] C.1 dX8_turn_8 mw_X2_whoseTurn wm_3_23 wm_3_24 wm_3_25 ⟨Nat.le_of_ble_eq_true rfl, Nat.le_of_ble_eq_true rfl⟩ ⟨rfl, rfl⟩ ⟨Nat.zero_le _, Nat.zero_le _⟩ rfl rfl (Nat.le_of_ble_eq_true rfl) sh23 le23 ⟨rfl, rfl⟩ (c_X2_whoseTurn ll cx 23 m) (fun v1 m2 => ?_)
  exact T_iret C.1 C.2.1 C.2.2 dX8_turn_11
