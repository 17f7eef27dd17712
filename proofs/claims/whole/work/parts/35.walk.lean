def rm_X9_endWorth : Room := { frames := 1, cells := 0, slots := 0, locals := 40 }
def F_X9_endWorth_2  : Nat → Int32 → Int32 → Int32 → Mm → Option (Int32 × Mm)
  | 0, _, _, _, _ => none
  | f + 1, a1, a2, a3, m =>
    (if (gI m 113 1) ≤ a3 then
      some ((iI 0), m)
    else
      rd 39 (((iI 3) * a1) + a3) fun j1 =>
      (if (gI m 140 j1) = a2 then
        rd 49 (((iI 7) * a2) + a3) fun j3 =>
        some ((gI m 114 j3), m)
      else
        nm (a3 + (iI 1)) fun v2 =>
        F_X9_endWorth_2  f a1 a2 v2 m))
set_option maxRecDepth 100000 in
set_option maxHeartbeats 4000000 in
theorem t_X9_endWorth_2 {pp : Program} {ll : Launch} {ee : Env} {ss : State} {mm : MethodId} {aa : Array Value} {bb : List Frame} {me : Method} {co : Code} {cx : CX}     (C : CM pp ss mm aa me co cX9_endWorth 4 RX9 cx ((some .int)))    : ∀ (f : Nat) (a1 : Int32) (a2 : Int32) (a3 : Int32) (m : Mm), TI pp ll ee rm_X9_endWorth ss mm aa bb me co 4 cx 2 [(0, .ref (cx.2.2.1 + 113)), (1, .int a1), (2, .int a2), (3, .int a3)] [] m (F_X9_endWorth_2  f a1 a2 a3 m) := by
  intro f
  induction f with
  | zero => exact fun _ _ _ _ => T_none
  | succ f ih =>
    intro a1 a2 a3 m
    unfold F_X9_endWorth_2
    refine T_iload_n C.1 dX9_endWorth_2 3 rfl ?_
    refine T_aload_n C.1 dX9_endWorth_3 0 rfl ?_
    refine T_getI C.1 fd_X9_155 (fun _ _ _ _ => rfl) sh113 le113 dX9_endWorth_4 ?_
    refine T_icmp_ge (tgt := 42) C.1 dX9_endWorth_7 (by decide) ?_ ?_
    · refine T_iconst C.1 dX9_endWorth_42 ?_
      exact T_iret C.1 C.2.1 C.2.2 dX9_endWorth_43
    · refine T_aload_n C.1 dX9_endWorth_10 0 rfl ?_
      refine T_getR (x := 140) C.1 fd_X9_97 (fun _ _ _ _ => rfl) sh113 le113 (fun _ h => h) rfl (by decide) dX9_endWorth_11 ?_
      refine T_iconst C.1 dX9_endWorth_14 ?_
      refine T_iload_n C.1 dX9_endWorth_15 1 rfl ?_
      refine T_imul C.1 dX9_endWorth_16 ?_
      refine T_iload_n C.1 dX9_endWorth_17 3 rfl ?_
      refine T_iadd C.1 dX9_endWorth_18 ?_
      refine T_iald C.1 dX9_endWorth_19 sh140 le140 (fun j1 => ?_)
      refine T_iload_n C.1 dX9_endWorth_20 2 rfl ?_
      refine T_icmp_ne (tgt := 36) C.1 dX9_endWorth_21 (by decide) ?_ ?_
      · refine T_iincN C.1 (fun v2 => [(3, .int v2), (0, .ref (cx.2.2.1 + 113)), (1, .int a1), (2, .int a2)]) dX9_endWorth_36 3 rfl (by decide) (fun _ => rfl) (fun v2 => ?_)
        refine T_goto (tgt := 2) C.1 dX9_endWorth_39 (by decide) ?_
        exact T_sub [1, 2, 3, 0] rfl (ih a1 a2 v2 m)
      · refine T_aload_n C.1 dX9_endWorth_24 0 rfl ?_
        refine T_getR (x := 114) C.1 fd_X9_7 (fun _ _ _ _ => rfl) sh113 le113 (fun _ h => h) rfl (by decide) dX9_endWorth_25 ?_
        refine T_bipush C.1 dX9_endWorth_28 rfl ?_
        refine T_iload_n C.1 dX9_endWorth_30 2 rfl ?_
        refine T_imul C.1 dX9_endWorth_31 ?_
        refine T_iload_n C.1 dX9_endWorth_32 3 rfl ?_
        refine T_iadd C.1 dX9_endWorth_33 ?_
        refine T_iald C.1 dX9_endWorth_34 sh114 le114 (fun j3 => ?_)
        exact T_iret C.1 C.2.1 C.2.2 dX9_endWorth_35
def F_X9_endWorth  (x1 : Int32) (x2 : Int32) (m : Mm) : Option (Int32 × Mm) :=
  F_X9_endWorth_2 FU x1 x2 (iI 0) m
set_option maxRecDepth 100000 in
set_option maxHeartbeats 4000000 in
theorem c_X9_endWorth (ll : Launch) (cx : CX) (x1 : Int32) (x2 : Int32) (m : Mm) : MT ll yX9_endWorth cX9_endWorth 4 ((some .int)) rm_X9_endWorth cx NN NN Lay cvI 0 0 [.ref (cx.2.2.1 + 113), .int x1, .int x2] m (F_X9_endWorth x1 x2 m) := by
  refine MT_of (by decide) (Nat.le_of_ble_eq_true rfl) ?_
  intro pp ee ss mm aa bb me co hK hr hk hn
  have C : CM pp ss mm aa me co cX9_endWorth 4 RX9 cx ((some .int)) := ⟨hK, hr, hk⟩
  show TI pp ll ee rm_X9_endWorth ss mm aa bb me co 4 cx 0 [(0, .ref (cx.2.2.1 + 113)), (1, .int x1), (2, .int x2)] [] m (F_X9_endWorth x1 x2 m)
  unfold F_X9_endWorth
  refine T_iconst C.1 dX9_endWorth_0 ?_
  refine T_istore_n (lv' := [(3, .int (iI 0)), (0, .ref (cx.2.2.1 + 113)), (1, .int x1), (2, .int x2)]) C.1 dX9_endWorth_1 (by decide) rfl ?_
  exact T_sub [1, 2, 3, 0] rfl (t_X9_endWorth_2 C FU x1 x2 (iI 0) m)
def rm_X9_takeEnd : Room := { frames := 1, cells := 0, slots := 0, locals := 40 }
def F_X9_takeEnd_2  : Nat → Int32 → Int32 → Mm → Option (Unit × Mm)
  | 0, _, _, _ => none
  | f + 1, a1, a2, m =>
    (if (gI m 113 1) ≤ a2 then
      rd 13 (a1 + (iI 1)) fun j1 =>
      wrI 13 m 141 a1 (gI m 141 j1) fun m2 =>
      some ((), m2)
    else
      rd 39 ((((iI 3) * a1) + (iI 3)) + a2) fun j3 =>
      wrI 39 m 140 (((iI 3) * a1) + a2) (gI m 140 j3) fun m4 =>
      nm (a2 + (iI 1)) fun v5 =>
      F_X9_takeEnd_2  f a1 v5 m4)
set_option maxRecDepth 100000 in
set_option maxHeartbeats 4000000 in
theorem t_X9_takeEnd_2 {pp : Program} {ll : Launch} {ee : Env} {ss : State} {mm : MethodId} {aa : Array Value} {bb : List Frame} {me : Method} {co : Code} {cx : CX}     (C : CM pp ss mm aa me co cX9_takeEnd 3 RX9 cx (none))    : ∀ (f : Nat) (a1 : Int32) (a2 : Int32) (m : Mm), TV pp ll ee rm_X9_takeEnd ss mm aa bb me co 3 cx 2 [(0, .ref (cx.2.2.1 + 113)), (1, .int a1), (2, .int a2)] [] m (F_X9_takeEnd_2  f a1 a2 m) := by
  intro f
  induction f with
  | zero => exact fun _ _ _ => T_none
  | succ f ih =>
    intro a1 a2 m
    unfold F_X9_takeEnd_2
    refine T_iload_n C.1 dX9_takeEnd_2 2 rfl ?_
    refine T_aload_n C.1 dX9_takeEnd_3 0 rfl ?_
    refine T_getI C.1 fd_X9_155 (fun _ _ _ _ => rfl) sh113 le113 dX9_takeEnd_4 ?_
    refine T_icmp_ge (tgt := 38) C.1 dX9_takeEnd_7 (by decide) ?_ ?_
    · refine T_aload_n C.1 dX9_takeEnd_38 0 rfl ?_
      refine T_getR (x := 141) C.1 fd_X9_100 (fun _ _ _ _ => rfl) sh113 le113 (fun _ h => h) rfl (by decide) dX9_takeEnd_39 ?_
      refine T_iload_n C.1 dX9_takeEnd_42 1 rfl ?_
      refine T_aload_n C.1 dX9_takeEnd_43 0 rfl ?_
      refine T_getR (x := 141) C.1 fd_X9_100 (fun _ _ _ _ => rfl) sh113 le113 (fun _ h => h) rfl (by decide) dX9_takeEnd_44 ?_
      refine T_iload_n C.1 dX9_takeEnd_47 1 rfl ?_
      refine T_iconst C.1 dX9_takeEnd_48 ?_
      refine T_iadd C.1 dX9_takeEnd_49 ?_
      refine T_iald C.1 dX9_takeEnd_50 sh141 le141 (fun j1 => ?_)
      refine T_iast C.1 LyI_Lay sh141 le141 dX9_takeEnd_51 (fun m2 => ?_)
      exact T_vret C.1 C.2.1 C.2.2 dX9_takeEnd_52
    · refine T_aload_n C.1 dX9_takeEnd_10 0 rfl ?_
      refine T_getR (x := 140) C.1 fd_X9_97 (fun _ _ _ _ => rfl) sh113 le113 (fun _ h => h) rfl (by decide) dX9_takeEnd_11 ?_
      refine T_iconst C.1 dX9_takeEnd_14 ?_
      refine T_iload_n C.1 dX9_takeEnd_15 1 rfl ?_
      refine T_imul C.1 dX9_takeEnd_16 ?_
      refine T_iload_n C.1 dX9_takeEnd_17 2 rfl ?_
      refine T_iadd C.1 dX9_takeEnd_18 ?_
      refine T_aload_n C.1 dX9_takeEnd_19 0 rfl ?_
      refine T_getR (x := 140) C.1 fd_X9_97 (fun _ _ _ _ => rfl) sh113 le113 (fun _ h => h) rfl (by decide) dX9_takeEnd_20 ?_
      refine T_iconst C.1 dX9_takeEnd_23 ?_
      refine T_iload_n C.1 dX9_takeEnd_24 1 rfl ?_
      refine T_imul C.1 dX9_takeEnd_25 ?_
      refine T_iconst C.1 dX9_takeEnd_26 ?_
      refine T_iadd C.1 dX9_takeEnd_27 ?_
      refine T_iload_n C.1 dX9_takeEnd_28 2 rfl ?_
      refine T_iadd C.1 dX9_takeEnd_29 ?_
      refine T_iald C.1 dX9_takeEnd_30 sh140 le140 (fun j3 => ?_)
      refine T_iast C.1 LyI_Lay sh140 le140 dX9_takeEnd_31 (fun m4 => ?_)
      refine T_iincN C.1 (fun v5 => [(2, .int v5), (0, .ref (cx.2.2.1 + 113)), (1, .int a1)]) dX9_takeEnd_32 2 rfl (by decide) (fun _ => rfl) (fun v5 => ?_)
      refine T_goto (tgt := 2) C.1 dX9_takeEnd_35 (by decide) ?_
      exact T_sub [1, 2, 0] rfl (ih a1 v5 m4)
def F_X9_takeEnd  (x1 : Int32) (m : Mm) : Option (Unit × Mm) :=
  F_X9_takeEnd_2 FU x1 (iI 0) m
set_option maxRecDepth 100000 in
set_option maxHeartbeats 4000000 in
theorem c_X9_takeEnd (ll : Launch) (cx : CX) (x1 : Int32) (m : Mm) : MT ll yX9_takeEnd cX9_takeEnd 3 (none) rm_X9_takeEnd cx NN NN Lay cvV 0 0 [.ref (cx.2.2.1 + 113), .int x1] m (F_X9_takeEnd x1 m) := by
  refine MT_of (by decide) (Nat.le_of_ble_eq_true rfl) ?_
  intro pp ee ss mm aa bb me co hK hr hk hn
  have C : CM pp ss mm aa me co cX9_takeEnd 3 RX9 cx (none) := ⟨hK, hr, hk⟩
  show TV pp ll ee rm_X9_takeEnd ss mm aa bb me co 3 cx 0 [(0, .ref (cx.2.2.1 + 113)), (1, .int x1)] [] m (F_X9_takeEnd x1 m)
  unfold F_X9_takeEnd
  refine T_iconst C.1 dX9_takeEnd_0 ?_
  refine T_istore_n (lv' := [(2, .int (iI 0)), (0, .ref (cx.2.2.1 + 113)), (1, .int x1)]) C.1 dX9_takeEnd_1 (by decide) rfl ?_
  exact T_sub [1, 2, 0] rfl (t_X9_takeEnd_2 C FU x1 (iI 0) m)
def rmS_188 (d : Nat) : Room := { frames := 4 + d, cells := 0, slots := 0, locals := 105 + 23 * d }
def F_X9_goExact_155 (k_94 : Int32 → Int32 → Int32 → Mm → Option (Unit × Mm)) (f_X9_goExact : Int32 → Mm → Option (Unit × Mm)) (a1 : Int32) (a2 : Int32) (a3 : Int32) (m : Mm) : Option (Unit × Mm) :=
  nm (a3 + (iI 1)) fun v1 =>
  k_94 a1 a2 v1 m
set_option maxRecDepth 100000 in
set_option maxHeartbeats 4000000 in
theorem t_X9_goExact_155 {pp : Program} {ll : Launch} {ee : Env} {ss : State} {mm : MethodId} {aa : Array Value} {bb : List Frame} {me : Method} {co : Code} {cx : CX} {dd : Nat} {k_94 : Int32 → Int32 → Int32 → Mm → Option (Unit × Mm)} {f_X9_goExact : Int32 → Mm → Option (Unit × Mm)}  (C : CM pp ss mm aa me co cX9_goExact 4 RX9 cx (none))  (hf_X9_goExact : ∀ (x1 : Int32) (m : Mm), MT ll yX9_goExact cX9_goExact 4 (none) (rmS_188 dd) cx NN NN Lay cvV 0 0 [.ref (cx.2.2.1 + 113), .int x1] m (f_X9_goExact x1 m))  (hk_94 : ∀ (a1 : Int32) (a2 : Int32) (a3 : Int32) (m : Mm), TV pp ll ee (rmS_188 (dd + 1)) ss mm aa bb me co 4 cx 94 [(0, .ref (cx.2.2.1 + 113)), (1, .int a1), (2, .int a2), (3, .int a3)] [] m (k_94 a1 a2 a3 m)) (a1 : Int32) (a2 : Int32) (a3 : Int32) (m : Mm) : TV pp ll ee (rmS_188 (dd + 1)) ss mm aa bb me co 4 cx 155 [(0, .ref (cx.2.2.1 + 113)), (1, .int a1), (2, .int a2), (3, .int a3)] [] m (F_X9_goExact_155 k_94 f_X9_goExact a1 a2 a3 m) := by
  unfold F_X9_goExact_155
  refine T_iincN C.1 (fun v1 => [(3, .int v1), (0, .ref (cx.2.2.1 + 113)), (1, .int a1), (2, .int a2)]) dX9_goExact_155 3 rfl (by decide) (fun _ => rfl) (fun v1 => ?_)
  refine T_goto (tgt := 94) C.1 dX9_goExact_158 (by decide) ?_
  exact T_sub [1, 2, 3, 0] rfl (hk_94 a1 a2 v1 m)
def F_X9_goExact_150 (k_94 : Int32 → Int32 → Int32 → Mm → Option (Unit × Mm)) (f_X9_goExact : Int32 → Mm → Option (Unit × Mm)) (a1 : Int32) (a2 : Int32) (a3 : Int32) (m : Mm) : Option (Unit × Mm) :=
  bnd (F_X9_layAt a1 m) fun _ m2 =>
  F_X9_goExact_155 (k_94) f_X9_goExact a1 a2 a3 m2
set_option maxRecDepth 100000 in
set_option maxHeartbeats 4000000 in
theorem t_X9_goExact_150 {pp : Program} {ll : Launch} {ee : Env} {ss : State} {mm : MethodId} {aa : Array Value} {bb : List Frame} {me : Method} {co : Code} {cx : CX} {dd : Nat} {k_94 : Int32 → Int32 → Int32 → Mm → Option (Unit × Mm)} {f_X9_goExact : Int32 → Mm → Option (Unit × Mm)}  (C : CM pp ss mm aa me co cX9_goExact 4 RX9 cx (none))  (hf_X9_goExact : ∀ (x1 : Int32) (m : Mm), MT ll yX9_goExact cX9_goExact 4 (none) (rmS_188 dd) cx NN NN Lay cvV 0 0 [.ref (cx.2.2.1 + 113), .int x1] m (f_X9_goExact x1 m))  (hk_94 : ∀ (a1 : Int32) (a2 : Int32) (a3 : Int32) (m : Mm), TV pp ll ee (rmS_188 (dd + 1)) ss mm aa bb me co 4 cx 94 [(0, .ref (cx.2.2.1 + 113)), (1, .int a1), (2, .int a2), (3, .int a3)] [] m (k_94 a1 a2 a3 m)) (a1 : Int32) (a2 : Int32) (a3 : Int32) (m : Mm) : TV pp ll ee (rmS_188 (dd + 1)) ss mm aa bb me co 4 cx 150 [(0, .ref (cx.2.2.1 + 113)), (1, .int a1), (2, .int a2), (3, .int a3)] [] m (F_X9_goExact_150 k_94 f_X9_goExact a1 a2 a3 m) := by
  unfold F_X9_goExact_150
  refine T_aload_n C.1 dX9_goExact_150 0 rfl ?_
  refine T_iload_n C.1 dX9_goExact_151 1 rfl ?_
  refine T_callVV (rm := rm_X9_layAt) [.int a1] [] C.1 dX9_goExact_152 mw_X9_layAt wm_6_150 wm_6_152 wm_p_74 (by constructor <;> (simp only [rmS_188, rm_X9_layAt]; omega)) ⟨rfl, rfl⟩ ⟨Nat.zero_le _, Nat.zero_le _⟩ rfl rfl (Nat.le_of_ble_eq_true rfl) sh113 le113 ⟨rfl, rfl⟩ (c_X9_layAt ll cx a1 m) (fun u1 m2 => ?_)
  exact T_sub [0, 1, 2, 3] rfl (t_X9_goExact_155 C hf_X9_goExact (hk_94) a1 a2 a3 m2)
def F_X9_goExact_94 (f_X9_goExact : Int32 → Mm → Option (Unit × Mm)) : Nat → Int32 → Int32 → Int32 → Mm → Option (Unit × Mm)
  | 0, _, _, _, _ => none
  | f + 1, a1, a2, a3, m =>
    (if (gI m 113 1) ≤ a3 then
      some ((), m)
    else
      bnd (F_X9_mayTake (iI 1) a3 m) fun v1 m2 =>
      (if v1 = iI 0 then
        F_X9_goExact_155 (F_X9_goExact_94 f_X9_goExact f) f_X9_goExact a1 a2 a3 m2
      else
        bnd (F_X9_takesAt (iI 1) a3 m2) fun v3 m4 =>
        bnd (f_X9_goExact (a1 + (iI 1)) m4) fun _ m6 =>
        bnd (F_X9_endWorth (a1 + (iI 1)) a2 m6) fun v7 m8 =>
        bnd (F_X9_endWorth a1 a2 m8) fun v9 m10 =>
        (if v7 ≤ v9 then
          F_X9_goExact_150 (F_X9_goExact_94 f_X9_goExact f) f_X9_goExact a1 a2 a3 m10
        else
          bnd (F_X9_takeEnd a1 m10) fun _ m12 =>
          F_X9_goExact_150 (F_X9_goExact_94 f_X9_goExact f) f_X9_goExact a1 a2 a3 m12)))
set_option maxRecDepth 100000 in
set_option maxHeartbeats 4000000 in
theorem t_X9_goExact_94 {pp : Program} {ll : Launch} {ee : Env} {ss : State} {mm : MethodId} {aa : Array Value} {bb : List Frame} {me : Method} {co : Code} {cx : CX} {dd : Nat}  {f_X9_goExact : Int32 → Mm → Option (Unit × Mm)}  (C : CM pp ss mm aa me co cX9_goExact 4 RX9 cx (none))  (hf_X9_goExact : ∀ (x1 : Int32) (m : Mm), MT ll yX9_goExact cX9_goExact 4 (none) (rmS_188 dd) cx NN NN Lay cvV 0 0 [.ref (cx.2.2.1 + 113), .int x1] m (f_X9_goExact x1 m))   : ∀ (f : Nat) (a1 : Int32) (a2 : Int32) (a3 : Int32) (m : Mm), TV pp ll ee (rmS_188 (dd + 1)) ss mm aa bb me co 4 cx 94 [(0, .ref (cx.2.2.1 + 113)), (1, .int a1), (2, .int a2), (3, .int a3)] [] m (F_X9_goExact_94 f_X9_goExact f a1 a2 a3 m) := by
  intro f
  induction f with
  | zero => exact fun _ _ _ _ => T_none
  | succ f ih =>
    intro a1 a2 a3 m
    unfold F_X9_goExact_94
    refine T_iload_n C.1 dX9_goExact_94 3 rfl ?_
    refine T_aload_n C.1 dX9_goExact_95 0 rfl ?_
    refine T_getI C.1 fd_X9_155 (fun _ _ _ _ => rfl) sh113 le113 dX9_goExact_96 ?_
    refine T_icmp_ge (tgt := 161) C.1 dX9_goExact_99 (by decide) ?_ ?_
    · exact T_vret C.1 C.2.1 C.2.2 dX9_goExact_161
    · refine T_aload_n C.1 dX9_goExact_102 0 rfl ?_
      refine T_iconst C.1 dX9_goExact_103 ?_
      refine T_iload_n C.1 dX9_goExact_104 3 rfl ?_
      refine T_callVI (rm := rm_X9_mayTake) [.int (iI 1), .int a3] [] C.1 dX9_goExact_105 mw_X9_mayTake wm_6_64 wm_6_66 wm_p_60 (by constructor <;> (simp only [rmS_188, rm_X9_mayTake]; omega)) ⟨rfl, rfl⟩ ⟨Nat.zero_le _, Nat.zero_le _⟩ rfl rfl (Nat.le_of_ble_eq_true rfl) sh113 le113 ⟨rfl, rfl⟩ (c_X9_mayTake ll cx (iI 1) a3 m) (fun v1 m2 => ?_)
      refine T_if_ne (tgt := 114) C.1 dX9_goExact_108 (by decide) ?_ ?_
      · refine T_aload_n C.1 dX9_goExact_114 0 rfl ?_
        refine T_iconst C.1 dX9_goExact_115 ?_
        refine T_iload_n C.1 dX9_goExact_116 3 rfl ?_
        refine T_callVI (rm := rm_X9_takesAt) [.int (iI 1), .int a3] [] C.1 dX9_goExact_117 mw_X9_takesAt wm_6_68 wm_6_70 wm_p_61 (by constructor <;> (simp only [rmS_188, rm_X9_takesAt]; omega)) ⟨rfl, rfl⟩ ⟨Nat.zero_le _, Nat.zero_le _⟩ rfl rfl (Nat.le_of_ble_eq_true rfl) sh113 le113 ⟨rfl, rfl⟩ (c_X9_takesAt ll cx (iI 1) a3 m2) (fun v3 m4 => ?_)
        refine T_pop C.1 dX9_goExact_120 rfl ?_
        refine T_aload_n C.1 dX9_goExact_121 0 rfl ?_
        refine T_iload_n C.1 dX9_goExact_122 1 rfl ?_
        refine T_iconst C.1 dX9_goExact_123 ?_
        refine T_iadd C.1 dX9_goExact_124 ?_
        refine T_callVV (rm := (rmS_188 dd)) [.int (a1 + (iI 1))] [] C.1 dX9_goExact_125 mw_X9_goExact wm_6_138 wm_6_140 wm_p_71 (by constructor <;> (simp only [rmS_188]; omega)) ⟨rfl, rfl⟩ ⟨Nat.zero_le _, Nat.zero_le _⟩ rfl rfl (Nat.le_of_ble_eq_true rfl) sh113 le113 ⟨rfl, rfl⟩ (hf_X9_goExact (a1 + (iI 1)) m4) (fun u5 m6 => ?_)
        refine T_aload_n C.1 dX9_goExact_128 0 rfl ?_
        refine T_iload_n C.1 dX9_goExact_129 1 rfl ?_
        refine T_iconst C.1 dX9_goExact_130 ?_
        refine T_iadd C.1 dX9_goExact_131 ?_
        refine T_iload_n C.1 dX9_goExact_132 2 rfl ?_
        refine T_callVI (rm := rm_X9_endWorth) [.int (a1 + (iI 1)), .int a2] [] C.1 dX9_goExact_133 mw_X9_endWorth wm_6_154 wm_6_156 wm_p_75 (by constructor <;> (simp only [rmS_188, rm_X9_endWorth]; omega)) ⟨rfl, rfl⟩ ⟨Nat.zero_le _, Nat.zero_le _⟩ rfl rfl (Nat.le_of_ble_eq_true rfl) sh113 le113 ⟨rfl, rfl⟩ (c_X9_endWorth ll cx (a1 + (iI 1)) a2 m6) (fun v7 m8 => ?_)
        refine T_aload_n C.1 dX9_goExact_136 0 rfl ?_
        refine T_iload_n C.1 dX9_goExact_137 1 rfl ?_
        refine T_iload_n C.1 dX9_goExact_138 2 rfl ?_
        refine T_callVI (rm := rm_X9_endWorth) [.int a1, .int a2] [.int v7] C.1 dX9_goExact_139 mw_X9_endWorth wm_6_154 wm_6_156 wm_p_75 (by constructor <;> (simp only [rmS_188, rm_X9_endWorth]; omega)) ⟨rfl, rfl⟩ ⟨Nat.zero_le _, Nat.zero_le _⟩ rfl rfl (Nat.le_of_ble_eq_true rfl) sh113 le113 ⟨rfl, rfl⟩ (c_X9_endWorth ll cx a1 a2 m8) (fun v9 m10 => ?_)
        refine T_icmp_le (tgt := 150) C.1 dX9_goExact_142 (by decide) ?_ ?_
        · exact T_sub [0, 1, 2, 3] rfl (t_X9_goExact_150 C hf_X9_goExact (ih) a1 a2 a3 m10)
        · refine T_aload_n C.1 dX9_goExact_145 0 rfl ?_
          refine T_iload_n C.1 dX9_goExact_146 1 rfl ?_
          refine T_callVV (rm := rm_X9_takeEnd) [.int a1] [] C.1 dX9_goExact_147 mw_X9_takeEnd wm_6_146 wm_6_148 wm_p_73 (by constructor <;> (simp only [rmS_188, rm_X9_takeEnd]; omega)) ⟨rfl, rfl⟩ ⟨Nat.zero_le _, Nat.zero_le _⟩ rfl rfl (Nat.le_of_ble_eq_true rfl) sh113 le113 ⟨rfl, rfl⟩ (c_X9_takeEnd ll cx a1 m10) (fun u11 m12 => ?_)
          exact T_sub [0, 1, 2, 3] rfl (t_X9_goExact_150 C hf_X9_goExact (ih) a1 a2 a3 m12)
      · refine T_goto (tgt := 155) C.1 dX9_goExact_111 (by decide) ?_
        exact T_sub [0, 1, 2, 3] rfl (t_X9_goExact_155 C hf_X9_goExact (ih) a1 a2 a3 m2)
def F_X9_goExact_11 (f_X9_goExact : Int32 → Mm → Option (Unit × Mm)) : Nat → Int32 → Int32 → Mm → Option (Unit × Mm)
  | 0, _, _, _ => none
  | f + 1, a1, a2, m =>
    (if (gI m 113 1) ≤ a2 then
      rd 2 (iI 1) fun j1 =>
      wrI 13 m 141 a1 (gI m 124 j1) fun m2 =>
      some ((), m2)
    else
      rd 14 ((iI 7) + a2) fun j3 =>
      wrI 39 m 140 (((iI 3) * a1) + a2) (gI m 118 j3) fun m4 =>
      nm (a2 + (iI 1)) fun v5 =>
      F_X9_goExact_11 f_X9_goExact f a1 v5 m4)
set_option maxRecDepth 100000 in
set_option maxHeartbeats 4000000 in
theorem t_X9_goExact_11 {pp : Program} {ll : Launch} {ee : Env} {ss : State} {mm : MethodId} {aa : Array Value} {bb : List Frame} {me : Method} {co : Code} {cx : CX} {dd : Nat}  {f_X9_goExact : Int32 → Mm → Option (Unit × Mm)}  (C : CM pp ss mm aa me co cX9_goExact 4 RX9 cx (none))  (hf_X9_goExact : ∀ (x1 : Int32) (m : Mm), MT ll yX9_goExact cX9_goExact 4 (none) (rmS_188 dd) cx NN NN Lay cvV 0 0 [.ref (cx.2.2.1 + 113), .int x1] m (f_X9_goExact x1 m))   : ∀ (f : Nat) (a1 : Int32) (a2 : Int32) (m : Mm), TV pp ll ee (rmS_188 (dd + 1)) ss mm aa bb me co 4 cx 11 [(0, .ref (cx.2.2.1 + 113)), (1, .int a1), (2, .int a2)] [] m (F_X9_goExact_11 f_X9_goExact f a1 a2 m) := by
  intro f
  induction f with
  | zero => exact fun _ _ _ => T_none
  | succ f ih =>
    intro a1 a2 m
    unfold F_X9_goExact_11
    refine T_iload_n C.1 dX9_goExact_11 2 rfl ?_
    refine T_aload_n C.1 dX9_goExact_12 0 rfl ?_
    refine T_getI C.1 fd_X9_155 (fun _ _ _ _ => rfl) sh113 le113 dX9_goExact_13 ?_
    refine T_icmp_ge (tgt := 44) C.1 dX9_goExact_16 (by decide) ?_ ?_
    · refine T_aload_n C.1 dX9_goExact_44 0 rfl ?_
      refine T_getR (x := 141) C.1 fd_X9_100 (fun _ _ _ _ => rfl) sh113 le113 (fun _ h => h) rfl (by decide) dX9_goExact_45 ?_
      refine T_iload_n C.1 dX9_goExact_48 1 rfl ?_
      refine T_aload_n C.1 dX9_goExact_49 0 rfl ?_
      refine T_getR (x := 124) C.1 fd_X9_44 (fun _ _ _ _ => rfl) sh113 le113 (fun _ h => h) rfl (by decide) dX9_goExact_50 ?_
      refine T_iconst C.1 dX9_goExact_53 ?_
      refine T_iald C.1 dX9_goExact_54 sh124 le124 (fun j1 => ?_)
      refine T_iast C.1 LyI_Lay sh141 le141 dX9_goExact_55 (fun m2 => ?_)
      exact T_vret C.1 C.2.1 C.2.2 dX9_goExact_56
    · refine T_aload_n C.1 dX9_goExact_19 0 rfl ?_
      refine T_getR (x := 140) C.1 fd_X9_97 (fun _ _ _ _ => rfl) sh113 le113 (fun _ h => h) rfl (by decide) dX9_goExact_20 ?_
      refine T_iconst C.1 dX9_goExact_23 ?_
      refine T_iload_n C.1 dX9_goExact_24 1 rfl ?_
      refine T_imul C.1 dX9_goExact_25 ?_
      refine T_iload_n C.1 dX9_goExact_26 2 rfl ?_
      refine T_iadd C.1 dX9_goExact_27 ?_
      refine T_aload_n C.1 dX9_goExact_28 0 rfl ?_
      refine T_getR (x := 118) C.1 fd_X9_26 (fun _ _ _ _ => rfl) sh113 le113 (fun _ h => h) rfl (by decide) dX9_goExact_29 ?_
      refine T_bipush C.1 dX9_goExact_32 rfl ?_
      refine T_iload_n C.1 dX9_goExact_34 2 rfl ?_
      refine T_iadd C.1 dX9_goExact_35 ?_
      refine T_iald C.1 dX9_goExact_36 sh118 le118 (fun j3 => ?_)
      refine T_iast C.1 LyI_Lay sh140 le140 dX9_goExact_37 (fun m4 => ?_)
      refine T_iincN C.1 (fun v5 => [(2, .int v5), (0, .ref (cx.2.2.1 + 113)), (1, .int a1)]) dX9_goExact_38 2 rfl (by decide) (fun _ => rfl) (fun v5 => ?_)
      refine T_goto (tgt := 11) C.1 dX9_goExact_41 (by decide) ?_
      exact T_sub [1, 2, 0] rfl (ih a1 v5 m4)
def B_X9_goExact (f_X9_goExact : Int32 → Mm → Option (Unit × Mm)) (x1 : Int32) (m : Mm) : Option (Unit × Mm) :=
  rd 2 (iI 1) fun j1 =>
  (if iI 0 ≤ (gI m 121 j1) then
    rd 2 (iI 1) fun j2 =>
    nm (gI m 121 j2) fun v3 =>
    bnd (F_X9_keepAt x1 m) fun _ m5 =>
    bnd (F_X9_opensAt (iI 1) m5) fun v6 m7 =>
    bnd (f_X9_goExact (x1 + (iI 1)) m7) fun _ m9 =>
    bnd (F_X9_takeEnd x1 m9) fun _ m11 =>
    bnd (F_X9_layAt x1 m11) fun _ m13 =>
    F_X9_goExact_94 f_X9_goExact FU x1 v3 (iI 0) m13
  else
    F_X9_goExact_11 f_X9_goExact FU x1 (iI 0) m)
set_option maxRecDepth 100000 in
set_option maxHeartbeats 4000000 in
theorem b_X9_goExact {ll : Launch} {cx : CX} {dd : Nat} (f_X9_goExact : Int32 → Mm → Option (Unit × Mm)) (hf_X9_goExact : ∀ (x1 : Int32) (m : Mm), MT ll yX9_goExact cX9_goExact 4 (none) (rmS_188 dd) cx NN NN Lay cvV 0 0 [.ref (cx.2.2.1 + 113), .int x1] m (f_X9_goExact x1 m))  (x1 : Int32) (m : Mm) : MT ll yX9_goExact cX9_goExact 4 (none) (rmS_188 (dd + 1)) cx NN NN Lay cvV 0 0 [.ref (cx.2.2.1 + 113), .int x1] m (B_X9_goExact f_X9_goExact x1 m) := by
  refine MT_of (by decide) (Nat.le_of_ble_eq_true rfl) ?_
  intro pp ee ss mm aa bb me co hK hr hk hn
  have C : CM pp ss mm aa me co cX9_goExact 4 RX9 cx (none) := ⟨hK, hr, hk⟩
  show TV pp ll ee (rmS_188 (dd + 1)) ss mm aa bb me co 4 cx 0 [(0, .ref (cx.2.2.1 + 113)), (1, .int x1)] [] m (B_X9_goExact f_X9_goExact x1 m)
  unfold B_X9_goExact
  refine T_aload_n C.1 dX9_goExact_0 0 rfl ?_
  refine T_getR (x := 121) C.1 fd_X9_35 (fun _ _ _ _ => rfl) sh113 le113 (fun _ h => h) rfl (by decide) dX9_goExact_1 ?_
  refine T_iconst C.1 dX9_goExact_4 ?_
  refine T_iald C.1 dX9_goExact_5 sh121 le121 (fun j1 => ?_)
  refine T_if_ge (tgt := 57) C.1 dX9_goExact_6 (by decide) ?_ ?_
  · refine T_aload_n C.1 dX9_goExact_57 0 rfl ?_
    refine T_getR (x := 121) C.1 fd_X9_35 (fun _ _ _ _ => rfl) sh113 le113 (fun _ h => h) rfl (by decide) dX9_goExact_58 ?_
    refine T_iconst C.1 dX9_goExact_61 ?_
    refine T_iald C.1 dX9_goExact_62 sh121 le121 (fun j2 => ?_)
    refine T_istore_nN C.1 (fun v3 => [(2, .int v3), (0, .ref (cx.2.2.1 + 113)), (1, .int x1)]) dX9_goExact_63 (by decide) (fun _ => rfl) (fun v3 => ?_)
    refine T_aload_n C.1 dX9_goExact_64 1 rfl ?_
    refine T_iload_n C.1 dX9_goExact_65 2 rfl ?_
    refine T_callVV (rm := rm_X9_keepAt) [.int x1] [] C.1 dX9_goExact_66 mw_X9_keepAt wm_6_142 wm_6_144 wm_p_72 (by constructor <;> (simp only [rmS_188, rm_X9_keepAt]; omega)) ⟨rfl, rfl⟩ ⟨Nat.zero_le _, Nat.zero_le _⟩ rfl rfl (Nat.le_of_ble_eq_true rfl) sh113 le113 ⟨rfl, rfl⟩ (c_X9_keepAt ll cx x1 m) (fun u4 m5 => ?_)
    refine T_aload_n C.1 dX9_goExact_69 1 rfl ?_
    refine T_iconst C.1 dX9_goExact_70 ?_
    refine T_callVI (rm := rm_X9_opensAt) [.int (iI 1)] [] C.1 dX9_goExact_71 mw_X9_opensAt wm_6_48 wm_6_50 wm_p_57 (by constructor <;> (simp only [rmS_188, rm_X9_opensAt]; omega)) ⟨rfl, rfl⟩ ⟨Nat.zero_le _, Nat.zero_le _⟩ rfl rfl (Nat.le_of_ble_eq_true rfl) sh113 le113 ⟨rfl, rfl⟩ (c_X9_opensAt ll cx (iI 1) m5) (fun v6 m7 => ?_)
    refine T_pop C.1 dX9_goExact_74 rfl ?_
    refine T_aload_n C.1 dX9_goExact_75 1 rfl ?_
    refine T_iload_n C.1 dX9_goExact_76 2 rfl ?_
    refine T_iconst C.1 dX9_goExact_77 ?_
    refine T_iadd C.1 dX9_goExact_78 ?_
    refine T_callVV (rm := (rmS_188 dd)) [.int (x1 + (iI 1))] [] C.1 dX9_goExact_79 mw_X9_goExact wm_6_138 wm_6_140 wm_p_71 (by constructor <;> (simp only [rmS_188]; omega)) ⟨rfl, rfl⟩ ⟨Nat.zero_le _, Nat.zero_le _⟩ rfl rfl (Nat.le_of_ble_eq_true rfl) sh113 le113 ⟨rfl, rfl⟩ (hf_X9_goExact (x1 + (iI 1)) m7) (fun u8 m9 => ?_)
    refine T_aload_n C.1 dX9_goExact_82 1 rfl ?_
    refine T_iload_n C.1 dX9_goExact_83 2 rfl ?_
    refine T_callVV (rm := rm_X9_takeEnd) [.int x1] [] C.1 dX9_goExact_84 mw_X9_takeEnd wm_6_146 wm_6_148 wm_p_73 (by constructor <;> (simp only [rmS_188, rm_X9_takeEnd]; omega)) ⟨rfl, rfl⟩ ⟨Nat.zero_le _, Nat.zero_le _⟩ rfl rfl (Nat.le_of_ble_eq_true rfl) sh113 le113 ⟨rfl, rfl⟩ (c_X9_takeEnd ll cx x1 m9) (fun u10 m11 => ?_)
    refine T_aload_n C.1 dX9_goExact_87 1 rfl ?_
    refine T_iload_n C.1 dX9_goExact_88 2 rfl ?_
    refine T_callVV (rm := rm_X9_layAt) [.int x1] [] C.1 dX9_goExact_89 mw_X9_layAt wm_6_150 wm_6_152 wm_p_74 (by constructor <;> (simp only [rmS_188, rm_X9_layAt]; omega)) ⟨rfl, rfl⟩ ⟨Nat.zero_le _, Nat.zero_le _⟩ rfl rfl (Nat.le_of_ble_eq_true rfl) sh113 le113 ⟨rfl, rfl⟩ (c_X9_layAt ll cx x1 m11) (fun u12 m13 => ?_)
    refine T_iconst C.1 dX9_goExact_92 ?_
    refine T_istore_n (lv' := [(3, .int (iI 0)), (2, .int v3), (0, .ref (cx.2.2.1 + 113)), (1, .int x1)]) C.1 dX9_goExact_93 (by decide) rfl ?_
    exact T_sub [2, 3, 1, 0] rfl (t_X9_goExact_94 C hf_X9_goExact FU x1 v3 (iI 0) m13)
  · refine T_iconst C.1 dX9_goExact_9 ?_
    refine T_istore_n (lv' := [(2, .int (iI 0)), (0, .ref (cx.2.2.1 + 113)), (1, .int x1)]) C.1 dX9_goExact_10 (by decide) rfl ?_
    exact T_sub [1, 2, 0] rfl (t_X9_goExact_11 C hf_X9_goExact FU x1 (iI 0) m)
def R_188 : Nat → (Int32 → Mm → Option (Unit × Mm))
  | 0 => (fun _ _ => none)
  | d + 1 => (B_X9_goExact (R_188 d))
set_option maxRecDepth 100000 in
set_option maxHeartbeats 4000000 in
theorem r_188 (ll : Launch) (cx : CX) : ∀ d : Nat, (∀ (x1 : Int32) (m : Mm), MT ll yX9_goExact cX9_goExact 4 (none) (rmS_188 d) cx NN NN Lay cvV 0 0 [.ref (cx.2.2.1 + 113), .int x1] m ((R_188 d) x1 m))
  | 0 => fun _ _ => fun r μ1 h => (by cases (show (none : Option (Unit × Mm)) = some (r, μ1) from h))
  | d + 1 => b_X9_goExact _ (r_188 ll cx d)
def F_X9_goExact (x1 : Int32) (m : Mm) : Option (Unit × Mm) := (R_188 40) x1 m
theorem c_X9_goExact (ll : Launch) (cx : CX) (x1 : Int32) (m : Mm) : MT ll yX9_goExact cX9_goExact 4 (none) (rmS_188 40) cx NN NN Lay cvV 0 0 [.ref (cx.2.2.1 + 113), .int x1] m (F_X9_goExact x1 m) := (r_188 ll cx 40) x1 m
def rm_X9_exact : Room := { frames := 45, cells := 0, slots := 0, locals := 1048 }
def F_X9_exact_58  : Nat → Int32 → Int32 → Mm → Option (Int32 × Mm)
  | 0, _, _, _ => none
  | f + 1, a1, a2, m =>
    (if (gI m 113 1) ≤ a2 then
      some ((iI (-2)), m)
    else
      rd 39 a2 fun j1 =>
      (if (gI m 140 j1) = a1 then
        some (a2, m)
      else
        nm (a2 + (iI 1)) fun v2 =>
        F_X9_exact_58  f a1 v2 m))
set_option maxRecDepth 100000 in
set_option maxHeartbeats 4000000 in
theorem t_X9_exact_58 {pp : Program} {ll : Launch} {ee : Env} {ss : State} {mm : MethodId} {aa : Array Value} {bb : List Frame} {me : Method} {co : Code} {cx : CX}     (C : CM pp ss mm aa me co cX9_exact 3 RX9 cx ((some .int)))    : ∀ (f : Nat) (a1 : Int32) (a2 : Int32) (m : Mm), TI pp ll ee rm_X9_exact ss mm aa bb me co 3 cx 58 [(0, .ref (cx.2.2.1 + 113)), (1, .int a1), (2, .int a2)] [] m (F_X9_exact_58  f a1 a2 m) := by
  intro f
  induction f with
  | zero => exact fun _ _ _ => T_none
  | succ f ih =>
    intro a1 a2 m
    unfold F_X9_exact_58
    refine T_iload_n C.1 dX9_exact_58 2 rfl ?_
    refine T_aload_n C.1 dX9_exact_59 0 rfl ?_
    refine T_getI C.1 fd_X9_155 (fun _ _ _ _ => rfl) sh113 le113 dX9_exact_60 ?_
    refine T_icmp_ge (tgt := 84) C.1 dX9_exact_63 (by decide) ?_ ?_
    · refine T_bipush C.1 dX9_exact_84 rfl ?_
      exact T_iret C.1 C.2.1 C.2.2 dX9_exact_86
    · refine T_aload_n C.1 dX9_exact_66 0 rfl ?_
      refine T_getR (x := 140) C.1 fd_X9_97 (fun _ _ _ _ => rfl) sh113 le113 (fun _ h => h) rfl (by decide) dX9_exact_67 ?_
      refine T_iload_n C.1 dX9_exact_70 2 rfl ?_
      refine T_iald C.1 dX9_exact_71 sh140 le140 (fun j1 => ?_)
      refine T_iload_n C.1 dX9_exact_72 1 rfl ?_
      refine T_icmp_ne (tgt := 78) C.1 dX9_exact_73 (by decide) ?_ ?_
      · refine T_iincN C.1 (fun v2 => [(2, .int v2), (0, .ref (cx.2.2.1 + 113)), (1, .int a1)]) dX9_exact_78 2 rfl (by decide) (fun _ => rfl) (fun v2 => ?_)
        refine T_goto (tgt := 58) C.1 dX9_exact_81 (by decide) ?_
        exact T_sub [1, 2, 0] rfl (ih a1 v2 m)
      · refine T_iload_n C.1 dX9_exact_76 2 rfl ?_
        exact T_iret C.1 C.2.1 C.2.2 dX9_exact_77
def F_X9_exact  (x1 : Int32) (m : Mm) : Option (Int32 × Mm) :=
  bnd (F_X9_in x1 (iI (-1)) ((gI m 113 1) - (iI 1)) m) fun v1 m2 =>
  (if v1 = iI 0 then
    some ((iI (-1)), m2)
  else
    (if (iI 3) < (gI m2 113 1) then
      some ((iI (-5)), m2)
    else
      (if (gI m2 113 5) ≤ (iI 2) then
        bnd (F_X9_beginAt (iI 1) m2) fun _ m4 =>
        bnd (F_X9_goExact (iI 0) m4) fun _ m6 =>
        (if iI 0 ≤ x1 then
          F_X9_exact_58 FU x1 (iI 0) m6
        else
          rd 13 (iI 0) fun j7 =>
          some ((gI m6 141 j7), m6))
      else
        some ((iI (-5)), m2))))
set_option maxRecDepth 100000 in
set_option maxHeartbeats 4000000 in
theorem c_X9_exact (ll : Launch) (cx : CX) (x1 : Int32) (m : Mm) : MT ll yX9_exact cX9_exact 3 ((some .int)) rm_X9_exact cx NN NN Lay cvI 0 0 [.ref (cx.2.2.1 + 113), .int x1] m (F_X9_exact x1 m) := by
  refine MT_of (by decide) (Nat.le_of_ble_eq_true rfl) ?_
  intro pp ee ss mm aa bb me co hK hr hk hn
  have C : CM pp ss mm aa me co cX9_exact 3 RX9 cx ((some .int)) := ⟨hK, hr, hk⟩
  show TI pp ll ee rm_X9_exact ss mm aa bb me co 3 cx 0 [(0, .ref (cx.2.2.1 + 113)), (1, .int x1)] [] m (F_X9_exact x1 m)
  unfold F_X9_exact
  refine T_iload_n C.1 dX9_exact_0 1 rfl ?_
  refine T_iconst C.1 dX9_exact_1 ?_
  refine T_aload_n C.1 dX9_exact_2 0 rfl ?_
  refine T_getI C.1 fd_X9_155 (fun _ _ _ _ => rfl) sh113 le113 dX9_exact_3 ?_
  refine T_iconst C.1 dX9_exact_6 ?_
  refine T_isub C.1 dX9_exact_7 ?_
  refine T_callSI (rm := rm_X9_in) [.int x1, .int (iI (-1)), .int ((gI m 113 1) - (iI 1))] [] C.1 dX9_exact_8 mw_X9_in wm_5_145 wm_5_146 ⟨Nat.le_of_ble_eq_true rfl, Nat.le_of_ble_eq_true rfl⟩ ⟨rfl, rfl⟩ ⟨Nat.zero_le _, Nat.zero_le _⟩ rfl rfl (Nat.le_of_ble_eq_true rfl) (c_X9_in ll cx x1 (iI (-1)) ((gI m 113 1) - (iI 1)) m) (fun v1 m2 => ?_)
  refine T_if_ne (tgt := 16) C.1 dX9_exact_11 (by decide) ?_ ?_
  · refine T_aload_n C.1 dX9_exact_16 0 rfl ?_
    refine T_getI C.1 fd_X9_155 (fun _ _ _ _ => rfl) sh113 le113 dX9_exact_17 ?_
    refine T_iconst C.1 dX9_exact_20 ?_
    refine T_icmp_gt (tgt := 32) C.1 dX9_exact_21 (by decide) ?_ ?_
    · refine T_bipush C.1 dX9_exact_32 rfl ?_
      exact T_iret C.1 C.2.1 C.2.2 dX9_exact_34
    · refine T_aload_n C.1 dX9_exact_24 0 rfl ?_
      refine T_getI C.1 fd_X9_19 (fun _ _ _ _ => rfl) sh113 le113 dX9_exact_25 ?_
      refine T_iconst C.1 dX9_exact_28 ?_
      refine T_icmp_le (tgt := 35) C.1 dX9_exact_29 (by decide) ?_ ?_
      · refine T_aload_n C.1 dX9_exact_35 0 rfl ?_
        refine T_iconst C.1 dX9_exact_36 ?_
        refine T_callVV (rm := rm_X9_beginAt) [.int (iI 1)] [] C.1 dX9_exact_37 mw_X9_beginAt wm_5_152 wm_5_154 wm_p_36 ⟨Nat.le_of_ble_eq_true rfl, Nat.le_of_ble_eq_true rfl⟩ ⟨rfl, rfl⟩ ⟨Nat.zero_le _, Nat.zero_le _⟩ rfl rfl (Nat.le_of_ble_eq_true rfl) sh113 le113 ⟨rfl, rfl⟩ (c_X9_beginAt ll cx (iI 1) m2) (fun u3 m4 => ?_)
        refine T_aload_n C.1 dX9_exact_40 0 rfl ?_
        refine T_iconst C.1 dX9_exact_41 ?_
        refine T_callVV (rm := (rmS_188 40)) [.int (iI 0)] [] C.1 dX9_exact_42 mw_X9_goExact wm_6_138 wm_6_140 wm_p_71 ⟨Nat.le_of_ble_eq_true rfl, Nat.le_of_ble_eq_true rfl⟩ ⟨rfl, rfl⟩ ⟨Nat.zero_le _, Nat.zero_le _⟩ rfl rfl (Nat.le_of_ble_eq_true rfl) sh113 le113 ⟨rfl, rfl⟩ (c_X9_goExact ll cx (iI 0) m4) (fun u5 m6 => ?_)
        refine T_iload_n C.1 dX9_exact_45 1 rfl ?_
        refine T_if_ge (tgt := 56) C.1 dX9_exact_46 (by decide) ?_ ?_
        · refine T_iconst C.1 dX9_exact_56 ?_
          refine T_istore_n (lv' := [(2, .int (iI 0)), (0, .ref (cx.2.2.1 + 113)), (1, .int x1)]) C.1 dX9_exact_57 (by decide) rfl ?_
          exact T_sub [1, 2, 0] rfl (t_X9_exact_58 C FU x1 (iI 0) m6)
        · refine T_aload_n C.1 dX9_exact_49 0 rfl ?_
          refine T_getR (x := 141) C.1 fd_X9_100 (fun _ _ _ _ => rfl) sh113 le113 (fun _ h => h) rfl (by decide) dX9_exact_50 ?_
          refine T_iconst C.1 dX9_exact_53 ?_
          refine T_iald C.1 dX9_exact_54 sh141 le141 (fun j7 => ?_)
          exact T_iret C.1 C.2.1 C.2.2 dX9_exact_55
      · refine T_bipush C.1 dX9_exact_32 rfl ?_
        exact T_iret C.1 C.2.1 C.2.2 dX9_exact_34
  · refine T_iconst C.1 dX9_exact_14 ?_
    exact T_iret C.1 C.2.1 C.2.2 dX9_exact_15
def rmS_190 (d : Nat) : Room := { frames := 2 + d, cells := 0, slots := 0, locals := 61 + 24 * d }
def F_X9_goParts_115 (k_58 : Int32 → Int32 → Int32 → Int32 → Mm → Option (Unit × Mm)) (f_X9_goParts : Int32 → Int32 → Int32 → Mm → Option (Unit × Mm)) (a1 : Int32) (a2 : Int32) (a3 : Int32) (a4 : Int32) (m : Mm) : Option (Unit × Mm) :=
  nm (a4 + (iI 1)) fun v1 =>
  k_58 a1 a2 a3 v1 m
set_option maxRecDepth 100000 in
set_option maxHeartbeats 4000000 in
theorem t_X9_goParts_115 {pp : Program} {ll : Launch} {ee : Env} {ss : State} {mm : MethodId} {aa : Array Value} {bb : List Frame} {me : Method} {co : Code} {cx : CX} {dd : Nat} {k_58 : Int32 → Int32 → Int32 → Int32 → Mm → Option (Unit × Mm)} {f_X9_goParts : Int32 → Int32 → Int32 → Mm → Option (Unit × Mm)}  (C : CM pp ss mm aa me co cX9_goParts 5 RX9 cx (none))  (hf_X9_goParts : ∀ (x1 : Int32) (x2 : Int32) (x3 : Int32) (m : Mm), MT ll yX9_goParts cX9_goParts 5 (none) (rmS_190 dd) cx NN NN Lay cvV 0 0 [.ref (cx.2.2.1 + 113), .int x1, .int x2, .int x3] m (f_X9_goParts x1 x2 x3 m))  (hk_58 : ∀ (a1 : Int32) (a2 : Int32) (a3 : Int32) (a4 : Int32) (m : Mm), TV pp ll ee (rmS_190 (dd + 1)) ss mm aa bb me co 5 cx 58 [(0, .ref (cx.2.2.1 + 113)), (1, .int a1), (2, .int a2), (3, .int a3), (4, .int a4)] [] m (k_58 a1 a2 a3 a4 m)) (a1 : Int32) (a2 : Int32) (a3 : Int32) (a4 : Int32) (m : Mm) : TV pp ll ee (rmS_190 (dd + 1)) ss mm aa bb me co 5 cx 115 [(0, .ref (cx.2.2.1 + 113)), (1, .int a1), (2, .int a2), (3, .int a3), (4, .int a4)] [] m (F_X9_goParts_115 k_58 f_X9_goParts a1 a2 a3 a4 m) := by
  unfold F_X9_goParts_115
  refine T_iincN C.1 (fun v1 => [(4, .int v1), (0, .ref (cx.2.2.1 + 113)), (1, .int a1), (2, .int a2), (3, .int a3)]) dX9_goParts_115 4 rfl (by decide) (fun _ => rfl) (fun v1 => ?_)
  refine T_goto (tgt := 58) C.1 dX9_goParts_118 (by decide) ?_
  exact T_sub [1, 2, 3, 4, 0] rfl (hk_58 a1 a2 a3 v1 m)
def F_X9_goParts_58 (f_X9_goParts : Int32 → Int32 → Int32 → Mm → Option (Unit × Mm)) : Nat → Int32 → Int32 → Int32 → Int32 → Mm → Option (Unit × Mm)
  | 0, _, _, _, _, _ => none
  | f + 1, a1, a2, a3, a4, m =>
    (if (gI m 113 1) ≤ a4 then
      some ((), m)
    else
      bnd (F_X9_bit a2 a4 m) fun v1 m2 =>
      (if v1 = (iI 1) then
        F_X9_goParts_115 (F_X9_goParts_58 f_X9_goParts f) f_X9_goParts a1 a2 a3 a4 m2
      else
        wrI 7 m2 142 a1 a4 fun m3 =>
        rd 49 (((iI 7) * a1) + a4) fun j4 =>
        bnd (f_X9_goParts (a1 + (iI 1)) (a2 ||| ((iI 1) <<< (a4 &&& 31))) (a3 + (gI m3 114 j4)) m3) fun _ m6 =>
        F_X9_goParts_115 (F_X9_goParts_58 f_X9_goParts f) f_X9_goParts a1 a2 a3 a4 m6))
set_option maxRecDepth 100000 in
set_option maxHeartbeats 4000000 in
theorem t_X9_goParts_58 {pp : Program} {ll : Launch} {ee : Env} {ss : State} {mm : MethodId} {aa : Array Value} {bb : List Frame} {me : Method} {co : Code} {cx : CX} {dd : Nat}  {f_X9_goParts : Int32 → Int32 → Int32 → Mm → Option (Unit × Mm)}  (C : CM pp ss mm aa me co cX9_goParts 5 RX9 cx (none))  (hf_X9_goParts : ∀ (x1 : Int32) (x2 : Int32) (x3 : Int32) (m : Mm), MT ll yX9_goParts cX9_goParts 5 (none) (rmS_190 dd) cx NN NN Lay cvV 0 0 [.ref (cx.2.2.1 + 113), .int x1, .int x2, .int x3] m (f_X9_goParts x1 x2 x3 m))   : ∀ (f : Nat) (a1 : Int32) (a2 : Int32) (a3 : Int32) (a4 : Int32) (m : Mm), TV pp ll ee (rmS_190 (dd + 1)) ss mm aa bb me co 5 cx 58 [(0, .ref (cx.2.2.1 + 113)), (1, .int a1), (2, .int a2), (3, .int a3), (4, .int a4)] [] m (F_X9_goParts_58 f_X9_goParts f a1 a2 a3 a4 m) := by
  intro f
  induction f with
  | zero => exact fun _ _ _ _ _ => T_none
  | succ f ih =>
    intro a1 a2 a3 a4 m
    unfold F_X9_goParts_58
    refine T_iload C.1 dX9_goParts_58 4 rfl ?_
    refine T_aload_n C.1 dX9_goParts_60 0 rfl ?_
    refine T_getI C.1 fd_X9_155 (fun _ _ _ _ => rfl) sh113 le113 dX9_goParts_61 ?_
    refine T_icmp_ge (tgt := 121) C.1 dX9_goParts_64 (by decide) ?_ ?_
    · exact T_vret C.1 C.2.1 C.2.2 dX9_goParts_121
    · refine T_iload_n C.1 dX9_goParts_67 2 rfl ?_
      refine T_iload C.1 dX9_goParts_68 4 rfl ?_
      refine T_callSI (rm := rm_X9_bit) [.int a2, .int a4] [] C.1 dX9_goParts_70 mw_X9_bit wm_5_206 wm_5_207 (by constructor <;> (simp only [rmS_190, rm_X9_bit]; omega)) ⟨rfl, rfl⟩ ⟨Nat.zero_le _, Nat.zero_le _⟩ rfl rfl (Nat.le_of_ble_eq_true rfl) (c_X9_bit ll cx a2 a4 m) (fun v1 m2 => ?_)
      refine T_iconst C.1 dX9_goParts_73 ?_
      refine T_icmp_ne (tgt := 80) C.1 dX9_goParts_74 (by decide) ?_ ?_
      · refine T_aload_n C.1 dX9_goParts_80 0 rfl ?_
        refine T_getR (x := 142) C.1 fd_X9_103 (fun _ _ _ _ => rfl) sh113 le113 (fun _ h => h) rfl (by decide) dX9_goParts_81 ?_
        refine T_iload_n C.1 dX9_goParts_84 1 rfl ?_
        refine T_iload C.1 dX9_goParts_85 4 rfl ?_
        refine T_iast C.1 LyI_Lay sh142 le142 dX9_goParts_87 (fun m3 => ?_)
        refine T_aload_n C.1 dX9_goParts_88 0 rfl ?_
        refine T_iload_n C.1 dX9_goParts_89 1 rfl ?_
        refine T_iconst C.1 dX9_goParts_90 ?_
        refine T_iadd C.1 dX9_goParts_91 ?_
        refine T_iload_n C.1 dX9_goParts_92 2 rfl ?_
        refine T_iconst C.1 dX9_goParts_93 ?_
        refine T_iload C.1 dX9_goParts_94 4 rfl ?_
        refine T_ishl C.1 dX9_goParts_96 ?_
        refine T_ior C.1 dX9_goParts_97 ?_
        refine T_iload_n C.1 dX9_goParts_98 3 rfl ?_
        refine T_aload_n C.1 dX9_goParts_99 0 rfl ?_
        refine T_getR (x := 114) C.1 fd_X9_7 (fun _ _ _ _ => rfl) sh113 le113 (fun _ h => h) rfl (by decide) dX9_goParts_100 ?_
        refine T_bipush C.1 dX9_goParts_103 rfl ?_
        refine T_iload_n C.1 dX9_goParts_105 1 rfl ?_
        refine T_imul C.1 dX9_goParts_106 ?_
        refine T_iload C.1 dX9_goParts_107 4 rfl ?_
        refine T_iadd C.1 dX9_goParts_109 ?_
        refine T_iald C.1 dX9_goParts_110 sh114 le114 (fun j4 => ?_)
        refine T_iadd C.1 dX9_goParts_111 ?_
        refine T_callVV (rm := (rmS_190 dd)) [.int (a1 + (iI 1)), .int (a2 ||| ((iI 1) <<< (a4 &&& 31))), .int (a3 + (gI m3 114 j4))] [] C.1 dX9_goParts_112 mw_X9_goParts wm_6_162 wm_6_164 wm_p_76 (by constructor <;> (simp only [rmS_190]; omega)) ⟨rfl, rfl⟩ ⟨Nat.zero_le _, Nat.zero_le _⟩ rfl rfl (Nat.le_of_ble_eq_true rfl) sh113 le113 ⟨rfl, rfl⟩ (hf_X9_goParts (a1 + (iI 1)) (a2 ||| ((iI 1) <<< (a4 &&& 31))) (a3 + (gI m3 114 j4)) m3) (fun u5 m6 => ?_)
        exact T_sub [0, 1, 2, 3, 4] rfl (t_X9_goParts_115 C hf_X9_goParts (ih) a1 a2 a3 a4 m6)
      · refine T_goto (tgt := 115) C.1 dX9_goParts_77 (by decide) ?_
        exact T_sub [0, 1, 2, 3, 4] rfl (t_X9_goParts_115 C hf_X9_goParts (ih) a1 a2 a3 a4 m2)
def F_X9_goParts_25 (f_X9_goParts : Int32 → Int32 → Int32 → Mm → Option (Unit × Mm)) : Nat → Int32 → Mm → Option (Unit × Mm)
  | 0, _, _ => none
  | f + 1, a1, m =>
    (if (gI m 113 1) ≤ a1 then
      some ((), m)
    else
      rd 7 a1 fun j1 =>
      wrI 7 m 143 a1 (gI m 142 j1) fun m2 =>
      nm (a1 + (iI 1)) fun v3 =>
      F_X9_goParts_25 f_X9_goParts f v3 m2)
set_option maxRecDepth 100000 in
set_option maxHeartbeats 4000000 in
theorem t_X9_goParts_25 {pp : Program} {ll : Launch} {ee : Env} {ss : State} {mm : MethodId} {aa : Array Value} {bb : List Frame} {me : Method} {co : Code} {cx : CX} {dd : Nat}  {f_X9_goParts : Int32 → Int32 → Int32 → Mm → Option (Unit × Mm)}  (C : CM pp ss mm aa me co cX9_goParts 5 RX9 cx (none))  (hf_X9_goParts : ∀ (x1 : Int32) (x2 : Int32) (x3 : Int32) (m : Mm), MT ll yX9_goParts cX9_goParts 5 (none) (rmS_190 dd) cx NN NN Lay cvV 0 0 [.ref (cx.2.2.1 + 113), .int x1, .int x2, .int x3] m (f_X9_goParts x1 x2 x3 m))   : ∀ (f : Nat) (a1 : Int32) (m : Mm), TV pp ll ee (rmS_190 (dd + 1)) ss mm aa bb me co 5 cx 25 [(0, .ref (cx.2.2.1 + 113)), (4, .int a1)] [] m (F_X9_goParts_25 f_X9_goParts f a1 m) := by
  intro f
  induction f with
  | zero => exact fun _ _ => T_none
  | succ f ih =>
    intro a1 m
    unfold F_X9_goParts_25
    refine T_iload C.1 dX9_goParts_25 1 rfl ?_
    refine T_aload_n C.1 dX9_goParts_27 0 rfl ?_
    refine T_getI C.1 fd_X9_155 (fun _ _ _ _ => rfl) sh113 le113 dX9_goParts_28 ?_
    refine T_icmp_ge (tgt := 54) C.1 dX9_goParts_31 (by decide) ?_ ?_
    · exact T_vret C.1 C.2.1 C.2.2 dX9_goParts_54
    · refine T_aload_n C.1 dX9_goParts_34 0 rfl ?_
      refine T_getR (x := 143) C.1 fd_X9_106 (fun _ _ _ _ => rfl) sh113 le113 (fun _ h => h) rfl (by decide) dX9_goParts_35 ?_
      refine T_iload C.1 dX9_goParts_38 1 rfl ?_
      refine T_aload_n C.1 dX9_goParts_40 0 rfl ?_
      refine T_getR (x := 142) C.1 fd_X9_103 (fun _ _ _ _ => rfl) sh113 le113 (fun _ h => h) rfl (by decide) dX9_goParts_41 ?_
      refine T_iload C.1 dX9_goParts_44 1 rfl ?_
      refine T_iald C.1 dX9_goParts_46 sh142 le142 (fun j1 => ?_)
      refine T_iast C.1 LyI_Lay sh143 le143 dX9_goParts_47 (fun m2 => ?_)
      refine T_iincN C.1 (fun v3 => [(4, .int v3), (0, .ref (cx.2.2.1 + 113))]) dX9_goParts_48 1 rfl (by decide) (fun _ => rfl) (fun v3 => ?_)
      refine T_goto (tgt := 25) C.1 dX9_goParts_51 (by decide) ?_
      exact T_sub [1, 0] rfl (ih v3 m2)
def B_X9_goParts (f_X9_goParts : Int32 → Int32 → Int32 → Mm → Option (Unit × Mm)) (x1 : Int32) (x2 : Int32) (x3 : Int32) (m : Mm) : Option (Unit × Mm) :=
  (if x1 = (gI m 113 1) then
    (if (gI m 113 47) < x3 then
      nm (pI m 113 47 x3) fun m1 =>
      F_X9_goParts_25 f_X9_goParts FU (iI 0) m1
    else
      some ((), m))
  else
    F_X9_goParts_58 f_X9_goParts FU x1 x2 x3 (iI 0) m)
set_option maxRecDepth 100000 in
set_option maxHeartbeats 4000000 in
theorem b_X9_goParts {ll : Launch} {cx : CX} {dd : Nat} (f_X9_goParts : Int32 → Int32 → Int32 → Mm → Option (Unit × Mm)) (hf_X9_goParts : ∀ (x1 : Int32) (x2 : Int32) (x3 : Int32) (m : Mm), MT ll yX9_goParts cX9_goParts 5 (none) (rmS_190 dd) cx NN NN Lay cvV 0 0 [.ref (cx.2.2.1 + 113), .int x1, .int x2, .int x3] m (f_X9_goParts x1 x2 x3 m))  (x1 : Int32) (x2 : Int32) (x3 : Int32) (m : Mm) : MT ll yX9_goParts cX9_goParts 5 (none) (rmS_190 (dd + 1)) cx NN NN Lay cvV 0 0 [.ref (cx.2.2.1 + 113), .int x1, .int x2, .int x3] m (B_X9_goParts f_X9_goParts x1 x2 x3 m) := by
  refine MT_of (by decide) (Nat.le_of_ble_eq_true rfl) ?_
  intro pp ee ss mm aa bb me co hK hr hk hn
  have C : CM pp ss mm aa me co cX9_goParts 5 RX9 cx (none) := ⟨hK, hr, hk⟩
  show TV pp ll ee (rmS_190 (dd + 1)) ss mm aa bb me co 5 cx 0 [(0, .ref (cx.2.2.1 + 113)), (1, .int x1), (2, .int x2), (3, .int x3)] [] m (B_X9_goParts f_X9_goParts x1 x2 x3 m)
  unfold B_X9_goParts
  refine T_iload_n C.1 dX9_goParts_0 1 rfl ?_
  refine T_aload_n C.1 dX9_goParts_1 0 rfl ?_
  refine T_getI C.1 fd_X9_155 (fun _ _ _ _ => rfl) sh113 le113 dX9_goParts_2 ?_
  refine T_icmp_ne (tgt := 55) C.1 dX9_goParts_5 (by decide) ?_ ?_
  · refine T_iconst C.1 dX9_goParts_55 ?_
    refine T_istore (lv' := [(4, .int (iI 0)), (0, .ref (cx.2.2.1 + 113)), (1, .int x1), (2, .int x2), (3, .int x3)]) C.1 dX9_goParts_56 (by decide) rfl ?_
    exact T_sub [1, 2, 3, 4, 0] rfl (t_X9_goParts_58 C hf_X9_goParts FU x1 x2 x3 (iI 0) m)
  · refine T_iload_n C.1 dX9_goParts_8 3 rfl ?_
    refine T_aload_n C.1 dX9_goParts_9 0 rfl ?_
    refine T_getI C.1 fd_X9_352 (fun _ _ _ _ => rfl) sh113 le113 dX9_goParts_10 ?_
    refine T_icmp_gt (tgt := 17) C.1 dX9_goParts_13 (by decide) ?_ ?_
    · refine T_aload_n C.1 dX9_goParts_17 0 rfl ?_
      refine T_iload_n C.1 dX9_goParts_18 3 rfl ?_
      refine T_putI C.1 LyI_Lay fd_X9_352 sh113 le113 dX9_goParts_19 (fun m1 => ?_)
      refine T_iconst C.1 dX9_goParts_22 ?_
      refine T_istore (lv' := [(4, .int (iI 0)), (0, .ref (cx.2.2.1 + 113)), (1, .int x1), (2, .int x2), (3, .int x3)]) C.1 dX9_goParts_23 (by decide) rfl ?_
      exact T_sub [1, 0] rfl (t_X9_goParts_25 C hf_X9_goParts FU (iI 0) m1)
    · exact T_vret C.1 C.2.1 C.2.2 dX9_goParts_16
def R_190 : Nat → (Int32 → Int32 → Int32 → Mm → Option (Unit × Mm))
  | 0 => (fun _ _ _ _ => none)
  | d + 1 => (B_X9_goParts (R_190 d))
set_option maxRecDepth 100000 in
set_option maxHeartbeats 4000000 in
theorem r_190 (ll : Launch) (cx : CX) : ∀ d : Nat, (∀ (x1 : Int32) (x2 : Int32) (x3 : Int32) (m : Mm), MT ll yX9_goParts cX9_goParts 5 (none) (rmS_190 d) cx NN NN Lay cvV 0 0 [.ref (cx.2.2.1 + 113), .int x1, .int x2, .int x3] m ((R_190 d) x1 x2 x3 m))
  | 0 => fun _ _ _ _ => fun r μ1 h => (by cases (show (none : Option (Unit × Mm)) = some (r, μ1) from h))
  | d + 1 => b_X9_goParts _ (r_190 ll cx d)
def F_X9_goParts (x1 : Int32) (x2 : Int32) (x3 : Int32) (m : Mm) : Option (Unit × Mm) := (R_190 40) x1 x2 x3 m
theorem c_X9_goParts (ll : Launch) (cx : CX) (x1 : Int32) (x2 : Int32) (x3 : Int32) (m : Mm) : MT ll yX9_goParts cX9_goParts 5 (none) (rmS_190 40) cx NN NN Lay cvV 0 0 [.ref (cx.2.2.1 + 113), .int x1, .int x2, .int x3] m (F_X9_goParts x1 x2 x3 m) := (r_190 ll cx 40) x1 x2 x3 m
def rm_X9_best : Room := { frames := 43, cells := 0, slots := 0, locals := 1045 }
def F_X9_best  (x1 : Int32) (m : Mm) : Option (Int32 × Mm) :=
  bnd (F_X9_in x1 (iI (-1)) ((gI m 113 1) - (iI 1)) m) fun v1 m2 =>
  (if v1 = iI 0 then
    some ((iI (-1)), m2)
  else
    nm (pI m2 113 47 (iI (-1))) fun m3 =>
    bnd (F_X9_goParts (iI 0) (iI 0) (iI 0) m3) fun _ m5 =>
    (if iI 0 ≤ x1 then
      rd 7 x1 fun j6 =>
      some ((gI m5 143 j6), m5)
    else
      some ((gI m5 113 47), m5)))
set_option maxRecDepth 100000 in
set_option maxHeartbeats 4000000 in
theorem c_X9_best (ll : Launch) (cx : CX) (x1 : Int32) (m : Mm) : MT ll yX9_best cX9_best 2 ((some .int)) rm_X9_best cx NN NN Lay cvI 0 0 [.ref (cx.2.2.1 + 113), .int x1] m (F_X9_best x1 m) := by
  refine MT_of (by decide) (Nat.le_of_ble_eq_true rfl) ?_
  intro pp ee ss mm aa bb me co hK hr hk hn
  have C : CM pp ss mm aa me co cX9_best 2 RX9 cx ((some .int)) := ⟨hK, hr, hk⟩
  show TI pp ll ee rm_X9_best ss mm aa bb me co 2 cx 0 [(0, .ref (cx.2.2.1 + 113)), (1, .int x1)] [] m (F_X9_best x1 m)
  unfold F_X9_best
  refine T_iload_n C.1 dX9_best_0 1 rfl ?_
  refine T_iconst C.1 dX9_best_1 ?_
  refine T_aload_n C.1 dX9_best_2 0 rfl ?_
  refine T_getI C.1 fd_X9_155 (fun _ _ _ _ => rfl) sh113 le113 dX9_best_3 ?_
  refine T_iconst C.1 dX9_best_6 ?_
  refine T_isub C.1 dX9_best_7 ?_
  refine T_callSI (rm := rm_X9_in) [.int x1, .int (iI (-1)), .int ((gI m 113 1) - (iI 1))] [] C.1 dX9_best_8 mw_X9_in wm_5_145 wm_5_146 ⟨Nat.le_of_ble_eq_true rfl, Nat.le_of_ble_eq_true rfl⟩ ⟨rfl, rfl⟩ ⟨Nat.zero_le _, Nat.zero_le _⟩ rfl rfl (Nat.le_of_ble_eq_true rfl) (c_X9_in ll cx x1 (iI (-1)) ((gI m 113 1) - (iI 1)) m) (fun v1 m2 => ?_)
  refine T_if_ne (tgt := 16) C.1 dX9_best_11 (by decide) ?_ ?_
  · refine T_aload_n C.1 dX9_best_16 0 rfl ?_
    refine T_iconst C.1 dX9_best_17 ?_
    refine T_putI C.1 LyI_Lay fd_X9_352 sh113 le113 dX9_best_18 (fun m3 => ?_)
    refine T_aload_n C.1 dX9_best_21 0 rfl ?_
    refine T_iconst C.1 dX9_best_22 ?_
    refine T_iconst C.1 dX9_best_23 ?_
    refine T_iconst C.1 dX9_best_24 ?_
    refine T_callVV (rm := (rmS_190 40)) [.int (iI 0), .int (iI 0), .int (iI 0)] [] C.1 dX9_best_25 mw_X9_goParts wm_6_162 wm_6_164 wm_p_76 ⟨Nat.le_of_ble_eq_true rfl, Nat.le_of_ble_eq_true rfl⟩ ⟨rfl, rfl⟩ ⟨Nat.zero_le _, Nat.zero_le _⟩ rfl rfl (Nat.le_of_ble_eq_true rfl) sh113 le113 ⟨rfl, rfl⟩ (c_X9_goParts ll cx (iI 0) (iI 0) (iI 0) m3) (fun u4 m5 => ?_)
    refine T_iload_n C.1 dX9_best_28 1 rfl ?_
    refine T_if_ge (tgt := 39) C.1 dX9_best_29 (by decide) ?_ ?_
    · refine T_aload_n C.1 dX9_best_39 0 rfl ?_
      refine T_getR (x := 143) C.1 fd_X9_106 (fun _ _ _ _ => rfl) sh113 le113 (fun _ h => h) rfl (by decide) dX9_best_40 ?_
      refine T_iload_n C.1 dX9_best_43 1 rfl ?_
      refine T_iald C.1 dX9_best_44 sh143 le143 (fun j6 => ?_)
      exact T_iret C.1 C.2.1 C.2.2 dX9_best_45
    · refine T_aload_n C.1 dX9_best_32 0 rfl ?_
      refine T_getI C.1 fd_X9_352 (fun _ _ _ _ => rfl) sh113 le113 dX9_best_33 ?_
      refine T_goto (tgt := 45) C.1 dX9_best_36 (by decide) ?_
      exact T_iret C.1 C.2.1 C.2.2 dX9_best_45
  · refine T_iconst C.1 dX9_best_14 ?_
    exact T_iret C.1 C.2.1 C.2.2 dX9_best_15
def rm_X9_pairs : Room := { frames := 8, cells := 0, slots := 0, locals := 205 }
def F_X9_pairs_107 (k_8 : Int32 → Int32 → Mm → Option (Int32 × Mm)) (k_20 : Int32 → Int32 → Int32 → Mm → Option (Int32 × Mm)) (a1 : Int32) (a2 : Int32) (a3 : Int32) (m : Mm) : Option (Int32 × Mm) :=
  nm (a3 + (iI 1)) fun v1 =>
  k_20 a1 a2 v1 m
set_option maxRecDepth 100000 in
set_option maxHeartbeats 4000000 in
theorem t_X9_pairs_107 {pp : Program} {ll : Launch} {ee : Env} {ss : State} {mm : MethodId} {aa : Array Value} {bb : List Frame} {me : Method} {co : Code} {cx : CX}  {k_8 : Int32 → Int32 → Mm → Option (Int32 × Mm)} {k_20 : Int32 → Int32 → Int32 → Mm → Option (Int32 × Mm)}   (C : CM pp ss mm aa me co cX9_pairs 6 RX9 cx ((some .int)))   (hk_8 : ∀ (a1 : Int32) (a2 : Int32) (m : Mm), TI pp ll ee rm_X9_pairs ss mm aa bb me co 6 cx 8 [(0, .ref (cx.2.2.1 + 113)), (1, .int a1), (2, .int a2)] [] m (k_8 a1 a2 m)) (hk_20 : ∀ (a1 : Int32) (a2 : Int32) (a3 : Int32) (m : Mm), TI pp ll ee rm_X9_pairs ss mm aa bb me co 6 cx 20 [(0, .ref (cx.2.2.1 + 113)), (1, .int a1), (2, .int a2), (3, .int a3)] [] m (k_20 a1 a2 a3 m)) (a1 : Int32) (a2 : Int32) (a3 : Int32) (m : Mm) : TI pp ll ee rm_X9_pairs ss mm aa bb me co 6 cx 107 [(0, .ref (cx.2.2.1 + 113)), (1, .int a1), (2, .int a2), (3, .int a3)] [] m (F_X9_pairs_107 k_8 k_20 a1 a2 a3 m) := by
  unfold F_X9_pairs_107
  refine T_iincN C.1 (fun v1 => [(3, .int v1), (0, .ref (cx.2.2.1 + 113)), (1, .int a1), (2, .int a2)]) dX9_pairs_107 3 rfl (by decide) (fun _ => rfl) (fun v1 => ?_)
  refine T_goto (tgt := 20) C.1 dX9_pairs_110 (by decide) ?_
  exact T_sub [1, 2, 3, 0] rfl (hk_20 a1 a2 v1 m)
def F_X9_pairs_20 (k_8 : Int32 → Int32 → Mm → Option (Int32 × Mm)) : Nat → Int32 → Int32 → Int32 → Mm → Option (Int32 × Mm)
  | 0, _, _, _, _ => none
  | f + 1, a1, a2, a3, m =>
    (if (gI m 113 1) ≤ a3 then
      nm (a2 + (iI 1)) fun v1 =>
      k_8 a1 v1 m
    else
      rd 14 ((iI 7) + a2) fun j2 =>
      nm (gI m 118 j2) fun v3 =>
      rd 14 ((iI 7) + a3) fun j4 =>
      nm (gI m 118 j4) fun v5 =>
      rd 49 (((iI 7) * v3) + a3) fun j6 =>
      rd 49 (((iI 7) * v3) + a2) fun j7 =>
      (if (gI m 114 j6) ≤ (gI m 114 j7) then
        F_X9_pairs_107 (k_8) (F_X9_pairs_20 k_8 f) a1 a2 a3 m
      else
        rd 49 (((iI 7) * v5) + a2) fun j8 =>
        rd 49 (((iI 7) * v5) + a3) fun j9 =>
        (if (gI m 114 j8) ≤ (gI m 114 j9) then
          F_X9_pairs_107 (k_8) (F_X9_pairs_20 k_8 f) a1 a2 a3 m
        else
          nm (a1 + (iI 1)) fun v10 =>
          F_X9_pairs_107 (k_8) (F_X9_pairs_20 k_8 f) v10 a2 a3 m)))
set_option maxRecDepth 100000 in
set_option maxHeartbeats 4000000 in
theorem t_X9_pairs_20 {pp : Program} {ll : Launch} {ee : Env} {ss : State} {mm : MethodId} {aa : Array Value} {bb : List Frame} {me : Method} {co : Code} {cx : CX}  {k_8 : Int32 → Int32 → Mm → Option (Int32 × Mm)}   (C : CM pp ss mm aa me co cX9_pairs 6 RX9 cx ((some .int)))   (hk_8 : ∀ (a1 : Int32) (a2 : Int32) (m : Mm), TI pp ll ee rm_X9_pairs ss mm aa bb me co 6 cx 8 [(0, .ref (cx.2.2.1 + 113)), (1, .int a1), (2, .int a2)] [] m (k_8 a1 a2 m)) : ∀ (f : Nat) (a1 : Int32) (a2 : Int32) (a3 : Int32) (m : Mm), TI pp ll ee rm_X9_pairs ss mm aa bb me co 6 cx 20 [(0, .ref (cx.2.2.1 + 113)), (1, .int a1), (2, .int a2), (3, .int a3)] [] m (F_X9_pairs_20 k_8 f a1 a2 a3 m) := by
  intro f
  induction f with
  | zero => exact fun _ _ _ _ => T_none
  | succ f ih =>
    intro a1 a2 a3 m
    unfold F_X9_pairs_20
    refine T_iload_n C.1 dX9_pairs_20 3 rfl ?_
    refine T_aload_n C.1 dX9_pairs_21 0 rfl ?_
    refine T_getI C.1 fd_X9_155 (fun _ _ _ _ => rfl) sh113 le113 dX9_pairs_22 ?_
    refine T_icmp_ge (tgt := 113) C.1 dX9_pairs_25 (by decide) ?_ ?_
    · refine T_iincN C.1 (fun v1 => [(2, .int v1), (0, .ref (cx.2.2.1 + 113)), (1, .int a1), (3, .int a3)]) dX9_pairs_113 2 rfl (by decide) (fun _ => rfl) (fun v1 => ?_)
      refine T_goto (tgt := 8) C.1 dX9_pairs_116 (by decide) ?_
      exact T_sub [1, 2, 0] rfl (hk_8 a1 v1 m)
    · refine T_aload_n C.1 dX9_pairs_28 0 rfl ?_
      refine T_getR (x := 118) C.1 fd_X9_26 (fun _ _ _ _ => rfl) sh113 le113 (fun _ h => h) rfl (by decide) dX9_pairs_29 ?_
      refine T_bipush C.1 dX9_pairs_32 rfl ?_
      refine T_iload_n C.1 dX9_pairs_34 2 rfl ?_
      refine T_iadd C.1 dX9_pairs_35 ?_
      refine T_iald C.1 dX9_pairs_36 sh118 le118 (fun j2 => ?_)
      refine T_istoreN C.1 (fun v3 => [(4, .int v3), (0, .ref (cx.2.2.1 + 113)), (1, .int a1), (2, .int a2), (3, .int a3)]) dX9_pairs_37 (by decide) (fun _ => rfl) (fun v3 => ?_)
      refine T_aload_n C.1 dX9_pairs_39 1 rfl ?_
      refine T_getR (x := 118) C.1 fd_X9_26 (fun _ _ _ _ => rfl) sh113 le113 (fun _ h => h) rfl (by decide) dX9_pairs_40 ?_
      refine T_bipush C.1 dX9_pairs_43 rfl ?_
      refine T_iload_n C.1 dX9_pairs_45 4 rfl ?_
      refine T_iadd C.1 dX9_pairs_46 ?_
      refine T_iald C.1 dX9_pairs_47 sh118 le118 (fun j4 => ?_)
      refine T_istoreN C.1 (fun v5 => [(5, .int v5), (4, .int v3), (0, .ref (cx.2.2.1 + 113)), (1, .int a1), (2, .int a2), (3, .int a3)]) dX9_pairs_48 (by decide) (fun _ => rfl) (fun v5 => ?_)
      refine T_aload_n C.1 dX9_pairs_50 2 rfl ?_
      refine T_getR (x := 114) C.1 fd_X9_7 (fun _ _ _ _ => rfl) sh113 le113 (fun _ h => h) rfl (by decide) dX9_pairs_51 ?_
      refine T_bipush C.1 dX9_pairs_54 rfl ?_
      refine T_iload C.1 dX9_pairs_56 1 rfl ?_
      refine T_imul C.1 dX9_pairs_58 ?_
      refine T_iload_n C.1 dX9_pairs_59 5 rfl ?_
      refine T_iadd C.1 dX9_pairs_60 ?_
      refine T_iald C.1 dX9_pairs_61 sh114 le114 (fun j6 => ?_)
      refine T_aload_n C.1 dX9_pairs_62 2 rfl ?_
      refine T_getR (x := 114) C.1 fd_X9_7 (fun _ _ _ _ => rfl) sh113 le113 (fun _ h => h) rfl (by decide) dX9_pairs_63 ?_
      refine T_bipush C.1 dX9_pairs_66 rfl ?_
      refine T_iload C.1 dX9_pairs_68 1 rfl ?_
      refine T_imul C.1 dX9_pairs_70 ?_
      refine T_iload_n C.1 dX9_pairs_71 4 rfl ?_
      refine T_iadd C.1 dX9_pairs_72 ?_
      refine T_iald C.1 dX9_pairs_73 sh114 le114 (fun j7 => ?_)
      refine T_icmp_le (tgt := 107) C.1 dX9_pairs_74 (by decide) ?_ ?_
      · exact T_sub [2, 3, 4, 5] rfl (t_X9_pairs_107 C (hk_8) (ih) a1 a2 a3 m)
      · refine T_aload_n C.1 dX9_pairs_77 2 rfl ?_
        refine T_getR (x := 114) C.1 fd_X9_7 (fun _ _ _ _ => rfl) sh113 le113 (fun _ h => h) rfl (by decide) dX9_pairs_78 ?_
        refine T_bipush C.1 dX9_pairs_81 rfl ?_
        refine T_iload C.1 dX9_pairs_83 0 rfl ?_
        refine T_imul C.1 dX9_pairs_85 ?_
        refine T_iload_n C.1 dX9_pairs_86 4 rfl ?_
        refine T_iadd C.1 dX9_pairs_87 ?_
        refine T_iald C.1 dX9_pairs_88 sh114 le114 (fun j8 => ?_)
        refine T_aload_n C.1 dX9_pairs_89 2 rfl ?_
        refine T_getR (x := 114) C.1 fd_X9_7 (fun _ _ _ _ => rfl) sh113 le113 (fun _ h => h) rfl (by decide) dX9_pairs_90 ?_
        refine T_bipush C.1 dX9_pairs_93 rfl ?_
        refine T_iload C.1 dX9_pairs_95 0 rfl ?_
        refine T_imul C.1 dX9_pairs_97 ?_
        refine T_iload_n C.1 dX9_pairs_98 5 rfl ?_
        refine T_iadd C.1 dX9_pairs_99 ?_
        refine T_iald C.1 dX9_pairs_100 sh114 le114 (fun j9 => ?_)
        refine T_icmp_le (tgt := 107) C.1 dX9_pairs_101 (by decide) ?_ ?_
        · exact T_sub [2, 3, 4, 5] rfl (t_X9_pairs_107 C (hk_8) (ih) a1 a2 a3 m)
        · refine T_iincN C.1 (fun v10 => [(1, .int v10), (5, .int v5), (4, .int v3), (0, .ref (cx.2.2.1 + 113)), (2, .int a2), (3, .int a3)]) dX9_pairs_104 3 rfl (by decide) (fun _ => rfl) (fun v10 => ?_)
          exact T_sub [3, 0, 4, 5] rfl (t_X9_pairs_107 C (hk_8) (ih) v10 a2 a3 m)
def F_X9_pairs_8  : Nat → Int32 → Int32 → Mm → Option (Int32 × Mm)
  | 0, _, _, _ => none
  | f + 1, a1, a2, m =>
    (if (gI m 113 1) ≤ a2 then
      some (a1, m)
    else
      nm (a2 + (iI 1)) fun v1 =>
      F_X9_pairs_20 (F_X9_pairs_8  f) FU a1 a2 v1 m)
set_option maxRecDepth 100000 in
set_option maxHeartbeats 4000000 in
theorem t_X9_pairs_8 {pp : Program} {ll : Launch} {ee : Env} {ss : State} {mm : MethodId} {aa : Array Value} {bb : List Frame} {me : Method} {co : Code} {cx : CX}     (C : CM pp ss mm aa me co cX9_pairs 6 RX9 cx ((some .int)))    : ∀ (f : Nat) (a1 : Int32) (a2 : Int32) (m : Mm), TI pp ll ee rm_X9_pairs ss mm aa bb me co 6 cx 8 [(0, .ref (cx.2.2.1 + 113)), (1, .int a1), (2, .int a2)] [] m (F_X9_pairs_8  f a1 a2 m) := by
  intro f
  induction f with
  | zero => exact fun _ _ _ => T_none
  | succ f ih =>
    intro a1 a2 m
    unfold F_X9_pairs_8
    refine T_iload_n C.1 dX9_pairs_8 2 rfl ?_
    refine T_aload_n C.1 dX9_pairs_9 0 rfl ?_
    refine T_getI C.1 fd_X9_155 (fun _ _ _ _ => rfl) sh113 le113 dX9_pairs_10 ?_
    refine T_icmp_ge (tgt := 119) C.1 dX9_pairs_13 (by decide) ?_ ?_
    · refine T_iload_n C.1 dX9_pairs_119 1 rfl ?_
      exact T_iret C.1 C.2.1 C.2.2 dX9_pairs_120
    · refine T_iload_n C.1 dX9_pairs_16 2 rfl ?_
      refine T_iconst C.1 dX9_pairs_17 ?_
      refine T_iadd C.1 dX9_pairs_18 ?_
      refine T_istore_nN C.1 (fun v1 => [(3, .int v1), (0, .ref (cx.2.2.1 + 113)), (1, .int a1), (2, .int a2)]) dX9_pairs_19 (by decide) (fun _ => rfl) (fun v1 => ?_)
      exact T_sub [1, 2, 3, 0] rfl (t_X9_pairs_20 C (ih) FU a1 a2 v1 m)
def F_X9_pairs   (m : Mm) : Option (Int32 × Mm) :=
  bnd (F_X9_goEvening m) fun _ m2 =>
  F_X9_pairs_8 FU (iI 0) (iI 0) m2
set_option maxRecDepth 100000 in
set_option maxHeartbeats 4000000 in
theorem c_X9_pairs (ll : Launch) (cx : CX)  (m : Mm) : MT ll yX9_pairs cX9_pairs 6 ((some .int)) rm_X9_pairs cx NN NN Lay cvI 0 0 [.ref (cx.2.2.1 + 113)] m (F_X9_pairs  m) := by
  refine MT_of (by decide) (Nat.le_of_ble_eq_true rfl) ?_
  intro pp ee ss mm aa bb me co hK hr hk hn
  have C : CM pp ss mm aa me co cX9_pairs 6 RX9 cx ((some .int)) := ⟨hK, hr, hk⟩
  show TI pp ll ee rm_X9_pairs ss mm aa bb me co 6 cx 0 [(0, .ref (cx.2.2.1 + 113))] [] m (F_X9_pairs  m)
  unfold F_X9_pairs
  refine T_aload_n C.1 dX9_pairs_0 0 rfl ?_
  refine T_callVV (rm := rm_X9_goEvening) [] [] C.1 dX9_pairs_1 mw_X9_goEvening wm_6_130 wm_6_132 wm_p_70 ⟨Nat.le_of_ble_eq_true rfl, Nat.le_of_ble_eq_true rfl⟩ ⟨rfl, rfl⟩ ⟨Nat.zero_le _, Nat.zero_le _⟩ rfl rfl (Nat.le_of_ble_eq_true rfl) sh113 le113 ⟨rfl, rfl⟩ (c_X9_goEvening ll cx m) (fun u1 m2 => ?_)
  refine T_iconst C.1 dX9_pairs_4 ?_
  refine T_istore_n (lv' := [(1, .int (iI 0)), (0, .ref (cx.2.2.1 + 113))]) C.1 dX9_pairs_5 (by decide) rfl ?_
  refine T_iconst C.1 dX9_pairs_6 ?_
  refine T_istore_n (lv' := [(2, .int (iI 0)), (1, .int (iI 0)), (0, .ref (cx.2.2.1 + 113))]) C.1 dX9_pairs_7 (by decide) rfl ?_
  exact T_sub [2, 1, 0] rfl (t_X9_pairs_8 C FU (iI 0) (iI 0) m2)
def rm_X9_face : Room := { frames := 8, cells := 0, slots := 0, locals := 205 }
def F_X9_face_138  : Nat → Int32 → Int32 → Int32 → Mm → Option (Int32 × Mm)
  | 0, _, _, _, _ => none
  | f + 1, a1, a2, a3, m =>
    (if (gI m 113 1) ≤ a3 then
      some (a2, m)
    else
      rd 7 a3 fun j1 =>
      wrI 49 m 114 (((iI 7) * a3) + a1) (gI m 144 j1) fun m2 =>
      nm (a3 + (iI 1)) fun v3 =>
      F_X9_face_138  f a1 a2 v3 m2)
set_option maxRecDepth 100000 in
set_option maxHeartbeats 4000000 in
theorem t_X9_face_138 {pp : Program} {ll : Launch} {ee : Env} {ss : State} {mm : MethodId} {aa : Array Value} {bb : List Frame} {me : Method} {co : Code} {cx : CX}     (C : CM pp ss mm aa me co cX9_face 5 RX9 cx ((some .int)))    : ∀ (f : Nat) (a1 : Int32) (a2 : Int32) (a3 : Int32) (m : Mm), TI pp ll ee rm_X9_face ss mm aa bb me co 5 cx 138 [(0, .ref (cx.2.2.1 + 113)), (1, .int a1), (2, .int a2), (3, .int a3)] [] m (F_X9_face_138  f a1 a2 a3 m) := by
  intro f
  induction f with
  | zero => exact fun _ _ _ _ => T_none
  | succ f ih =>
    intro a1 a2 a3 m
    unfold F_X9_face_138
    refine T_iload_n C.1 dX9_face_138 3 rfl ?_
    refine T_aload_n C.1 dX9_face_139 0 rfl ?_
    refine T_getI C.1 fd_X9_155 (fun _ _ _ _ => rfl) sh113 le113 dX9_face_140 ?_
    refine T_icmp_ge (tgt := 169) C.1 dX9_face_143 (by decide) ?_ ?_
    · refine T_iload_n C.1 dX9_face_169 2 rfl ?_
      exact T_iret C.1 C.2.1 C.2.2 dX9_face_170
    · refine T_aload_n C.1 dX9_face_146 0 rfl ?_
      refine T_getR (x := 114) C.1 fd_X9_7 (fun _ _ _ _ => rfl) sh113 le113 (fun _ h => h) rfl (by decide) dX9_face_147 ?_
      refine T_bipush C.1 dX9_face_150 rfl ?_
      refine T_iload_n C.1 dX9_face_152 3 rfl ?_
      refine T_imul C.1 dX9_face_153 ?_
      refine T_iload_n C.1 dX9_face_154 1 rfl ?_
      refine T_iadd C.1 dX9_face_155 ?_
      refine T_aload_n C.1 dX9_face_156 0 rfl ?_
      refine T_getR (x := 144) C.1 fd_X9_109 (fun _ _ _ _ => rfl) sh113 le113 (fun _ h => h) rfl (by decide) dX9_face_157 ?_
      refine T_iload_n C.1 dX9_face_160 3 rfl ?_
      refine T_iald C.1 dX9_face_161 sh144 le144 (fun j1 => ?_)
      refine T_iast C.1 LyI_Lay sh114 le114 dX9_face_162 (fun m2 => ?_)
      refine T_iincN C.1 (fun v3 => [(3, .int v3), (0, .ref (cx.2.2.1 + 113)), (1, .int a1), (2, .int a2)]) dX9_face_163 3 rfl (by decide) (fun _ => rfl) (fun v3 => ?_)
      refine T_goto (tgt := 138) C.1 dX9_face_166 (by decide) ?_
      exact T_sub [1, 2, 3, 0] rfl (ih a1 a2 v3 m2)
def F_X9_face_136  (a1 : Int32) (a2 : Int32) (m : Mm) : Option (Int32 × Mm) :=
  F_X9_face_138 FU a1 a2 (iI 0) m
set_option maxRecDepth 100000 in
set_option maxHeartbeats 4000000 in
theorem t_X9_face_136 {pp : Program} {ll : Launch} {ee : Env} {ss : State} {mm : MethodId} {aa : Array Value} {bb : List Frame} {me : Method} {co : Code} {cx : CX}     (C : CM pp ss mm aa me co cX9_face 5 RX9 cx ((some .int)))    (a1 : Int32) (a2 : Int32) (m : Mm) : TI pp ll ee rm_X9_face ss mm aa bb me co 5 cx 136 [(0, .ref (cx.2.2.1 + 113)), (1, .int a1), (2, .int a2)] [] m (F_X9_face_136  a1 a2 m) := by
  unfold F_X9_face_136
  refine T_iconst C.1 dX9_face_136 ?_
  refine T_istore_n (lv' := [(3, .int (iI 0)), (0, .ref (cx.2.2.1 + 113)), (1, .int a1), (2, .int a2)]) C.1 dX9_face_137 (by decide) rfl ?_
  exact T_sub [1, 2, 3, 0] rfl (t_X9_face_138 C FU a1 a2 (iI 0) m)
def F_X9_face_130 (k_48 : Int32 → Int32 → Int32 → Mm → Option (Int32 × Mm)) (a1 : Int32) (a2 : Int32) (a3 : Int32) (m : Mm) : Option (Int32 × Mm) :=
  nm (a3 + (iI 1)) fun v1 =>
  k_48 a1 a2 v1 m
set_option maxRecDepth 100000 in
set_option maxHeartbeats 4000000 in
theorem t_X9_face_130 {pp : Program} {ll : Launch} {ee : Env} {ss : State} {mm : MethodId} {aa : Array Value} {bb : List Frame} {me : Method} {co : Code} {cx : CX}  {k_48 : Int32 → Int32 → Int32 → Mm → Option (Int32 × Mm)}   (C : CM pp ss mm aa me co cX9_face 5 RX9 cx ((some .int)))   (hk_48 : ∀ (a1 : Int32) (a2 : Int32) (a3 : Int32) (m : Mm), TI pp ll ee rm_X9_face ss mm aa bb me co 5 cx 48 [(0, .ref (cx.2.2.1 + 113)), (1, .int a1), (2, .int a2), (3, .int a3)] [] m (k_48 a1 a2 a3 m)) (a1 : Int32) (a2 : Int32) (a3 : Int32) (m : Mm) : TI pp ll ee rm_X9_face ss mm aa bb me co 5 cx 130 [(0, .ref (cx.2.2.1 + 113)), (1, .int a1), (2, .int a2), (3, .int a3)] [] m (F_X9_face_130 k_48 a1 a2 a3 m) := by
  unfold F_X9_face_130
  refine T_iincN C.1 (fun v1 => [(3, .int v1), (0, .ref (cx.2.2.1 + 113)), (1, .int a1), (2, .int a2)]) dX9_face_130 3 rfl (by decide) (fun _ => rfl) (fun v1 => ?_)
  refine T_goto (tgt := 48) C.1 dX9_face_133 (by decide) ?_
  exact T_sub [1, 2, 3, 0] rfl (hk_48 a1 a2 v1 m)
def F_X9_face_105 (k_48 : Int32 → Int32 → Int32 → Mm → Option (Int32 × Mm)) (k_61 : Int32 → Int32 → Int32 → Int32 → Mm → Option (Int32 × Mm)) (a1 : Int32) (a2 : Int32) (a3 : Int32) (a4 : Int32) (a5 : Int32) (a6 : Int32) (m : Mm) : Option (Int32 × Mm) :=
  wrI 49 m 114 a6 a5 fun m1 =>
  nm (a4 + (iI 1)) fun v2 =>
  k_61 a1 a2 a3 v2 m1
set_option maxRecDepth 100000 in
set_option maxHeartbeats 4000000 in
theorem t_X9_face_105 {pp : Program} {ll : Launch} {ee : Env} {ss : State} {mm : MethodId} {aa : Array Value} {bb : List Frame} {me : Method} {co : Code} {cx : CX}  {k_48 : Int32 → Int32 → Int32 → Mm → Option (Int32 × Mm)} {k_61 : Int32 → Int32 → Int32 → Int32 → Mm → Option (Int32 × Mm)}   (C : CM pp ss mm aa me co cX9_face 5 RX9 cx ((some .int)))   (hk_48 : ∀ (a1 : Int32) (a2 : Int32) (a3 : Int32) (m : Mm), TI pp ll ee rm_X9_face ss mm aa bb me co 5 cx 48 [(0, .ref (cx.2.2.1 + 113)), (1, .int a1), (2, .int a2), (3, .int a3)] [] m (k_48 a1 a2 a3 m)) (hk_61 : ∀ (a1 : Int32) (a2 : Int32) (a3 : Int32) (a4 : Int32) (m : Mm), TI pp ll ee rm_X9_face ss mm aa bb me co 5 cx 61 [(0, .ref (cx.2.2.1 + 113)), (1, .int a1), (2, .int a2), (3, .int a3), (4, .int a4)] [] m (k_61 a1 a2 a3 a4 m)) (a1 : Int32) (a2 : Int32) (a3 : Int32) (a4 : Int32) (a5 : Int32) (a6 : Int32) (m : Mm) : TI pp ll ee rm_X9_face ss mm aa bb me co 5 cx 105 [(0, .ref (cx.2.2.1 + 113)), (1, .int a1), (2, .int a2), (3, .int a3), (4, .int a4)] [.int a5, .int a6, .ref (cx.2.2.1 + 114)] m (F_X9_face_105 k_48 k_61 a1 a2 a3 a4 a5 a6 m) := by
  unfold F_X9_face_105
  refine T_iast C.1 LyI_Lay sh114 le114 dX9_face_105 (fun m1 => ?_)
  refine T_iincN C.1 (fun v2 => [(4, .int v2), (0, .ref (cx.2.2.1 + 113)), (1, .int a1), (2, .int a2), (3, .int a3)]) dX9_face_106 4 rfl (by decide) (fun _ => rfl) (fun v2 => ?_)
  refine T_goto (tgt := 61) C.1 dX9_face_109 (by decide) ?_
  exact T_sub [1, 2, 3, 4, 0] rfl (hk_61 a1 a2 a3 v2 m1)
def F_X9_face_61 (k_48 : Int32 → Int32 → Int32 → Mm → Option (Int32 × Mm)) : Nat → Int32 → Int32 → Int32 → Int32 → Mm → Option (Int32 × Mm)
  | 0, _, _, _, _, _ => none
  | f + 1, a1, a2, a3, a4, m =>
    (if (gI m 113 1) ≤ a4 then
      bnd (F_X9_goEvening m) fun _ m2 =>
      rd 14 ((iI 7) + a1) fun j3 =>
      (if (gI m2 119 j3) = iI 0 then
        F_X9_face_130 (k_48) a1 a3 a3 m2
      else
        F_X9_face_130 (k_48) a1 a2 a3 m2)
    else
      rd 7 a4 fun j4 =>
      (if (gI m 144 j4) ≤ a3 then
        F_X9_face_105 (k_48) (F_X9_face_61 k_48 f) a1 a2 a3 a4 (iI 0) (((iI 7) * a4) + a1) m
      else
        rd 7 a4 fun j5 =>
        F_X9_face_105 (k_48) (F_X9_face_61 k_48 f) a1 a2 a3 a4 ((gI m 144 j5) - a3) (((iI 7) * a4) + a1) m))
set_option maxRecDepth 100000 in
set_option maxHeartbeats 4000000 in
theorem t_X9_face_61 {pp : Program} {ll : Launch} {ee : Env} {ss : State} {mm : MethodId} {aa : Array Value} {bb : List Frame} {me : Method} {co : Code} {cx : CX}  {k_48 : Int32 → Int32 → Int32 → Mm → Option (Int32 × Mm)}   (C : CM pp ss mm aa me co cX9_face 5 RX9 cx ((some .int)))   (hk_48 : ∀ (a1 : Int32) (a2 : Int32) (a3 : Int32) (m : Mm), TI pp ll ee rm_X9_face ss mm aa bb me co 5 cx 48 [(0, .ref (cx.2.2.1 + 113)), (1, .int a1), (2, .int a2), (3, .int a3)] [] m (k_48 a1 a2 a3 m)) : ∀ (f : Nat) (a1 : Int32) (a2 : Int32) (a3 : Int32) (a4 : Int32) (m : Mm), TI pp ll ee rm_X9_face ss mm aa bb me co 5 cx 61 [(0, .ref (cx.2.2.1 + 113)), (1, .int a1), (2, .int a2), (3, .int a3), (4, .int a4)] [] m (F_X9_face_61 k_48 f a1 a2 a3 a4 m) := by
  intro f
  induction f with
  | zero => exact fun _ _ _ _ _ => T_none
  | succ f ih =>
    intro a1 a2 a3 a4 m
    unfold F_X9_face_61
    refine T_iload C.1 dX9_face_61 4 rfl ?_
    refine T_aload_n C.1 dX9_face_63 0 rfl ?_
    refine T_getI C.1 fd_X9_155 (fun _ _ _ _ => rfl) sh113 le113 dX9_face_64 ?_
    refine T_icmp_ge (tgt := 112) C.1 dX9_face_67 (by decide) ?_ ?_
    · refine T_aload_n C.1 dX9_face_112 0 rfl ?_
      refine T_callVV (rm := rm_X9_goEvening) [] [] C.1 dX9_face_113 mw_X9_goEvening wm_6_130 wm_6_132 wm_p_70 ⟨Nat.le_of_ble_eq_true rfl, Nat.le_of_ble_eq_true rfl⟩ ⟨rfl, rfl⟩ ⟨Nat.zero_le _, Nat.zero_le _⟩ rfl rfl (Nat.le_of_ble_eq_true rfl) sh113 le113 ⟨rfl, rfl⟩ (c_X9_goEvening ll cx m) (fun u1 m2 => ?_)
      refine T_aload_n C.1 dX9_face_116 0 rfl ?_
      refine T_getR (x := 119) C.1 fd_X9_29 (fun _ _ _ _ => rfl) sh113 le113 (fun _ h => h) rfl (by decide) dX9_face_117 ?_
      refine T_bipush C.1 dX9_face_120 rfl ?_
      refine T_iload_n C.1 dX9_face_122 1 rfl ?_
      refine T_iadd C.1 dX9_face_123 ?_
      refine T_iald C.1 dX9_face_124 sh119 le119 (fun j3 => ?_)
      refine T_if_ne (tgt := 130) C.1 dX9_face_125 (by decide) ?_ ?_
      · exact T_sub [0, 1, 2, 3] rfl (t_X9_face_130 C (hk_48) a1 a2 a3 m2)
      · refine T_iload_n C.1 dX9_face_128 3 rfl ?_
        refine T_istore_n (lv' := [(2, .int a3), (0, .ref (cx.2.2.1 + 113)), (1, .int a1), (3, .int a3), (4, .int a4)]) C.1 dX9_face_129 (by decide) rfl ?_
        exact T_sub [1, 2, 0, 3] rfl (t_X9_face_130 C (hk_48) a1 a3 a3 m2)
    · refine T_aload_n C.1 dX9_face_70 0 rfl ?_
      refine T_getR (x := 114) C.1 fd_X9_7 (fun _ _ _ _ => rfl) sh113 le113 (fun _ h => h) rfl (by decide) dX9_face_71 ?_
      refine T_bipush C.1 dX9_face_74 rfl ?_
      refine T_iload C.1 dX9_face_76 4 rfl ?_
      refine T_imul C.1 dX9_face_78 ?_
      refine T_iload_n C.1 dX9_face_79 1 rfl ?_
      refine T_iadd C.1 dX9_face_80 ?_
      refine T_aload_n C.1 dX9_face_81 0 rfl ?_
      refine T_getR (x := 144) C.1 fd_X9_109 (fun _ _ _ _ => rfl) sh113 le113 (fun _ h => h) rfl (by decide) dX9_face_82 ?_
      refine T_iload C.1 dX9_face_85 4 rfl ?_
      refine T_iald C.1 dX9_face_87 sh144 le144 (fun j4 => ?_)
      refine T_iload_n C.1 dX9_face_88 3 rfl ?_
      refine T_icmp_le (tgt := 104) C.1 dX9_face_89 (by decide) ?_ ?_
      · refine T_iconst C.1 dX9_face_104 ?_
        exact T_sub [0, 1, 2, 3, 4] rfl (t_X9_face_105 C (hk_48) (ih) a1 a2 a3 a4 (iI 0) (((iI 7) * a4) + a1) m)
      · refine T_aload_n C.1 dX9_face_92 0 rfl ?_
        refine T_getR (x := 144) C.1 fd_X9_109 (fun _ _ _ _ => rfl) sh113 le113 (fun _ h => h) rfl (by decide) dX9_face_93 ?_
        refine T_iload C.1 dX9_face_96 4 rfl ?_
        refine T_iald C.1 dX9_face_98 sh144 le144 (fun j5 => ?_)
        refine T_iload_n C.1 dX9_face_99 3 rfl ?_
        refine T_isub C.1 dX9_face_100 ?_
        refine T_goto (tgt := 105) C.1 dX9_face_101 (by decide) ?_
        exact T_sub [0, 1, 2, 3, 4] rfl (t_X9_face_105 C (hk_48) (ih) a1 a2 a3 a4 ((gI m 144 j5) - a3) (((iI 7) * a4) + a1) m)
def F_X9_face_48  : Nat → Int32 → Int32 → Int32 → Mm → Option (Int32 × Mm)
  | 0, _, _, _, _ => none
  | f + 1, a1, a2, a3, m =>
    (if (iI 99) < a3 then
      F_X9_face_136 a1 a2 m
    else
      (if iI 0 ≤ a2 then
        F_X9_face_136 a1 a2 m
      else
        F_X9_face_61 (F_X9_face_48  f) FU a1 a2 a3 (iI 0) m))
set_option maxRecDepth 100000 in
set_option maxHeartbeats 4000000 in
theorem t_X9_face_48 {pp : Program} {ll : Launch} {ee : Env} {ss : State} {mm : MethodId} {aa : Array Value} {bb : List Frame} {me : Method} {co : Code} {cx : CX}     (C : CM pp ss mm aa me co cX9_face 5 RX9 cx ((some .int)))    : ∀ (f : Nat) (a1 : Int32) (a2 : Int32) (a3 : Int32) (m : Mm), TI pp ll ee rm_X9_face ss mm aa bb me co 5 cx 48 [(0, .ref (cx.2.2.1 + 113)), (1, .int a1), (2, .int a2), (3, .int a3)] [] m (F_X9_face_48  f a1 a2 a3 m) := by
  intro f
  induction f with
  | zero => exact fun _ _ _ _ => T_none
  | succ f ih =>
    intro a1 a2 a3 m
    unfold F_X9_face_48
    refine T_iload_n C.1 dX9_face_48 3 rfl ?_
    refine T_bipush C.1 dX9_face_49 rfl ?_
    refine T_icmp_gt (tgt := 136) C.1 dX9_face_51 (by decide) ?_ ?_
    · exact T_sub [0, 1, 2] rfl (t_X9_face_136 C a1 a2 m)
    · refine T_iload_n C.1 dX9_face_54 2 rfl ?_
      refine T_if_ge (tgt := 136) C.1 dX9_face_55 (by decide) ?_ ?_
      · exact T_sub [0, 1, 2] rfl (t_X9_face_136 C a1 a2 m)
      · refine T_iconst C.1 dX9_face_58 ?_
        refine T_istore (lv' := [(4, .int (iI 0)), (0, .ref (cx.2.2.1 + 113)), (1, .int a1), (2, .int a2), (3, .int a3)]) C.1 dX9_face_59 (by decide) rfl ?_
        exact T_sub [1, 2, 3, 4, 0] rfl (t_X9_face_61 C (ih) FU a1 a2 a3 (iI 0) m)
def F_X9_face_12  : Nat → Int32 → Int32 → Mm → Option (Int32 × Mm)
  | 0, _, _, _ => none
  | f + 1, a1, a2, m =>
    (if (gI m 113 1) ≤ a2 then
      F_X9_face_48 FU a1 (iI (-2)) (iI 0) m
    else
      rd 49 (((iI 7) * a2) + a1) fun j1 =>
      wrI 7 m 144 a2 (gI m 114 j1) fun m2 =>
      nm (a2 + (iI 1)) fun v3 =>
      F_X9_face_12  f a1 v3 m2)
set_option maxRecDepth 100000 in
set_option maxHeartbeats 4000000 in
theorem t_X9_face_12 {pp : Program} {ll : Launch} {ee : Env} {ss : State} {mm : MethodId} {aa : Array Value} {bb : List Frame} {me : Method} {co : Code} {cx : CX}     (C : CM pp ss mm aa me co cX9_face 5 RX9 cx ((some .int)))    : ∀ (f : Nat) (a1 : Int32) (a2 : Int32) (m : Mm), TI pp ll ee rm_X9_face ss mm aa bb me co 5 cx 12 [(0, .ref (cx.2.2.1 + 113)), (1, .int a1), (2, .int a2)] [] m (F_X9_face_12  f a1 a2 m) := by
  intro f
  induction f with
  | zero => exact fun _ _ _ => T_none
  | succ f ih =>
    intro a1 a2 m
    unfold F_X9_face_12
    refine T_iload_n C.1 dX9_face_12 2 rfl ?_
    refine T_aload_n C.1 dX9_face_13 0 rfl ?_
    refine T_getI C.1 fd_X9_155 (fun _ _ _ _ => rfl) sh113 le113 dX9_face_14 ?_
    refine T_icmp_ge (tgt := 43) C.1 dX9_face_17 (by decide) ?_ ?_
    · refine T_bipush C.1 dX9_face_43 rfl ?_
      refine T_istore_n (lv' := [(2, .int (iI (-2))), (0, .ref (cx.2.2.1 + 113)), (1, .int a1)]) C.1 dX9_face_45 (by decide) rfl ?_
      refine T_iconst C.1 dX9_face_46 ?_
      refine T_istore_n (lv' := [(3, .int (iI 0)), (2, .int (iI (-2))), (0, .ref (cx.2.2.1 + 113)), (1, .int a1)]) C.1 dX9_face_47 (by decide) rfl ?_
      exact T_sub [2, 3, 1, 0] rfl (t_X9_face_48 C FU a1 (iI (-2)) (iI 0) m)
    · refine T_aload_n C.1 dX9_face_20 0 rfl ?_
      refine T_getR (x := 144) C.1 fd_X9_109 (fun _ _ _ _ => rfl) sh113 le113 (fun _ h => h) rfl (by decide) dX9_face_21 ?_
      refine T_iload_n C.1 dX9_face_24 2 rfl ?_
      refine T_aload_n C.1 dX9_face_25 0 rfl ?_
      refine T_getR (x := 114) C.1 fd_X9_7 (fun _ _ _ _ => rfl) sh113 le113 (fun _ h => h) rfl (by decide) dX9_face_26 ?_
      refine T_bipush C.1 dX9_face_29 rfl ?_
      refine T_iload_n C.1 dX9_face_31 2 rfl ?_
      refine T_imul C.1 dX9_face_32 ?_
      refine T_iload_n C.1 dX9_face_33 1 rfl ?_
      refine T_iadd C.1 dX9_face_34 ?_
      refine T_iald C.1 dX9_face_35 sh114 le114 (fun j1 => ?_)
      refine T_iast C.1 LyI_Lay sh144 le144 dX9_face_36 (fun m2 => ?_)
      refine T_iincN C.1 (fun v3 => [(2, .int v3), (0, .ref (cx.2.2.1 + 113)), (1, .int a1)]) dX9_face_37 2 rfl (by decide) (fun _ => rfl) (fun v3 => ?_)
      refine T_goto (tgt := 12) C.1 dX9_face_40 (by decide) ?_
      exact T_sub [1, 2, 0] rfl (ih a1 v3 m2)
def F_X9_face  (x1 : Int32) (m : Mm) : Option (Int32 × Mm) :=
  bnd (F_X9_isPerson x1 m) fun v1 m2 =>
  (if v1 = iI 0 then
    some ((iI (-1)), m2)
  else
    F_X9_face_12 FU x1 (iI 0) m2)
set_option maxRecDepth 100000 in
set_option maxHeartbeats 4000000 in
theorem c_X9_face (ll : Launch) (cx : CX) (x1 : Int32) (m : Mm) : MT ll yX9_face cX9_face 5 ((some .int)) rm_X9_face cx NN NN Lay cvI 0 0 [.ref (cx.2.2.1 + 113), .int x1] m (F_X9_face x1 m) := by
  refine MT_of (by decide) (Nat.le_of_ble_eq_true rfl) ?_
  intro pp ee ss mm aa bb me co hK hr hk hn
  have C : CM pp ss mm aa me co cX9_face 5 RX9 cx ((some .int)) := ⟨hK, hr, hk⟩
  show TI pp ll ee rm_X9_face ss mm aa bb me co 5 cx 0 [(0, .ref (cx.2.2.1 + 113)), (1, .int x1)] [] m (F_X9_face x1 m)
  unfold F_X9_face
  refine T_aload_n C.1 dX9_face_0 0 rfl ?_
  refine T_iload_n C.1 dX9_face_1 1 rfl ?_
  refine T_callVI (rm := rm_X9_isPerson) [.int x1] [] C.1 dX9_face_2 mw_X9_isPerson wm_5_183 wm_5_185 wm_p_39 ⟨Nat.le_of_ble_eq_true rfl, Nat.le_of_ble_eq_true rfl⟩ ⟨rfl, rfl⟩ ⟨Nat.zero_le _, Nat.zero_le _⟩ rfl rfl (Nat.le_of_ble_eq_true rfl) sh113 le113 ⟨rfl, rfl⟩ (c_X9_isPerson ll cx x1 m) (fun v1 m2 => ?_)
  refine T_if_ne (tgt := 10) C.1 dX9_face_5 (by decide) ?_ ?_
  · refine T_iconst C.1 dX9_face_10 ?_
    refine T_istore_n (lv' := [(2, .int (iI 0)), (0, .ref (cx.2.2.1 + 113)), (1, .int x1)]) C.1 dX9_face_11 (by decide) rfl ?_
    exact T_sub [1, 2, 0] rfl (t_X9_face_12 C FU x1 (iI 0) m2)
  · refine T_iconst C.1 dX9_face_8 ?_
    exact T_iret C.1 C.2.1 C.2.2 dX9_face_9
