def rm_X9_keepLot : Room := { frames := 1, cells := 0, slots := 0, locals := 40 }
def F_X9_keepLot_2  : Nat → Int32 → Mm → Option (Unit × Mm)
  | 0, _, _ => none
  | f + 1, a1, m =>
    (if (gI m 113 1) ≤ a1 then
      some ((), m)
    else
      rd 7 a1 fun j1 =>
      wrI 7 m 145 a1 (gI m 117 j1) fun m2 =>
      nm (a1 + (iI 1)) fun v3 =>
      F_X9_keepLot_2  f v3 m2)
set_option maxRecDepth 100000 in
set_option maxHeartbeats 4000000 in
theorem t_X9_keepLot_2 {pp : Program} {ll : Launch} {ee : Env} {ss : State} {mm : MethodId} {aa : Array Value} {bb : List Frame} {me : Method} {co : Code} {cx : CX}     (C : CM pp ss mm aa me co cX9_keepLot 2 RX9 cx (none))    : ∀ (f : Nat) (a1 : Int32) (m : Mm), TV pp ll ee rm_X9_keepLot ss mm aa bb me co 2 cx 2 [(0, .ref (cx.2.2.1 + 113)), (1, .int a1)] [] m (F_X9_keepLot_2  f a1 m) := by
  intro f
  induction f with
  | zero => exact fun _ _ => T_none
  | succ f ih =>
    intro a1 m
    unfold F_X9_keepLot_2
    refine T_iload_n C.1 dX9_keepLot_2 1 rfl ?_
    refine T_aload_n C.1 dX9_keepLot_3 0 rfl ?_
    refine T_getI C.1 fd_X9_155 (fun _ _ _ _ => rfl) sh113 le113 dX9_keepLot_4 ?_
    refine T_icmp_ge (tgt := 28) C.1 dX9_keepLot_7 (by decide) ?_ ?_
    · exact T_vret C.1 C.2.1 C.2.2 dX9_keepLot_28
    · refine T_aload_n C.1 dX9_keepLot_10 0 rfl ?_
      refine T_getR (x := 145) C.1 fd_X9_112 (fun _ _ _ _ => rfl) sh113 le113 (fun _ h => h) rfl (by decide) dX9_keepLot_11 ?_
      refine T_iload_n C.1 dX9_keepLot_14 1 rfl ?_
      refine T_aload_n C.1 dX9_keepLot_15 0 rfl ?_
      refine T_getR (x := 117) C.1 fd_X9_23 (fun _ _ _ _ => rfl) sh113 le113 (fun _ h => h) rfl (by decide) dX9_keepLot_16 ?_
      refine T_iload_n C.1 dX9_keepLot_19 1 rfl ?_
      refine T_iald C.1 dX9_keepLot_20 sh117 le117 (fun j1 => ?_)
      refine T_iast C.1 LyI_Lay sh145 le145 dX9_keepLot_21 (fun m2 => ?_)
      refine T_iincN C.1 (fun v3 => [(1, .int v3), (0, .ref (cx.2.2.1 + 113))]) dX9_keepLot_22 1 rfl (by decide) (fun _ => rfl) (fun v3 => ?_)
      refine T_goto (tgt := 2) C.1 dX9_keepLot_25 (by decide) ?_
      exact T_sub [1, 0] rfl (ih v3 m2)
def F_X9_keepLot   (m : Mm) : Option (Unit × Mm) :=
  F_X9_keepLot_2 FU (iI 0) m
set_option maxRecDepth 100000 in
set_option maxHeartbeats 4000000 in
theorem c_X9_keepLot (ll : Launch) (cx : CX)  (m : Mm) : MT ll yX9_keepLot cX9_keepLot 2 (none) rm_X9_keepLot cx NN NN Lay cvV 0 0 [.ref (cx.2.2.1 + 113)] m (F_X9_keepLot  m) := by
  refine MT_of (by decide) (Nat.le_of_ble_eq_true rfl) ?_
  intro pp ee ss mm aa bb me co hK hr hk hn
  have C : CM pp ss mm aa me co cX9_keepLot 2 RX9 cx (none) := ⟨hK, hr, hk⟩
  show TV pp ll ee rm_X9_keepLot ss mm aa bb me co 2 cx 0 [(0, .ref (cx.2.2.1 + 113))] [] m (F_X9_keepLot  m)
  unfold F_X9_keepLot
  refine T_iconst C.1 dX9_keepLot_0 ?_
  refine T_istore_n (lv' := [(1, .int (iI 0)), (0, .ref (cx.2.2.1 + 113))]) C.1 dX9_keepLot_1 (by decide) rfl ?_
  exact T_sub [1, 0] rfl (t_X9_keepLot_2 C FU (iI 0) m)
def rm_X9_layLot : Room := { frames := 1, cells := 0, slots := 0, locals := 40 }
def F_X9_layLot_2  : Nat → Int32 → Mm → Option (Unit × Mm)
  | 0, _, _ => none
  | f + 1, a1, m =>
    (if (gI m 113 1) ≤ a1 then
      some ((), m)
    else
      rd 7 a1 fun j1 =>
      wrI 7 m 117 a1 (gI m 145 j1) fun m2 =>
      nm (a1 + (iI 1)) fun v3 =>
      F_X9_layLot_2  f v3 m2)
set_option maxRecDepth 100000 in
set_option maxHeartbeats 4000000 in
theorem t_X9_layLot_2 {pp : Program} {ll : Launch} {ee : Env} {ss : State} {mm : MethodId} {aa : Array Value} {bb : List Frame} {me : Method} {co : Code} {cx : CX}     (C : CM pp ss mm aa me co cX9_layLot 2 RX9 cx (none))    : ∀ (f : Nat) (a1 : Int32) (m : Mm), TV pp ll ee rm_X9_layLot ss mm aa bb me co 2 cx 2 [(0, .ref (cx.2.2.1 + 113)), (1, .int a1)] [] m (F_X9_layLot_2  f a1 m) := by
  intro f
  induction f with
  | zero => exact fun _ _ => T_none
  | succ f ih =>
    intro a1 m
    unfold F_X9_layLot_2
    refine T_iload_n C.1 dX9_layLot_2 1 rfl ?_
    refine T_aload_n C.1 dX9_layLot_3 0 rfl ?_
    refine T_getI C.1 fd_X9_155 (fun _ _ _ _ => rfl) sh113 le113 dX9_layLot_4 ?_
    refine T_icmp_ge (tgt := 28) C.1 dX9_layLot_7 (by decide) ?_ ?_
    · exact T_vret C.1 C.2.1 C.2.2 dX9_layLot_28
    · refine T_aload_n C.1 dX9_layLot_10 0 rfl ?_
      refine T_getR (x := 117) C.1 fd_X9_23 (fun _ _ _ _ => rfl) sh113 le113 (fun _ h => h) rfl (by decide) dX9_layLot_11 ?_
      refine T_iload_n C.1 dX9_layLot_14 1 rfl ?_
      refine T_aload_n C.1 dX9_layLot_15 0 rfl ?_
      refine T_getR (x := 145) C.1 fd_X9_112 (fun _ _ _ _ => rfl) sh113 le113 (fun _ h => h) rfl (by decide) dX9_layLot_16 ?_
      refine T_iload_n C.1 dX9_layLot_19 1 rfl ?_
      refine T_iald C.1 dX9_layLot_20 sh145 le145 (fun j1 => ?_)
      refine T_iast C.1 LyI_Lay sh117 le117 dX9_layLot_21 (fun m2 => ?_)
      refine T_iincN C.1 (fun v3 => [(1, .int v3), (0, .ref (cx.2.2.1 + 113))]) dX9_layLot_22 1 rfl (by decide) (fun _ => rfl) (fun v3 => ?_)
      refine T_goto (tgt := 2) C.1 dX9_layLot_25 (by decide) ?_
      exact T_sub [1, 0] rfl (ih v3 m2)
def F_X9_layLot   (m : Mm) : Option (Unit × Mm) :=
  F_X9_layLot_2 FU (iI 0) m
set_option maxRecDepth 100000 in
set_option maxHeartbeats 4000000 in
theorem c_X9_layLot (ll : Launch) (cx : CX)  (m : Mm) : MT ll yX9_layLot cX9_layLot 2 (none) rm_X9_layLot cx NN NN Lay cvV 0 0 [.ref (cx.2.2.1 + 113)] m (F_X9_layLot  m) := by
  refine MT_of (by decide) (Nat.le_of_ble_eq_true rfl) ?_
  intro pp ee ss mm aa bb me co hK hr hk hn
  have C : CM pp ss mm aa me co cX9_layLot 2 RX9 cx (none) := ⟨hK, hr, hk⟩
  show TV pp ll ee rm_X9_layLot ss mm aa bb me co 2 cx 0 [(0, .ref (cx.2.2.1 + 113))] [] m (F_X9_layLot  m)
  unfold F_X9_layLot
  refine T_iconst C.1 dX9_layLot_0 ?_
  refine T_istore_n (lv' := [(1, .int (iI 0)), (0, .ref (cx.2.2.1 + 113))]) C.1 dX9_layLot_1 (by decide) rfl ?_
  exact T_sub [1, 0] rfl (t_X9_layLot_2 C FU (iI 0) m)
def rm_X9_numbers : Room := { frames := 8, cells := 0, slots := 0, locals := 205 }
def F_X9_numbers_271 (k_210 : Int32 → Int32 → Int32 → Mm → Option (Int32 × Mm)) (a1 : Int32) (a2 : Int32) (a3 : Int32) (m : Mm) : Option (Int32 × Mm) :=
  nm (a3 + (iI 1)) fun v1 =>
  k_210 a1 a2 v1 m
set_option maxRecDepth 100000 in
set_option maxHeartbeats 4000000 in
theorem t_X9_numbers_271 {pp : Program} {ll : Launch} {ee : Env} {ss : State} {mm : MethodId} {aa : Array Value} {bb : List Frame} {me : Method} {co : Code} {cx : CX}  {k_210 : Int32 → Int32 → Int32 → Mm → Option (Int32 × Mm)}   (C : CM pp ss mm aa me co cX9_numbers 8 RX9 cx ((some .int)))   (hk_210 : ∀ (a1 : Int32) (a2 : Int32) (a3 : Int32) (m : Mm), TI pp ll ee rm_X9_numbers ss mm aa bb me co 8 cx 210 [(0, .ref (cx.2.2.1 + 113)), (5, .int a1), (6, .int a2), (7, .int a3)] [] m (k_210 a1 a2 a3 m)) (a1 : Int32) (a2 : Int32) (a3 : Int32) (m : Mm) : TI pp ll ee rm_X9_numbers ss mm aa bb me co 8 cx 271 [(0, .ref (cx.2.2.1 + 113)), (5, .int a1), (6, .int a2), (7, .int a3)] [] m (F_X9_numbers_271 k_210 a1 a2 a3 m) := by
  unfold F_X9_numbers_271
  refine T_iincN C.1 (fun v1 => [(7, .int v1), (0, .ref (cx.2.2.1 + 113)), (5, .int a1), (6, .int a2)]) dX9_numbers_271 3 rfl (by decide) (fun _ => rfl) (fun v1 => ?_)
  refine T_goto (tgt := 210) C.1 dX9_numbers_274 (by decide) ?_
  exact T_sub [1, 2, 3, 0] rfl (hk_210 a1 a2 v1 m)
def F_X9_numbers_262 (k_210 : Int32 → Int32 → Int32 → Mm → Option (Int32 × Mm)) (a1 : Int32) (a2 : Int32) (m : Mm) : Option (Int32 × Mm) :=
  rd 7 a2 fun j1 =>
  nm (gI m 146 j1) fun v2 =>
  F_X9_numbers_271 (k_210) a1 v2 a2 m
set_option maxRecDepth 100000 in
set_option maxHeartbeats 4000000 in
theorem t_X9_numbers_262 {pp : Program} {ll : Launch} {ee : Env} {ss : State} {mm : MethodId} {aa : Array Value} {bb : List Frame} {me : Method} {co : Code} {cx : CX}  {k_210 : Int32 → Int32 → Int32 → Mm → Option (Int32 × Mm)}   (C : CM pp ss mm aa me co cX9_numbers 8 RX9 cx ((some .int)))   (hk_210 : ∀ (a1 : Int32) (a2 : Int32) (a3 : Int32) (m : Mm), TI pp ll ee rm_X9_numbers ss mm aa bb me co 8 cx 210 [(0, .ref (cx.2.2.1 + 113)), (5, .int a1), (6, .int a2), (7, .int a3)] [] m (k_210 a1 a2 a3 m)) (a1 : Int32) (a2 : Int32) (m : Mm) : TI pp ll ee rm_X9_numbers ss mm aa bb me co 8 cx 262 [(0, .ref (cx.2.2.1 + 113)), (5, .int a1), (7, .int a2)] [] m (F_X9_numbers_262 k_210 a1 a2 m) := by
  unfold F_X9_numbers_262
  refine T_aload_n C.1 dX9_numbers_262 0 rfl ?_
  refine T_getR (x := 146) C.1 fd_X9_115 (fun _ _ _ _ => rfl) sh113 le113 (fun _ h => h) rfl (by decide) dX9_numbers_263 ?_
  refine T_iload C.1 dX9_numbers_266 2 rfl ?_
  refine T_iald C.1 dX9_numbers_268 sh146 le146 (fun j1 => ?_)
  refine T_istoreN C.1 (fun v2 => [(6, .int v2), (0, .ref (cx.2.2.1 + 113)), (5, .int a1), (7, .int a2)]) dX9_numbers_269 (by decide) (fun _ => rfl) (fun v2 => ?_)
  exact T_sub [1, 2, 0, 3] rfl (t_X9_numbers_271 C (hk_210) a1 v2 a2 m)
def F_X9_numbers_245 (k_210 : Int32 → Int32 → Int32 → Mm → Option (Int32 × Mm)) (a1 : Int32) (a2 : Int32) (a3 : Int32) (m : Mm) : Option (Int32 × Mm) :=
  (if a3 = iI 0 then
    F_X9_numbers_262 (k_210) a1 a3 m
  else
    rd 7 a3 fun j1 =>
    (if (gI m 146 j1) ≤ a2 then
      F_X9_numbers_271 (k_210) a1 a2 a3 m
    else
      F_X9_numbers_262 (k_210) a1 a3 m))
set_option maxRecDepth 100000 in
set_option maxHeartbeats 4000000 in
theorem t_X9_numbers_245 {pp : Program} {ll : Launch} {ee : Env} {ss : State} {mm : MethodId} {aa : Array Value} {bb : List Frame} {me : Method} {co : Code} {cx : CX}  {k_210 : Int32 → Int32 → Int32 → Mm → Option (Int32 × Mm)}   (C : CM pp ss mm aa me co cX9_numbers 8 RX9 cx ((some .int)))   (hk_210 : ∀ (a1 : Int32) (a2 : Int32) (a3 : Int32) (m : Mm), TI pp ll ee rm_X9_numbers ss mm aa bb me co 8 cx 210 [(0, .ref (cx.2.2.1 + 113)), (5, .int a1), (6, .int a2), (7, .int a3)] [] m (k_210 a1 a2 a3 m)) (a1 : Int32) (a2 : Int32) (a3 : Int32) (m : Mm) : TI pp ll ee rm_X9_numbers ss mm aa bb me co 8 cx 245 [(0, .ref (cx.2.2.1 + 113)), (5, .int a1), (6, .int a2), (7, .int a3)] [] m (F_X9_numbers_245 k_210 a1 a2 a3 m) := by
  unfold F_X9_numbers_245
  refine T_iload C.1 dX9_numbers_245 3 rfl ?_
  refine T_if_eq (tgt := 262) C.1 dX9_numbers_247 (by decide) ?_ ?_
  · exact T_sub [0, 1, 3] rfl (t_X9_numbers_262 C (hk_210) a1 a3 m)
  · refine T_aload_n C.1 dX9_numbers_250 0 rfl ?_
    refine T_getR (x := 146) C.1 fd_X9_115 (fun _ _ _ _ => rfl) sh113 le113 (fun _ h => h) rfl (by decide) dX9_numbers_251 ?_
    refine T_iload C.1 dX9_numbers_254 3 rfl ?_
    refine T_iald C.1 dX9_numbers_256 sh146 le146 (fun j1 => ?_)
    refine T_iload C.1 dX9_numbers_257 2 rfl ?_
    refine T_icmp_le (tgt := 271) C.1 dX9_numbers_259 (by decide) ?_ ?_
    · exact T_sub [0, 1, 2, 3] rfl (t_X9_numbers_271 C (hk_210) a1 a2 a3 m)
    · exact T_sub [0, 1, 3] rfl (t_X9_numbers_262 C (hk_210) a1 a3 m)
def F_X9_numbers_236 (k_210 : Int32 → Int32 → Int32 → Mm → Option (Int32 × Mm)) (a1 : Int32) (a2 : Int32) (m : Mm) : Option (Int32 × Mm) :=
  rd 7 a2 fun j1 =>
  nm (gI m 146 j1) fun v2 =>
  F_X9_numbers_245 (k_210) v2 a1 a2 m
set_option maxRecDepth 100000 in
set_option maxHeartbeats 4000000 in
theorem t_X9_numbers_236 {pp : Program} {ll : Launch} {ee : Env} {ss : State} {mm : MethodId} {aa : Array Value} {bb : List Frame} {me : Method} {co : Code} {cx : CX}  {k_210 : Int32 → Int32 → Int32 → Mm → Option (Int32 × Mm)}   (C : CM pp ss mm aa me co cX9_numbers 8 RX9 cx ((some .int)))   (hk_210 : ∀ (a1 : Int32) (a2 : Int32) (a3 : Int32) (m : Mm), TI pp ll ee rm_X9_numbers ss mm aa bb me co 8 cx 210 [(0, .ref (cx.2.2.1 + 113)), (5, .int a1), (6, .int a2), (7, .int a3)] [] m (k_210 a1 a2 a3 m)) (a1 : Int32) (a2 : Int32) (m : Mm) : TI pp ll ee rm_X9_numbers ss mm aa bb me co 8 cx 236 [(0, .ref (cx.2.2.1 + 113)), (6, .int a1), (7, .int a2)] [] m (F_X9_numbers_236 k_210 a1 a2 m) := by
  unfold F_X9_numbers_236
  refine T_aload_n C.1 dX9_numbers_236 0 rfl ?_
  refine T_getR (x := 146) C.1 fd_X9_115 (fun _ _ _ _ => rfl) sh113 le113 (fun _ h => h) rfl (by decide) dX9_numbers_237 ?_
  refine T_iload C.1 dX9_numbers_240 2 rfl ?_
  refine T_iald C.1 dX9_numbers_242 sh146 le146 (fun j1 => ?_)
  refine T_istoreN C.1 (fun v2 => [(5, .int v2), (0, .ref (cx.2.2.1 + 113)), (6, .int a1), (7, .int a2)]) dX9_numbers_243 (by decide) (fun _ => rfl) (fun v2 => ?_)
  exact T_sub [1, 0, 2, 3] rfl (t_X9_numbers_245 C (hk_210) v2 a1 a2 m)
def F_X9_numbers_210  : Nat → Int32 → Int32 → Int32 → Mm → Option (Int32 × Mm)
  | 0, _, _, _, _ => none
  | f + 1, a1, a2, a3, m =>
    (if (gI m 113 1) ≤ a3 then
      some ((a2 - a1), m)
    else
      (if a3 = iI 0 then
        F_X9_numbers_236 (F_X9_numbers_210  f) a2 a3 m
      else
        rd 7 a3 fun j1 =>
        (if a1 ≤ (gI m 146 j1) then
          F_X9_numbers_245 (F_X9_numbers_210  f) a1 a2 a3 m
        else
          F_X9_numbers_236 (F_X9_numbers_210  f) a2 a3 m)))
set_option maxRecDepth 100000 in
set_option maxHeartbeats 4000000 in
theorem t_X9_numbers_210 {pp : Program} {ll : Launch} {ee : Env} {ss : State} {mm : MethodId} {aa : Array Value} {bb : List Frame} {me : Method} {co : Code} {cx : CX}     (C : CM pp ss mm aa me co cX9_numbers 8 RX9 cx ((some .int)))    : ∀ (f : Nat) (a1 : Int32) (a2 : Int32) (a3 : Int32) (m : Mm), TI pp ll ee rm_X9_numbers ss mm aa bb me co 8 cx 210 [(0, .ref (cx.2.2.1 + 113)), (5, .int a1), (6, .int a2), (7, .int a3)] [] m (F_X9_numbers_210  f a1 a2 a3 m) := by
  intro f
  induction f with
  | zero => exact fun _ _ _ _ => T_none
  | succ f ih =>
    intro a1 a2 a3 m
    unfold F_X9_numbers_210
    refine T_iload C.1 dX9_numbers_210 3 rfl ?_
    refine T_aload_n C.1 dX9_numbers_212 0 rfl ?_
    refine T_getI C.1 fd_X9_155 (fun _ _ _ _ => rfl) sh113 le113 dX9_numbers_213 ?_
    refine T_icmp_ge (tgt := 277) C.1 dX9_numbers_216 (by decide) ?_ ?_
    · refine T_iload C.1 dX9_numbers_277 2 rfl ?_
      refine T_iload C.1 dX9_numbers_279 1 rfl ?_
      refine T_isub C.1 dX9_numbers_281 ?_
      exact T_iret C.1 C.2.1 C.2.2 dX9_numbers_282
    · refine T_iload C.1 dX9_numbers_219 3 rfl ?_
      refine T_if_eq (tgt := 236) C.1 dX9_numbers_221 (by decide) ?_ ?_
      · exact T_sub [0, 2, 3] rfl (t_X9_numbers_236 C (ih) a2 a3 m)
      · refine T_aload_n C.1 dX9_numbers_224 0 rfl ?_
        refine T_getR (x := 146) C.1 fd_X9_115 (fun _ _ _ _ => rfl) sh113 le113 (fun _ h => h) rfl (by decide) dX9_numbers_225 ?_
        refine T_iload C.1 dX9_numbers_228 3 rfl ?_
        refine T_iald C.1 dX9_numbers_230 sh146 le146 (fun j1 => ?_)
        refine T_iload C.1 dX9_numbers_231 1 rfl ?_
        refine T_icmp_ge (tgt := 245) C.1 dX9_numbers_233 (by decide) ?_ ?_
        · exact T_sub [0, 1, 2, 3] rfl (t_X9_numbers_245 C (ih) a1 a2 a3 m)
        · exact T_sub [0, 2, 3] rfl (t_X9_numbers_236 C (ih) a2 a3 m)
def F_X9_numbers_127 (k_62 : Int32 → Int32 → Int32 → Int32 → Mm → Option (Int32 × Mm)) : Nat → Int32 → Int32 → Int32 → Int32 → Int32 → Mm → Option (Int32 × Mm)
  | 0, _, _, _, _, _, _ => none
  | f + 1, a1, a2, a3, a4, a5, m =>
    (if (gI m 113 1) ≤ a5 then
      nm (a4 + (iI 1)) fun v1 =>
      k_62 a1 a2 a3 v1 m
    else
      rd 7 a5 fun j2 =>
      rd 7 a5 fun j3 =>
      rd 7 a5 fun j4 =>
      bnd (F_X9_hasIn (iI 1) (gI m 117 j4) m) fun v5 m6 =>
      rd 49 (((iI 7) * (gI m 117 j3)) + v5) fun j7 =>
      wrI 7 m6 146 a5 ((gI m 146 j2) + (gI m6 114 j7)) fun m8 =>
      nm (a5 + (iI 1)) fun v9 =>
      F_X9_numbers_127 k_62 f a1 a2 a3 a4 v9 m8)
set_option maxRecDepth 100000 in
set_option maxHeartbeats 4000000 in
theorem t_X9_numbers_127 {pp : Program} {ll : Launch} {ee : Env} {ss : State} {mm : MethodId} {aa : Array Value} {bb : List Frame} {me : Method} {co : Code} {cx : CX}  {k_62 : Int32 → Int32 → Int32 → Int32 → Mm → Option (Int32 × Mm)}   (C : CM pp ss mm aa me co cX9_numbers 8 RX9 cx ((some .int)))   (hk_62 : ∀ (a1 : Int32) (a2 : Int32) (a3 : Int32) (a4 : Int32) (m : Mm), TI pp ll ee rm_X9_numbers ss mm aa bb me co 8 cx 62 [(0, .ref (cx.2.2.1 + 113)), (2, .int a1), (3, .int a2), (4, .int a3), (5, .int a4)] [] m (k_62 a1 a2 a3 a4 m)) : ∀ (f : Nat) (a1 : Int32) (a2 : Int32) (a3 : Int32) (a4 : Int32) (a5 : Int32) (m : Mm), TI pp ll ee rm_X9_numbers ss mm aa bb me co 8 cx 127 [(0, .ref (cx.2.2.1 + 113)), (2, .int a1), (3, .int a2), (4, .int a3), (5, .int a4), (6, .int a5)] [] m (F_X9_numbers_127 k_62 f a1 a2 a3 a4 a5 m) := by
  intro f
  induction f with
  | zero => exact fun _ _ _ _ _ _ => T_none
  | succ f ih =>
    intro a1 a2 a3 a4 a5 m
    unfold F_X9_numbers_127
    refine T_iload C.1 dX9_numbers_127 5 rfl ?_
    refine T_aload_n C.1 dX9_numbers_129 0 rfl ?_
    refine T_getI C.1 fd_X9_155 (fun _ _ _ _ => rfl) sh113 le113 dX9_numbers_130 ?_
    refine T_icmp_ge (tgt := 180) C.1 dX9_numbers_133 (by decide) ?_ ?_
    · refine T_iincN C.1 (fun v1 => [(5, .int v1), (0, .ref (cx.2.2.1 + 113)), (2, .int a1), (3, .int a2), (4, .int a3), (6, .int a5)]) dX9_numbers_180 4 rfl (by decide) (fun _ => rfl) (fun v1 => ?_)
      refine T_goto (tgt := 62) C.1 dX9_numbers_183 (by decide) ?_
      exact T_sub [1, 2, 3, 4, 0] rfl (hk_62 a1 a2 a3 v1 m)
    · refine T_aload_n C.1 dX9_numbers_136 0 rfl ?_
      refine T_getR (x := 146) C.1 fd_X9_115 (fun _ _ _ _ => rfl) sh113 le113 (fun _ h => h) rfl (by decide) dX9_numbers_137 ?_
      refine T_iload C.1 dX9_numbers_140 5 rfl ?_
      refine T_dup2 C.1 dX9_numbers_142 rfl rfl ?_
      refine T_iald C.1 dX9_numbers_143 sh146 le146 (fun j2 => ?_)
      refine T_aload_n C.1 dX9_numbers_144 0 rfl ?_
      refine T_getR (x := 114) C.1 fd_X9_7 (fun _ _ _ _ => rfl) sh113 le113 (fun _ h => h) rfl (by decide) dX9_numbers_145 ?_
      refine T_bipush C.1 dX9_numbers_148 rfl ?_
      refine T_aload_n C.1 dX9_numbers_150 0 rfl ?_
      refine T_getR (x := 117) C.1 fd_X9_23 (fun _ _ _ _ => rfl) sh113 le113 (fun _ h => h) rfl (by decide) dX9_numbers_151 ?_
      refine T_iload C.1 dX9_numbers_154 5 rfl ?_
      refine T_iald C.1 dX9_numbers_156 sh117 le117 (fun j3 => ?_)
      refine T_imul C.1 dX9_numbers_157 ?_
      refine T_aload_n C.1 dX9_numbers_158 0 rfl ?_
      refine T_iconst C.1 dX9_numbers_159 ?_
      refine T_aload_n C.1 dX9_numbers_160 0 rfl ?_
      refine T_getR (x := 117) C.1 fd_X9_23 (fun _ _ _ _ => rfl) sh113 le113 (fun _ h => h) rfl (by decide) dX9_numbers_161 ?_
      refine T_iload C.1 dX9_numbers_164 5 rfl ?_
      refine T_iald C.1 dX9_numbers_166 sh117 le117 (fun j4 => ?_)
      refine T_callVI (rm := rm_X9_hasIn) [.int (iI 1), .int (gI m 117 j4)] [.int ((iI 7) * (gI m 117 j3)), .ref (cx.2.2.1 + 114), .int (gI m 146 j2), .int a5, .ref (cx.2.2.1 + 146)] C.1 dX9_numbers_167 mw_X9_hasIn wm_5_202 wm_5_204 wm_p_42 ⟨Nat.le_of_ble_eq_true rfl, Nat.le_of_ble_eq_true rfl⟩ ⟨rfl, rfl⟩ ⟨Nat.zero_le _, Nat.zero_le _⟩ rfl rfl (Nat.le_of_ble_eq_true rfl) sh113 le113 ⟨rfl, rfl⟩ (c_X9_hasIn ll cx (iI 1) (gI m 117 j4) m) (fun v5 m6 => ?_)
      refine T_iadd C.1 dX9_numbers_170 ?_
      refine T_iald C.1 dX9_numbers_171 sh114 le114 (fun j7 => ?_)
      refine T_iadd C.1 dX9_numbers_172 ?_
      refine T_iast C.1 LyI_Lay sh146 le146 dX9_numbers_173 (fun m8 => ?_)
      refine T_iincN C.1 (fun v9 => [(6, .int v9), (0, .ref (cx.2.2.1 + 113)), (2, .int a1), (3, .int a2), (4, .int a3), (5, .int a4)]) dX9_numbers_174 5 rfl (by decide) (fun _ => rfl) (fun v9 => ?_)
      refine T_goto (tgt := 127) C.1 dX9_numbers_177 (by decide) ?_
      exact T_sub [1, 2, 3, 4, 5, 0] rfl (ih a1 a2 a3 a4 v9 m8)
def F_X9_numbers_80 (k_62 : Int32 → Int32 → Int32 → Int32 → Mm → Option (Int32 × Mm)) : Nat → Int32 → Int32 → Int32 → Int32 → Int32 → Mm → Option (Int32 × Mm)
  | 0, _, _, _, _, _, _ => none
  | f + 1, a1, a2, a3, a4, a5, m =>
    (if a5 < (iI 1) then
      bnd (F_X9_goEvening m) fun _ m2 =>
      F_X9_numbers_127 (k_62) FU a1 a2 a3 a4 (iI 0) m2
    else
      nm ((a3 * (iI (1103515245))) + (iI 12345)) fun v3 =>
      rmI ((v3.toUInt32 >>> ((iI 8).toUInt32 &&& Int32.toUInt32 31)).toInt32) (a5 + (iI 1)) fun v4 =>
      bnd (F_X9_swapLot a5 v4 m) fun _ m6 =>
      nm (a5 + (iI (-1))) fun v7 =>
      F_X9_numbers_80 k_62 f a1 a2 v3 a4 v7 m6)
set_option maxRecDepth 100000 in
set_option maxHeartbeats 4000000 in
theorem t_X9_numbers_80 {pp : Program} {ll : Launch} {ee : Env} {ss : State} {mm : MethodId} {aa : Array Value} {bb : List Frame} {me : Method} {co : Code} {cx : CX}  {k_62 : Int32 → Int32 → Int32 → Int32 → Mm → Option (Int32 × Mm)}   (C : CM pp ss mm aa me co cX9_numbers 8 RX9 cx ((some .int)))   (hk_62 : ∀ (a1 : Int32) (a2 : Int32) (a3 : Int32) (a4 : Int32) (m : Mm), TI pp ll ee rm_X9_numbers ss mm aa bb me co 8 cx 62 [(0, .ref (cx.2.2.1 + 113)), (2, .int a1), (3, .int a2), (4, .int a3), (5, .int a4)] [] m (k_62 a1 a2 a3 a4 m)) : ∀ (f : Nat) (a1 : Int32) (a2 : Int32) (a3 : Int32) (a4 : Int32) (a5 : Int32) (m : Mm), TI pp ll ee rm_X9_numbers ss mm aa bb me co 8 cx 80 [(0, .ref (cx.2.2.1 + 113)), (2, .int a1), (3, .int a2), (4, .int a3), (5, .int a4), (6, .int a5)] [] m (F_X9_numbers_80 k_62 f a1 a2 a3 a4 a5 m) := by
  intro f
  induction f with
  | zero => exact fun _ _ _ _ _ _ => T_none
  | succ f ih =>
    intro a1 a2 a3 a4 a5 m
    unfold F_X9_numbers_80
    refine T_iload C.1 dX9_numbers_80 5 rfl ?_
    refine T_iconst C.1 dX9_numbers_82 ?_
    refine T_icmp_lt (tgt := 120) C.1 dX9_numbers_83 (by decide) ?_ ?_
    · refine T_aload_n C.1 dX9_numbers_120 0 rfl ?_
      refine T_callVV (rm := rm_X9_goEvening) [] [] C.1 dX9_numbers_121 mw_X9_goEvening wm_6_130 wm_6_132 wm_p_70 ⟨Nat.le_of_ble_eq_true rfl, Nat.le_of_ble_eq_true rfl⟩ ⟨rfl, rfl⟩ ⟨Nat.zero_le _, Nat.zero_le _⟩ rfl rfl (Nat.le_of_ble_eq_true rfl) sh113 le113 ⟨rfl, rfl⟩ (c_X9_goEvening ll cx m) (fun u1 m2 => ?_)
      refine T_iconst C.1 dX9_numbers_124 ?_
      refine T_istore (lv' := [(6, .int (iI 0)), (0, .ref (cx.2.2.1 + 113)), (2, .int a1), (3, .int a2), (4, .int a3), (5, .int a4)]) C.1 dX9_numbers_125 (by decide) rfl ?_
      exact T_sub [1, 2, 3, 4, 5, 0] rfl (t_X9_numbers_127 C (hk_62) FU a1 a2 a3 a4 (iI 0) m2)
    · refine T_iload C.1 dX9_numbers_86 3 rfl ?_
      refine T_ldcw C.1 dX9_numbers_88 wc_X9_364 ?_
      refine T_imul C.1 dX9_numbers_91 ?_
      refine T_sipush C.1 dX9_numbers_92 rfl ?_
      refine T_iadd C.1 dX9_numbers_95 ?_
      refine T_istoreN C.1 (fun v3 => [(4, .int v3), (0, .ref (cx.2.2.1 + 113)), (2, .int a1), (3, .int a2), (5, .int a4), (6, .int a5)]) dX9_numbers_96 (by decide) (fun _ => rfl) (fun v3 => ?_)
      refine T_aload_n C.1 dX9_numbers_98 1 rfl ?_
      refine T_iload C.1 dX9_numbers_99 5 rfl ?_
      refine T_iload C.1 dX9_numbers_101 0 rfl ?_
      refine T_bipush C.1 dX9_numbers_103 rfl ?_
      refine T_iushr C.1 dX9_numbers_105 ?_
      refine T_iload C.1 dX9_numbers_106 5 rfl ?_
      refine T_iconst C.1 dX9_numbers_108 ?_
      refine T_iadd C.1 dX9_numbers_109 ?_
      refine T_irem C.1 dX9_numbers_110 (fun v4 => ?_)
      refine T_callVV (rm := rm_X9_swapLot) [.int a5, .int v4] [] C.1 dX9_numbers_111 mw_X9_swapLot wm_5_213 wm_5_215 wm_p_43 ⟨Nat.le_of_ble_eq_true rfl, Nat.le_of_ble_eq_true rfl⟩ ⟨rfl, rfl⟩ ⟨Nat.zero_le _, Nat.zero_le _⟩ rfl rfl (Nat.le_of_ble_eq_true rfl) sh113 le113 ⟨rfl, rfl⟩ (c_X9_swapLot ll cx a5 v4 m) (fun u5 m6 => ?_)
      refine T_iincN C.1 (fun v7 => [(6, .int v7), (4, .int v3), (0, .ref (cx.2.2.1 + 113)), (2, .int a1), (3, .int a2), (5, .int a4)]) dX9_numbers_114 5 rfl (by decide) (fun _ => rfl) (fun v7 => ?_)
      refine T_goto (tgt := 80) C.1 dX9_numbers_117 (by decide) ?_
      exact T_sub [2, 3, 4, 1, 5, 0] rfl (ih a1 a2 v3 a4 v7 m6)
def F_X9_numbers_62  : Nat → Int32 → Int32 → Int32 → Int32 → Mm → Option (Int32 × Mm)
  | 0, _, _, _, _, _ => none
  | f + 1, a1, a2, a3, a4, m =>
    (if a1 ≤ a4 then
      bnd (F_X9_layLot m) fun _ m2 =>
      (if a2 < iI 0 then
        F_X9_numbers_210 FU (iI 0) (iI 0) (iI 0) m2
      else
        rd 7 a2 fun j3 =>
        some ((gI m2 146 j3), m2))
    else
      bnd (F_X9_layLot m) fun _ m5 =>
      nm ((gI m5 113 1) - (iI 1)) fun v6 =>
      F_X9_numbers_80 (F_X9_numbers_62  f) FU a1 a2 a3 a4 v6 m5)
set_option maxRecDepth 100000 in
set_option maxHeartbeats 4000000 in
theorem t_X9_numbers_62 {pp : Program} {ll : Launch} {ee : Env} {ss : State} {mm : MethodId} {aa : Array Value} {bb : List Frame} {me : Method} {co : Code} {cx : CX}     (C : CM pp ss mm aa me co cX9_numbers 8 RX9 cx ((some .int)))    : ∀ (f : Nat) (a1 : Int32) (a2 : Int32) (a3 : Int32) (a4 : Int32) (m : Mm), TI pp ll ee rm_X9_numbers ss mm aa bb me co 8 cx 62 [(0, .ref (cx.2.2.1 + 113)), (2, .int a1), (3, .int a2), (4, .int a3), (5, .int a4)] [] m (F_X9_numbers_62  f a1 a2 a3 a4 m) := by
  intro f
  induction f with
  | zero => exact fun _ _ _ _ _ => T_none
  | succ f ih =>
    intro a1 a2 a3 a4 m
    unfold F_X9_numbers_62
    refine T_iload C.1 dX9_numbers_62 4 rfl ?_
    refine T_iload_n C.1 dX9_numbers_64 1 rfl ?_
    refine T_icmp_ge (tgt := 186) C.1 dX9_numbers_65 (by decide) ?_ ?_
    · refine T_aload_n C.1 dX9_numbers_186 0 rfl ?_
      refine T_callVV (rm := rm_X9_layLot) [] [] C.1 dX9_numbers_187 mw_X9_layLot wm_6_182 wm_6_184 wm_p_78 ⟨Nat.le_of_ble_eq_true rfl, Nat.le_of_ble_eq_true rfl⟩ ⟨rfl, rfl⟩ ⟨Nat.zero_le _, Nat.zero_le _⟩ rfl rfl (Nat.le_of_ble_eq_true rfl) sh113 le113 ⟨rfl, rfl⟩ (c_X9_layLot ll cx m) (fun u1 m2 => ?_)
      refine T_iload_n C.1 dX9_numbers_190 2 rfl ?_
      refine T_if_lt (tgt := 201) C.1 dX9_numbers_191 (by decide) ?_ ?_
      · refine T_iconst C.1 dX9_numbers_201 ?_
        refine T_istore (lv' := [(5, .int (iI 0)), (0, .ref (cx.2.2.1 + 113)), (2, .int a1), (3, .int a2), (4, .int a3)]) C.1 dX9_numbers_202 (by decide) rfl ?_
        refine T_iconst C.1 dX9_numbers_204 ?_
        refine T_istore (lv' := [(6, .int (iI 0)), (5, .int (iI 0)), (0, .ref (cx.2.2.1 + 113)), (2, .int a1), (3, .int a2), (4, .int a3)]) C.1 dX9_numbers_205 (by decide) rfl ?_
        refine T_iconst C.1 dX9_numbers_207 ?_
        refine T_istore (lv' := [(7, .int (iI 0)), (6, .int (iI 0)), (5, .int (iI 0)), (0, .ref (cx.2.2.1 + 113)), (2, .int a1), (3, .int a2), (4, .int a3)]) C.1 dX9_numbers_208 (by decide) rfl ?_
        exact T_sub [3, 2, 1, 0] rfl (t_X9_numbers_210 C FU (iI 0) (iI 0) (iI 0) m2)
      · refine T_aload_n C.1 dX9_numbers_194 0 rfl ?_
        refine T_getR (x := 146) C.1 fd_X9_115 (fun _ _ _ _ => rfl) sh113 le113 (fun _ h => h) rfl (by decide) dX9_numbers_195 ?_
        refine T_iload_n C.1 dX9_numbers_198 2 rfl ?_
        refine T_iald C.1 dX9_numbers_199 sh146 le146 (fun j3 => ?_)
        exact T_iret C.1 C.2.1 C.2.2 dX9_numbers_200
    · refine T_aload_n C.1 dX9_numbers_68 0 rfl ?_
      refine T_callVV (rm := rm_X9_layLot) [] [] C.1 dX9_numbers_69 mw_X9_layLot wm_6_182 wm_6_184 wm_p_78 ⟨Nat.le_of_ble_eq_true rfl, Nat.le_of_ble_eq_true rfl⟩ ⟨rfl, rfl⟩ ⟨Nat.zero_le _, Nat.zero_le _⟩ rfl rfl (Nat.le_of_ble_eq_true rfl) sh113 le113 ⟨rfl, rfl⟩ (c_X9_layLot ll cx m) (fun u4 m5 => ?_)
      refine T_aload_n C.1 dX9_numbers_72 0 rfl ?_
      refine T_getI C.1 fd_X9_155 (fun _ _ _ _ => rfl) sh113 le113 dX9_numbers_73 ?_
      refine T_iconst C.1 dX9_numbers_76 ?_
      refine T_isub C.1 dX9_numbers_77 ?_
      refine T_istoreN C.1 (fun v6 => [(6, .int v6), (0, .ref (cx.2.2.1 + 113)), (2, .int a1), (3, .int a2), (4, .int a3), (5, .int a4)]) dX9_numbers_78 (by decide) (fun _ => rfl) (fun v6 => ?_)
      exact T_sub [1, 2, 3, 4, 5, 0] rfl (t_X9_numbers_80 C (ih) FU a1 a2 a3 a4 v6 m5)
def F_X9_numbers_29  : Nat → Int32 → Int32 → Int32 → Int32 → Mm → Option (Int32 × Mm)
  | 0, _, _, _, _, _ => none
  | f + 1, a1, a2, a3, a4, m =>
    (if (gI m 113 1) ≤ a4 then
      bnd (F_X9_keepLot m) fun _ m2 =>
      F_X9_numbers_62 FU a2 a3 a1 (iI 0) m2
    else
      wrI 7 m 146 a4 (iI 0) fun m3 =>
      nm (a4 + (iI 1)) fun v4 =>
      F_X9_numbers_29  f a1 a2 a3 v4 m3)
set_option maxRecDepth 100000 in
set_option maxHeartbeats 4000000 in
theorem t_X9_numbers_29 {pp : Program} {ll : Launch} {ee : Env} {ss : State} {mm : MethodId} {aa : Array Value} {bb : List Frame} {me : Method} {co : Code} {cx : CX}     (C : CM pp ss mm aa me co cX9_numbers 8 RX9 cx ((some .int)))    : ∀ (f : Nat) (a1 : Int32) (a2 : Int32) (a3 : Int32) (a4 : Int32) (m : Mm), TI pp ll ee rm_X9_numbers ss mm aa bb me co 8 cx 29 [(0, .ref (cx.2.2.1 + 113)), (1, .int a1), (2, .int a2), (3, .int a3), (4, .int a4)] [] m (F_X9_numbers_29  f a1 a2 a3 a4 m) := by
  intro f
  induction f with
  | zero => exact fun _ _ _ _ _ => T_none
  | succ f ih =>
    intro a1 a2 a3 a4 m
    unfold F_X9_numbers_29
    refine T_iload C.1 dX9_numbers_29 4 rfl ?_
    refine T_aload_n C.1 dX9_numbers_31 0 rfl ?_
    refine T_getI C.1 fd_X9_155 (fun _ _ _ _ => rfl) sh113 le113 dX9_numbers_32 ?_
    refine T_icmp_ge (tgt := 52) C.1 dX9_numbers_35 (by decide) ?_ ?_
    · refine T_aload_n C.1 dX9_numbers_52 0 rfl ?_
      refine T_callVV (rm := rm_X9_keepLot) [] [] C.1 dX9_numbers_53 mw_X9_keepLot wm_6_178 wm_6_180 wm_p_77 ⟨Nat.le_of_ble_eq_true rfl, Nat.le_of_ble_eq_true rfl⟩ ⟨rfl, rfl⟩ ⟨Nat.zero_le _, Nat.zero_le _⟩ rfl rfl (Nat.le_of_ble_eq_true rfl) sh113 le113 ⟨rfl, rfl⟩ (c_X9_keepLot ll cx m) (fun u1 m2 => ?_)
      refine T_iload_n C.1 dX9_numbers_56 1 rfl ?_
      refine T_istore (lv' := [(4, .int a1), (0, .ref (cx.2.2.1 + 113)), (1, .int a1), (2, .int a2), (3, .int a3)]) C.1 dX9_numbers_57 (by decide) rfl ?_
      refine T_iconst C.1 dX9_numbers_59 ?_
      refine T_istore (lv' := [(5, .int (iI 0)), (4, .int a1), (0, .ref (cx.2.2.1 + 113)), (1, .int a1), (2, .int a2), (3, .int a3)]) C.1 dX9_numbers_60 (by decide) rfl ?_
      exact T_sub [2, 4, 5, 1, 0] rfl (t_X9_numbers_62 C FU a2 a3 a1 (iI 0) m2)
    · refine T_aload_n C.1 dX9_numbers_38 0 rfl ?_
      refine T_getR (x := 146) C.1 fd_X9_115 (fun _ _ _ _ => rfl) sh113 le113 (fun _ h => h) rfl (by decide) dX9_numbers_39 ?_
      refine T_iload C.1 dX9_numbers_42 4 rfl ?_
      refine T_iconst C.1 dX9_numbers_44 ?_
      refine T_iast C.1 LyI_Lay sh146 le146 dX9_numbers_45 (fun m3 => ?_)
      refine T_iincN C.1 (fun v4 => [(4, .int v4), (0, .ref (cx.2.2.1 + 113)), (1, .int a1), (2, .int a2), (3, .int a3)]) dX9_numbers_46 4 rfl (by decide) (fun _ => rfl) (fun v4 => ?_)
      refine T_goto (tgt := 29) C.1 dX9_numbers_49 (by decide) ?_
      exact T_sub [1, 2, 3, 4, 0] rfl (ih a1 a2 a3 v4 m3)
def F_X9_numbers  (x1 : Int32) (x2 : Int32) (x3 : Int32) (m : Mm) : Option (Int32 × Mm) :=
  bnd (F_X9_in x2 (iI 1) (iI 30) m) fun v1 m2 =>
  (if v1 = iI 0 then
    some ((iI (-1)), m2)
  else
    bnd (F_X9_in x3 (iI (-1)) ((gI m2 113 1) - (iI 1)) m2) fun v3 m4 =>
    (if v3 = iI 0 then
      some ((iI (-1)), m4)
    else
      F_X9_numbers_29 FU x1 x2 x3 (iI 0) m4))
set_option maxRecDepth 100000 in
set_option maxHeartbeats 4000000 in
theorem c_X9_numbers (ll : Launch) (cx : CX) (x1 : Int32) (x2 : Int32) (x3 : Int32) (m : Mm) : MT ll yX9_numbers cX9_numbers 8 ((some .int)) rm_X9_numbers cx NN NN Lay cvI 0 0 [.ref (cx.2.2.1 + 113), .int x1, .int x2, .int x3] m (F_X9_numbers x1 x2 x3 m) := by
  refine MT_of (by decide) (Nat.le_of_ble_eq_true rfl) ?_
  intro pp ee ss mm aa bb me co hK hr hk hn
  have C : CM pp ss mm aa me co cX9_numbers 8 RX9 cx ((some .int)) := ⟨hK, hr, hk⟩
  show TI pp ll ee rm_X9_numbers ss mm aa bb me co 8 cx 0 [(0, .ref (cx.2.2.1 + 113)), (1, .int x1), (2, .int x2), (3, .int x3)] [] m (F_X9_numbers x1 x2 x3 m)
  unfold F_X9_numbers
  refine T_iload_n C.1 dX9_numbers_0 2 rfl ?_
  refine T_iconst C.1 dX9_numbers_1 ?_
  refine T_bipush C.1 dX9_numbers_2 rfl ?_
  refine T_callSI (rm := rm_X9_in) [.int x2, .int (iI 1), .int (iI 30)] [] C.1 dX9_numbers_4 mw_X9_in wm_5_145 wm_5_146 ⟨Nat.le_of_ble_eq_true rfl, Nat.le_of_ble_eq_true rfl⟩ ⟨rfl, rfl⟩ ⟨Nat.zero_le _, Nat.zero_le _⟩ rfl rfl (Nat.le_of_ble_eq_true rfl) (c_X9_in ll cx x2 (iI 1) (iI 30) m) (fun v1 m2 => ?_)
  refine T_if_eq (tgt := 24) C.1 dX9_numbers_7 (by decide) ?_ ?_
  · refine T_iconst C.1 dX9_numbers_24 ?_
    exact T_iret C.1 C.2.1 C.2.2 dX9_numbers_25
  · refine T_iload_n C.1 dX9_numbers_10 3 rfl ?_
    refine T_iconst C.1 dX9_numbers_11 ?_
    refine T_aload_n C.1 dX9_numbers_12 0 rfl ?_
    refine T_getI C.1 fd_X9_155 (fun _ _ _ _ => rfl) sh113 le113 dX9_numbers_13 ?_
    refine T_iconst C.1 dX9_numbers_16 ?_
    refine T_isub C.1 dX9_numbers_17 ?_
    refine T_callSI (rm := rm_X9_in) [.int x3, .int (iI (-1)), .int ((gI m2 113 1) - (iI 1))] [] C.1 dX9_numbers_18 mw_X9_in wm_5_145 wm_5_146 ⟨Nat.le_of_ble_eq_true rfl, Nat.le_of_ble_eq_true rfl⟩ ⟨rfl, rfl⟩ ⟨Nat.zero_le _, Nat.zero_le _⟩ rfl rfl (Nat.le_of_ble_eq_true rfl) (c_X9_in ll cx x3 (iI (-1)) ((gI m2 113 1) - (iI 1)) m2) (fun v3 m4 => ?_)
    refine T_if_ne (tgt := 26) C.1 dX9_numbers_21 (by decide) ?_ ?_
    · refine T_iconst C.1 dX9_numbers_26 ?_
      refine T_istore (lv' := [(4, .int (iI 0)), (0, .ref (cx.2.2.1 + 113)), (1, .int x1), (2, .int x2), (3, .int x3)]) C.1 dX9_numbers_27 (by decide) rfl ?_
      exact T_sub [1, 2, 3, 4, 0] rfl (t_X9_numbers_29 C FU x1 x2 x3 (iI 0) m4)
    · refine T_iconst C.1 dX9_numbers_24 ?_
      exact T_iret C.1 C.2.1 C.2.2 dX9_numbers_25
def rm_X9_rowFault : Room := { frames := 1, cells := 0, slots := 0, locals := 40 }
def F_X9_rowFault  (x1 : Int32) (m : Mm) : Option (Int32 × Mm) :=
  rd 6 x1 fun j1 =>
  (if (gI m 153 j1) = (iI (-1)) then
    some ((iI (-11)), m)
  else
    rd 6 x1 fun j2 =>
    (if (gI m 153 j2) = (iI (-2)) then
      some ((iI 0), m)
    else
      some ((iI (-12)), m)))
set_option maxRecDepth 100000 in
set_option maxHeartbeats 4000000 in
theorem c_X9_rowFault (ll : Launch) (cx : CX) (x1 : Int32) (m : Mm) : MT ll yX9_rowFault cX9_rowFault 2 ((some .int)) rm_X9_rowFault cx NN NN Lay cvI 0 0 [.ref (cx.2.2.1 + 113), .int x1] m (F_X9_rowFault x1 m) := by
  refine MT_of (by decide) (Nat.le_of_ble_eq_true rfl) ?_
  intro pp ee ss mm aa bb me co hK hr hk hn
  have C : CM pp ss mm aa me co cX9_rowFault 2 RX9 cx ((some .int)) := ⟨hK, hr, hk⟩
  show TI pp ll ee rm_X9_rowFault ss mm aa bb me co 2 cx 0 [(0, .ref (cx.2.2.1 + 113)), (1, .int x1)] [] m (F_X9_rowFault x1 m)
  unfold F_X9_rowFault
  refine T_aload_n C.1 dX9_rowFault_0 0 rfl ?_
  refine T_getR (x := 153) C.1 fd_X9_139 (fun _ _ _ _ => rfl) sh113 le113 (fun _ h => h) rfl (by decide) dX9_rowFault_1 ?_
  refine T_iload_n C.1 dX9_rowFault_4 1 rfl ?_
  refine T_iald C.1 dX9_rowFault_5 sh153 le153 (fun j1 => ?_)
  refine T_iconst C.1 dX9_rowFault_6 ?_
  refine T_icmp_ne (tgt := 15) C.1 dX9_rowFault_7 (by decide) ?_ ?_
  · refine T_aload_n C.1 dX9_rowFault_15 0 rfl ?_
    refine T_getR (x := 153) C.1 fd_X9_139 (fun _ _ _ _ => rfl) sh113 le113 (fun _ h => h) rfl (by decide) dX9_rowFault_16 ?_
    refine T_iload_n C.1 dX9_rowFault_19 1 rfl ?_
    refine T_iald C.1 dX9_rowFault_20 sh153 le153 (fun j2 => ?_)
    refine T_bipush C.1 dX9_rowFault_21 rfl ?_
    refine T_icmp_ne (tgt := 30) C.1 dX9_rowFault_23 (by decide) ?_ ?_
    · refine T_bipush C.1 dX9_rowFault_30 rfl ?_
      exact T_iret C.1 C.2.1 C.2.2 dX9_rowFault_32
    · refine T_iconst C.1 dX9_rowFault_26 ?_
      refine T_goto (tgt := 32) C.1 dX9_rowFault_27 (by decide) ?_
      exact T_iret C.1 C.2.1 C.2.2 dX9_rowFault_32
  · refine T_bipush C.1 dX9_rowFault_10 rfl ?_
    refine T_goto (tgt := 32) C.1 dX9_rowFault_12 (by decide) ?_
    exact T_iret C.1 C.2.1 C.2.2 dX9_rowFault_32
def rm_X9_wrongIn : Room := { frames := 8, cells := 0, slots := 0, locals := 205 }
def F_X9_wrongIn_6  : Nat → Int32 → Int32 → Mm → Option (Int32 × Mm)
  | 0, _, _, _ => none
  | f + 1, a1, a2, m =>
    (if (gI m 113 1) ≤ a2 then
      some ((iI (-2)), m)
    else
      rd 6 a1 fun j1 =>
      (if (gI m 154 j1) ≤ a2 then
        some ((iI (-2)), m)
      else
        rd 360 (((iI 60) * a1) + a2) fun j2 =>
        bnd (F_X9_hasIn (iI 1) a2 m) fun v3 m4 =>
        (if (lg_cmp (gL m 155 j2) (v3.toInt64)) = iI 0 then
          nm (a2 + (iI 1)) fun v5 =>
          F_X9_wrongIn_6  f a1 v5 m4
        else
          some (a2, m4))))
set_option maxRecDepth 100000 in
set_option maxHeartbeats 4000000 in
theorem t_X9_wrongIn_6 {pp : Program} {ll : Launch} {ee : Env} {ss : State} {mm : MethodId} {aa : Array Value} {bb : List Frame} {me : Method} {co : Code} {cx : CX}     (C : CM pp ss mm aa me co cX9_wrongIn 3 RX9 cx ((some .int)))    : ∀ (f : Nat) (a1 : Int32) (a2 : Int32) (m : Mm), TI pp ll ee rm_X9_wrongIn ss mm aa bb me co 3 cx 6 [(0, .ref (cx.2.2.1 + 113)), (1, .int a1), (2, .int a2)] [] m (F_X9_wrongIn_6  f a1 a2 m) := by
  intro f
  induction f with
  | zero => exact fun _ _ _ => T_none
  | succ f ih =>
    intro a1 a2 m
    unfold F_X9_wrongIn_6
    refine T_iload_n C.1 dX9_wrongIn_6 2 rfl ?_
    refine T_aload_n C.1 dX9_wrongIn_7 0 rfl ?_
    refine T_getI C.1 fd_X9_155 (fun _ _ _ _ => rfl) sh113 le113 dX9_wrongIn_8 ?_
    refine T_icmp_ge (tgt := 54) C.1 dX9_wrongIn_11 (by decide) ?_ ?_
    · refine T_bipush C.1 dX9_wrongIn_54 rfl ?_
      exact T_iret C.1 C.2.1 C.2.2 dX9_wrongIn_56
    · refine T_iload_n C.1 dX9_wrongIn_14 2 rfl ?_
      refine T_aload_n C.1 dX9_wrongIn_15 0 rfl ?_
      refine T_getR (x := 154) C.1 fd_X9_142 (fun _ _ _ _ => rfl) sh113 le113 (fun _ h => h) rfl (by decide) dX9_wrongIn_16 ?_
      refine T_iload_n C.1 dX9_wrongIn_19 1 rfl ?_
      refine T_iald C.1 dX9_wrongIn_20 sh154 le154 (fun j1 => ?_)
      refine T_icmp_ge (tgt := 54) C.1 dX9_wrongIn_21 (by decide) ?_ ?_
      · refine T_bipush C.1 dX9_wrongIn_54 rfl ?_
        exact T_iret C.1 C.2.1 C.2.2 dX9_wrongIn_56
      · refine T_aload_n C.1 dX9_wrongIn_24 0 rfl ?_
        refine T_getR (x := 155) C.1 fd_X9_145 (fun _ _ _ _ => rfl) sh113 le113 (fun _ h => h) rfl (by decide) dX9_wrongIn_25 ?_
        refine T_bipush C.1 dX9_wrongIn_28 rfl ?_
        refine T_iload_n C.1 dX9_wrongIn_30 1 rfl ?_
        refine T_imul C.1 dX9_wrongIn_31 ?_
        refine T_iload_n C.1 dX9_wrongIn_32 2 rfl ?_
        refine T_iadd C.1 dX9_wrongIn_33 ?_
        refine T_lald C.1 dX9_wrongIn_34 sh155 le155 (fun j2 => ?_)
        refine T_aload_n C.1 dX9_wrongIn_35 0 rfl ?_
        refine T_iconst C.1 dX9_wrongIn_36 ?_
        refine T_iload_n C.1 dX9_wrongIn_37 2 rfl ?_
        refine T_callVI (rm := rm_X9_hasIn) [.int (iI 1), .int a2] [.long (gL m 155 j2)] C.1 dX9_wrongIn_38 mw_X9_hasIn wm_5_202 wm_5_204 wm_p_42 ⟨Nat.le_of_ble_eq_true rfl, Nat.le_of_ble_eq_true rfl⟩ ⟨rfl, rfl⟩ ⟨Nat.zero_le _, Nat.zero_le _⟩ rfl rfl (Nat.le_of_ble_eq_true rfl) sh113 le113 ⟨rfl, rfl⟩ (c_X9_hasIn ll cx (iI 1) a2 m) (fun v3 m4 => ?_)
        refine T_i2l C.1 dX9_wrongIn_41 ?_
        refine T_lcmp C.1 dX9_wrongIn_42 ?_
        refine T_if_eq (tgt := 48) C.1 dX9_wrongIn_43 (by decide) ?_ ?_
        · refine T_iincN C.1 (fun v5 => [(2, .int v5), (0, .ref (cx.2.2.1 + 113)), (1, .int a1)]) dX9_wrongIn_48 2 rfl (by decide) (fun _ => rfl) (fun v5 => ?_)
          refine T_goto (tgt := 6) C.1 dX9_wrongIn_51 (by decide) ?_
          exact T_sub [1, 2, 0] rfl (ih a1 v5 m4)
        · refine T_iload_n C.1 dX9_wrongIn_46 2 rfl ?_
          exact T_iret C.1 C.2.1 C.2.2 dX9_wrongIn_47
def F_X9_wrongIn  (x1 : Int32) (m : Mm) : Option (Int32 × Mm) :=
  bnd (F_X9_goEvening m) fun _ m2 =>
  F_X9_wrongIn_6 FU x1 (iI 0) m2
set_option maxRecDepth 100000 in
set_option maxHeartbeats 4000000 in
theorem c_X9_wrongIn (ll : Launch) (cx : CX) (x1 : Int32) (m : Mm) : MT ll yX9_wrongIn cX9_wrongIn 3 ((some .int)) rm_X9_wrongIn cx NN NN Lay cvI 0 0 [.ref (cx.2.2.1 + 113), .int x1] m (F_X9_wrongIn x1 m) := by
  refine MT_of (by decide) (Nat.le_of_ble_eq_true rfl) ?_
  intro pp ee ss mm aa bb me co hK hr hk hn
  have C : CM pp ss mm aa me co cX9_wrongIn 3 RX9 cx ((some .int)) := ⟨hK, hr, hk⟩
  show TI pp ll ee rm_X9_wrongIn ss mm aa bb me co 3 cx 0 [(0, .ref (cx.2.2.1 + 113)), (1, .int x1)] [] m (F_X9_wrongIn x1 m)
  unfold F_X9_wrongIn
  refine T_aload_n C.1 dX9_wrongIn_0 0 rfl ?_
  refine T_callVV (rm := rm_X9_goEvening) [] [] C.1 dX9_wrongIn_1 mw_X9_goEvening wm_6_130 wm_6_132 wm_p_70 ⟨Nat.le_of_ble_eq_true rfl, Nat.le_of_ble_eq_true rfl⟩ ⟨rfl, rfl⟩ ⟨Nat.zero_le _, Nat.zero_le _⟩ rfl rfl (Nat.le_of_ble_eq_true rfl) sh113 le113 ⟨rfl, rfl⟩ (c_X9_goEvening ll cx m) (fun u1 m2 => ?_)
  refine T_iconst C.1 dX9_wrongIn_4 ?_
  refine T_istore_n (lv' := [(2, .int (iI 0)), (0, .ref (cx.2.2.1 + 113)), (1, .int x1)]) C.1 dX9_wrongIn_5 (by decide) rfl ?_
  exact T_sub [1, 2, 0] rfl (t_X9_wrongIn_6 C FU x1 (iI 0) m2)
def rm_X9_judge : Room := { frames := 9, cells := 0, slots := 0, locals := 227 }
def F_X9_judge  (x1 : Int32) (m : Mm) : Option (Int32 × Mm) :=
  bnd (F_X9_isShelf x1 m) fun v1 m2 =>
  (if v1 = iI 0 then
    some ((iI (-1)), m2)
  else
    bnd (F_X9_rowFault x1 m2) fun v3 m4 =>
    (if iI 0 ≤ v3 then
      bnd (F_X9_wrongIn x1 m4) fun v5 m6 =>
      some (v5, m6)
    else
      bnd (F_X9_rowFault x1 m4) fun v7 m8 =>
      some (v7, m8)))
set_option maxRecDepth 100000 in
set_option maxHeartbeats 4000000 in
theorem c_X9_judge (ll : Launch) (cx : CX) (x1 : Int32) (m : Mm) : MT ll yX9_judge cX9_judge 2 ((some .int)) rm_X9_judge cx NN NN Lay cvI 0 0 [.ref (cx.2.2.1 + 113), .int x1] m (F_X9_judge x1 m) := by
  refine MT_of (by decide) (Nat.le_of_ble_eq_true rfl) ?_
  intro pp ee ss mm aa bb me co hK hr hk hn
  have C : CM pp ss mm aa me co cX9_judge 2 RX9 cx ((some .int)) := ⟨hK, hr, hk⟩
  show TI pp ll ee rm_X9_judge ss mm aa bb me co 2 cx 0 [(0, .ref (cx.2.2.1 + 113)), (1, .int x1)] [] m (F_X9_judge x1 m)
  unfold F_X9_judge
  refine T_iload_n C.1 dX9_judge_0 1 rfl ?_
  refine T_callSI (rm := rm_X9_isShelf) [.int x1] [] C.1 dX9_judge_1 mw_X9_isShelf wm_5_160 wm_5_161 ⟨Nat.le_of_ble_eq_true rfl, Nat.le_of_ble_eq_true rfl⟩ ⟨rfl, rfl⟩ ⟨Nat.zero_le _, Nat.zero_le _⟩ rfl rfl (Nat.le_of_ble_eq_true rfl) (c_X9_isShelf ll cx x1 m) (fun v1 m2 => ?_)
  refine T_if_ne (tgt := 9) C.1 dX9_judge_4 (by decide) ?_ ?_
  · refine T_aload_n C.1 dX9_judge_9 0 rfl ?_
    refine T_iload_n C.1 dX9_judge_10 1 rfl ?_
    refine T_callVI (rm := rm_X9_rowFault) [.int x1] [] C.1 dX9_judge_11 mw_X9_rowFault wm_6_191 wm_6_193 wm_p_79 ⟨Nat.le_of_ble_eq_true rfl, Nat.le_of_ble_eq_true rfl⟩ ⟨rfl, rfl⟩ ⟨Nat.zero_le _, Nat.zero_le _⟩ rfl rfl (Nat.le_of_ble_eq_true rfl) sh113 le113 ⟨rfl, rfl⟩ (c_X9_rowFault ll cx x1 m2) (fun v3 m4 => ?_)
    refine T_if_ge (tgt := 25) C.1 dX9_judge_14 (by decide) ?_ ?_
    · refine T_aload_n C.1 dX9_judge_25 0 rfl ?_
      refine T_iload_n C.1 dX9_judge_26 1 rfl ?_
      refine T_callVI (rm := rm_X9_wrongIn) [.int x1] [] C.1 dX9_judge_27 mw_X9_wrongIn wm_6_195 wm_6_197 wm_p_80 ⟨Nat.le_of_ble_eq_true rfl, Nat.le_of_ble_eq_true rfl⟩ ⟨rfl, rfl⟩ ⟨Nat.zero_le _, Nat.zero_le _⟩ rfl rfl (Nat.le_of_ble_eq_true rfl) sh113 le113 ⟨rfl, rfl⟩ (c_X9_wrongIn ll cx x1 m4) (fun v5 m6 => ?_)
      exact T_iret C.1 C.2.1 C.2.2 dX9_judge_30
    · refine T_aload_n C.1 dX9_judge_17 0 rfl ?_
      refine T_iload_n C.1 dX9_judge_18 1 rfl ?_
      refine T_callVI (rm := rm_X9_rowFault) [.int x1] [] C.1 dX9_judge_19 mw_X9_rowFault wm_6_191 wm_6_193 wm_p_79 ⟨Nat.le_of_ble_eq_true rfl, Nat.le_of_ble_eq_true rfl⟩ ⟨rfl, rfl⟩ ⟨Nat.zero_le _, Nat.zero_le _⟩ rfl rfl (Nat.le_of_ble_eq_true rfl) sh113 le113 ⟨rfl, rfl⟩ (c_X9_rowFault ll cx x1 m4) (fun v7 m8 => ?_)
      refine T_goto (tgt := 30) C.1 dX9_judge_22 (by decide) ?_
      exact T_iret C.1 C.2.1 C.2.2 dX9_judge_30
  · refine T_iconst C.1 dX9_judge_7 ?_
    exact T_iret C.1 C.2.1 C.2.2 dX9_judge_8
def rmS_200 (d : Nat) : Room := { frames := 9 + d, cells := 0, slots := 0, locals := 227 + 25 * d }
def F_X9_goLots_79 (k_30 : Int32 → Int32 → Int32 → Int32 → Int32 → Mm → Option (Int32 × Mm)) (f_X9_goLots : Int32 → Int32 → Int32 → Mm → Option (Int32 × Mm)) (a1 : Int32) (a2 : Int32) (a3 : Int32) (a4 : Int32) (a5 : Int32) (m : Mm) : Option (Int32 × Mm) :=
  nm (a5 + (iI 1)) fun v1 =>
  k_30 a1 a2 a3 a4 v1 m
set_option maxRecDepth 100000 in
set_option maxHeartbeats 4000000 in
theorem t_X9_goLots_79 {pp : Program} {ll : Launch} {ee : Env} {ss : State} {mm : MethodId} {aa : Array Value} {bb : List Frame} {me : Method} {co : Code} {cx : CX} {dd : Nat} {k_30 : Int32 → Int32 → Int32 → Int32 → Int32 → Mm → Option (Int32 × Mm)} {f_X9_goLots : Int32 → Int32 → Int32 → Mm → Option (Int32 × Mm)}  (C : CM pp ss mm aa me co cX9_goLots 6 RX9 cx ((some .int)))  (hf_X9_goLots : ∀ (x1 : Int32) (x2 : Int32) (x3 : Int32) (m : Mm), MT ll yX9_goLots cX9_goLots 6 ((some .int)) (rmS_200 dd) cx NN NN Lay cvI 0 0 [.ref (cx.2.2.1 + 113), .int x1, .int x2, .int x3] m (f_X9_goLots x1 x2 x3 m))  (hk_30 : ∀ (a1 : Int32) (a2 : Int32) (a3 : Int32) (a4 : Int32) (a5 : Int32) (m : Mm), TI pp ll ee (rmS_200 (dd + 1)) ss mm aa bb me co 6 cx 30 [(0, .ref (cx.2.2.1 + 113)), (1, .int a1), (2, .int a2), (3, .int a3), (4, .int a4), (5, .int a5)] [] m (k_30 a1 a2 a3 a4 a5 m)) (a1 : Int32) (a2 : Int32) (a3 : Int32) (a4 : Int32) (a5 : Int32) (m : Mm) : TI pp ll ee (rmS_200 (dd + 1)) ss mm aa bb me co 6 cx 79 [(0, .ref (cx.2.2.1 + 113)), (1, .int a1), (2, .int a2), (3, .int a3), (4, .int a4), (5, .int a5)] [] m (F_X9_goLots_79 k_30 f_X9_goLots a1 a2 a3 a4 a5 m) := by
  unfold F_X9_goLots_79
  refine T_iincN C.1 (fun v1 => [(5, .int v1), (0, .ref (cx.2.2.1 + 113)), (1, .int a1), (2, .int a2), (3, .int a3), (4, .int a4)]) dX9_goLots_79 5 rfl (by decide) (fun _ => rfl) (fun v1 => ?_)
  refine T_goto (tgt := 30) C.1 dX9_goLots_82 (by decide) ?_
  exact T_sub [1, 2, 3, 4, 5, 0] rfl (hk_30 a1 a2 a3 a4 v1 m)
def F_X9_goLots_30 (f_X9_goLots : Int32 → Int32 → Int32 → Mm → Option (Int32 × Mm)) : Nat → Int32 → Int32 → Int32 → Int32 → Int32 → Mm → Option (Int32 × Mm)
  | 0, _, _, _, _, _, _ => none
  | f + 1, a1, a2, a3, a4, a5, m =>
    (if (gI m 113 1) ≤ a5 then
      some (a4, m)
    else
      bnd (F_X9_bit a3 a5 m) fun v1 m2 =>
      (if v1 = (iI 1) then
        F_X9_goLots_79 (F_X9_goLots_30 f_X9_goLots f) f_X9_goLots a1 a2 a3 a4 a5 m2
      else
        wrI 7 m2 117 a2 a5 fun m3 =>
        bnd (f_X9_goLots a1 (a2 + (iI 1)) (a3 ||| ((iI 1) <<< (a5 &&& 31))) m3) fun v4 m5 =>
        nm (a4 + v4) fun v6 =>
        F_X9_goLots_79 (F_X9_goLots_30 f_X9_goLots f) f_X9_goLots a1 a2 a3 v6 a5 m5))
set_option maxRecDepth 100000 in
set_option maxHeartbeats 4000000 in
theorem t_X9_goLots_30 {pp : Program} {ll : Launch} {ee : Env} {ss : State} {mm : MethodId} {aa : Array Value} {bb : List Frame} {me : Method} {co : Code} {cx : CX} {dd : Nat}  {f_X9_goLots : Int32 → Int32 → Int32 → Mm → Option (Int32 × Mm)}  (C : CM pp ss mm aa me co cX9_goLots 6 RX9 cx ((some .int)))  (hf_X9_goLots : ∀ (x1 : Int32) (x2 : Int32) (x3 : Int32) (m : Mm), MT ll yX9_goLots cX9_goLots 6 ((some .int)) (rmS_200 dd) cx NN NN Lay cvI 0 0 [.ref (cx.2.2.1 + 113), .int x1, .int x2, .int x3] m (f_X9_goLots x1 x2 x3 m))   : ∀ (f : Nat) (a1 : Int32) (a2 : Int32) (a3 : Int32) (a4 : Int32) (a5 : Int32) (m : Mm), TI pp ll ee (rmS_200 (dd + 1)) ss mm aa bb me co 6 cx 30 [(0, .ref (cx.2.2.1 + 113)), (1, .int a1), (2, .int a2), (3, .int a3), (4, .int a4), (5, .int a5)] [] m (F_X9_goLots_30 f_X9_goLots f a1 a2 a3 a4 a5 m) := by
  intro f
  induction f with
  | zero => exact fun _ _ _ _ _ _ => T_none
  | succ f ih =>
    intro a1 a2 a3 a4 a5 m
    unfold F_X9_goLots_30
    refine T_iload C.1 dX9_goLots_30 5 rfl ?_
    refine T_aload_n C.1 dX9_goLots_32 0 rfl ?_
    refine T_getI C.1 fd_X9_155 (fun _ _ _ _ => rfl) sh113 le113 dX9_goLots_33 ?_
    refine T_icmp_ge (tgt := 85) C.1 dX9_goLots_36 (by decide) ?_ ?_
    · refine T_iload C.1 dX9_goLots_85 4 rfl ?_
      exact T_iret C.1 C.2.1 C.2.2 dX9_goLots_87
    · refine T_iload_n C.1 dX9_goLots_39 3 rfl ?_
      refine T_iload C.1 dX9_goLots_40 5 rfl ?_
      refine T_callSI (rm := rm_X9_bit) [.int a3, .int a5] [] C.1 dX9_goLots_42 mw_X9_bit wm_5_206 wm_5_207 (by constructor <;> (simp only [rmS_200, rm_X9_bit]; omega)) ⟨rfl, rfl⟩ ⟨Nat.zero_le _, Nat.zero_le _⟩ rfl rfl (Nat.le_of_ble_eq_true rfl) (c_X9_bit ll cx a3 a5 m) (fun v1 m2 => ?_)
      refine T_iconst C.1 dX9_goLots_45 ?_
      refine T_icmp_ne (tgt := 52) C.1 dX9_goLots_46 (by decide) ?_ ?_
      · refine T_aload_n C.1 dX9_goLots_52 0 rfl ?_
        refine T_getR (x := 117) C.1 fd_X9_23 (fun _ _ _ _ => rfl) sh113 le113 (fun _ h => h) rfl (by decide) dX9_goLots_53 ?_
        refine T_iload_n C.1 dX9_goLots_56 2 rfl ?_
        refine T_iload C.1 dX9_goLots_57 5 rfl ?_
        refine T_iast C.1 LyI_Lay sh117 le117 dX9_goLots_59 (fun m3 => ?_)
        refine T_iload C.1 dX9_goLots_60 4 rfl ?_
        refine T_aload_n C.1 dX9_goLots_62 0 rfl ?_
        refine T_iload_n C.1 dX9_goLots_63 1 rfl ?_
        refine T_iload_n C.1 dX9_goLots_64 2 rfl ?_
        refine T_iconst C.1 dX9_goLots_65 ?_
        refine T_iadd C.1 dX9_goLots_66 ?_
        refine T_iload_n C.1 dX9_goLots_67 3 rfl ?_
        refine T_iconst C.1 dX9_goLots_68 ?_
        refine T_iload C.1 dX9_goLots_69 5 rfl ?_
        refine T_ishl C.1 dX9_goLots_71 ?_
        refine T_ior C.1 dX9_goLots_72 ?_
        refine T_callVI (rm := (rmS_200 dd)) [.int a1, .int (a2 + (iI 1)), .int (a3 ||| ((iI 1) <<< (a5 &&& 31)))] [.int a4] C.1 dX9_goLots_73 mw_X9_goLots wm_6_203 wm_6_205 wm_p_81 (by constructor <;> (simp only [rmS_200]; omega)) ⟨rfl, rfl⟩ ⟨Nat.zero_le _, Nat.zero_le _⟩ rfl rfl (Nat.le_of_ble_eq_true rfl) sh113 le113 ⟨rfl, rfl⟩ (hf_X9_goLots a1 (a2 + (iI 1)) (a3 ||| ((iI 1) <<< (a5 &&& 31))) m3) (fun v4 m5 => ?_)
        refine T_iadd C.1 dX9_goLots_76 ?_
        refine T_istoreN C.1 (fun v6 => [(4, .int v6), (0, .ref (cx.2.2.1 + 113)), (1, .int a1), (2, .int a2), (3, .int a3), (5, .int a5)]) dX9_goLots_77 (by decide) (fun _ => rfl) (fun v6 => ?_)
        exact T_sub [1, 2, 3, 4, 0, 5] rfl (t_X9_goLots_79 C hf_X9_goLots (ih) a1 a2 a3 v6 a5 m5)
      · refine T_goto (tgt := 79) C.1 dX9_goLots_49 (by decide) ?_
        exact T_sub [0, 1, 2, 3, 4, 5] rfl (t_X9_goLots_79 C hf_X9_goLots (ih) a1 a2 a3 a4 a5 m2)
def B_X9_goLots (f_X9_goLots : Int32 → Int32 → Int32 → Mm → Option (Int32 × Mm)) (x1 : Int32) (x2 : Int32) (x3 : Int32) (m : Mm) : Option (Int32 × Mm) :=
  (if x2 = (gI m 113 1) then
    bnd (F_X9_wrongIn x1 m) fun v1 m2 =>
    (if v1 = (iI (-2)) then
      some ((iI 1), m2)
    else
      some ((iI 0), m2))
  else
    F_X9_goLots_30 f_X9_goLots FU x1 x2 x3 (iI 0) (iI 0) m)
set_option maxRecDepth 100000 in
set_option maxHeartbeats 4000000 in
theorem b_X9_goLots {ll : Launch} {cx : CX} {dd : Nat} (f_X9_goLots : Int32 → Int32 → Int32 → Mm → Option (Int32 × Mm)) (hf_X9_goLots : ∀ (x1 : Int32) (x2 : Int32) (x3 : Int32) (m : Mm), MT ll yX9_goLots cX9_goLots 6 ((some .int)) (rmS_200 dd) cx NN NN Lay cvI 0 0 [.ref (cx.2.2.1 + 113), .int x1, .int x2, .int x3] m (f_X9_goLots x1 x2 x3 m))  (x1 : Int32) (x2 : Int32) (x3 : Int32) (m : Mm) : MT ll yX9_goLots cX9_goLots 6 ((some .int)) (rmS_200 (dd + 1)) cx NN NN Lay cvI 0 0 [.ref (cx.2.2.1 + 113), .int x1, .int x2, .int x3] m (B_X9_goLots f_X9_goLots x1 x2 x3 m) := by
  refine MT_of (by decide) (Nat.le_of_ble_eq_true rfl) ?_
  intro pp ee ss mm aa bb me co hK hr hk hn
  have C : CM pp ss mm aa me co cX9_goLots 6 RX9 cx ((some .int)) := ⟨hK, hr, hk⟩
  show TI pp ll ee (rmS_200 (dd + 1)) ss mm aa bb me co 6 cx 0 [(0, .ref (cx.2.2.1 + 113)), (1, .int x1), (2, .int x2), (3, .int x3)] [] m (B_X9_goLots f_X9_goLots x1 x2 x3 m)
  unfold B_X9_goLots
  refine T_iload_n C.1 dX9_goLots_0 2 rfl ?_
  refine T_aload_n C.1 dX9_goLots_1 0 rfl ?_
  refine T_getI C.1 fd_X9_155 (fun _ _ _ _ => rfl) sh113 le113 dX9_goLots_2 ?_
  refine T_icmp_ne (tgt := 24) C.1 dX9_goLots_5 (by decide) ?_ ?_
  · refine T_iconst C.1 dX9_goLots_24 ?_
    refine T_istore (lv' := [(4, .int (iI 0)), (0, .ref (cx.2.2.1 + 113)), (1, .int x1), (2, .int x2), (3, .int x3)]) C.1 dX9_goLots_25 (by decide) rfl ?_
    refine T_iconst C.1 dX9_goLots_27 ?_
    refine T_istore (lv' := [(5, .int (iI 0)), (4, .int (iI 0)), (0, .ref (cx.2.2.1 + 113)), (1, .int x1), (2, .int x2), (3, .int x3)]) C.1 dX9_goLots_28 (by decide) rfl ?_
    exact T_sub [2, 3, 4, 5, 1, 0] rfl (t_X9_goLots_30 C hf_X9_goLots FU x1 x2 x3 (iI 0) (iI 0) m)
  · refine T_aload_n C.1 dX9_goLots_8 0 rfl ?_
    refine T_iload_n C.1 dX9_goLots_9 1 rfl ?_
    refine T_callVI (rm := rm_X9_wrongIn) [.int x1] [] C.1 dX9_goLots_10 mw_X9_wrongIn wm_6_195 wm_6_197 wm_p_80 (by constructor <;> (simp only [rmS_200, rm_X9_wrongIn]; omega)) ⟨rfl, rfl⟩ ⟨Nat.zero_le _, Nat.zero_le _⟩ rfl rfl (Nat.le_of_ble_eq_true rfl) sh113 le113 ⟨rfl, rfl⟩ (c_X9_wrongIn ll cx x1 m) (fun v1 m2 => ?_)
    refine T_bipush C.1 dX9_goLots_13 rfl ?_
    refine T_icmp_ne (tgt := 22) C.1 dX9_goLots_15 (by decide) ?_ ?_
    · refine T_iconst C.1 dX9_goLots_22 ?_
      exact T_iret C.1 C.2.1 C.2.2 dX9_goLots_23
    · refine T_iconst C.1 dX9_goLots_18 ?_
      refine T_goto (tgt := 23) C.1 dX9_goLots_19 (by decide) ?_
      exact T_iret C.1 C.2.1 C.2.2 dX9_goLots_23
def R_200 : Nat → (Int32 → Int32 → Int32 → Mm → Option (Int32 × Mm))
  | 0 => (fun _ _ _ _ => none)
  | d + 1 => (B_X9_goLots (R_200 d))
set_option maxRecDepth 100000 in
set_option maxHeartbeats 4000000 in
theorem r_200 (ll : Launch) (cx : CX) : ∀ d : Nat, (∀ (x1 : Int32) (x2 : Int32) (x3 : Int32) (m : Mm), MT ll yX9_goLots cX9_goLots 6 ((some .int)) (rmS_200 d) cx NN NN Lay cvI 0 0 [.ref (cx.2.2.1 + 113), .int x1, .int x2, .int x3] m ((R_200 d) x1 x2 x3 m))
  | 0 => fun _ _ _ _ => fun r μ1 h => (by cases (show (none : Option (Int32 × Mm)) = some (r, μ1) from h))
  | d + 1 => b_X9_goLots _ (r_200 ll cx d)
def F_X9_goLots (x1 : Int32) (x2 : Int32) (x3 : Int32) (m : Mm) : Option (Int32 × Mm) := (R_200 40) x1 x2 x3 m
theorem c_X9_goLots (ll : Launch) (cx : CX) (x1 : Int32) (x2 : Int32) (x3 : Int32) (m : Mm) : MT ll yX9_goLots cX9_goLots 6 ((some .int)) (rmS_200 40) cx NN NN Lay cvI 0 0 [.ref (cx.2.2.1 + 113), .int x1, .int x2, .int x3] m (F_X9_goLots x1 x2 x3 m) := (r_200 ll cx 40) x1 x2 x3 m
def rm_X9_lots : Room := { frames := 50, cells := 0, slots := 0, locals := 1252 }
def F_X9_lots  (x1 : Int32) (m : Mm) : Option (Int32 × Mm) :=
  bnd (F_X9_isShelf x1 m) fun v1 m2 =>
  (if v1 = iI 0 then
    some ((iI (-1)), m2)
  else
    bnd (F_X9_rowFault x1 m2) fun v3 m4 =>
    (if iI 0 ≤ v3 then
      bnd (F_X9_keepLot m4) fun _ m6 =>
      bnd (F_X9_goLots x1 (iI 0) (iI 0) m6) fun v7 m8 =>
      bnd (F_X9_layLot m8) fun _ m10 =>
      some (v7, m10)
    else
      bnd (F_X9_rowFault x1 m4) fun v11 m12 =>
      some (v11, m12)))
set_option maxRecDepth 100000 in
set_option maxHeartbeats 4000000 in
theorem c_X9_lots (ll : Launch) (cx : CX) (x1 : Int32) (m : Mm) : MT ll yX9_lots cX9_lots 3 ((some .int)) rm_X9_lots cx NN NN Lay cvI 0 0 [.ref (cx.2.2.1 + 113), .int x1] m (F_X9_lots x1 m) := by
  refine MT_of (by decide) (Nat.le_of_ble_eq_true rfl) ?_
  intro pp ee ss mm aa bb me co hK hr hk hn
  have C : CM pp ss mm aa me co cX9_lots 3 RX9 cx ((some .int)) := ⟨hK, hr, hk⟩
  show TI pp ll ee rm_X9_lots ss mm aa bb me co 3 cx 0 [(0, .ref (cx.2.2.1 + 113)), (1, .int x1)] [] m (F_X9_lots x1 m)
  unfold F_X9_lots
  refine T_iload_n C.1 dX9_lots_0 1 rfl ?_
  refine T_callSI (rm := rm_X9_isShelf) [.int x1] [] C.1 dX9_lots_1 mw_X9_isShelf wm_5_160 wm_5_161 ⟨Nat.le_of_ble_eq_true rfl, Nat.le_of_ble_eq_true rfl⟩ ⟨rfl, rfl⟩ ⟨Nat.zero_le _, Nat.zero_le _⟩ rfl rfl (Nat.le_of_ble_eq_true rfl) (c_X9_isShelf ll cx x1 m) (fun v1 m2 => ?_)
  refine T_if_ne (tgt := 9) C.1 dX9_lots_4 (by decide) ?_ ?_
  · refine T_aload_n C.1 dX9_lots_9 0 rfl ?_
    refine T_iload_n C.1 dX9_lots_10 1 rfl ?_
    refine T_callVI (rm := rm_X9_rowFault) [.int x1] [] C.1 dX9_lots_11 mw_X9_rowFault wm_6_191 wm_6_193 wm_p_79 ⟨Nat.le_of_ble_eq_true rfl, Nat.le_of_ble_eq_true rfl⟩ ⟨rfl, rfl⟩ ⟨Nat.zero_le _, Nat.zero_le _⟩ rfl rfl (Nat.le_of_ble_eq_true rfl) sh113 le113 ⟨rfl, rfl⟩ (c_X9_rowFault ll cx x1 m2) (fun v3 m4 => ?_)
    refine T_if_ge (tgt := 23) C.1 dX9_lots_14 (by decide) ?_ ?_
    · refine T_aload_n C.1 dX9_lots_23 0 rfl ?_
      refine T_callVV (rm := rm_X9_keepLot) [] [] C.1 dX9_lots_24 mw_X9_keepLot wm_6_178 wm_6_180 wm_p_77 ⟨Nat.le_of_ble_eq_true rfl, Nat.le_of_ble_eq_true rfl⟩ ⟨rfl, rfl⟩ ⟨Nat.zero_le _, Nat.zero_le _⟩ rfl rfl (Nat.le_of_ble_eq_true rfl) sh113 le113 ⟨rfl, rfl⟩ (c_X9_keepLot ll cx m4) (fun u5 m6 => ?_)
      refine T_aload_n C.1 dX9_lots_27 0 rfl ?_
      refine T_iload_n C.1 dX9_lots_28 1 rfl ?_
      refine T_iconst C.1 dX9_lots_29 ?_
      refine T_iconst C.1 dX9_lots_30 ?_
      refine T_callVI (rm := (rmS_200 40)) [.int x1, .int (iI 0), .int (iI 0)] [] C.1 dX9_lots_31 mw_X9_goLots wm_6_203 wm_6_205 wm_p_81 ⟨Nat.le_of_ble_eq_true rfl, Nat.le_of_ble_eq_true rfl⟩ ⟨rfl, rfl⟩ ⟨Nat.zero_le _, Nat.zero_le _⟩ rfl rfl (Nat.le_of_ble_eq_true rfl) sh113 le113 ⟨rfl, rfl⟩ (c_X9_goLots ll cx x1 (iI 0) (iI 0) m6) (fun v7 m8 => ?_)
      refine T_istore_n (lv' := [(2, .int v7), (0, .ref (cx.2.2.1 + 113)), (1, .int x1)]) C.1 dX9_lots_34 (by decide) rfl ?_
      refine T_aload_n C.1 dX9_lots_35 1 rfl ?_
      refine T_callVV (rm := rm_X9_layLot) [] [] C.1 dX9_lots_36 mw_X9_layLot wm_6_182 wm_6_184 wm_p_78 ⟨Nat.le_of_ble_eq_true rfl, Nat.le_of_ble_eq_true rfl⟩ ⟨rfl, rfl⟩ ⟨Nat.zero_le _, Nat.zero_le _⟩ rfl rfl (Nat.le_of_ble_eq_true rfl) sh113 le113 ⟨rfl, rfl⟩ (c_X9_layLot ll cx m8) (fun u9 m10 => ?_)
      refine T_iload_n C.1 dX9_lots_39 0 rfl ?_
      exact T_iret C.1 C.2.1 C.2.2 dX9_lots_40
    · refine T_aload_n C.1 dX9_lots_17 0 rfl ?_
      refine T_iload_n C.1 dX9_lots_18 1 rfl ?_
      refine T_callVI (rm := rm_X9_rowFault) [.int x1] [] C.1 dX9_lots_19 mw_X9_rowFault wm_6_191 wm_6_193 wm_p_79 ⟨Nat.le_of_ble_eq_true rfl, Nat.le_of_ble_eq_true rfl⟩ ⟨rfl, rfl⟩ ⟨Nat.zero_le _, Nat.zero_le _⟩ rfl rfl (Nat.le_of_ble_eq_true rfl) sh113 le113 ⟨rfl, rfl⟩ (c_X9_rowFault ll cx x1 m4) (fun v11 m12 => ?_)
      exact T_iret C.1 C.2.1 C.2.2 dX9_lots_22
  · refine T_iconst C.1 dX9_lots_7 ?_
    exact T_iret C.1 C.2.1 C.2.2 dX9_lots_8
def rm_X9_image : Room := { frames := 1, cells := 0, slots := 0, locals := 40 }
def F_X9_image_10  : Nat → Int32 → Mm → Option (Int32 × Mm)
  | 0, _, _ => none
  | f + 1, a1, m =>
    (if (gI m 113 1) ≤ a1 then
      rd 2 (iI 0) fun j1 =>
      wrI 10 m 150 (iI 0) (gI m 120 j1) fun m2 =>
      rd 2 (iI 0) fun j3 =>
      wrI 10 m2 150 (iI 1) (gI m2 121 j3) fun m4 =>
      rd 2 (iI 0) fun j5 =>
      wrI 10 m4 150 (iI 2) (gI m4 122 j5) fun m6 =>
      rd 2 (iI 0) fun j7 =>
      wrI 10 m6 150 (iI 3) (gI m6 123 j7) fun m8 =>
      rd 2 (iI 0) fun j9 =>
      wrI 10 m8 150 (iI 4) (gI m8 124 j9) fun m10 =>
      wrI 10 m10 150 (iI 5) (gI m10 113 15) fun m11 =>
      wrI 10 m11 150 (iI 6) (gI m11 113 16) fun m12 =>
      wrI 10 m12 150 (iI 7) (gI m12 113 17) fun m13 =>
      wrI 10 m13 150 (iI 8) (gI m13 113 18) fun m14 =>
      wrI 10 m14 150 (iI 9) (gI m14 113 19) fun m15 =>
      some ((gI m15 113 1), m15)
    else
      rd 7 a1 fun j16 =>
      wrI 7 m 147 a1 (gI m 117 j16) fun m17 =>
      rd 14 a1 fun j18 =>
      wrI 7 m17 148 a1 (gI m17 118 j18) fun m19 =>
      rd 14 a1 fun j20 =>
      wrI 7 m19 149 a1 (gI m19 119 j20) fun m21 =>
      nm (a1 + (iI 1)) fun v22 =>
      F_X9_image_10  f v22 m21)
set_option maxRecDepth 100000 in
set_option maxHeartbeats 4000000 in
theorem t_X9_image_10 {pp : Program} {ll : Launch} {ee : Env} {ss : State} {mm : MethodId} {aa : Array Value} {bb : List Frame} {me : Method} {co : Code} {cx : CX}     (C : CM pp ss mm aa me co cX9_image 2 RX9 cx ((some .int)))    : ∀ (f : Nat) (a1 : Int32) (m : Mm), TI pp ll ee rm_X9_image ss mm aa bb me co 2 cx 10 [(0, .ref (cx.2.2.1 + 113)), (1, .int a1)] [] m (F_X9_image_10  f a1 m) := by
  intro f
  induction f with
  | zero => exact fun _ _ => T_none
  | succ f ih =>
    intro a1 m
    unfold F_X9_image_10
    refine T_iload_n C.1 dX9_image_10 1 rfl ?_
    refine T_aload_n C.1 dX9_image_11 0 rfl ?_
    refine T_getI C.1 fd_X9_155 (fun _ _ _ _ => rfl) sh113 le113 dX9_image_12 ?_
    refine T_icmp_ge (tgt := 60) C.1 dX9_image_15 (by decide) ?_ ?_
    · refine T_aload_n C.1 dX9_image_60 0 rfl ?_
      refine T_getR (x := 150) C.1 fd_X9_130 (fun _ _ _ _ => rfl) sh113 le113 (fun _ h => h) rfl (by decide) dX9_image_61 ?_
      refine T_iconst C.1 dX9_image_64 ?_
      refine T_aload_n C.1 dX9_image_65 0 rfl ?_
      refine T_getR (x := 120) C.1 fd_X9_32 (fun _ _ _ _ => rfl) sh113 le113 (fun _ h => h) rfl (by decide) dX9_image_66 ?_
      refine T_iconst C.1 dX9_image_69 ?_
      refine T_iald C.1 dX9_image_70 sh120 le120 (fun j1 => ?_)
      refine T_iast C.1 LyI_Lay sh150 le150 dX9_image_71 (fun m2 => ?_)
      refine T_aload_n C.1 dX9_image_72 0 rfl ?_
      refine T_getR (x := 150) C.1 fd_X9_130 (fun _ _ _ _ => rfl) sh113 le113 (fun _ h => h) rfl (by decide) dX9_image_73 ?_
      refine T_iconst C.1 dX9_image_76 ?_
      refine T_aload_n C.1 dX9_image_77 0 rfl ?_
      refine T_getR (x := 121) C.1 fd_X9_35 (fun _ _ _ _ => rfl) sh113 le113 (fun _ h => h) rfl (by decide) dX9_image_78 ?_
      refine T_iconst C.1 dX9_image_81 ?_
      refine T_iald C.1 dX9_image_82 sh121 le121 (fun j3 => ?_)
      refine T_iast C.1 LyI_Lay sh150 le150 dX9_image_83 (fun m4 => ?_)
      refine T_aload_n C.1 dX9_image_84 0 rfl ?_
      refine T_getR (x := 150) C.1 fd_X9_130 (fun _ _ _ _ => rfl) sh113 le113 (fun _ h => h) rfl (by decide) dX9_image_85 ?_
      refine T_iconst C.1 dX9_image_88 ?_
      refine T_aload_n C.1 dX9_image_89 0 rfl ?_
      refine T_getR (x := 122) C.1 fd_X9_38 (fun _ _ _ _ => rfl) sh113 le113 (fun _ h => h) rfl (by decide) dX9_image_90 ?_
      refine T_iconst C.1 dX9_image_93 ?_
      refine T_iald C.1 dX9_image_94 sh122 le122 (fun j5 => ?_)
      refine T_iast C.1 LyI_Lay sh150 le150 dX9_image_95 (fun m6 => ?_)
      refine T_aload_n C.1 dX9_image_96 0 rfl ?_
      refine T_getR (x := 150) C.1 fd_X9_130 (fun _ _ _ _ => rfl) sh113 le113 (fun _ h => h) rfl (by decide) dX9_image_97 ?_
      refine T_iconst C.1 dX9_image_100 ?_
      refine T_aload_n C.1 dX9_image_101 0 rfl ?_
      refine T_getR (x := 123) C.1 fd_X9_41 (fun _ _ _ _ => rfl) sh113 le113 (fun _ h => h) rfl (by decide) dX9_image_102 ?_
      refine T_iconst C.1 dX9_image_105 ?_
      refine T_iald C.1 dX9_image_106 sh123 le123 (fun j7 => ?_)
      refine T_iast C.1 LyI_Lay sh150 le150 dX9_image_107 (fun m8 => ?_)
      refine T_aload_n C.1 dX9_image_108 0 rfl ?_
      refine T_getR (x := 150) C.1 fd_X9_130 (fun _ _ _ _ => rfl) sh113 le113 (fun _ h => h) rfl (by decide) dX9_image_109 ?_
      refine T_iconst C.1 dX9_image_112 ?_
      refine T_aload_n C.1 dX9_image_113 0 rfl ?_
      refine T_getR (x := 124) C.1 fd_X9_44 (fun _ _ _ _ => rfl) sh113 le113 (fun _ h => h) rfl (by decide) dX9_image_114 ?_
      refine T_iconst C.1 dX9_image_117 ?_
      refine T_iald C.1 dX9_image_118 sh124 le124 (fun j9 => ?_)
      refine T_iast C.1 LyI_Lay sh150 le150 dX9_image_119 (fun m10 => ?_)
      refine T_aload_n C.1 dX9_image_120 0 rfl ?_
      refine T_getR (x := 150) C.1 fd_X9_130 (fun _ _ _ _ => rfl) sh113 le113 (fun _ h => h) rfl (by decide) dX9_image_121 ?_
      refine T_iconst C.1 dX9_image_124 ?_
      refine T_aload_n C.1 dX9_image_125 0 rfl ?_
      refine T_getI C.1 fd_X9_166 (fun _ _ _ _ => rfl) sh113 le113 dX9_image_126 ?_
      refine T_iast C.1 LyI_Lay sh150 le150 dX9_image_129 (fun m11 => ?_)
      refine T_aload_n C.1 dX9_image_130 0 rfl ?_
      refine T_getR (x := 150) C.1 fd_X9_130 (fun _ _ _ _ => rfl) sh113 le113 (fun _ h => h) rfl (by decide) dX9_image_131 ?_
      refine T_bipush C.1 dX9_image_134 rfl ?_
      refine T_aload_n C.1 dX9_image_136 0 rfl ?_
      refine T_getI C.1 fd_X9_326 (fun _ _ _ _ => rfl) sh113 le113 dX9_image_137 ?_
      refine T_iast C.1 LyI_Lay sh150 le150 dX9_image_140 (fun m12 => ?_)
      refine T_aload_n C.1 dX9_image_141 0 rfl ?_
      refine T_getR (x := 150) C.1 fd_X9_130 (fun _ _ _ _ => rfl) sh113 le113 (fun _ h => h) rfl (by decide) dX9_image_142 ?_
      refine T_bipush C.1 dX9_image_145 rfl ?_
      refine T_aload_n C.1 dX9_image_147 0 rfl ?_
      refine T_getI C.1 fd_X9_47 (fun _ _ _ _ => rfl) sh113 le113 dX9_image_148 ?_
      refine T_iast C.1 LyI_Lay sh150 le150 dX9_image_151 (fun m13 => ?_)
      refine T_aload_n C.1 dX9_image_152 0 rfl ?_
      refine T_getR (x := 150) C.1 fd_X9_130 (fun _ _ _ _ => rfl) sh113 le113 (fun _ h => h) rfl (by decide) dX9_image_153 ?_
      refine T_bipush C.1 dX9_image_156 rfl ?_
      refine T_aload_n C.1 dX9_image_158 0 rfl ?_
      refine T_getI C.1 fd_X9_314 (fun _ _ _ _ => rfl) sh113 le113 dX9_image_159 ?_
      refine T_iast C.1 LyI_Lay sh150 le150 dX9_image_162 (fun m14 => ?_)
      refine T_aload_n C.1 dX9_image_163 0 rfl ?_
      refine T_getR (x := 150) C.1 fd_X9_130 (fun _ _ _ _ => rfl) sh113 le113 (fun _ h => h) rfl (by decide) dX9_image_164 ?_
      refine T_bipush C.1 dX9_image_167 rfl ?_
      refine T_aload_n C.1 dX9_image_169 0 rfl ?_
      refine T_getI C.1 fd_X9_317 (fun _ _ _ _ => rfl) sh113 le113 dX9_image_170 ?_
      refine T_iast C.1 LyI_Lay sh150 le150 dX9_image_173 (fun m15 => ?_)
      refine T_aload_n C.1 dX9_image_174 0 rfl ?_
      refine T_getI C.1 fd_X9_155 (fun _ _ _ _ => rfl) sh113 le113 dX9_image_175 ?_
      exact T_iret C.1 C.2.1 C.2.2 dX9_image_178
    · refine T_aload_n C.1 dX9_image_18 0 rfl ?_
      refine T_getR (x := 147) C.1 fd_X9_121 (fun _ _ _ _ => rfl) sh113 le113 (fun _ h => h) rfl (by decide) dX9_image_19 ?_
      refine T_iload_n C.1 dX9_image_22 1 rfl ?_
      refine T_aload_n C.1 dX9_image_23 0 rfl ?_
      refine T_getR (x := 117) C.1 fd_X9_23 (fun _ _ _ _ => rfl) sh113 le113 (fun _ h => h) rfl (by decide) dX9_image_24 ?_
      refine T_iload_n C.1 dX9_image_27 1 rfl ?_
      refine T_iald C.1 dX9_image_28 sh117 le117 (fun j16 => ?_)
      refine T_iast C.1 LyI_Lay sh147 le147 dX9_image_29 (fun m17 => ?_)
      refine T_aload_n C.1 dX9_image_30 0 rfl ?_
      refine T_getR (x := 148) C.1 fd_X9_124 (fun _ _ _ _ => rfl) sh113 le113 (fun _ h => h) rfl (by decide) dX9_image_31 ?_
      refine T_iload_n C.1 dX9_image_34 1 rfl ?_
      refine T_aload_n C.1 dX9_image_35 0 rfl ?_
      refine T_getR (x := 118) C.1 fd_X9_26 (fun _ _ _ _ => rfl) sh113 le113 (fun _ h => h) rfl (by decide) dX9_image_36 ?_
      refine T_iload_n C.1 dX9_image_39 1 rfl ?_
      refine T_iald C.1 dX9_image_40 sh118 le118 (fun j18 => ?_)
      refine T_iast C.1 LyI_Lay sh148 le148 dX9_image_41 (fun m19 => ?_)
      refine T_aload_n C.1 dX9_image_42 0 rfl ?_
      refine T_getR (x := 149) C.1 fd_X9_127 (fun _ _ _ _ => rfl) sh113 le113 (fun _ h => h) rfl (by decide) dX9_image_43 ?_
      refine T_iload_n C.1 dX9_image_46 1 rfl ?_
      refine T_aload_n C.1 dX9_image_47 0 rfl ?_
      refine T_getR (x := 119) C.1 fd_X9_29 (fun _ _ _ _ => rfl) sh113 le113 (fun _ h => h) rfl (by decide) dX9_image_48 ?_
      refine T_iload_n C.1 dX9_image_51 1 rfl ?_
      refine T_iald C.1 dX9_image_52 sh119 le119 (fun j20 => ?_)
      refine T_iast C.1 LyI_Lay sh149 le149 dX9_image_53 (fun m21 => ?_)
      refine T_iincN C.1 (fun v22 => [(1, .int v22), (0, .ref (cx.2.2.1 + 113))]) dX9_image_54 1 rfl (by decide) (fun _ => rfl) (fun v22 => ?_)
      refine T_goto (tgt := 10) C.1 dX9_image_57 (by decide) ?_
      exact T_sub [1, 0] rfl (ih v22 m21)
def F_X9_image   (m : Mm) : Option (Int32 × Mm) :=
  nm (pI m 113 51 (gI m 113 1)) fun m1 =>
  F_X9_image_10 FU (iI 0) m1
set_option maxRecDepth 100000 in
set_option maxHeartbeats 4000000 in
theorem c_X9_image (ll : Launch) (cx : CX)  (m : Mm) : MT ll yX9_image cX9_image 2 ((some .int)) rm_X9_image cx NN NN Lay cvI 0 0 [.ref (cx.2.2.1 + 113)] m (F_X9_image  m) := by
  refine MT_of (by decide) (Nat.le_of_ble_eq_true rfl) ?_
  intro pp ee ss mm aa bb me co hK hr hk hn
  have C : CM pp ss mm aa me co cX9_image 2 RX9 cx ((some .int)) := ⟨hK, hr, hk⟩
  show TI pp ll ee rm_X9_image ss mm aa bb me co 2 cx 0 [(0, .ref (cx.2.2.1 + 113))] [] m (F_X9_image  m)
  unfold F_X9_image
  refine T_aload_n C.1 dX9_image_0 0 rfl ?_
  refine T_aload_n C.1 dX9_image_1 0 rfl ?_
  refine T_getI C.1 fd_X9_155 (fun _ _ _ _ => rfl) sh113 le113 dX9_image_2 ?_
  refine T_putI C.1 LyI_Lay fd_X9_118 sh113 le113 dX9_image_5 (fun m1 => ?_)
  refine T_iconst C.1 dX9_image_8 ?_
  refine T_istore_n (lv' := [(1, .int (iI 0)), (0, .ref (cx.2.2.1 + 113))]) C.1 dX9_image_9 (by decide) rfl ?_
  exact T_sub [1, 0] rfl (t_X9_image_10 C FU (iI 0) m1)
