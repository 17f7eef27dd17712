/-! CONSTRUCTORS: printed by wip/p39/gen/ctor.py -/
def CM3 (p : Program) (s : State) (m : MethodId) (args : Array Value) (meth : Method) (c : Code) (cc : ByteArray) (nL : Nat) (own : String) (cx : CX) (ret : Option FieldType) : Prop := Kx p s m args c cc nL own cx ∧ meth.sig.returnType = ret ∧ meth.locks = false ∧ meth.name = "<init>"
def gdE {β : Type} (x v : Nat) (G : Option β) : Option β := if v = x then G else none
section TD
variable {β : Type} {p : Program} {l : Launch} {e : Env} {R : Room} {s : State} {m : MethodId} {args : Array Value} {below : List Frame} {meth : Method} {c : Code} {nL : Nat} {cx : CX} {n : Nat} {Ly : Mm → Prop} {cells slots : Nat} {Q : β → Mm → State → Prop} {pc : Nat} {lv : List (Nat × Value)} {st : List Value} {μ : Mm} {F : Option (β × Mm)} {cc : ByteArray} {own : String}
theorem T_getE (K : Kx p s m args c cc nL own cx) {ci j a ix x : Nat} {ty : FieldType} {fin : Bool} (hF : FD ci j own ix ty fin) (hI : ∀ b fi fl fr, fV b fi fl fr j ty = rV b (fr j)) (hs : shp a = (9, ci)) (ha : a ≤ n) (hx : x ≠ 0) (hdg : decode cc pc = .ok (.getfield ix, 3)) (k : T p l e R s m args below meth c nL cx n Ly cells slots Q (pc + 3) lv (.ref (cx.2.2.1 + x) :: st) μ F) : T p l e R s m args below meth c nL cx n Ly cells slots Q pc lv (.ref (cx.2.2.1 + a) :: st) μ (gdE x (gR μ a j) F) := by
  unfold gdE
  refine T_if (fun h => ?_) (fun _ => T_none)
  exact T_getV K hF hs ha (fun _ => by rw [hI, h, rV_pos hx]) hdg k
theorem T_geN (K : Kx p s m args c cc nL own cx) {x y : Int32} {off : Int} {tgt : Nat} (hdg : decode cc pc = .ok (.if_icmp .ge off, 3)) (ht : (pc : Int) + off = (tgt : Int)) (hc : ¬ y ≤ x) (k : T p l e R s m args below meth c nL cx n Ly cells slots Q (pc + 3) lv st μ F) : T p l e R s m args below meth c nL cx n Ly cells slots Q pc lv (.int y :: .int x :: st) μ F := by
  have h := T_icmp_ge (x := x) (y := y) (A := none) (B := F) K hdg ht T_none k
  rwa [if_neg hc] at h
theorem T_geY (K : Kx p s m args c cc nL own cx) {x y : Int32} {off : Int} {tgt : Nat} (hdg : decode cc pc = .ok (.if_icmp .ge off, 3)) (ht : (pc : Int) + off = (tgt : Int)) (hc : y ≤ x) (k : T p l e R s m args below meth c nL cx n Ly cells slots Q tgt lv st μ F) : T p l e R s m args below meth c nL cx n Ly cells slots Q pc lv (.int y :: .int x :: st) μ F := by
  have h := T_icmp_ge (x := x) (y := y) (A := F) (B := none) K hdg ht k T_none
  rwa [if_pos hc] at h
end TD
set_option maxRecDepth 100000 in
set_option maxHeartbeats 4000000 in
theorem g_fill_5 {pp : Program} {ll : Launch} {ee : Env} {ss : State} {mm : MethodId} {aa : Array Value} {bb : List Frame} {me : Method} {co : Code} {cx : CX} {n : Nat} {Ly : Mm → Prop} (hLI : LyI Ly) {r1 : Nat} (hrn : r1 ≤ n) (C : CM pp ss mm aa me co cJ7_fill_53178 4 RJ7 cx (none)) (hr1 : shp r1 = (1, (shp r1).2)) : ∀ (f : Nat) (a1 : Int32) (a2 : Int32) (a3 : Int32) (m : Mm), T pp ll ee rm_J7_fill_53178 ss mm aa bb me co 4 cx n Ly 0 0 (fun (r : Unit) μ1 => MQ bb (QcM cx n Ly (cvV r) μ1) aa ss 0 0 (fun q => cx.2.2.1 < q)) 5 [(0, .ref (cx.2.2.1 + r1)), (1, .int a1), (2, .int a2), (3, .int a3)] [] m (F_J7_fill_53178_5 r1 f a1 a2 a3 m) := by
  intro f
  induction f with
  | zero => exact fun _ _ _ _ => T_none
  | succ f ih =>
    intro a1 a2 a3 m
    unfold F_J7_fill_53178_5
    refine T_iload_n C.1 dJ7_fill_53178_5 2 rfl ?_
    refine T_iload_n C.1 dJ7_fill_53178_6 3 rfl ?_
    refine T_icmp_ge (tgt := 20) C.1 dJ7_fill_53178_7 (by decide) ?_ ?_
    · exact T_vret C.1 C.2.1 C.2.2 dJ7_fill_53178_20
    · refine T_aload_n C.1 dJ7_fill_53178_10 0 rfl ?_
      refine T_iload_n C.1 dJ7_fill_53178_11 2 rfl ?_
      refine T_iload_n C.1 dJ7_fill_53178_12 1 rfl ?_
      refine T_iast C.1 hLI hr1 hrn dJ7_fill_53178_13 (fun m1 => ?_)
      refine T_iincN C.1 (fun v2 => [(2, .int v2), (0, .ref (cx.2.2.1 + r1)), (1, .int a1), (3, .int a3)]) dJ7_fill_53178_14 2 rfl (by decide) (fun _ => rfl) (fun v2 => ?_)
      refine T_goto (tgt := 5) C.1 dJ7_fill_53178_17 (by decide) ?_
      exact T_sub [1, 2, 0, 3] rfl (ih a1 v2 a3 m1)
set_option maxRecDepth 100000 in
set_option maxHeartbeats 4000000 in
theorem g_fill (ll : Launch) (cx : CX) {n : Nat} {Ly : Mm → Prop} (hLI : LyI Ly) {r1 : Nat} (hrn : r1 ≤ n) (x2 : Int32) (m : Mm) : MT ll yJ7_fill_53178 cJ7_fill_53178 4 (none) rm_J7_fill_53178 cx n n Ly cvV 0 0 [.ref (cx.2.2.1 + r1), .int x2] m (F_J7_fill_53178 r1 x2 m) := by
  refine MT_of (by decide) (Nat.le_of_ble_eq_true rfl) ?_
  intro pp ee ss mm aa bb me co hK hr hk hn
  have C : CM pp ss mm aa me co cJ7_fill_53178 4 RJ7 cx (none) := ⟨hK, hr, hk⟩
  show T pp ll ee rm_J7_fill_53178 ss mm aa bb me co 4 cx n Ly 0 0 (fun (r : Unit) μ1 => MQ bb (QcM cx n Ly (cvV r) μ1) aa ss 0 0 (fun q => cx.2.2.1 < q)) 0 [(0, .ref (cx.2.2.1 + r1)), (1, .int x2)] [] m (F_J7_fill_53178 r1 x2 m)
  unfold F_J7_fill_53178
  refine T_if (fun hr1 => ?_) (fun _ => T_none)
  have hr1 := shp_any hr1
  refine T_iconst C.1 dJ7_fill_53178_0 ?_
  refine T_istore_n (lv' := [(2, .int (iI 0)), (0, .ref (cx.2.2.1 + r1)), (1, .int x2)]) C.1 dJ7_fill_53178_1 (by decide) rfl ?_
  refine T_aload_n C.1 dJ7_fill_53178_2 1 rfl ?_
  refine T_alen C.1 dJ7_fill_53178_3 hr1 hrn ?_
  refine T_istore_nN C.1 (fun v1 => [(3, .int v1), (2, .int (iI 0)), (0, .ref (cx.2.2.1 + r1)), (1, .int x2)]) dJ7_fill_53178_4 (by decide) (fun _ => rfl) (fun v1 => ?_)
  exact T_sub [2, 3, 1, 0] rfl (g_fill_5 hLI hrn C hr1 FU x2 (iI 0) v1 m)

def rm_X3_init : Room := { frames := 1, cells := 4, slots := 369, locals := 40 }
def F_X3_init (t : Nat) (m : Mm) : Option (Unit × Mm) :=
  (if shp t = (9, 3) then
  nm (clr m (t + 1)) fun m1 =>
  nm (pR m1 t 0 (t + 1)) fun m2 =>
  nm (clr m2 (t + 2)) fun m3 =>
  nm (pR m3 t 1 (t + 2)) fun m4 =>
  nm (pI m4 t 2 (iI 0)) fun m5 =>
  nm (pI m5 t 3 (iI (-1))) fun m6 =>
  nm (clr m6 (t + 3)) fun m7 =>
  nm (pR m7 t 4 (t + 3)) fun m8 =>
  nm (clr m8 (t + 4)) fun m9 =>
  nm (pR m9 t 5 (t + 4)) fun m10 =>
  gdE (t + 1) (gR m10 t 0) <|
  wrI 121 m10 (t + 1) (iI 0) (nC (iI 36)) fun m11 =>
  gdE (t + 2) (gR m11 t 1) <|
  wrI 121 m11 (t + 2) (iI 0) (iI 0) fun m12 =>
  gdE (t + 1) (gR m12 t 0) <|
  wrI 121 m12 (t + 1) (iI 1) (nC (iI 59)) fun m13 =>
  nm (pI m13 t 2 (iI 2)) fun m14 =>
  some ((), m14)
  else none)
set_option maxRecDepth 100000 in
set_option maxHeartbeats 8000000 in
theorem c_X3_init (ll : Launch) (cx : CX) (t : Nat) (m : Mm) : MT ll yX3_init cX3_init 1 none rm_X3_init cx t (t + 4) (fun _ => True) cvV 4 369 [.ref (cx.2.2.1 + t)] m (F_X3_init t m) := by
  refine MT_of (by decide) (Nat.le_of_ble_eq_true rfl) ?_
  intro pp ee ss mm aa bb me co hK hr hk hn
  have C : CM3 pp ss mm aa me co cX3_init 1 RX3 cx none := ⟨hK, hr, hk, hn⟩
  show T pp ll ee rm_X3_init ss mm aa bb me co 1 cx t (fun _ => True) 0 0 _ 0 [(0, .ref (cx.2.2.1 + t))] [] m (F_X3_init t m)
  unfold F_X3_init
  refine T_if (fun ht => ?_) (fun _ => T_none)
  refine T_aload_n C.1 dX3_init_0 0 rfl ?_
  refine T_objInit C.1 dX3_init_1 wm_1_33 wm_1_20 wm_1_21 (by decide) (by decide) ?_
  refine T_aload_n C.1 dX3_init_4 0 rfl ?_
  refine T_bipush C.1 dX3_init_5 rfl ?_
  refine T_newa3 (a := (t + 1)) (len := 121) C.1 dX3_init_7 (by omega) wm_1_54 (shr_3_1 ht) (by decide) (by decide) (by decide) (by decide) (by decide) (fun _ => trivial) (fun m1 => ?_)
  refine T_putFR (x := (t + 1)) C.1 C.2.2.2 (fun _ _ _ _ => rfl) (fun _ => rfl) (fun _ => rfl) fd_X3_11 (by intro Cq Tq hq; cases hq; rfl) ht (by omega) (shp_pk (shr_3_1 ht) (by decide)) (fun _ => trivial) dX3_init_9 (fun m2 => ?_)
  refine T_aload_n C.1 dX3_init_12 0 rfl ?_
  refine T_bipush C.1 dX3_init_13 rfl ?_
  refine T_newa1 (a := (t + 2)) (len := 121) C.1 dX3_init_15 (by omega) wm_1_53 (shr_3_2 ht) (by decide) (by decide) (by decide) (by decide) (by decide) (fun _ => trivial) (fun m3 => ?_)
  refine T_putFR (x := (t + 2)) C.1 C.2.2.2 (fun _ _ _ _ => rfl) (fun _ => rfl) (fun _ => rfl) fd_X3_15 (by intro Cq Tq hq; cases hq; rfl) ht (by omega) (shp_pk (shr_3_2 ht) (by decide)) (fun _ => trivial) dX3_init_17 (fun m4 => ?_)
  refine T_aload_n C.1 dX3_init_20 0 rfl ?_
  refine T_iconst C.1 dX3_init_21 ?_
  refine T_putI C.1 LyI_T fd_X3_19 ht (by omega) dX3_init_22 (fun m5 => ?_)
  refine T_aload_n C.1 dX3_init_25 0 rfl ?_
  refine T_iconst C.1 dX3_init_26 ?_
  refine T_putI C.1 LyI_T fd_X3_23 ht (by omega) dX3_init_27 (fun m6 => ?_)
  refine T_aload_n C.1 dX3_init_30 0 rfl ?_
  refine T_bipush C.1 dX3_init_31 rfl ?_
  refine T_newa1 (a := (t + 3)) (len := 121) C.1 dX3_init_33 (by omega) wm_1_53 (shr_3_3 ht) (by decide) (by decide) (by decide) (by decide) (by decide) (fun _ => trivial) (fun m7 => ?_)
  refine T_putFR (x := (t + 3)) C.1 C.2.2.2 (fun _ _ _ _ => rfl) (fun _ => rfl) (fun _ => rfl) fd_X3_26 (by intro Cq Tq hq; cases hq; rfl) ht (by omega) (shp_pk (shr_3_3 ht) (by decide)) (fun _ => trivial) dX3_init_35 (fun m8 => ?_)
  refine T_aload_n C.1 dX3_init_38 0 rfl ?_
  refine T_bipush C.1 dX3_init_39 rfl ?_
  refine T_newa1 (a := (t + 4)) (len := 6) C.1 dX3_init_41 (by omega) wm_1_53 (shr_3_4 ht) (by decide) (by decide) (by decide) (by decide) (by decide) (fun _ => trivial) (fun m9 => ?_)
  refine T_putFR (x := (t + 4)) C.1 C.2.2.2 (fun _ _ _ _ => rfl) (fun _ => rfl) (fun _ => rfl) fd_X3_29 (by intro Cq Tq hq; cases hq; rfl) ht (by omega) (shp_pk (shr_3_4 ht) (by decide)) (fun _ => trivial) dX3_init_43 (fun m10 => ?_)
  refine T_aload_n C.1 dX3_init_46 0 rfl ?_
  refine T_getE (x := (t + 1)) C.1 fd_X3_11 (fun _ _ _ _ => rfl) ht (by omega) (shp_pk (shr_3_1 ht) (by decide)) dX3_init_47 ?_
  refine T_iconst C.1 dX3_init_50 ?_
  refine T_bipush C.1 dX3_init_51 rfl ?_
  refine T_cast C.1 LyI_T (shr_3_1 ht) (by omega) dX3_init_53 (fun m11 => ?_)
  refine T_aload_n C.1 dX3_init_54 0 rfl ?_
  refine T_getE (x := (t + 2)) C.1 fd_X3_15 (fun _ _ _ _ => rfl) ht (by omega) (shp_pk (shr_3_2 ht) (by decide)) dX3_init_55 ?_
  refine T_iconst C.1 dX3_init_58 ?_
  refine T_iconst C.1 dX3_init_59 ?_
  refine T_iast C.1 LyI_T (shr_3_2 ht) (by omega) dX3_init_60 (fun m12 => ?_)
  refine T_aload_n C.1 dX3_init_61 0 rfl ?_
  refine T_getE (x := (t + 1)) C.1 fd_X3_11 (fun _ _ _ _ => rfl) ht (by omega) (shp_pk (shr_3_1 ht) (by decide)) dX3_init_62 ?_
  refine T_iconst C.1 dX3_init_65 ?_
  refine T_bipush C.1 dX3_init_66 rfl ?_
  refine T_cast C.1 LyI_T (shr_3_1 ht) (by omega) dX3_init_68 (fun m13 => ?_)
  refine T_aload_n C.1 dX3_init_69 0 rfl ?_
  refine T_iconst C.1 dX3_init_70 ?_
  refine T_putI C.1 LyI_T fd_X3_19 ht (by omega) dX3_init_71 (fun m14 => ?_)
  exact T_vret C.1 C.2.1 C.2.2.1 dX3_init_74
def rm_X4_init : Room := { frames := 2, cells := 8, slots := 522, locals := 63 }
def F_X4_init (m : Mm) : Option (Unit × Mm) :=
  nm (pI m 2 0 (iI 0)) fun m1 =>
  nm (clr m1 3) fun m2 =>
  nm (pR m2 2 1 3) fun m3 =>
  nm (clr m3 4) fun m4 =>
  nm (pR m4 2 2 4) fun m5 =>
  nm (clr m5 5) fun m6 =>
  nm (pR m6 2 3 5) fun m7 =>
  nm (pI m7 2 4 (iI 3)) fun m8 =>
  nm (pI m8 2 5 (iI 0)) fun m9 =>
  nm (clr m9 6) fun m10 =>
  bnd (F_X3_init 6 m10) fun _ m11 =>
  nm (pR m11 2 6 6) fun m12 =>
  gdE 4 (gR m12 2 2) <|
  bnd (F_J7_fill_53178 4 (iI 5) m12) fun _ m13 =>
  some ((), m13)
set_option maxRecDepth 100000 in
set_option maxHeartbeats 8000000 in
theorem c_X4_init (ll : Launch) (cx : CX) (m : Mm) : MT ll yX4_init cX4_init 1 none rm_X4_init cx 2 10 (fun _ => True) cvV 8 522 [.ref (cx.2.2.1 + 2)] m (F_X4_init m) := by
  refine MT_of (by decide) (Nat.le_of_ble_eq_true rfl) ?_
  intro pp ee ss mm aa bb me co hK hr hk hn
  have C : CM3 pp ss mm aa me co cX4_init 1 RX4 cx none := ⟨hK, hr, hk, hn⟩
  show T pp ll ee rm_X4_init ss mm aa bb me co 1 cx 2 (fun _ => True) 0 0 _ 0 [(0, .ref (cx.2.2.1 + 2))] [] m (F_X4_init m)
  unfold F_X4_init
  refine T_aload_n C.1 dX4_init_0 0 rfl ?_
  refine T_objInit C.1 dX4_init_1 wm_1_27 wm_1_20 wm_1_21 (by decide) (by decide) ?_
  refine T_aload_n C.1 dX4_init_4 0 rfl ?_
  refine T_iconst C.1 dX4_init_5 ?_
  refine T_putI C.1 LyI_T fd_X4_9 sh2 (by decide) dX4_init_6 (fun m1 => ?_)
  refine T_aload_n C.1 dX4_init_9 0 rfl ?_
  refine T_bipush C.1 dX4_init_10 rfl ?_
  refine T_newa1 (a := 3) (len := 70) C.1 dX4_init_12 (by omega) wm_1_53 sh3 (by decide) (by decide) (by decide) (by decide) (by decide) (fun _ => trivial) (fun m2 => ?_)
  refine T_putFR (x := 3) C.1 C.2.2.2 (fun _ _ _ _ => rfl) (fun _ => rfl) (fun _ => rfl) fd_X4_15 (by intro Cq Tq hq; cases hq; rfl) sh2 (by decide) (shp_pk sh3 (by decide)) (fun _ => trivial) dX4_init_14 (fun m3 => ?_)
  refine T_aload_n C.1 dX4_init_17 0 rfl ?_
  refine T_bipush C.1 dX4_init_18 rfl ?_
  refine T_newa1 (a := 4) (len := 70) C.1 dX4_init_20 (by omega) wm_1_53 sh4 (by decide) (by decide) (by decide) (by decide) (by decide) (fun _ => trivial) (fun m4 => ?_)
  refine T_putFR (x := 4) C.1 C.2.2.2 (fun _ _ _ _ => rfl) (fun _ => rfl) (fun _ => rfl) fd_X4_19 (by intro Cq Tq hq; cases hq; rfl) sh2 (by decide) (shp_pk sh4 (by decide)) (fun _ => trivial) dX4_init_22 (fun m5 => ?_)
  refine T_aload_n C.1 dX4_init_25 0 rfl ?_
  refine T_bipush C.1 dX4_init_26 rfl ?_
  refine T_newa1 (a := 5) (len := 7) C.1 dX4_init_28 (by omega) wm_1_53 sh5 (by decide) (by decide) (by decide) (by decide) (by decide) (fun _ => trivial) (fun m6 => ?_)
  refine T_putFR (x := 5) C.1 C.2.2.2 (fun _ _ _ _ => rfl) (fun _ => rfl) (fun _ => rfl) fd_X4_22 (by intro Cq Tq hq; cases hq; rfl) sh2 (by decide) (shp_pk sh5 (by decide)) (fun _ => trivial) dX4_init_30 (fun m7 => ?_)
  refine T_aload_n C.1 dX4_init_33 0 rfl ?_
  refine T_iconst C.1 dX4_init_34 ?_
  refine T_putI C.1 LyI_T fd_X4_25 sh2 (by decide) dX4_init_35 (fun m8 => ?_)
  refine T_aload_n C.1 dX4_init_38 0 rfl ?_
  refine T_iconst C.1 dX4_init_39 ?_
  refine T_putI C.1 LyI_T fd_X4_28 sh2 (by decide) dX4_init_40 (fun m9 => ?_)
  refine T_aload_n C.1 dX4_init_43 0 rfl ?_
  refine T_new (a := 6) (ci := 3) C.1 dX4_init_44 (by omega) wm_1_28 wm_1_29 wm_1_3 rfl tyX3_ok (by decide) inX3 sh6 (by decide) (by decide) (fun _ => trivial) (fun m10 => ?_)
  refine T_dup C.1 dX4_init_47 rfl ?_
  refine T_callI (rm := rm_X3_init) (n2 := 10) (mc := 4) (ms := 369) [] [.ref (cx.2.2.1 + 6), .ref (cx.2.2.1 + 2)] C.1 dX4_init_48 mw_X3_init rfl wm_1_30 wm_1_31 ⟨⟨Nat.le_of_ble_eq_true rfl, Nat.le_of_ble_eq_true rfl⟩, rfl, rfl, by decide, by decide, (by omega)⟩ rfl rfl (Nat.le_of_ble_eq_true rfl) (c_X3_init ll cx 6 m10) (fun m11 _ => ?_)
  refine T_putD (x := 6) C.1 (fun _ _ _ _ => rfl) (fun _ => rfl) (fun _ => rfl) fd_X4_34 sh2 (by decide) (shp_pk sh6 (by decide)) (fun _ _ _ => trivial) dX4_init_51 (fun m12 => ?_)
  refine T_aload_n C.1 dX4_init_54 0 rfl ?_
  refine T_getE (x := 4) C.1 fd_X4_19 (fun _ _ _ _ => rfl) sh2 (by decide) (shp_pk sh4 (by decide)) dX4_init_55 ?_
  refine T_iconst C.1 dX4_init_58 ?_
  refine T_callSV (rm := rm_J7_fill_53178) [.ref (cx.2.2.1 + 4), .int (iI 5)] [] C.1 dX4_init_59 mw_J7_fill_53178 wm_1_55 wm_1_56 ⟨Nat.le_of_ble_eq_true rfl, Nat.le_of_ble_eq_true rfl⟩ ⟨rfl, rfl⟩ ⟨by decide, by decide⟩ rfl rfl (Nat.le_of_ble_eq_true rfl) (g_fill ll cx LyI_T (n := 10) (r1 := 4) (by decide) (iI 5) m12) (fun _ m13 => ?_)
  exact T_vret C.1 C.2.1 C.2.2.1 dX4_init_62
def rm_X1_init : Room := { frames := 1, cells := 4, slots := 160, locals := 40 }
def F_X1_init (m : Mm) : Option (Unit × Mm) :=
  nm (clr m 12) fun m1 =>
  nm (pR m1 11 0 12) fun m2 =>
  nm (clr m2 13) fun m3 =>
  nm (pR m3 11 1 13) fun m4 =>
  nm (clr m4 14) fun m5 =>
  nm (pR m5 11 2 14) fun m6 =>
  nm (clr m6 15) fun m7 =>
  nm (pR m7 11 3 15) fun m8 =>
  nm (pI m8 11 4 (iI 0)) fun m9 =>
  nm (pI m9 11 5 (iI 0)) fun m10 =>
  some ((), m10)
set_option maxRecDepth 100000 in
set_option maxHeartbeats 8000000 in
theorem c_X1_init (ll : Launch) (cx : CX) (m : Mm) : MT ll yX1_init cX1_init 1 none rm_X1_init cx 11 15 (fun _ => True) cvV 4 160 [.ref (cx.2.2.1 + 11)] m (F_X1_init m) := by
  refine MT_of (by decide) (Nat.le_of_ble_eq_true rfl) ?_
  intro pp ee ss mm aa bb me co hK hr hk hn
  have C : CM3 pp ss mm aa me co cX1_init 1 RX1 cx none := ⟨hK, hr, hk, hn⟩
  show T pp ll ee rm_X1_init ss mm aa bb me co 1 cx 11 (fun _ => True) 0 0 _ 0 [(0, .ref (cx.2.2.1 + 11))] [] m (F_X1_init m)
  unfold F_X1_init
  refine T_aload_n C.1 dX1_init_0 0 rfl ?_
  refine T_objInit C.1 dX1_init_1 wm_1_97 wm_1_20 wm_1_21 (by decide) (by decide) ?_
  refine T_aload_n C.1 dX1_init_4 0 rfl ?_
  refine T_bipush C.1 dX1_init_5 rfl ?_
  refine T_newa1 (a := 12) (len := 40) C.1 dX1_init_7 (by omega) wm_1_53 sh12 (by decide) (by decide) (by decide) (by decide) (by decide) (fun _ => trivial) (fun m1 => ?_)
  refine T_putFR (x := 12) C.1 C.2.2.2 (fun _ _ _ _ => rfl) (fun _ => rfl) (fun _ => rfl) fd_X1_9 (by intro Cq Tq hq; cases hq; rfl) sh11 (by decide) (shp_pk sh12 (by decide)) (fun _ => trivial) dX1_init_9 (fun m2 => ?_)
  refine T_aload_n C.1 dX1_init_12 0 rfl ?_
  refine T_bipush C.1 dX1_init_13 rfl ?_
  refine T_newa1 (a := 13) (len := 40) C.1 dX1_init_15 (by omega) wm_1_53 sh13 (by decide) (by decide) (by decide) (by decide) (by decide) (fun _ => trivial) (fun m3 => ?_)
  refine T_putFR (x := 13) C.1 C.2.2.2 (fun _ _ _ _ => rfl) (fun _ => rfl) (fun _ => rfl) fd_X1_13 (by intro Cq Tq hq; cases hq; rfl) sh11 (by decide) (shp_pk sh13 (by decide)) (fun _ => trivial) dX1_init_17 (fun m4 => ?_)
  refine T_aload_n C.1 dX1_init_20 0 rfl ?_
  refine T_bipush C.1 dX1_init_21 rfl ?_
  refine T_newa1 (a := 14) (len := 40) C.1 dX1_init_23 (by omega) wm_1_53 sh14 (by decide) (by decide) (by decide) (by decide) (by decide) (fun _ => trivial) (fun m5 => ?_)
  refine T_putFR (x := 14) C.1 C.2.2.2 (fun _ _ _ _ => rfl) (fun _ => rfl) (fun _ => rfl) fd_X1_16 (by intro Cq Tq hq; cases hq; rfl) sh11 (by decide) (shp_pk sh14 (by decide)) (fun _ => trivial) dX1_init_25 (fun m6 => ?_)
  refine T_aload_n C.1 dX1_init_28 0 rfl ?_
  refine T_bipush C.1 dX1_init_29 rfl ?_
  refine T_newa1 (a := 15) (len := 40) C.1 dX1_init_31 (by omega) wm_1_53 sh15 (by decide) (by decide) (by decide) (by decide) (by decide) (fun _ => trivial) (fun m7 => ?_)
  refine T_putFR (x := 15) C.1 C.2.2.2 (fun _ _ _ _ => rfl) (fun _ => rfl) (fun _ => rfl) fd_X1_19 (by intro Cq Tq hq; cases hq; rfl) sh11 (by decide) (shp_pk sh15 (by decide)) (fun _ => trivial) dX1_init_33 (fun m8 => ?_)
  refine T_aload_n C.1 dX1_init_36 0 rfl ?_
  refine T_iconst C.1 dX1_init_37 ?_
  refine T_putI C.1 LyI_T fd_X1_22 sh11 (by decide) dX1_init_38 (fun m9 => ?_)
  refine T_aload_n C.1 dX1_init_41 0 rfl ?_
  refine T_iconst C.1 dX1_init_42 ?_
  refine T_putI C.1 LyI_T fd_X1_26 sh11 (by decide) dX1_init_43 (fun m10 => ?_)
  exact T_vret C.1 C.2.1 C.2.2.1 dX1_init_46
def rm_X6_init : Room := { frames := 2, cells := 6, slots := 495, locals := 60 }
def F_X6_init (m : Mm) : Option (Unit × Mm) :=
  nm (clr m 17) fun m1 =>
  nm (pR m1 16 0 17) fun m2 =>
  nm (pI m2 16 1 (iI 0)) fun m3 =>
  nm (pI m3 16 2 (iI 0)) fun m4 =>
  nm (pI m4 16 3 (iI (-1))) fun m5 =>
  nm (clr m5 18) fun m6 =>
  bnd (F_X3_init 18 m6) fun _ m7 =>
  nm (pR m7 16 4 18) fun m8 =>
  some ((), m8)
set_option maxRecDepth 100000 in
set_option maxHeartbeats 8000000 in
theorem c_X6_init (ll : Launch) (cx : CX) (m : Mm) : MT ll yX6_init cX6_init 1 none rm_X6_init cx 16 22 (fun _ => True) cvV 6 495 [.ref (cx.2.2.1 + 16)] m (F_X6_init m) := by
  refine MT_of (by decide) (Nat.le_of_ble_eq_true rfl) ?_
  intro pp ee ss mm aa bb me co hK hr hk hn
  have C : CM3 pp ss mm aa me co cX6_init 1 RX6 cx none := ⟨hK, hr, hk, hn⟩
  show T pp ll ee rm_X6_init ss mm aa bb me co 1 cx 16 (fun _ => True) 0 0 _ 0 [(0, .ref (cx.2.2.1 + 16))] [] m (F_X6_init m)
  unfold F_X6_init
  refine T_aload_n C.1 dX6_init_0 0 rfl ?_
  refine T_objInit C.1 dX6_init_1 wm_1_123 wm_1_20 wm_1_21 (by decide) (by decide) ?_
  refine T_aload_n C.1 dX6_init_4 0 rfl ?_
  refine T_bipush C.1 dX6_init_5 rfl ?_
  refine T_newa3 (a := 17) (len := 120) C.1 dX6_init_7 (by omega) wm_1_54 sh17 (by decide) (by decide) (by decide) (by decide) (by decide) (fun _ => trivial) (fun m1 => ?_)
  refine T_putFR (x := 17) C.1 C.2.2.2 (fun _ _ _ _ => rfl) (fun _ => rfl) (fun _ => rfl) fd_X6_9 (by intro Cq Tq hq; cases hq; rfl) sh16 (by decide) (shp_pk sh17 (by decide)) (fun _ => trivial) dX6_init_9 (fun m2 => ?_)
  refine T_aload_n C.1 dX6_init_12 0 rfl ?_
  refine T_iconst C.1 dX6_init_13 ?_
  refine T_putI C.1 LyI_T fd_X6_15 sh16 (by decide) dX6_init_14 (fun m3 => ?_)
  refine T_aload_n C.1 dX6_init_17 0 rfl ?_
  refine T_iconst C.1 dX6_init_18 ?_
  refine T_putI C.1 LyI_T fd_X6_19 sh16 (by decide) dX6_init_19 (fun m4 => ?_)
  refine T_aload_n C.1 dX6_init_22 0 rfl ?_
  refine T_iconst C.1 dX6_init_23 ?_
  refine T_putI C.1 LyI_T fd_X6_22 sh16 (by decide) dX6_init_24 (fun m5 => ?_)
  refine T_aload_n C.1 dX6_init_27 0 rfl ?_
  refine T_new (a := 18) (ci := 3) C.1 dX6_init_28 (by omega) wm_1_124 wm_1_29 wm_1_3 rfl tyX3_ok (by decide) inX3 sh18 (by decide) (by decide) (fun _ => trivial) (fun m6 => ?_)
  refine T_dup C.1 dX6_init_31 rfl ?_
  refine T_callI (rm := rm_X3_init) (n2 := 22) (mc := 4) (ms := 369) [] [.ref (cx.2.2.1 + 18), .ref (cx.2.2.1 + 16)] C.1 dX6_init_32 mw_X3_init rfl wm_1_125 wm_1_31 ⟨⟨Nat.le_of_ble_eq_true rfl, Nat.le_of_ble_eq_true rfl⟩, rfl, rfl, by decide, by decide, (by omega)⟩ rfl rfl (Nat.le_of_ble_eq_true rfl) (c_X3_init ll cx 18 m6) (fun m7 _ => ?_)
  refine T_putD (x := 18) C.1 (fun _ _ _ _ => rfl) (fun _ => rfl) (fun _ => rfl) fd_X6_28 sh16 (by decide) (shp_pk sh18 (by decide)) (fun _ _ _ => trivial) dX6_init_35 (fun m8 => ?_)
  exact T_vret C.1 C.2.1 C.2.2.1 dX6_init_38
def rm_X2_init : Room := { frames := 2, cells := 4, slots := 28, locals := 63 }
def F_X2_init (t : Nat) (m : Mm) : Option (Unit × Mm) :=
  (if shp t = (9, 2) then
  nm (clr m (t + 1)) fun m1 =>
  nm (pR m1 t 0 (t + 1)) fun m2 =>
  nm (clr m2 (t + 2)) fun m3 =>
  nm (pR m3 t 1 (t + 2)) fun m4 =>
  nm (clr m4 (t + 3)) fun m5 =>
  nm (pR m5 t 2 (t + 3)) fun m6 =>
  nm (clr m6 (t + 4)) fun m7 =>
  nm (pR m7 t 3 (t + 4)) fun m8 =>
  nm (pI m8 t 4 (iI 0)) fun m9 =>
  nm (pI m9 t 5 (iI (-1))) fun m10 =>
  nm (pI m10 t 6 (iI (-1))) fun m11 =>
  zb (iI 0) (nm (pI m11 t 7 (iI 0)) fun m12 =>
  nm (pI m12 t 8 (iI (-1))) fun m13 =>
  nm (pI m13 t 9 (iI (-1))) fun m14 =>
  nm (pI m14 t 10 (iI 0)) fun m15 =>
  gdE (t + 2) (gR m15 t 1) <|
  bnd (F_J7_fill_53178 (t + 2) (iI (-1)) m15) fun _ m16 =>
  gdE (t + 3) (gR m16 t 2) <|
  bnd (F_J7_fill_53178 (t + 3) (iI (-1)) m16) fun _ m17 =>
  some ((), m17))
  else none)
set_option maxRecDepth 100000 in
set_option maxHeartbeats 8000000 in
theorem c_X2_init (ll : Launch) (cx : CX) (t : Nat) (m : Mm) : MT ll yX2_init cX2_init 1 none rm_X2_init cx t (t + 4) (fun _ => True) cvV 4 28 [.ref (cx.2.2.1 + t)] m (F_X2_init t m) := by
  refine MT_of (by decide) (Nat.le_of_ble_eq_true rfl) ?_
  intro pp ee ss mm aa bb me co hK hr hk hn
  have C : CM3 pp ss mm aa me co cX2_init 1 RX2 cx none := ⟨hK, hr, hk, hn⟩
  show T pp ll ee rm_X2_init ss mm aa bb me co 1 cx t (fun _ => True) 0 0 _ 0 [(0, .ref (cx.2.2.1 + t))] [] m (F_X2_init t m)
  unfold F_X2_init
  refine T_if (fun ht => ?_) (fun _ => T_none)
  refine T_aload_n C.1 dX2_init_0 0 rfl ?_
  refine T_objInit C.1 dX2_init_1 wm_1_148 wm_1_20 wm_1_21 (by decide) (by decide) ?_
  refine T_aload_n C.1 dX2_init_4 0 rfl ?_
  refine T_bipush C.1 dX2_init_5 rfl ?_
  refine T_newa1 (a := (t + 1)) (len := 7) C.1 dX2_init_7 (by omega) wm_1_53 (shr_2_1 ht) (by decide) (by decide) (by decide) (by decide) (by decide) (fun _ => trivial) (fun m1 => ?_)
  refine T_putFR (x := (t + 1)) C.1 C.2.2.2 (fun _ _ _ _ => rfl) (fun _ => rfl) (fun _ => rfl) fd_X2_9 (by intro Cq Tq hq; cases hq; rfl) ht (by omega) (shp_pk (shr_2_1 ht) (by decide)) (fun _ => trivial) dX2_init_9 (fun m2 => ?_)
  refine T_aload_n C.1 dX2_init_12 0 rfl ?_
  refine T_bipush C.1 dX2_init_13 rfl ?_
  refine T_newa1 (a := (t + 2)) (len := 7) C.1 dX2_init_15 (by omega) wm_1_53 (shr_2_2 ht) (by decide) (by decide) (by decide) (by decide) (by decide) (fun _ => trivial) (fun m3 => ?_)
  refine T_putFR (x := (t + 2)) C.1 C.2.2.2 (fun _ _ _ _ => rfl) (fun _ => rfl) (fun _ => rfl) fd_X2_15 (by intro Cq Tq hq; cases hq; rfl) ht (by omega) (shp_pk (shr_2_2 ht) (by decide)) (fun _ => trivial) dX2_init_17 (fun m4 => ?_)
  refine T_aload_n C.1 dX2_init_20 0 rfl ?_
  refine T_bipush C.1 dX2_init_21 rfl ?_
  refine T_newa1 (a := (t + 3)) (len := 7) C.1 dX2_init_23 (by omega) wm_1_53 (shr_2_3 ht) (by decide) (by decide) (by decide) (by decide) (by decide) (fun _ => trivial) (fun m5 => ?_)
  refine T_putFR (x := (t + 3)) C.1 C.2.2.2 (fun _ _ _ _ => rfl) (fun _ => rfl) (fun _ => rfl) fd_X2_18 (by intro Cq Tq hq; cases hq; rfl) ht (by omega) (shp_pk (shr_2_3 ht) (by decide)) (fun _ => trivial) dX2_init_25 (fun m6 => ?_)
  refine T_aload_n C.1 dX2_init_28 0 rfl ?_
  refine T_bipush C.1 dX2_init_29 rfl ?_
  refine T_newa1 (a := (t + 4)) (len := 7) C.1 dX2_init_31 (by omega) wm_1_53 (shr_2_4 ht) (by decide) (by decide) (by decide) (by decide) (by decide) (fun _ => trivial) (fun m7 => ?_)
  refine T_putFR (x := (t + 4)) C.1 C.2.2.2 (fun _ _ _ _ => rfl) (fun _ => rfl) (fun _ => rfl) fd_X2_21 (by intro Cq Tq hq; cases hq; rfl) ht (by omega) (shp_pk (shr_2_4 ht) (by decide)) (fun _ => trivial) dX2_init_33 (fun m8 => ?_)
  refine T_aload_n C.1 dX2_init_36 0 rfl ?_
  refine T_iconst C.1 dX2_init_37 ?_
  refine T_putI C.1 LyI_T fd_X2_24 ht (by omega) dX2_init_38 (fun m9 => ?_)
  refine T_aload_n C.1 dX2_init_41 0 rfl ?_
  refine T_iconst C.1 dX2_init_42 ?_
  refine T_putI C.1 LyI_T fd_X2_28 ht (by omega) dX2_init_43 (fun m10 => ?_)
  refine T_aload_n C.1 dX2_init_46 0 rfl ?_
  refine T_iconst C.1 dX2_init_47 ?_
  refine T_putI C.1 LyI_T fd_X2_31 ht (by omega) dX2_init_48 (fun m11 => ?_)
  refine T_aload_n C.1 dX2_init_51 0 rfl ?_
  refine T_iconst C.1 dX2_init_52 ?_
  refine T_putZ C.1 LyI_T fd_X2_34 ht (by omega) dX2_init_53 (fun m12 => ?_)
  refine T_aload_n C.1 dX2_init_56 0 rfl ?_
  refine T_iconst C.1 dX2_init_57 ?_
  refine T_putI C.1 LyI_T fd_X2_38 ht (by omega) dX2_init_58 (fun m13 => ?_)
  refine T_aload_n C.1 dX2_init_61 0 rfl ?_
  refine T_iconst C.1 dX2_init_62 ?_
  refine T_putI C.1 LyI_T fd_X2_41 ht (by omega) dX2_init_63 (fun m14 => ?_)
  refine T_aload_n C.1 dX2_init_66 0 rfl ?_
  refine T_iconst C.1 dX2_init_67 ?_
  refine T_putI C.1 LyI_T fd_X2_44 ht (by omega) dX2_init_68 (fun m15 => ?_)
  refine T_aload_n C.1 dX2_init_71 0 rfl ?_
  refine T_getE (x := (t + 2)) C.1 fd_X2_15 (fun _ _ _ _ => rfl) ht (by omega) (shp_pk (shr_2_2 ht) (by decide)) dX2_init_72 ?_
  refine T_iconst C.1 dX2_init_75 ?_
  refine T_callSV (rm := rm_J7_fill_53178) [.ref (cx.2.2.1 + (t + 2)), .int (iI (-1))] [] C.1 dX2_init_76 mw_J7_fill_53178 wm_1_149 wm_1_56 ⟨Nat.le_of_ble_eq_true rfl, Nat.le_of_ble_eq_true rfl⟩ ⟨rfl, rfl⟩ ⟨by decide, by decide⟩ rfl rfl (Nat.le_of_ble_eq_true rfl) (g_fill ll cx LyI_T (n := (t + 4)) (r1 := (t + 2)) (by omega) (iI (-1)) m15) (fun _ m16 => ?_)
  refine T_aload_n C.1 dX2_init_79 0 rfl ?_
  refine T_getE (x := (t + 3)) C.1 fd_X2_18 (fun _ _ _ _ => rfl) ht (by omega) (shp_pk (shr_2_3 ht) (by decide)) dX2_init_80 ?_
  refine T_iconst C.1 dX2_init_83 ?_
  refine T_callSV (rm := rm_J7_fill_53178) [.ref (cx.2.2.1 + (t + 3)), .int (iI (-1))] [] C.1 dX2_init_84 mw_J7_fill_53178 wm_1_149 wm_1_56 ⟨Nat.le_of_ble_eq_true rfl, Nat.le_of_ble_eq_true rfl⟩ ⟨rfl, rfl⟩ ⟨by decide, by decide⟩ rfl rfl (Nat.le_of_ble_eq_true rfl) (g_fill ll cx LyI_T (n := (t + 4)) (r1 := (t + 3)) (by omega) (iI (-1)) m16) (fun _ m17 => ?_)
  exact T_vret C.1 C.2.1 C.2.2.1 dX2_init_87
def rm_X7_init : Room := { frames := 3, cells := 66, slots := 639, locals := 83 }
def F_X7_init (m : Mm) : Option (Unit × Mm) :=
  nm (clr m 34) fun m1 =>
  nm (pR m1 33 1 34) fun m2 =>
  nm (mnM m2 35 10) fun m3 =>
  nm (pR m3 33 2 35) fun m4 =>
  nm (clr m4 46) fun m5 =>
  nm (pR m5 33 3 46) fun m6 =>
  nm (clr m6 47) fun m7 =>
  nm (pR m7 33 4 47) fun m8 =>
  nm (clr m8 48) fun m9 =>
  nm (pR m9 33 5 48) fun m10 =>
  nm (clr m10 49) fun m11 =>
  nm (pR m11 33 6 49) fun m12 =>
  nm (pR m12 33 7 0) fun m13 =>
  nm (pI m13 33 8 (iI 0)) fun m14 =>
  nm (pR m14 33 0 2) fun m15 =>
  gdE 34 (gR m15 33 1) <|
  nm (clr m15 50) fun m16 =>
  bnd (F_X2_init 50 m16) fun _ m17 =>
  wrR 10 m17 34 (iI 0) 50 fun m18 =>
  gdE 34 (gR m18 33 1) <|
  nm (clr m18 55) fun m19 =>
  bnd (F_X2_init 55 m19) fun _ m20 =>
  wrR 10 m20 34 (iI 1) 55 fun m21 =>
  gdE 34 (gR m21 33 1) <|
  nm (clr m21 60) fun m22 =>
  bnd (F_X2_init 60 m22) fun _ m23 =>
  wrR 10 m23 34 (iI 2) 60 fun m24 =>
  gdE 34 (gR m24 33 1) <|
  nm (clr m24 65) fun m25 =>
  bnd (F_X2_init 65 m25) fun _ m26 =>
  wrR 10 m26 34 (iI 3) 65 fun m27 =>
  gdE 34 (gR m27 33 1) <|
  nm (clr m27 70) fun m28 =>
  bnd (F_X2_init 70 m28) fun _ m29 =>
  wrR 10 m29 34 (iI 4) 70 fun m30 =>
  gdE 34 (gR m30 33 1) <|
  nm (clr m30 75) fun m31 =>
  bnd (F_X2_init 75 m31) fun _ m32 =>
  wrR 10 m32 34 (iI 5) 75 fun m33 =>
  gdE 34 (gR m33 33 1) <|
  nm (clr m33 80) fun m34 =>
  bnd (F_X2_init 80 m34) fun _ m35 =>
  wrR 10 m35 34 (iI 6) 80 fun m36 =>
  gdE 34 (gR m36 33 1) <|
  nm (clr m36 85) fun m37 =>
  bnd (F_X2_init 85 m37) fun _ m38 =>
  wrR 10 m38 34 (iI 7) 85 fun m39 =>
  gdE 34 (gR m39 33 1) <|
  nm (clr m39 90) fun m40 =>
  bnd (F_X2_init 90 m40) fun _ m41 =>
  wrR 10 m41 34 (iI 8) 90 fun m42 =>
  gdE 34 (gR m42 33 1) <|
  nm (clr m42 95) fun m43 =>
  bnd (F_X2_init 95 m43) fun _ m44 =>
  wrR 10 m44 34 (iI 9) 95 fun m45 =>
  some ((), m45)
set_option maxRecDepth 100000 in
set_option maxHeartbeats 8000000 in
theorem c_X7_init (ll : Launch) (cx : CX) (m : Mm) : MT ll yX7_init cX7_init 3 none rm_X7_init cx 33 99 (fun _ => True) cvV 66 639 [.ref (cx.2.2.1 + 33), .ref (cx.2.2.1 + 2)] m (F_X7_init m) := by
  refine MT_of (by decide) (Nat.le_of_ble_eq_true rfl) ?_
  intro pp ee ss mm aa bb me co hK hr hk hn
  have C : CM3 pp ss mm aa me co cX7_init 3 RX7 cx none := ⟨hK, hr, hk, hn⟩
  show T pp ll ee rm_X7_init ss mm aa bb me co 3 cx 33 (fun _ => True) 0 0 _ 0 [(0, .ref (cx.2.2.1 + 33)), (1, .ref (cx.2.2.1 + 2))] [] m (F_X7_init m)
  unfold F_X7_init
  refine T_aload_n C.1 dX7_init_0 0 rfl ?_
  refine T_objInit C.1 dX7_init_1 wm_1_202 wm_1_20 wm_1_21 (by decide) (by decide) ?_
  refine T_aload_n C.1 dX7_init_4 0 rfl ?_
  refine T_bipush C.1 dX7_init_5 rfl ?_
  refine T_anew (a := 34) (len := 10) C.1 dX7_init_7 (by omega) wm_1_203 sh34 (by decide) (by decide) (by decide) (by decide) (by decide) (fun _ => trivial) (fun m1 => ?_)
  refine T_putFR (x := 34) C.1 C.2.2.2 (fun _ _ _ _ => rfl) (fun _ => rfl) (fun _ => rfl) fd_X7_13 (by intro Cq Tq hq; cases hq; rfl) sh33 (by decide) (shp_pk sh34 (by decide)) (fun _ => trivial) dX7_init_10 (fun m2 => ?_)
  refine T_aload_n C.1 dX7_init_13 0 rfl ?_
  refine T_bipush C.1 dX7_init_14 rfl ?_
  refine T_bipush C.1 dX7_init_16 rfl ?_
  refine T_mnI (a := 35) (N := 10) (M := 8) C.1 dX7_init_18 (by omega) (show Cond.classLink RX7 17 ("[" ++ (FieldType.array .int).toString) ∈ WA from wm_1_205) wm_1_53 (C.1.2.2.2.2.2.1.1.2 1 (cx.2.1 1, .int) rfl).2 sh35 (by intro i hi; have h := (by decide +kernel : ∀ i, i < 10 → shp (35 + 1 + i) = (1, 8)) i hi; exact h) (by decide) (by decide) (by decide) (by decide) (by decide) (by decide) (by decide) (fun _ => trivial) (fun m3 => ?_)
  refine T_putFR (x := 35) C.1 C.2.2.2 (fun _ _ _ _ => rfl) (fun _ => rfl) (fun _ => rfl) fd_X7_19 (by intro Cq Tq hq; cases hq; rfl) sh33 (by decide) (shp_pk sh35 (by decide)) (fun _ => trivial) dX7_init_22 (fun m4 => ?_)
  refine T_aload_n C.1 dX7_init_25 0 rfl ?_
  refine T_sipush C.1 dX7_init_26 rfl ?_
  refine T_newa1 (a := 46) (len := 128) C.1 dX7_init_29 (by omega) wm_1_53 sh46 (by decide) (by decide) (by decide) (by decide) (by decide) (fun _ => trivial) (fun m5 => ?_)
  refine T_putFR (x := 46) C.1 C.2.2.2 (fun _ _ _ _ => rfl) (fun _ => rfl) (fun _ => rfl) fd_X7_22 (by intro Cq Tq hq; cases hq; rfl) sh33 (by decide) (shp_pk sh46 (by decide)) (fun _ => trivial) dX7_init_31 (fun m6 => ?_)
  refine T_aload_n C.1 dX7_init_34 0 rfl ?_
  refine T_bipush C.1 dX7_init_35 rfl ?_
  refine T_newa1 (a := 47) (len := 7) C.1 dX7_init_37 (by omega) wm_1_53 sh47 (by decide) (by decide) (by decide) (by decide) (by decide) (fun _ => trivial) (fun m7 => ?_)
  refine T_putFR (x := 47) C.1 C.2.2.2 (fun _ _ _ _ => rfl) (fun _ => rfl) (fun _ => rfl) fd_X7_26 (by intro Cq Tq hq; cases hq; rfl) sh33 (by decide) (shp_pk sh47 (by decide)) (fun _ => trivial) dX7_init_39 (fun m8 => ?_)
  refine T_aload_n C.1 dX7_init_42 0 rfl ?_
  refine T_bipush C.1 dX7_init_43 rfl ?_
  refine T_newa1 (a := 48) (len := 7) C.1 dX7_init_45 (by omega) wm_1_53 sh48 (by decide) (by decide) (by decide) (by decide) (by decide) (fun _ => trivial) (fun m9 => ?_)
  refine T_putFR (x := 48) C.1 C.2.2.2 (fun _ _ _ _ => rfl) (fun _ => rfl) (fun _ => rfl) fd_X7_29 (by intro Cq Tq hq; cases hq; rfl) sh33 (by decide) (shp_pk sh48 (by decide)) (fun _ => trivial) dX7_init_47 (fun m10 => ?_)
  refine T_aload_n C.1 dX7_init_50 0 rfl ?_
  refine T_bipush C.1 dX7_init_51 rfl ?_
  refine T_newa1 (a := 49) (len := 7) C.1 dX7_init_53 (by omega) wm_1_53 sh49 (by decide) (by decide) (by decide) (by decide) (by decide) (fun _ => trivial) (fun m11 => ?_)
  refine T_putFR (x := 49) C.1 C.2.2.2 (fun _ _ _ _ => rfl) (fun _ => rfl) (fun _ => rfl) fd_X7_32 (by intro Cq Tq hq; cases hq; rfl) sh33 (by decide) (shp_pk sh49 (by decide)) (fun _ => trivial) dX7_init_55 (fun m12 => ?_)
  refine T_aload_n C.1 dX7_init_58 0 rfl ?_
  refine T_acn C.1 dX7_init_59 ?_
  refine T_putN C.1 (fun _ _ _ _ => rfl) rfl rfl fd_X7_35 sh33 (by decide) (fun _ => trivial) dX7_init_60 (fun m13 => ?_)
  refine T_aload_n C.1 dX7_init_63 0 rfl ?_
  refine T_iconst C.1 dX7_init_64 ?_
  refine T_putI C.1 LyI_T fd_X7_39 sh33 (by decide) dX7_init_65 (fun m14 => ?_)
  refine T_aload_n C.1 dX7_init_68 0 rfl ?_
  refine T_aload_n C.1 dX7_init_69 1 rfl ?_
  refine T_putFR (x := 2) C.1 C.2.2.2 (fun _ _ _ _ => rfl) (fun _ => rfl) (fun _ => rfl) fd_X7_43 (by intro Cq Tq hq; cases hq; rfl) sh33 (by decide) (shp_pk sh2 (by decide)) (fun _ => trivial) dX7_init_70 (fun m15 => ?_)
  refine T_iconst C.1 dX7_init_73 ?_
  refine T_istore_n (lv' := [(2, .int (iI 0)), (0, .ref (cx.2.2.1 + 33)), (1, .ref (cx.2.2.1 + 2))]) C.1 dX7_init_74 (by decide) rfl ?_
  refine T_iload_n C.1 dX7_init_75 0 rfl ?_
  refine T_bipush C.1 dX7_init_76 rfl ?_
  refine T_geN (tgt := 100) C.1 dX7_init_78 (by decide) (by decide) ?_
  refine T_aload_n C.1 dX7_init_81 1 rfl ?_
  refine T_getE (x := 34) C.1 fd_X7_13 (fun _ _ _ _ => rfl) sh33 (by decide) (shp_pk sh34 (by decide)) dX7_init_82 ?_
  refine T_iload_n C.1 dX7_init_85 0 rfl ?_
  refine T_new (a := 50) (ci := 2) C.1 dX7_init_86 (by omega) wm_1_203 wm_1_144 wm_1_7 rfl tyX2_ok (by decide) inX2 sh50 (by decide) (by decide) (fun _ => trivial) (fun m16 => ?_)
  refine T_dup C.1 dX7_init_89 rfl ?_
  refine T_callI (rm := rm_X2_init) (n2 := 54) (mc := 4) (ms := 28) [] [.ref (cx.2.2.1 + 50), .int (iI 0), .ref (cx.2.2.1 + 34)] C.1 dX7_init_90 mw_X2_init rfl wm_1_207 wm_1_146 ⟨⟨Nat.le_of_ble_eq_true rfl, Nat.le_of_ble_eq_true rfl⟩, rfl, rfl, by decide, by decide, (by omega)⟩ rfl rfl (Nat.le_of_ble_eq_true rfl) (c_X2_init ll cx 50 m16) (fun m17 _ => ?_)
  refine T_aast C.1 (fun _ => trivial) sh34 (by decide) sh50 (by decide) dX7_init_93 (fun m18 => ?_)
  refine T_iinc (v := (iI 1)) (lv' := [(2, .int (iI 1)), (0, .ref (cx.2.2.1 + 33)), (1, .ref (cx.2.2.1 + 2))]) C.1 dX7_init_94 0 rfl (by decide) (by decide) rfl ?_
  refine T_goto (tgt := 75) C.1 dX7_init_97 (by decide) ?_
  refine T_iload_n C.1 dX7_init_75 0 rfl ?_
  refine T_bipush C.1 dX7_init_76 rfl ?_
  refine T_geN (tgt := 100) C.1 dX7_init_78 (by decide) (by decide) ?_
  refine T_aload_n C.1 dX7_init_81 1 rfl ?_
  refine T_getE (x := 34) C.1 fd_X7_13 (fun _ _ _ _ => rfl) sh33 (by decide) (shp_pk sh34 (by decide)) dX7_init_82 ?_
  refine T_iload_n C.1 dX7_init_85 0 rfl ?_
  refine T_new (a := 55) (ci := 2) C.1 dX7_init_86 (by omega) wm_1_203 wm_1_144 wm_1_7 rfl tyX2_ok (by decide) inX2 sh55 (by decide) (by decide) (fun _ => trivial) (fun m19 => ?_)
  refine T_dup C.1 dX7_init_89 rfl ?_
  refine T_callI (rm := rm_X2_init) (n2 := 59) (mc := 4) (ms := 28) [] [.ref (cx.2.2.1 + 55), .int (iI 1), .ref (cx.2.2.1 + 34)] C.1 dX7_init_90 mw_X2_init rfl wm_1_207 wm_1_146 ⟨⟨Nat.le_of_ble_eq_true rfl, Nat.le_of_ble_eq_true rfl⟩, rfl, rfl, by decide, by decide, (by omega)⟩ rfl rfl (Nat.le_of_ble_eq_true rfl) (c_X2_init ll cx 55 m19) (fun m20 _ => ?_)
  refine T_aast C.1 (fun _ => trivial) sh34 (by decide) sh55 (by decide) dX7_init_93 (fun m21 => ?_)
  refine T_iinc (v := (iI 2)) (lv' := [(2, .int (iI 2)), (0, .ref (cx.2.2.1 + 33)), (1, .ref (cx.2.2.1 + 2))]) C.1 dX7_init_94 0 rfl (by decide) (by decide) rfl ?_
  refine T_goto (tgt := 75) C.1 dX7_init_97 (by decide) ?_
  refine T_iload_n C.1 dX7_init_75 0 rfl ?_
  refine T_bipush C.1 dX7_init_76 rfl ?_
  refine T_geN (tgt := 100) C.1 dX7_init_78 (by decide) (by decide) ?_
  refine T_aload_n C.1 dX7_init_81 1 rfl ?_
  refine T_getE (x := 34) C.1 fd_X7_13 (fun _ _ _ _ => rfl) sh33 (by decide) (shp_pk sh34 (by decide)) dX7_init_82 ?_
  refine T_iload_n C.1 dX7_init_85 0 rfl ?_
  refine T_new (a := 60) (ci := 2) C.1 dX7_init_86 (by omega) wm_1_203 wm_1_144 wm_1_7 rfl tyX2_ok (by decide) inX2 sh60 (by decide) (by decide) (fun _ => trivial) (fun m22 => ?_)
  refine T_dup C.1 dX7_init_89 rfl ?_
  refine T_callI (rm := rm_X2_init) (n2 := 64) (mc := 4) (ms := 28) [] [.ref (cx.2.2.1 + 60), .int (iI 2), .ref (cx.2.2.1 + 34)] C.1 dX7_init_90 mw_X2_init rfl wm_1_207 wm_1_146 ⟨⟨Nat.le_of_ble_eq_true rfl, Nat.le_of_ble_eq_true rfl⟩, rfl, rfl, by decide, by decide, (by omega)⟩ rfl rfl (Nat.le_of_ble_eq_true rfl) (c_X2_init ll cx 60 m22) (fun m23 _ => ?_)
  refine T_aast C.1 (fun _ => trivial) sh34 (by decide) sh60 (by decide) dX7_init_93 (fun m24 => ?_)
  refine T_iinc (v := (iI 3)) (lv' := [(2, .int (iI 3)), (0, .ref (cx.2.2.1 + 33)), (1, .ref (cx.2.2.1 + 2))]) C.1 dX7_init_94 0 rfl (by decide) (by decide) rfl ?_
  refine T_goto (tgt := 75) C.1 dX7_init_97 (by decide) ?_
  refine T_iload_n C.1 dX7_init_75 0 rfl ?_
  refine T_bipush C.1 dX7_init_76 rfl ?_
  refine T_geN (tgt := 100) C.1 dX7_init_78 (by decide) (by decide) ?_
  refine T_aload_n C.1 dX7_init_81 1 rfl ?_
  refine T_getE (x := 34) C.1 fd_X7_13 (fun _ _ _ _ => rfl) sh33 (by decide) (shp_pk sh34 (by decide)) dX7_init_82 ?_
  refine T_iload_n C.1 dX7_init_85 0 rfl ?_
  refine T_new (a := 65) (ci := 2) C.1 dX7_init_86 (by omega) wm_1_203 wm_1_144 wm_1_7 rfl tyX2_ok (by decide) inX2 sh65 (by decide) (by decide) (fun _ => trivial) (fun m25 => ?_)
  refine T_dup C.1 dX7_init_89 rfl ?_
  refine T_callI (rm := rm_X2_init) (n2 := 69) (mc := 4) (ms := 28) [] [.ref (cx.2.2.1 + 65), .int (iI 3), .ref (cx.2.2.1 + 34)] C.1 dX7_init_90 mw_X2_init rfl wm_1_207 wm_1_146 ⟨⟨Nat.le_of_ble_eq_true rfl, Nat.le_of_ble_eq_true rfl⟩, rfl, rfl, by decide, by decide, (by omega)⟩ rfl rfl (Nat.le_of_ble_eq_true rfl) (c_X2_init ll cx 65 m25) (fun m26 _ => ?_)
  refine T_aast C.1 (fun _ => trivial) sh34 (by decide) sh65 (by decide) dX7_init_93 (fun m27 => ?_)
  refine T_iinc (v := (iI 4)) (lv' := [(2, .int (iI 4)), (0, .ref (cx.2.2.1 + 33)), (1, .ref (cx.2.2.1 + 2))]) C.1 dX7_init_94 0 rfl (by decide) (by decide) rfl ?_
  refine T_goto (tgt := 75) C.1 dX7_init_97 (by decide) ?_
  refine T_iload_n C.1 dX7_init_75 0 rfl ?_
  refine T_bipush C.1 dX7_init_76 rfl ?_
  refine T_geN (tgt := 100) C.1 dX7_init_78 (by decide) (by decide) ?_
  refine T_aload_n C.1 dX7_init_81 1 rfl ?_
  refine T_getE (x := 34) C.1 fd_X7_13 (fun _ _ _ _ => rfl) sh33 (by decide) (shp_pk sh34 (by decide)) dX7_init_82 ?_
  refine T_iload_n C.1 dX7_init_85 0 rfl ?_
  refine T_new (a := 70) (ci := 2) C.1 dX7_init_86 (by omega) wm_1_203 wm_1_144 wm_1_7 rfl tyX2_ok (by decide) inX2 sh70 (by decide) (by decide) (fun _ => trivial) (fun m28 => ?_)
  refine T_dup C.1 dX7_init_89 rfl ?_
  refine T_callI (rm := rm_X2_init) (n2 := 74) (mc := 4) (ms := 28) [] [.ref (cx.2.2.1 + 70), .int (iI 4), .ref (cx.2.2.1 + 34)] C.1 dX7_init_90 mw_X2_init rfl wm_1_207 wm_1_146 ⟨⟨Nat.le_of_ble_eq_true rfl, Nat.le_of_ble_eq_true rfl⟩, rfl, rfl, by decide, by decide, (by omega)⟩ rfl rfl (Nat.le_of_ble_eq_true rfl) (c_X2_init ll cx 70 m28) (fun m29 _ => ?_)
  refine T_aast C.1 (fun _ => trivial) sh34 (by decide) sh70 (by decide) dX7_init_93 (fun m30 => ?_)
  refine T_iinc (v := (iI 5)) (lv' := [(2, .int (iI 5)), (0, .ref (cx.2.2.1 + 33)), (1, .ref (cx.2.2.1 + 2))]) C.1 dX7_init_94 0 rfl (by decide) (by decide) rfl ?_
  refine T_goto (tgt := 75) C.1 dX7_init_97 (by decide) ?_
  refine T_iload_n C.1 dX7_init_75 0 rfl ?_
  refine T_bipush C.1 dX7_init_76 rfl ?_
  refine T_geN (tgt := 100) C.1 dX7_init_78 (by decide) (by decide) ?_
  refine T_aload_n C.1 dX7_init_81 1 rfl ?_
  refine T_getE (x := 34) C.1 fd_X7_13 (fun _ _ _ _ => rfl) sh33 (by decide) (shp_pk sh34 (by decide)) dX7_init_82 ?_
  refine T_iload_n C.1 dX7_init_85 0 rfl ?_
  refine T_new (a := 75) (ci := 2) C.1 dX7_init_86 (by omega) wm_1_203 wm_1_144 wm_1_7 rfl tyX2_ok (by decide) inX2 sh75 (by decide) (by decide) (fun _ => trivial) (fun m31 => ?_)
  refine T_dup C.1 dX7_init_89 rfl ?_
  refine T_callI (rm := rm_X2_init) (n2 := 79) (mc := 4) (ms := 28) [] [.ref (cx.2.2.1 + 75), .int (iI 5), .ref (cx.2.2.1 + 34)] C.1 dX7_init_90 mw_X2_init rfl wm_1_207 wm_1_146 ⟨⟨Nat.le_of_ble_eq_true rfl, Nat.le_of_ble_eq_true rfl⟩, rfl, rfl, by decide, by decide, (by omega)⟩ rfl rfl (Nat.le_of_ble_eq_true rfl) (c_X2_init ll cx 75 m31) (fun m32 _ => ?_)
  refine T_aast C.1 (fun _ => trivial) sh34 (by decide) sh75 (by decide) dX7_init_93 (fun m33 => ?_)
  refine T_iinc (v := (iI 6)) (lv' := [(2, .int (iI 6)), (0, .ref (cx.2.2.1 + 33)), (1, .ref (cx.2.2.1 + 2))]) C.1 dX7_init_94 0 rfl (by decide) (by decide) rfl ?_
  refine T_goto (tgt := 75) C.1 dX7_init_97 (by decide) ?_
  refine T_iload_n C.1 dX7_init_75 0 rfl ?_
  refine T_bipush C.1 dX7_init_76 rfl ?_
  refine T_geN (tgt := 100) C.1 dX7_init_78 (by decide) (by decide) ?_
  refine T_aload_n C.1 dX7_init_81 1 rfl ?_
  refine T_getE (x := 34) C.1 fd_X7_13 (fun _ _ _ _ => rfl) sh33 (by decide) (shp_pk sh34 (by decide)) dX7_init_82 ?_
  refine T_iload_n C.1 dX7_init_85 0 rfl ?_
  refine T_new (a := 80) (ci := 2) C.1 dX7_init_86 (by omega) wm_1_203 wm_1_144 wm_1_7 rfl tyX2_ok (by decide) inX2 sh80 (by decide) (by decide) (fun _ => trivial) (fun m34 => ?_)
  refine T_dup C.1 dX7_init_89 rfl ?_
  refine T_callI (rm := rm_X2_init) (n2 := 84) (mc := 4) (ms := 28) [] [.ref (cx.2.2.1 + 80), .int (iI 6), .ref (cx.2.2.1 + 34)] C.1 dX7_init_90 mw_X2_init rfl wm_1_207 wm_1_146 ⟨⟨Nat.le_of_ble_eq_true rfl, Nat.le_of_ble_eq_true rfl⟩, rfl, rfl, by decide, by decide, (by omega)⟩ rfl rfl (Nat.le_of_ble_eq_true rfl) (c_X2_init ll cx 80 m34) (fun m35 _ => ?_)
  refine T_aast C.1 (fun _ => trivial) sh34 (by decide) sh80 (by decide) dX7_init_93 (fun m36 => ?_)
  refine T_iinc (v := (iI 7)) (lv' := [(2, .int (iI 7)), (0, .ref (cx.2.2.1 + 33)), (1, .ref (cx.2.2.1 + 2))]) C.1 dX7_init_94 0 rfl (by decide) (by decide) rfl ?_
  refine T_goto (tgt := 75) C.1 dX7_init_97 (by decide) ?_
  refine T_iload_n C.1 dX7_init_75 0 rfl ?_
  refine T_bipush C.1 dX7_init_76 rfl ?_
  refine T_geN (tgt := 100) C.1 dX7_init_78 (by decide) (by decide) ?_
  refine T_aload_n C.1 dX7_init_81 1 rfl ?_
  refine T_getE (x := 34) C.1 fd_X7_13 (fun _ _ _ _ => rfl) sh33 (by decide) (shp_pk sh34 (by decide)) dX7_init_82 ?_
  refine T_iload_n C.1 dX7_init_85 0 rfl ?_
  refine T_new (a := 85) (ci := 2) C.1 dX7_init_86 (by omega) wm_1_203 wm_1_144 wm_1_7 rfl tyX2_ok (by decide) inX2 sh85 (by decide) (by decide) (fun _ => trivial) (fun m37 => ?_)
  refine T_dup C.1 dX7_init_89 rfl ?_
  refine T_callI (rm := rm_X2_init) (n2 := 89) (mc := 4) (ms := 28) [] [.ref (cx.2.2.1 + 85), .int (iI 7), .ref (cx.2.2.1 + 34)] C.1 dX7_init_90 mw_X2_init rfl wm_1_207 wm_1_146 ⟨⟨Nat.le_of_ble_eq_true rfl, Nat.le_of_ble_eq_true rfl⟩, rfl, rfl, by decide, by decide, (by omega)⟩ rfl rfl (Nat.le_of_ble_eq_true rfl) (c_X2_init ll cx 85 m37) (fun m38 _ => ?_)
  refine T_aast C.1 (fun _ => trivial) sh34 (by decide) sh85 (by decide) dX7_init_93 (fun m39 => ?_)
  refine T_iinc (v := (iI 8)) (lv' := [(2, .int (iI 8)), (0, .ref (cx.2.2.1 + 33)), (1, .ref (cx.2.2.1 + 2))]) C.1 dX7_init_94 0 rfl (by decide) (by decide) rfl ?_
  refine T_goto (tgt := 75) C.1 dX7_init_97 (by decide) ?_
  refine T_iload_n C.1 dX7_init_75 0 rfl ?_
  refine T_bipush C.1 dX7_init_76 rfl ?_
  refine T_geN (tgt := 100) C.1 dX7_init_78 (by decide) (by decide) ?_
  refine T_aload_n C.1 dX7_init_81 1 rfl ?_
  refine T_getE (x := 34) C.1 fd_X7_13 (fun _ _ _ _ => rfl) sh33 (by decide) (shp_pk sh34 (by decide)) dX7_init_82 ?_
  refine T_iload_n C.1 dX7_init_85 0 rfl ?_
  refine T_new (a := 90) (ci := 2) C.1 dX7_init_86 (by omega) wm_1_203 wm_1_144 wm_1_7 rfl tyX2_ok (by decide) inX2 sh90 (by decide) (by decide) (fun _ => trivial) (fun m40 => ?_)
  refine T_dup C.1 dX7_init_89 rfl ?_
  refine T_callI (rm := rm_X2_init) (n2 := 94) (mc := 4) (ms := 28) [] [.ref (cx.2.2.1 + 90), .int (iI 8), .ref (cx.2.2.1 + 34)] C.1 dX7_init_90 mw_X2_init rfl wm_1_207 wm_1_146 ⟨⟨Nat.le_of_ble_eq_true rfl, Nat.le_of_ble_eq_true rfl⟩, rfl, rfl, by decide, by decide, (by omega)⟩ rfl rfl (Nat.le_of_ble_eq_true rfl) (c_X2_init ll cx 90 m40) (fun m41 _ => ?_)
  refine T_aast C.1 (fun _ => trivial) sh34 (by decide) sh90 (by decide) dX7_init_93 (fun m42 => ?_)
  refine T_iinc (v := (iI 9)) (lv' := [(2, .int (iI 9)), (0, .ref (cx.2.2.1 + 33)), (1, .ref (cx.2.2.1 + 2))]) C.1 dX7_init_94 0 rfl (by decide) (by decide) rfl ?_
  refine T_goto (tgt := 75) C.1 dX7_init_97 (by decide) ?_
  refine T_iload_n C.1 dX7_init_75 0 rfl ?_
  refine T_bipush C.1 dX7_init_76 rfl ?_
  refine T_geN (tgt := 100) C.1 dX7_init_78 (by decide) (by decide) ?_
  refine T_aload_n C.1 dX7_init_81 1 rfl ?_
  refine T_getE (x := 34) C.1 fd_X7_13 (fun _ _ _ _ => rfl) sh33 (by decide) (shp_pk sh34 (by decide)) dX7_init_82 ?_
  refine T_iload_n C.1 dX7_init_85 0 rfl ?_
  refine T_new (a := 95) (ci := 2) C.1 dX7_init_86 (by omega) wm_1_203 wm_1_144 wm_1_7 rfl tyX2_ok (by decide) inX2 sh95 (by decide) (by decide) (fun _ => trivial) (fun m43 => ?_)
  refine T_dup C.1 dX7_init_89 rfl ?_
  refine T_callI (rm := rm_X2_init) (n2 := 99) (mc := 4) (ms := 28) [] [.ref (cx.2.2.1 + 95), .int (iI 9), .ref (cx.2.2.1 + 34)] C.1 dX7_init_90 mw_X2_init rfl wm_1_207 wm_1_146 ⟨⟨Nat.le_of_ble_eq_true rfl, Nat.le_of_ble_eq_true rfl⟩, rfl, rfl, by decide, by decide, (by omega)⟩ rfl rfl (Nat.le_of_ble_eq_true rfl) (c_X2_init ll cx 95 m43) (fun m44 _ => ?_)
  refine T_aast C.1 (fun _ => trivial) sh34 (by decide) sh95 (by decide) dX7_init_93 (fun m45 => ?_)
  refine T_iinc (v := (iI 10)) (lv' := [(2, .int (iI 10)), (0, .ref (cx.2.2.1 + 33)), (1, .ref (cx.2.2.1 + 2))]) C.1 dX7_init_94 0 rfl (by decide) (by decide) rfl ?_
  refine T_goto (tgt := 75) C.1 dX7_init_97 (by decide) ?_
  refine T_iload_n C.1 dX7_init_75 0 rfl ?_
  refine T_bipush C.1 dX7_init_76 rfl ?_
  refine T_geY (tgt := 100) C.1 dX7_init_78 (by decide) (by decide) ?_
  exact T_vret C.1 C.2.1 C.2.2.1 dX7_init_100
def rm_X0_init : Room := { frames := 1, cells := 2, slots := 74, locals := 40 }
def F_X0_init (m : Mm) : Option (Unit × Mm) :=
  nm (clr m 101) fun m1 =>
  nm (pR m1 100 0 101) fun m2 =>
  nm (pI m2 100 1 (iI 0)) fun m3 =>
  nm (clr m3 102) fun m4 =>
  nm (pR m4 100 2 102) fun m5 =>
  nm (pI m5 100 3 (iI 0)) fun m6 =>
  nm (pI m6 100 4 (iI 0)) fun m7 =>
  some ((), m7)
set_option maxRecDepth 100000 in
set_option maxHeartbeats 8000000 in
theorem c_X0_init (ll : Launch) (cx : CX) (m : Mm) : MT ll yX0_init cX0_init 1 none rm_X0_init cx 100 102 (fun _ => True) cvV 2 74 [.ref (cx.2.2.1 + 100)] m (F_X0_init m) := by
  refine MT_of (by decide) (Nat.le_of_ble_eq_true rfl) ?_
  intro pp ee ss mm aa bb me co hK hr hk hn
  have C : CM3 pp ss mm aa me co cX0_init 1 RX0 cx none := ⟨hK, hr, hk, hn⟩
  show T pp ll ee rm_X0_init ss mm aa bb me co 1 cx 100 (fun _ => True) 0 0 _ 0 [(0, .ref (cx.2.2.1 + 100))] [] m (F_X0_init m)
  unfold F_X0_init
  refine T_aload_n C.1 dX0_init_0 0 rfl ?_
  refine T_objInit C.1 dX0_init_1 wm_2_2 wm_1_20 wm_1_21 (by decide) (by decide) ?_
  refine T_aload_n C.1 dX0_init_4 0 rfl ?_
  refine T_bipush C.1 dX0_init_5 rfl ?_
  refine T_newa1 (a := 101) (len := 50) C.1 dX0_init_7 (by omega) wm_1_53 sh101 (by decide) (by decide) (by decide) (by decide) (by decide) (fun _ => trivial) (fun m1 => ?_)
  refine T_putFR (x := 101) C.1 C.2.2.2 (fun _ _ _ _ => rfl) (fun _ => rfl) (fun _ => rfl) fd_X0_11 (by intro Cq Tq hq; cases hq; rfl) sh100 (by decide) (shp_pk sh101 (by decide)) (fun _ => trivial) dX0_init_9 (fun m2 => ?_)
  refine T_aload_n C.1 dX0_init_12 0 rfl ?_
  refine T_iconst C.1 dX0_init_13 ?_
  refine T_putI C.1 LyI_T fd_X0_15 sh100 (by decide) dX0_init_14 (fun m3 => ?_)
  refine T_aload_n C.1 dX0_init_17 0 rfl ?_
  refine T_bipush C.1 dX0_init_18 rfl ?_
  refine T_newa1 (a := 102) (len := 24) C.1 dX0_init_20 (by omega) wm_1_53 sh102 (by decide) (by decide) (by decide) (by decide) (by decide) (fun _ => trivial) (fun m4 => ?_)
  refine T_putFR (x := 102) C.1 C.2.2.2 (fun _ _ _ _ => rfl) (fun _ => rfl) (fun _ => rfl) fd_X0_19 (by intro Cq Tq hq; cases hq; rfl) sh100 (by decide) (shp_pk sh102 (by decide)) (fun _ => trivial) dX0_init_22 (fun m5 => ?_)
  refine T_aload_n C.1 dX0_init_25 0 rfl ?_
  refine T_iconst C.1 dX0_init_26 ?_
  refine T_putI C.1 LyI_T fd_X0_22 sh100 (by decide) dX0_init_27 (fun m6 => ?_)
  refine T_aload_n C.1 dX0_init_30 0 rfl ?_
  refine T_iconst C.1 dX0_init_31 ?_
  refine T_putI C.1 LyI_T fd_X0_25 sh100 (by decide) dX0_init_32 (fun m7 => ?_)
  exact T_vret C.1 C.2.1 C.2.2.1 dX0_init_35
def rm_X5_init : Room := { frames := 2, cells := 9, slots := 378, locals := 63 }
def F_X5_init (m : Mm) : Option (Unit × Mm) :=
  nm (clr m 104) fun m1 =>
  nm (pR m1 103 0 104) fun m2 =>
  nm (clr m2 105) fun m3 =>
  nm (pR m3 103 1 105) fun m4 =>
  nm (mnM m4 106 6) fun m5 =>
  nm (pR m5 103 2 106) fun m6 =>
  gdE 104 (gR m6 103 0) <|
  bnd (F_J7_fill_53178 104 (iI (-2)) m6) fun _ m7 =>
  some ((), m7)
set_option maxRecDepth 100000 in
set_option maxHeartbeats 8000000 in
theorem c_X5_init (ll : Launch) (cx : CX) (m : Mm) : MT ll yX5_init cX5_init 1 none rm_X5_init cx 103 112 (fun _ => True) cvV 9 378 [.ref (cx.2.2.1 + 103)] m (F_X5_init m) := by
  refine MT_of (by decide) (Nat.le_of_ble_eq_true rfl) ?_
  intro pp ee ss mm aa bb me co hK hr hk hn
  have C : CM3 pp ss mm aa me co cX5_init 1 RX5 cx none := ⟨hK, hr, hk, hn⟩
  show T pp ll ee rm_X5_init ss mm aa bb me co 1 cx 103 (fun _ => True) 0 0 _ 0 [(0, .ref (cx.2.2.1 + 103))] [] m (F_X5_init m)
  unfold F_X5_init
  refine T_aload_n C.1 dX5_init_0 0 rfl ?_
  refine T_objInit C.1 dX5_init_1 wm_2_26 wm_1_20 wm_1_21 (by decide) (by decide) ?_
  refine T_aload_n C.1 dX5_init_4 0 rfl ?_
  refine T_bipush C.1 dX5_init_5 rfl ?_
  refine T_newa1 (a := 104) (len := 6) C.1 dX5_init_7 (by omega) wm_1_53 sh104 (by decide) (by decide) (by decide) (by decide) (by decide) (fun _ => trivial) (fun m1 => ?_)
  refine T_putFR (x := 104) C.1 C.2.2.2 (fun _ _ _ _ => rfl) (fun _ => rfl) (fun _ => rfl) fd_X5_11 (by intro Cq Tq hq; cases hq; rfl) sh103 (by decide) (shp_pk sh104 (by decide)) (fun _ => trivial) dX5_init_9 (fun m2 => ?_)
  refine T_aload_n C.1 dX5_init_12 0 rfl ?_
  refine T_bipush C.1 dX5_init_13 rfl ?_
  refine T_newa1 (a := 105) (len := 6) C.1 dX5_init_15 (by omega) wm_1_53 sh105 (by decide) (by decide) (by decide) (by decide) (by decide) (fun _ => trivial) (fun m3 => ?_)
  refine T_putFR (x := 105) C.1 C.2.2.2 (fun _ _ _ _ => rfl) (fun _ => rfl) (fun _ => rfl) fd_X5_15 (by intro Cq Tq hq; cases hq; rfl) sh103 (by decide) (shp_pk sh105 (by decide)) (fun _ => trivial) dX5_init_17 (fun m4 => ?_)
  refine T_aload_n C.1 dX5_init_20 0 rfl ?_
  refine T_bipush C.1 dX5_init_21 rfl ?_
  refine T_bipush C.1 dX5_init_23 rfl ?_
  refine T_mnL (a := 106) (N := 6) (M := 60) C.1 dX5_init_25 (by omega) (show Cond.classLink RX5 18 ("[" ++ (FieldType.array .long).toString) ∈ WA from wm_2_27) wm_2_43 (C.1.2.2.2.2.2.1.1.2 5 (cx.2.1 5, .long) rfl).2 sh106 (by intro i hi; have h := (by decide +kernel : ∀ i, i < 6 → shp (106 + 1 + i) = (5, 60)) i hi; exact h) (by decide) (by decide) (by decide) (by decide) (by decide) (by decide) (by decide) (fun _ => trivial) (fun m5 => ?_)
  refine T_putFR (x := 106) C.1 C.2.2.2 (fun _ _ _ _ => rfl) (fun _ => rfl) (fun _ => rfl) fd_X5_20 (by intro Cq Tq hq; cases hq; rfl) sh103 (by decide) (shp_pk sh106 (by decide)) (fun _ => trivial) dX5_init_29 (fun m6 => ?_)
  refine T_aload_n C.1 dX5_init_32 0 rfl ?_
  refine T_getE (x := 104) C.1 fd_X5_11 (fun _ _ _ _ => rfl) sh103 (by decide) (shp_pk sh104 (by decide)) dX5_init_33 ?_
  refine T_bipush C.1 dX5_init_36 rfl ?_
  refine T_callSV (rm := rm_J7_fill_53178) [.ref (cx.2.2.1 + 104), .int (iI (-2))] [] C.1 dX5_init_38 mw_J7_fill_53178 wm_2_29 wm_1_56 ⟨Nat.le_of_ble_eq_true rfl, Nat.le_of_ble_eq_true rfl⟩ ⟨rfl, rfl⟩ ⟨by decide, by decide⟩ rfl rfl (Nat.le_of_ble_eq_true rfl) (g_fill ll cx LyI_T (n := 112) (r1 := 104) (by decide) (iI (-2)) m6) (fun _ m7 => ?_)
  exact T_vret C.1 C.2.1 C.2.2.1 dX5_init_41
def rm_X8_init : Room := { frames := 4, cells := 111, slots := 2381, locals := 105 }
def F_X8_init (m : Mm) : Option (Unit × Mm) :=
  nm (clr m 2) fun m1 =>
  bnd (F_X4_init m1) fun _ m2 =>
  nm (pR m2 1 0 2) fun m3 =>
  nm (clr m3 11) fun m4 =>
  bnd (F_X1_init m4) fun _ m5 =>
  nm (pR m5 1 1 11) fun m6 =>
  nm (clr m6 16) fun m7 =>
  bnd (F_X6_init m7) fun _ m8 =>
  nm (pR m8 1 2 16) fun m9 =>
  nm (clr m9 23) fun m10 =>
  bnd (F_X2_init 23 m10) fun _ m11 =>
  nm (pR m11 1 3 23) fun m12 =>
  nm (clr m12 28) fun m13 =>
  bnd (F_X2_init 28 m13) fun _ m14 =>
  nm (pR m14 1 4 28) fun m15 =>
  nm (clr m15 33) fun m16 =>
  gdE 2 (gR m16 1 0) <|
  bnd (F_X7_init m16) fun _ m17 =>
  nm (pR m17 1 5 33) fun m18 =>
  nm (clr m18 100) fun m19 =>
  bnd (F_X0_init m19) fun _ m20 =>
  nm (pR m20 1 6 100) fun m21 =>
  nm (clr m21 103) fun m22 =>
  bnd (F_X5_init m22) fun _ m23 =>
  nm (pR m23 1 7 103) fun m24 =>
  nm (pI m24 1 8 (iI (-1))) fun m25 =>
  some ((), m25)
set_option maxRecDepth 100000 in
set_option maxHeartbeats 8000000 in
theorem c_X8_init (ll : Launch) (cx : CX) (m : Mm) : MT ll yX8_init cX8_init 1 none rm_X8_init cx 1 112 (fun _ => True) cvV 111 2381 [.ref (cx.2.2.1 + 1)] m (F_X8_init m) := by
  refine MT_of (by decide) (Nat.le_of_ble_eq_true rfl) ?_
  intro pp ee ss mm aa bb me co hK hr hk hn
  have C : CM3 pp ss mm aa me co cX8_init 1 RX8 cx none := ⟨hK, hr, hk, hn⟩
  show T pp ll ee rm_X8_init ss mm aa bb me co 1 cx 1 (fun _ => True) 0 0 _ 0 [(0, .ref (cx.2.2.1 + 1))] [] m (F_X8_init m)
  unfold F_X8_init
  refine T_aload_n C.1 dX8_init_0 0 rfl ?_
  refine T_objInit C.1 dX8_init_1 wm_1_19 wm_1_20 wm_1_21 (by decide) (by decide) ?_
  refine T_aload_n C.1 dX8_init_4 0 rfl ?_
  refine T_new (a := 2) (ci := 4) C.1 dX8_init_5 (by omega) wm_1_22 wm_1_23 wm_1_2 rfl tyX4_ok (by decide) inX4 sh2 (by decide) (by decide) (fun _ => trivial) (fun m1 => ?_)
  refine T_dup C.1 dX8_init_8 rfl ?_
  refine T_callI (rm := rm_X4_init) (n2 := 10) (mc := 8) (ms := 522) [] [.ref (cx.2.2.1 + 2), .ref (cx.2.2.1 + 1)] C.1 dX8_init_9 mw_X4_init rfl wm_1_24 wm_1_25 ⟨⟨Nat.le_of_ble_eq_true rfl, Nat.le_of_ble_eq_true rfl⟩, rfl, rfl, by decide, by decide, (by omega)⟩ rfl rfl (Nat.le_of_ble_eq_true rfl) (c_X4_init ll cx m1) (fun m2 _ => ?_)
  refine T_putFR (x := 2) C.1 C.2.2.2 (fun _ _ _ _ => rfl) (fun _ => rfl) (fun _ => rfl) fd_X8_10 (by intro Cq Tq hq; cases hq; rfl) sh1 (by decide) (shp_pk sh2 (by decide)) (fun _ => trivial) dX8_init_12 (fun m3 => ?_)
  refine T_aload_n C.1 dX8_init_15 0 rfl ?_
  refine T_new (a := 11) (ci := 1) C.1 dX8_init_16 (by omega) wm_1_92 wm_1_93 wm_1_5 rfl tyX1_ok (by decide) inX1 sh11 (by decide) (by decide) (fun _ => trivial) (fun m4 => ?_)
  refine T_dup C.1 dX8_init_19 rfl ?_
  refine T_callN (rm := rm_X1_init) (n2 := 15) (mc := 4) (ms := 160) [] [.ref (cx.2.2.1 + 11), .ref (cx.2.2.1 + 1)] C.1 dX8_init_20 mw_X1_init rfl (fun h => h.2.1) wm_1_95 ⟨⟨Nat.le_of_ble_eq_true rfl, Nat.le_of_ble_eq_true rfl⟩, rfl, rfl, by decide, by decide, (by omega)⟩ rfl rfl (Nat.le_of_ble_eq_true rfl) (c_X1_init ll cx m4) (fun m5 _ => ?_)
  refine T_putFR (x := 11) C.1 C.2.2.2 (fun _ _ _ _ => rfl) (fun _ => rfl) (fun _ => rfl) fd_X8_19 (by intro Cq Tq hq; cases hq; rfl) sh1 (by decide) (shp_pk sh11 (by decide)) (fun _ => trivial) dX8_init_23 (fun m6 => ?_)
  refine T_aload_n C.1 dX8_init_26 0 rfl ?_
  refine T_new (a := 16) (ci := 6) C.1 dX8_init_27 (by omega) wm_1_118 wm_1_119 wm_1_6 rfl tyX6_ok (by decide) inX6 sh16 (by decide) (by decide) (fun _ => trivial) (fun m7 => ?_)
  refine T_dup C.1 dX8_init_30 rfl ?_
  refine T_callN (rm := rm_X6_init) (n2 := 22) (mc := 6) (ms := 495) [] [.ref (cx.2.2.1 + 16), .ref (cx.2.2.1 + 1)] C.1 dX8_init_31 mw_X6_init rfl (fun h => h.2.2.1) wm_1_121 ⟨⟨Nat.le_of_ble_eq_true rfl, Nat.le_of_ble_eq_true rfl⟩, rfl, rfl, by decide, by decide, (by omega)⟩ rfl rfl (Nat.le_of_ble_eq_true rfl) (c_X6_init ll cx m7) (fun m8 _ => ?_)
  refine T_putFR (x := 16) C.1 C.2.2.2 (fun _ _ _ _ => rfl) (fun _ => rfl) (fun _ => rfl) fd_X8_26 (by intro Cq Tq hq; cases hq; rfl) sh1 (by decide) (shp_pk sh16 (by decide)) (fun _ => trivial) dX8_init_34 (fun m9 => ?_)
  refine T_aload_n C.1 dX8_init_37 0 rfl ?_
  refine T_new (a := 23) (ci := 2) C.1 dX8_init_38 (by omega) wm_1_143 wm_1_144 wm_1_7 rfl tyX2_ok (by decide) inX2 sh23 (by decide) (by decide) (fun _ => trivial) (fun m10 => ?_)
  refine T_dup C.1 dX8_init_41 rfl ?_
  refine T_callI (rm := rm_X2_init) (n2 := 27) (mc := 4) (ms := 28) [] [.ref (cx.2.2.1 + 23), .ref (cx.2.2.1 + 1)] C.1 dX8_init_42 mw_X2_init rfl wm_1_145 wm_1_146 ⟨⟨Nat.le_of_ble_eq_true rfl, Nat.le_of_ble_eq_true rfl⟩, rfl, rfl, by decide, by decide, (by omega)⟩ rfl rfl (Nat.le_of_ble_eq_true rfl) (c_X2_init ll cx 23 m10) (fun m11 _ => ?_)
  refine T_putFR (x := 23) C.1 C.2.2.2 (fun _ _ _ _ => rfl) (fun _ => rfl) (fun _ => rfl) fd_X8_33 (by intro Cq Tq hq; cases hq; rfl) sh1 (by decide) (shp_pk sh23 (by decide)) (fun _ => trivial) dX8_init_45 (fun m12 => ?_)
  refine T_aload_n C.1 dX8_init_48 0 rfl ?_
  refine T_new (a := 28) (ci := 2) C.1 dX8_init_49 (by omega) wm_1_143 wm_1_144 wm_1_7 rfl tyX2_ok (by decide) inX2 sh28 (by decide) (by decide) (fun _ => trivial) (fun m13 => ?_)
  refine T_dup C.1 dX8_init_52 rfl ?_
  refine T_callI (rm := rm_X2_init) (n2 := 32) (mc := 4) (ms := 28) [] [.ref (cx.2.2.1 + 28), .ref (cx.2.2.1 + 1)] C.1 dX8_init_53 mw_X2_init rfl wm_1_145 wm_1_146 ⟨⟨Nat.le_of_ble_eq_true rfl, Nat.le_of_ble_eq_true rfl⟩, rfl, rfl, by decide, by decide, (by omega)⟩ rfl rfl (Nat.le_of_ble_eq_true rfl) (c_X2_init ll cx 28 m13) (fun m14 _ => ?_)
  refine T_putFR (x := 28) C.1 C.2.2.2 (fun _ _ _ _ => rfl) (fun _ => rfl) (fun _ => rfl) fd_X8_37 (by intro Cq Tq hq; cases hq; rfl) sh1 (by decide) (shp_pk sh28 (by decide)) (fun _ => trivial) dX8_init_56 (fun m15 => ?_)
  refine T_aload_n C.1 dX8_init_59 0 rfl ?_
  refine T_new (a := 33) (ci := 7) C.1 dX8_init_60 (by omega) wm_1_197 wm_1_198 wm_1_8 rfl tyX7_ok (by decide) inX7 sh33 (by decide) (by decide) (fun _ => trivial) (fun m16 => ?_)
  refine T_dup C.1 dX8_init_63 rfl ?_
  refine T_aload_n C.1 dX8_init_64 0 rfl ?_
  refine T_getE (x := 2) C.1 fd_X8_10 (fun _ _ _ _ => rfl) sh1 (by decide) (shp_pk sh2 (by decide)) dX8_init_65 ?_
  refine T_callI (rm := rm_X7_init) (n2 := 99) (mc := 66) (ms := 639) [.ref (cx.2.2.1 + 2)] [.ref (cx.2.2.1 + 33), .ref (cx.2.2.1 + 1)] C.1 dX8_init_68 mw_X7_init rfl wm_1_199 wm_1_200 ⟨⟨Nat.le_of_ble_eq_true rfl, Nat.le_of_ble_eq_true rfl⟩, rfl, rfl, by decide, by decide, (by omega)⟩ rfl rfl (Nat.le_of_ble_eq_true rfl) (c_X7_init ll cx m16) (fun m17 _ => ?_)
  refine T_putFR (x := 33) C.1 C.2.2.2 (fun _ _ _ _ => rfl) (fun _ => rfl) (fun _ => rfl) fd_X8_45 (by intro Cq Tq hq; cases hq; rfl) sh1 (by decide) (shp_pk sh33 (by decide)) (fun _ => trivial) dX8_init_71 (fun m18 => ?_)
  refine T_aload_n C.1 dX8_init_74 0 rfl ?_
  refine T_new (a := 100) (ci := 0) C.1 dX8_init_75 (by omega) wm_1_237 wm_1_238 wm_1_9 rfl tyX0_ok (by decide) inX0 sh100 (by decide) (by decide) (fun _ => trivial) (fun m19 => ?_)
  refine T_dup C.1 dX8_init_78 rfl ?_
  refine T_callN (rm := rm_X0_init) (n2 := 102) (mc := 2) (ms := 74) [] [.ref (cx.2.2.1 + 100), .ref (cx.2.2.1 + 1)] C.1 dX8_init_79 mw_X0_init rfl (fun h => h.2.2.2) wm_2_0 ⟨⟨Nat.le_of_ble_eq_true rfl, Nat.le_of_ble_eq_true rfl⟩, rfl, rfl, by decide, by decide, (by omega)⟩ rfl rfl (Nat.le_of_ble_eq_true rfl) (c_X0_init ll cx m19) (fun m20 _ => ?_)
  refine T_putFR (x := 100) C.1 C.2.2.2 (fun _ _ _ _ => rfl) (fun _ => rfl) (fun _ => rfl) fd_X8_52 (by intro Cq Tq hq; cases hq; rfl) sh1 (by decide) (shp_pk sh100 (by decide)) (fun _ => trivial) dX8_init_82 (fun m21 => ?_)
  refine T_aload_n C.1 dX8_init_85 0 rfl ?_
  refine T_new (a := 103) (ci := 5) C.1 dX8_init_86 (by omega) wm_2_21 wm_2_22 wm_1_10 rfl tyX5_ok (by decide) inX5 sh103 (by decide) (by decide) (fun _ => trivial) (fun m22 => ?_)
  refine T_dup C.1 dX8_init_89 rfl ?_
  refine T_callI (rm := rm_X5_init) (n2 := 112) (mc := 9) (ms := 378) [] [.ref (cx.2.2.1 + 103), .ref (cx.2.2.1 + 1)] C.1 dX8_init_90 mw_X5_init rfl wm_2_23 wm_2_24 ⟨⟨Nat.le_of_ble_eq_true rfl, Nat.le_of_ble_eq_true rfl⟩, rfl, rfl, by decide, by decide, (by omega)⟩ rfl rfl (Nat.le_of_ble_eq_true rfl) (c_X5_init ll cx m22) (fun m23 _ => ?_)
  refine T_putFR (x := 103) C.1 C.2.2.2 (fun _ _ _ _ => rfl) (fun _ => rfl) (fun _ => rfl) fd_X8_59 (by intro Cq Tq hq; cases hq; rfl) sh1 (by decide) (shp_pk sh103 (by decide)) (fun _ => trivial) dX8_init_93 (fun m24 => ?_)
  refine T_aload_n C.1 dX8_init_96 0 rfl ?_
  refine T_iconst C.1 dX8_init_97 ?_
  refine T_putI C.1 LyI_T fd_X8_63 sh1 (by decide) dX8_init_98 (fun m25 => ?_)
  exact T_vret C.1 C.2.1 C.2.2.1 dX8_init_101
