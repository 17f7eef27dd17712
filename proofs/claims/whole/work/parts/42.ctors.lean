/-! CONSTRUCTORS: printed by wip/whole/gen/ctor.py -/
def CM3 (p : Program) (s : State) (m : MethodId) (args : Array Value) (meth : Method) (c : Code) (cc : ByteArray) (nL : Nat) (own : String) (cx : CX) (ret : Option FieldType) : Prop := Kx p s m args c cc nL own cx ∧ meth.sig.returnType = ret ∧ meth.locks = false ∧ meth.name = "<init>"
def gdE {β : Type} (x v : Nat) (G : Option β) : Option β := if v = x then G else none
section TD
variable {β : Type} {p : Program} {l : Launch} {e : Env} {R : Room} {s : State} {m : MethodId} {args : Array Value} {below : List Frame} {meth : Method} {c : Code} {nL : Nat} {cx : CX} {n : Nat} {Ly : Mm → Prop} {cells slots : Nat} {Q : β → Mm → State → Prop} {pc : Nat} {lv : List (Nat × Value)} {st : List Value} {μ : Mm} {F : Option (β × Mm)} {cc : ByteArray} {own : String}
theorem T_getE (K : Kx p s m args c cc nL own cx) {ci j a ix x : Nat} {ty : FieldType} {fin : Bool} (hF : FD ci j own ix ty fin) (hI : ∀ b fi fl fr, fV b fi fl fr j ty = rV b (fr j)) (hs : shp a = (9, ci)) (ha : a ≤ n) (hx : x ≠ 0) (hdg : decode cc pc = .ok (.getfield ix, 3)) (k : T p l e R s m args below meth c nL cx n Ly cells slots Q (pc + 3) lv (.ref (cx.2.2.1 + x) :: st) μ F) : T p l e R s m args below meth c nL cx n Ly cells slots Q pc lv (.ref (cx.2.2.1 + a) :: st) μ (gdE x (gR μ a j) F) := by
  unfold gdE
  refine T_if (fun h => ?_) (fun _ => T_none)
  exact T_getV K hF hs ha (fun _ => by rw [hI, h, rV_pos hx]) hdg k
theorem T_geN (K : Kx p s m args c cc nL own cx) {x y : Int32} {off : Int} {tgt : Nat} (hdg : decode cc pc = .ok (.if_icmp .ge off, 3)) (ht : (pc : Int) + off = (tgt : Int)) (hc : ¬ y ≤ x) (k : T p l e R s m args below meth c nL cx n Ly cells slots Q (pc + 3) lv st μ F) : T p l e R s m args below meth c nL cx n Ly cells slots Q pc lv (.int y :: .int x :: st) μ F := by
  have h := T_icmp_ge (x := x) (y := y) (A := none) (B := F) K hdg ht T_none k
  rwa [if_neg hc] at h
theorem T_geY (K : Kx p s m args c cc nL own cx) {x y : Int32} {off : Int} {tgt : Nat} (hdg : decode cc pc = .ok (.if_icmp .ge off, 3)) (ht : (pc : Int) + off = (tgt : Int)) (hc : y ≤ x) (k : T p l e R s m args below meth c nL cx n Ly cells slots Q tgt lv st μ F) : T p l e R s m args below meth c nL cx n Ly cells slots Q pc lv (.int y :: .int x :: st) μ F := by
  have h := T_icmp_ge (x := x) (y := y) (A := F) (B := none) K hdg ht k T_none
  rwa [if_pos hc] at h
end TD
set_option maxRecDepth 100000 in
set_option maxHeartbeats 4000000 in
theorem g_fill_5 {pp : Program} {ll : Launch} {ee : Env} {ss : State} {mm : MethodId} {aa : Array Value} {bb : List Frame} {me : Method} {co : Code} {cx : CX} {n : Nat} {Ly : Mm → Prop} (hLI : LyI Ly) {r1 : Nat} (hrn : r1 ≤ n) (C : CM pp ss mm aa me co cJ7_fill_53178 4 RJ7 cx (none)) (hr1 : shp r1 = (1, (shp r1).2)) : ∀ (f : Nat) (a1 : Int32) (a2 : Int32) (a3 : Int32) (m : Mm), T pp ll ee rm_J7_fill_53178 ss mm aa bb me co 4 cx n Ly 0 0 (fun (r : Unit) μ1 => MQ bb (QcM cx n Ly (cvV r) μ1) aa ss 0 0 (fun q => cx.2.2.1 < q)) 5 [(0, .ref (cx.2.2.1 + r1)), (1, .int a1), (2, .int a2), (3, .int a3)] [] m (F_J7_fill_53178_5 r1 f a1 a2 a3 m) := by
  intro f
  induction f with
  | zero => exact fun _ _ _ _ => T_none
  | succ f ih =>
    intro a1 a2 a3 m
    unfold F_J7_fill_53178_5
    refine T_iload_n C.1 dJ7_fill_53178_5 2 rfl ?_
    refine T_iload_n C.1 dJ7_fill_53178_6 3 rfl ?_
    refine T_icmp_ge (tgt := 20) C.1 dJ7_fill_53178_7 (by decide) ?_ ?_
    · exact T_vret C.1 C.2.1 C.2.2 dJ7_fill_53178_20
    · refine T_aload_n C.1 dJ7_fill_53178_10 0 rfl ?_
      refine T_iload_n C.1 dJ7_fill_53178_11 2 rfl ?_
      refine T_iload_n C.1 dJ7_fill_53178_12 1 rfl ?_
      refine T_iast C.1 hLI hr1 hrn dJ7_fill_53178_13 (fun m1 => ?_)
      refine T_iincN C.1 (fun v2 => [(2, .int v2), (0, .ref (cx.2.2.1 + r1)), (1, .int a1), (3, .int a3)]) dJ7_fill_53178_14 2 rfl (by decide) (fun _ => rfl) (fun v2 => ?_)
      refine T_goto (tgt := 5) C.1 dJ7_fill_53178_17 (by decide) ?_
      exact T_sub [1, 2, 0, 3] rfl (ih a1 v2 a3 m1)
set_option maxRecDepth 100000 in
set_option maxHeartbeats 4000000 in
theorem g_fill (ll : Launch) (cx : CX) {n : Nat} {Ly : Mm → Prop} (hLI : LyI Ly) {r1 : Nat} (hrn : r1 ≤ n) (x2 : Int32) (m : Mm) : MT ll yJ7_fill_53178 cJ7_fill_53178 4 (none) rm_J7_fill_53178 cx n n Ly cvV 0 0 [.ref (cx.2.2.1 + r1), .int x2] m (F_J7_fill_53178 r1 x2 m) := by
  refine MT_of (by decide) (Nat.le_of_ble_eq_true rfl) ?_
  intro pp ee ss mm aa bb me co hK hr hk hn
  have C : CM pp ss mm aa me co cJ7_fill_53178 4 RJ7 cx (none) := ⟨hK, hr, hk⟩
  show T pp ll ee rm_J7_fill_53178 ss mm aa bb me co 4 cx n Ly 0 0 (fun (r : Unit) μ1 => MQ bb (QcM cx n Ly (cvV r) μ1) aa ss 0 0 (fun q => cx.2.2.1 < q)) 0 [(0, .ref (cx.2.2.1 + r1)), (1, .int x2)] [] m (F_J7_fill_53178 r1 x2 m)
  unfold F_J7_fill_53178
  refine T_if (fun hr1 => ?_) (fun _ => T_none)
  have hr1 := shp_any hr1
  refine T_iconst C.1 dJ7_fill_53178_0 ?_
  refine T_istore_n (lv' := [(2, .int (iI 0)), (0, .ref (cx.2.2.1 + r1)), (1, .int x2)]) C.1 dJ7_fill_53178_1 (by decide) rfl ?_
  refine T_aload_n C.1 dJ7_fill_53178_2 1 rfl ?_
  refine T_alen C.1 dJ7_fill_53178_3 hr1 hrn ?_
  refine T_istore_nN C.1 (fun v1 => [(3, .int v1), (2, .int (iI 0)), (0, .ref (cx.2.2.1 + r1)), (1, .int x2)]) dJ7_fill_53178_4 (by decide) (fun _ => rfl) (fun v1 => ?_)
  exact T_sub [2, 3, 1, 0] rfl (g_fill_5 hLI hrn C hr1 FU x2 (iI 0) v1 m)

def rm_X3_init : Room := { frames := 1, cells := 4, slots := 369, locals := 40 }
def F_X3_init (t : Nat) (m : Mm) : Option (Unit × Mm) :=
  (if shp t = (9, 3) then
  nm (clr m (t + 1)) fun m1 =>
  nm (pR m1 t 0 (t + 1)) fun m2 =>
  nm (clr m2 (t + 2)) fun m3 =>
  nm (pR m3 t 1 (t + 2)) fun m4 =>
  nm (pI m4 t 2 (iI 0)) fun m5 =>
  nm (pI m5 t 3 (iI (-1))) fun m6 =>
  nm (clr m6 (t + 3)) fun m7 =>
  nm (pR m7 t 4 (t + 3)) fun m8 =>
  nm (clr m8 (t + 4)) fun m9 =>
  nm (pR m9 t 5 (t + 4)) fun m10 =>
  gdE (t + 1) (gR m10 t 0) <|
  wrI 121 m10 (t + 1) (iI 0) (nC (iI 36)) fun m11 =>
  gdE (t + 2) (gR m11 t 1) <|
  wrI 121 m11 (t + 2) (iI 0) (iI 0) fun m12 =>
  gdE (t + 1) (gR m12 t 0) <|
  wrI 121 m12 (t + 1) (iI 1) (nC (iI 59)) fun m13 =>
  nm (pI m13 t 2 (iI 2)) fun m14 =>
  some ((), m14)
  else none)
set_option maxRecDepth 100000 in
set_option maxHeartbeats 8000000 in
theorem c_X3_init (ll : Launch) (cx : CX) (t : Nat) (m : Mm) : MT ll yX3_init cX3_init 1 none rm_X3_init cx t (t + 4) (fun _ => True) cvV 4 369 [.ref (cx.2.2.1 + t)] m (F_X3_init t m) := by
  refine MT_of (by decide) (Nat.le_of_ble_eq_true rfl) ?_
  intro pp ee ss mm aa bb me co hK hr hk hn
  have C : CM3 pp ss mm aa me co cX3_init 1 RX3 cx none := ⟨hK, hr, hk, hn⟩
  show T pp ll ee rm_X3_init ss mm aa bb me co 1 cx t (fun _ => True) 0 0 _ 0 [(0, .ref (cx.2.2.1 + t))] [] m (F_X3_init t m)
  unfold F_X3_init
  refine T_if (fun ht => ?_) (fun _ => T_none)
  refine T_aload_n C.1 dX3_init_0 0 rfl ?_
  refine T_objInit C.1 dX3_init_1 wm_1_34 wm_1_21 wm_1_22 (by decide) (by decide) ?_
  refine T_aload_n C.1 dX3_init_4 0 rfl ?_
  refine T_bipush C.1 dX3_init_5 rfl ?_
  refine T_newa3 (a := (t + 1)) (len := 121) C.1 dX3_init_7 (by omega) wm_1_55 (shr_3_1 ht) (by decide) (by decide) (by decide) (by decide) (by decide) (fun _ => trivial) (fun m1 => ?_)
  refine T_putFR (x := (t + 1)) C.1 C.2.2.2 (fun _ _ _ _ => rfl) (fun _ => rfl) (fun _ => rfl) fd_X3_11 (by intro Cq Tq hq; cases hq; rfl) ht (by omega) (shp_pk (shr_3_1 ht) (by decide)) (fun _ => trivial) dX3_init_9 (fun m2 => ?_)
  refine T_aload_n C.1 dX3_init_12 0 rfl ?_
  refine T_bipush C.1 dX3_init_13 rfl ?_
  refine T_newa1 (a := (t + 2)) (len := 121) C.1 dX3_init_15 (by omega) wm_1_54 (shr_3_2 ht) (by decide) (by decide) (by decide) (by decide) (by decide) (fun _ => trivial) (fun m3 => ?_)
  refine T_putFR (x := (t + 2)) C.1 C.2.2.2 (fun _ _ _ _ => rfl) (fun _ => rfl) (fun _ => rfl) fd_X3_15 (by intro Cq Tq hq; cases hq; rfl) ht (by omega) (shp_pk (shr_3_2 ht) (by decide)) (fun _ => trivial) dX3_init_17 (fun m4 => ?_)
  refine T_aload_n C.1 dX3_init_20 0 rfl ?_
  refine T_iconst C.1 dX3_init_21 ?_
  refine T_putI C.1 LyI_T fd_X3_19 ht (by omega) dX3_init_22 (fun m5 => ?_)
  refine T_aload_n C.1 dX3_init_25 0 rfl ?_
  refine T_iconst C.1 dX3_init_26 ?_
  refine T_putI C.1 LyI_T fd_X3_23 ht (by omega) dX3_init_27 (fun m6 => ?_)
  refine T_aload_n C.1 dX3_init_30 0 rfl ?_
  refine T_bipush C.1 dX3_init_31 rfl ?_
  refine T_newa1 (a := (t + 3)) (len := 121) C.1 dX3_init_33 (by omega) wm_1_54 (shr_3_3 ht) (by decide) (by decide) (by decide) (by decide) (by decide) (fun _ => trivial) (fun m7 => ?_)
  refine T_putFR (x := (t + 3)) C.1 C.2.2.2 (fun _ _ _ _ => rfl) (fun _ => rfl) (fun _ => rfl) fd_X3_26 (by intro Cq Tq hq; cases hq; rfl) ht (by omega) (shp_pk (shr_3_3 ht) (by decide)) (fun _ => trivial) dX3_init_35 (fun m8 => ?_)
  refine T_aload_n C.1 dX3_init_38 0 rfl ?_
  refine T_bipush C.1 dX3_init_39 rfl ?_
  refine T_newa1 (a := (t + 4)) (len := 6) C.1 dX3_init_41 (by omega) wm_1_54 (shr_3_4 ht) (by decide) (by decide) (by decide) (by decide) (by decide) (fun _ => trivial) (fun m9 => ?_)
  refine T_putFR (x := (t + 4)) C.1 C.2.2.2 (fun _ _ _ _ => rfl) (fun _ => rfl) (fun _ => rfl) fd_X3_29 (by intro Cq Tq hq; cases hq; rfl) ht (by omega) (shp_pk (shr_3_4 ht) (by decide)) (fun _ => trivial) dX3_init_43 (fun m10 => ?_)
  refine T_aload_n C.1 dX3_init_46 0 rfl ?_
  refine T_getE (x := (t + 1)) C.1 fd_X3_11 (fun _ _ _ _ => rfl) ht (by omega) (shp_pk (shr_3_1 ht) (by decide)) dX3_init_47 ?_
  refine T_iconst C.1 dX3_init_50 ?_
  refine T_bipush C.1 dX3_init_51 rfl ?_
  refine T_cast C.1 LyI_T (shr_3_1 ht) (by omega) dX3_init_53 (fun m11 => ?_)
  refine T_aload_n C.1 dX3_init_54 0 rfl ?_
  refine T_getE (x := (t + 2)) C.1 fd_X3_15 (fun _ _ _ _ => rfl) ht (by omega) (shp_pk (shr_3_2 ht) (by decide)) dX3_init_55 ?_
  refine T_iconst C.1 dX3_init_58 ?_
  refine T_iconst C.1 dX3_init_59 ?_
  refine T_iast C.1 LyI_T (shr_3_2 ht) (by omega) dX3_init_60 (fun m12 => ?_)
  refine T_aload_n C.1 dX3_init_61 0 rfl ?_
  refine T_getE (x := (t + 1)) C.1 fd_X3_11 (fun _ _ _ _ => rfl) ht (by omega) (shp_pk (shr_3_1 ht) (by decide)) dX3_init_62 ?_
  refine T_iconst C.1 dX3_init_65 ?_
  refine T_bipush C.1 dX3_init_66 rfl ?_
  refine T_cast C.1 LyI_T (shr_3_1 ht) (by omega) dX3_init_68 (fun m13 => ?_)
  refine T_aload_n C.1 dX3_init_69 0 rfl ?_
  refine T_iconst C.1 dX3_init_70 ?_
  refine T_putI C.1 LyI_T fd_X3_19 ht (by omega) dX3_init_71 (fun m14 => ?_)
  exact T_vret C.1 C.2.1 C.2.2.1 dX3_init_74
def rm_X4_init : Room := { frames := 2, cells := 8, slots := 522, locals := 63 }
def F_X4_init (m : Mm) : Option (Unit × Mm) :=
  nm (pI m 2 0 (iI 0)) fun m1 =>
  nm (clr m1 3) fun m2 =>
  nm (pR m2 2 1 3) fun m3 =>
  nm (clr m3 4) fun m4 =>
  nm (pR m4 2 2 4) fun m5 =>
  nm (clr m5 5) fun m6 =>
  nm (pR m6 2 3 5) fun m7 =>
  nm (pI m7 2 4 (iI 3)) fun m8 =>
  nm (pI m8 2 5 (iI 0)) fun m9 =>
  nm (clr m9 6) fun m10 =>
  bnd (F_X3_init 6 m10) fun _ m11 =>
  nm (pR m11 2 6 6) fun m12 =>
  gdE 4 (gR m12 2 2) <|
  bnd (F_J7_fill_53178 4 (iI 5) m12) fun _ m13 =>
  some ((), m13)
set_option maxRecDepth 100000 in
set_option maxHeartbeats 8000000 in
theorem c_X4_init (ll : Launch) (cx : CX) (m : Mm) : MT ll yX4_init cX4_init 1 none rm_X4_init cx 2 10 (fun _ => True) cvV 8 522 [.ref (cx.2.2.1 + 2)] m (F_X4_init m) := by
  refine MT_of (by decide) (Nat.le_of_ble_eq_true rfl) ?_
  intro pp ee ss mm aa bb me co hK hr hk hn
  have C : CM3 pp ss mm aa me co cX4_init 1 RX4 cx none := ⟨hK, hr, hk, hn⟩
  show T pp ll ee rm_X4_init ss mm aa bb me co 1 cx 2 (fun _ => True) 0 0 _ 0 [(0, .ref (cx.2.2.1 + 2))] [] m (F_X4_init m)
  unfold F_X4_init
  refine T_aload_n C.1 dX4_init_0 0 rfl ?_
  refine T_objInit C.1 dX4_init_1 wm_1_28 wm_1_21 wm_1_22 (by decide) (by decide) ?_
  refine T_aload_n C.1 dX4_init_4 0 rfl ?_
  refine T_iconst C.1 dX4_init_5 ?_
  refine T_putI C.1 LyI_T fd_X4_9 sh2 (by decide) dX4_init_6 (fun m1 => ?_)
  refine T_aload_n C.1 dX4_init_9 0 rfl ?_
  refine T_bipush C.1 dX4_init_10 rfl ?_
  refine T_newa1 (a := 3) (len := 70) C.1 dX4_init_12 (by omega) wm_1_54 sh3 (by decide) (by decide) (by decide) (by decide) (by decide) (fun _ => trivial) (fun m2 => ?_)
  refine T_putFR (x := 3) C.1 C.2.2.2 (fun _ _ _ _ => rfl) (fun _ => rfl) (fun _ => rfl) fd_X4_15 (by intro Cq Tq hq; cases hq; rfl) sh2 (by decide) (shp_pk sh3 (by decide)) (fun _ => trivial) dX4_init_14 (fun m3 => ?_)
  refine T_aload_n C.1 dX4_init_17 0 rfl ?_
  refine T_bipush C.1 dX4_init_18 rfl ?_
  refine T_newa1 (a := 4) (len := 70) C.1 dX4_init_20 (by omega) wm_1_54 sh4 (by decide) (by decide) (by decide) (by decide) (by decide) (fun _ => trivial) (fun m4 => ?_)
  refine T_putFR (x := 4) C.1 C.2.2.2 (fun _ _ _ _ => rfl) (fun _ => rfl) (fun _ => rfl) fd_X4_19 (by intro Cq Tq hq; cases hq; rfl) sh2 (by decide) (shp_pk sh4 (by decide)) (fun _ => trivial) dX4_init_22 (fun m5 => ?_)
  refine T_aload_n C.1 dX4_init_25 0 rfl ?_
  refine T_bipush C.1 dX4_init_26 rfl ?_
  refine T_newa1 (a := 5) (len := 7) C.1 dX4_init_28 (by omega) wm_1_54 sh5 (by decide) (by decide) (by decide) (by decide) (by decide) (fun _ => trivial) (fun m6 => ?_)
  refine T_putFR (x := 5) C.1 C.2.2.2 (fun _ _ _ _ => rfl) (fun _ => rfl) (fun _ => rfl) fd_X4_22 (by intro Cq Tq hq; cases hq; rfl) sh2 (by decide) (shp_pk sh5 (by decide)) (fun _ => trivial) dX4_init_30 (fun m7 => ?_)
  refine T_aload_n C.1 dX4_init_33 0 rfl ?_
  refine T_iconst C.1 dX4_init_34 ?_
  refine T_putI C.1 LyI_T fd_X4_25 sh2 (by decide) dX4_init_35 (fun m8 => ?_)
  refine T_aload_n C.1 dX4_init_38 0 rfl ?_
  refine T_iconst C.1 dX4_init_39 ?_
  refine T_putI C.1 LyI_T fd_X4_28 sh2 (by decide) dX4_init_40 (fun m9 => ?_)
  refine T_aload_n C.1 dX4_init_43 0 rfl ?_
  refine T_new (a := 6) (ci := 3) C.1 dX4_init_44 (by omega) wm_1_29 wm_1_30 wm_1_3 rfl tyX3_ok (by decide) inX3 sh6 (by decide) (by decide) (fun _ => trivial) (fun m10 => ?_)
  refine T_dup C.1 dX4_init_47 rfl ?_
  refine T_callI (rm := rm_X3_init) (n2 := 10) (mc := 4) (ms := 369) [] [.ref (cx.2.2.1 + 6), .ref (cx.2.2.1 + 2)] C.1 dX4_init_48 mw_X3_init rfl wm_1_31 wm_1_32 ⟨⟨Nat.le_of_ble_eq_true rfl, Nat.le_of_ble_eq_true rfl⟩, rfl, rfl, by decide, by decide, (by omega)⟩ rfl rfl (Nat.le_of_ble_eq_true rfl) (c_X3_init ll cx 6 m10) (fun m11 _ => ?_)
  refine T_putD (x := 6) C.1 (fun _ _ _ _ => rfl) (fun _ => rfl) (fun _ => rfl) fd_X4_34 sh2 (by decide) (shp_pk sh6 (by decide)) (fun _ _ _ => trivial) dX4_init_51 (fun m12 => ?_)
  refine T_aload_n C.1 dX4_init_54 0 rfl ?_
  refine T_getE (x := 4) C.1 fd_X4_19 (fun _ _ _ _ => rfl) sh2 (by decide) (shp_pk sh4 (by decide)) dX4_init_55 ?_
  refine T_iconst C.1 dX4_init_58 ?_
  refine T_callSV (rm := rm_J7_fill_53178) [.ref (cx.2.2.1 + 4), .int (iI 5)] [] C.1 dX4_init_59 mw_J7_fill_53178 wm_1_56 wm_1_57 ⟨Nat.le_of_ble_eq_true rfl, Nat.le_of_ble_eq_true rfl⟩ ⟨rfl, rfl⟩ ⟨by decide, by decide⟩ rfl rfl (Nat.le_of_ble_eq_true rfl) (g_fill ll cx LyI_T (n := 10) (r1 := 4) (by decide) (iI 5) m12) (fun _ m13 => ?_)
  exact T_vret C.1 C.2.1 C.2.2.1 dX4_init_62
def rm_X1_init : Room := { frames := 1, cells := 4, slots := 160, locals := 40 }
def F_X1_init (m : Mm) : Option (Unit × Mm) :=
  nm (clr m 12) fun m1 =>
  nm (pR m1 11 0 12) fun m2 =>
  nm (clr m2 13) fun m3 =>
  nm (pR m3 11 1 13) fun m4 =>
  nm (clr m4 14) fun m5 =>
  nm (pR m5 11 2 14) fun m6 =>
  nm (clr m6 15) fun m7 =>
  nm (pR m7 11 3 15) fun m8 =>
  nm (pI m8 11 4 (iI 0)) fun m9 =>
  nm (pI m9 11 5 (iI 0)) fun m10 =>
  some ((), m10)
set_option maxRecDepth 100000 in
set_option maxHeartbeats 8000000 in
theorem c_X1_init (ll : Launch) (cx : CX) (m : Mm) : MT ll yX1_init cX1_init 1 none rm_X1_init cx 11 15 (fun _ => True) cvV 4 160 [.ref (cx.2.2.1 + 11)] m (F_X1_init m) := by
  refine MT_of (by decide) (Nat.le_of_ble_eq_true rfl) ?_
  intro pp ee ss mm aa bb me co hK hr hk hn
  have C : CM3 pp ss mm aa me co cX1_init 1 RX1 cx none := ⟨hK, hr, hk, hn⟩
  show T pp ll ee rm_X1_init ss mm aa bb me co 1 cx 11 (fun _ => True) 0 0 _ 0 [(0, .ref (cx.2.2.1 + 11))] [] m (F_X1_init m)
  unfold F_X1_init
  refine T_aload_n C.1 dX1_init_0 0 rfl ?_
  refine T_objInit C.1 dX1_init_1 wm_1_98 wm_1_21 wm_1_22 (by decide) (by decide) ?_
  refine T_aload_n C.1 dX1_init_4 0 rfl ?_
  refine T_bipush C.1 dX1_init_5 rfl ?_
  refine T_newa1 (a := 12) (len := 40) C.1 dX1_init_7 (by omega) wm_1_54 sh12 (by decide) (by decide) (by decide) (by decide) (by decide) (fun _ => trivial) (fun m1 => ?_)
  refine T_putFR (x := 12) C.1 C.2.2.2 (fun _ _ _ _ => rfl) (fun _ => rfl) (fun _ => rfl) fd_X1_9 (by intro Cq Tq hq; cases hq; rfl) sh11 (by decide) (shp_pk sh12 (by decide)) (fun _ => trivial) dX1_init_9 (fun m2 => ?_)
  refine T_aload_n C.1 dX1_init_12 0 rfl ?_
  refine T_bipush C.1 dX1_init_13 rfl ?_
  refine T_newa1 (a := 13) (len := 40) C.1 dX1_init_15 (by omega) wm_1_54 sh13 (by decide) (by decide) (by decide) (by decide) (by decide) (fun _ => trivial) (fun m3 => ?_)
  refine T_putFR (x := 13) C.1 C.2.2.2 (fun _ _ _ _ => rfl) (fun _ => rfl) (fun _ => rfl) fd_X1_13 (by intro Cq Tq hq; cases hq; rfl) sh11 (by decide) (shp_pk sh13 (by decide)) (fun _ => trivial) dX1_init_17 (fun m4 => ?_)
  refine T_aload_n C.1 dX1_init_20 0 rfl ?_
  refine T_bipush C.1 dX1_init_21 rfl ?_
  refine T_newa1 (a := 14) (len := 40) C.1 dX1_init_23 (by omega) wm_1_54 sh14 (by decide) (by decide) (by decide) (by decide) (by decide) (fun _ => trivial) (fun m5 => ?_)
  refine T_putFR (x := 14) C.1 C.2.2.2 (fun _ _ _ _ => rfl) (fun _ => rfl) (fun _ => rfl) fd_X1_16 (by intro Cq Tq hq; cases hq; rfl) sh11 (by decide) (shp_pk sh14 (by decide)) (fun _ => trivial) dX1_init_25 (fun m6 => ?_)
  refine T_aload_n C.1 dX1_init_28 0 rfl ?_
  refine T_bipush C.1 dX1_init_29 rfl ?_
  refine T_newa1 (a := 15) (len := 40) C.1 dX1_init_31 (by omega) wm_1_54 sh15 (by decide) (by decide) (by decide) (by decide) (by decide) (fun _ => trivial) (fun m7 => ?_)
  refine T_putFR (x := 15) C.1 C.2.2.2 (fun _ _ _ _ => rfl) (fun _ => rfl) (fun _ => rfl) fd_X1_19 (by intro Cq Tq hq; cases hq; rfl) sh11 (by decide) (shp_pk sh15 (by decide)) (fun _ => trivial) dX1_init_33 (fun m8 => ?_)
  refine T_aload_n C.1 dX1_init_36 0 rfl ?_
  refine T_iconst C.1 dX1_init_37 ?_
  refine T_putI C.1 LyI_T fd_X1_22 sh11 (by decide) dX1_init_38 (fun m9 => ?_)
  refine T_aload_n C.1 dX1_init_41 0 rfl ?_
  refine T_iconst C.1 dX1_init_42 ?_
  refine T_putI C.1 LyI_T fd_X1_26 sh11 (by decide) dX1_init_43 (fun m10 => ?_)
  exact T_vret C.1 C.2.1 C.2.2.1 dX1_init_46
def rm_X6_init : Room := { frames := 2, cells := 6, slots := 495, locals := 60 }
def F_X6_init (m : Mm) : Option (Unit × Mm) :=
  nm (clr m 17) fun m1 =>
  nm (pR m1 16 0 17) fun m2 =>
  nm (pI m2 16 1 (iI 0)) fun m3 =>
  nm (pI m3 16 2 (iI 0)) fun m4 =>
  nm (pI m4 16 3 (iI (-1))) fun m5 =>
  nm (clr m5 18) fun m6 =>
  bnd (F_X3_init 18 m6) fun _ m7 =>
  nm (pR m7 16 4 18) fun m8 =>
  some ((), m8)
set_option maxRecDepth 100000 in
set_option maxHeartbeats 8000000 in
theorem c_X6_init (ll : Launch) (cx : CX) (m : Mm) : MT ll yX6_init cX6_init 1 none rm_X6_init cx 16 22 (fun _ => True) cvV 6 495 [.ref (cx.2.2.1 + 16)] m (F_X6_init m) := by
  refine MT_of (by decide) (Nat.le_of_ble_eq_true rfl) ?_
  intro pp ee ss mm aa bb me co hK hr hk hn
  have C : CM3 pp ss mm aa me co cX6_init 1 RX6 cx none := ⟨hK, hr, hk, hn⟩
  show T pp ll ee rm_X6_init ss mm aa bb me co 1 cx 16 (fun _ => True) 0 0 _ 0 [(0, .ref (cx.2.2.1 + 16))] [] m (F_X6_init m)
  unfold F_X6_init
  refine T_aload_n C.1 dX6_init_0 0 rfl ?_
  refine T_objInit C.1 dX6_init_1 wm_1_125 wm_1_21 wm_1_22 (by decide) (by decide) ?_
  refine T_aload_n C.1 dX6_init_4 0 rfl ?_
  refine T_bipush C.1 dX6_init_5 rfl ?_
  refine T_newa3 (a := 17) (len := 120) C.1 dX6_init_7 (by omega) wm_1_55 sh17 (by decide) (by decide) (by decide) (by decide) (by decide) (fun _ => trivial) (fun m1 => ?_)
  refine T_putFR (x := 17) C.1 C.2.2.2 (fun _ _ _ _ => rfl) (fun _ => rfl) (fun _ => rfl) fd_X6_9 (by intro Cq Tq hq; cases hq; rfl) sh16 (by decide) (shp_pk sh17 (by decide)) (fun _ => trivial) dX6_init_9 (fun m2 => ?_)
  refine T_aload_n C.1 dX6_init_12 0 rfl ?_
  refine T_iconst C.1 dX6_init_13 ?_
  refine T_putI C.1 LyI_T fd_X6_15 sh16 (by decide) dX6_init_14 (fun m3 => ?_)
  refine T_aload_n C.1 dX6_init_17 0 rfl ?_
  refine T_iconst C.1 dX6_init_18 ?_
  refine T_putI C.1 LyI_T fd_X6_19 sh16 (by decide) dX6_init_19 (fun m4 => ?_)
  refine T_aload_n C.1 dX6_init_22 0 rfl ?_
  refine T_iconst C.1 dX6_init_23 ?_
  refine T_putI C.1 LyI_T fd_X6_22 sh16 (by decide) dX6_init_24 (fun m5 => ?_)
  refine T_aload_n C.1 dX6_init_27 0 rfl ?_
  refine T_new (a := 18) (ci := 3) C.1 dX6_init_28 (by omega) wm_1_126 wm_1_30 wm_1_3 rfl tyX3_ok (by decide) inX3 sh18 (by decide) (by decide) (fun _ => trivial) (fun m6 => ?_)
  refine T_dup C.1 dX6_init_31 rfl ?_
  refine T_callI (rm := rm_X3_init) (n2 := 22) (mc := 4) (ms := 369) [] [.ref (cx.2.2.1 + 18), .ref (cx.2.2.1 + 16)] C.1 dX6_init_32 mw_X3_init rfl wm_1_127 wm_1_32 ⟨⟨Nat.le_of_ble_eq_true rfl, Nat.le_of_ble_eq_true rfl⟩, rfl, rfl, by decide, by decide, (by omega)⟩ rfl rfl (Nat.le_of_ble_eq_true rfl) (c_X3_init ll cx 18 m6) (fun m7 _ => ?_)
  refine T_putD (x := 18) C.1 (fun _ _ _ _ => rfl) (fun _ => rfl) (fun _ => rfl) fd_X6_28 sh16 (by decide) (shp_pk sh18 (by decide)) (fun _ _ _ => trivial) dX6_init_35 (fun m8 => ?_)
  exact T_vret C.1 C.2.1 C.2.2.1 dX6_init_38
def rm_X2_init : Room := { frames := 2, cells := 4, slots := 28, locals := 63 }
def F_X2_init (t : Nat) (m : Mm) : Option (Unit × Mm) :=
  (if shp t = (9, 2) then
  nm (clr m (t + 1)) fun m1 =>
  nm (pR m1 t 0 (t + 1)) fun m2 =>
  nm (clr m2 (t + 2)) fun m3 =>
  nm (pR m3 t 1 (t + 2)) fun m4 =>
  nm (clr m4 (t + 3)) fun m5 =>
  nm (pR m5 t 2 (t + 3)) fun m6 =>
  nm (clr m6 (t + 4)) fun m7 =>
  nm (pR m7 t 3 (t + 4)) fun m8 =>
  nm (pI m8 t 4 (iI 0)) fun m9 =>
  nm (pI m9 t 5 (iI (-1))) fun m10 =>
  nm (pI m10 t 6 (iI (-1))) fun m11 =>
  zb (iI 0) (nm (pI m11 t 7 (iI 0)) fun m12 =>
  nm (pI m12 t 8 (iI (-1))) fun m13 =>
  nm (pI m13 t 9 (iI (-1))) fun m14 =>
  nm (pI m14 t 10 (iI 0)) fun m15 =>
  gdE (t + 2) (gR m15 t 1) <|
  bnd (F_J7_fill_53178 (t + 2) (iI (-1)) m15) fun _ m16 =>
  gdE (t + 3) (gR m16 t 2) <|
  bnd (F_J7_fill_53178 (t + 3) (iI (-1)) m16) fun _ m17 =>
  some ((), m17))
  else none)
set_option maxRecDepth 100000 in
set_option maxHeartbeats 8000000 in
theorem c_X2_init (ll : Launch) (cx : CX) (t : Nat) (m : Mm) : MT ll yX2_init cX2_init 1 none rm_X2_init cx t (t + 4) (fun _ => True) cvV 4 28 [.ref (cx.2.2.1 + t)] m (F_X2_init t m) := by
  refine MT_of (by decide) (Nat.le_of_ble_eq_true rfl) ?_
  intro pp ee ss mm aa bb me co hK hr hk hn
  have C : CM3 pp ss mm aa me co cX2_init 1 RX2 cx none := ⟨hK, hr, hk, hn⟩
  show T pp ll ee rm_X2_init ss mm aa bb me co 1 cx t (fun _ => True) 0 0 _ 0 [(0, .ref (cx.2.2.1 + t))] [] m (F_X2_init t m)
  unfold F_X2_init
  refine T_if (fun ht => ?_) (fun _ => T_none)
  refine T_aload_n C.1 dX2_init_0 0 rfl ?_
  refine T_objInit C.1 dX2_init_1 wm_1_150 wm_1_21 wm_1_22 (by decide) (by decide) ?_
  refine T_aload_n C.1 dX2_init_4 0 rfl ?_
  refine T_bipush C.1 dX2_init_5 rfl ?_
  refine T_newa1 (a := (t + 1)) (len := 7) C.1 dX2_init_7 (by omega) wm_1_54 (shr_2_1 ht) (by decide) (by decide) (by decide) (by decide) (by decide) (fun _ => trivial) (fun m1 => ?_)
  refine T_putFR (x := (t + 1)) C.1 C.2.2.2 (fun _ _ _ _ => rfl) (fun _ => rfl) (fun _ => rfl) fd_X2_9 (by intro Cq Tq hq; cases hq; rfl) ht (by omega) (shp_pk (shr_2_1 ht) (by decide)) (fun _ => trivial) dX2_init_9 (fun m2 => ?_)
  refine T_aload_n C.1 dX2_init_12 0 rfl ?_
  refine T_bipush C.1 dX2_init_13 rfl ?_
  refine T_newa1 (a := (t + 2)) (len := 7) C.1 dX2_init_15 (by omega) wm_1_54 (shr_2_2 ht) (by decide) (by decide) (by decide) (by decide) (by decide) (fun _ => trivial) (fun m3 => ?_)
  refine T_putFR (x := (t + 2)) C.1 C.2.2.2 (fun _ _ _ _ => rfl) (fun _ => rfl) (fun _ => rfl) fd_X2_15 (by intro Cq Tq hq; cases hq; rfl) ht (by omega) (shp_pk (shr_2_2 ht) (by decide)) (fun _ => trivial) dX2_init_17 (fun m4 => ?_)
  refine T_aload_n C.1 dX2_init_20 0 rfl ?_
  refine T_bipush C.1 dX2_init_21 rfl ?_
  refine T_newa1 (a := (t + 3)) (len := 7) C.1 dX2_init_23 (by omega) wm_1_54 (shr_2_3 ht) (by decide) (by decide) (by decide) (by decide) (by decide) (fun _ => trivial) (fun m5 => ?_)
  refine T_putFR (x := (t + 3)) C.1 C.2.2.2 (fun _ _ _ _ => rfl) (fun _ => rfl) (fun _ => rfl) fd_X2_18 (by intro Cq Tq hq; cases hq; rfl) ht (by omega) (shp_pk (shr_2_3 ht) (by decide)) (fun _ => trivial) dX2_init_25 (fun m6 => ?_)
  refine T_aload_n C.1 dX2_init_28 0 rfl ?_
  refine T_bipush C.1 dX2_init_29 rfl ?_
  refine T_newa1 (a := (t + 4)) (len := 7) C.1 dX2_init_31 (by omega) wm_1_54 (shr_2_4 ht) (by decide) (by decide) (by decide) (by decide) (by decide) (fun _ => trivial) (fun m7 => ?_)
  refine T_putFR (x := (t + 4)) C.1 C.2.2.2 (fun _ _ _ _ => rfl) (fun _ => rfl) (fun _ => rfl) fd_X2_21 (by intro Cq Tq hq; cases hq; rfl) ht (by omega) (shp_pk (shr_2_4 ht) (by decide)) (fun _ => trivial) dX2_init_33 (fun m8 => ?_)
  refine T_aload_n C.1 dX2_init_36 0 rfl ?_
  refine T_iconst C.1 dX2_init_37 ?_
  refine T_putI C.1 LyI_T fd_X2_24 ht (by omega) dX2_init_38 (fun m9 => ?_)
  refine T_aload_n C.1 dX2_init_41 0 rfl ?_
  refine T_iconst C.1 dX2_init_42 ?_
  refine T_putI C.1 LyI_T fd_X2_28 ht (by omega) dX2_init_43 (fun m10 => ?_)
  refine T_aload_n C.1 dX2_init_46 0 rfl ?_
  refine T_iconst C.1 dX2_init_47 ?_
  refine T_putI C.1 LyI_T fd_X2_31 ht (by omega) dX2_init_48 (fun m11 => ?_)
  refine T_aload_n C.1 dX2_init_51 0 rfl ?_
  refine T_iconst C.1 dX2_init_52 ?_
  refine T_putZ C.1 LyI_T fd_X2_34 ht (by omega) dX2_init_53 (fun m12 => ?_)
  refine T_aload_n C.1 dX2_init_56 0 rfl ?_
  refine T_iconst C.1 dX2_init_57 ?_
  refine T_putI C.1 LyI_T fd_X2_38 ht (by omega) dX2_init_58 (fun m13 => ?_)
  refine T_aload_n C.1 dX2_init_61 0 rfl ?_
  refine T_iconst C.1 dX2_init_62 ?_
  refine T_putI C.1 LyI_T fd_X2_41 ht (by omega) dX2_init_63 (fun m14 => ?_)
  refine T_aload_n C.1 dX2_init_66 0 rfl ?_
  refine T_iconst C.1 dX2_init_67 ?_
  refine T_putI C.1 LyI_T fd_X2_44 ht (by omega) dX2_init_68 (fun m15 => ?_)
  refine T_aload_n C.1 dX2_init_71 0 rfl ?_
  refine T_getE (x := (t + 2)) C.1 fd_X2_15 (fun _ _ _ _ => rfl) ht (by omega) (shp_pk (shr_2_2 ht) (by decide)) dX2_init_72 ?_
  refine T_iconst C.1 dX2_init_75 ?_
  refine T_callSV (rm := rm_J7_fill_53178) [.ref (cx.2.2.1 + (t + 2)), .int (iI (-1))] [] C.1 dX2_init_76 mw_J7_fill_53178 wm_1_151 wm_1_57 ⟨Nat.le_of_ble_eq_true rfl, Nat.le_of_ble_eq_true rfl⟩ ⟨rfl, rfl⟩ ⟨by decide, by decide⟩ rfl rfl (Nat.le_of_ble_eq_true rfl) (g_fill ll cx LyI_T (n := (t + 4)) (r1 := (t + 2)) (by omega) (iI (-1)) m15) (fun _ m16 => ?_)
  refine T_aload_n C.1 dX2_init_79 0 rfl ?_
  refine T_getE (x := (t + 3)) C.1 fd_X2_18 (fun _ _ _ _ => rfl) ht (by omega) (shp_pk (shr_2_3 ht) (by decide)) dX2_init_80 ?_
  refine T_iconst C.1 dX2_init_83 ?_
  refine T_callSV (rm := rm_J7_fill_53178) [.ref (cx.2.2.1 + (t + 3)), .int (iI (-1))] [] C.1 dX2_init_84 mw_J7_fill_53178 wm_1_151 wm_1_57 ⟨Nat.le_of_ble_eq_true rfl, Nat.le_of_ble_eq_true rfl⟩ ⟨rfl, rfl⟩ ⟨by decide, by decide⟩ rfl rfl (Nat.le_of_ble_eq_true rfl) (g_fill ll cx LyI_T (n := (t + 4)) (r1 := (t + 3)) (by omega) (iI (-1)) m16) (fun _ m17 => ?_)
  exact T_vret C.1 C.2.1 C.2.2.1 dX2_init_87
def rm_X7_init : Room := { frames := 3, cells := 66, slots := 639, locals := 83 }
def F_X7_init (m : Mm) : Option (Unit × Mm) :=
  nm (clr m 34) fun m1 =>
  nm (pR m1 33 1 34) fun m2 =>
  nm (mnM m2 35 10) fun m3 =>
  nm (pR m3 33 2 35) fun m4 =>
  nm (clr m4 46) fun m5 =>
  nm (pR m5 33 3 46) fun m6 =>
  nm (clr m6 47) fun m7 =>
  nm (pR m7 33 4 47) fun m8 =>
  nm (clr m8 48) fun m9 =>
  nm (pR m9 33 5 48) fun m10 =>
  nm (clr m10 49) fun m11 =>
  nm (pR m11 33 6 49) fun m12 =>
  nm (pR m12 33 7 0) fun m13 =>
  nm (pI m13 33 8 (iI 0)) fun m14 =>
  nm (pR m14 33 0 2) fun m15 =>
  gdE 34 (gR m15 33 1) <|
  nm (clr m15 50) fun m16 =>
  bnd (F_X2_init 50 m16) fun _ m17 =>
  wrR 10 m17 34 (iI 0) 50 fun m18 =>
  gdE 34 (gR m18 33 1) <|
  nm (clr m18 55) fun m19 =>
  bnd (F_X2_init 55 m19) fun _ m20 =>
  wrR 10 m20 34 (iI 1) 55 fun m21 =>
  gdE 34 (gR m21 33 1) <|
  nm (clr m21 60) fun m22 =>
  bnd (F_X2_init 60 m22) fun _ m23 =>
  wrR 10 m23 34 (iI 2) 60 fun m24 =>
  gdE 34 (gR m24 33 1) <|
  nm (clr m24 65) fun m25 =>
  bnd (F_X2_init 65 m25) fun _ m26 =>
  wrR 10 m26 34 (iI 3) 65 fun m27 =>
  gdE 34 (gR m27 33 1) <|
  nm (clr m27 70) fun m28 =>
  bnd (F_X2_init 70 m28) fun _ m29 =>
  wrR 10 m29 34 (iI 4) 70 fun m30 =>
  gdE 34 (gR m30 33 1) <|
  nm (clr m30 75) fun m31 =>
  bnd (F_X2_init 75 m31) fun _ m32 =>
  wrR 10 m32 34 (iI 5) 75 fun m33 =>
  gdE 34 (gR m33 33 1) <|
  nm (clr m33 80) fun m34 =>
  bnd (F_X2_init 80 m34) fun _ m35 =>
  wrR 10 m35 34 (iI 6) 80 fun m36 =>
  gdE 34 (gR m36 33 1) <|
  nm (clr m36 85) fun m37 =>
  bnd (F_X2_init 85 m37) fun _ m38 =>
  wrR 10 m38 34 (iI 7) 85 fun m39 =>
  gdE 34 (gR m39 33 1) <|
  nm (clr m39 90) fun m40 =>
  bnd (F_X2_init 90 m40) fun _ m41 =>
  wrR 10 m41 34 (iI 8) 90 fun m42 =>
  gdE 34 (gR m42 33 1) <|
  nm (clr m42 95) fun m43 =>
  bnd (F_X2_init 95 m43) fun _ m44 =>
  wrR 10 m44 34 (iI 9) 95 fun m45 =>
  some ((), m45)
set_option maxRecDepth 100000 in
set_option maxHeartbeats 8000000 in
theorem c_X7_init (ll : Launch) (cx : CX) (m : Mm) : MT ll yX7_init cX7_init 3 none rm_X7_init cx 33 99 (fun _ => True) cvV 66 639 [.ref (cx.2.2.1 + 33), .ref (cx.2.2.1 + 2)] m (F_X7_init m) := by
  refine MT_of (by decide) (Nat.le_of_ble_eq_true rfl) ?_
  intro pp ee ss mm aa bb me co hK hr hk hn
  have C : CM3 pp ss mm aa me co cX7_init 3 RX7 cx none := ⟨hK, hr, hk, hn⟩
  show T pp ll ee rm_X7_init ss mm aa bb me co 3 cx 33 (fun _ => True) 0 0 _ 0 [(0, .ref (cx.2.2.1 + 33)), (1, .ref (cx.2.2.1 + 2))] [] m (F_X7_init m)
  unfold F_X7_init
  refine T_aload_n C.1 dX7_init_0 0 rfl ?_
  refine T_objInit C.1 dX7_init_1 wm_1_204 wm_1_21 wm_1_22 (by decide) (by decide) ?_
  refine T_aload_n C.1 dX7_init_4 0 rfl ?_
  refine T_bipush C.1 dX7_init_5 rfl ?_
  refine T_anew (a := 34) (len := 10) C.1 dX7_init_7 (by omega) wm_1_205 sh34 (by decide) (by decide) (by decide) (by decide) (by decide) (fun _ => trivial) (fun m1 => ?_)
  refine T_putFR (x := 34) C.1 C.2.2.2 (fun _ _ _ _ => rfl) (fun _ => rfl) (fun _ => rfl) fd_X7_13 (by intro Cq Tq hq; cases hq; rfl) sh33 (by decide) (shp_pk sh34 (by decide)) (fun _ => trivial) dX7_init_10 (fun m2 => ?_)
  refine T_aload_n C.1 dX7_init_13 0 rfl ?_
  refine T_bipush C.1 dX7_init_14 rfl ?_
  refine T_bipush C.1 dX7_init_16 rfl ?_
  refine T_mnI (a := 35) (N := 10) (M := 8) C.1 dX7_init_18 (by omega) (show Cond.classLink RX7 17 ("[" ++ (FieldType.array .int).toString) ∈ WA from wm_1_207) wm_1_54 (C.1.2.2.2.2.2.1.1.2 1 (cx.2.1 1, .int) rfl).2 sh35 (by intro i hi; have h := (by decide +kernel : ∀ i, i < 10 → shp (35 + 1 + i) = (1, 8)) i hi; exact h) (by decide) (by decide) (by decide) (by decide) (by decide) (by decide) (by decide) (fun _ => trivial) (fun m3 => ?_)
  refine T_putFR (x := 35) C.1 C.2.2.2 (fun _ _ _ _ => rfl) (fun _ => rfl) (fun _ => rfl) fd_X7_19 (by intro Cq Tq hq; cases hq; rfl) sh33 (by decide) (shp_pk sh35 (by decide)) (fun _ => trivial) dX7_init_22 (fun m4 => ?_)
  refine T_aload_n C.1 dX7_init_25 0 rfl ?_
  refine T_sipush C.1 dX7_init_26 rfl ?_
  refine T_newa1 (a := 46) (len := 128) C.1 dX7_init_29 (by omega) wm_1_54 sh46 (by decide) (by decide) (by decide) (by decide) (by decide) (fun _ => trivial) (fun m5 => ?_)
  refine T_putFR (x := 46) C.1 C.2.2.2 (fun _ _ _ _ => rfl) (fun _ => rfl) (fun _ => rfl) fd_X7_22 (by intro Cq Tq hq; cases hq; rfl) sh33 (by decide) (shp_pk sh46 (by decide)) (fun _ => trivial) dX7_init_31 (fun m6 => ?_)
  refine T_aload_n C.1 dX7_init_34 0 rfl ?_
  refine T_bipush C.1 dX7_init_35 rfl ?_
  refine T_newa1 (a := 47) (len := 7) C.1 dX7_init_37 (by omega) wm_1_54 sh47 (by decide) (by decide) (by decide) (by decide) (by decide) (fun _ => trivial) (fun m7 => ?_)
  refine T_putFR (x := 47) C.1 C.2.2.2 (fun _ _ _ _ => rfl) (fun _ => rfl) (fun _ => rfl) fd_X7_26 (by intro Cq Tq hq; cases hq; rfl) sh33 (by decide) (shp_pk sh47 (by decide)) (fun _ => trivial) dX7_init_39 (fun m8 => ?_)
  refine T_aload_n C.1 dX7_init_42 0 rfl ?_
  refine T_bipush C.1 dX7_init_43 rfl ?_
  refine T_newa1 (a := 48) (len := 7) C.1 dX7_init_45 (by omega) wm_1_54 sh48 (by decide) (by decide) (by decide) (by decide) (by decide) (fun _ => trivial) (fun m9 => ?_)
  refine T_putFR (x := 48) C.1 C.2.2.2 (fun _ _ _ _ => rfl) (fun _ => rfl) (fun _ => rfl) fd_X7_29 (by intro Cq Tq hq; cases hq; rfl) sh33 (by decide) (shp_pk sh48 (by decide)) (fun _ => trivial) dX7_init_47 (fun m10 => ?_)
  refine T_aload_n C.1 dX7_init_50 0 rfl ?_
  refine T_bipush C.1 dX7_init_51 rfl ?_
  refine T_newa1 (a := 49) (len := 7) C.1 dX7_init_53 (by omega) wm_1_54 sh49 (by decide) (by decide) (by decide) (by decide) (by decide) (fun _ => trivial) (fun m11 => ?_)
  refine T_putFR (x := 49) C.1 C.2.2.2 (fun _ _ _ _ => rfl) (fun _ => rfl) (fun _ => rfl) fd_X7_32 (by intro Cq Tq hq; cases hq; rfl) sh33 (by decide) (shp_pk sh49 (by decide)) (fun _ => trivial) dX7_init_55 (fun m12 => ?_)
  refine T_aload_n C.1 dX7_init_58 0 rfl ?_
  refine T_acn C.1 dX7_init_59 ?_
  refine T_putN C.1 (fun _ _ _ _ => rfl) rfl rfl fd_X7_35 sh33 (by decide) (fun _ => trivial) dX7_init_60 (fun m13 => ?_)
  refine T_aload_n C.1 dX7_init_63 0 rfl ?_
  refine T_iconst C.1 dX7_init_64 ?_
  refine T_putI C.1 LyI_T fd_X7_39 sh33 (by decide) dX7_init_65 (fun m14 => ?_)
  refine T_aload_n C.1 dX7_init_68 0 rfl ?_
  refine T_aload_n C.1 dX7_init_69 1 rfl ?_
  refine T_putFR (x := 2) C.1 C.2.2.2 (fun _ _ _ _ => rfl) (fun _ => rfl) (fun _ => rfl) fd_X7_43 (by intro Cq Tq hq; cases hq; rfl) sh33 (by decide) (shp_pk sh2 (by decide)) (fun _ => trivial) dX7_init_70 (fun m15 => ?_)
  refine T_iconst C.1 dX7_init_73 ?_
  refine T_istore_n (lv' := [(2, .int (iI 0)), (0, .ref (cx.2.2.1 + 33)), (1, .ref (cx.2.2.1 + 2))]) C.1 dX7_init_74 (by decide) rfl ?_
  refine T_iload_n C.1 dX7_init_75 0 rfl ?_
  refine T_bipush C.1 dX7_init_76 rfl ?_
  refine T_geN (tgt := 100) C.1 dX7_init_78 (by decide) (by decide) ?_
  refine T_aload_n C.1 dX7_init_81 1 rfl ?_
  refine T_getE (x := 34) C.1 fd_X7_13 (fun _ _ _ _ => rfl) sh33 (by decide) (shp_pk sh34 (by decide)) dX7_init_82 ?_
  refine T_iload_n C.1 dX7_init_85 0 rfl ?_
  refine T_new (a := 50) (ci := 2) C.1 dX7_init_86 (by omega) wm_1_205 wm_1_146 wm_1_7 rfl tyX2_ok (by decide) inX2 sh50 (by decide) (by decide) (fun _ => trivial) (fun m16 => ?_)
  refine T_dup C.1 dX7_init_89 rfl ?_
  refine T_callI (rm := rm_X2_init) (n2 := 54) (mc := 4) (ms := 28) [] [.ref (cx.2.2.1 + 50), .int (iI 0), .ref (cx.2.2.1 + 34)] C.1 dX7_init_90 mw_X2_init rfl wm_1_209 wm_1_148 ⟨⟨Nat.le_of_ble_eq_true rfl, Nat.le_of_ble_eq_true rfl⟩, rfl, rfl, by decide, by decide, (by omega)⟩ rfl rfl (Nat.le_of_ble_eq_true rfl) (c_X2_init ll cx 50 m16) (fun m17 _ => ?_)
  refine T_aast C.1 (fun _ => trivial) sh34 (by decide) sh50 (by decide) dX7_init_93 (fun m18 => ?_)
  refine T_iinc (v := (iI 1)) (lv' := [(2, .int (iI 1)), (0, .ref (cx.2.2.1 + 33)), (1, .ref (cx.2.2.1 + 2))]) C.1 dX7_init_94 0 rfl (by decide) (by decide) rfl ?_
  refine T_goto (tgt := 75) C.1 dX7_init_97 (by decide) ?_
  refine T_iload_n C.1 dX7_init_75 0 rfl ?_
  refine T_bipush C.1 dX7_init_76 rfl ?_
  refine T_geN (tgt := 100) C.1 dX7_init_78 (by decide) (by decide) ?_
  refine T_aload_n C.1 dX7_init_81 1 rfl ?_
  refine T_getE (x := 34) C.1 fd_X7_13 (fun _ _ _ _ => rfl) sh33 (by decide) (shp_pk sh34 (by decide)) dX7_init_82 ?_
  refine T_iload_n C.1 dX7_init_85 0 rfl ?_
  refine T_new (a := 55) (ci := 2) C.1 dX7_init_86 (by omega) wm_1_205 wm_1_146 wm_1_7 rfl tyX2_ok (by decide) inX2 sh55 (by decide) (by decide) (fun _ => trivial) (fun m19 => ?_)
  refine T_dup C.1 dX7_init_89 rfl ?_
  refine T_callI (rm := rm_X2_init) (n2 := 59) (mc := 4) (ms := 28) [] [.ref (cx.2.2.1 + 55), .int (iI 1), .ref (cx.2.2.1 + 34)] C.1 dX7_init_90 mw_X2_init rfl wm_1_209 wm_1_148 ⟨⟨Nat.le_of_ble_eq_true rfl, Nat.le_of_ble_eq_true rfl⟩, rfl, rfl, by decide, by decide, (by omega)⟩ rfl rfl (Nat.le_of_ble_eq_true rfl) (c_X2_init ll cx 55 m19) (fun m20 _ => ?_)
  refine T_aast C.1 (fun _ => trivial) sh34 (by decide) sh55 (by decide) dX7_init_93 (fun m21 => ?_)
  refine T_iinc (v := (iI 2)) (lv' := [(2, .int (iI 2)), (0, .ref (cx.2.2.1 + 33)), (1, .ref (cx.2.2.1 + 2))]) C.1 dX7_init_94 0 rfl (by decide) (by decide) rfl ?_
  refine T_goto (tgt := 75) C.1 dX7_init_97 (by decide) ?_
  refine T_iload_n C.1 dX7_init_75 0 rfl ?_
  refine T_bipush C.1 dX7_init_76 rfl ?_
  refine T_geN (tgt := 100) C.1 dX7_init_78 (by decide) (by decide) ?_
  refine T_aload_n C.1 dX7_init_81 1 rfl ?_
  refine T_getE (x := 34) C.1 fd_X7_13 (fun _ _ _ _ => rfl) sh33 (by decide) (shp_pk sh34 (by decide)) dX7_init_82 ?_
  refine T_iload_n C.1 dX7_init_85 0 rfl ?_
  refine T_new (a := 60) (ci := 2) C.1 dX7_init_86 (by omega) wm_1_205 wm_1_146 wm_1_7 rfl tyX2_ok (by decide) inX2 sh60 (by decide) (by decide) (fun _ => trivial) (fun m22 => ?_)
  refine T_dup C.1 dX7_init_89 rfl ?_
  refine T_callI (rm := rm_X2_init) (n2 := 64) (mc := 4) (ms := 28) [] [.ref (cx.2.2.1 + 60), .int (iI 2), .ref (cx.2.2.1 + 34)] C.1 dX7_init_90 mw_X2_init rfl wm_1_209 wm_1_148 ⟨⟨Nat.le_of_ble_eq_true rfl, Nat.le_of_ble_eq_true rfl⟩, rfl, rfl, by decide, by decide, (by omega)⟩ rfl rfl (Nat.le_of_ble_eq_true rfl) (c_X2_init ll cx 60 m22) (fun m23 _ => ?_)
  refine T_aast C.1 (fun _ => trivial) sh34 (by decide) sh60 (by decide) dX7_init_93 (fun m24 => ?_)
  refine T_iinc (v := (iI 3)) (lv' := [(2, .int (iI 3)), (0, .ref (cx.2.2.1 + 33)), (1, .ref (cx.2.2.1 + 2))]) C.1 dX7_init_94 0 rfl (by decide) (by decide) rfl ?_
  refine T_goto (tgt := 75) C.1 dX7_init_97 (by decide) ?_
  refine T_iload_n C.1 dX7_init_75 0 rfl ?_
  refine T_bipush C.1 dX7_init_76 rfl ?_
  refine T_geN (tgt := 100) C.1 dX7_init_78 (by decide) (by decide) ?_
  refine T_aload_n C.1 dX7_init_81 1 rfl ?_
  refine T_getE (x := 34) C.1 fd_X7_13 (fun _ _ _ _ => rfl) sh33 (by decide) (shp_pk sh34 (by decide)) dX7_init_82 ?_
  refine T_iload_n C.1 dX7_init_85 0 rfl ?_
  refine T_new (a := 65) (ci := 2) C.1 dX7_init_86 (by omega) wm_1_205 wm_1_146 wm_1_7 rfl tyX2_ok (by decide) inX2 sh65 (by decide) (by decide) (fun _ => trivial) (fun m25 => ?_)
  refine T_dup C.1 dX7_init_89 rfl ?_
  refine T_callI (rm := rm_X2_init) (n2 := 69) (mc := 4) (ms := 28) [] [.ref (cx.2.2.1 + 65), .int (iI 3), .ref (cx.2.2.1 + 34)] C.1 dX7_init_90 mw_X2_init rfl wm_1_209 wm_1_148 ⟨⟨Nat.le_of_ble_eq_true rfl, Nat.le_of_ble_eq_true rfl⟩, rfl, rfl, by decide, by decide, (by omega)⟩ rfl rfl (Nat.le_of_ble_eq_true rfl) (c_X2_init ll cx 65 m25) (fun m26 _ => ?_)
  refine T_aast C.1 (fun _ => trivial) sh34 (by decide) sh65 (by decide) dX7_init_93 (fun m27 => ?_)
  refine T_iinc (v := (iI 4)) (lv' := [(2, .int (iI 4)), (0, .ref (cx.2.2.1 + 33)), (1, .ref (cx.2.2.1 + 2))]) C.1 dX7_init_94 0 rfl (by decide) (by decide) rfl ?_
  refine T_goto (tgt := 75) C.1 dX7_init_97 (by decide) ?_
  refine T_iload_n C.1 dX7_init_75 0 rfl ?_
  refine T_bipush C.1 dX7_init_76 rfl ?_
  refine T_geN (tgt := 100) C.1 dX7_init_78 (by decide) (by decide) ?_
  refine T_aload_n C.1 dX7_init_81 1 rfl ?_
  refine T_getE (x := 34) C.1 fd_X7_13 (fun _ _ _ _ => rfl) sh33 (by decide) (shp_pk sh34 (by decide)) dX7_init_82 ?_
  refine T_iload_n C.1 dX7_init_85 0 rfl ?_
  refine T_new (a := 70) (ci := 2) C.1 dX7_init_86 (by omega) wm_1_205 wm_1_146 wm_1_7 rfl tyX2_ok (by decide) inX2 sh70 (by decide) (by decide) (fun _ => trivial) (fun m28 => ?_)
  refine T_dup C.1 dX7_init_89 rfl ?_
  refine T_callI (rm := rm_X2_init) (n2 := 74) (mc := 4) (ms := 28) [] [.ref (cx.2.2.1 + 70), .int (iI 4), .ref (cx.2.2.1 + 34)] C.1 dX7_init_90 mw_X2_init rfl wm_1_209 wm_1_148 ⟨⟨Nat.le_of_ble_eq_true rfl, Nat.le_of_ble_eq_true rfl⟩, rfl, rfl, by decide, by decide, (by omega)⟩ rfl rfl (Nat.le_of_ble_eq_true rfl) (c_X2_init ll cx 70 m28) (fun m29 _ => ?_)
  refine T_aast C.1 (fun _ => trivial) sh34 (by decide) sh70 (by decide) dX7_init_93 (fun m30 => ?_)
  refine T_iinc (v := (iI 5)) (lv' := [(2, .int (iI 5)), (0, .ref (cx.2.2.1 + 33)), (1, .ref (cx.2.2.1 + 2))]) C.1 dX7_init_94 0 rfl (by decide) (by decide) rfl ?_
  refine T_goto (tgt := 75) C.1 dX7_init_97 (by decide) ?_
  refine T_iload_n C.1 dX7_init_75 0 rfl ?_
  refine T_bipush C.1 dX7_init_76 rfl ?_
  refine T_geN (tgt := 100) C.1 dX7_init_78 (by decide) (by decide) ?_
  refine T_aload_n C.1 dX7_init_81 1 rfl ?_
  refine T_getE (x := 34) C.1 fd_X7_13 (fun _ _ _ _ => rfl) sh33 (by decide) (shp_pk sh34 (by decide)) dX7_init_82 ?_
  refine T_iload_n C.1 dX7_init_85 0 rfl ?_
  refine T_new (a := 75) (ci := 2) C.1 dX7_init_86 (by omega) wm_1_205 wm_1_146 wm_1_7 rfl tyX2_ok (by decide) inX2 sh75 (by decide) (by decide) (fun _ => trivial) (fun m31 => ?_)
  refine T_dup C.1 dX7_init_89 rfl ?_
  refine T_callI (rm := rm_X2_init) (n2 := 79) (mc := 4) (ms := 28) [] [.ref (cx.2.2.1 + 75), .int (iI 5), .ref (cx.2.2.1 + 34)] C.1 dX7_init_90 mw_X2_init rfl wm_1_209 wm_1_148 ⟨⟨Nat.le_of_ble_eq_true rfl, Nat.le_of_ble_eq_true rfl⟩, rfl, rfl, by decide, by decide, (by omega)⟩ rfl rfl (Nat.le_of_ble_eq_true rfl) (c_X2_init ll cx 75 m31) (fun m32 _ => ?_)
  refine T_aast C.1 (fun _ => trivial) sh34 (by decide) sh75 (by decide) dX7_init_93 (fun m33 => ?_)
  refine T_iinc (v := (iI 6)) (lv' := [(2, .int (iI 6)), (0, .ref (cx.2.2.1 + 33)), (1, .ref (cx.2.2.1 + 2))]) C.1 dX7_init_94 0 rfl (by decide) (by decide) rfl ?_
  refine T_goto (tgt := 75) C.1 dX7_init_97 (by decide) ?_
  refine T_iload_n C.1 dX7_init_75 0 rfl ?_
  refine T_bipush C.1 dX7_init_76 rfl ?_
  refine T_geN (tgt := 100) C.1 dX7_init_78 (by decide) (by decide) ?_
  refine T_aload_n C.1 dX7_init_81 1 rfl ?_
  refine T_getE (x := 34) C.1 fd_X7_13 (fun _ _ _ _ => rfl) sh33 (by decide) (shp_pk sh34 (by decide)) dX7_init_82 ?_
  refine T_iload_n C.1 dX7_init_85 0 rfl ?_
  refine T_new (a := 80) (ci := 2) C.1 dX7_init_86 (by omega) wm_1_205 wm_1_146 wm_1_7 rfl tyX2_ok (by decide) inX2 sh80 (by decide) (by decide) (fun _ => trivial) (fun m34 => ?_)
  refine T_dup C.1 dX7_init_89 rfl ?_
  refine T_callI (rm := rm_X2_init) (n2 := 84) (mc := 4) (ms := 28) [] [.ref (cx.2.2.1 + 80), .int (iI 6), .ref (cx.2.2.1 + 34)] C.1 dX7_init_90 mw_X2_init rfl wm_1_209 wm_1_148 ⟨⟨Nat.le_of_ble_eq_true rfl, Nat.le_of_ble_eq_true rfl⟩, rfl, rfl, by decide, by decide, (by omega)⟩ rfl rfl (Nat.le_of_ble_eq_true rfl) (c_X2_init ll cx 80 m34) (fun m35 _ => ?_)
  refine T_aast C.1 (fun _ => trivial) sh34 (by decide) sh80 (by decide) dX7_init_93 (fun m36 => ?_)
  refine T_iinc (v := (iI 7)) (lv' := [(2, .int (iI 7)), (0, .ref (cx.2.2.1 + 33)), (1, .ref (cx.2.2.1 + 2))]) C.1 dX7_init_94 0 rfl (by decide) (by decide) rfl ?_
  refine T_goto (tgt := 75) C.1 dX7_init_97 (by decide) ?_
  refine T_iload_n C.1 dX7_init_75 0 rfl ?_
  refine T_bipush C.1 dX7_init_76 rfl ?_
  refine T_geN (tgt := 100) C.1 dX7_init_78 (by decide) (by decide) ?_
  refine T_aload_n C.1 dX7_init_81 1 rfl ?_
  refine T_getE (x := 34) C.1 fd_X7_13 (fun _ _ _ _ => rfl) sh33 (by decide) (shp_pk sh34 (by decide)) dX7_init_82 ?_
  refine T_iload_n C.1 dX7_init_85 0 rfl ?_
  refine T_new (a := 85) (ci := 2) C.1 dX7_init_86 (by omega) wm_1_205 wm_1_146 wm_1_7 rfl tyX2_ok (by decide) inX2 sh85 (by decide) (by decide) (fun _ => trivial) (fun m37 => ?_)
  refine T_dup C.1 dX7_init_89 rfl ?_
  refine T_callI (rm := rm_X2_init) (n2 := 89) (mc := 4) (ms := 28) [] [.ref (cx.2.2.1 + 85), .int (iI 7), .ref (cx.2.2.1 + 34)] C.1 dX7_init_90 mw_X2_init rfl wm_1_209 wm_1_148 ⟨⟨Nat.le_of_ble_eq_true rfl, Nat.le_of_ble_eq_true rfl⟩, rfl, rfl, by decide, by decide, (by omega)⟩ rfl rfl (Nat.le_of_ble_eq_true rfl) (c_X2_init ll cx 85 m37) (fun m38 _ => ?_)
  refine T_aast C.1 (fun _ => trivial) sh34 (by decide) sh85 (by decide) dX7_init_93 (fun m39 => ?_)
  refine T_iinc (v := (iI 8)) (lv' := [(2, .int (iI 8)), (0, .ref (cx.2.2.1 + 33)), (1, .ref (cx.2.2.1 + 2))]) C.1 dX7_init_94 0 rfl (by decide) (by decide) rfl ?_
  refine T_goto (tgt := 75) C.1 dX7_init_97 (by decide) ?_
  refine T_iload_n C.1 dX7_init_75 0 rfl ?_
  refine T_bipush C.1 dX7_init_76 rfl ?_
  refine T_geN (tgt := 100) C.1 dX7_init_78 (by decide) (by decide) ?_
  refine T_aload_n C.1 dX7_init_81 1 rfl ?_
  refine T_getE (x := 34) C.1 fd_X7_13 (fun _ _ _ _ => rfl) sh33 (by decide) (shp_pk sh34 (by decide)) dX7_init_82 ?_
  refine T_iload_n C.1 dX7_init_85 0 rfl ?_
  refine T_new (a := 90) (ci := 2) C.1 dX7_init_86 (by omega) wm_1_205 wm_1_146 wm_1_7 rfl tyX2_ok (by decide) inX2 sh90 (by decide) (by decide) (fun _ => trivial) (fun m40 => ?_)
  refine T_dup C.1 dX7_init_89 rfl ?_
  refine T_callI (rm := rm_X2_init) (n2 := 94) (mc := 4) (ms := 28) [] [.ref (cx.2.2.1 + 90), .int (iI 8), .ref (cx.2.2.1 + 34)] C.1 dX7_init_90 mw_X2_init rfl wm_1_209 wm_1_148 ⟨⟨Nat.le_of_ble_eq_true rfl, Nat.le_of_ble_eq_true rfl⟩, rfl, rfl, by decide, by decide, (by omega)⟩ rfl rfl (Nat.le_of_ble_eq_true rfl) (c_X2_init ll cx 90 m40) (fun m41 _ => ?_)
  refine T_aast C.1 (fun _ => trivial) sh34 (by decide) sh90 (by decide) dX7_init_93 (fun m42 => ?_)
  refine T_iinc (v := (iI 9)) (lv' := [(2, .int (iI 9)), (0, .ref (cx.2.2.1 + 33)), (1, .ref (cx.2.2.1 + 2))]) C.1 dX7_init_94 0 rfl (by decide) (by decide) rfl ?_
  refine T_goto (tgt := 75) C.1 dX7_init_97 (by decide) ?_
  refine T_iload_n C.1 dX7_init_75 0 rfl ?_
  refine T_bipush C.1 dX7_init_76 rfl ?_
  refine T_geN (tgt := 100) C.1 dX7_init_78 (by decide) (by decide) ?_
  refine T_aload_n C.1 dX7_init_81 1 rfl ?_
  refine T_getE (x := 34) C.1 fd_X7_13 (fun _ _ _ _ => rfl) sh33 (by decide) (shp_pk sh34 (by decide)) dX7_init_82 ?_
  refine T_iload_n C.1 dX7_init_85 0 rfl ?_
  refine T_new (a := 95) (ci := 2) C.1 dX7_init_86 (by omega) wm_1_205 wm_1_146 wm_1_7 rfl tyX2_ok (by decide) inX2 sh95 (by decide) (by decide) (fun _ => trivial) (fun m43 => ?_)
  refine T_dup C.1 dX7_init_89 rfl ?_
  refine T_callI (rm := rm_X2_init) (n2 := 99) (mc := 4) (ms := 28) [] [.ref (cx.2.2.1 + 95), .int (iI 9), .ref (cx.2.2.1 + 34)] C.1 dX7_init_90 mw_X2_init rfl wm_1_209 wm_1_148 ⟨⟨Nat.le_of_ble_eq_true rfl, Nat.le_of_ble_eq_true rfl⟩, rfl, rfl, by decide, by decide, (by omega)⟩ rfl rfl (Nat.le_of_ble_eq_true rfl) (c_X2_init ll cx 95 m43) (fun m44 _ => ?_)
  refine T_aast C.1 (fun _ => trivial) sh34 (by decide) sh95 (by decide) dX7_init_93 (fun m45 => ?_)
  refine T_iinc (v := (iI 10)) (lv' := [(2, .int (iI 10)), (0, .ref (cx.2.2.1 + 33)), (1, .ref (cx.2.2.1 + 2))]) C.1 dX7_init_94 0 rfl (by decide) (by decide) rfl ?_
  refine T_goto (tgt := 75) C.1 dX7_init_97 (by decide) ?_
  refine T_iload_n C.1 dX7_init_75 0 rfl ?_
  refine T_bipush C.1 dX7_init_76 rfl ?_
  refine T_geY (tgt := 100) C.1 dX7_init_78 (by decide) (by decide) ?_
  exact T_vret C.1 C.2.1 C.2.2.1 dX7_init_100
def rm_X0_init : Room := { frames := 1, cells := 2, slots := 74, locals := 40 }
def F_X0_init (m : Mm) : Option (Unit × Mm) :=
  nm (clr m 101) fun m1 =>
  nm (pR m1 100 0 101) fun m2 =>
  nm (pI m2 100 1 (iI 0)) fun m3 =>
  nm (clr m3 102) fun m4 =>
  nm (pR m4 100 2 102) fun m5 =>
  nm (pI m5 100 3 (iI 0)) fun m6 =>
  nm (pI m6 100 4 (iI 0)) fun m7 =>
  some ((), m7)
set_option maxRecDepth 100000 in
set_option maxHeartbeats 8000000 in
theorem c_X0_init (ll : Launch) (cx : CX) (m : Mm) : MT ll yX0_init cX0_init 1 none rm_X0_init cx 100 102 (fun _ => True) cvV 2 74 [.ref (cx.2.2.1 + 100)] m (F_X0_init m) := by
  refine MT_of (by decide) (Nat.le_of_ble_eq_true rfl) ?_
  intro pp ee ss mm aa bb me co hK hr hk hn
  have C : CM3 pp ss mm aa me co cX0_init 1 RX0 cx none := ⟨hK, hr, hk, hn⟩
  show T pp ll ee rm_X0_init ss mm aa bb me co 1 cx 100 (fun _ => True) 0 0 _ 0 [(0, .ref (cx.2.2.1 + 100))] [] m (F_X0_init m)
  unfold F_X0_init
  refine T_aload_n C.1 dX0_init_0 0 rfl ?_
  refine T_objInit C.1 dX0_init_1 wm_2_4 wm_1_21 wm_1_22 (by decide) (by decide) ?_
  refine T_aload_n C.1 dX0_init_4 0 rfl ?_
  refine T_bipush C.1 dX0_init_5 rfl ?_
  refine T_newa1 (a := 101) (len := 50) C.1 dX0_init_7 (by omega) wm_1_54 sh101 (by decide) (by decide) (by decide) (by decide) (by decide) (fun _ => trivial) (fun m1 => ?_)
  refine T_putFR (x := 101) C.1 C.2.2.2 (fun _ _ _ _ => rfl) (fun _ => rfl) (fun _ => rfl) fd_X0_11 (by intro Cq Tq hq; cases hq; rfl) sh100 (by decide) (shp_pk sh101 (by decide)) (fun _ => trivial) dX0_init_9 (fun m2 => ?_)
  refine T_aload_n C.1 dX0_init_12 0 rfl ?_
  refine T_iconst C.1 dX0_init_13 ?_
  refine T_putI C.1 LyI_T fd_X0_15 sh100 (by decide) dX0_init_14 (fun m3 => ?_)
  refine T_aload_n C.1 dX0_init_17 0 rfl ?_
  refine T_bipush C.1 dX0_init_18 rfl ?_
  refine T_newa1 (a := 102) (len := 24) C.1 dX0_init_20 (by omega) wm_1_54 sh102 (by decide) (by decide) (by decide) (by decide) (by decide) (fun _ => trivial) (fun m4 => ?_)
  refine T_putFR (x := 102) C.1 C.2.2.2 (fun _ _ _ _ => rfl) (fun _ => rfl) (fun _ => rfl) fd_X0_19 (by intro Cq Tq hq; cases hq; rfl) sh100 (by decide) (shp_pk sh102 (by decide)) (fun _ => trivial) dX0_init_22 (fun m5 => ?_)
  refine T_aload_n C.1 dX0_init_25 0 rfl ?_
  refine T_iconst C.1 dX0_init_26 ?_
  refine T_putI C.1 LyI_T fd_X0_22 sh100 (by decide) dX0_init_27 (fun m6 => ?_)
  refine T_aload_n C.1 dX0_init_30 0 rfl ?_
  refine T_iconst C.1 dX0_init_31 ?_
  refine T_putI C.1 LyI_T fd_X0_25 sh100 (by decide) dX0_init_32 (fun m7 => ?_)
  exact T_vret C.1 C.2.1 C.2.2.1 dX0_init_35
def rm_X5_init : Room := { frames := 2, cells := 9, slots := 378, locals := 63 }
def F_X5_init (m : Mm) : Option (Unit × Mm) :=
  nm (clr m 104) fun m1 =>
  nm (pR m1 103 0 104) fun m2 =>
  nm (clr m2 105) fun m3 =>
  nm (pR m3 103 1 105) fun m4 =>
  nm (mnM m4 106 6) fun m5 =>
  nm (pR m5 103 2 106) fun m6 =>
  gdE 104 (gR m6 103 0) <|
  bnd (F_J7_fill_53178 104 (iI (-2)) m6) fun _ m7 =>
  some ((), m7)
set_option maxRecDepth 100000 in
set_option maxHeartbeats 8000000 in
theorem c_X5_init (ll : Launch) (cx : CX) (m : Mm) : MT ll yX5_init cX5_init 1 none rm_X5_init cx 103 112 (fun _ => True) cvV 9 378 [.ref (cx.2.2.1 + 103)] m (F_X5_init m) := by
  refine MT_of (by decide) (Nat.le_of_ble_eq_true rfl) ?_
  intro pp ee ss mm aa bb me co hK hr hk hn
  have C : CM3 pp ss mm aa me co cX5_init 1 RX5 cx none := ⟨hK, hr, hk, hn⟩
  show T pp ll ee rm_X5_init ss mm aa bb me co 1 cx 103 (fun _ => True) 0 0 _ 0 [(0, .ref (cx.2.2.1 + 103))] [] m (F_X5_init m)
  unfold F_X5_init
  refine T_aload_n C.1 dX5_init_0 0 rfl ?_
  refine T_objInit C.1 dX5_init_1 wm_2_28 wm_1_21 wm_1_22 (by decide) (by decide) ?_
  refine T_aload_n C.1 dX5_init_4 0 rfl ?_
  refine T_bipush C.1 dX5_init_5 rfl ?_
  refine T_newa1 (a := 104) (len := 6) C.1 dX5_init_7 (by omega) wm_1_54 sh104 (by decide) (by decide) (by decide) (by decide) (by decide) (fun _ => trivial) (fun m1 => ?_)
  refine T_putFR (x := 104) C.1 C.2.2.2 (fun _ _ _ _ => rfl) (fun _ => rfl) (fun _ => rfl) fd_X5_11 (by intro Cq Tq hq; cases hq; rfl) sh103 (by decide) (shp_pk sh104 (by decide)) (fun _ => trivial) dX5_init_9 (fun m2 => ?_)
  refine T_aload_n C.1 dX5_init_12 0 rfl ?_
  refine T_bipush C.1 dX5_init_13 rfl ?_
  refine T_newa1 (a := 105) (len := 6) C.1 dX5_init_15 (by omega) wm_1_54 sh105 (by decide) (by decide) (by decide) (by decide) (by decide) (fun _ => trivial) (fun m3 => ?_)
  refine T_putFR (x := 105) C.1 C.2.2.2 (fun _ _ _ _ => rfl) (fun _ => rfl) (fun _ => rfl) fd_X5_15 (by intro Cq Tq hq; cases hq; rfl) sh103 (by decide) (shp_pk sh105 (by decide)) (fun _ => trivial) dX5_init_17 (fun m4 => ?_)
  refine T_aload_n C.1 dX5_init_20 0 rfl ?_
  refine T_bipush C.1 dX5_init_21 rfl ?_
  refine T_bipush C.1 dX5_init_23 rfl ?_
  refine T_mnL (a := 106) (N := 6) (M := 60) C.1 dX5_init_25 (by omega) (show Cond.classLink RX5 18 ("[" ++ (FieldType.array .long).toString) ∈ WA from wm_2_29) wm_2_45 (C.1.2.2.2.2.2.1.1.2 5 (cx.2.1 5, .long) rfl).2 sh106 (by intro i hi; have h := (by decide +kernel : ∀ i, i < 6 → shp (106 + 1 + i) = (5, 60)) i hi; exact h) (by decide) (by decide) (by decide) (by decide) (by decide) (by decide) (by decide) (fun _ => trivial) (fun m5 => ?_)
  refine T_putFR (x := 106) C.1 C.2.2.2 (fun _ _ _ _ => rfl) (fun _ => rfl) (fun _ => rfl) fd_X5_20 (by intro Cq Tq hq; cases hq; rfl) sh103 (by decide) (shp_pk sh106 (by decide)) (fun _ => trivial) dX5_init_29 (fun m6 => ?_)
  refine T_aload_n C.1 dX5_init_32 0 rfl ?_
  refine T_getE (x := 104) C.1 fd_X5_11 (fun _ _ _ _ => rfl) sh103 (by decide) (shp_pk sh104 (by decide)) dX5_init_33 ?_
  refine T_bipush C.1 dX5_init_36 rfl ?_
  refine T_callSV (rm := rm_J7_fill_53178) [.ref (cx.2.2.1 + 104), .int (iI (-2))] [] C.1 dX5_init_38 mw_J7_fill_53178 wm_2_31 wm_1_57 ⟨Nat.le_of_ble_eq_true rfl, Nat.le_of_ble_eq_true rfl⟩ ⟨rfl, rfl⟩ ⟨by decide, by decide⟩ rfl rfl (Nat.le_of_ble_eq_true rfl) (g_fill ll cx LyI_T (n := 112) (r1 := 104) (by decide) (iI (-2)) m6) (fun _ m7 => ?_)
  exact T_vret C.1 C.2.1 C.2.2.1 dX5_init_41
def rm_X8_init : Room := { frames := 4, cells := 111, slots := 2381, locals := 105 }
def F_X8_init (m : Mm) : Option (Unit × Mm) :=
  nm (clr m 2) fun m1 =>
  bnd (F_X4_init m1) fun _ m2 =>
  nm (pR m2 1 0 2) fun m3 =>
  nm (clr m3 11) fun m4 =>
  bnd (F_X1_init m4) fun _ m5 =>
  nm (pR m5 1 1 11) fun m6 =>
  nm (clr m6 16) fun m7 =>
  bnd (F_X6_init m7) fun _ m8 =>
  nm (pR m8 1 2 16) fun m9 =>
  nm (clr m9 23) fun m10 =>
  bnd (F_X2_init 23 m10) fun _ m11 =>
  nm (pR m11 1 3 23) fun m12 =>
  nm (clr m12 28) fun m13 =>
  bnd (F_X2_init 28 m13) fun _ m14 =>
  nm (pR m14 1 4 28) fun m15 =>
  nm (clr m15 33) fun m16 =>
  gdE 2 (gR m16 1 0) <|
  bnd (F_X7_init m16) fun _ m17 =>
  nm (pR m17 1 5 33) fun m18 =>
  nm (clr m18 100) fun m19 =>
  bnd (F_X0_init m19) fun _ m20 =>
  nm (pR m20 1 6 100) fun m21 =>
  nm (clr m21 103) fun m22 =>
  bnd (F_X5_init m22) fun _ m23 =>
  nm (pR m23 1 7 103) fun m24 =>
  nm (pI m24 1 8 (iI (-1))) fun m25 =>
  some ((), m25)
set_option maxRecDepth 100000 in
set_option maxHeartbeats 8000000 in
theorem c_X8_init (ll : Launch) (cx : CX) (m : Mm) : MT ll yX8_init cX8_init 1 none rm_X8_init cx 1 112 (fun _ => True) cvV 111 2381 [.ref (cx.2.2.1 + 1)] m (F_X8_init m) := by
  refine MT_of (by decide) (Nat.le_of_ble_eq_true rfl) ?_
  intro pp ee ss mm aa bb me co hK hr hk hn
  have C : CM3 pp ss mm aa me co cX8_init 1 RX8 cx none := ⟨hK, hr, hk, hn⟩
  show T pp ll ee rm_X8_init ss mm aa bb me co 1 cx 1 (fun _ => True) 0 0 _ 0 [(0, .ref (cx.2.2.1 + 1))] [] m (F_X8_init m)
  unfold F_X8_init
  refine T_aload_n C.1 dX8_init_0 0 rfl ?_
  refine T_objInit C.1 dX8_init_1 wm_1_20 wm_1_21 wm_1_22 (by decide) (by decide) ?_
  refine T_aload_n C.1 dX8_init_4 0 rfl ?_
  refine T_new (a := 2) (ci := 4) C.1 dX8_init_5 (by omega) wm_1_23 wm_1_24 wm_1_2 rfl tyX4_ok (by decide) inX4 sh2 (by decide) (by decide) (fun _ => trivial) (fun m1 => ?_)
  refine T_dup C.1 dX8_init_8 rfl ?_
  refine T_callI (rm := rm_X4_init) (n2 := 10) (mc := 8) (ms := 522) [] [.ref (cx.2.2.1 + 2), .ref (cx.2.2.1 + 1)] C.1 dX8_init_9 mw_X4_init rfl wm_1_25 wm_1_26 ⟨⟨Nat.le_of_ble_eq_true rfl, Nat.le_of_ble_eq_true rfl⟩, rfl, rfl, by decide, by decide, (by omega)⟩ rfl rfl (Nat.le_of_ble_eq_true rfl) (c_X4_init ll cx m1) (fun m2 _ => ?_)
  refine T_putFR (x := 2) C.1 C.2.2.2 (fun _ _ _ _ => rfl) (fun _ => rfl) (fun _ => rfl) fd_X8_10 (by intro Cq Tq hq; cases hq; rfl) sh1 (by decide) (shp_pk sh2 (by decide)) (fun _ => trivial) dX8_init_12 (fun m3 => ?_)
  refine T_aload_n C.1 dX8_init_15 0 rfl ?_
  refine T_new (a := 11) (ci := 1) C.1 dX8_init_16 (by omega) wm_1_93 wm_1_94 wm_1_5 rfl tyX1_ok (by decide) inX1 sh11 (by decide) (by decide) (fun _ => trivial) (fun m4 => ?_)
  refine T_dup C.1 dX8_init_19 rfl ?_
  refine T_callN (rm := rm_X1_init) (n2 := 15) (mc := 4) (ms := 160) [] [.ref (cx.2.2.1 + 11), .ref (cx.2.2.1 + 1)] C.1 dX8_init_20 mw_X1_init rfl (fun h => h.2.1) wm_1_96 ⟨⟨Nat.le_of_ble_eq_true rfl, Nat.le_of_ble_eq_true rfl⟩, rfl, rfl, by decide, by decide, (by omega)⟩ rfl rfl (Nat.le_of_ble_eq_true rfl) (c_X1_init ll cx m4) (fun m5 _ => ?_)
  refine T_putFR (x := 11) C.1 C.2.2.2 (fun _ _ _ _ => rfl) (fun _ => rfl) (fun _ => rfl) fd_X8_19 (by intro Cq Tq hq; cases hq; rfl) sh1 (by decide) (shp_pk sh11 (by decide)) (fun _ => trivial) dX8_init_23 (fun m6 => ?_)
  refine T_aload_n C.1 dX8_init_26 0 rfl ?_
  refine T_new (a := 16) (ci := 6) C.1 dX8_init_27 (by omega) wm_1_120 wm_1_121 wm_1_6 rfl tyX6_ok (by decide) inX6 sh16 (by decide) (by decide) (fun _ => trivial) (fun m7 => ?_)
  refine T_dup C.1 dX8_init_30 rfl ?_
  refine T_callN (rm := rm_X6_init) (n2 := 22) (mc := 6) (ms := 495) [] [.ref (cx.2.2.1 + 16), .ref (cx.2.2.1 + 1)] C.1 dX8_init_31 mw_X6_init rfl (fun h => h.2.2.1) wm_1_123 ⟨⟨Nat.le_of_ble_eq_true rfl, Nat.le_of_ble_eq_true rfl⟩, rfl, rfl, by decide, by decide, (by omega)⟩ rfl rfl (Nat.le_of_ble_eq_true rfl) (c_X6_init ll cx m7) (fun m8 _ => ?_)
  refine T_putFR (x := 16) C.1 C.2.2.2 (fun _ _ _ _ => rfl) (fun _ => rfl) (fun _ => rfl) fd_X8_26 (by intro Cq Tq hq; cases hq; rfl) sh1 (by decide) (shp_pk sh16 (by decide)) (fun _ => trivial) dX8_init_34 (fun m9 => ?_)
  refine T_aload_n C.1 dX8_init_37 0 rfl ?_
  refine T_new (a := 23) (ci := 2) C.1 dX8_init_38 (by omega) wm_1_145 wm_1_146 wm_1_7 rfl tyX2_ok (by decide) inX2 sh23 (by decide) (by decide) (fun _ => trivial) (fun m10 => ?_)
  refine T_dup C.1 dX8_init_41 rfl ?_
  refine T_callI (rm := rm_X2_init) (n2 := 27) (mc := 4) (ms := 28) [] [.ref (cx.2.2.1 + 23), .ref (cx.2.2.1 + 1)] C.1 dX8_init_42 mw_X2_init rfl wm_1_147 wm_1_148 ⟨⟨Nat.le_of_ble_eq_true rfl, Nat.le_of_ble_eq_true rfl⟩, rfl, rfl, by decide, by decide, (by omega)⟩ rfl rfl (Nat.le_of_ble_eq_true rfl) (c_X2_init ll cx 23 m10) (fun m11 _ => ?_)
  refine T_putFR (x := 23) C.1 C.2.2.2 (fun _ _ _ _ => rfl) (fun _ => rfl) (fun _ => rfl) fd_X8_33 (by intro Cq Tq hq; cases hq; rfl) sh1 (by decide) (shp_pk sh23 (by decide)) (fun _ => trivial) dX8_init_45 (fun m12 => ?_)
  refine T_aload_n C.1 dX8_init_48 0 rfl ?_
  refine T_new (a := 28) (ci := 2) C.1 dX8_init_49 (by omega) wm_1_145 wm_1_146 wm_1_7 rfl tyX2_ok (by decide) inX2 sh28 (by decide) (by decide) (fun _ => trivial) (fun m13 => ?_)
  refine T_dup C.1 dX8_init_52 rfl ?_
  refine T_callI (rm := rm_X2_init) (n2 := 32) (mc := 4) (ms := 28) [] [.ref (cx.2.2.1 + 28), .ref (cx.2.2.1 + 1)] C.1 dX8_init_53 mw_X2_init rfl wm_1_147 wm_1_148 ⟨⟨Nat.le_of_ble_eq_true rfl, Nat.le_of_ble_eq_true rfl⟩, rfl, rfl, by decide, by decide, (by omega)⟩ rfl rfl (Nat.le_of_ble_eq_true rfl) (c_X2_init ll cx 28 m13) (fun m14 _ => ?_)
  refine T_putFR (x := 28) C.1 C.2.2.2 (fun _ _ _ _ => rfl) (fun _ => rfl) (fun _ => rfl) fd_X8_37 (by intro Cq Tq hq; cases hq; rfl) sh1 (by decide) (shp_pk sh28 (by decide)) (fun _ => trivial) dX8_init_56 (fun m15 => ?_)
  refine T_aload_n C.1 dX8_init_59 0 rfl ?_
  refine T_new (a := 33) (ci := 7) C.1 dX8_init_60 (by omega) wm_1_199 wm_1_200 wm_1_8 rfl tyX7_ok (by decide) inX7 sh33 (by decide) (by decide) (fun _ => trivial) (fun m16 => ?_)
  refine T_dup C.1 dX8_init_63 rfl ?_
  refine T_aload_n C.1 dX8_init_64 0 rfl ?_
  refine T_getE (x := 2) C.1 fd_X8_10 (fun _ _ _ _ => rfl) sh1 (by decide) (shp_pk sh2 (by decide)) dX8_init_65 ?_
  refine T_callI (rm := rm_X7_init) (n2 := 99) (mc := 66) (ms := 639) [.ref (cx.2.2.1 + 2)] [.ref (cx.2.2.1 + 33), .ref (cx.2.2.1 + 1)] C.1 dX8_init_68 mw_X7_init rfl wm_1_201 wm_1_202 ⟨⟨Nat.le_of_ble_eq_true rfl, Nat.le_of_ble_eq_true rfl⟩, rfl, rfl, by decide, by decide, (by omega)⟩ rfl rfl (Nat.le_of_ble_eq_true rfl) (c_X7_init ll cx m16) (fun m17 _ => ?_)
  refine T_putFR (x := 33) C.1 C.2.2.2 (fun _ _ _ _ => rfl) (fun _ => rfl) (fun _ => rfl) fd_X8_45 (by intro Cq Tq hq; cases hq; rfl) sh1 (by decide) (shp_pk sh33 (by decide)) (fun _ => trivial) dX8_init_71 (fun m18 => ?_)
  refine T_aload_n C.1 dX8_init_74 0 rfl ?_
  refine T_new (a := 100) (ci := 0) C.1 dX8_init_75 (by omega) wm_1_239 wm_2_0 wm_1_9 rfl tyX0_ok (by decide) inX0 sh100 (by decide) (by decide) (fun _ => trivial) (fun m19 => ?_)
  refine T_dup C.1 dX8_init_78 rfl ?_
  refine T_callN (rm := rm_X0_init) (n2 := 102) (mc := 2) (ms := 74) [] [.ref (cx.2.2.1 + 100), .ref (cx.2.2.1 + 1)] C.1 dX8_init_79 mw_X0_init rfl (fun h => h.2.2.2) wm_2_2 ⟨⟨Nat.le_of_ble_eq_true rfl, Nat.le_of_ble_eq_true rfl⟩, rfl, rfl, by decide, by decide, (by omega)⟩ rfl rfl (Nat.le_of_ble_eq_true rfl) (c_X0_init ll cx m19) (fun m20 _ => ?_)
  refine T_putFR (x := 100) C.1 C.2.2.2 (fun _ _ _ _ => rfl) (fun _ => rfl) (fun _ => rfl) fd_X8_52 (by intro Cq Tq hq; cases hq; rfl) sh1 (by decide) (shp_pk sh100 (by decide)) (fun _ => trivial) dX8_init_82 (fun m21 => ?_)
  refine T_aload_n C.1 dX8_init_85 0 rfl ?_
  refine T_new (a := 103) (ci := 5) C.1 dX8_init_86 (by omega) wm_2_23 wm_2_24 wm_1_10 rfl tyX5_ok (by decide) inX5 sh103 (by decide) (by decide) (fun _ => trivial) (fun m22 => ?_)
  refine T_dup C.1 dX8_init_89 rfl ?_
  refine T_callI (rm := rm_X5_init) (n2 := 112) (mc := 9) (ms := 378) [] [.ref (cx.2.2.1 + 103), .ref (cx.2.2.1 + 1)] C.1 dX8_init_90 mw_X5_init rfl wm_2_25 wm_2_26 ⟨⟨Nat.le_of_ble_eq_true rfl, Nat.le_of_ble_eq_true rfl⟩, rfl, rfl, by decide, by decide, (by omega)⟩ rfl rfl (Nat.le_of_ble_eq_true rfl) (c_X5_init ll cx m22) (fun m23 _ => ?_)
  refine T_putFR (x := 103) C.1 C.2.2.2 (fun _ _ _ _ => rfl) (fun _ => rfl) (fun _ => rfl) fd_X8_59 (by intro Cq Tq hq; cases hq; rfl) sh1 (by decide) (shp_pk sh103 (by decide)) (fun _ => trivial) dX8_init_93 (fun m24 => ?_)
  refine T_aload_n C.1 dX8_init_96 0 rfl ?_
  refine T_iconst C.1 dX8_init_97 ?_
  refine T_putI C.1 LyI_T fd_X8_63 sh1 (by decide) dX8_init_98 (fun m25 => ?_)
  exact T_vret C.1 C.2.1 C.2.2.1 dX8_init_101
def rm_X9_init : Room := { frames := 1, cells := 43, slots := 2088, locals := 40 }
def F_X9_init (m : Mm) : Option (Unit × Mm) :=
  nm (clr m 114) fun m1 =>
  nm (pR m1 113 2 114) fun m2 =>
  nm (clr m2 115) fun m3 =>
  wrI 49 m3 115 (iI 0) (iI 5) fun m4 =>
  wrI 49 m4 115 (iI 1) (iI 5) fun m5 =>
  wrI 49 m5 115 (iI 2) (iI 5) fun m6 =>
  wrI 49 m6 115 (iI 3) (iI 5) fun m7 =>
  wrI 49 m7 115 (iI 4) (iI 5) fun m8 =>
  wrI 49 m8 115 (iI 5) (iI 5) fun m9 =>
  wrI 49 m9 115 (iI 6) (iI 5) fun m10 =>
  wrI 49 m10 115 (iI 7) (iI 5) fun m11 =>
  wrI 49 m11 115 (iI 8) (iI 5) fun m12 =>
  wrI 49 m12 115 (iI 9) (iI 5) fun m13 =>
  wrI 49 m13 115 (iI 10) (iI 5) fun m14 =>
  wrI 49 m14 115 (iI 11) (iI 5) fun m15 =>
  wrI 49 m15 115 (iI 12) (iI 5) fun m16 =>
  wrI 49 m16 115 (iI 13) (iI 5) fun m17 =>
  wrI 49 m17 115 (iI 14) (iI 5) fun m18 =>
  wrI 49 m18 115 (iI 15) (iI 5) fun m19 =>
  wrI 49 m19 115 (iI 16) (iI 5) fun m20 =>
  wrI 49 m20 115 (iI 17) (iI 5) fun m21 =>
  wrI 49 m21 115 (iI 18) (iI 5) fun m22 =>
  wrI 49 m22 115 (iI 19) (iI 5) fun m23 =>
  wrI 49 m23 115 (iI 20) (iI 5) fun m24 =>
  wrI 49 m24 115 (iI 21) (iI 5) fun m25 =>
  wrI 49 m25 115 (iI 22) (iI 5) fun m26 =>
  wrI 49 m26 115 (iI 23) (iI 5) fun m27 =>
  wrI 49 m27 115 (iI 24) (iI 5) fun m28 =>
  wrI 49 m28 115 (iI 25) (iI 5) fun m29 =>
  wrI 49 m29 115 (iI 26) (iI 5) fun m30 =>
  wrI 49 m30 115 (iI 27) (iI 5) fun m31 =>
  wrI 49 m31 115 (iI 28) (iI 5) fun m32 =>
  wrI 49 m32 115 (iI 29) (iI 5) fun m33 =>
  wrI 49 m33 115 (iI 30) (iI 5) fun m34 =>
  wrI 49 m34 115 (iI 31) (iI 5) fun m35 =>
  wrI 49 m35 115 (iI 32) (iI 5) fun m36 =>
  wrI 49 m36 115 (iI 33) (iI 5) fun m37 =>
  wrI 49 m37 115 (iI 34) (iI 5) fun m38 =>
  wrI 49 m38 115 (iI 35) (iI 5) fun m39 =>
  wrI 49 m39 115 (iI 36) (iI 5) fun m40 =>
  wrI 49 m40 115 (iI 37) (iI 5) fun m41 =>
  wrI 49 m41 115 (iI 38) (iI 5) fun m42 =>
  wrI 49 m42 115 (iI 39) (iI 5) fun m43 =>
  wrI 49 m43 115 (iI 40) (iI 5) fun m44 =>
  wrI 49 m44 115 (iI 41) (iI 5) fun m45 =>
  wrI 49 m45 115 (iI 42) (iI 5) fun m46 =>
  wrI 49 m46 115 (iI 43) (iI 5) fun m47 =>
  wrI 49 m47 115 (iI 44) (iI 5) fun m48 =>
  wrI 49 m48 115 (iI 45) (iI 5) fun m49 =>
  wrI 49 m49 115 (iI 46) (iI 5) fun m50 =>
  wrI 49 m50 115 (iI 47) (iI 5) fun m51 =>
  wrI 49 m51 115 (iI 48) (iI 5) fun m52 =>
  nm (pR m52 113 3 115) fun m53 =>
  nm (clr m53 116) fun m54 =>
  nm (pR m54 113 4 116) fun m55 =>
  nm (pI m55 113 5 (iI 3)) fun m56 =>
  nm (clr m56 117) fun m57 =>
  nm (pR m57 113 7 117) fun m58 =>
  nm (clr m58 118) fun m59 =>
  nm (pR m59 113 8 118) fun m60 =>
  nm (clr m60 119) fun m61 =>
  nm (pR m61 113 9 119) fun m62 =>
  nm (clr m62 120) fun m63 =>
  nm (pR m63 113 10 120) fun m64 =>
  nm (clr m64 121) fun m65 =>
  wrI 2 m65 121 (iI 0) (iI (-1)) fun m66 =>
  wrI 2 m66 121 (iI 1) (iI (-1)) fun m67 =>
  nm (pR m67 113 11 121) fun m68 =>
  nm (clr m68 122) fun m69 =>
  nm (pR m69 113 12 122) fun m70 =>
  nm (clr m70 123) fun m71 =>
  nm (pR m71 113 13 123) fun m72 =>
  nm (clr m72 124) fun m73 =>
  nm (pR m73 113 14 124) fun m74 =>
  nm (pI m74 113 17 (iI (-1))) fun m75 =>
  nm (clr m75 125) fun m76 =>
  nm (pR m76 113 22 125) fun m77 =>
  nm (clr m77 126) fun m78 =>
  nm (pR m78 113 23 126) fun m79 =>
  nm (clr m79 127) fun m80 =>
  nm (pR m80 113 24 127) fun m81 =>
  nm (clr m81 128) fun m82 =>
  nm (pR m82 113 25 128) fun m83 =>
  nm (clr m83 129) fun m84 =>
  nm (pR m84 113 26 129) fun m85 =>
  nm (clr m85 130) fun m86 =>
  nm (pR m86 113 32 130) fun m87 =>
  nm (clr m87 131) fun m88 =>
  nm (pR m88 113 33 131) fun m89 =>
  nm (clr m89 132) fun m90 =>
  nm (pR m90 113 34 132) fun m91 =>
  nm (clr m91 133) fun m92 =>
  nm (pR m92 113 35 133) fun m93 =>
  nm (clr m93 134) fun m94 =>
  nm (pR m94 113 36 134) fun m95 =>
  nm (clr m95 135) fun m96 =>
  nm (pR m96 113 37 135) fun m97 =>
  nm (clr m97 136) fun m98 =>
  nm (pR m98 113 38 136) fun m99 =>
  nm (clr m99 137) fun m100 =>
  nm (pR m100 113 40 137) fun m101 =>
  nm (clr m101 138) fun m102 =>
  nm (pR m102 113 41 138) fun m103 =>
  nm (clr m103 139) fun m104 =>
  nm (pR m104 113 42 139) fun m105 =>
  nm (clr m105 140) fun m106 =>
  nm (pR m106 113 43 140) fun m107 =>
  nm (clr m107 141) fun m108 =>
  nm (pR m108 113 44 141) fun m109 =>
  nm (clr m109 142) fun m110 =>
  nm (pR m110 113 45 142) fun m111 =>
  nm (clr m111 143) fun m112 =>
  nm (pR m112 113 46 143) fun m113 =>
  nm (clr m113 144) fun m114 =>
  nm (pR m114 113 48 144) fun m115 =>
  nm (clr m115 145) fun m116 =>
  nm (pR m116 113 49 145) fun m117 =>
  nm (clr m117 146) fun m118 =>
  nm (pR m118 113 50 146) fun m119 =>
  nm (pI m119 113 51 (iI (-1))) fun m120 =>
  nm (clr m120 147) fun m121 =>
  nm (pR m121 113 52 147) fun m122 =>
  nm (clr m122 148) fun m123 =>
  nm (pR m123 113 53 148) fun m124 =>
  nm (clr m124 149) fun m125 =>
  nm (pR m125 113 54 149) fun m126 =>
  nm (clr m126 150) fun m127 =>
  nm (pR m127 113 55 150) fun m128 =>
  nm (clr m128 151) fun m129 =>
  nm (pR m129 113 57 151) fun m130 =>
  nm (clr m130 152) fun m131 =>
  nm (pR m131 113 59 152) fun m132 =>
  nm (clr m132 153) fun m133 =>
  wrI 6 m133 153 (iI 0) (iI (-1)) fun m134 =>
  wrI 6 m134 153 (iI 1) (iI (-1)) fun m135 =>
  wrI 6 m135 153 (iI 2) (iI (-1)) fun m136 =>
  wrI 6 m136 153 (iI 3) (iI (-1)) fun m137 =>
  wrI 6 m137 153 (iI 4) (iI (-1)) fun m138 =>
  wrI 6 m138 153 (iI 5) (iI (-1)) fun m139 =>
  nm (pR m139 113 60 153) fun m140 =>
  nm (clr m140 154) fun m141 =>
  nm (pR m141 113 61 154) fun m142 =>
  nm (clr m142 155) fun m143 =>
  nm (pR m143 113 62 155) fun m144 =>
  nm (clr m144 156) fun m145 =>
  nm (pR m145 113 63 156) fun m146 =>
  some ((), m146)
set_option maxRecDepth 100000 in
set_option maxHeartbeats 8000000 in
theorem c_X9_init (ll : Launch) (cx : CX) (m : Mm) : MT ll yX9_init cX9_init 1 none rm_X9_init cx 113 156 (fun _ => True) cvV 43 2088 [.ref (cx.2.2.1 + 113)] m (F_X9_init m) := by
  refine MT_of (by decide) (Nat.le_of_ble_eq_true rfl) ?_
  intro pp ee ss mm aa bb me co hK hr hk hn
  have C : CM3 pp ss mm aa me co cX9_init 1 RX9 cx none := ⟨hK, hr, hk, hn⟩
  show T pp ll ee rm_X9_init ss mm aa bb me co 1 cx 113 (fun _ => True) 0 0 _ 0 [(0, .ref (cx.2.2.1 + 113))] [] m (F_X9_init m)
  unfold F_X9_init
  refine T_aload_n C.1 dX9_init_0 0 rfl ?_
  refine T_objInit C.1 dX9_init_1 wm_4_186 wm_1_21 wm_1_22 (by decide) (by decide) ?_
  refine T_aload_n C.1 dX9_init_4 0 rfl ?_
  refine T_bipush C.1 dX9_init_5 rfl ?_
  refine T_newa1 (a := 114) (len := 49) C.1 dX9_init_7 (by omega) wm_1_54 sh114 (by decide) (by decide) (by decide) (by decide) (by decide) (fun _ => trivial) (fun m1 => ?_)
  refine T_putFR (x := 114) C.1 C.2.2.2 (fun _ _ _ _ => rfl) (fun _ => rfl) (fun _ => rfl) fd_X9_7 (by intro Cq Tq hq; cases hq; rfl) sh113 (by decide) (shp_pk sh114 (by decide)) (fun _ => trivial) dX9_init_9 (fun m2 => ?_)
  refine T_aload_n C.1 dX9_init_12 0 rfl ?_
  refine T_bipush C.1 dX9_init_13 rfl ?_
  refine T_newa1 (a := 115) (len := 49) C.1 dX9_init_15 (by omega) wm_1_54 sh115 (by decide) (by decide) (by decide) (by decide) (by decide) (fun _ => trivial) (fun m3 => ?_)
  refine T_dup C.1 dX9_init_17 rfl ?_
  refine T_iconst C.1 dX9_init_18 ?_
  refine T_iconst C.1 dX9_init_19 ?_
  refine T_iast C.1 LyI_T sh115 (by decide) dX9_init_20 (fun m4 => ?_)
  refine T_dup C.1 dX9_init_21 rfl ?_
  refine T_iconst C.1 dX9_init_22 ?_
  refine T_iconst C.1 dX9_init_23 ?_
  refine T_iast C.1 LyI_T sh115 (by decide) dX9_init_24 (fun m5 => ?_)
  refine T_dup C.1 dX9_init_25 rfl ?_
  refine T_iconst C.1 dX9_init_26 ?_
  refine T_iconst C.1 dX9_init_27 ?_
  refine T_iast C.1 LyI_T sh115 (by decide) dX9_init_28 (fun m6 => ?_)
  refine T_dup C.1 dX9_init_29 rfl ?_
  refine T_iconst C.1 dX9_init_30 ?_
  refine T_iconst C.1 dX9_init_31 ?_
  refine T_iast C.1 LyI_T sh115 (by decide) dX9_init_32 (fun m7 => ?_)
  refine T_dup C.1 dX9_init_33 rfl ?_
  refine T_iconst C.1 dX9_init_34 ?_
  refine T_iconst C.1 dX9_init_35 ?_
  refine T_iast C.1 LyI_T sh115 (by decide) dX9_init_36 (fun m8 => ?_)
  refine T_dup C.1 dX9_init_37 rfl ?_
  refine T_iconst C.1 dX9_init_38 ?_
  refine T_iconst C.1 dX9_init_39 ?_
  refine T_iast C.1 LyI_T sh115 (by decide) dX9_init_40 (fun m9 => ?_)
  refine T_dup C.1 dX9_init_41 rfl ?_
  refine T_bipush C.1 dX9_init_42 rfl ?_
  refine T_iconst C.1 dX9_init_44 ?_
  refine T_iast C.1 LyI_T sh115 (by decide) dX9_init_45 (fun m10 => ?_)
  refine T_dup C.1 dX9_init_46 rfl ?_
  refine T_bipush C.1 dX9_init_47 rfl ?_
  refine T_iconst C.1 dX9_init_49 ?_
  refine T_iast C.1 LyI_T sh115 (by decide) dX9_init_50 (fun m11 => ?_)
  refine T_dup C.1 dX9_init_51 rfl ?_
  refine T_bipush C.1 dX9_init_52 rfl ?_
  refine T_iconst C.1 dX9_init_54 ?_
  refine T_iast C.1 LyI_T sh115 (by decide) dX9_init_55 (fun m12 => ?_)
  refine T_dup C.1 dX9_init_56 rfl ?_
  refine T_bipush C.1 dX9_init_57 rfl ?_
  refine T_iconst C.1 dX9_init_59 ?_
  refine T_iast C.1 LyI_T sh115 (by decide) dX9_init_60 (fun m13 => ?_)
  refine T_dup C.1 dX9_init_61 rfl ?_
  refine T_bipush C.1 dX9_init_62 rfl ?_
  refine T_iconst C.1 dX9_init_64 ?_
  refine T_iast C.1 LyI_T sh115 (by decide) dX9_init_65 (fun m14 => ?_)
  refine T_dup C.1 dX9_init_66 rfl ?_
  refine T_bipush C.1 dX9_init_67 rfl ?_
  refine T_iconst C.1 dX9_init_69 ?_
  refine T_iast C.1 LyI_T sh115 (by decide) dX9_init_70 (fun m15 => ?_)
  refine T_dup C.1 dX9_init_71 rfl ?_
  refine T_bipush C.1 dX9_init_72 rfl ?_
  refine T_iconst C.1 dX9_init_74 ?_
  refine T_iast C.1 LyI_T sh115 (by decide) dX9_init_75 (fun m16 => ?_)
  refine T_dup C.1 dX9_init_76 rfl ?_
  refine T_bipush C.1 dX9_init_77 rfl ?_
  refine T_iconst C.1 dX9_init_79 ?_
  refine T_iast C.1 LyI_T sh115 (by decide) dX9_init_80 (fun m17 => ?_)
  refine T_dup C.1 dX9_init_81 rfl ?_
  refine T_bipush C.1 dX9_init_82 rfl ?_
  refine T_iconst C.1 dX9_init_84 ?_
  refine T_iast C.1 LyI_T sh115 (by decide) dX9_init_85 (fun m18 => ?_)
  refine T_dup C.1 dX9_init_86 rfl ?_
  refine T_bipush C.1 dX9_init_87 rfl ?_
  refine T_iconst C.1 dX9_init_89 ?_
  refine T_iast C.1 LyI_T sh115 (by decide) dX9_init_90 (fun m19 => ?_)
  refine T_dup C.1 dX9_init_91 rfl ?_
  refine T_bipush C.1 dX9_init_92 rfl ?_
  refine T_iconst C.1 dX9_init_94 ?_
  refine T_iast C.1 LyI_T sh115 (by decide) dX9_init_95 (fun m20 => ?_)
  refine T_dup C.1 dX9_init_96 rfl ?_
  refine T_bipush C.1 dX9_init_97 rfl ?_
  refine T_iconst C.1 dX9_init_99 ?_
  refine T_iast C.1 LyI_T sh115 (by decide) dX9_init_100 (fun m21 => ?_)
  refine T_dup C.1 dX9_init_101 rfl ?_
  refine T_bipush C.1 dX9_init_102 rfl ?_
  refine T_iconst C.1 dX9_init_104 ?_
  refine T_iast C.1 LyI_T sh115 (by decide) dX9_init_105 (fun m22 => ?_)
  refine T_dup C.1 dX9_init_106 rfl ?_
  refine T_bipush C.1 dX9_init_107 rfl ?_
  refine T_iconst C.1 dX9_init_109 ?_
  refine T_iast C.1 LyI_T sh115 (by decide) dX9_init_110 (fun m23 => ?_)
  refine T_dup C.1 dX9_init_111 rfl ?_
  refine T_bipush C.1 dX9_init_112 rfl ?_
  refine T_iconst C.1 dX9_init_114 ?_
  refine T_iast C.1 LyI_T sh115 (by decide) dX9_init_115 (fun m24 => ?_)
  refine T_dup C.1 dX9_init_116 rfl ?_
  refine T_bipush C.1 dX9_init_117 rfl ?_
  refine T_iconst C.1 dX9_init_119 ?_
  refine T_iast C.1 LyI_T sh115 (by decide) dX9_init_120 (fun m25 => ?_)
  refine T_dup C.1 dX9_init_121 rfl ?_
  refine T_bipush C.1 dX9_init_122 rfl ?_
  refine T_iconst C.1 dX9_init_124 ?_
  refine T_iast C.1 LyI_T sh115 (by decide) dX9_init_125 (fun m26 => ?_)
  refine T_dup C.1 dX9_init_126 rfl ?_
  refine T_bipush C.1 dX9_init_127 rfl ?_
  refine T_iconst C.1 dX9_init_129 ?_
  refine T_iast C.1 LyI_T sh115 (by decide) dX9_init_130 (fun m27 => ?_)
  refine T_dup C.1 dX9_init_131 rfl ?_
  refine T_bipush C.1 dX9_init_132 rfl ?_
  refine T_iconst C.1 dX9_init_134 ?_
  refine T_iast C.1 LyI_T sh115 (by decide) dX9_init_135 (fun m28 => ?_)
  refine T_dup C.1 dX9_init_136 rfl ?_
  refine T_bipush C.1 dX9_init_137 rfl ?_
  refine T_iconst C.1 dX9_init_139 ?_
  refine T_iast C.1 LyI_T sh115 (by decide) dX9_init_140 (fun m29 => ?_)
  refine T_dup C.1 dX9_init_141 rfl ?_
  refine T_bipush C.1 dX9_init_142 rfl ?_
  refine T_iconst C.1 dX9_init_144 ?_
  refine T_iast C.1 LyI_T sh115 (by decide) dX9_init_145 (fun m30 => ?_)
  refine T_dup C.1 dX9_init_146 rfl ?_
  refine T_bipush C.1 dX9_init_147 rfl ?_
  refine T_iconst C.1 dX9_init_149 ?_
  refine T_iast C.1 LyI_T sh115 (by decide) dX9_init_150 (fun m31 => ?_)
  refine T_dup C.1 dX9_init_151 rfl ?_
  refine T_bipush C.1 dX9_init_152 rfl ?_
  refine T_iconst C.1 dX9_init_154 ?_
  refine T_iast C.1 LyI_T sh115 (by decide) dX9_init_155 (fun m32 => ?_)
  refine T_dup C.1 dX9_init_156 rfl ?_
  refine T_bipush C.1 dX9_init_157 rfl ?_
  refine T_iconst C.1 dX9_init_159 ?_
  refine T_iast C.1 LyI_T sh115 (by decide) dX9_init_160 (fun m33 => ?_)
  refine T_dup C.1 dX9_init_161 rfl ?_
  refine T_bipush C.1 dX9_init_162 rfl ?_
  refine T_iconst C.1 dX9_init_164 ?_
  refine T_iast C.1 LyI_T sh115 (by decide) dX9_init_165 (fun m34 => ?_)
  refine T_dup C.1 dX9_init_166 rfl ?_
  refine T_bipush C.1 dX9_init_167 rfl ?_
  refine T_iconst C.1 dX9_init_169 ?_
  refine T_iast C.1 LyI_T sh115 (by decide) dX9_init_170 (fun m35 => ?_)
  refine T_dup C.1 dX9_init_171 rfl ?_
  refine T_bipush C.1 dX9_init_172 rfl ?_
  refine T_iconst C.1 dX9_init_174 ?_
  refine T_iast C.1 LyI_T sh115 (by decide) dX9_init_175 (fun m36 => ?_)
  refine T_dup C.1 dX9_init_176 rfl ?_
  refine T_bipush C.1 dX9_init_177 rfl ?_
  refine T_iconst C.1 dX9_init_179 ?_
  refine T_iast C.1 LyI_T sh115 (by decide) dX9_init_180 (fun m37 => ?_)
  refine T_dup C.1 dX9_init_181 rfl ?_
  refine T_bipush C.1 dX9_init_182 rfl ?_
  refine T_iconst C.1 dX9_init_184 ?_
  refine T_iast C.1 LyI_T sh115 (by decide) dX9_init_185 (fun m38 => ?_)
  refine T_dup C.1 dX9_init_186 rfl ?_
  refine T_bipush C.1 dX9_init_187 rfl ?_
  refine T_iconst C.1 dX9_init_189 ?_
  refine T_iast C.1 LyI_T sh115 (by decide) dX9_init_190 (fun m39 => ?_)
  refine T_dup C.1 dX9_init_191 rfl ?_
  refine T_bipush C.1 dX9_init_192 rfl ?_
  refine T_iconst C.1 dX9_init_194 ?_
  refine T_iast C.1 LyI_T sh115 (by decide) dX9_init_195 (fun m40 => ?_)
  refine T_dup C.1 dX9_init_196 rfl ?_
  refine T_bipush C.1 dX9_init_197 rfl ?_
  refine T_iconst C.1 dX9_init_199 ?_
  refine T_iast C.1 LyI_T sh115 (by decide) dX9_init_200 (fun m41 => ?_)
  refine T_dup C.1 dX9_init_201 rfl ?_
  refine T_bipush C.1 dX9_init_202 rfl ?_
  refine T_iconst C.1 dX9_init_204 ?_
  refine T_iast C.1 LyI_T sh115 (by decide) dX9_init_205 (fun m42 => ?_)
  refine T_dup C.1 dX9_init_206 rfl ?_
  refine T_bipush C.1 dX9_init_207 rfl ?_
  refine T_iconst C.1 dX9_init_209 ?_
  refine T_iast C.1 LyI_T sh115 (by decide) dX9_init_210 (fun m43 => ?_)
  refine T_dup C.1 dX9_init_211 rfl ?_
  refine T_bipush C.1 dX9_init_212 rfl ?_
  refine T_iconst C.1 dX9_init_214 ?_
  refine T_iast C.1 LyI_T sh115 (by decide) dX9_init_215 (fun m44 => ?_)
  refine T_dup C.1 dX9_init_216 rfl ?_
  refine T_bipush C.1 dX9_init_217 rfl ?_
  refine T_iconst C.1 dX9_init_219 ?_
  refine T_iast C.1 LyI_T sh115 (by decide) dX9_init_220 (fun m45 => ?_)
  refine T_dup C.1 dX9_init_221 rfl ?_
  refine T_bipush C.1 dX9_init_222 rfl ?_
  refine T_iconst C.1 dX9_init_224 ?_
  refine T_iast C.1 LyI_T sh115 (by decide) dX9_init_225 (fun m46 => ?_)
  refine T_dup C.1 dX9_init_226 rfl ?_
  refine T_bipush C.1 dX9_init_227 rfl ?_
  refine T_iconst C.1 dX9_init_229 ?_
  refine T_iast C.1 LyI_T sh115 (by decide) dX9_init_230 (fun m47 => ?_)
  refine T_dup C.1 dX9_init_231 rfl ?_
  refine T_bipush C.1 dX9_init_232 rfl ?_
  refine T_iconst C.1 dX9_init_234 ?_
  refine T_iast C.1 LyI_T sh115 (by decide) dX9_init_235 (fun m48 => ?_)
  refine T_dup C.1 dX9_init_236 rfl ?_
  refine T_bipush C.1 dX9_init_237 rfl ?_
  refine T_iconst C.1 dX9_init_239 ?_
  refine T_iast C.1 LyI_T sh115 (by decide) dX9_init_240 (fun m49 => ?_)
  refine T_dup C.1 dX9_init_241 rfl ?_
  refine T_bipush C.1 dX9_init_242 rfl ?_
  refine T_iconst C.1 dX9_init_244 ?_
  refine T_iast C.1 LyI_T sh115 (by decide) dX9_init_245 (fun m50 => ?_)
  refine T_dup C.1 dX9_init_246 rfl ?_
  refine T_bipush C.1 dX9_init_247 rfl ?_
  refine T_iconst C.1 dX9_init_249 ?_
  refine T_iast C.1 LyI_T sh115 (by decide) dX9_init_250 (fun m51 => ?_)
  refine T_dup C.1 dX9_init_251 rfl ?_
  refine T_bipush C.1 dX9_init_252 rfl ?_
  refine T_iconst C.1 dX9_init_254 ?_
  refine T_iast C.1 LyI_T sh115 (by decide) dX9_init_255 (fun m52 => ?_)
  refine T_putFR (x := 115) C.1 C.2.2.2 (fun _ _ _ _ => rfl) (fun _ => rfl) (fun _ => rfl) fd_X9_13 (by intro Cq Tq hq; cases hq; rfl) sh113 (by decide) (shp_pk sh115 (by decide)) (fun _ => trivial) dX9_init_256 (fun m53 => ?_)
  refine T_aload_n C.1 dX9_init_259 0 rfl ?_
  refine T_bipush C.1 dX9_init_260 rfl ?_
  refine T_newa1 (a := 116) (len := 7) C.1 dX9_init_262 (by omega) wm_1_54 sh116 (by decide) (by decide) (by decide) (by decide) (by decide) (fun _ => trivial) (fun m54 => ?_)
  refine T_putFR (x := 116) C.1 C.2.2.2 (fun _ _ _ _ => rfl) (fun _ => rfl) (fun _ => rfl) fd_X9_16 (by intro Cq Tq hq; cases hq; rfl) sh113 (by decide) (shp_pk sh116 (by decide)) (fun _ => trivial) dX9_init_264 (fun m55 => ?_)
  refine T_aload_n C.1 dX9_init_267 0 rfl ?_
  refine T_iconst C.1 dX9_init_268 ?_
  refine T_putI C.1 LyI_T fd_X9_19 sh113 (by decide) dX9_init_269 (fun m56 => ?_)
  refine T_aload_n C.1 dX9_init_272 0 rfl ?_
  refine T_bipush C.1 dX9_init_273 rfl ?_
  refine T_newa1 (a := 117) (len := 7) C.1 dX9_init_275 (by omega) wm_1_54 sh117 (by decide) (by decide) (by decide) (by decide) (by decide) (fun _ => trivial) (fun m57 => ?_)
  refine T_putFR (x := 117) C.1 C.2.2.2 (fun _ _ _ _ => rfl) (fun _ => rfl) (fun _ => rfl) fd_X9_23 (by intro Cq Tq hq; cases hq; rfl) sh113 (by decide) (shp_pk sh117 (by decide)) (fun _ => trivial) dX9_init_277 (fun m58 => ?_)
  refine T_aload_n C.1 dX9_init_280 0 rfl ?_
  refine T_bipush C.1 dX9_init_281 rfl ?_
  refine T_newa1 (a := 118) (len := 14) C.1 dX9_init_283 (by omega) wm_1_54 sh118 (by decide) (by decide) (by decide) (by decide) (by decide) (fun _ => trivial) (fun m59 => ?_)
  refine T_putFR (x := 118) C.1 C.2.2.2 (fun _ _ _ _ => rfl) (fun _ => rfl) (fun _ => rfl) fd_X9_26 (by intro Cq Tq hq; cases hq; rfl) sh113 (by decide) (shp_pk sh118 (by decide)) (fun _ => trivial) dX9_init_285 (fun m60 => ?_)
  refine T_aload_n C.1 dX9_init_288 0 rfl ?_
  refine T_bipush C.1 dX9_init_289 rfl ?_
  refine T_newa1 (a := 119) (len := 14) C.1 dX9_init_291 (by omega) wm_1_54 sh119 (by decide) (by decide) (by decide) (by decide) (by decide) (fun _ => trivial) (fun m61 => ?_)
  refine T_putFR (x := 119) C.1 C.2.2.2 (fun _ _ _ _ => rfl) (fun _ => rfl) (fun _ => rfl) fd_X9_29 (by intro Cq Tq hq; cases hq; rfl) sh113 (by decide) (shp_pk sh119 (by decide)) (fun _ => trivial) dX9_init_293 (fun m62 => ?_)
  refine T_aload_n C.1 dX9_init_296 0 rfl ?_
  refine T_iconst C.1 dX9_init_297 ?_
  refine T_newa1 (a := 120) (len := 2) C.1 dX9_init_298 (by omega) wm_1_54 sh120 (by decide) (by decide) (by decide) (by decide) (by decide) (fun _ => trivial) (fun m63 => ?_)
  refine T_putFR (x := 120) C.1 C.2.2.2 (fun _ _ _ _ => rfl) (fun _ => rfl) (fun _ => rfl) fd_X9_32 (by intro Cq Tq hq; cases hq; rfl) sh113 (by decide) (shp_pk sh120 (by decide)) (fun _ => trivial) dX9_init_300 (fun m64 => ?_)
  refine T_aload_n C.1 dX9_init_303 0 rfl ?_
  refine T_iconst C.1 dX9_init_304 ?_
  refine T_newa1 (a := 121) (len := 2) C.1 dX9_init_305 (by omega) wm_1_54 sh121 (by decide) (by decide) (by decide) (by decide) (by decide) (fun _ => trivial) (fun m65 => ?_)
  refine T_dup C.1 dX9_init_307 rfl ?_
  refine T_iconst C.1 dX9_init_308 ?_
  refine T_iconst C.1 dX9_init_309 ?_
  refine T_iast C.1 LyI_T sh121 (by decide) dX9_init_310 (fun m66 => ?_)
  refine T_dup C.1 dX9_init_311 rfl ?_
  refine T_iconst C.1 dX9_init_312 ?_
  refine T_iconst C.1 dX9_init_313 ?_
  refine T_iast C.1 LyI_T sh121 (by decide) dX9_init_314 (fun m67 => ?_)
  refine T_putFR (x := 121) C.1 C.2.2.2 (fun _ _ _ _ => rfl) (fun _ => rfl) (fun _ => rfl) fd_X9_35 (by intro Cq Tq hq; cases hq; rfl) sh113 (by decide) (shp_pk sh121 (by decide)) (fun _ => trivial) dX9_init_315 (fun m68 => ?_)
  refine T_aload_n C.1 dX9_init_318 0 rfl ?_
  refine T_iconst C.1 dX9_init_319 ?_
  refine T_newa1 (a := 122) (len := 2) C.1 dX9_init_320 (by omega) wm_1_54 sh122 (by decide) (by decide) (by decide) (by decide) (by decide) (fun _ => trivial) (fun m69 => ?_)
  refine T_putFR (x := 122) C.1 C.2.2.2 (fun _ _ _ _ => rfl) (fun _ => rfl) (fun _ => rfl) fd_X9_38 (by intro Cq Tq hq; cases hq; rfl) sh113 (by decide) (shp_pk sh122 (by decide)) (fun _ => trivial) dX9_init_322 (fun m70 => ?_)
  refine T_aload_n C.1 dX9_init_325 0 rfl ?_
  refine T_iconst C.1 dX9_init_326 ?_
  refine T_newa1 (a := 123) (len := 2) C.1 dX9_init_327 (by omega) wm_1_54 sh123 (by decide) (by decide) (by decide) (by decide) (by decide) (fun _ => trivial) (fun m71 => ?_)
  refine T_putFR (x := 123) C.1 C.2.2.2 (fun _ _ _ _ => rfl) (fun _ => rfl) (fun _ => rfl) fd_X9_41 (by intro Cq Tq hq; cases hq; rfl) sh113 (by decide) (shp_pk sh123 (by decide)) (fun _ => trivial) dX9_init_329 (fun m72 => ?_)
  refine T_aload_n C.1 dX9_init_332 0 rfl ?_
  refine T_iconst C.1 dX9_init_333 ?_
  refine T_newa1 (a := 124) (len := 2) C.1 dX9_init_334 (by omega) wm_1_54 sh124 (by decide) (by decide) (by decide) (by decide) (by decide) (fun _ => trivial) (fun m73 => ?_)
  refine T_putFR (x := 124) C.1 C.2.2.2 (fun _ _ _ _ => rfl) (fun _ => rfl) (fun _ => rfl) fd_X9_44 (by intro Cq Tq hq; cases hq; rfl) sh113 (by decide) (shp_pk sh124 (by decide)) (fun _ => trivial) dX9_init_336 (fun m74 => ?_)
  refine T_aload_n C.1 dX9_init_339 0 rfl ?_
  refine T_iconst C.1 dX9_init_340 ?_
  refine T_putI C.1 LyI_T fd_X9_47 sh113 (by decide) dX9_init_341 (fun m75 => ?_)
  refine T_aload_n C.1 dX9_init_344 0 rfl ?_
  refine T_bipush C.1 dX9_init_345 rfl ?_
  refine T_newa1 (a := 125) (len := 40) C.1 dX9_init_347 (by omega) wm_1_54 sh125 (by decide) (by decide) (by decide) (by decide) (by decide) (fun _ => trivial) (fun m76 => ?_)
  refine T_putFR (x := 125) C.1 C.2.2.2 (fun _ _ _ _ => rfl) (fun _ => rfl) (fun _ => rfl) fd_X9_50 (by intro Cq Tq hq; cases hq; rfl) sh113 (by decide) (shp_pk sh125 (by decide)) (fun _ => trivial) dX9_init_349 (fun m77 => ?_)
  refine T_aload_n C.1 dX9_init_352 0 rfl ?_
  refine T_bipush C.1 dX9_init_353 rfl ?_
  refine T_newa1 (a := 126) (len := 40) C.1 dX9_init_355 (by omega) wm_1_54 sh126 (by decide) (by decide) (by decide) (by decide) (by decide) (fun _ => trivial) (fun m78 => ?_)
  refine T_putFR (x := 126) C.1 C.2.2.2 (fun _ _ _ _ => rfl) (fun _ => rfl) (fun _ => rfl) fd_X9_53 (by intro Cq Tq hq; cases hq; rfl) sh113 (by decide) (shp_pk sh126 (by decide)) (fun _ => trivial) dX9_init_357 (fun m79 => ?_)
  refine T_aload_n C.1 dX9_init_360 0 rfl ?_
  refine T_bipush C.1 dX9_init_361 rfl ?_
  refine T_newa1 (a := 127) (len := 40) C.1 dX9_init_363 (by omega) wm_1_54 sh127 (by decide) (by decide) (by decide) (by decide) (by decide) (fun _ => trivial) (fun m80 => ?_)
  refine T_putFR (x := 127) C.1 C.2.2.2 (fun _ _ _ _ => rfl) (fun _ => rfl) (fun _ => rfl) fd_X9_56 (by intro Cq Tq hq; cases hq; rfl) sh113 (by decide) (shp_pk sh127 (by decide)) (fun _ => trivial) dX9_init_365 (fun m81 => ?_)
  refine T_aload_n C.1 dX9_init_368 0 rfl ?_
  refine T_bipush C.1 dX9_init_369 rfl ?_
  refine T_newa1 (a := 128) (len := 40) C.1 dX9_init_371 (by omega) wm_1_54 sh128 (by decide) (by decide) (by decide) (by decide) (by decide) (fun _ => trivial) (fun m82 => ?_)
  refine T_putFR (x := 128) C.1 C.2.2.2 (fun _ _ _ _ => rfl) (fun _ => rfl) (fun _ => rfl) fd_X9_59 (by intro Cq Tq hq; cases hq; rfl) sh113 (by decide) (shp_pk sh128 (by decide)) (fun _ => trivial) dX9_init_373 (fun m83 => ?_)
  refine T_aload_n C.1 dX9_init_376 0 rfl ?_
  refine T_bipush C.1 dX9_init_377 rfl ?_
  refine T_newa2 (a := 129) (len := 120) C.1 dX9_init_379 (by omega) wm_5_139 sh129 (by decide) (by decide) (by decide) (by decide) (by decide) (fun _ => trivial) (fun m84 => ?_)
  refine T_putFR (x := 129) C.1 C.2.2.2 (fun _ _ _ _ => rfl) (fun _ => rfl) (fun _ => rfl) fd_X9_62 (by intro Cq Tq hq; cases hq; rfl) sh113 (by decide) (shp_pk sh129 (by decide)) (fun _ => trivial) dX9_init_381 (fun m85 => ?_)
  refine T_aload_n C.1 dX9_init_384 0 rfl ?_
  refine T_sipush C.1 dX9_init_385 rfl ?_
  refine T_newa2 (a := 130) (len := 260) C.1 dX9_init_388 (by omega) wm_5_139 sh130 (by decide) (by decide) (by decide) (by decide) (by decide) (fun _ => trivial) (fun m86 => ?_)
  refine T_putFR (x := 130) C.1 C.2.2.2 (fun _ _ _ _ => rfl) (fun _ => rfl) (fun _ => rfl) fd_X9_66 (by intro Cq Tq hq; cases hq; rfl) sh113 (by decide) (shp_pk sh130 (by decide)) (fun _ => trivial) dX9_init_390 (fun m87 => ?_)
  refine T_aload_n C.1 dX9_init_393 0 rfl ?_
  refine T_sipush C.1 dX9_init_394 rfl ?_
  refine T_newa1 (a := 131) (len := 260) C.1 dX9_init_397 (by omega) wm_1_54 sh131 (by decide) (by decide) (by decide) (by decide) (by decide) (fun _ => trivial) (fun m88 => ?_)
  refine T_putFR (x := 131) C.1 C.2.2.2 (fun _ _ _ _ => rfl) (fun _ => rfl) (fun _ => rfl) fd_X9_69 (by intro Cq Tq hq; cases hq; rfl) sh113 (by decide) (shp_pk sh131 (by decide)) (fun _ => trivial) dX9_init_399 (fun m89 => ?_)
  refine T_aload_n C.1 dX9_init_402 0 rfl ?_
  refine T_iconst C.1 dX9_init_403 ?_
  refine T_newa1 (a := 132) (len := 2) C.1 dX9_init_404 (by omega) wm_1_54 sh132 (by decide) (by decide) (by decide) (by decide) (by decide) (fun _ => trivial) (fun m90 => ?_)
  refine T_putFR (x := 132) C.1 C.2.2.2 (fun _ _ _ _ => rfl) (fun _ => rfl) (fun _ => rfl) fd_X9_72 (by intro Cq Tq hq; cases hq; rfl) sh113 (by decide) (shp_pk sh132 (by decide)) (fun _ => trivial) dX9_init_406 (fun m91 => ?_)
  refine T_aload_n C.1 dX9_init_409 0 rfl ?_
  refine T_bipush C.1 dX9_init_410 rfl ?_
  refine T_newa4 (a := 133) (len := 122) C.1 dX9_init_412 (by omega) wm_5_140 sh133 (by decide) (by decide) (by decide) (by decide) (by decide) (fun _ => trivial) (fun m92 => ?_)
  refine T_putFR (x := 133) C.1 C.2.2.2 (fun _ _ _ _ => rfl) (fun _ => rfl) (fun _ => rfl) fd_X9_75 (by intro Cq Tq hq; cases hq; rfl) sh113 (by decide) (shp_pk sh133 (by decide)) (fun _ => trivial) dX9_init_414 (fun m93 => ?_)
  refine T_aload_n C.1 dX9_init_417 0 rfl ?_
  refine T_bipush C.1 dX9_init_418 rfl ?_
  refine T_newa4 (a := 134) (len := 122) C.1 dX9_init_420 (by omega) wm_5_140 sh134 (by decide) (by decide) (by decide) (by decide) (by decide) (fun _ => trivial) (fun m94 => ?_)
  refine T_putFR (x := 134) C.1 C.2.2.2 (fun _ _ _ _ => rfl) (fun _ => rfl) (fun _ => rfl) fd_X9_79 (by intro Cq Tq hq; cases hq; rfl) sh113 (by decide) (shp_pk sh134 (by decide)) (fun _ => trivial) dX9_init_422 (fun m95 => ?_)
  refine T_aload_n C.1 dX9_init_425 0 rfl ?_
  refine T_bipush C.1 dX9_init_426 rfl ?_
  refine T_newa1 (a := 135) (len := 6) C.1 dX9_init_428 (by omega) wm_1_54 sh135 (by decide) (by decide) (by decide) (by decide) (by decide) (fun _ => trivial) (fun m96 => ?_)
  refine T_putFR (x := 135) C.1 C.2.2.2 (fun _ _ _ _ => rfl) (fun _ => rfl) (fun _ => rfl) fd_X9_82 (by intro Cq Tq hq; cases hq; rfl) sh113 (by decide) (shp_pk sh135 (by decide)) (fun _ => trivial) dX9_init_430 (fun m97 => ?_)
  refine T_aload_n C.1 dX9_init_433 0 rfl ?_
  refine T_sipush C.1 dX9_init_434 rfl ?_
  refine T_newa1 (a := 136) (len := 130) C.1 dX9_init_437 (by omega) wm_1_54 sh136 (by decide) (by decide) (by decide) (by decide) (by decide) (fun _ => trivial) (fun m98 => ?_)
  refine T_putFR (x := 136) C.1 C.2.2.2 (fun _ _ _ _ => rfl) (fun _ => rfl) (fun _ => rfl) fd_X9_85 (by intro Cq Tq hq; cases hq; rfl) sh113 (by decide) (shp_pk sh136 (by decide)) (fun _ => trivial) dX9_init_439 (fun m99 => ?_)
  refine T_aload_n C.1 dX9_init_442 0 rfl ?_
  refine T_bipush C.1 dX9_init_443 rfl ?_
  refine T_newa1 (a := 137) (len := 36) C.1 dX9_init_445 (by omega) wm_1_54 sh137 (by decide) (by decide) (by decide) (by decide) (by decide) (fun _ => trivial) (fun m100 => ?_)
  refine T_putFR (x := 137) C.1 C.2.2.2 (fun _ _ _ _ => rfl) (fun _ => rfl) (fun _ => rfl) fd_X9_88 (by intro Cq Tq hq; cases hq; rfl) sh113 (by decide) (shp_pk sh137 (by decide)) (fun _ => trivial) dX9_init_447 (fun m101 => ?_)
  refine T_aload_n C.1 dX9_init_450 0 rfl ?_
  refine T_bipush C.1 dX9_init_451 rfl ?_
  refine T_newa1 (a := 138) (len := 36) C.1 dX9_init_453 (by omega) wm_1_54 sh138 (by decide) (by decide) (by decide) (by decide) (by decide) (fun _ => trivial) (fun m102 => ?_)
  refine T_putFR (x := 138) C.1 C.2.2.2 (fun _ _ _ _ => rfl) (fun _ => rfl) (fun _ => rfl) fd_X9_91 (by intro Cq Tq hq; cases hq; rfl) sh113 (by decide) (shp_pk sh138 (by decide)) (fun _ => trivial) dX9_init_455 (fun m103 => ?_)
  refine T_aload_n C.1 dX9_init_458 0 rfl ?_
  refine T_bipush C.1 dX9_init_459 rfl ?_
  refine T_newa1 (a := 139) (len := 60) C.1 dX9_init_461 (by omega) wm_1_54 sh139 (by decide) (by decide) (by decide) (by decide) (by decide) (fun _ => trivial) (fun m104 => ?_)
  refine T_putFR (x := 139) C.1 C.2.2.2 (fun _ _ _ _ => rfl) (fun _ => rfl) (fun _ => rfl) fd_X9_94 (by intro Cq Tq hq; cases hq; rfl) sh113 (by decide) (shp_pk sh139 (by decide)) (fun _ => trivial) dX9_init_463 (fun m105 => ?_)
  refine T_aload_n C.1 dX9_init_466 0 rfl ?_
  refine T_bipush C.1 dX9_init_467 rfl ?_
  refine T_newa1 (a := 140) (len := 39) C.1 dX9_init_469 (by omega) wm_1_54 sh140 (by decide) (by decide) (by decide) (by decide) (by decide) (fun _ => trivial) (fun m106 => ?_)
  refine T_putFR (x := 140) C.1 C.2.2.2 (fun _ _ _ _ => rfl) (fun _ => rfl) (fun _ => rfl) fd_X9_97 (by intro Cq Tq hq; cases hq; rfl) sh113 (by decide) (shp_pk sh140 (by decide)) (fun _ => trivial) dX9_init_471 (fun m107 => ?_)
  refine T_aload_n C.1 dX9_init_474 0 rfl ?_
  refine T_bipush C.1 dX9_init_475 rfl ?_
  refine T_newa1 (a := 141) (len := 13) C.1 dX9_init_477 (by omega) wm_1_54 sh141 (by decide) (by decide) (by decide) (by decide) (by decide) (fun _ => trivial) (fun m108 => ?_)
  refine T_putFR (x := 141) C.1 C.2.2.2 (fun _ _ _ _ => rfl) (fun _ => rfl) (fun _ => rfl) fd_X9_100 (by intro Cq Tq hq; cases hq; rfl) sh113 (by decide) (shp_pk sh141 (by decide)) (fun _ => trivial) dX9_init_479 (fun m109 => ?_)
  refine T_aload_n C.1 dX9_init_482 0 rfl ?_
  refine T_bipush C.1 dX9_init_483 rfl ?_
  refine T_newa1 (a := 142) (len := 7) C.1 dX9_init_485 (by omega) wm_1_54 sh142 (by decide) (by decide) (by decide) (by decide) (by decide) (fun _ => trivial) (fun m110 => ?_)
  refine T_putFR (x := 142) C.1 C.2.2.2 (fun _ _ _ _ => rfl) (fun _ => rfl) (fun _ => rfl) fd_X9_103 (by intro Cq Tq hq; cases hq; rfl) sh113 (by decide) (shp_pk sh142 (by decide)) (fun _ => trivial) dX9_init_487 (fun m111 => ?_)
  refine T_aload_n C.1 dX9_init_490 0 rfl ?_
  refine T_bipush C.1 dX9_init_491 rfl ?_
  refine T_newa1 (a := 143) (len := 7) C.1 dX9_init_493 (by omega) wm_1_54 sh143 (by decide) (by decide) (by decide) (by decide) (by decide) (fun _ => trivial) (fun m112 => ?_)
  refine T_putFR (x := 143) C.1 C.2.2.2 (fun _ _ _ _ => rfl) (fun _ => rfl) (fun _ => rfl) fd_X9_106 (by intro Cq Tq hq; cases hq; rfl) sh113 (by decide) (shp_pk sh143 (by decide)) (fun _ => trivial) dX9_init_495 (fun m113 => ?_)
  refine T_aload_n C.1 dX9_init_498 0 rfl ?_
  refine T_bipush C.1 dX9_init_499 rfl ?_
  refine T_newa1 (a := 144) (len := 7) C.1 dX9_init_501 (by omega) wm_1_54 sh144 (by decide) (by decide) (by decide) (by decide) (by decide) (fun _ => trivial) (fun m114 => ?_)
  refine T_putFR (x := 144) C.1 C.2.2.2 (fun _ _ _ _ => rfl) (fun _ => rfl) (fun _ => rfl) fd_X9_109 (by intro Cq Tq hq; cases hq; rfl) sh113 (by decide) (shp_pk sh144 (by decide)) (fun _ => trivial) dX9_init_503 (fun m115 => ?_)
  refine T_aload_n C.1 dX9_init_506 0 rfl ?_
  refine T_bipush C.1 dX9_init_507 rfl ?_
  refine T_newa1 (a := 145) (len := 7) C.1 dX9_init_509 (by omega) wm_1_54 sh145 (by decide) (by decide) (by decide) (by decide) (by decide) (fun _ => trivial) (fun m116 => ?_)
  refine T_putFR (x := 145) C.1 C.2.2.2 (fun _ _ _ _ => rfl) (fun _ => rfl) (fun _ => rfl) fd_X9_112 (by intro Cq Tq hq; cases hq; rfl) sh113 (by decide) (shp_pk sh145 (by decide)) (fun _ => trivial) dX9_init_511 (fun m117 => ?_)
  refine T_aload_n C.1 dX9_init_514 0 rfl ?_
  refine T_bipush C.1 dX9_init_515 rfl ?_
  refine T_newa1 (a := 146) (len := 7) C.1 dX9_init_517 (by omega) wm_1_54 sh146 (by decide) (by decide) (by decide) (by decide) (by decide) (fun _ => trivial) (fun m118 => ?_)
  refine T_putFR (x := 146) C.1 C.2.2.2 (fun _ _ _ _ => rfl) (fun _ => rfl) (fun _ => rfl) fd_X9_115 (by intro Cq Tq hq; cases hq; rfl) sh113 (by decide) (shp_pk sh146 (by decide)) (fun _ => trivial) dX9_init_519 (fun m119 => ?_)
  refine T_aload_n C.1 dX9_init_522 0 rfl ?_
  refine T_iconst C.1 dX9_init_523 ?_
  refine T_putI C.1 LyI_T fd_X9_118 sh113 (by decide) dX9_init_524 (fun m120 => ?_)
  refine T_aload_n C.1 dX9_init_527 0 rfl ?_
  refine T_bipush C.1 dX9_init_528 rfl ?_
  refine T_newa1 (a := 147) (len := 7) C.1 dX9_init_530 (by omega) wm_1_54 sh147 (by decide) (by decide) (by decide) (by decide) (by decide) (fun _ => trivial) (fun m121 => ?_)
  refine T_putFR (x := 147) C.1 C.2.2.2 (fun _ _ _ _ => rfl) (fun _ => rfl) (fun _ => rfl) fd_X9_121 (by intro Cq Tq hq; cases hq; rfl) sh113 (by decide) (shp_pk sh147 (by decide)) (fun _ => trivial) dX9_init_532 (fun m122 => ?_)
  refine T_aload_n C.1 dX9_init_535 0 rfl ?_
  refine T_bipush C.1 dX9_init_536 rfl ?_
  refine T_newa1 (a := 148) (len := 7) C.1 dX9_init_538 (by omega) wm_1_54 sh148 (by decide) (by decide) (by decide) (by decide) (by decide) (fun _ => trivial) (fun m123 => ?_)
  refine T_putFR (x := 148) C.1 C.2.2.2 (fun _ _ _ _ => rfl) (fun _ => rfl) (fun _ => rfl) fd_X9_124 (by intro Cq Tq hq; cases hq; rfl) sh113 (by decide) (shp_pk sh148 (by decide)) (fun _ => trivial) dX9_init_540 (fun m124 => ?_)
  refine T_aload_n C.1 dX9_init_543 0 rfl ?_
  refine T_bipush C.1 dX9_init_544 rfl ?_
  refine T_newa1 (a := 149) (len := 7) C.1 dX9_init_546 (by omega) wm_1_54 sh149 (by decide) (by decide) (by decide) (by decide) (by decide) (fun _ => trivial) (fun m125 => ?_)
  refine T_putFR (x := 149) C.1 C.2.2.2 (fun _ _ _ _ => rfl) (fun _ => rfl) (fun _ => rfl) fd_X9_127 (by intro Cq Tq hq; cases hq; rfl) sh113 (by decide) (shp_pk sh149 (by decide)) (fun _ => trivial) dX9_init_548 (fun m126 => ?_)
  refine T_aload_n C.1 dX9_init_551 0 rfl ?_
  refine T_bipush C.1 dX9_init_552 rfl ?_
  refine T_newa1 (a := 150) (len := 10) C.1 dX9_init_554 (by omega) wm_1_54 sh150 (by decide) (by decide) (by decide) (by decide) (by decide) (fun _ => trivial) (fun m127 => ?_)
  refine T_putFR (x := 150) C.1 C.2.2.2 (fun _ _ _ _ => rfl) (fun _ => rfl) (fun _ => rfl) fd_X9_130 (by intro Cq Tq hq; cases hq; rfl) sh113 (by decide) (shp_pk sh150 (by decide)) (fun _ => trivial) dX9_init_556 (fun m128 => ?_)
  refine T_aload_n C.1 dX9_init_559 0 rfl ?_
  refine T_bipush C.1 dX9_init_560 rfl ?_
  refine T_newa1 (a := 151) (len := 50) C.1 dX9_init_562 (by omega) wm_1_54 sh151 (by decide) (by decide) (by decide) (by decide) (by decide) (fun _ => trivial) (fun m129 => ?_)
  refine T_putFR (x := 151) C.1 C.2.2.2 (fun _ _ _ _ => rfl) (fun _ => rfl) (fun _ => rfl) fd_X9_133 (by intro Cq Tq hq; cases hq; rfl) sh113 (by decide) (shp_pk sh151 (by decide)) (fun _ => trivial) dX9_init_564 (fun m130 => ?_)
  refine T_aload_n C.1 dX9_init_567 0 rfl ?_
  refine T_bipush C.1 dX9_init_568 rfl ?_
  refine T_newa1 (a := 152) (len := 24) C.1 dX9_init_570 (by omega) wm_1_54 sh152 (by decide) (by decide) (by decide) (by decide) (by decide) (fun _ => trivial) (fun m131 => ?_)
  refine T_putFR (x := 152) C.1 C.2.2.2 (fun _ _ _ _ => rfl) (fun _ => rfl) (fun _ => rfl) fd_X9_136 (by intro Cq Tq hq; cases hq; rfl) sh113 (by decide) (shp_pk sh152 (by decide)) (fun _ => trivial) dX9_init_572 (fun m132 => ?_)
  refine T_aload_n C.1 dX9_init_575 0 rfl ?_
  refine T_bipush C.1 dX9_init_576 rfl ?_
  refine T_newa1 (a := 153) (len := 6) C.1 dX9_init_578 (by omega) wm_1_54 sh153 (by decide) (by decide) (by decide) (by decide) (by decide) (fun _ => trivial) (fun m133 => ?_)
  refine T_dup C.1 dX9_init_580 rfl ?_
  refine T_iconst C.1 dX9_init_581 ?_
  refine T_iconst C.1 dX9_init_582 ?_
  refine T_iast C.1 LyI_T sh153 (by decide) dX9_init_583 (fun m134 => ?_)
  refine T_dup C.1 dX9_init_584 rfl ?_
  refine T_iconst C.1 dX9_init_585 ?_
  refine T_iconst C.1 dX9_init_586 ?_
  refine T_iast C.1 LyI_T sh153 (by decide) dX9_init_587 (fun m135 => ?_)
  refine T_dup C.1 dX9_init_588 rfl ?_
  refine T_iconst C.1 dX9_init_589 ?_
  refine T_iconst C.1 dX9_init_590 ?_
  refine T_iast C.1 LyI_T sh153 (by decide) dX9_init_591 (fun m136 => ?_)
  refine T_dup C.1 dX9_init_592 rfl ?_
  refine T_iconst C.1 dX9_init_593 ?_
  refine T_iconst C.1 dX9_init_594 ?_
  refine T_iast C.1 LyI_T sh153 (by decide) dX9_init_595 (fun m137 => ?_)
  refine T_dup C.1 dX9_init_596 rfl ?_
  refine T_iconst C.1 dX9_init_597 ?_
  refine T_iconst C.1 dX9_init_598 ?_
  refine T_iast C.1 LyI_T sh153 (by decide) dX9_init_599 (fun m138 => ?_)
  refine T_dup C.1 dX9_init_600 rfl ?_
  refine T_iconst C.1 dX9_init_601 ?_
  refine T_iconst C.1 dX9_init_602 ?_
  refine T_iast C.1 LyI_T sh153 (by decide) dX9_init_603 (fun m139 => ?_)
  refine T_putFR (x := 153) C.1 C.2.2.2 (fun _ _ _ _ => rfl) (fun _ => rfl) (fun _ => rfl) fd_X9_139 (by intro Cq Tq hq; cases hq; rfl) sh113 (by decide) (shp_pk sh153 (by decide)) (fun _ => trivial) dX9_init_604 (fun m140 => ?_)
  refine T_aload_n C.1 dX9_init_607 0 rfl ?_
  refine T_bipush C.1 dX9_init_608 rfl ?_
  refine T_newa1 (a := 154) (len := 6) C.1 dX9_init_610 (by omega) wm_1_54 sh154 (by decide) (by decide) (by decide) (by decide) (by decide) (fun _ => trivial) (fun m141 => ?_)
  refine T_putFR (x := 154) C.1 C.2.2.2 (fun _ _ _ _ => rfl) (fun _ => rfl) (fun _ => rfl) fd_X9_142 (by intro Cq Tq hq; cases hq; rfl) sh113 (by decide) (shp_pk sh154 (by decide)) (fun _ => trivial) dX9_init_612 (fun m142 => ?_)
  refine T_aload_n C.1 dX9_init_615 0 rfl ?_
  refine T_sipush C.1 dX9_init_616 rfl ?_
  refine T_newa5 (a := 155) (len := 360) C.1 dX9_init_619 (by omega) wm_2_45 sh155 (by decide) (by decide) (by decide) (by decide) (by decide) (fun _ => trivial) (fun m143 => ?_)
  refine T_putFR (x := 155) C.1 C.2.2.2 (fun _ _ _ _ => rfl) (fun _ => rfl) (fun _ => rfl) fd_X9_145 (by intro Cq Tq hq; cases hq; rfl) sh113 (by decide) (shp_pk sh155 (by decide)) (fun _ => trivial) dX9_init_621 (fun m144 => ?_)
  refine T_aload_n C.1 dX9_init_624 0 rfl ?_
  refine T_bipush C.1 dX9_init_625 rfl ?_
  refine T_newa5 (a := 156) (len := 60) C.1 dX9_init_627 (by omega) wm_2_45 sh156 (by decide) (by decide) (by decide) (by decide) (by decide) (fun _ => trivial) (fun m145 => ?_)
  refine T_putFR (x := 156) C.1 C.2.2.2 (fun _ _ _ _ => rfl) (fun _ => rfl) (fun _ => rfl) fd_X9_149 (by intro Cq Tq hq; cases hq; rfl) sh113 (by decide) (shp_pk sh156 (by decide)) (fun _ => trivial) dX9_init_629 (fun m146 => ?_)
  exact T_vret C.1 C.2.1 C.2.2.1 dX9_init_632
