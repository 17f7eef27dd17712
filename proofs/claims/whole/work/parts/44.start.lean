/-! FROM THE LAW'S ENTRY TO THE PURE FUNCTION: printed by wip/whole/gen/startgen.py -/
section ST
variable {s : State} {args : Array Value}
theorem st_k0 (h : ∀ w ∈ WA, w.before args s = true) : ∃ p : ClassId × (Nat → Nat), ∀ q, vwCl[0]? = some q → u_Kn s q.1 q.2.1 q.2.2 p.1 p.2 := by
  obtain ⟨a, b, hk⟩ := u_known (s := s) (args := args) h inX0 (h (Cond.instantiable RX0 5) (wA (tm_2 _ (List.mem_of_getElem? (i := 0) rfl)) rfl))
  exact ⟨(a, b), fun q hq => by cases hq; exact hk⟩
theorem st_k1 (h : ∀ w ∈ WA, w.before args s = true) : ∃ p : ClassId × (Nat → Nat), ∀ q, vwCl[1]? = some q → u_Kn s q.1 q.2.1 q.2.2 p.1 p.2 := by
  obtain ⟨a, b, hk⟩ := u_known (s := s) (args := args) h inX1 (h (Cond.instantiable RX1 6) (wA (tm_1 _ (List.mem_of_getElem? (i := 94) rfl)) rfl))
  exact ⟨(a, b), fun q hq => by cases hq; exact hk⟩
theorem st_k2 (h : ∀ w ∈ WA, w.before args s = true) : ∃ p : ClassId × (Nat → Nat), ∀ q, vwCl[2]? = some q → u_Kn s q.1 q.2.1 q.2.2 p.1 p.2 := by
  obtain ⟨a, b, hk⟩ := u_known (s := s) (args := args) h inX2 (h (Cond.instantiable RX2 11) (wA (tm_1 _ (List.mem_of_getElem? (i := 146) rfl)) rfl))
  exact ⟨(a, b), fun q hq => by cases hq; exact hk⟩
theorem st_k3 (h : ∀ w ∈ WA, w.before args s = true) : ∃ p : ClassId × (Nat → Nat), ∀ q, vwCl[3]? = some q → u_Kn s q.1 q.2.1 q.2.2 p.1 p.2 := by
  obtain ⟨a, b, hk⟩ := u_known (s := s) (args := args) h inX3 (h (Cond.instantiable RX3 6) (wA (tm_1 _ (List.mem_of_getElem? (i := 30) rfl)) rfl))
  exact ⟨(a, b), fun q hq => by cases hq; exact hk⟩
theorem st_k4 (h : ∀ w ∈ WA, w.before args s = true) : ∃ p : ClassId × (Nat → Nat), ∀ q, vwCl[4]? = some q → u_Kn s q.1 q.2.1 q.2.2 p.1 p.2 := by
  obtain ⟨a, b, hk⟩ := u_known (s := s) (args := args) h inX4 (h (Cond.instantiable RX4 7) (wA (tm_1 _ (List.mem_of_getElem? (i := 24) rfl)) rfl))
  exact ⟨(a, b), fun q hq => by cases hq; exact hk⟩
theorem st_k5 (h : ∀ w ∈ WA, w.before args s = true) : ∃ p : ClassId × (Nat → Nat), ∀ q, vwCl[5]? = some q → u_Kn s q.1 q.2.1 q.2.2 p.1 p.2 := by
  obtain ⟨a, b, hk⟩ := u_known (s := s) (args := args) h inX5 (h (Cond.instantiable RX5 3) (wA (tm_2 _ (List.mem_of_getElem? (i := 24) rfl)) rfl))
  exact ⟨(a, b), fun q hq => by cases hq; exact hk⟩
theorem st_k6 (h : ∀ w ∈ WA, w.before args s = true) : ∃ p : ClassId × (Nat → Nat), ∀ q, vwCl[6]? = some q → u_Kn s q.1 q.2.1 q.2.2 p.1 p.2 := by
  obtain ⟨a, b, hk⟩ := u_known (s := s) (args := args) h inX6 (h (Cond.instantiable RX6 5) (wA (tm_1 _ (List.mem_of_getElem? (i := 121) rfl)) rfl))
  exact ⟨(a, b), fun q hq => by cases hq; exact hk⟩
theorem st_k7 (h : ∀ w ∈ WA, w.before args s = true) : ∃ p : ClassId × (Nat → Nat), ∀ q, vwCl[7]? = some q → u_Kn s q.1 q.2.1 q.2.2 p.1 p.2 := by
  obtain ⟨a, b, hk⟩ := u_known (s := s) (args := args) h inX7 (h (Cond.instantiable RX7 9) (wA (tm_1 _ (List.mem_of_getElem? (i := 200) rfl)) rfl))
  exact ⟨(a, b), fun q hq => by cases hq; exact hk⟩
theorem st_k8 (h : ∀ w ∈ WA, w.before args s = true) : ∃ p : ClassId × (Nat → Nat), ∀ q, vwCl[8]? = some q → u_Kn s q.1 q.2.1 q.2.2 p.1 p.2 := by
  obtain ⟨a, b, hk⟩ := u_known (s := s) (args := args) h inX8 (h (Cond.instantiable RX8 9) (wA (tm_1 _ (List.mem_of_getElem? (i := 16) rfl)) rfl))
  exact ⟨(a, b), fun q hq => by cases hq; exact hk⟩
theorem st_k9 (h : ∀ w ∈ WA, w.before args s = true) : ∃ p : ClassId × (Nat → Nat), ∀ q, vwCl[9]? = some q → u_Kn s q.1 q.2.1 q.2.2 p.1 p.2 := by
  obtain ⟨a, b, hk⟩ := u_known (s := s) (args := args) h inX9 (h (Cond.instantiable RX9 64) (wA (tm_4 _ (List.mem_of_getElem? (i := 182) rfl)) rfl))
  exact ⟨(a, b), fun q hq => by cases hq; exact hk⟩
theorem st_k (h : ∀ w ∈ WA, w.before args s = true) : ∀ c : Nat, ∃ p : ClassId × (Nat → Nat), ∀ q, vwCl[c]? = some q → u_Kn s q.1 q.2.1 q.2.2 p.1 p.2
  | 0 => st_k0 h
  | 1 => st_k1 h
  | 2 => st_k2 h
  | 3 => st_k3 h
  | 4 => st_k4 h
  | 5 => st_k5 h
  | 6 => st_k6 h
  | 7 => st_k7 h
  | 8 => st_k8 h
  | 9 => st_k9 h
  | _ + 10 => ⟨(0, fun _ => 0), fun q hq => by cases hq⟩
def tyK : List FieldType := [.int, .int, .byte, .char, .short, .long, .object RX2, .array .long, .array .int]
theorem st_a_int (h : ∀ w ∈ WA, w.before args s = true) : ∃ c : ClassId, ArrOfT s c .int ∧ va_RA s c .int := by
  obtain ⟨c, k, comp, h1, h2, h3⟩ := Cond.arrayClass_spec (h (Cond.arrayClass .int) (wA (tm_1 _ (List.mem_of_getElem? (i := 54) rfl)) rfl))
  exact ⟨c, fun N z => ⟨fun k h => (by cases h), k, h2, comp, h3⟩, h1⟩
theorem st_a_char (h : ∀ w ∈ WA, w.before args s = true) : ∃ c : ClassId, ArrOfT s c .char ∧ va_RA s c .char := by
  obtain ⟨c, k, comp, h1, h2, h3⟩ := Cond.arrayClass_spec (h (Cond.arrayClass .char) (wA (tm_1 _ (List.mem_of_getElem? (i := 55) rfl)) rfl))
  exact ⟨c, fun N z => ⟨fun k h => (by cases h), k, h2, comp, h3⟩, h1⟩
theorem st_a_long (h : ∀ w ∈ WA, w.before args s = true) : ∃ c : ClassId, ArrOfT s c .long ∧ va_RA s c .long := by
  obtain ⟨c, k, comp, h1, h2, h3⟩ := Cond.arrayClass_spec (h (Cond.arrayClass .long) (wA (tm_2 _ (List.mem_of_getElem? (i := 45) rfl)) rfl))
  exact ⟨c, fun N z => ⟨fun k h => (by cases h), k, h2, comp, h3⟩, h1⟩
theorem st_a_byte (h : ∀ w ∈ WA, w.before args s = true) : ∃ c : ClassId, ArrOfT s c .byte ∧ va_RA s c .byte := by
  obtain ⟨c, k, comp, h1, h2, h3⟩ := Cond.arrayClass_spec (h (Cond.arrayClass .byte) (wA (tm_5 _ (List.mem_of_getElem? (i := 139) rfl)) rfl))
  exact ⟨c, fun N z => ⟨fun k h => (by cases h), k, h2, comp, h3⟩, h1⟩
theorem st_a_short (h : ∀ w ∈ WA, w.before args s = true) : ∃ c : ClassId, ArrOfT s c .short ∧ va_RA s c .short := by
  obtain ⟨c, k, comp, h1, h2, h3⟩ := Cond.arrayClass_spec (h (Cond.arrayClass .short) (wA (tm_5 _ (List.mem_of_getElem? (i := 140) rfl)) rfl))
  exact ⟨c, fun N z => ⟨fun k h => (by cases h), k, h2, comp, h3⟩, h1⟩
theorem st_a_o (h : XW s) : ∃ c : ClassId, ArrOfT s c (.object RX2) ∧ va_RA s c (.object RX2) := by
  obtain ⟨comp, c, k, h1, h2, h3, h4, h5⟩ := Cond.arrayOver_spec h.1.1
  exact ⟨c, fun N z => ⟨fun k h => (by cases h), k, h3, comp, h4⟩, k, comp, h3, h4, h1, h5⟩
theorem st_a_l (h : XW s) : ∃ c : ClassId, ArrOfT s c (.array .long) ∧ va_RA s c (.array .long) := by
  obtain ⟨comp, c, k, h1, h2, h3, h4, h5⟩ := arrayOverA_spec h.1.2.1
  exact ⟨c, fun N z => ⟨fun k h => (by cases h), k, h3, comp, h4⟩, h5⟩
theorem st_a_i (h : XW s) : ∃ c : ClassId, ArrOfT s c (.array .int) ∧ va_RA s c (.array .int) := by
  obtain ⟨comp, c, k, h1, h2, h3, h4, h5⟩ := arrayOverA_spec h.1.2.2
  exact ⟨c, fun N z => ⟨fun k h => (by cases h), k, h3, comp, h4⟩, h5⟩
theorem st_a (h : ∀ w ∈ WA, w.before args s = true) (hx : XW s) : ∀ k : Nat, ∃ c : ClassId, ∀ ty, tyK[k]? = some ty → ArrOfT s c ty ∧ va_RA s c ty
  | 0 => (st_a_int h).elim fun c q => ⟨c, fun ty e => by cases e; exact q⟩
  | 1 => (st_a_int h).elim fun c q => ⟨c, fun ty e => by cases e; exact q⟩
  | 2 => (st_a_byte h).elim fun c q => ⟨c, fun ty e => by cases e; exact q⟩
  | 3 => (st_a_char h).elim fun c q => ⟨c, fun ty e => by cases e; exact q⟩
  | 4 => (st_a_short h).elim fun c q => ⟨c, fun ty e => by cases e; exact q⟩
  | 5 => (st_a_long h).elim fun c q => ⟨c, fun ty e => by cases e; exact q⟩
  | 6 => (st_a_o hx).elim fun c q => ⟨c, fun ty e => by cases e; exact q⟩
  | 7 => (st_a_l hx).elim fun c q => ⟨c, fun ty e => by cases e; exact q⟩
  | 8 => (st_a_i hx).elim fun c q => ⟨c, fun ty e => by cases e; exact q⟩
  | _ + 9 => ⟨0, fun ty e => by cases e⟩
theorem st_ty {ar : Nat → ClassId} (h : ∀ k ty, tyK[k]? = some ty → ArrOfT s (ar k) ty ∧ va_RA s (ar k) ty) : ∀ (k : Nat) (q : ClassId × FieldType), (tyL ar)[k]? = some q → ArrOfT s q.1 q.2 ∧ va_RA s q.1 q.2
  | 0, q, e => by cases e; exact h 0 _ rfl
  | 1, q, e => by cases e; exact h 1 _ rfl
  | 2, q, e => by cases e; exact h 2 _ rfl
  | 3, q, e => by cases e; exact h 3 _ rfl
  | 4, q, e => by cases e; exact h 4 _ rfl
  | 5, q, e => by cases e; exact h 5 _ rfl
  | 6, q, e => by cases e; exact h 6 _ rfl
  | 7, q, e => by cases e; exact h 7 _ rfl
  | 8, q, e => by cases e; exact h 8 _ rfl
  | _ + 9, q, e => by cases e
theorem st_xw (h : ∀ w ∈ lw_tbl, w.before args s = true) : XW s :=
  ⟨⟨va_AO.of (h (Cond.arrayOver (.object RX2)) (tm_1 _ (List.mem_of_getElem? (i := 206) rfl))), h (Cond.arrayOver (.array .long)) (tm_2 _ (List.mem_of_getElem? (i := 30) rfl)), h (Cond.arrayOver (.array .int)) (tm_1 _ (List.mem_of_getElem? (i := 208) rfl))⟩, va_Nw.of rfl (h (.methodLinkNest RX8 18 yX1_init RX8) (tm_1 _ (List.mem_of_getElem? (i := 95) rfl))), va_Nw.of rfl (h (.methodLinkNest RX8 25 yX6_init RX8) (tm_1 _ (List.mem_of_getElem? (i := 122) rfl))), va_Nw.of rfl (h (.methodLinkNest RX8 51 yX0_init RX8) (tm_2 _ (List.mem_of_getElem? (i := 1) rfl)))⟩
theorem st_zO (h : ∀ w ∈ lw_tbl, w.before args s = true) (hg : (Jvm.Cond.and given_1 narrow_1).before args s = true) {b : Nat} (hb : s.heap.size = b + 1) : ∃ q : Nat, va_Z RX0 "OWN" "[I" (.ref q) (fun a => b < a) s s.heap ∧ va_T .int q 32 (fun j => .int (tOWN j)) (fun a => b < a) s s.heap ∧ q ≤ b := by
  have hs := flat_of_before _ hg
  have hA : ∀ a : Nat, a < s.heap.size → ¬ (fun a => b < a) a := fun a ha q => by
    have q : b < a := q
    omega
  have hel : ∀ j : Nat, j < 32 → Cond.eq (.elem (Term.static RX0 "OWN" "[I") (.int (Int32.ofNat j))) (.int (tOWN j)) ∈ flatC (Jvm.Cond.and given_1 narrow_1) := by decide +kernel
  obtain ⟨q, e, hT⟩ := va_Tof (tm := (Term.static RX0 "OWN" "[I")) (ty := .int) (N := 32) (f := fun j => .int (tOWN j)) (A := fun a => b < a) (by decide) (hs (Cond.arrayOf (Term.static RX0 "OWN" "[I") .int) (by decide +kernel)) (va_eqt (z := Int32.ofNat 32) (hs (Cond.eq (.length (Term.static RX0 "OWN" "[I")) (.int (Int32.ofNat 32))) (by decide +kernel))) (fun j hj => va_eqt (hs _ (hel j hj))) hA
  refine ⟨q, va_Zof (h (Cond.laysStatic RX0 "OWN" "[I") (tm_4 _ (List.mem_of_getElem? (i := 99) rfl))) (h (Cond.initialized RX0) (List.mem_filter.mp wm_1_9).1) e hA, hT, ?_⟩
  obtain ⟨_, _, _, _, _, _, _, z⟩ := hT
  exact Nat.le_of_not_lt z
theorem st_zA (h : ∀ w ∈ lw_tbl, w.before args s = true) (hg : (Jvm.Cond.and given_1 narrow_1).before args s = true) {b : Nat} (hb : s.heap.size = b + 1) : ∃ q : Nat, va_Z RX0 "ABOVE" "[I" (.ref q) (fun a => b < a) s s.heap ∧ va_T .int q 8 (fun j => .int (tABV j)) (fun a => b < a) s s.heap ∧ q ≤ b := by
  have hs := flat_of_before _ hg
  have hA : ∀ a : Nat, a < s.heap.size → ¬ (fun a => b < a) a := fun a ha q => by
    have q : b < a := q
    omega
  have hel : ∀ j : Nat, j < 8 → Cond.eq (.elem (Term.static RX0 "ABOVE" "[I") (.int (Int32.ofNat j))) (.int (tABV j)) ∈ flatC (Jvm.Cond.and given_1 narrow_1) := by decide +kernel
  obtain ⟨q, e, hT⟩ := va_Tof (tm := (Term.static RX0 "ABOVE" "[I")) (ty := .int) (N := 8) (f := fun j => .int (tABV j)) (A := fun a => b < a) (by decide) (hs (Cond.arrayOf (Term.static RX0 "ABOVE" "[I") .int) (by decide +kernel)) (va_eqt (z := Int32.ofNat 8) (hs (Cond.eq (.length (Term.static RX0 "ABOVE" "[I")) (.int (Int32.ofNat 8))) (by decide +kernel))) (fun j hj => va_eqt (hs _ (hel j hj))) hA
  refine ⟨q, va_Zof (h (Cond.laysStatic RX0 "ABOVE" "[I") (tm_4 _ (List.mem_of_getElem? (i := 113) rfl))) (h (Cond.initialized RX0) (List.mem_filter.mp wm_1_9).1) e hA, hT, ?_⟩
  obtain ⟨_, _, _, _, _, _, _, z⟩ := hT
  exact Nat.le_of_not_lt z
theorem st_KN (h : ∀ w ∈ lw_tbl, w.before args s = true) (hg : (Jvm.Cond.and given_1 narrow_1).before args s = true) {b : Nat} (hb : s.heap.size = b + 1) : ∃ cx : CX, cx.2.2.1 = b ∧ cx.2.2.2.1 = s.heap ∧ KN cx s := by
  have hw : ∀ w ∈ WA, w.before args s = true := fun w q => h w ((List.mem_filter.mp q).1)
  have hx := st_xw h
  obtain ⟨qO, o1, o2, o3⟩ := st_zO h hg hb
  obtain ⟨qA, a1, a2, a3⟩ := st_zA h hg hb
  refine ⟨(((fun c => (Classical.choose (st_k hw c)).1), fun c => (Classical.choose (st_k hw c)).2), (fun k => Classical.choose (st_a hw hx k)), b, s.heap, qO, qA), rfl, rfl, ⟨fun c q e => Classical.choose_spec (st_k hw c) q e, st_ty (fun k ty e => Classical.choose_spec (st_a hw hx k) ty e)⟩, ⟨o1, o2, o3⟩, ⟨a1, a2, a3⟩, ?_, hx⟩
  show b < s.heap.size
  omega
end ST
/-- nothing yet -/
def m00 : Mm := ((fun _ _ => 0, fun _ _ => 0), fun _ _ => 0)
noncomputable def F_law (xs : Nat → Int32) (L : Nat) : Option (Unit × Mm) :=
  nm (clr m00 1) fun m1 =>
  bnd (F_X8_init m1) fun _ m2 =>
  nm (clr m2 113) fun m3 =>
  bnd (F_X9_init m3) fun _ m4 =>
  @ite _ (Lay m4) (Classical.propDecidable (Lay m4)) (F_L_law_18 xs L FU (iI 0) m4) none
theorem T_lay {β : Type} {p : Program} {l : Launch} {e : Env} {R : Room} {s : State} {m : MethodId} {args : Array Value} {below : List Frame} {meth : Method} {c : Code} {nL : Nat} {cx : CX} {n : Nat} {cells slots : Nat} {Q : β → Mm → State → Prop} {pc : Nat} {lv : List (Nat × Value)} {st : List Value} {μ : Mm} {F : Option (β × Mm)} (hl : Lay μ) (k : T p l e R s m args below meth c nL cx n Lay cells slots Q pc lv st μ F) : T p l e R s m args below meth c nL cx n (fun _ => True) cells slots Q pc lv st μ F :=
  fun ls H locs h1 h2 _ h4 r μ1 q => k ls H locs h1 h2 hl h4 r μ1 q
theorem T_lif {β : Type} {p : Program} {l : Launch} {e : Env} {R : Room} {s : State} {m : MethodId} {args : Array Value} {below : List Frame} {meth : Method} {c : Code} {nL : Nat} {cx : CX} {n : Nat} {Ly : Mm → Prop} {cells slots : Nat} {Q : β → Mm → State → Prop} {pc : Nat} {lv : List (Nat × Value)} {st : List Value} {μ : Mm} {P : Prop} {F : Option (β × Mm)} (k : P → T p l e R s m args below meth c nL cx n Ly cells slots Q pc lv st μ F) : T p l e R s m args below meth c nL cx n Ly cells slots Q pc lv st μ (@ite _ P (Classical.propDecidable P) F none) := by
  by_cases h : P
  · rw [if_pos h]; exact k h
  · rw [if_neg h]; exact T_none
set_option maxRecDepth 100000 in
set_option maxHeartbeats 4000000 in
/-- the claim comes down to this: on every script F_law is some -/
theorem start_of (hF : ∀ (xs : Nat → Int32) (L : Nat), L ≤ 3072 → ∃ μ, F_law xs L = some ((), μ)) {p : Program} {e : Env} {s : State} {m : MethodId} {below : List Frame} {meth : Method} {c : Code} (l : Launch) {b L : Nat} {xs : Nat → Int32} (hL : L ≤ 3072) (C0 : lw_At p s m meth c b L xs) : W p l e room_1 s m #[Value.ref b] below meth c s.heap [] 0 0 (lw_Z below #[Value.ref b] s) (entryFrame m ([Value.ref b] : List Value).toArray 4) := by
  obtain ⟨hx, hb, hr, hml, hown, hts, hX, hbl, hlocks, hgv⟩ := C0
  obtain ⟨q, hq⟩ : ∃ q, s.heap.size = q + 1 := ⟨s.heap.size - 1, by omega⟩
  obtain ⟨cx, e1, e2, hK⟩ := st_KN hts hgv hq
  have hw : ∀ w ∈ WA, w.before #[Value.ref b] s = true := fun w z => hts w ((List.mem_filter.mp z).1)
  have K : Kx p s m #[Value.ref b] c cL_law 4 RL cx := ⟨hx, hb, hml, hown, hw, hK, by rw [e1, hq]; omega⟩
  have C : CM p s m #[Value.ref b] meth c cL_law 4 RL cx (some .boolean) := ⟨K, hr, hlocks⟩
  obtain ⟨μ, hμ⟩ := hF xs L hL
  have hl := lv_entry [Value.ref b] (n := 4) (Nat.le_of_ble_eq_true rfl)
  have main : T p l e room_1 s m #[Value.ref b] below meth c 4 cx 0 (fun _ => True) 0 0 (fun (_ : Unit) _ => lw_Z below #[Value.ref b] s) 0 (lv_args 0 [Value.ref b]) [] m00 (F_law xs L) := by
    unfold F_law
    refine T_new (a := 1) (ci := 8) C.1 dL_law_0 (by omega) wm_1_15 wm_1_16 wm_1_1 rfl tyX8_ok (by decide) inX8 sh1 (by decide) (by decide) (fun _ => trivial) (fun m1 => ?_)
    refine T_dup C.1 dL_law_3 rfl ?_
    refine T_callI (rm := rm_X8_init) (n2 := 112) (mc := 111) (ms := 2381) [] [.ref (cx.2.2.1 + 1)] C.1 dL_law_4 mw_X8_init rfl wm_1_17 wm_1_18 ⟨⟨Nat.le_of_ble_eq_true rfl, Nat.le_of_ble_eq_true rfl⟩, rfl, rfl, by decide, by decide, by omega⟩ rfl rfl (Nat.le_of_ble_eq_true rfl) (c_X8_init l cx m1) (fun m2 _ => ?_)
    refine T_astore_n (lv' := [(1, .ref (cx.2.2.1 + 1)), (0, .ref b)]) C.1 dL_law_7 (by decide) rfl ?_
    refine T_new (a := 113) (ci := 9) C.1 dL_law_8 (by omega) wm_4_181 wm_4_182 wm_1_11 rfl tyX9_ok (by decide) inX9 sh113 (by decide) (by decide) (fun _ => trivial) (fun m3 => ?_)
    refine T_dup C.1 dL_law_11 rfl ?_
    refine T_callI (rm := rm_X9_init) (n2 := 156) (mc := 43) (ms := 2088) [] [.ref (cx.2.2.1 + 113)] C.1 dL_law_12 mw_X9_init rfl wm_4_183 wm_4_184 ⟨⟨Nat.le_of_ble_eq_true rfl, Nat.le_of_ble_eq_true rfl⟩, rfl, rfl, by decide, by decide, by omega⟩ rfl rfl (Nat.le_of_ble_eq_true rfl) (c_X9_init l cx m3) (fun m4 _ => ?_)
    refine T_astore_n (lv' := [(2, .ref (cx.2.2.1 + 113)), (1, .ref (cx.2.2.1 + 1)), (0, .ref b)]) C.1 dL_law_15 (by decide) rfl ?_
    refine T_iconst C.1 dL_law_16 ?_
    refine T_istore_n (lv' := [(3, .int (iI 0)), (2, .ref (cx.2.2.1 + 113)), (1, .ref (cx.2.2.1 + 1)), (0, .ref b)]) C.1 dL_law_17 (by decide) rfl ?_
    refine T_lif (fun hlay => ?_)
    refine T_lay hlay ?_
    exact T_sub [3, 2, 1, 0] rfl (t_L_law_18 hX (by rw [e1]; omega) e2 (by rw [e1, hq]; exact Nat.le_refl _) C FU (iI 0) m4)
  have hWd : Wd cx 0 m00 s.heap := ⟨fun k x h => (by cases h), by rw [e1, hq], fun z _ => by rw [e2]⟩
  rw [lg_entry_eq]
  exact main _ s.heap [] hl hWd trivial va_S.rf () μ hμ
