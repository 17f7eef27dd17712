/-! FROM THE LAW'S ENTRY TO THE PURE FUNCTION: printed by wip/p39/gen/startgen.py -/
section ST
variable {s : State} {args : Array Value}
theorem st_k0 (h : ∀ w ∈ WA, w.before args s = true) : ∃ p : ClassId × (Nat → Nat), ∀ q, vwCl[0]? = some q → u_Kn s q.1 q.2.1 q.2.2 p.1 p.2 := by
  obtain ⟨a, b, hk⟩ := u_known (s := s) (args := args) h inX0 (h (Cond.instantiable RX0 5) (wA (tm_1 _ (List.mem_of_getElem? (i := 238) rfl)) rfl))
  exact ⟨(a, b), fun q hq => by cases hq; exact hk⟩
theorem st_k1 (h : ∀ w ∈ WA, w.before args s = true) : ∃ p : ClassId × (Nat → Nat), ∀ q, vwCl[1]? = some q → u_Kn s q.1 q.2.1 q.2.2 p.1 p.2 := by
  obtain ⟨a, b, hk⟩ := u_known (s := s) (args := args) h inX1 (h (Cond.instantiable RX1 6) (wA (tm_1 _ (List.mem_of_getElem? (i := 93) rfl)) rfl))
  exact ⟨(a, b), fun q hq => by cases hq; exact hk⟩
theorem st_k2 (h : ∀ w ∈ WA, w.before args s = true) : ∃ p : ClassId × (Nat → Nat), ∀ q, vwCl[2]? = some q → u_Kn s q.1 q.2.1 q.2.2 p.1 p.2 := by
  obtain ⟨a, b, hk⟩ := u_known (s := s) (args := args) h inX2 (h (Cond.instantiable RX2 11) (wA (tm_1 _ (List.mem_of_getElem? (i := 144) rfl)) rfl))
  exact ⟨(a, b), fun q hq => by cases hq; exact hk⟩
theorem st_k3 (h : ∀ w ∈ WA, w.before args s = true) : ∃ p : ClassId × (Nat → Nat), ∀ q, vwCl[3]? = some q → u_Kn s q.1 q.2.1 q.2.2 p.1 p.2 := by
  obtain ⟨a, b, hk⟩ := u_known (s := s) (args := args) h inX3 (h (Cond.instantiable RX3 6) (wA (tm_1 _ (List.mem_of_getElem? (i := 29) rfl)) rfl))
  exact ⟨(a, b), fun q hq => by cases hq; exact hk⟩
theorem st_k4 (h : ∀ w ∈ WA, w.before args s = true) : ∃ p : ClassId × (Nat → Nat), ∀ q, vwCl[4]? = some q → u_Kn s q.1 q.2.1 q.2.2 p.1 p.2 := by
  obtain ⟨a, b, hk⟩ := u_known (s := s) (args := args) h inX4 (h (Cond.instantiable RX4 7) (wA (tm_1 _ (List.mem_of_getElem? (i := 23) rfl)) rfl))
  exact ⟨(a, b), fun q hq => by cases hq; exact hk⟩
theorem st_k5 (h : ∀ w ∈ WA, w.before args s = true) : ∃ p : ClassId × (Nat → Nat), ∀ q, vwCl[5]? = some q → u_Kn s q.1 q.2.1 q.2.2 p.1 p.2 := by
  obtain ⟨a, b, hk⟩ := u_known (s := s) (args := args) h inX5 (h (Cond.instantiable RX5 3) (wA (tm_2 _ (List.mem_of_getElem? (i := 22) rfl)) rfl))
  exact ⟨(a, b), fun q hq => by cases hq; exact hk⟩
theorem st_k6 (h : ∀ w ∈ WA, w.before args s = true) : ∃ p : ClassId × (Nat → Nat), ∀ q, vwCl[6]? = some q → u_Kn s q.1 q.2.1 q.2.2 p.1 p.2 := by
  obtain ⟨a, b, hk⟩ := u_known (s := s) (args := args) h inX6 (h (Cond.instantiable RX6 5) (wA (tm_1 _ (List.mem_of_getElem? (i := 119) rfl)) rfl))
  exact ⟨(a, b), fun q hq => by cases hq; exact hk⟩
theorem st_k7 (h : ∀ w ∈ WA, w.before args s = true) : ∃ p : ClassId × (Nat → Nat), ∀ q, vwCl[7]? = some q → u_Kn s q.1 q.2.1 q.2.2 p.1 p.2 := by
  obtain ⟨a, b, hk⟩ := u_known (s := s) (args := args) h inX7 (h (Cond.instantiable RX7 9) (wA (tm_1 _ (List.mem_of_getElem? (i := 198) rfl)) rfl))
  exact ⟨(a, b), fun q hq => by cases hq; exact hk⟩
theorem st_k8 (h : ∀ w ∈ WA, w.before args s = true) : ∃ p : ClassId × (Nat → Nat), ∀ q, vwCl[8]? = some q → u_Kn s q.1 q.2.1 q.2.2 p.1 p.2 := by
  obtain ⟨a, b, hk⟩ := u_known (s := s) (args := args) h inX8 (h (Cond.instantiable RX8 9) (wA (tm_1 _ (List.mem_of_getElem? (i := 15) rfl)) rfl))
  exact ⟨(a, b), fun q hq => by cases hq; exact hk⟩
theorem st_k (h : ∀ w ∈ WA, w.before args s = true) : ∀ c : Nat, ∃ p : ClassId × (Nat → Nat), ∀ q, vwCl[c]? = some q → u_Kn s q.1 q.2.1 q.2.2 p.1 p.2
  | 0 => st_k0 h
  | 1 => st_k1 h
  | 2 => st_k2 h
  | 3 => st_k3 h
  | 4 => st_k4 h
  | 5 => st_k5 h
  | 6 => st_k6 h
  | 7 => st_k7 h
  | 8 => st_k8 h
  | _ + 9 => ⟨(0, fun _ => 0), fun q hq => by cases hq⟩
def tyK : List FieldType := [.int, .int, .int, .char, .int, .long, .object RX2, .array .long, .array .int]
theorem st_a_int (h : ∀ w ∈ WA, w.before args s = true) : ∃ c : ClassId, ArrOfT s c .int ∧ va_RA s c .int := by
  obtain ⟨c, k, comp, h1, h2, h3⟩ := Cond.arrayClass_spec (h (Cond.arrayClass .int) (wA (tm_1 _ (List.mem_of_getElem? (i := 53) rfl)) rfl))
  exact ⟨c, fun N z => ⟨fun k h => (by cases h), k, h2, comp, h3⟩, h1⟩
theorem st_a_char (h : ∀ w ∈ WA, w.before args s = true) : ∃ c : ClassId, ArrOfT s c .char ∧ va_RA s c .char := by
  obtain ⟨c, k, comp, h1, h2, h3⟩ := Cond.arrayClass_spec (h (Cond.arrayClass .char) (wA (tm_1 _ (List.mem_of_getElem? (i := 54) rfl)) rfl))
  exact ⟨c, fun N z => ⟨fun k h => (by cases h), k, h2, comp, h3⟩, h1⟩
theorem st_a_long (h : ∀ w ∈ WA, w.before args s = true) : ∃ c : ClassId, ArrOfT s c .long ∧ va_RA s c .long := by
  obtain ⟨c, k, comp, h1, h2, h3⟩ := Cond.arrayClass_spec (h (Cond.arrayClass .long) (wA (tm_2 _ (List.mem_of_getElem? (i := 43) rfl)) rfl))
  exact ⟨c, fun N z => ⟨fun k h => (by cases h), k, h2, comp, h3⟩, h1⟩
theorem st_a_o (h : XW s) : ∃ c : ClassId, ArrOfT s c (.object RX2) ∧ va_RA s c (.object RX2) := by
  obtain ⟨comp, c, k, h1, h2, h3, h4, h5⟩ := Cond.arrayOver_spec h.1.1
  exact ⟨c, fun N z => ⟨fun k h => (by cases h), k, h3, comp, h4⟩, k, comp, h3, h4, h1, h5⟩
theorem st_a_l (h : XW s) : ∃ c : ClassId, ArrOfT s c (.array .long) ∧ va_RA s c (.array .long) := by
  obtain ⟨comp, c, k, h1, h2, h3, h4, h5⟩ := arrayOverA_spec h.1.2.1
  exact ⟨c, fun N z => ⟨fun k h => (by cases h), k, h3, comp, h4⟩, h5⟩
theorem st_a_i (h : XW s) : ∃ c : ClassId, ArrOfT s c (.array .int) ∧ va_RA s c (.array .int) := by
  obtain ⟨comp, c, k, h1, h2, h3, h4, h5⟩ := arrayOverA_spec h.1.2.2
  exact ⟨c, fun N z => ⟨fun k h => (by cases h), k, h3, comp, h4⟩, h5⟩
theorem st_a (h : ∀ w ∈ WA, w.before args s = true) (hx : XW s) : ∀ k : Nat, ∃ c : ClassId, ∀ ty, tyK[k]? = some ty → ArrOfT s c ty ∧ va_RA s c ty
  | 0 => (st_a_int h).elim fun c q => ⟨c, fun ty e => by cases e; exact q⟩
  | 1 => (st_a_int h).elim fun c q => ⟨c, fun ty e => by cases e; exact q⟩
  | 2 => (st_a_int h).elim fun c q => ⟨c, fun ty e => by cases e; exact q⟩
  | 3 => (st_a_char h).elim fun c q => ⟨c, fun ty e => by cases e; exact q⟩
  | 4 => (st_a_int h).elim fun c q => ⟨c, fun ty e => by cases e; exact q⟩
  | 5 => (st_a_long h).elim fun c q => ⟨c, fun ty e => by cases e; exact q⟩
  | 6 => (st_a_o hx).elim fun c q => ⟨c, fun ty e => by cases e; exact q⟩
  | 7 => (st_a_l hx).elim fun c q => ⟨c, fun ty e => by cases e; exact q⟩
  | 8 => (st_a_i hx).elim fun c q => ⟨c, fun ty e => by cases e; exact q⟩
  | _ + 9 => ⟨0, fun ty e => by cases e⟩
theorem st_ty {ar : Nat → ClassId} (h : ∀ k ty, tyK[k]? = some ty → ArrOfT s (ar k) ty ∧ va_RA s (ar k) ty) : ∀ (k : Nat) (q : ClassId × FieldType), (tyL ar)[k]? = some q → ArrOfT s q.1 q.2 ∧ va_RA s q.1 q.2
  | 0, q, e => by cases e; exact h 0 _ rfl
  | 1, q, e => by cases e; exact h 1 _ rfl
  | 2, q, e => by cases e; exact h 2 _ rfl
  | 3, q, e => by cases e; exact h 3 _ rfl
  | 4, q, e => by cases e; exact h 4 _ rfl
  | 5, q, e => by cases e; exact h 5 _ rfl
  | 6, q, e => by cases e; exact h 6 _ rfl
  | 7, q, e => by cases e; exact h 7 _ rfl
  | 8, q, e => by cases e; exact h 8 _ rfl
  | _ + 9, q, e => by cases e
theorem st_xw (h : ∀ w ∈ lw_tbl, w.before args s = true) : XW s :=
  ⟨⟨va_AO.of (h (Cond.arrayOver (.object RX2)) (tm_1 _ (List.mem_of_getElem? (i := 204) rfl))), h (Cond.arrayOver (.array .long)) (tm_2 _ (List.mem_of_getElem? (i := 28) rfl)), h (Cond.arrayOver (.array .int)) (tm_1 _ (List.mem_of_getElem? (i := 206) rfl))⟩, va_Nw.of rfl (h (.methodLinkNest RX8 18 yX1_init RX8) (tm_1 _ (List.mem_of_getElem? (i := 94) rfl))), va_Nw.of rfl (h (.methodLinkNest RX8 25 yX6_init RX8) (tm_1 _ (List.mem_of_getElem? (i := 120) rfl))), va_Nw.of rfl (h (.methodLinkNest RX8 51 yX0_init RX8) (tm_1 _ (List.mem_of_getElem? (i := 239) rfl)))⟩
theorem st_KN (h : ∀ w ∈ lw_tbl, w.before args s = true) {b sb L : Nat} {xs : Nat → Int32} (hX : va_X sb L xs s s.heap) (hsb : sb < s.heap.size) (hb : s.heap.size = b + 1) : ∃ cx : CX, cx.2.2.1 = b ∧ cx.2.2.2.1 = s.heap ∧ cx.2.2.2.2 = (sb, L, xs) ∧ KN cx s := by
  have hw : ∀ w ∈ WA, w.before args s = true := fun w q => h w ((List.mem_filter.mp q).1)
  have hx := st_xw h
  refine ⟨(((fun c => (Classical.choose (st_k hw c)).1), fun c => (Classical.choose (st_k hw c)).2), (fun k => Classical.choose (st_a hw hx k)), b, s.heap, sb, L, xs), rfl, rfl, rfl, ⟨fun c q e => Classical.choose_spec (st_k hw c) q e, st_ty (fun k ty e => Classical.choose_spec (st_a hw hx k) ty e)⟩, ⟨hX, ?_⟩, trivial, ?_, hx⟩
  · show sb ≤ b
    omega
  · show b < s.heap.size
    omega
end ST
/-- nothing yet -/
def m00 : Mm := ((fun _ _ => 0, fun _ _ => 0), fun _ _ => 0)
noncomputable def F_law (SC : SCT) (n2 : Nat) : Option (Unit × Mm) :=
  nm (clr m00 1) fun m1 =>
  bnd (F_X8_init m1) fun _ m2 =>
  @ite _ (Lay m2) (Classical.propDecidable (Lay m2)) (bnd (F_L_built SC n2 m2) fun v m3 => if v = iI 0 then none else F_L_law_18 SC n2 m3) none
theorem T_lay {β : Type} {p : Program} {l : Launch} {e : Env} {R : Room} {s : State} {m : MethodId} {args : Array Value} {below : List Frame} {meth : Method} {c : Code} {nL : Nat} {cx : CX} {n : Nat} {cells slots : Nat} {Q : β → Mm → State → Prop} {pc : Nat} {lv : List (Nat × Value)} {st : List Value} {μ : Mm} {F : Option (β × Mm)} (hl : Lay μ) (k : T p l e R s m args below meth c nL cx n Lay cells slots Q pc lv st μ F) : T p l e R s m args below meth c nL cx n (fun _ => True) cells slots Q pc lv st μ F :=
  fun ls H locs h1 h2 _ h4 r μ1 q => k ls H locs h1 h2 hl h4 r μ1 q
theorem T_lif {β : Type} {p : Program} {l : Launch} {e : Env} {R : Room} {s : State} {m : MethodId} {args : Array Value} {below : List Frame} {meth : Method} {c : Code} {nL : Nat} {cx : CX} {n : Nat} {Ly : Mm → Prop} {cells slots : Nat} {Q : β → Mm → State → Prop} {pc : Nat} {lv : List (Nat × Value)} {st : List Value} {μ : Mm} {P : Prop} {F : Option (β × Mm)} (k : P → T p l e R s m args below meth c nL cx n Ly cells slots Q pc lv st μ F) : T p l e R s m args below meth c nL cx n Ly cells slots Q pc lv st μ (@ite _ P (Classical.propDecidable P) F none) := by
  by_cases h : P
  · rw [if_pos h]; exact k h
  · rw [if_neg h]; exact T_none
set_option maxRecDepth 100000 in
set_option maxHeartbeats 4000000 in
/-- the claim comes down to this: on every script F_law is some -/
theorem start_of (hF : ∀ (SC : SCT), SC.1 ≤ 260 → ∃ n2 μ, NN ≤ n2 ∧ F_law SC n2 = some ((), μ)) {p : Program} {e : Env} {s : State} {m : MethodId} {below : List Frame} {meth : Method} {c : Code} (l : Launch) {b L : Nat} {xs : Nat → Int32} (hL : L ≤ 260) (C0 : lw_At p s m meth c b L xs) : W p l e room_1 s m #[Value.ref b] below meth c s.heap [] 0 0 (lw_Z below #[Value.ref b] s) (entryFrame m ([Value.ref b] : List Value).toArray 16) := by
  obtain ⟨hx, hb, hr, hml, hown, hts, hX, hbl, hlocks, hgv⟩ := C0
  obtain ⟨q, hq⟩ : ∃ q, s.heap.size = q + 1 := ⟨s.heap.size - 1, by omega⟩
  obtain ⟨cx, e1, e2, e3, hK⟩ := st_KN hts hX hbl hq
  have hw : ∀ w ∈ WA, w.before #[Value.ref b] s = true := fun w z => hts w ((List.mem_filter.mp z).1)
  have eb : b = cx.2.2.2.2.1 := by rw [e3]
  subst eb
  have K : Kx p s m #[Value.ref cx.2.2.2.2.1] c cL_law 16 RL cx := ⟨hx, hb, hml, hown, hw, hK, by rw [e1, hq]; omega⟩
  have C : CM p s m #[Value.ref cx.2.2.2.2.1] meth c cL_law 16 RL cx (some .boolean) := ⟨K, hr, hlocks⟩
  have CL : CML p s m meth c cx := ⟨C, by rw [e1, hq]; exact Nat.le_refl _⟩
  have e4 : cx.2.2.2.2.2 = (L, xs) := by rw [e3]
  obtain ⟨n2, μ, hn, hμ⟩ := hF cx.2.2.2.2.2 (by rw [e4]; exact hL)
  have hl := lv_entry [Value.ref cx.2.2.2.2.1] (n := 16) (Nat.le_of_ble_eq_true rfl)
  have main : T p l e room_1 s m #[Value.ref cx.2.2.2.2.1] below meth c 16 cx 0 (fun _ => True) 0 0 (fun (_ : Unit) _ => lw_Z below #[Value.ref cx.2.2.2.2.1] s) 0 (lv_args 0 [Value.ref cx.2.2.2.2.1]) [] m00 (F_law cx.2.2.2.2.2 n2) := by
    unfold F_law
    refine T_new (a := 1) (ci := 8) C.1 dL_law_0 (by omega) wm_1_14 wm_1_15 wm_1_1 rfl tyX8_ok (by decide) inX8 sh1 (by decide) (by decide) (fun _ => trivial) (fun m1 => ?_)
    refine T_dup C.1 dL_law_3 rfl ?_
    refine T_callI (rm := rm_X8_init) (n2 := 112) (mc := 111) (ms := 2381) [] [.ref (cx.2.2.1 + 1)] C.1 dL_law_4 mw_X8_init rfl wm_1_16 wm_1_17 ⟨⟨Nat.le_of_ble_eq_true rfl, Nat.le_of_ble_eq_true rfl⟩, rfl, rfl, by decide, by decide, by omega⟩ rfl rfl (Nat.le_of_ble_eq_true rfl) (c_X8_init l cx m1) (fun m2 _ => ?_)
    refine T_astore_n (lv' := [(1, .ref (cx.2.2.1 + 1)), (0, .ref cx.2.2.2.2.1)]) C.1 dL_law_7 (by decide) rfl ?_
    refine T_lif (fun hlay => ?_)
    refine T_lay hlay ?_
    refine T_aload_n C.1 dL_law_8 0 rfl ?_
    refine T_aload_n C.1 dL_law_9 1 rfl ?_
    refine T_callSA (rm := rm_L_built) (n2 := n2) (mc := 2) (ms := 21) [.ref (cx.2.2.1 + 1), .ref cx.2.2.2.2.1] [] C.1 dL_law_10 mw_L_built wm_3_174 wm_3_175 ⟨⟨Nat.le_of_ble_eq_true rfl, Nat.le_of_ble_eq_true rfl⟩, rfl, rfl, by decide, by decide, hn⟩ rfl rfl (Nat.le_of_ble_eq_true rfl) (c_L_built l cx n2 m2) (fun v m3 => ?_)
    refine T_if_ne (tgt := 18) C.1 dL_law_13 (by decide) ?_ ?_
    · exact T_sub [1, 0] rfl (t_L_law_18 hn CL m3)
    · exact T_none
  have hWd : Wd cx 0 m00 s.heap := ⟨fun k x h => (by cases h), by rw [e1, hq], fun z _ => by rw [e2]⟩
  rw [lg_entry_eq]
  exact main _ s.heap [] hl hWd trivial va_S.rf () μ hμ
