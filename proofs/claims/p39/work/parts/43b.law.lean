/-! THE LAW'S BODY: printed by wip/p39/gen/gen4.py; its first rows are the skeleton's -/
def R_law : String := "OpenOrTakeLaw"
def lw_P (b : Addr) (xs : List Int32) (args : Array Value) (s : State) : Prop := args = #[.ref b] ∧ s.IntsAt b xs ∧ xs.length ≤ 260 ∧ (Jvm.Cond.and given_1 narrow_1).before args s = true
def lw_Q (_ : Array Value) (s : State) (o : Outcome) (t : State) : Prop := o = .returned (some (.int 1)) ∧ Framed s o t [] 600000 7302250
def lw_Z (below : List Frame) (a : Array Value) (s : State) : State → Prop := fun t => ∃ o, t.status = .running ∧ Ended t below o ∧ lw_Q a s o t
/-- the law's own end, with 1 on the stack, nothing written that was there before, its room as the claim has it -/
theorem lw_ret {p : Program} {l : Launch} {e : Env} {s : State} {m : MethodId} {below : List Frame} {meth : Method} {c : Code} {b : Nat} (hx : p.tables.exec = Jvm.exec) (hb : c.code = code) (hr : meth.sig.returnType = ret) (hlocks : meth.locks = false) {pc : Nat} {H : Heap} {ls : Array Slot} (hdg : decode code pc = .ok (.ireturn, 1)) : W p l e room_1 s m #[Value.ref b] below meth c H [] 600000 7302250 (lw_Z below #[Value.ref b] s) (F0 m pc ls [.int 1]) := by
  intro T hT X
  obtain ⟨fs, hret, hrun, hended, hW, hframe⟩ := X.leave (v := some (.int 1)) (hlocks := hlocks) (fun h => by rw [hr] at h; cases h)
  have hmeth' : T.vm.method? m = some meth := X.method'
  refine ⟨T.setFrames fs, ?_, .returned (some (.int 1)), hrun, hended, rfl, ⟨_, rfl⟩, hW, hframe⟩
  jvm_step X.here [X.here.top, hx, hb, hdg, hmeth', hr, ret, narrow_b1]
  (try refine ⟨rfl, ?_⟩); (try refine ⟨rfl, ?_⟩)
  first | (intro acts; rw [hret _ acts rfl rfl rfl]) | rw [hret _ _ rfl rfl rfl]
  exact Steps.refl _
/-- what holds at the law's entry: the machine, the code, the tables' words (any of lw_tbl by 'hts w (by decide +kernel)'), the script of L ints xs at the cell b, what the Statement gives of the start (any of its parts by flat_of_before) -/
def lw_At (p : Program) (s : State) (m : MethodId) (meth : Method) (c : Code) (b L : Nat) (xs : Nat → Int32) : Prop :=
  p.tables.exec = Jvm.exec ∧ c.code = code ∧ meth.sig.returnType = ret ∧ c.maxLocals = 16 ∧ s.vm.findClass R_law = some m.cls ∧ (∀ w ∈ lw_tbl, w.before #[Value.ref b] s = true) ∧ va_X b L xs s s.heap ∧ b < s.heap.size ∧ meth.locks = false ∧ (Jvm.Cond.and given_1 narrow_1).before #[Value.ref b] s = true
abbrev TLw (p : Program) (l : Launch) (e : Env) (s : State) (m : MethodId) (below : List Frame) (meth : Method) (c : Code) (cx : CX) (n2 : Nat) (pc : Nat) (lv : List (Nat × Value)) (st : List Value) (μ : Mm) (F : Option (Unit × Mm)) : Prop := T p l e room_1 s m #[Value.ref cx.2.2.2.2.1] below meth c 16 cx n2 Lay 114 2411 (fun (_ : Unit) _ => lw_Z below #[Value.ref cx.2.2.2.2.1] s) pc lv st μ F
def CML (p : Program) (s : State) (m : MethodId) (meth : Method) (c : Code) (cx : CX) : Prop := CM p s m #[Value.ref cx.2.2.2.2.1] meth c cL_law 16 RL cx (some .boolean) ∧ s.heap.size ≤ cx.2.2.1 + 1
theorem T_lawret {p : Program} {l : Launch} {e : Env} {s : State} {m : MethodId} {below : List Frame} {meth : Method} {c : Code} {cx : CX} {n2 pc : Nat} {lv : List (Nat × Value)} {μ : Mm} (C : CML p s m meth c cx) (hdg : decode cL_law pc = .ok (.ireturn, 1)) : TLw p l e s m below meth c cx n2 pc lv [.int (iI 1)] μ (some ((), μ)) := by
  intro ls H locs hl hW hL hS r μ1 q
  have hbs := C.2
  refine va_forget (fun q hq => by have h : cx.2.2.1 < q.base := hS.2.2 q hq; omega) ?_
  refine W.widen (k := 600000) (n := 7302250) (by decide) (by decide) ?_
  exact lw_ret C.1.1.1 C.1.1.2.1 C.1.2.1 C.1.2.2 hdg
def F_L_law_729 (SC : SCT) (n2 : Nat)  : Nat → Int32 → Int32 → Int32 → Mm → Option (Unit × Mm)
  | 0, _, _, _, _ => none
  | f + 1, a1, a2, a3, m =>
    bnd (F_X8_turn m) fun v1 m2 =>
    (if v1 < iI 0 then
      (if a3 = a1 then
        bnd (F_X8_count (iI 1) m2) fun v3 m4 =>
        (if v3 = iI 0 then
          bnd (F_X8_led (iI 2) m4) fun v5 m6 =>
          (if v5 = (((iI 2) * a1) + a2) then
            some ((), m6)
          else
            none)
        else
          none)
      else
        none)
    else
      bnd (F_X8_turn m2) fun v7 m8 =>
      bnd (F_X8_open m8) fun v9 m10 =>
      (if v9 = a3 then
        bnd (F_X8_of v7 (iI 11) m10) fun v11 m12 =>
        (if v11 = v9 then
          bnd (F_X8_of v9 (iI 13) m12) fun v13 m14 =>
          (if v13 = iI 0 then
            nm (a3 + (iI 1)) fun v15 =>
            F_L_law_729 SC n2 f a1 a2 v15 m14
          else
            none)
        else
          none)
      else
        none))
set_option maxRecDepth 100000 in
set_option maxHeartbeats 4000000 in
theorem t_L_law_729 {n2 : Nat} (hn : NN ≤ n2) {pp : Program} {ll : Launch} {ee : Env} {ss : State} {mm : MethodId} {bb : List Frame} {me : Method} {co : Code} {cx : CX}  (C : CML pp ss mm me co cx)  : ∀ (f : Nat) (a1 : Int32) (a2 : Int32) (a3 : Int32) (m : Mm), TLw pp ll ee ss mm bb me co cx n2 729 [(1, .ref (cx.2.2.1 + 1)), (2, .int a1), (4, .int a2), (13, .int a3)] [] m (F_L_law_729 cx.2.2.2.2.2 n2 f a1 a2 a3 m) := by
  intro f
  induction f with
  | zero => exact fun _ _ _ _ => T_none
  | succ f ih =>
    intro a1 a2 a3 m
    unfold F_L_law_729
    refine T_aload_n C.1.1 dL_law_729 0 rfl ?_
    refine T_callVI (rm := rm_X8_turn) [] [] C.1.1 dL_law_730 mw_X8_turn wm_2_94 wm_2_95 wm_2_96 ⟨Nat.le_of_ble_eq_true rfl, Nat.le_of_ble_eq_true rfl⟩ ⟨rfl, rfl⟩ ⟨by decide, by decide⟩ rfl rfl (Nat.le_of_ble_eq_true rfl) sh1 (Nat.le_trans le1 hn) ⟨rfl, rfl⟩ (c_X8_turn hn ll cx m) (fun v1 m2 => ?_)
    refine T_if_lt (tgt := 787) C.1.1 dL_law_733 (by decide) ?_ ?_
    · refine T_iload C.1.1 dL_law_787 3 rfl ?_
      refine T_iload_n C.1.1 dL_law_789 1 rfl ?_
      refine T_icmp_ne (tgt := 819) C.1.1 dL_law_790 (by decide) ?_ ?_
      · refine T_iconst C.1.1 dL_law_819 ?_
        exact T_none
      · refine T_aload_n C.1.1 dL_law_793 0 rfl ?_
        refine T_iconst C.1.1 dL_law_794 ?_
        refine T_callVI (rm := rm_X8_count) [.int (iI 1)] [] C.1.1 dL_law_795 mw_X8_count wm_3_153 wm_3_154 wm_3_155 ⟨Nat.le_of_ble_eq_true rfl, Nat.le_of_ble_eq_true rfl⟩ ⟨rfl, rfl⟩ ⟨by decide, by decide⟩ rfl rfl (Nat.le_of_ble_eq_true rfl) sh1 (Nat.le_trans le1 hn) ⟨rfl, rfl⟩ (c_X8_count hn ll cx (iI 1) m2) (fun v3 m4 => ?_)
        refine T_if_ne (tgt := 819) C.1.1 dL_law_798 (by decide) ?_ ?_
        · refine T_iconst C.1.1 dL_law_819 ?_
          exact T_none
        · refine T_aload_n C.1.1 dL_law_801 0 rfl ?_
          refine T_iconst C.1.1 dL_law_802 ?_
          refine T_callVI (rm := rm_X8_led) [.int (iI 2)] [] C.1.1 dL_law_803 mw_X8_led wm_2_198 wm_2_199 wm_2_200 ⟨Nat.le_of_ble_eq_true rfl, Nat.le_of_ble_eq_true rfl⟩ ⟨rfl, rfl⟩ ⟨by decide, by decide⟩ rfl rfl (Nat.le_of_ble_eq_true rfl) sh1 (Nat.le_trans le1 hn) ⟨rfl, rfl⟩ (c_X8_led hn ll cx (iI 2) m4) (fun v5 m6 => ?_)
          refine T_iconst C.1.1 dL_law_806 ?_
          refine T_iload_n C.1.1 dL_law_807 1 rfl ?_
          refine T_imul C.1.1 dL_law_808 ?_
          refine T_iload C.1.1 dL_law_809 2 rfl ?_
          refine T_iadd C.1.1 dL_law_811 ?_
          refine T_icmp_ne (tgt := 819) C.1.1 dL_law_812 (by decide) ?_ ?_
          · refine T_iconst C.1.1 dL_law_819 ?_
            exact T_none
          · refine T_iconst C.1.1 dL_law_815 ?_
            refine T_goto (tgt := 820) C.1.1 dL_law_816 (by decide) ?_
            exact T_lawret C dL_law_820
    · refine T_aload_n C.1.1 dL_law_736 0 rfl ?_
      refine T_callVI (rm := rm_X8_turn) [] [] C.1.1 dL_law_737 mw_X8_turn wm_2_94 wm_2_95 wm_2_96 ⟨Nat.le_of_ble_eq_true rfl, Nat.le_of_ble_eq_true rfl⟩ ⟨rfl, rfl⟩ ⟨by decide, by decide⟩ rfl rfl (Nat.le_of_ble_eq_true rfl) sh1 (Nat.le_trans le1 hn) ⟨rfl, rfl⟩ (c_X8_turn hn ll cx m2) (fun v7 m8 => ?_)
      refine T_istore (lv' := [(14, .int v7), (1, .ref (cx.2.2.1 + 1)), (2, .int a1), (4, .int a2), (13, .int a3)]) C.1.1 dL_law_740 (by decide) rfl ?_
      refine T_aload_n C.1.1 dL_law_742 1 rfl ?_
      refine T_callVI (rm := rm_X8_open) [] [] C.1.1 dL_law_743 mw_X8_open wm_2_102 wm_2_103 wm_2_104 ⟨Nat.le_of_ble_eq_true rfl, Nat.le_of_ble_eq_true rfl⟩ ⟨rfl, rfl⟩ ⟨by decide, by decide⟩ rfl rfl (Nat.le_of_ble_eq_true rfl) sh1 (Nat.le_trans le1 hn) ⟨rfl, rfl⟩ (c_X8_open hn ll cx m8) (fun v9 m10 => ?_)
      refine T_istore (lv' := [(15, .int v9), (14, .int v7), (1, .ref (cx.2.2.1 + 1)), (2, .int a1), (4, .int a2), (13, .int a3)]) C.1.1 dL_law_746 (by decide) rfl ?_
      refine T_iload C.1.1 dL_law_748 0 rfl ?_
      refine T_iload C.1.1 dL_law_750 5 rfl ?_
      refine T_icmp_ne (tgt := 779) C.1.1 dL_law_752 (by decide) ?_ ?_
      · refine T_iconst C.1.1 dL_law_779 ?_
        exact T_none
      · refine T_aload_n C.1.1 dL_law_755 2 rfl ?_
        refine T_iload C.1.1 dL_law_756 1 rfl ?_
        refine T_bipush C.1.1 dL_law_758 rfl ?_
        refine T_callVI (rm := rm_X8_of) [.int v7, .int (iI 11)] [] C.1.1 dL_law_760 mw_X8_of wm_2_72 wm_2_73 wm_2_74 ⟨Nat.le_of_ble_eq_true rfl, Nat.le_of_ble_eq_true rfl⟩ ⟨rfl, rfl⟩ ⟨by decide, by decide⟩ rfl rfl (Nat.le_of_ble_eq_true rfl) sh1 (Nat.le_trans le1 hn) ⟨rfl, rfl⟩ (c_X8_of hn ll cx v7 (iI 11) m10) (fun v11 m12 => ?_)
        refine T_iload C.1.1 dL_law_763 0 rfl ?_
        refine T_icmp_ne (tgt := 779) C.1.1 dL_law_765 (by decide) ?_ ?_
        · refine T_iconst C.1.1 dL_law_779 ?_
          exact T_none
        · refine T_aload_n C.1.1 dL_law_768 2 rfl ?_
          refine T_iload C.1.1 dL_law_769 0 rfl ?_
          refine T_bipush C.1.1 dL_law_771 rfl ?_
          refine T_callVI (rm := rm_X8_of) [.int v9, .int (iI 13)] [] C.1.1 dL_law_773 mw_X8_of wm_2_72 wm_2_73 wm_2_74 ⟨Nat.le_of_ble_eq_true rfl, Nat.le_of_ble_eq_true rfl⟩ ⟨rfl, rfl⟩ ⟨by decide, by decide⟩ rfl rfl (Nat.le_of_ble_eq_true rfl) sh1 (Nat.le_trans le1 hn) ⟨rfl, rfl⟩ (c_X8_of hn ll cx v9 (iI 13) m12) (fun v13 m14 => ?_)
          refine T_if_eq (tgt := 781) C.1.1 dL_law_776 (by decide) ?_ ?_
          · refine T_iincN C.1.1 (fun v15 => [(13, .int v15), (15, .int v9), (14, .int v7), (1, .ref (cx.2.2.1 + 1)), (2, .int a1), (4, .int a2)]) dL_law_781 5 rfl (by decide) (fun _ => rfl) (fun v15 => ?_)
            refine T_goto (tgt := 729) C.1.1 dL_law_784 (by decide) ?_
            exact T_sub [3, 4, 5, 0] rfl (ih a1 a2 v15 m14)
          · refine T_iconst C.1.1 dL_law_779 ?_
            exact T_none
def F_L_law_649 (SC : SCT) (n2 : Nat)  : Nat → Int32 → Int32 → Int32 → Mm → Option (Unit × Mm)
  | 0, _, _, _, _ => none
  | f + 1, a1, a2, a3, m =>
    (if a1 ≤ a3 then
      bnd (F_X8_anew m) fun v1 m2 =>
      (if v1 = a1 then
        bnd (F_X8_count (iI 1) m2) fun v3 m4 =>
        (if v3 = a1 then
          bnd (F_X8_count (iI 2) m4) fun v5 m6 =>
          (if v5 = iI 0 then
            F_L_law_729 SC n2 FU a1 a2 (iI 0) m6
          else
            none)
        else
          none)
      else
        none)
    else
      bnd (F_X8_of a3 (iI 11) m) fun v7 m8 =>
      bnd (F_X8_evening a3 (iI 0) m8) fun v9 m10 =>
      (if v7 = v9 then
        bnd (F_X8_of a3 (iI 12) m10) fun v11 m12 =>
        bnd (F_X8_evening a3 (iI 3) m12) fun v13 m14 =>
        (if v11 = v13 then
          nm (a3 + (iI 1)) fun v15 =>
          F_L_law_649 SC n2 f a1 a2 v15 m14
        else
          none)
      else
        none))
set_option maxRecDepth 100000 in
set_option maxHeartbeats 4000000 in
theorem t_L_law_649 {n2 : Nat} (hn : NN ≤ n2) {pp : Program} {ll : Launch} {ee : Env} {ss : State} {mm : MethodId} {bb : List Frame} {me : Method} {co : Code} {cx : CX}  (C : CML pp ss mm me co cx)  : ∀ (f : Nat) (a1 : Int32) (a2 : Int32) (a3 : Int32) (m : Mm), TLw pp ll ee ss mm bb me co cx n2 649 [(1, .ref (cx.2.2.1 + 1)), (2, .int a1), (4, .int a2), (13, .int a3)] [] m (F_L_law_649 cx.2.2.2.2.2 n2 f a1 a2 a3 m) := by
  intro f
  induction f with
  | zero => exact fun _ _ _ _ => T_none
  | succ f ih =>
    intro a1 a2 a3 m
    unfold F_L_law_649
    refine T_iload C.1.1 dL_law_649 3 rfl ?_
    refine T_iload_n C.1.1 dL_law_651 1 rfl ?_
    refine T_icmp_ge (tgt := 699) C.1.1 dL_law_652 (by decide) ?_ ?_
    · refine T_iconst C.1.1 dL_law_699 ?_
      refine T_istore (lv' := [(13, .int (iI 0)), (1, .ref (cx.2.2.1 + 1)), (2, .int a1), (4, .int a2)]) C.1.1 dL_law_700 (by decide) rfl ?_
      refine T_aload_n C.1.1 dL_law_702 1 rfl ?_
      refine T_callVI (rm := rm_X8_anew) [] [] C.1.1 dL_law_703 mw_X8_anew wm_2_190 wm_2_191 wm_2_192 ⟨Nat.le_of_ble_eq_true rfl, Nat.le_of_ble_eq_true rfl⟩ ⟨rfl, rfl⟩ ⟨by decide, by decide⟩ rfl rfl (Nat.le_of_ble_eq_true rfl) sh1 (Nat.le_trans le1 hn) ⟨rfl, rfl⟩ (c_X8_anew hn ll cx m) (fun v1 m2 => ?_)
      refine T_iload_n C.1.1 dL_law_706 2 rfl ?_
      refine T_icmp_ne (tgt := 727) C.1.1 dL_law_707 (by decide) ?_ ?_
      · refine T_iconst C.1.1 dL_law_727 ?_
        exact T_none
      · refine T_aload_n C.1.1 dL_law_710 1 rfl ?_
        refine T_iconst C.1.1 dL_law_711 ?_
        refine T_callVI (rm := rm_X8_count) [.int (iI 1)] [] C.1.1 dL_law_712 mw_X8_count wm_3_153 wm_3_154 wm_3_155 ⟨Nat.le_of_ble_eq_true rfl, Nat.le_of_ble_eq_true rfl⟩ ⟨rfl, rfl⟩ ⟨by decide, by decide⟩ rfl rfl (Nat.le_of_ble_eq_true rfl) sh1 (Nat.le_trans le1 hn) ⟨rfl, rfl⟩ (c_X8_count hn ll cx (iI 1) m2) (fun v3 m4 => ?_)
        refine T_iload_n C.1.1 dL_law_715 2 rfl ?_
        refine T_icmp_ne (tgt := 727) C.1.1 dL_law_716 (by decide) ?_ ?_
        · refine T_iconst C.1.1 dL_law_727 ?_
          exact T_none
        · refine T_aload_n C.1.1 dL_law_719 1 rfl ?_
          refine T_iconst C.1.1 dL_law_720 ?_
          refine T_callVI (rm := rm_X8_count) [.int (iI 2)] [] C.1.1 dL_law_721 mw_X8_count wm_3_153 wm_3_154 wm_3_155 ⟨Nat.le_of_ble_eq_true rfl, Nat.le_of_ble_eq_true rfl⟩ ⟨rfl, rfl⟩ ⟨by decide, by decide⟩ rfl rfl (Nat.le_of_ble_eq_true rfl) sh1 (Nat.le_trans le1 hn) ⟨rfl, rfl⟩ (c_X8_count hn ll cx (iI 2) m4) (fun v5 m6 => ?_)
          refine T_if_eq (tgt := 729) C.1.1 dL_law_724 (by decide) ?_ ?_
          · exact T_sub [1, 2, 3, 0] rfl (t_L_law_729 hn C FU a1 a2 (iI 0) m6)
          · refine T_iconst C.1.1 dL_law_727 ?_
            exact T_none
    · refine T_aload_n C.1.1 dL_law_655 0 rfl ?_
      refine T_iload C.1.1 dL_law_656 3 rfl ?_
      refine T_bipush C.1.1 dL_law_658 rfl ?_
      refine T_callVI (rm := rm_X8_of) [.int a3, .int (iI 11)] [] C.1.1 dL_law_660 mw_X8_of wm_2_72 wm_2_73 wm_2_74 ⟨Nat.le_of_ble_eq_true rfl, Nat.le_of_ble_eq_true rfl⟩ ⟨rfl, rfl⟩ ⟨by decide, by decide⟩ rfl rfl (Nat.le_of_ble_eq_true rfl) sh1 (Nat.le_trans le1 hn) ⟨rfl, rfl⟩ (c_X8_of hn ll cx a3 (iI 11) m) (fun v7 m8 => ?_)
      refine T_aload_n C.1.1 dL_law_663 0 rfl ?_
      refine T_iload C.1.1 dL_law_664 3 rfl ?_
      refine T_iconst C.1.1 dL_law_666 ?_
      refine T_callVI (rm := rm_X8_evening) [.int a3, .int (iI 0)] [.int v7] C.1.1 dL_law_667 mw_X8_evening wm_2_202 wm_2_203 wm_2_204 ⟨Nat.le_of_ble_eq_true rfl, Nat.le_of_ble_eq_true rfl⟩ ⟨rfl, rfl⟩ ⟨by decide, by decide⟩ rfl rfl (Nat.le_of_ble_eq_true rfl) sh1 (Nat.le_trans le1 hn) ⟨rfl, rfl⟩ (c_X8_evening hn ll cx a3 (iI 0) m8) (fun v9 m10 => ?_)
      refine T_icmp_ne (tgt := 691) C.1.1 dL_law_670 (by decide) ?_ ?_
      · refine T_iconst C.1.1 dL_law_691 ?_
        exact T_none
      · refine T_aload_n C.1.1 dL_law_673 0 rfl ?_
        refine T_iload C.1.1 dL_law_674 3 rfl ?_
        refine T_bipush C.1.1 dL_law_676 rfl ?_
        refine T_callVI (rm := rm_X8_of) [.int a3, .int (iI 12)] [] C.1.1 dL_law_678 mw_X8_of wm_2_72 wm_2_73 wm_2_74 ⟨Nat.le_of_ble_eq_true rfl, Nat.le_of_ble_eq_true rfl⟩ ⟨rfl, rfl⟩ ⟨by decide, by decide⟩ rfl rfl (Nat.le_of_ble_eq_true rfl) sh1 (Nat.le_trans le1 hn) ⟨rfl, rfl⟩ (c_X8_of hn ll cx a3 (iI 12) m10) (fun v11 m12 => ?_)
        refine T_aload_n C.1.1 dL_law_681 0 rfl ?_
        refine T_iload C.1.1 dL_law_682 3 rfl ?_
        refine T_iconst C.1.1 dL_law_684 ?_
        refine T_callVI (rm := rm_X8_evening) [.int a3, .int (iI 3)] [.int v11] C.1.1 dL_law_685 mw_X8_evening wm_2_202 wm_2_203 wm_2_204 ⟨Nat.le_of_ble_eq_true rfl, Nat.le_of_ble_eq_true rfl⟩ ⟨rfl, rfl⟩ ⟨by decide, by decide⟩ rfl rfl (Nat.le_of_ble_eq_true rfl) sh1 (Nat.le_trans le1 hn) ⟨rfl, rfl⟩ (c_X8_evening hn ll cx a3 (iI 3) m12) (fun v13 m14 => ?_)
        refine T_icmp_eq (tgt := 693) C.1.1 dL_law_688 (by decide) ?_ ?_
        · refine T_iincN C.1.1 (fun v15 => [(13, .int v15), (1, .ref (cx.2.2.1 + 1)), (2, .int a1), (4, .int a2)]) dL_law_693 3 rfl (by decide) (fun _ => rfl) (fun v15 => ?_)
          refine T_goto (tgt := 649) C.1.1 dL_law_696 (by decide) ?_
          exact T_sub [1, 2, 3, 0] rfl (ih a1 a2 v15 m14)
        · refine T_iconst C.1.1 dL_law_691 ?_
          exact T_none
def F_L_law_627 (SC : SCT) (n2 : Nat)  (a1 : Int32) (a2 : Int32) (a3 : Int32) (a4 : Int32) (m : Mm) : Option (Unit × Mm) :=
  (if (a4 + a3) < a1 then
    none
  else
    bnd (F_X8_led (iI 2) m) fun v1 m2 =>
    (if v1 = (a1 + a2) then
      F_L_law_649 SC n2 FU a1 a2 (iI 0) m2
    else
      none))
set_option maxRecDepth 100000 in
set_option maxHeartbeats 4000000 in
theorem t_L_law_627 {n2 : Nat} (hn : NN ≤ n2) {pp : Program} {ll : Launch} {ee : Env} {ss : State} {mm : MethodId} {bb : List Frame} {me : Method} {co : Code} {cx : CX}  (C : CML pp ss mm me co cx)  (a1 : Int32) (a2 : Int32) (a3 : Int32) (a4 : Int32) (m : Mm) : TLw pp ll ee ss mm bb me co cx n2 627 [(1, .ref (cx.2.2.1 + 1)), (2, .int a1), (4, .int a2)] [.int a3, .int a4] m (F_L_law_627 cx.2.2.2.2.2 n2 a1 a2 a3 a4 m) := by
  unfold F_L_law_627
  refine T_iadd C.1.1 dL_law_627 ?_
  refine T_iload_n C.1.1 dL_law_628 1 rfl ?_
  refine T_icmp_lt (tgt := 644) C.1.1 dL_law_629 (by decide) ?_ ?_
  · refine T_iconst C.1.1 dL_law_644 ?_
    exact T_none
  · refine T_aload_n C.1.1 dL_law_632 0 rfl ?_
    refine T_iconst C.1.1 dL_law_633 ?_
    refine T_callVI (rm := rm_X8_led) [.int (iI 2)] [] C.1.1 dL_law_634 mw_X8_led wm_2_198 wm_2_199 wm_2_200 ⟨Nat.le_of_ble_eq_true rfl, Nat.le_of_ble_eq_true rfl⟩ ⟨rfl, rfl⟩ ⟨by decide, by decide⟩ rfl rfl (Nat.le_of_ble_eq_true rfl) sh1 (Nat.le_trans le1 hn) ⟨rfl, rfl⟩ (c_X8_led hn ll cx (iI 2) m) (fun v1 m2 => ?_)
    refine T_iload_n C.1.1 dL_law_637 1 rfl ?_
    refine T_iload C.1.1 dL_law_638 2 rfl ?_
    refine T_iadd C.1.1 dL_law_640 ?_
    refine T_icmp_eq (tgt := 646) C.1.1 dL_law_641 (by decide) ?_ ?_
    · refine T_iconst C.1.1 dL_law_646 ?_
      refine T_istore (lv' := [(13, .int (iI 0)), (1, .ref (cx.2.2.1 + 1)), (2, .int a1), (4, .int a2)]) C.1.1 dL_law_647 (by decide) rfl ?_
      exact T_sub [1, 2, 3, 0] rfl (t_L_law_649 hn C FU a1 a2 (iI 0) m2)
    · refine T_iconst C.1.1 dL_law_644 ?_
      exact T_none
def F_L_law_626 (SC : SCT) (n2 : Nat)  (a1 : Int32) (a2 : Int32) (a3 : Int32) (m : Mm) : Option (Unit × Mm) :=
  F_L_law_627 SC n2 a1 a2 (iI 0) a3 m
set_option maxRecDepth 100000 in
set_option maxHeartbeats 4000000 in
theorem t_L_law_626 {n2 : Nat} (hn : NN ≤ n2) {pp : Program} {ll : Launch} {ee : Env} {ss : State} {mm : MethodId} {bb : List Frame} {me : Method} {co : Code} {cx : CX}  (C : CML pp ss mm me co cx)  (a1 : Int32) (a2 : Int32) (a3 : Int32) (m : Mm) : TLw pp ll ee ss mm bb me co cx n2 626 [(1, .ref (cx.2.2.1 + 1)), (2, .int a1), (4, .int a2)] [.int a3] m (F_L_law_626 cx.2.2.2.2.2 n2 a1 a2 a3 m) := by
  unfold F_L_law_626
  refine T_iconst C.1.1 dL_law_626 ?_
  exact T_sub [0, 1, 2] rfl (t_L_law_627 hn C a1 a2 (iI 0) a3 m)
def F_L_law_530 (SC : SCT) (n2 : Nat)  : Nat → Int32 → Int32 → Int32 → Int32 → Int32 → Int32 → Mm → Option (Unit × Mm)
  | 0, _, _, _, _, _, _, _ => none
  | f + 1, a1, a2, a3, a4, a5, a6, m =>
    (if a1 ≤ a6 then
      (if a3 = (a5 - a4) then
        bnd (F_X8_goOn m) fun v1 m2 =>
        bnd (F_L_again SC m2) fun v3 m4 =>
        (if v3 = (iI 1) then
          bnd (F_X8_again m4) fun v5 m6 =>
          (if v5 < iI 0 then
            F_L_law_626 SC n2 a1 a2 v1 m6
          else
            F_L_law_627 SC n2 a1 a2 (iI 0) v1 m6)
        else
          F_L_law_626 SC n2 a1 a2 v1 m4)
      else
        none)
    else
      bnd (F_X8_numbers (iI 3) (iI 7) a6 m) fun v7 m8 =>
      (if v7 < iI 0 then
        none
      else
        bnd (F_X8_best (iI (-1)) m8) fun v9 m10 =>
        (if v7 ≤ ((iI 7) * v9) then
          nm (mnI a4 v7) fun v11 =>
          nm (mxI a5 v7) fun v12 =>
          nm (a6 + (iI 1)) fun v13 =>
          F_L_law_530 SC n2 f a1 a2 a3 v11 v12 v13 m10
        else
          none)))
set_option maxRecDepth 100000 in
set_option maxHeartbeats 4000000 in
theorem t_L_law_530 {n2 : Nat} (hn : NN ≤ n2) {pp : Program} {ll : Launch} {ee : Env} {ss : State} {mm : MethodId} {bb : List Frame} {me : Method} {co : Code} {cx : CX}  (C : CML pp ss mm me co cx)  : ∀ (f : Nat) (a1 : Int32) (a2 : Int32) (a3 : Int32) (a4 : Int32) (a5 : Int32) (a6 : Int32) (m : Mm), TLw pp ll ee ss mm bb me co cx n2 530 [(0, .ref cx.2.2.2.2.1), (1, .ref (cx.2.2.1 + 1)), (2, .int a1), (4, .int a2), (10, .int a3), (11, .int a4), (12, .int a5), (13, .int a6)] [] m (F_L_law_530 cx.2.2.2.2.2 n2 f a1 a2 a3 a4 a5 a6 m) := by
  intro f
  induction f with
  | zero => exact fun _ _ _ _ _ _ _ => T_none
  | succ f ih =>
    intro a1 a2 a3 a4 a5 a6 m
    unfold F_L_law_530
    refine T_iload C.1.1 dL_law_530 7 rfl ?_
    refine T_iload_n C.1.1 dL_law_532 2 rfl ?_
    refine T_icmp_ge (tgt := 591) C.1.1 dL_law_533 (by decide) ?_ ?_
    · refine T_iload C.1.1 dL_law_591 4 rfl ?_
      refine T_iload C.1.1 dL_law_593 6 rfl ?_
      refine T_iload C.1.1 dL_law_595 5 rfl ?_
      refine T_isub C.1.1 dL_law_597 ?_
      refine T_icmp_eq (tgt := 603) C.1.1 dL_law_598 (by decide) ?_ ?_
      · refine T_aload_n C.1.1 dL_law_603 1 rfl ?_
        refine T_callVI (rm := rm_X8_goOn) [] [] C.1.1 dL_law_604 mw_X8_goOn wm_2_114 wm_2_115 wm_2_116 ⟨Nat.le_of_ble_eq_true rfl, Nat.le_of_ble_eq_true rfl⟩ ⟨rfl, rfl⟩ ⟨by decide, by decide⟩ rfl rfl (Nat.le_of_ble_eq_true rfl) sh1 (Nat.le_trans le1 hn) ⟨rfl, rfl⟩ (c_X8_goOn hn ll cx m) (fun v1 m2 => ?_)
        refine T_aload_n C.1.1 dL_law_607 0 rfl ?_
        refine T_callSI (rm := rm_L_again) [.ref cx.2.2.2.2.1] [.int v1] C.1.1 dL_law_608 mw_L_again wm_3_171 wm_3_172 ⟨Nat.le_of_ble_eq_true rfl, Nat.le_of_ble_eq_true rfl⟩ ⟨rfl, rfl⟩ ⟨by decide, by decide⟩ rfl rfl (Nat.le_of_ble_eq_true rfl) (c_L_again hn ll cx m2) (fun v3 m4 => ?_)
        refine T_iconst C.1.1 dL_law_611 ?_
        refine T_icmp_ne (tgt := 626) C.1.1 dL_law_612 (by decide) ?_ ?_
        · exact T_sub [1, 2, 3] rfl (t_L_law_626 hn C a1 a2 v1 m4)
        · refine T_aload_n C.1.1 dL_law_615 1 rfl ?_
          refine T_callVI (rm := rm_X8_again) [] [.int v1] C.1.1 dL_law_616 mw_X8_again wm_2_170 wm_2_171 wm_2_172 ⟨Nat.le_of_ble_eq_true rfl, Nat.le_of_ble_eq_true rfl⟩ ⟨rfl, rfl⟩ ⟨by decide, by decide⟩ rfl rfl (Nat.le_of_ble_eq_true rfl) sh1 (Nat.le_trans le1 hn) ⟨rfl, rfl⟩ (c_X8_again hn ll cx m4) (fun v5 m6 => ?_)
          refine T_if_lt (tgt := 626) C.1.1 dL_law_619 (by decide) ?_ ?_
          · exact T_sub [1, 2, 3] rfl (t_L_law_626 hn C a1 a2 v1 m6)
          · refine T_iconst C.1.1 dL_law_622 ?_
            refine T_goto (tgt := 627) C.1.1 dL_law_623 (by decide) ?_
            exact T_sub [1, 2, 3] rfl (t_L_law_627 hn C a1 a2 (iI 0) v1 m6)
      · refine T_iconst C.1.1 dL_law_601 ?_
        exact T_none
    · refine T_aload_n C.1.1 dL_law_536 1 rfl ?_
      refine T_iconst C.1.1 dL_law_537 ?_
      refine T_bipush C.1.1 dL_law_538 rfl ?_
      refine T_iload C.1.1 dL_law_540 7 rfl ?_
      refine T_callVI (rm := rm_X8_numbers) [.int (iI 3), .int (iI 7), .int a6] [] C.1.1 dL_law_542 mw_X8_numbers wm_3_71 wm_3_72 wm_3_73 ⟨Nat.le_of_ble_eq_true rfl, Nat.le_of_ble_eq_true rfl⟩ ⟨rfl, rfl⟩ ⟨by decide, by decide⟩ rfl rfl (Nat.le_of_ble_eq_true rfl) sh1 (Nat.le_trans le1 hn) ⟨rfl, rfl⟩ (c_X8_numbers hn ll cx (iI 3) (iI 7) a6 m) (fun v7 m8 => ?_)
      refine T_istore (lv' := [(14, .int v7), (0, .ref cx.2.2.2.2.1), (1, .ref (cx.2.2.1 + 1)), (2, .int a1), (4, .int a2), (10, .int a3), (11, .int a4), (12, .int a5), (13, .int a6)]) C.1.1 dL_law_545 (by decide) rfl ?_
      refine T_iload C.1.1 dL_law_547 0 rfl ?_
      refine T_if_lt (tgt := 565) C.1.1 dL_law_549 (by decide) ?_ ?_
      · refine T_iconst C.1.1 dL_law_565 ?_
        exact T_none
      · refine T_iload C.1.1 dL_law_552 0 rfl ?_
        refine T_bipush C.1.1 dL_law_554 rfl ?_
        refine T_aload_n C.1.1 dL_law_556 2 rfl ?_
        refine T_iconst C.1.1 dL_law_557 ?_
        refine T_callVI (rm := rm_X8_best) [.int (iI (-1))] [.int (iI 7), .int v7] C.1.1 dL_law_558 mw_X8_best wm_3_19 wm_3_20 wm_3_21 ⟨Nat.le_of_ble_eq_true rfl, Nat.le_of_ble_eq_true rfl⟩ ⟨rfl, rfl⟩ ⟨by decide, by decide⟩ rfl rfl (Nat.le_of_ble_eq_true rfl) sh1 (Nat.le_trans le1 hn) ⟨rfl, rfl⟩ (c_X8_best hn ll cx (iI (-1)) m8) (fun v9 m10 => ?_)
        refine T_imul C.1.1 dL_law_561 ?_
        refine T_icmp_le (tgt := 567) C.1.1 dL_law_562 (by decide) ?_ ?_
        · refine T_iload C.1.1 dL_law_567 6 rfl ?_
          refine T_iload C.1.1 dL_law_569 0 rfl ?_
          refine T_mmin C.1.1 dL_law_571 wm_4_85 wx_mmin_1 wx_math wx_mmin_2 (Nat.le_of_ble_eq_true rfl) (Nat.le_of_ble_eq_true rfl) ⟨by decide, by decide⟩ ?_
          refine T_istoreN C.1.1 (fun v11 => [(11, .int v11), (14, .int v7), (0, .ref cx.2.2.2.2.1), (1, .ref (cx.2.2.1 + 1)), (2, .int a1), (4, .int a2), (10, .int a3), (12, .int a5), (13, .int a6)]) dL_law_574 (by decide) (fun _ => rfl) (fun v11 => ?_)
          refine T_iload C.1.1 dL_law_576 7 rfl ?_
          refine T_iload C.1.1 dL_law_578 1 rfl ?_
          refine T_mmax C.1.1 dL_law_580 wm_4_84 wx_mmax_1 wx_math wx_mmax_2 (Nat.le_of_ble_eq_true rfl) (Nat.le_of_ble_eq_true rfl) ⟨by decide, by decide⟩ ?_
          refine T_istoreN C.1.1 (fun v12 => [(12, .int v12), (11, .int v11), (14, .int v7), (0, .ref cx.2.2.2.2.1), (1, .ref (cx.2.2.1 + 1)), (2, .int a1), (4, .int a2), (10, .int a3), (13, .int a6)]) dL_law_583 (by decide) (fun _ => rfl) (fun v12 => ?_)
          refine T_iincN C.1.1 (fun v13 => [(13, .int v13), (12, .int v12), (11, .int v11), (14, .int v7), (0, .ref cx.2.2.2.2.1), (1, .ref (cx.2.2.1 + 1)), (2, .int a1), (4, .int a2), (10, .int a3)]) dL_law_585 8 rfl (by decide) (fun _ => rfl) (fun v13 => ?_)
          refine T_goto (tgt := 530) C.1.1 dL_law_588 (by decide) ?_
          exact T_sub [4, 5, 6, 7, 8, 2, 1, 0] rfl (ih a1 a2 a3 v11 v12 v13 m10)
        · refine T_iconst C.1.1 dL_law_565 ?_
          exact T_none
def F_L_law_509 (SC : SCT) (n2 : Nat)  (a1 : Int32) (a2 : Int32) (m : Mm) : Option (Unit × Mm) :=
  bnd (F_X8_numbers (iI 3) (iI 7) (iI (-1)) m) fun v1 m2 =>
  F_L_law_530 SC n2 FU a1 a2 v1 (iI 693) (iI 0) (iI 0) m2
set_option maxRecDepth 100000 in
set_option maxHeartbeats 4000000 in
theorem t_L_law_509 {n2 : Nat} (hn : NN ≤ n2) {pp : Program} {ll : Launch} {ee : Env} {ss : State} {mm : MethodId} {bb : List Frame} {me : Method} {co : Code} {cx : CX}  (C : CML pp ss mm me co cx)  (a1 : Int32) (a2 : Int32) (m : Mm) : TLw pp ll ee ss mm bb me co cx n2 509 [(0, .ref cx.2.2.2.2.1), (1, .ref (cx.2.2.1 + 1)), (2, .int a1), (4, .int a2)] [] m (F_L_law_509 cx.2.2.2.2.2 n2 a1 a2 m) := by
  unfold F_L_law_509
  refine T_aload_n C.1.1 dL_law_509 1 rfl ?_
  refine T_iconst C.1.1 dL_law_510 ?_
  refine T_bipush C.1.1 dL_law_511 rfl ?_
  refine T_iconst C.1.1 dL_law_513 ?_
  refine T_callVI (rm := rm_X8_numbers) [.int (iI 3), .int (iI 7), .int (iI (-1))] [] C.1.1 dL_law_514 mw_X8_numbers wm_3_71 wm_3_72 wm_3_73 ⟨Nat.le_of_ble_eq_true rfl, Nat.le_of_ble_eq_true rfl⟩ ⟨rfl, rfl⟩ ⟨by decide, by decide⟩ rfl rfl (Nat.le_of_ble_eq_true rfl) sh1 (Nat.le_trans le1 hn) ⟨rfl, rfl⟩ (c_X8_numbers hn ll cx (iI 3) (iI 7) (iI (-1)) m) (fun v1 m2 => ?_)
  refine T_istore (lv' := [(10, .int v1), (0, .ref cx.2.2.2.2.1), (1, .ref (cx.2.2.1 + 1)), (2, .int a1), (4, .int a2)]) C.1.1 dL_law_517 (by decide) rfl ?_
  refine T_sipush C.1.1 dL_law_519 rfl ?_
  refine T_istore (lv' := [(11, .int (iI 693)), (10, .int v1), (0, .ref cx.2.2.2.2.1), (1, .ref (cx.2.2.1 + 1)), (2, .int a1), (4, .int a2)]) C.1.1 dL_law_522 (by decide) rfl ?_
  refine T_iconst C.1.1 dL_law_524 ?_
  refine T_istore (lv' := [(12, .int (iI 0)), (11, .int (iI 693)), (10, .int v1), (0, .ref cx.2.2.2.2.1), (1, .ref (cx.2.2.1 + 1)), (2, .int a1), (4, .int a2)]) C.1.1 dL_law_525 (by decide) rfl ?_
  refine T_iconst C.1.1 dL_law_527 ?_
  refine T_istore (lv' := [(13, .int (iI 0)), (12, .int (iI 0)), (11, .int (iI 693)), (10, .int v1), (0, .ref cx.2.2.2.2.1), (1, .ref (cx.2.2.1 + 1)), (2, .int a1), (4, .int a2)]) C.1.1 dL_law_528 (by decide) rfl ?_
  exact T_sub [4, 5, 6, 7, 3, 2, 1, 0] rfl (t_L_law_530 hn C FU a1 a2 v1 (iI 693) (iI 0) (iI 0) m2)
def F_L_law_478 (SC : SCT) (n2 : Nat)  (a1 : Int32) (a2 : Int32) (a3 : Int32) (a4 : Int32) (a5 : Int32) (m : Mm) : Option (Unit × Mm) :=
  (if a5 = a4 then
    (if a3 = (iI (-5)) then
      F_L_law_509 SC n2 a1 a2 m
    else
      (if a3 < a1 then
        none
      else
        bnd (F_L_most SC m) fun v1 m2 =>
        (if a3 ≤ (a1 + (a1 * v1)) then
          F_L_law_509 SC n2 a1 a2 m2
        else
          none)))
  else
    none)
set_option maxRecDepth 100000 in
set_option maxHeartbeats 4000000 in
theorem t_L_law_478 {n2 : Nat} (hn : NN ≤ n2) {pp : Program} {ll : Launch} {ee : Env} {ss : State} {mm : MethodId} {bb : List Frame} {me : Method} {co : Code} {cx : CX}  (C : CML pp ss mm me co cx)  (a1 : Int32) (a2 : Int32) (a3 : Int32) (a4 : Int32) (a5 : Int32) (m : Mm) : TLw pp ll ee ss mm bb me co cx n2 478 [(0, .ref cx.2.2.2.2.1), (1, .ref (cx.2.2.1 + 1)), (2, .int a1), (4, .int a2), (9, .int a3)] [.int a4, .int a5] m (F_L_law_478 cx.2.2.2.2.2 n2 a1 a2 a3 a4 a5 m) := by
  unfold F_L_law_478
  refine T_icmp_ne (tgt := 507) C.1.1 dL_law_478 (by decide) ?_ ?_
  · refine T_iconst C.1.1 dL_law_507 ?_
    exact T_none
  · refine T_iload C.1.1 dL_law_481 4 rfl ?_
    refine T_bipush C.1.1 dL_law_483 rfl ?_
    refine T_icmp_eq (tgt := 509) C.1.1 dL_law_485 (by decide) ?_ ?_
    · exact T_sub [0, 1, 2, 3] rfl (t_L_law_509 hn C a1 a2 m)
    · refine T_iload C.1.1 dL_law_488 4 rfl ?_
      refine T_iload_n C.1.1 dL_law_490 2 rfl ?_
      refine T_icmp_lt (tgt := 507) C.1.1 dL_law_491 (by decide) ?_ ?_
      · refine T_iconst C.1.1 dL_law_507 ?_
        exact T_none
      · refine T_iload C.1.1 dL_law_494 4 rfl ?_
        refine T_iload_n C.1.1 dL_law_496 2 rfl ?_
        refine T_iload_n C.1.1 dL_law_497 2 rfl ?_
        refine T_aload_n C.1.1 dL_law_498 0 rfl ?_
        refine T_callSI (rm := rm_L_most) [.ref cx.2.2.2.2.1] [.int a1, .int a1, .int a3] C.1.1 dL_law_499 mw_L_most wm_3_168 wm_3_169 ⟨Nat.le_of_ble_eq_true rfl, Nat.le_of_ble_eq_true rfl⟩ ⟨rfl, rfl⟩ ⟨by decide, by decide⟩ rfl rfl (Nat.le_of_ble_eq_true rfl) (c_L_most hn ll cx m) (fun v1 m2 => ?_)
        refine T_imul C.1.1 dL_law_502 ?_
        refine T_iadd C.1.1 dL_law_503 ?_
        refine T_icmp_le (tgt := 509) C.1.1 dL_law_504 (by decide) ?_ ?_
        · exact T_sub [0, 1, 2, 3] rfl (t_L_law_509 hn C a1 a2 m2)
        · refine T_iconst C.1.1 dL_law_507 ?_
          exact T_none
def F_L_law_473 (SC : SCT) (n2 : Nat)  (a1 : Int32) (a2 : Int32) (a3 : Int32) (a4 : Int32) (m : Mm) : Option (Unit × Mm) :=
  F_L_law_478 SC n2 a1 a2 a3 (iI 1) a4 m
set_option maxRecDepth 100000 in
set_option maxHeartbeats 4000000 in
theorem t_L_law_473 {n2 : Nat} (hn : NN ≤ n2) {pp : Program} {ll : Launch} {ee : Env} {ss : State} {mm : MethodId} {bb : List Frame} {me : Method} {co : Code} {cx : CX}  (C : CML pp ss mm me co cx)  (a1 : Int32) (a2 : Int32) (a3 : Int32) (a4 : Int32) (m : Mm) : TLw pp ll ee ss mm bb me co cx n2 473 [(0, .ref cx.2.2.2.2.1), (1, .ref (cx.2.2.1 + 1)), (2, .int a1), (4, .int a2), (9, .int a3)] [.int a4] m (F_L_law_473 cx.2.2.2.2.2 n2 a1 a2 a3 a4 m) := by
  unfold F_L_law_473
  refine T_iconst C.1.1 dL_law_473 ?_
  refine T_goto (tgt := 478) C.1.1 dL_law_474 (by decide) ?_
  exact T_sub [0, 1, 2, 3, 4] rfl (t_L_law_478 hn C a1 a2 a3 (iI 1) a4 m)
def F_L_law_460 (SC : SCT) (n2 : Nat)  (a1 : Int32) (a2 : Int32) (a3 : Int32) (a4 : Int32) (m : Mm) : Option (Unit × Mm) :=
  (if (iI 3) < a1 then
    F_L_law_473 SC n2 a1 a2 a3 a4 m
  else
    bnd (F_L_most SC m) fun v1 m2 =>
    (if v1 ≤ (iI 2) then
      F_L_law_478 SC n2 a1 a2 a3 (iI 0) a4 m2
    else
      F_L_law_473 SC n2 a1 a2 a3 a4 m2))
set_option maxRecDepth 100000 in
set_option maxHeartbeats 4000000 in
theorem t_L_law_460 {n2 : Nat} (hn : NN ≤ n2) {pp : Program} {ll : Launch} {ee : Env} {ss : State} {mm : MethodId} {bb : List Frame} {me : Method} {co : Code} {cx : CX}  (C : CML pp ss mm me co cx)  (a1 : Int32) (a2 : Int32) (a3 : Int32) (a4 : Int32) (m : Mm) : TLw pp ll ee ss mm bb me co cx n2 460 [(0, .ref cx.2.2.2.2.1), (1, .ref (cx.2.2.1 + 1)), (2, .int a1), (4, .int a2), (9, .int a3)] [.int a4] m (F_L_law_460 cx.2.2.2.2.2 n2 a1 a2 a3 a4 m) := by
  unfold F_L_law_460
  refine T_iload_n C.1.1 dL_law_460 2 rfl ?_
  refine T_iconst C.1.1 dL_law_461 ?_
  refine T_icmp_gt (tgt := 473) C.1.1 dL_law_462 (by decide) ?_ ?_
  · exact T_sub [0, 1, 2, 3, 4] rfl (t_L_law_473 hn C a1 a2 a3 a4 m)
  · refine T_aload_n C.1.1 dL_law_465 0 rfl ?_
    refine T_callSI (rm := rm_L_most) [.ref cx.2.2.2.2.1] [.int a4] C.1.1 dL_law_466 mw_L_most wm_3_168 wm_3_169 ⟨Nat.le_of_ble_eq_true rfl, Nat.le_of_ble_eq_true rfl⟩ ⟨rfl, rfl⟩ ⟨by decide, by decide⟩ rfl rfl (Nat.le_of_ble_eq_true rfl) (c_L_most hn ll cx m) (fun v1 m2 => ?_)
    refine T_iconst C.1.1 dL_law_469 ?_
    refine T_icmp_le (tgt := 477) C.1.1 dL_law_470 (by decide) ?_ ?_
    · refine T_iconst C.1.1 dL_law_477 ?_
      exact T_sub [0, 1, 2, 3, 4] rfl (t_L_law_478 hn C a1 a2 a3 (iI 0) a4 m2)
    · exact T_sub [0, 1, 2, 3, 4] rfl (t_L_law_473 hn C a1 a2 a3 a4 m2)
def F_L_law_430 (SC : SCT) (n2 : Nat) (k_371 : Int32 → Int32 → Int32 → Mm → Option (Unit × Mm)) (a1 : Int32) (a2 : Int32) (a3 : Int32) (a4 : Int32) (a5 : Int32) (m : Mm) : Option (Unit × Mm) :=
  (if a5 = a4 then
    nm (a3 + (iI 1)) fun v1 =>
    k_371 a1 a2 v1 m
  else
    none)
set_option maxRecDepth 100000 in
set_option maxHeartbeats 4000000 in
theorem t_L_law_430 {n2 : Nat} (hn : NN ≤ n2) {pp : Program} {ll : Launch} {ee : Env} {ss : State} {mm : MethodId} {bb : List Frame} {me : Method} {co : Code} {cx : CX} {k_371 : Int32 → Int32 → Int32 → Mm → Option (Unit × Mm)} (C : CML pp ss mm me co cx) (hk_371 : ∀ (a1 : Int32) (a2 : Int32) (a3 : Int32) (m : Mm), TLw pp ll ee ss mm bb me co cx n2 371 [(0, .ref cx.2.2.2.2.1), (1, .ref (cx.2.2.1 + 1)), (2, .int a1), (4, .int a2), (9, .int a3)] [] m (k_371 a1 a2 a3 m)) (a1 : Int32) (a2 : Int32) (a3 : Int32) (a4 : Int32) (a5 : Int32) (m : Mm) : TLw pp ll ee ss mm bb me co cx n2 430 [(0, .ref cx.2.2.2.2.1), (1, .ref (cx.2.2.1 + 1)), (2, .int a1), (4, .int a2), (9, .int a3)] [.int a4, .int a5] m (F_L_law_430 cx.2.2.2.2.2 n2 k_371 a1 a2 a3 a4 a5 m) := by
  unfold F_L_law_430
  refine T_icmp_eq (tgt := 435) C.1.1 dL_law_430 (by decide) ?_ ?_
  · refine T_iincN C.1.1 (fun v1 => [(9, .int v1), (0, .ref cx.2.2.2.2.1), (1, .ref (cx.2.2.1 + 1)), (2, .int a1), (4, .int a2)]) dL_law_435 4 rfl (by decide) (fun _ => rfl) (fun v1 => ?_)
    refine T_goto (tgt := 371) C.1.1 dL_law_438 (by decide) ?_
    exact T_sub [1, 2, 3, 4, 0] rfl (hk_371 a1 a2 v1 m)
  · refine T_iconst C.1.1 dL_law_433 ?_
    exact T_none
def F_L_law_415 (SC : SCT) (n2 : Nat) (k_371 : Int32 → Int32 → Int32 → Mm → Option (Unit × Mm)) (a1 : Int32) (a2 : Int32) (a3 : Int32) (a4 : Int32) (m : Mm) : Option (Unit × Mm) :=
  bnd (F_X8_evening a3 (iI 3) m) fun v1 m2 =>
  (if v1 = iI 0 then
    F_L_law_430 SC n2 (k_371) a1 a2 a3 (iI 1) a4 m2
  else
    F_L_law_430 SC n2 (k_371) a1 a2 a3 (iI 0) a4 m2)
set_option maxRecDepth 100000 in
set_option maxHeartbeats 4000000 in
theorem t_L_law_415 {n2 : Nat} (hn : NN ≤ n2) {pp : Program} {ll : Launch} {ee : Env} {ss : State} {mm : MethodId} {bb : List Frame} {me : Method} {co : Code} {cx : CX} {k_371 : Int32 → Int32 → Int32 → Mm → Option (Unit × Mm)} (C : CML pp ss mm me co cx) (hk_371 : ∀ (a1 : Int32) (a2 : Int32) (a3 : Int32) (m : Mm), TLw pp ll ee ss mm bb me co cx n2 371 [(0, .ref cx.2.2.2.2.1), (1, .ref (cx.2.2.1 + 1)), (2, .int a1), (4, .int a2), (9, .int a3)] [] m (k_371 a1 a2 a3 m)) (a1 : Int32) (a2 : Int32) (a3 : Int32) (a4 : Int32) (m : Mm) : TLw pp ll ee ss mm bb me co cx n2 415 [(0, .ref cx.2.2.2.2.1), (1, .ref (cx.2.2.1 + 1)), (2, .int a1), (4, .int a2), (9, .int a3)] [.int a4] m (F_L_law_415 cx.2.2.2.2.2 n2 k_371 a1 a2 a3 a4 m) := by
  unfold F_L_law_415
  refine T_aload_n C.1.1 dL_law_415 1 rfl ?_
  refine T_iload C.1.1 dL_law_416 4 rfl ?_
  refine T_iconst C.1.1 dL_law_418 ?_
  refine T_callVI (rm := rm_X8_evening) [.int a3, .int (iI 3)] [.int a4] C.1.1 dL_law_419 mw_X8_evening wm_2_202 wm_2_203 wm_2_204 ⟨Nat.le_of_ble_eq_true rfl, Nat.le_of_ble_eq_true rfl⟩ ⟨rfl, rfl⟩ ⟨by decide, by decide⟩ rfl rfl (Nat.le_of_ble_eq_true rfl) sh1 (Nat.le_trans le1 hn) ⟨rfl, rfl⟩ (c_X8_evening hn ll cx a3 (iI 3) m) (fun v1 m2 => ?_)
  refine T_if_ne (tgt := 429) C.1.1 dL_law_422 (by decide) ?_ ?_
  · refine T_iconst C.1.1 dL_law_429 ?_
    exact T_sub [0, 1, 2, 3, 4] rfl (t_L_law_430 hn C (hk_371) a1 a2 a3 (iI 0) a4 m2)
  · refine T_iconst C.1.1 dL_law_425 ?_
    refine T_goto (tgt := 430) C.1.1 dL_law_426 (by decide) ?_
    exact T_sub [0, 1, 2, 3, 4] rfl (t_L_law_430 hn C (hk_371) a1 a2 a3 (iI 1) a4 m2)
def F_L_law_371 (SC : SCT) (n2 : Nat)  : Nat → Int32 → Int32 → Int32 → Mm → Option (Unit × Mm)
  | 0, _, _, _, _ => none
  | f + 1, a1, a2, a3, m =>
    (if a1 ≤ a3 then
      bnd (F_X8_exact (iI (-1)) m) fun v1 m2 =>
      (if v1 = (iI (-5)) then
        F_L_law_460 SC n2 a1 a2 v1 (iI 1) m2
      else
        F_L_law_460 SC n2 a1 a2 v1 (iI 0) m2)
    else
      bnd (F_X8_face a3 m) fun v3 m4 =>
      (if v3 < (iI (-2)) then
        none
      else
        (if v3 = (iI (-1)) then
          none
        else
          (if (iI 99) < v3 then
            none
          else
            (if v3 = iI 0 then
              F_L_law_415 SC n2 (F_L_law_371 SC n2 f) a1 a2 a3 (iI 1) m4
            else
              F_L_law_415 SC n2 (F_L_law_371 SC n2 f) a1 a2 a3 (iI 0) m4)))))
set_option maxRecDepth 100000 in
set_option maxHeartbeats 4000000 in
theorem t_L_law_371 {n2 : Nat} (hn : NN ≤ n2) {pp : Program} {ll : Launch} {ee : Env} {ss : State} {mm : MethodId} {bb : List Frame} {me : Method} {co : Code} {cx : CX}  (C : CML pp ss mm me co cx)  : ∀ (f : Nat) (a1 : Int32) (a2 : Int32) (a3 : Int32) (m : Mm), TLw pp ll ee ss mm bb me co cx n2 371 [(0, .ref cx.2.2.2.2.1), (1, .ref (cx.2.2.1 + 1)), (2, .int a1), (4, .int a2), (9, .int a3)] [] m (F_L_law_371 cx.2.2.2.2.2 n2 f a1 a2 a3 m) := by
  intro f
  induction f with
  | zero => exact fun _ _ _ _ => T_none
  | succ f ih =>
    intro a1 a2 a3 m
    unfold F_L_law_371
    refine T_iload C.1.1 dL_law_371 4 rfl ?_
    refine T_iload_n C.1.1 dL_law_373 2 rfl ?_
    refine T_icmp_ge (tgt := 441) C.1.1 dL_law_374 (by decide) ?_ ?_
    · refine T_aload_n C.1.1 dL_law_441 1 rfl ?_
      refine T_iconst C.1.1 dL_law_442 ?_
      refine T_callVI (rm := rm_X8_exact) [.int (iI (-1))] [] C.1.1 dL_law_443 mw_X8_exact wm_2_229 wm_2_230 wm_2_231 ⟨Nat.le_of_ble_eq_true rfl, Nat.le_of_ble_eq_true rfl⟩ ⟨rfl, rfl⟩ ⟨by decide, by decide⟩ rfl rfl (Nat.le_of_ble_eq_true rfl) sh1 (Nat.le_trans le1 hn) ⟨rfl, rfl⟩ (c_X8_exact hn ll cx (iI (-1)) m) (fun v1 m2 => ?_)
      refine T_istore (lv' := [(9, .int v1), (0, .ref cx.2.2.2.2.1), (1, .ref (cx.2.2.1 + 1)), (2, .int a1), (4, .int a2)]) C.1.1 dL_law_446 (by decide) rfl ?_
      refine T_iload C.1.1 dL_law_448 0 rfl ?_
      refine T_bipush C.1.1 dL_law_450 rfl ?_
      refine T_icmp_ne (tgt := 459) C.1.1 dL_law_452 (by decide) ?_ ?_
      · refine T_iconst C.1.1 dL_law_459 ?_
        exact T_sub [1, 2, 3, 4, 0] rfl (t_L_law_460 hn C a1 a2 v1 (iI 0) m2)
      · refine T_iconst C.1.1 dL_law_455 ?_
        refine T_goto (tgt := 460) C.1.1 dL_law_456 (by decide) ?_
        exact T_sub [1, 2, 3, 4, 0] rfl (t_L_law_460 hn C a1 a2 v1 (iI 1) m2)
    · refine T_aload_n C.1.1 dL_law_377 1 rfl ?_
      refine T_iload C.1.1 dL_law_378 4 rfl ?_
      refine T_callVI (rm := rm_X8_face) [.int a3] [] C.1.1 dL_law_380 mw_X8_face wm_3_59 wm_3_60 wm_3_61 ⟨Nat.le_of_ble_eq_true rfl, Nat.le_of_ble_eq_true rfl⟩ ⟨rfl, rfl⟩ ⟨by decide, by decide⟩ rfl rfl (Nat.le_of_ble_eq_true rfl) sh1 (Nat.le_trans le1 hn) ⟨rfl, rfl⟩ (c_X8_face hn ll cx a3 m) (fun v3 m4 => ?_)
      refine T_istore (lv' := [(10, .int v3), (0, .ref cx.2.2.2.2.1), (1, .ref (cx.2.2.1 + 1)), (2, .int a1), (4, .int a2), (9, .int a3)]) C.1.1 dL_law_383 (by decide) rfl ?_
      refine T_iload C.1.1 dL_law_385 0 rfl ?_
      refine T_bipush C.1.1 dL_law_387 rfl ?_
      refine T_icmp_lt (tgt := 433) C.1.1 dL_law_389 (by decide) ?_ ?_
      · refine T_iconst C.1.1 dL_law_433 ?_
        exact T_none
      · refine T_iload C.1.1 dL_law_392 0 rfl ?_
        refine T_iconst C.1.1 dL_law_394 ?_
        refine T_icmp_eq (tgt := 433) C.1.1 dL_law_395 (by decide) ?_ ?_
        · refine T_iconst C.1.1 dL_law_433 ?_
          exact T_none
        · refine T_iload C.1.1 dL_law_398 0 rfl ?_
          refine T_bipush C.1.1 dL_law_400 rfl ?_
          refine T_icmp_gt (tgt := 433) C.1.1 dL_law_402 (by decide) ?_ ?_
          · refine T_iconst C.1.1 dL_law_433 ?_
            exact T_none
          · refine T_iload C.1.1 dL_law_405 0 rfl ?_
            refine T_if_ne (tgt := 414) C.1.1 dL_law_407 (by decide) ?_ ?_
            · refine T_iconst C.1.1 dL_law_414 ?_
              exact T_sub [1, 2, 3, 4, 5] rfl (t_L_law_415 hn C (ih) a1 a2 a3 (iI 0) m4)
            · refine T_iconst C.1.1 dL_law_410 ?_
              refine T_goto (tgt := 415) C.1.1 dL_law_411 (by decide) ?_
              exact T_sub [1, 2, 3, 4, 5] rfl (t_L_law_415 hn C (ih) a1 a2 a3 (iI 1) m4)
def F_L_law_288 (SC : SCT) (n2 : Nat)  : Nat → Int32 → Int32 → Int32 → Int32 → Int32 → Mm → Option (Unit × Mm)
  | 0, _, _, _, _, _, _ => none
  | f + 1, a1, a2, a3, a4, a5, m =>
    (if a1 ≤ a5 then
      bnd (F_X8_best (iI (-1)) m) fun v1 m2 =>
      (if a4 = v1 then
        F_L_law_371 SC n2 FU a1 a3 (iI 0) m2
      else
        none)
    else
      bnd (F_X8_best a5 m) fun v3 m4 =>
      (if v3 < iI 0 then
        none
      else
        (if a1 ≤ v3 then
          none
        else
          (if ((a2 >>> (v3 &&& 31)) &&& (iI 1)) = (iI 1) then
            none
          else
            nm (a2 ||| ((iI 1) <<< (v3 &&& 31))) fun v5 =>
            bnd (F_X8_of (((iI 10) * a5) + v3) (iI 0) m4) fun v6 m7 =>
            nm (a4 + v6) fun v8 =>
            nm (a5 + (iI 1)) fun v9 =>
            F_L_law_288 SC n2 f a1 v5 a3 v8 v9 m7))))
set_option maxRecDepth 100000 in
set_option maxHeartbeats 4000000 in
theorem t_L_law_288 {n2 : Nat} (hn : NN ≤ n2) {pp : Program} {ll : Launch} {ee : Env} {ss : State} {mm : MethodId} {bb : List Frame} {me : Method} {co : Code} {cx : CX}  (C : CML pp ss mm me co cx)  : ∀ (f : Nat) (a1 : Int32) (a2 : Int32) (a3 : Int32) (a4 : Int32) (a5 : Int32) (m : Mm), TLw pp ll ee ss mm bb me co cx n2 288 [(0, .ref cx.2.2.2.2.1), (1, .ref (cx.2.2.1 + 1)), (2, .int a1), (3, .int a2), (4, .int a3), (8, .int a4), (9, .int a5)] [] m (F_L_law_288 cx.2.2.2.2.2 n2 f a1 a2 a3 a4 a5 m) := by
  intro f
  induction f with
  | zero => exact fun _ _ _ _ _ _ => T_none
  | succ f ih =>
    intro a1 a2 a3 a4 a5 m
    unfold F_L_law_288
    refine T_iload C.1.1 dL_law_288 6 rfl ?_
    refine T_iload_n C.1.1 dL_law_290 2 rfl ?_
    refine T_icmp_ge (tgt := 356) C.1.1 dL_law_291 (by decide) ?_ ?_
    · refine T_iload C.1.1 dL_law_356 5 rfl ?_
      refine T_aload_n C.1.1 dL_law_358 1 rfl ?_
      refine T_iconst C.1.1 dL_law_359 ?_
      refine T_callVI (rm := rm_X8_best) [.int (iI (-1))] [.int a4] C.1.1 dL_law_360 mw_X8_best wm_3_19 wm_3_20 wm_3_21 ⟨Nat.le_of_ble_eq_true rfl, Nat.le_of_ble_eq_true rfl⟩ ⟨rfl, rfl⟩ ⟨by decide, by decide⟩ rfl rfl (Nat.le_of_ble_eq_true rfl) sh1 (Nat.le_trans le1 hn) ⟨rfl, rfl⟩ (c_X8_best hn ll cx (iI (-1)) m) (fun v1 m2 => ?_)
      refine T_icmp_eq (tgt := 368) C.1.1 dL_law_363 (by decide) ?_ ?_
      · refine T_iconst C.1.1 dL_law_368 ?_
        refine T_istore (lv' := [(9, .int (iI 0)), (0, .ref cx.2.2.2.2.1), (1, .ref (cx.2.2.1 + 1)), (2, .int a1), (3, .int a2), (4, .int a3), (8, .int a4)]) C.1.1 dL_law_369 (by decide) rfl ?_
        exact T_sub [1, 2, 3, 5, 0] rfl (t_L_law_371 hn C FU a1 a3 (iI 0) m2)
      · refine T_iconst C.1.1 dL_law_366 ?_
        exact T_none
    · refine T_aload_n C.1.1 dL_law_294 1 rfl ?_
      refine T_iload C.1.1 dL_law_295 6 rfl ?_
      refine T_callVI (rm := rm_X8_best) [.int a5] [] C.1.1 dL_law_297 mw_X8_best wm_3_19 wm_3_20 wm_3_21 ⟨Nat.le_of_ble_eq_true rfl, Nat.le_of_ble_eq_true rfl⟩ ⟨rfl, rfl⟩ ⟨by decide, by decide⟩ rfl rfl (Nat.le_of_ble_eq_true rfl) sh1 (Nat.le_trans le1 hn) ⟨rfl, rfl⟩ (c_X8_best hn ll cx a5 m) (fun v3 m4 => ?_)
      refine T_istore (lv' := [(10, .int v3), (0, .ref cx.2.2.2.2.1), (1, .ref (cx.2.2.1 + 1)), (2, .int a1), (3, .int a2), (4, .int a3), (8, .int a4), (9, .int a5)]) C.1.1 dL_law_300 (by decide) rfl ?_
      refine T_iload C.1.1 dL_law_302 0 rfl ?_
      refine T_if_lt (tgt := 323) C.1.1 dL_law_304 (by decide) ?_ ?_
      · refine T_iconst C.1.1 dL_law_323 ?_
        exact T_none
      · refine T_iload C.1.1 dL_law_307 0 rfl ?_
        refine T_iload_n C.1.1 dL_law_309 3 rfl ?_
        refine T_icmp_ge (tgt := 323) C.1.1 dL_law_310 (by decide) ?_ ?_
        · refine T_iconst C.1.1 dL_law_323 ?_
          exact T_none
        · refine T_iload_n C.1.1 dL_law_313 4 rfl ?_
          refine T_iload C.1.1 dL_law_314 0 rfl ?_
          refine T_ishr C.1.1 dL_law_316 ?_
          refine T_iconst C.1.1 dL_law_317 ?_
          refine T_iand C.1.1 dL_law_318 ?_
          refine T_iconst C.1.1 dL_law_319 ?_
          refine T_icmp_ne (tgt := 325) C.1.1 dL_law_320 (by decide) ?_ ?_
          · refine T_iload_n C.1.1 dL_law_325 4 rfl ?_
            refine T_iconst C.1.1 dL_law_326 ?_
            refine T_iload C.1.1 dL_law_327 0 rfl ?_
            refine T_ishl C.1.1 dL_law_329 ?_
            refine T_ior C.1.1 dL_law_330 ?_
            refine T_istore_nN C.1.1 (fun v5 => [(3, .int v5), (10, .int v3), (0, .ref cx.2.2.2.2.1), (1, .ref (cx.2.2.1 + 1)), (2, .int a1), (4, .int a3), (8, .int a4), (9, .int a5)]) dL_law_331 (by decide) (fun _ => rfl) (fun v5 => ?_)
            refine T_iload C.1.1 dL_law_332 6 rfl ?_
            refine T_aload_n C.1.1 dL_law_334 3 rfl ?_
            refine T_bipush C.1.1 dL_law_335 rfl ?_
            refine T_iload C.1.1 dL_law_337 7 rfl ?_
            refine T_imul C.1.1 dL_law_339 ?_
            refine T_iload C.1.1 dL_law_340 1 rfl ?_
            refine T_iadd C.1.1 dL_law_342 ?_
            refine T_iconst C.1.1 dL_law_343 ?_
            refine T_callVI (rm := rm_X8_of) [.int (((iI 10) * a5) + v3), .int (iI 0)] [.int a4] C.1.1 dL_law_344 mw_X8_of wm_2_72 wm_2_73 wm_2_74 ⟨Nat.le_of_ble_eq_true rfl, Nat.le_of_ble_eq_true rfl⟩ ⟨rfl, rfl⟩ ⟨by decide, by decide⟩ rfl rfl (Nat.le_of_ble_eq_true rfl) sh1 (Nat.le_trans le1 hn) ⟨rfl, rfl⟩ (c_X8_of hn ll cx (((iI 10) * a5) + v3) (iI 0) m4) (fun v6 m7 => ?_)
            refine T_iadd C.1.1 dL_law_347 ?_
            refine T_istoreN C.1.1 (fun v8 => [(8, .int v8), (3, .int v5), (10, .int v3), (0, .ref cx.2.2.2.2.1), (1, .ref (cx.2.2.1 + 1)), (2, .int a1), (4, .int a3), (9, .int a5)]) dL_law_348 (by decide) (fun _ => rfl) (fun v8 => ?_)
            refine T_iincN C.1.1 (fun v9 => [(9, .int v9), (8, .int v8), (3, .int v5), (10, .int v3), (0, .ref cx.2.2.2.2.1), (1, .ref (cx.2.2.1 + 1)), (2, .int a1), (4, .int a3)]) dL_law_350 7 rfl (by decide) (fun _ => rfl) (fun v9 => ?_)
            refine T_goto (tgt := 288) C.1.1 dL_law_353 (by decide) ?_
            exact T_sub [4, 5, 6, 2, 7, 1, 0] rfl (ih a1 v5 a3 v8 v9 m7)
          · refine T_iconst C.1.1 dL_law_323 ?_
            exact T_none
def F_L_law_280 (SC : SCT) (n2 : Nat)  (a1 : Int32) (a2 : Int32) (m : Mm) : Option (Unit × Mm) :=
  F_L_law_288 SC n2 FU a1 (iI 0) a2 (iI 0) (iI 0) m
set_option maxRecDepth 100000 in
set_option maxHeartbeats 4000000 in
theorem t_L_law_280 {n2 : Nat} (hn : NN ≤ n2) {pp : Program} {ll : Launch} {ee : Env} {ss : State} {mm : MethodId} {bb : List Frame} {me : Method} {co : Code} {cx : CX}  (C : CML pp ss mm me co cx)  (a1 : Int32) (a2 : Int32) (m : Mm) : TLw pp ll ee ss mm bb me co cx n2 280 [(0, .ref cx.2.2.2.2.1), (1, .ref (cx.2.2.1 + 1)), (2, .int a1), (4, .int a2)] [] m (F_L_law_280 cx.2.2.2.2.2 n2 a1 a2 m) := by
  unfold F_L_law_280
  refine T_iconst C.1.1 dL_law_280 ?_
  refine T_istore (lv' := [(8, .int (iI 0)), (0, .ref cx.2.2.2.2.1), (1, .ref (cx.2.2.1 + 1)), (2, .int a1), (4, .int a2)]) C.1.1 dL_law_281 (by decide) rfl ?_
  refine T_iconst C.1.1 dL_law_283 ?_
  refine T_istore_n (lv' := [(3, .int (iI 0)), (8, .int (iI 0)), (0, .ref cx.2.2.2.2.1), (1, .ref (cx.2.2.1 + 1)), (2, .int a1), (4, .int a2)]) C.1.1 dL_law_284 (by decide) rfl ?_
  refine T_iconst C.1.1 dL_law_285 ?_
  refine T_istore (lv' := [(9, .int (iI 0)), (3, .int (iI 0)), (8, .int (iI 0)), (0, .ref cx.2.2.2.2.1), (1, .ref (cx.2.2.1 + 1)), (2, .int a1), (4, .int a2)]) C.1.1 dL_law_286 (by decide) rfl ?_
  exact T_sub [3, 4, 5, 1, 6, 2, 0] rfl (t_L_law_288 hn C FU a1 (iI 0) a2 (iI 0) (iI 0) m)
def F_L_law_215 (SC : SCT) (n2 : Nat)  : Nat → Int32 → Int32 → Int32 → Int32 → Int32 → Int32 → Mm → Option (Unit × Mm)
  | 0, _, _, _, _, _, _, _ => none
  | f + 1, a1, a2, a3, a4, a5, a6, m =>
    (if a1 < a6 then
      (if a4 < (iI 1) then
        none
      else
        (if a5 < a4 then
          none
        else
          bnd (F_X8_pairs m) fun v1 m2 =>
          dvI (a1 * (a1 - (iI 1))) (iI 2) fun v3 =>
          (if v3 < v1 then
            none
          else
            bnd (F_X8_best (iI (-1)) m2) fun v4 m5 =>
            (if v4 = a3 then
              bnd (F_X8_pairs m5) fun v6 m7 =>
              (if v6 = iI 0 then
                F_L_law_280 SC n2 a1 a2 m7
              else
                none)
            else
              F_L_law_280 SC n2 a1 a2 m5))))
    else
      nm (a5 * a6) fun v8 =>
      nm (a6 + (iI 1)) fun v9 =>
      F_L_law_215 SC n2 f a1 a2 a3 a4 v8 v9 m)
set_option maxRecDepth 100000 in
set_option maxHeartbeats 4000000 in
theorem t_L_law_215 {n2 : Nat} (hn : NN ≤ n2) {pp : Program} {ll : Launch} {ee : Env} {ss : State} {mm : MethodId} {bb : List Frame} {me : Method} {co : Code} {cx : CX}  (C : CML pp ss mm me co cx)  : ∀ (f : Nat) (a1 : Int32) (a2 : Int32) (a3 : Int32) (a4 : Int32) (a5 : Int32) (a6 : Int32) (m : Mm), TLw pp ll ee ss mm bb me co cx n2 215 [(0, .ref cx.2.2.2.2.1), (1, .ref (cx.2.2.1 + 1)), (2, .int a1), (4, .int a2), (5, .int a3), (6, .int a4), (7, .int a5), (8, .int a6)] [] m (F_L_law_215 cx.2.2.2.2.2 n2 f a1 a2 a3 a4 a5 a6 m) := by
  intro f
  induction f with
  | zero => exact fun _ _ _ _ _ _ _ => T_none
  | succ f ih =>
    intro a1 a2 a3 a4 a5 a6 m
    unfold F_L_law_215
    refine T_iload C.1.1 dL_law_215 7 rfl ?_
    refine T_iload_n C.1.1 dL_law_217 2 rfl ?_
    refine T_icmp_gt (tgt := 234) C.1.1 dL_law_218 (by decide) ?_ ?_
    · refine T_iload C.1.1 dL_law_234 5 rfl ?_
      refine T_iconst C.1.1 dL_law_236 ?_
      refine T_icmp_lt (tgt := 278) C.1.1 dL_law_237 (by decide) ?_ ?_
      · refine T_iconst C.1.1 dL_law_278 ?_
        exact T_none
      · refine T_iload C.1.1 dL_law_240 5 rfl ?_
        refine T_iload C.1.1 dL_law_242 6 rfl ?_
        refine T_icmp_gt (tgt := 278) C.1.1 dL_law_244 (by decide) ?_ ?_
        · refine T_iconst C.1.1 dL_law_278 ?_
          exact T_none
        · refine T_aload_n C.1.1 dL_law_247 1 rfl ?_
          refine T_callVI (rm := rm_X8_pairs) [] [] C.1.1 dL_law_248 mw_X8_pairs wm_3_46 wm_3_47 wm_3_48 ⟨Nat.le_of_ble_eq_true rfl, Nat.le_of_ble_eq_true rfl⟩ ⟨rfl, rfl⟩ ⟨by decide, by decide⟩ rfl rfl (Nat.le_of_ble_eq_true rfl) sh1 (Nat.le_trans le1 hn) ⟨rfl, rfl⟩ (c_X8_pairs hn ll cx m) (fun v1 m2 => ?_)
          refine T_iload_n C.1.1 dL_law_251 2 rfl ?_
          refine T_iload_n C.1.1 dL_law_252 2 rfl ?_
          refine T_iconst C.1.1 dL_law_253 ?_
          refine T_isub C.1.1 dL_law_254 ?_
          refine T_imul C.1.1 dL_law_255 ?_
          refine T_iconst C.1.1 dL_law_256 ?_
          refine T_idiv C.1.1 dL_law_257 (fun v3 => ?_)
          refine T_icmp_gt (tgt := 278) C.1.1 dL_law_258 (by decide) ?_ ?_
          · refine T_iconst C.1.1 dL_law_278 ?_
            exact T_none
          · refine T_aload_n C.1.1 dL_law_261 1 rfl ?_
            refine T_iconst C.1.1 dL_law_262 ?_
            refine T_callVI (rm := rm_X8_best) [.int (iI (-1))] [] C.1.1 dL_law_263 mw_X8_best wm_3_19 wm_3_20 wm_3_21 ⟨Nat.le_of_ble_eq_true rfl, Nat.le_of_ble_eq_true rfl⟩ ⟨rfl, rfl⟩ ⟨by decide, by decide⟩ rfl rfl (Nat.le_of_ble_eq_true rfl) sh1 (Nat.le_trans le1 hn) ⟨rfl, rfl⟩ (c_X8_best hn ll cx (iI (-1)) m2) (fun v4 m5 => ?_)
            refine T_iload C.1.1 dL_law_266 4 rfl ?_
            refine T_icmp_ne (tgt := 280) C.1.1 dL_law_268 (by decide) ?_ ?_
            · exact T_sub [0, 1, 2, 3] rfl (t_L_law_280 hn C a1 a2 m5)
            · refine T_aload_n C.1.1 dL_law_271 1 rfl ?_
              refine T_callVI (rm := rm_X8_pairs) [] [] C.1.1 dL_law_272 mw_X8_pairs wm_3_46 wm_3_47 wm_3_48 ⟨Nat.le_of_ble_eq_true rfl, Nat.le_of_ble_eq_true rfl⟩ ⟨rfl, rfl⟩ ⟨by decide, by decide⟩ rfl rfl (Nat.le_of_ble_eq_true rfl) sh1 (Nat.le_trans le1 hn) ⟨rfl, rfl⟩ (c_X8_pairs hn ll cx m5) (fun v6 m7 => ?_)
              refine T_if_eq (tgt := 280) C.1.1 dL_law_275 (by decide) ?_ ?_
              · exact T_sub [0, 1, 2, 3] rfl (t_L_law_280 hn C a1 a2 m7)
              · refine T_iconst C.1.1 dL_law_278 ?_
                exact T_none
    · refine T_iload C.1.1 dL_law_221 6 rfl ?_
      refine T_iload C.1.1 dL_law_223 7 rfl ?_
      refine T_imul C.1.1 dL_law_225 ?_
      refine T_istoreN C.1.1 (fun v8 => [(7, .int v8), (0, .ref cx.2.2.2.2.1), (1, .ref (cx.2.2.1 + 1)), (2, .int a1), (4, .int a2), (5, .int a3), (6, .int a4), (8, .int a6)]) dL_law_226 (by decide) (fun _ => rfl) (fun v8 => ?_)
      refine T_iincN C.1.1 (fun v9 => [(8, .int v9), (7, .int v8), (0, .ref cx.2.2.2.2.1), (1, .ref (cx.2.2.1 + 1)), (2, .int a1), (4, .int a2), (5, .int a3), (6, .int a4)]) dL_law_228 7 rfl (by decide) (fun _ => rfl) (fun v9 => ?_)
      refine T_goto (tgt := 215) C.1.1 dL_law_231 (by decide) ?_
      exact T_sub [2, 3, 4, 5, 6, 7, 1, 0] rfl (ih a1 a2 a3 a4 v8 v9 m)
def F_L_law_47 (SC : SCT) (n2 : Nat)  : Nat → Int32 → Int32 → Int32 → Int32 → Int32 → Mm → Option (Unit × Mm)
  | 0, _, _, _, _, _, _ => none
  | f + 1, a1, a2, a3, a4, a5, m =>
    (if a1 ≤ a5 then
      bnd (F_X8_evening (iI 0) (iI 1) m) fun v1 m2 =>
      (if v1 = (a1 + a3) then
        bnd (F_X8_evening (iI 0) (iI 2) m2) fun v3 m4 =>
        (if v3 = a4 then
          bnd (F_X8_best (iI (-1)) m4) fun v5 m6 =>
          (if v5 < a4 then
            none
          else
            bnd (F_X8_judge (iI 0) m6) fun v7 m8 =>
            (if v7 = (iI (-2)) then
              bnd (F_X8_lots (iI 0) m8) fun v9 m10 =>
              F_L_law_215 SC n2 FU a1 a3 a4 v9 (iI 1) (iI 2) m10
            else
              none))
        else
          none)
      else
        none)
    else
      bnd (F_X8_evening a5 (iI 0) m) fun v11 m12 =>
      (if v11 < iI 0 then
        none
      else
        (if a1 ≤ v11 then
          none
        else
          (if ((a2 >>> (v11 &&& 31)) &&& (iI 1)) = (iI 1) then
            none
          else
            bnd (F_X8_evening a5 (iI 3) m12) fun v13 m14 =>
            bnd (F_L_most SC m14) fun v15 m16 =>
            (if v15 < v13 then
              none
            else
              bnd (F_X8_put (iI 0) a5 (v11.toInt64) m16) fun v17 m18 =>
              (if v17 = (iI 1) then
                nm (a2 ||| ((iI 1) <<< (v11 &&& 31))) fun v19 =>
                bnd (F_X8_evening a5 (iI 3) m18) fun v20 m21 =>
                nm (a3 + v20) fun v22 =>
                bnd (F_X8_of (((iI 10) * a5) + v11) (iI 0) m21) fun v23 m24 =>
                nm (a4 + v23) fun v25 =>
                nm (a5 + (iI 1)) fun v26 =>
                F_L_law_47 SC n2 f a1 v19 v22 v25 v26 m24
              else
                none))))))
set_option maxRecDepth 100000 in
set_option maxHeartbeats 4000000 in
theorem t_L_law_47 {n2 : Nat} (hn : NN ≤ n2) {pp : Program} {ll : Launch} {ee : Env} {ss : State} {mm : MethodId} {bb : List Frame} {me : Method} {co : Code} {cx : CX}  (C : CML pp ss mm me co cx)  : ∀ (f : Nat) (a1 : Int32) (a2 : Int32) (a3 : Int32) (a4 : Int32) (a5 : Int32) (m : Mm), TLw pp ll ee ss mm bb me co cx n2 47 [(0, .ref cx.2.2.2.2.1), (1, .ref (cx.2.2.1 + 1)), (2, .int a1), (3, .int a2), (4, .int a3), (5, .int a4), (6, .int a5)] [] m (F_L_law_47 cx.2.2.2.2.2 n2 f a1 a2 a3 a4 a5 m) := by
  intro f
  induction f with
  | zero => exact fun _ _ _ _ _ _ => T_none
  | succ f ih =>
    intro a1 a2 a3 a4 a5 m
    unfold F_L_law_47
    refine T_iload C.1.1 dL_law_47 6 rfl ?_
    refine T_iload_n C.1.1 dL_law_49 2 rfl ?_
    refine T_icmp_ge (tgt := 156) C.1.1 dL_law_50 (by decide) ?_ ?_
    · refine T_aload_n C.1.1 dL_law_156 1 rfl ?_
      refine T_iconst C.1.1 dL_law_157 ?_
      refine T_iconst C.1.1 dL_law_158 ?_
      refine T_callVI (rm := rm_X8_evening) [.int (iI 0), .int (iI 1)] [] C.1.1 dL_law_159 mw_X8_evening wm_2_202 wm_2_203 wm_2_204 ⟨Nat.le_of_ble_eq_true rfl, Nat.le_of_ble_eq_true rfl⟩ ⟨rfl, rfl⟩ ⟨by decide, by decide⟩ rfl rfl (Nat.le_of_ble_eq_true rfl) sh1 (Nat.le_trans le1 hn) ⟨rfl, rfl⟩ (c_X8_evening hn ll cx (iI 0) (iI 1) m) (fun v1 m2 => ?_)
      refine T_iload_n C.1.1 dL_law_162 2 rfl ?_
      refine T_iload C.1.1 dL_law_163 4 rfl ?_
      refine T_iadd C.1.1 dL_law_165 ?_
      refine T_icmp_ne (tgt := 200) C.1.1 dL_law_166 (by decide) ?_ ?_
      · refine T_iconst C.1.1 dL_law_200 ?_
        exact T_none
      · refine T_aload_n C.1.1 dL_law_169 1 rfl ?_
        refine T_iconst C.1.1 dL_law_170 ?_
        refine T_iconst C.1.1 dL_law_171 ?_
        refine T_callVI (rm := rm_X8_evening) [.int (iI 0), .int (iI 2)] [] C.1.1 dL_law_172 mw_X8_evening wm_2_202 wm_2_203 wm_2_204 ⟨Nat.le_of_ble_eq_true rfl, Nat.le_of_ble_eq_true rfl⟩ ⟨rfl, rfl⟩ ⟨by decide, by decide⟩ rfl rfl (Nat.le_of_ble_eq_true rfl) sh1 (Nat.le_trans le1 hn) ⟨rfl, rfl⟩ (c_X8_evening hn ll cx (iI 0) (iI 2) m2) (fun v3 m4 => ?_)
        refine T_iload C.1.1 dL_law_175 5 rfl ?_
        refine T_icmp_ne (tgt := 200) C.1.1 dL_law_177 (by decide) ?_ ?_
        · refine T_iconst C.1.1 dL_law_200 ?_
          exact T_none
        · refine T_aload_n C.1.1 dL_law_180 1 rfl ?_
          refine T_iconst C.1.1 dL_law_181 ?_
          refine T_callVI (rm := rm_X8_best) [.int (iI (-1))] [] C.1.1 dL_law_182 mw_X8_best wm_3_19 wm_3_20 wm_3_21 ⟨Nat.le_of_ble_eq_true rfl, Nat.le_of_ble_eq_true rfl⟩ ⟨rfl, rfl⟩ ⟨by decide, by decide⟩ rfl rfl (Nat.le_of_ble_eq_true rfl) sh1 (Nat.le_trans le1 hn) ⟨rfl, rfl⟩ (c_X8_best hn ll cx (iI (-1)) m4) (fun v5 m6 => ?_)
          refine T_iload C.1.1 dL_law_185 5 rfl ?_
          refine T_icmp_lt (tgt := 200) C.1.1 dL_law_187 (by decide) ?_ ?_
          · refine T_iconst C.1.1 dL_law_200 ?_
            exact T_none
          · refine T_aload_n C.1.1 dL_law_190 1 rfl ?_
            refine T_iconst C.1.1 dL_law_191 ?_
            refine T_callVI (rm := rm_X8_judge) [.int (iI 0)] [] C.1.1 dL_law_192 mw_X8_judge wm_3_88 wm_3_89 wm_3_90 ⟨Nat.le_of_ble_eq_true rfl, Nat.le_of_ble_eq_true rfl⟩ ⟨rfl, rfl⟩ ⟨by decide, by decide⟩ rfl rfl (Nat.le_of_ble_eq_true rfl) sh1 (Nat.le_trans le1 hn) ⟨rfl, rfl⟩ (c_X8_judge hn ll cx (iI 0) m6) (fun v7 m8 => ?_)
            refine T_bipush C.1.1 dL_law_195 rfl ?_
            refine T_icmp_eq (tgt := 202) C.1.1 dL_law_197 (by decide) ?_ ?_
            · refine T_aload_n C.1.1 dL_law_202 1 rfl ?_
              refine T_iconst C.1.1 dL_law_203 ?_
              refine T_callVI (rm := rm_X8_lots) [.int (iI 0)] [] C.1.1 dL_law_204 mw_X8_lots wm_3_112 wm_3_113 wm_3_114 ⟨Nat.le_of_ble_eq_true rfl, Nat.le_of_ble_eq_true rfl⟩ ⟨rfl, rfl⟩ ⟨by decide, by decide⟩ rfl rfl (Nat.le_of_ble_eq_true rfl) sh1 (Nat.le_trans le1 hn) ⟨rfl, rfl⟩ (c_X8_lots hn ll cx (iI 0) m8) (fun v9 m10 => ?_)
              refine T_istore (lv' := [(6, .int v9), (0, .ref cx.2.2.2.2.1), (1, .ref (cx.2.2.1 + 1)), (2, .int a1), (3, .int a2), (4, .int a3), (5, .int a4)]) C.1.1 dL_law_207 (by decide) rfl ?_
              refine T_iconst C.1.1 dL_law_209 ?_
              refine T_istore (lv' := [(7, .int (iI 1)), (6, .int v9), (0, .ref cx.2.2.2.2.1), (1, .ref (cx.2.2.1 + 1)), (2, .int a1), (3, .int a2), (4, .int a3), (5, .int a4)]) C.1.1 dL_law_210 (by decide) rfl ?_
              refine T_iconst C.1.1 dL_law_212 ?_
              refine T_istore (lv' := [(8, .int (iI 2)), (7, .int (iI 1)), (6, .int v9), (0, .ref cx.2.2.2.2.1), (1, .ref (cx.2.2.1 + 1)), (2, .int a1), (3, .int a2), (4, .int a3), (5, .int a4)]) C.1.1 dL_law_213 (by decide) rfl ?_
              exact T_sub [3, 4, 5, 7, 8, 2, 1, 0] rfl (t_L_law_215 hn C FU a1 a3 a4 v9 (iI 1) (iI 2) m10)
            · refine T_iconst C.1.1 dL_law_200 ?_
              exact T_none
    · refine T_aload_n C.1.1 dL_law_53 1 rfl ?_
      refine T_iload C.1.1 dL_law_54 6 rfl ?_
      refine T_iconst C.1.1 dL_law_56 ?_
      refine T_callVI (rm := rm_X8_evening) [.int a5, .int (iI 0)] [] C.1.1 dL_law_57 mw_X8_evening wm_2_202 wm_2_203 wm_2_204 ⟨Nat.le_of_ble_eq_true rfl, Nat.le_of_ble_eq_true rfl⟩ ⟨rfl, rfl⟩ ⟨by decide, by decide⟩ rfl rfl (Nat.le_of_ble_eq_true rfl) sh1 (Nat.le_trans le1 hn) ⟨rfl, rfl⟩ (c_X8_evening hn ll cx a5 (iI 0) m) (fun v11 m12 => ?_)
      refine T_istore (lv' := [(7, .int v11), (0, .ref cx.2.2.2.2.1), (1, .ref (cx.2.2.1 + 1)), (2, .int a1), (3, .int a2), (4, .int a3), (5, .int a4), (6, .int a5)]) C.1.1 dL_law_60 (by decide) rfl ?_
      refine T_iload C.1.1 dL_law_62 0 rfl ?_
      refine T_if_lt (tgt := 111) C.1.1 dL_law_64 (by decide) ?_ ?_
      · refine T_iconst C.1.1 dL_law_111 ?_
        exact T_none
      · refine T_iload C.1.1 dL_law_67 0 rfl ?_
        refine T_iload_n C.1.1 dL_law_69 3 rfl ?_
        refine T_icmp_ge (tgt := 111) C.1.1 dL_law_70 (by decide) ?_ ?_
        · refine T_iconst C.1.1 dL_law_111 ?_
          exact T_none
        · refine T_iload_n C.1.1 dL_law_73 4 rfl ?_
          refine T_iload C.1.1 dL_law_74 0 rfl ?_
          refine T_ishr C.1.1 dL_law_76 ?_
          refine T_iconst C.1.1 dL_law_77 ?_
          refine T_iand C.1.1 dL_law_78 ?_
          refine T_iconst C.1.1 dL_law_79 ?_
          refine T_icmp_eq (tgt := 111) C.1.1 dL_law_80 (by decide) ?_ ?_
          · refine T_iconst C.1.1 dL_law_111 ?_
            exact T_none
          · refine T_aload_n C.1.1 dL_law_83 2 rfl ?_
            refine T_iload C.1.1 dL_law_84 7 rfl ?_
            refine T_iconst C.1.1 dL_law_86 ?_
            refine T_callVI (rm := rm_X8_evening) [.int a5, .int (iI 3)] [] C.1.1 dL_law_87 mw_X8_evening wm_2_202 wm_2_203 wm_2_204 ⟨Nat.le_of_ble_eq_true rfl, Nat.le_of_ble_eq_true rfl⟩ ⟨rfl, rfl⟩ ⟨by decide, by decide⟩ rfl rfl (Nat.le_of_ble_eq_true rfl) sh1 (Nat.le_trans le1 hn) ⟨rfl, rfl⟩ (c_X8_evening hn ll cx a5 (iI 3) m12) (fun v13 m14 => ?_)
            refine T_aload_n C.1.1 dL_law_90 1 rfl ?_
            refine T_callSI (rm := rm_L_most) [.ref cx.2.2.2.2.1] [.int v13] C.1.1 dL_law_91 mw_L_most wm_3_168 wm_3_169 ⟨Nat.le_of_ble_eq_true rfl, Nat.le_of_ble_eq_true rfl⟩ ⟨rfl, rfl⟩ ⟨by decide, by decide⟩ rfl rfl (Nat.le_of_ble_eq_true rfl) (c_L_most hn ll cx m14) (fun v15 m16 => ?_)
            refine T_icmp_gt (tgt := 111) C.1.1 dL_law_94 (by decide) ?_ ?_
            · refine T_iconst C.1.1 dL_law_111 ?_
              exact T_none
            · refine T_aload_n C.1.1 dL_law_97 2 rfl ?_
              refine T_iconst C.1.1 dL_law_98 ?_
              refine T_iload C.1.1 dL_law_99 7 rfl ?_
              refine T_iload C.1.1 dL_law_101 0 rfl ?_
              refine T_i2l C.1.1 dL_law_103 ?_
              refine T_callVI (rm := rm_X8_put) [.int (iI 0), .int a5, .long (v11.toInt64)] [] C.1.1 dL_law_104 mw_X8_put wm_3_138 wm_3_139 wm_3_140 ⟨Nat.le_of_ble_eq_true rfl, Nat.le_of_ble_eq_true rfl⟩ ⟨rfl, rfl⟩ ⟨by decide, by decide⟩ rfl rfl (Nat.le_of_ble_eq_true rfl) sh1 (Nat.le_trans le1 hn) ⟨rfl, rfl⟩ (c_X8_put hn ll cx (iI 0) a5 (v11.toInt64) m16) (fun v17 m18 => ?_)
              refine T_iconst C.1.1 dL_law_107 ?_
              refine T_icmp_eq (tgt := 113) C.1.1 dL_law_108 (by decide) ?_ ?_
              · refine T_iload_n C.1.1 dL_law_113 4 rfl ?_
                refine T_iconst C.1.1 dL_law_114 ?_
                refine T_iload C.1.1 dL_law_115 0 rfl ?_
                refine T_ishl C.1.1 dL_law_117 ?_
                refine T_ior C.1.1 dL_law_118 ?_
                refine T_istore_nN C.1.1 (fun v19 => [(3, .int v19), (7, .int v11), (0, .ref cx.2.2.2.2.1), (1, .ref (cx.2.2.1 + 1)), (2, .int a1), (4, .int a3), (5, .int a4), (6, .int a5)]) dL_law_119 (by decide) (fun _ => rfl) (fun v19 => ?_)
                refine T_iload C.1.1 dL_law_120 5 rfl ?_
                refine T_aload_n C.1.1 dL_law_122 3 rfl ?_
                refine T_iload C.1.1 dL_law_123 7 rfl ?_
                refine T_iconst C.1.1 dL_law_125 ?_
                refine T_callVI (rm := rm_X8_evening) [.int a5, .int (iI 3)] [.int a3] C.1.1 dL_law_126 mw_X8_evening wm_2_202 wm_2_203 wm_2_204 ⟨Nat.le_of_ble_eq_true rfl, Nat.le_of_ble_eq_true rfl⟩ ⟨rfl, rfl⟩ ⟨by decide, by decide⟩ rfl rfl (Nat.le_of_ble_eq_true rfl) sh1 (Nat.le_trans le1 hn) ⟨rfl, rfl⟩ (c_X8_evening hn ll cx a5 (iI 3) m18) (fun v20 m21 => ?_)
                refine T_iadd C.1.1 dL_law_129 ?_
                refine T_istoreN C.1.1 (fun v22 => [(4, .int v22), (3, .int v19), (7, .int v11), (0, .ref cx.2.2.2.2.1), (1, .ref (cx.2.2.1 + 1)), (2, .int a1), (5, .int a4), (6, .int a5)]) dL_law_130 (by decide) (fun _ => rfl) (fun v22 => ?_)
                refine T_iload C.1.1 dL_law_132 6 rfl ?_
                refine T_aload_n C.1.1 dL_law_134 4 rfl ?_
                refine T_bipush C.1.1 dL_law_135 rfl ?_
                refine T_iload C.1.1 dL_law_137 7 rfl ?_
                refine T_imul C.1.1 dL_law_139 ?_
                refine T_iload C.1.1 dL_law_140 2 rfl ?_
                refine T_iadd C.1.1 dL_law_142 ?_
                refine T_iconst C.1.1 dL_law_143 ?_
                refine T_callVI (rm := rm_X8_of) [.int (((iI 10) * a5) + v11), .int (iI 0)] [.int a4] C.1.1 dL_law_144 mw_X8_of wm_2_72 wm_2_73 wm_2_74 ⟨Nat.le_of_ble_eq_true rfl, Nat.le_of_ble_eq_true rfl⟩ ⟨rfl, rfl⟩ ⟨by decide, by decide⟩ rfl rfl (Nat.le_of_ble_eq_true rfl) sh1 (Nat.le_trans le1 hn) ⟨rfl, rfl⟩ (c_X8_of hn ll cx (((iI 10) * a5) + v11) (iI 0) m21) (fun v23 m24 => ?_)
                refine T_iadd C.1.1 dL_law_147 ?_
                refine T_istoreN C.1.1 (fun v25 => [(5, .int v25), (4, .int v22), (3, .int v19), (7, .int v11), (0, .ref cx.2.2.2.2.1), (1, .ref (cx.2.2.1 + 1)), (2, .int a1), (6, .int a5)]) dL_law_148 (by decide) (fun _ => rfl) (fun v25 => ?_)
                refine T_iincN C.1.1 (fun v26 => [(6, .int v26), (5, .int v25), (4, .int v22), (3, .int v19), (7, .int v11), (0, .ref cx.2.2.2.2.1), (1, .ref (cx.2.2.1 + 1)), (2, .int a1)]) dL_law_150 7 rfl (by decide) (fun _ => rfl) (fun v26 => ?_)
                refine T_goto (tgt := 47) C.1.1 dL_law_153 (by decide) ?_
                exact T_sub [5, 6, 7, 3, 2, 1, 0] rfl (ih a1 v19 v22 v25 v26 m24)
              · refine T_iconst C.1.1 dL_law_111 ?_
                exact T_none
def F_L_law_18 (SC : SCT) (n2 : Nat)   (m : Mm) : Option (Unit × Mm) :=
  bnd (F_L_people SC m) fun v1 m2 =>
  bnd (F_X8_row (iI 0) (iI 0) v1 m2) fun v3 m4 =>
  (if v3 = (iI 1) then
    F_L_law_47 SC n2 FU v1 (iI 0) (iI 0) (iI 0) (iI 0) m4
  else
    none)
set_option maxRecDepth 100000 in
set_option maxHeartbeats 4000000 in
theorem t_L_law_18 {n2 : Nat} (hn : NN ≤ n2) {pp : Program} {ll : Launch} {ee : Env} {ss : State} {mm : MethodId} {bb : List Frame} {me : Method} {co : Code} {cx : CX}  (C : CML pp ss mm me co cx)   (m : Mm) : TLw pp ll ee ss mm bb me co cx n2 18 [(0, .ref cx.2.2.2.2.1), (1, .ref (cx.2.2.1 + 1))] [] m (F_L_law_18 cx.2.2.2.2.2 n2 m) := by
  unfold F_L_law_18
  refine T_aload_n C.1.1 dL_law_18 0 rfl ?_
  refine T_callSI (rm := rm_L_people) [.ref cx.2.2.2.2.1] [] C.1.1 dL_law_19 mw_L_people wm_3_161 wm_3_162 ⟨Nat.le_of_ble_eq_true rfl, Nat.le_of_ble_eq_true rfl⟩ ⟨rfl, rfl⟩ ⟨by decide, by decide⟩ rfl rfl (Nat.le_of_ble_eq_true rfl) (c_L_people hn ll cx m) (fun v1 m2 => ?_)
  refine T_istore_n (lv' := [(2, .int v1), (0, .ref cx.2.2.2.2.1), (1, .ref (cx.2.2.1 + 1))]) C.1.1 dL_law_22 (by decide) rfl ?_
  refine T_iconst C.1.1 dL_law_23 ?_
  refine T_istore_n (lv' := [(3, .int (iI 0)), (2, .int v1), (0, .ref cx.2.2.2.2.1), (1, .ref (cx.2.2.1 + 1))]) C.1.1 dL_law_24 (by decide) rfl ?_
  refine T_iconst C.1.1 dL_law_25 ?_
  refine T_istore (lv' := [(4, .int (iI 0)), (3, .int (iI 0)), (2, .int v1), (0, .ref cx.2.2.2.2.1), (1, .ref (cx.2.2.1 + 1))]) C.1.1 dL_law_26 (by decide) rfl ?_
  refine T_iconst C.1.1 dL_law_28 ?_
  refine T_istore (lv' := [(5, .int (iI 0)), (4, .int (iI 0)), (3, .int (iI 0)), (2, .int v1), (0, .ref cx.2.2.2.2.1), (1, .ref (cx.2.2.1 + 1))]) C.1.1 dL_law_29 (by decide) rfl ?_
  refine T_aload_n C.1.1 dL_law_31 5 rfl ?_
  refine T_iconst C.1.1 dL_law_32 ?_
  refine T_iconst C.1.1 dL_law_33 ?_
  refine T_iload_n C.1.1 dL_law_34 3 rfl ?_
  refine T_callVI (rm := rm_X8_row) [.int (iI 0), .int (iI 0), .int v1] [] C.1.1 dL_law_35 mw_X8_row wm_3_126 wm_3_127 wm_3_128 ⟨Nat.le_of_ble_eq_true rfl, Nat.le_of_ble_eq_true rfl⟩ ⟨rfl, rfl⟩ ⟨by decide, by decide⟩ rfl rfl (Nat.le_of_ble_eq_true rfl) sh1 (Nat.le_trans le1 hn) ⟨rfl, rfl⟩ (c_X8_row hn ll cx (iI 0) (iI 0) v1 m2) (fun v3 m4 => ?_)
  refine T_iconst C.1.1 dL_law_38 ?_
  refine T_icmp_eq (tgt := 44) C.1.1 dL_law_39 (by decide) ?_ ?_
  · refine T_iconst C.1.1 dL_law_44 ?_
    refine T_istore (lv' := [(6, .int (iI 0)), (5, .int (iI 0)), (4, .int (iI 0)), (3, .int (iI 0)), (2, .int v1), (0, .ref cx.2.2.2.2.1), (1, .ref (cx.2.2.1 + 1))]) C.1.1 dL_law_45 (by decide) rfl ?_
    exact T_sub [5, 6, 4, 3, 2, 1, 0] rfl (t_L_law_47 hn C FU v1 (iI 0) (iI 0) (iI 0) (iI 0) m4)
  · refine T_iconst C.1.1 dL_law_42 ?_
    exact T_none
