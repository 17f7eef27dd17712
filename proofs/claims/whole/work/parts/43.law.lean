/-! THE LAW'S BODY: printed by wip/whole/gen/lawgen.py; its first rows are the skeleton's -/
def R_law : String := "OpenOrTakeLaw"
def lw_P (b : Addr) (xs : List Int32) (args : Array Value) (s : State) : Prop := args = #[.ref b] ∧ s.IntsAt b xs ∧ xs.length ≤ 3072 ∧ (Jvm.Cond.and given_1 narrow_1).before args s = true
def lw_Q (_ : Array Value) (s : State) (o : Outcome) (t : State) : Prop := o = .returned (some (.int 1)) ∧ Framed s o t [] 600000 7302250
def lw_Z (below : List Frame) (a : Array Value) (s : State) : State → Prop := fun t => ∃ o, t.status = .running ∧ Ended t below o ∧ lw_Q a s o t
/-- the law's own end, with 1 on the stack, nothing written that was there before, its room as the claim has it -/
theorem lw_ret {p : Program} {l : Launch} {e : Env} {s : State} {m : MethodId} {below : List Frame} {meth : Method} {c : Code} {b : Nat} (hx : p.tables.exec = Jvm.exec) (hb : c.code = code) (hr : meth.sig.returnType = ret) (hlocks : meth.locks = false) {pc : Nat} {H : Heap} {ls : Array Slot} (hdg : decode code pc = .ok (.ireturn, 1)) : W p l e room_1 s m #[Value.ref b] below meth c H [] 600000 7302250 (lw_Z below #[Value.ref b] s) (F0 m pc ls [.int 1]) := by
  intro T hT X
  obtain ⟨fs, hret, hrun, hended, hW, hframe⟩ := X.leave (v := some (.int 1)) (hlocks := hlocks) (fun h => by rw [hr] at h; cases h)
  have hmeth' : T.vm.method? m = some meth := X.method'
  refine ⟨T.setFrames fs, ?_, .returned (some (.int 1)), hrun, hended, rfl, ⟨_, rfl⟩, hW, hframe⟩
  jvm_step X.here [X.here.top, hx, hb, hdg, hmeth', hr, ret, narrow_b1]
  (try refine ⟨rfl, ?_⟩); (try refine ⟨rfl, ?_⟩)
  first | (intro acts; rw [hret _ acts rfl rfl rfl]) | rw [hret _ _ rfl rfl rfl]
  exact Steps.refl _
/-- what holds at the law's entry: the machine, the code, the tables' words (any of lw_tbl by 'hts w (by decide +kernel)'), the script of L ints xs at the cell b, what the Statement gives of the start (any of its parts by flat_of_before) -/
def lw_At (p : Program) (s : State) (m : MethodId) (meth : Method) (c : Code) (b L : Nat) (xs : Nat → Int32) : Prop :=
  p.tables.exec = Jvm.exec ∧ c.code = code ∧ meth.sig.returnType = ret ∧ c.maxLocals = 4 ∧ s.vm.findClass R_law = some m.cls ∧ (∀ w ∈ lw_tbl, w.before #[Value.ref b] s = true) ∧ va_X b L xs s s.heap ∧ b < s.heap.size ∧ meth.locks = false ∧ (Jvm.Cond.and given_1 narrow_1).before #[Value.ref b] s = true
section TLS
variable {β : Type} {p : Program} {l : Launch} {e : Env} {R : Room} {s : State} {m : MethodId} {args : Array Value} {below : List Frame} {meth : Method} {c : Code} {nL : Nat} {cx : CX} {n : Nat} {Ly : Mm → Prop} {cells slots : Nat} {Q : β → Mm → State → Prop} {pc : Nat} {lv : List (Nat × Value)} {st : List Value} {μ : Mm} {F : Option (β × Mm)} {cc : ByteArray} {own : String}
theorem T_sld (K : Kx p s m args c cc nL own cx) {sb L : Nat} {xs : Nat → Int32} (hX : va_X sb L xs s s.heap) (hsb : sb ≤ cx.2.2.1) (hH : cx.2.2.2.1 = s.heap) {i : Int32} {G : Nat → Option (β × Mm)} (hdg : decode cc pc = .ok (.iaload, 1)) (k : ∀ j, T p l e R s m args below meth c nL cx n Ly cells slots Q (pc + 1) lv (.int (xs j) :: st) μ (G j)) : T p l e R s m args below meth c nL cx n Ly cells slots Q pc lv (.int i :: .ref sb :: st) μ (rd L i G) := by
  intro ls H locs hl hW hL hS r μ1 q
  obtain ⟨hin, q⟩ := rd_spec q
  exact va_sld (A := fun q => cx.2.2.1 < q) K.1 K.2.1 hX (Nat.lt_of_le_of_lt hsb K.2.2.2.2.2.2) (Nat.not_lt.mpr hsb) hS hin hdg (k _ ls H locs hl hW hL hS r μ1 q)
theorem T_slen (K : Kx p s m args c cc nL own cx) {sb L : Nat} {xs : Nat → Int32} (hX : va_X sb L xs s s.heap) (hsb : sb ≤ cx.2.2.1) (hH : cx.2.2.2.1 = s.heap) (hdg : decode cc pc = .ok (.arraylength, 1)) (k : T p l e R s m args below meth c nL cx n Ly cells slots Q (pc + 1) lv (.int (Int32.ofNat L) :: st) μ F) : T p l e R s m args below meth c nL cx n Ly cells slots Q pc lv (.ref sb :: st) μ F := by
  intro ls H locs hl hW hL hS r μ1 q
  exact va_slen (A := fun q => cx.2.2.1 < q) K.1 K.2.1 hX (Nat.lt_of_le_of_lt hsb K.2.2.2.2.2.2) (Nat.not_lt.mpr hsb) hS hdg (k ls H locs hl hW hL hS r μ1 q)
end TLS
abbrev TLw (p : Program) (l : Launch) (e : Env) (s : State) (m : MethodId) (below : List Frame) (meth : Method) (c : Code) (cx : CX) (sb : Nat) (pc : Nat) (lv : List (Nat × Value)) (st : List Value) (μ : Mm) (F : Option (Unit × Mm)) : Prop := T p l e room_1 s m #[Value.ref sb] below meth c 4 cx NN Lay 156 4542 (fun (_ : Unit) _ => lw_Z below #[Value.ref sb] s) pc lv st μ F
theorem T_lawret {p : Program} {l : Launch} {e : Env} {s : State} {m : MethodId} {below : List Frame} {meth : Method} {c : Code} {cx : CX} {sb pc : Nat} {lv : List (Nat × Value)} {μ : Mm} (K : Kx p s m #[Value.ref sb] c cL_law 4 RL cx) (hr : meth.sig.returnType = some .boolean) (hk : meth.locks = false) (hbs : s.heap.size ≤ cx.2.2.1 + 1) (hdg : decode cL_law pc = .ok (.ireturn, 1)) : TLw p l e s m below meth c cx sb pc lv [.int (iI 1)] μ (some ((), μ)) := by
  intro ls H locs hl hW hL hS r μ1 q
  refine va_forget (fun q hq => by have h : cx.2.2.1 < q.base := hS.2.2 q hq; omega) ?_
  refine W.widen (k := 600000) (n := 7302250) (by decide) (by decide) ?_
  exact lw_ret K.1 K.2.1 hr hk hdg
def F_L_law_1151 (k_18 : Int32 → Mm → Option (Unit × Mm)) (a1 : Int32) (m : Mm) : Option (Unit × Mm) :=
  nm (a1 + (iI 6)) fun v1 =>
  k_18 v1 m
set_option maxRecDepth 100000 in
set_option maxHeartbeats 4000000 in
theorem t_L_law_1151 {pp : Program} {ll : Launch} {ee : Env} {ss : State} {mm : MethodId} {bb : List Frame} {me : Method} {co : Code} {cx : CX} {sb L : Nat} {xs : Nat → Int32} (hX : va_X sb L xs ss ss.heap) (hsb : sb ≤ cx.2.2.1) (hH : cx.2.2.2.1 = ss.heap) (hbs : ss.heap.size ≤ cx.2.2.1 + 1) (C : CM pp ss mm #[Value.ref sb] me co cL_law 4 RL cx (some .boolean)) {k_18 : Int32 → Mm → Option (Unit × Mm)} (hk_18 : ∀ (a1 : Int32) (m : Mm), TLw pp ll ee ss mm bb me co cx sb 18 [(0, .ref sb), (1, .ref (cx.2.2.1 + 1)), (2, .ref (cx.2.2.1 + 113)), (3, .int a1)] [] m (k_18 a1 m)) (a1 : Int32) (m : Mm) : TLw pp ll ee ss mm bb me co cx sb 1151 [(0, .ref sb), (1, .ref (cx.2.2.1 + 1)), (2, .ref (cx.2.2.1 + 113)), (3, .int a1)] [] m (F_L_law_1151 k_18 a1 m) := by
  unfold F_L_law_1151
  refine T_iincN C.1 (fun v1 => [(3, .int v1), (0, .ref sb), (1, .ref (cx.2.2.1 + 1)), (2, .ref (cx.2.2.1 + 113))]) dL_law_1151 3 rfl (by decide) (fun _ => rfl) (fun v1 => ?_)
  refine T_goto (tgt := 18) C.1 dL_law_1154 (by decide) ?_
  exact T_sub [1, 2, 3, 0] rfl (hk_18 v1 m)
def F_L_arm0 (xs : Nat → Int32) (L : Nat) (k_18 : Int32 → Mm → Option (Unit × Mm)) (a1 : Int32) (m : Mm) : Option (Unit × Mm) :=
  rd L (a1 + (iI 1)) fun j1 =>
  bnd (F_X8_person (xs j1) m) fun v2 m3 =>
  rd L (a1 + (iI 1)) fun j4 =>
  bnd (F_X9_person (xs j4) m3) fun v5 m6 =>
  (if v2 = v5 then
    F_L_law_1151 (k_18) a1 m6
  else
    none)
set_option maxRecDepth 100000 in
set_option maxHeartbeats 4000000 in
theorem t_L_arm0 {pp : Program} {ll : Launch} {ee : Env} {ss : State} {mm : MethodId} {bb : List Frame} {me : Method} {co : Code} {cx : CX} {sb L : Nat} {xs : Nat → Int32} (hX : va_X sb L xs ss ss.heap) (hsb : sb ≤ cx.2.2.1) (hH : cx.2.2.2.1 = ss.heap) (hbs : ss.heap.size ≤ cx.2.2.1 + 1) (C : CM pp ss mm #[Value.ref sb] me co cL_law 4 RL cx (some .boolean)) {k_18 : Int32 → Mm → Option (Unit × Mm)} (hk_18 : ∀ (a1 : Int32) (m : Mm), TLw pp ll ee ss mm bb me co cx sb 18 [(0, .ref sb), (1, .ref (cx.2.2.1 + 1)), (2, .ref (cx.2.2.1 + 113)), (3, .int a1)] [] m (k_18 a1 m)) (a1 : Int32) (m : Mm) : TLw pp ll ee ss mm bb me co cx sb 192 [(0, .ref sb), (1, .ref (cx.2.2.1 + 1)), (2, .ref (cx.2.2.1 + 113)), (3, .int a1)] [] m (F_L_arm0 xs L k_18 a1 m) := by
  unfold F_L_arm0
  refine T_aload_n C.1 dL_law_192 1 rfl ?_
  refine T_aload_n C.1 dL_law_193 0 rfl ?_
  refine T_iload_n C.1 dL_law_194 3 rfl ?_
  refine T_iconst C.1 dL_law_195 ?_
  refine T_iadd C.1 dL_law_196 ?_
  refine T_sld C.1 hX hsb hH dL_law_197 (fun j1 => ?_)
  refine T_callVI (rm := rm_X8_person) [.int (xs j1)] [] C.1 dL_law_198 mw_X8_person wm_2_74 wm_2_75 wm_2_76 ⟨Nat.le_of_ble_eq_true rfl, Nat.le_of_ble_eq_true rfl⟩ ⟨rfl, rfl⟩ ⟨by decide, by decide⟩ rfl rfl (Nat.le_of_ble_eq_true rfl) sh1 le1 ⟨rfl, rfl⟩ (c_X8_person ll cx (xs j1) m) (fun v2 m3 => ?_)
  refine T_aload_n C.1 dL_law_201 2 rfl ?_
  refine T_aload_n C.1 dL_law_202 0 rfl ?_
  refine T_iload_n C.1 dL_law_203 3 rfl ?_
  refine T_iconst C.1 dL_law_204 ?_
  refine T_iadd C.1 dL_law_205 ?_
  refine T_sld C.1 hX hsb hH dL_law_206 (fun j4 => ?_)
  refine T_callVI (rm := rm_X9_person) [.int (xs j4)] [.int v2] C.1 dL_law_207 mw_X9_person wm_5_141 wm_5_142 wm_5_143 ⟨Nat.le_of_ble_eq_true rfl, Nat.le_of_ble_eq_true rfl⟩ ⟨rfl, rfl⟩ ⟨by decide, by decide⟩ rfl rfl (Nat.le_of_ble_eq_true rfl) sh113 le113 ⟨rfl, rfl⟩ (c_X9_person ll cx (xs j4) m3) (fun v5 m6 => ?_)
  refine T_icmp_eq (tgt := 1151) C.1 dL_law_210 (by decide) ?_ ?_
  · exact T_sub [0, 1, 2, 3] rfl (t_L_law_1151 hX hsb hH hbs C (hk_18) a1 m6)
  · refine T_iconst C.1 dL_law_213 ?_
    exact T_none
def F_L_arm1 (xs : Nat → Int32) (L : Nat) (k_18 : Int32 → Mm → Option (Unit × Mm)) (a1 : Int32) (m : Mm) : Option (Unit × Mm) :=
  rd L (a1 + (iI 1)) fun j1 =>
  rd L (a1 + (iI 2)) fun j2 =>
  rd L (a1 + (iI 3)) fun j3 =>
  bnd (F_X8_people (xs j1) (xs j2) (xs j3) m) fun v4 m5 =>
  rd L (a1 + (iI 1)) fun j6 =>
  rd L (a1 + (iI 2)) fun j7 =>
  rd L (a1 + (iI 3)) fun j8 =>
  bnd (F_X9_people (xs j6) (xs j7) (xs j8) m5) fun v9 m10 =>
  (if v4 = v9 then
    F_L_law_1151 (k_18) a1 m10
  else
    none)
set_option maxRecDepth 100000 in
set_option maxHeartbeats 4000000 in
theorem t_L_arm1 {pp : Program} {ll : Launch} {ee : Env} {ss : State} {mm : MethodId} {bb : List Frame} {me : Method} {co : Code} {cx : CX} {sb L : Nat} {xs : Nat → Int32} (hX : va_X sb L xs ss ss.heap) (hsb : sb ≤ cx.2.2.1) (hH : cx.2.2.2.1 = ss.heap) (hbs : ss.heap.size ≤ cx.2.2.1 + 1) (C : CM pp ss mm #[Value.ref sb] me co cL_law 4 RL cx (some .boolean)) {k_18 : Int32 → Mm → Option (Unit × Mm)} (hk_18 : ∀ (a1 : Int32) (m : Mm), TLw pp ll ee ss mm bb me co cx sb 18 [(0, .ref sb), (1, .ref (cx.2.2.1 + 1)), (2, .ref (cx.2.2.1 + 113)), (3, .int a1)] [] m (k_18 a1 m)) (a1 : Int32) (m : Mm) : TLw pp ll ee ss mm bb me co cx sb 215 [(0, .ref sb), (1, .ref (cx.2.2.1 + 1)), (2, .ref (cx.2.2.1 + 113)), (3, .int a1)] [] m (F_L_arm1 xs L k_18 a1 m) := by
  unfold F_L_arm1
  refine T_aload_n C.1 dL_law_215 1 rfl ?_
  refine T_aload_n C.1 dL_law_216 0 rfl ?_
  refine T_iload_n C.1 dL_law_217 3 rfl ?_
  refine T_iconst C.1 dL_law_218 ?_
  refine T_iadd C.1 dL_law_219 ?_
  refine T_sld C.1 hX hsb hH dL_law_220 (fun j1 => ?_)
  refine T_aload_n C.1 dL_law_221 0 rfl ?_
  refine T_iload_n C.1 dL_law_222 3 rfl ?_
  refine T_iconst C.1 dL_law_223 ?_
  refine T_iadd C.1 dL_law_224 ?_
  refine T_sld C.1 hX hsb hH dL_law_225 (fun j2 => ?_)
  refine T_aload_n C.1 dL_law_226 0 rfl ?_
  refine T_iload_n C.1 dL_law_227 3 rfl ?_
  refine T_iconst C.1 dL_law_228 ?_
  refine T_iadd C.1 dL_law_229 ?_
  refine T_sld C.1 hX hsb hH dL_law_230 (fun j3 => ?_)
  refine T_callVI (rm := rm_X8_people) [.int (xs j1), .int (xs j2), .int (xs j3)] [] C.1 dL_law_231 mw_X8_people wm_2_86 wm_2_87 wm_2_88 ⟨Nat.le_of_ble_eq_true rfl, Nat.le_of_ble_eq_true rfl⟩ ⟨rfl, rfl⟩ ⟨by decide, by decide⟩ rfl rfl (Nat.le_of_ble_eq_true rfl) sh1 le1 ⟨rfl, rfl⟩ (c_X8_people ll cx (xs j1) (xs j2) (xs j3) m) (fun v4 m5 => ?_)
  refine T_aload_n C.1 dL_law_234 2 rfl ?_
  refine T_aload_n C.1 dL_law_235 0 rfl ?_
  refine T_iload_n C.1 dL_law_236 3 rfl ?_
  refine T_iconst C.1 dL_law_237 ?_
  refine T_iadd C.1 dL_law_238 ?_
  refine T_sld C.1 hX hsb hH dL_law_239 (fun j6 => ?_)
  refine T_aload_n C.1 dL_law_240 0 rfl ?_
  refine T_iload_n C.1 dL_law_241 3 rfl ?_
  refine T_iconst C.1 dL_law_242 ?_
  refine T_iadd C.1 dL_law_243 ?_
  refine T_sld C.1 hX hsb hH dL_law_244 (fun j7 => ?_)
  refine T_aload_n C.1 dL_law_245 0 rfl ?_
  refine T_iload_n C.1 dL_law_246 3 rfl ?_
  refine T_iconst C.1 dL_law_247 ?_
  refine T_iadd C.1 dL_law_248 ?_
  refine T_sld C.1 hX hsb hH dL_law_249 (fun j8 => ?_)
  refine T_callVI (rm := rm_X9_people) [.int (xs j6), .int (xs j7), .int (xs j8)] [.int v4] C.1 dL_law_250 mw_X9_people wm_5_156 wm_5_157 wm_5_158 ⟨Nat.le_of_ble_eq_true rfl, Nat.le_of_ble_eq_true rfl⟩ ⟨rfl, rfl⟩ ⟨by decide, by decide⟩ rfl rfl (Nat.le_of_ble_eq_true rfl) sh113 le113 ⟨rfl, rfl⟩ (c_X9_people ll cx (xs j6) (xs j7) (xs j8) m5) (fun v9 m10 => ?_)
  refine T_icmp_eq (tgt := 1151) C.1 dL_law_253 (by decide) ?_ ?_
  · exact T_sub [0, 1, 2, 3] rfl (t_L_law_1151 hX hsb hH hbs C (hk_18) a1 m10)
  · refine T_iconst C.1 dL_law_256 ?_
    exact T_none
def F_L_arm2 (xs : Nat → Int32) (L : Nat) (k_18 : Int32 → Mm → Option (Unit × Mm)) (a1 : Int32) (m : Mm) : Option (Unit × Mm) :=
  rd L (a1 + (iI 1)) fun j1 =>
  rd L (a1 + (iI 2)) fun j2 =>
  rd L (a1 + (iI 3)) fun j3 =>
  bnd (F_X8_mend (xs j1) (xs j2) (xs j3) m) fun v4 m5 =>
  rd L (a1 + (iI 1)) fun j6 =>
  rd L (a1 + (iI 2)) fun j7 =>
  rd L (a1 + (iI 3)) fun j8 =>
  bnd (F_X9_mend (xs j6) (xs j7) (xs j8) m5) fun v9 m10 =>
  (if v4 = v9 then
    F_L_law_1151 (k_18) a1 m10
  else
    none)
set_option maxRecDepth 100000 in
set_option maxHeartbeats 4000000 in
theorem t_L_arm2 {pp : Program} {ll : Launch} {ee : Env} {ss : State} {mm : MethodId} {bb : List Frame} {me : Method} {co : Code} {cx : CX} {sb L : Nat} {xs : Nat → Int32} (hX : va_X sb L xs ss ss.heap) (hsb : sb ≤ cx.2.2.1) (hH : cx.2.2.2.1 = ss.heap) (hbs : ss.heap.size ≤ cx.2.2.1 + 1) (C : CM pp ss mm #[Value.ref sb] me co cL_law 4 RL cx (some .boolean)) {k_18 : Int32 → Mm → Option (Unit × Mm)} (hk_18 : ∀ (a1 : Int32) (m : Mm), TLw pp ll ee ss mm bb me co cx sb 18 [(0, .ref sb), (1, .ref (cx.2.2.1 + 1)), (2, .ref (cx.2.2.1 + 113)), (3, .int a1)] [] m (k_18 a1 m)) (a1 : Int32) (m : Mm) : TLw pp ll ee ss mm bb me co cx sb 258 [(0, .ref sb), (1, .ref (cx.2.2.1 + 1)), (2, .ref (cx.2.2.1 + 113)), (3, .int a1)] [] m (F_L_arm2 xs L k_18 a1 m) := by
  unfold F_L_arm2
  refine T_aload_n C.1 dL_law_258 1 rfl ?_
  refine T_aload_n C.1 dL_law_259 0 rfl ?_
  refine T_iload_n C.1 dL_law_260 3 rfl ?_
  refine T_iconst C.1 dL_law_261 ?_
  refine T_iadd C.1 dL_law_262 ?_
  refine T_sld C.1 hX hsb hH dL_law_263 (fun j1 => ?_)
  refine T_aload_n C.1 dL_law_264 0 rfl ?_
  refine T_iload_n C.1 dL_law_265 3 rfl ?_
  refine T_iconst C.1 dL_law_266 ?_
  refine T_iadd C.1 dL_law_267 ?_
  refine T_sld C.1 hX hsb hH dL_law_268 (fun j2 => ?_)
  refine T_aload_n C.1 dL_law_269 0 rfl ?_
  refine T_iload_n C.1 dL_law_270 3 rfl ?_
  refine T_iconst C.1 dL_law_271 ?_
  refine T_iadd C.1 dL_law_272 ?_
  refine T_sld C.1 hX hsb hH dL_law_273 (fun j3 => ?_)
  refine T_callVI (rm := rm_X8_mend) [.int (xs j1), .int (xs j2), .int (xs j3)] [] C.1 dL_law_274 mw_X8_mend wm_2_115 wm_2_116 wm_2_117 ⟨Nat.le_of_ble_eq_true rfl, Nat.le_of_ble_eq_true rfl⟩ ⟨rfl, rfl⟩ ⟨by decide, by decide⟩ rfl rfl (Nat.le_of_ble_eq_true rfl) sh1 le1 ⟨rfl, rfl⟩ (c_X8_mend ll cx (xs j1) (xs j2) (xs j3) m) (fun v4 m5 => ?_)
  refine T_aload_n C.1 dL_law_277 2 rfl ?_
  refine T_aload_n C.1 dL_law_278 0 rfl ?_
  refine T_iload_n C.1 dL_law_279 3 rfl ?_
  refine T_iconst C.1 dL_law_280 ?_
  refine T_iadd C.1 dL_law_281 ?_
  refine T_sld C.1 hX hsb hH dL_law_282 (fun j6 => ?_)
  refine T_aload_n C.1 dL_law_283 0 rfl ?_
  refine T_iload_n C.1 dL_law_284 3 rfl ?_
  refine T_iconst C.1 dL_law_285 ?_
  refine T_iadd C.1 dL_law_286 ?_
  refine T_sld C.1 hX hsb hH dL_law_287 (fun j7 => ?_)
  refine T_aload_n C.1 dL_law_288 0 rfl ?_
  refine T_iload_n C.1 dL_law_289 3 rfl ?_
  refine T_iconst C.1 dL_law_290 ?_
  refine T_iadd C.1 dL_law_291 ?_
  refine T_sld C.1 hX hsb hH dL_law_292 (fun j8 => ?_)
  refine T_callVI (rm := rm_X9_mend) [.int (xs j6), .int (xs j7), .int (xs j8)] [.int v4] C.1 dL_law_293 mw_X9_mend wm_5_175 wm_5_176 wm_5_177 ⟨Nat.le_of_ble_eq_true rfl, Nat.le_of_ble_eq_true rfl⟩ ⟨rfl, rfl⟩ ⟨by decide, by decide⟩ rfl rfl (Nat.le_of_ble_eq_true rfl) sh113 le113 ⟨rfl, rfl⟩ (c_X9_mend ll cx (xs j6) (xs j7) (xs j8) m5) (fun v9 m10 => ?_)
  refine T_icmp_eq (tgt := 1151) C.1 dL_law_296 (by decide) ?_ ?_
  · exact T_sub [0, 1, 2, 3] rfl (t_L_law_1151 hX hsb hH hbs C (hk_18) a1 m10)
  · refine T_iconst C.1 dL_law_299 ?_
    exact T_none
def F_L_arm3 (xs : Nat → Int32) (L : Nat) (k_18 : Int32 → Mm → Option (Unit × Mm)) (a1 : Int32) (m : Mm) : Option (Unit × Mm) :=
  rd L (a1 + (iI 1)) fun j1 =>
  rd L (a1 + (iI 2)) fun j2 =>
  bnd (F_X8_of (xs j1) (xs j2) m) fun v3 m4 =>
  rd L (a1 + (iI 1)) fun j5 =>
  rd L (a1 + (iI 2)) fun j6 =>
  bnd (F_X9_of (xs j5) (xs j6) m4) fun v7 m8 =>
  (if v3 = v7 then
    F_L_law_1151 (k_18) a1 m8
  else
    none)
set_option maxRecDepth 100000 in
set_option maxHeartbeats 4000000 in
theorem t_L_arm3 {pp : Program} {ll : Launch} {ee : Env} {ss : State} {mm : MethodId} {bb : List Frame} {me : Method} {co : Code} {cx : CX} {sb L : Nat} {xs : Nat → Int32} (hX : va_X sb L xs ss ss.heap) (hsb : sb ≤ cx.2.2.1) (hH : cx.2.2.2.1 = ss.heap) (hbs : ss.heap.size ≤ cx.2.2.1 + 1) (C : CM pp ss mm #[Value.ref sb] me co cL_law 4 RL cx (some .boolean)) {k_18 : Int32 → Mm → Option (Unit × Mm)} (hk_18 : ∀ (a1 : Int32) (m : Mm), TLw pp ll ee ss mm bb me co cx sb 18 [(0, .ref sb), (1, .ref (cx.2.2.1 + 1)), (2, .ref (cx.2.2.1 + 113)), (3, .int a1)] [] m (k_18 a1 m)) (a1 : Int32) (m : Mm) : TLw pp ll ee ss mm bb me co cx sb 301 [(0, .ref sb), (1, .ref (cx.2.2.1 + 1)), (2, .ref (cx.2.2.1 + 113)), (3, .int a1)] [] m (F_L_arm3 xs L k_18 a1 m) := by
  unfold F_L_arm3
  refine T_aload_n C.1 dL_law_301 1 rfl ?_
  refine T_aload_n C.1 dL_law_302 0 rfl ?_
  refine T_iload_n C.1 dL_law_303 3 rfl ?_
  refine T_iconst C.1 dL_law_304 ?_
  refine T_iadd C.1 dL_law_305 ?_
  refine T_sld C.1 hX hsb hH dL_law_306 (fun j1 => ?_)
  refine T_aload_n C.1 dL_law_307 0 rfl ?_
  refine T_iload_n C.1 dL_law_308 3 rfl ?_
  refine T_iconst C.1 dL_law_309 ?_
  refine T_iadd C.1 dL_law_310 ?_
  refine T_sld C.1 hX hsb hH dL_law_311 (fun j2 => ?_)
  refine T_callVI (rm := rm_X8_of) [.int (xs j1), .int (xs j2)] [] C.1 dL_law_312 mw_X8_of wm_2_154 wm_2_155 wm_2_156 ⟨Nat.le_of_ble_eq_true rfl, Nat.le_of_ble_eq_true rfl⟩ ⟨rfl, rfl⟩ ⟨by decide, by decide⟩ rfl rfl (Nat.le_of_ble_eq_true rfl) sh1 le1 ⟨rfl, rfl⟩ (c_X8_of ll cx (xs j1) (xs j2) m) (fun v3 m4 => ?_)
  refine T_aload_n C.1 dL_law_315 2 rfl ?_
  refine T_aload_n C.1 dL_law_316 0 rfl ?_
  refine T_iload_n C.1 dL_law_317 3 rfl ?_
  refine T_iconst C.1 dL_law_318 ?_
  refine T_iadd C.1 dL_law_319 ?_
  refine T_sld C.1 hX hsb hH dL_law_320 (fun j5 => ?_)
  refine T_aload_n C.1 dL_law_321 0 rfl ?_
  refine T_iload_n C.1 dL_law_322 3 rfl ?_
  refine T_iconst C.1 dL_law_323 ?_
  refine T_iadd C.1 dL_law_324 ?_
  refine T_sld C.1 hX hsb hH dL_law_325 (fun j6 => ?_)
  refine T_callVI (rm := rm_X9_of) [.int (xs j5), .int (xs j6)] [.int v3] C.1 dL_law_326 mw_X9_of wm_5_198 wm_5_199 wm_5_200 ⟨Nat.le_of_ble_eq_true rfl, Nat.le_of_ble_eq_true rfl⟩ ⟨rfl, rfl⟩ ⟨by decide, by decide⟩ rfl rfl (Nat.le_of_ble_eq_true rfl) sh113 le113 ⟨rfl, rfl⟩ (c_X9_of ll cx (xs j5) (xs j6) m4) (fun v7 m8 => ?_)
  refine T_icmp_eq (tgt := 1151) C.1 dL_law_329 (by decide) ?_ ?_
  · exact T_sub [0, 1, 2, 3] rfl (t_L_law_1151 hX hsb hH hbs C (hk_18) a1 m8)
  · refine T_iconst C.1 dL_law_332 ?_
    exact T_none
def F_L_arm4 (xs : Nat → Int32) (L : Nat) (k_18 : Int32 → Mm → Option (Unit × Mm)) (a1 : Int32) (m : Mm) : Option (Unit × Mm) :=
  rd L (a1 + (iI 1)) fun j1 =>
  bnd (F_X8_swap (xs j1) m) fun v2 m3 =>
  rd L (a1 + (iI 1)) fun j4 =>
  bnd (F_X9_swap (xs j4) m3) fun v5 m6 =>
  (if v2 = v5 then
    F_L_law_1151 (k_18) a1 m6
  else
    none)
set_option maxRecDepth 100000 in
set_option maxHeartbeats 4000000 in
theorem t_L_arm4 {pp : Program} {ll : Launch} {ee : Env} {ss : State} {mm : MethodId} {bb : List Frame} {me : Method} {co : Code} {cx : CX} {sb L : Nat} {xs : Nat → Int32} (hX : va_X sb L xs ss ss.heap) (hsb : sb ≤ cx.2.2.1) (hH : cx.2.2.2.1 = ss.heap) (hbs : ss.heap.size ≤ cx.2.2.1 + 1) (C : CM pp ss mm #[Value.ref sb] me co cL_law 4 RL cx (some .boolean)) {k_18 : Int32 → Mm → Option (Unit × Mm)} (hk_18 : ∀ (a1 : Int32) (m : Mm), TLw pp ll ee ss mm bb me co cx sb 18 [(0, .ref sb), (1, .ref (cx.2.2.1 + 1)), (2, .ref (cx.2.2.1 + 113)), (3, .int a1)] [] m (k_18 a1 m)) (a1 : Int32) (m : Mm) : TLw pp ll ee ss mm bb me co cx sb 334 [(0, .ref sb), (1, .ref (cx.2.2.1 + 1)), (2, .ref (cx.2.2.1 + 113)), (3, .int a1)] [] m (F_L_arm4 xs L k_18 a1 m) := by
  unfold F_L_arm4
  refine T_aload_n C.1 dL_law_334 1 rfl ?_
  refine T_aload_n C.1 dL_law_335 0 rfl ?_
  refine T_iload_n C.1 dL_law_336 3 rfl ?_
  refine T_iconst C.1 dL_law_337 ?_
  refine T_iadd C.1 dL_law_338 ?_
  refine T_sld C.1 hX hsb hH dL_law_339 (fun j1 => ?_)
  refine T_callVI (rm := rm_X8_swap) [.int (xs j1)] [] C.1 dL_law_340 mw_X8_swap wm_2_159 wm_2_160 wm_2_161 ⟨Nat.le_of_ble_eq_true rfl, Nat.le_of_ble_eq_true rfl⟩ ⟨rfl, rfl⟩ ⟨by decide, by decide⟩ rfl rfl (Nat.le_of_ble_eq_true rfl) sh1 le1 ⟨rfl, rfl⟩ (c_X8_swap ll cx (xs j1) m) (fun v2 m3 => ?_)
  refine T_aload_n C.1 dL_law_343 2 rfl ?_
  refine T_aload_n C.1 dL_law_344 0 rfl ?_
  refine T_iload_n C.1 dL_law_345 3 rfl ?_
  refine T_iconst C.1 dL_law_346 ?_
  refine T_iadd C.1 dL_law_347 ?_
  refine T_sld C.1 hX hsb hH dL_law_348 (fun j4 => ?_)
  refine T_callVI (rm := rm_X9_swap) [.int (xs j4)] [.int v2] C.1 dL_law_349 mw_X9_swap wm_5_209 wm_5_210 wm_5_211 ⟨Nat.le_of_ble_eq_true rfl, Nat.le_of_ble_eq_true rfl⟩ ⟨rfl, rfl⟩ ⟨by decide, by decide⟩ rfl rfl (Nat.le_of_ble_eq_true rfl) sh113 le113 ⟨rfl, rfl⟩ (c_X9_swap ll cx (xs j4) m3) (fun v5 m6 => ?_)
  refine T_icmp_eq (tgt := 1151) C.1 dL_law_352 (by decide) ?_ ?_
  · exact T_sub [0, 1, 2, 3] rfl (t_L_law_1151 hX hsb hH hbs C (hk_18) a1 m6)
  · refine T_iconst C.1 dL_law_355 ?_
    exact T_none
def F_L_arm5 (xs : Nat → Int32) (L : Nat) (k_18 : Int32 → Mm → Option (Unit × Mm)) (a1 : Int32) (m : Mm) : Option (Unit × Mm) :=
  rd L (a1 + (iI 1)) fun j1 =>
  bnd (F_X8_feed (xs j1) m) fun v2 m3 =>
  rd L (a1 + (iI 1)) fun j4 =>
  bnd (F_X9_feed (xs j4) m3) fun v5 m6 =>
  (if v2 = v5 then
    F_L_law_1151 (k_18) a1 m6
  else
    none)
set_option maxRecDepth 100000 in
set_option maxHeartbeats 4000000 in
theorem t_L_arm5 {pp : Program} {ll : Launch} {ee : Env} {ss : State} {mm : MethodId} {bb : List Frame} {me : Method} {co : Code} {cx : CX} {sb L : Nat} {xs : Nat → Int32} (hX : va_X sb L xs ss ss.heap) (hsb : sb ≤ cx.2.2.1) (hH : cx.2.2.2.1 = ss.heap) (hbs : ss.heap.size ≤ cx.2.2.1 + 1) (C : CM pp ss mm #[Value.ref sb] me co cL_law 4 RL cx (some .boolean)) {k_18 : Int32 → Mm → Option (Unit × Mm)} (hk_18 : ∀ (a1 : Int32) (m : Mm), TLw pp ll ee ss mm bb me co cx sb 18 [(0, .ref sb), (1, .ref (cx.2.2.1 + 1)), (2, .ref (cx.2.2.1 + 113)), (3, .int a1)] [] m (k_18 a1 m)) (a1 : Int32) (m : Mm) : TLw pp ll ee ss mm bb me co cx sb 357 [(0, .ref sb), (1, .ref (cx.2.2.1 + 1)), (2, .ref (cx.2.2.1 + 113)), (3, .int a1)] [] m (F_L_arm5 xs L k_18 a1 m) := by
  unfold F_L_arm5
  refine T_aload_n C.1 dL_law_357 1 rfl ?_
  refine T_aload_n C.1 dL_law_358 0 rfl ?_
  refine T_iload_n C.1 dL_law_359 3 rfl ?_
  refine T_iconst C.1 dL_law_360 ?_
  refine T_iadd C.1 dL_law_361 ?_
  refine T_sld C.1 hX hsb hH dL_law_362 (fun j1 => ?_)
  refine T_callVI (rm := rm_X8_feed) [.int (xs j1)] [] C.1 dL_law_363 mw_X8_feed wm_2_168 wm_2_169 wm_2_170 ⟨Nat.le_of_ble_eq_true rfl, Nat.le_of_ble_eq_true rfl⟩ ⟨rfl, rfl⟩ ⟨by decide, by decide⟩ rfl rfl (Nat.le_of_ble_eq_true rfl) sh1 le1 ⟨rfl, rfl⟩ (c_X8_feed ll cx (xs j1) m) (fun v2 m3 => ?_)
  refine T_aload_n C.1 dL_law_366 2 rfl ?_
  refine T_aload_n C.1 dL_law_367 0 rfl ?_
  refine T_iload_n C.1 dL_law_368 3 rfl ?_
  refine T_iconst C.1 dL_law_369 ?_
  refine T_iadd C.1 dL_law_370 ?_
  refine T_sld C.1 hX hsb hH dL_law_371 (fun j4 => ?_)
  refine T_callVI (rm := rm_X9_feed) [.int (xs j4)] [.int v2] C.1 dL_law_372 mw_X9_feed wm_5_217 wm_5_218 wm_5_219 ⟨Nat.le_of_ble_eq_true rfl, Nat.le_of_ble_eq_true rfl⟩ ⟨rfl, rfl⟩ ⟨by decide, by decide⟩ rfl rfl (Nat.le_of_ble_eq_true rfl) sh113 le113 ⟨rfl, rfl⟩ (c_X9_feed ll cx (xs j4) m3) (fun v5 m6 => ?_)
  refine T_icmp_eq (tgt := 1151) C.1 dL_law_375 (by decide) ?_ ?_
  · exact T_sub [0, 1, 2, 3] rfl (t_L_law_1151 hX hsb hH hbs C (hk_18) a1 m6)
  · refine T_iconst C.1 dL_law_378 ?_
    exact T_none
def F_L_arm6 (xs : Nat → Int32) (L : Nat) (k_18 : Int32 → Mm → Option (Unit × Mm)) (a1 : Int32) (m : Mm) : Option (Unit × Mm) :=
  bnd (F_X8_law m) fun v1 m2 =>
  bnd (F_X9_law m2) fun v3 m4 =>
  (if v1 = v3 then
    F_L_law_1151 (k_18) a1 m4
  else
    none)
set_option maxRecDepth 100000 in
set_option maxHeartbeats 4000000 in
theorem t_L_arm6 {pp : Program} {ll : Launch} {ee : Env} {ss : State} {mm : MethodId} {bb : List Frame} {me : Method} {co : Code} {cx : CX} {sb L : Nat} {xs : Nat → Int32} (hX : va_X sb L xs ss ss.heap) (hsb : sb ≤ cx.2.2.1) (hH : cx.2.2.2.1 = ss.heap) (hbs : ss.heap.size ≤ cx.2.2.1 + 1) (C : CM pp ss mm #[Value.ref sb] me co cL_law 4 RL cx (some .boolean)) {k_18 : Int32 → Mm → Option (Unit × Mm)} (hk_18 : ∀ (a1 : Int32) (m : Mm), TLw pp ll ee ss mm bb me co cx sb 18 [(0, .ref sb), (1, .ref (cx.2.2.1 + 1)), (2, .ref (cx.2.2.1 + 113)), (3, .int a1)] [] m (k_18 a1 m)) (a1 : Int32) (m : Mm) : TLw pp ll ee ss mm bb me co cx sb 380 [(0, .ref sb), (1, .ref (cx.2.2.1 + 1)), (2, .ref (cx.2.2.1 + 113)), (3, .int a1)] [] m (F_L_arm6 xs L k_18 a1 m) := by
  unfold F_L_arm6
  refine T_aload_n C.1 dL_law_380 1 rfl ?_
  refine T_callVI (rm := rm_X8_law) [] [] C.1 dL_law_381 mw_X8_law wm_2_176 wm_2_177 wm_2_178 ⟨Nat.le_of_ble_eq_true rfl, Nat.le_of_ble_eq_true rfl⟩ ⟨rfl, rfl⟩ ⟨by decide, by decide⟩ rfl rfl (Nat.le_of_ble_eq_true rfl) sh1 le1 ⟨rfl, rfl⟩ (c_X8_law ll cx m) (fun v1 m2 => ?_)
  refine T_aload_n C.1 dL_law_384 2 rfl ?_
  refine T_callVI (rm := rm_X9_law) [] [.int v1] C.1 dL_law_385 mw_X9_law wm_5_221 wm_5_222 wm_5_223 ⟨Nat.le_of_ble_eq_true rfl, Nat.le_of_ble_eq_true rfl⟩ ⟨rfl, rfl⟩ ⟨by decide, by decide⟩ rfl rfl (Nat.le_of_ble_eq_true rfl) sh113 le113 ⟨rfl, rfl⟩ (c_X9_law ll cx m2) (fun v3 m4 => ?_)
  refine T_icmp_eq (tgt := 1151) C.1 dL_law_388 (by decide) ?_ ?_
  · exact T_sub [0, 1, 2, 3] rfl (t_L_law_1151 hX hsb hH hbs C (hk_18) a1 m4)
  · refine T_iconst C.1 dL_law_391 ?_
    exact T_none
def F_L_arm7 (xs : Nat → Int32) (L : Nat) (k_18 : Int32 → Mm → Option (Unit × Mm)) (a1 : Int32) (m : Mm) : Option (Unit × Mm) :=
  bnd (F_X8_turn m) fun v1 m2 =>
  bnd (F_X9_turn m2) fun v3 m4 =>
  (if v1 = v3 then
    F_L_law_1151 (k_18) a1 m4
  else
    none)
set_option maxRecDepth 100000 in
set_option maxHeartbeats 4000000 in
theorem t_L_arm7 {pp : Program} {ll : Launch} {ee : Env} {ss : State} {mm : MethodId} {bb : List Frame} {me : Method} {co : Code} {cx : CX} {sb L : Nat} {xs : Nat → Int32} (hX : va_X sb L xs ss ss.heap) (hsb : sb ≤ cx.2.2.1) (hH : cx.2.2.2.1 = ss.heap) (hbs : ss.heap.size ≤ cx.2.2.1 + 1) (C : CM pp ss mm #[Value.ref sb] me co cL_law 4 RL cx (some .boolean)) {k_18 : Int32 → Mm → Option (Unit × Mm)} (hk_18 : ∀ (a1 : Int32) (m : Mm), TLw pp ll ee ss mm bb me co cx sb 18 [(0, .ref sb), (1, .ref (cx.2.2.1 + 1)), (2, .ref (cx.2.2.1 + 113)), (3, .int a1)] [] m (k_18 a1 m)) (a1 : Int32) (m : Mm) : TLw pp ll ee ss mm bb me co cx sb 393 [(0, .ref sb), (1, .ref (cx.2.2.1 + 1)), (2, .ref (cx.2.2.1 + 113)), (3, .int a1)] [] m (F_L_arm7 xs L k_18 a1 m) := by
  unfold F_L_arm7
  refine T_aload_n C.1 dL_law_393 1 rfl ?_
  refine T_callVI (rm := rm_X8_turn) [] [] C.1 dL_law_394 mw_X8_turn wm_3_19 wm_3_20 wm_3_21 ⟨Nat.le_of_ble_eq_true rfl, Nat.le_of_ble_eq_true rfl⟩ ⟨rfl, rfl⟩ ⟨by decide, by decide⟩ rfl rfl (Nat.le_of_ble_eq_true rfl) sh1 le1 ⟨rfl, rfl⟩ (c_X8_turn ll cx m) (fun v1 m2 => ?_)
  refine T_aload_n C.1 dL_law_397 2 rfl ?_
  refine T_callVI (rm := rm_X9_turn) [] [.int v1] C.1 dL_law_398 mw_X9_turn wm_6_40 wm_6_41 wm_6_42 ⟨Nat.le_of_ble_eq_true rfl, Nat.le_of_ble_eq_true rfl⟩ ⟨rfl, rfl⟩ ⟨by decide, by decide⟩ rfl rfl (Nat.le_of_ble_eq_true rfl) sh113 le113 ⟨rfl, rfl⟩ (c_X9_turn ll cx m2) (fun v3 m4 => ?_)
  refine T_icmp_eq (tgt := 1151) C.1 dL_law_401 (by decide) ?_ ?_
  · exact T_sub [0, 1, 2, 3] rfl (t_L_law_1151 hX hsb hH hbs C (hk_18) a1 m4)
  · refine T_iconst C.1 dL_law_404 ?_
    exact T_none
def F_L_arm8 (xs : Nat → Int32) (L : Nat) (k_18 : Int32 → Mm → Option (Unit × Mm)) (a1 : Int32) (m : Mm) : Option (Unit × Mm) :=
  bnd (F_X8_open m) fun v1 m2 =>
  bnd (F_X9_open m2) fun v3 m4 =>
  (if v1 = v3 then
    F_L_law_1151 (k_18) a1 m4
  else
    none)
set_option maxRecDepth 100000 in
set_option maxHeartbeats 4000000 in
theorem t_L_arm8 {pp : Program} {ll : Launch} {ee : Env} {ss : State} {mm : MethodId} {bb : List Frame} {me : Method} {co : Code} {cx : CX} {sb L : Nat} {xs : Nat → Int32} (hX : va_X sb L xs ss ss.heap) (hsb : sb ≤ cx.2.2.1) (hH : cx.2.2.2.1 = ss.heap) (hbs : ss.heap.size ≤ cx.2.2.1 + 1) (C : CM pp ss mm #[Value.ref sb] me co cL_law 4 RL cx (some .boolean)) {k_18 : Int32 → Mm → Option (Unit × Mm)} (hk_18 : ∀ (a1 : Int32) (m : Mm), TLw pp ll ee ss mm bb me co cx sb 18 [(0, .ref sb), (1, .ref (cx.2.2.1 + 1)), (2, .ref (cx.2.2.1 + 113)), (3, .int a1)] [] m (k_18 a1 m)) (a1 : Int32) (m : Mm) : TLw pp ll ee ss mm bb me co cx sb 406 [(0, .ref sb), (1, .ref (cx.2.2.1 + 1)), (2, .ref (cx.2.2.1 + 113)), (3, .int a1)] [] m (F_L_arm8 xs L k_18 a1 m) := by
  unfold F_L_arm8
  refine T_aload_n C.1 dL_law_406 1 rfl ?_
  refine T_callVI (rm := rm_X8_open) [] [] C.1 dL_law_407 mw_X8_open wm_3_27 wm_3_28 wm_3_29 ⟨Nat.le_of_ble_eq_true rfl, Nat.le_of_ble_eq_true rfl⟩ ⟨rfl, rfl⟩ ⟨by decide, by decide⟩ rfl rfl (Nat.le_of_ble_eq_true rfl) sh1 le1 ⟨rfl, rfl⟩ (c_X8_open ll cx m) (fun v1 m2 => ?_)
  refine T_aload_n C.1 dL_law_410 2 rfl ?_
  refine T_callVI (rm := rm_X9_open) [] [.int v1] C.1 dL_law_411 mw_X9_open wm_6_44 wm_6_45 wm_6_46 ⟨Nat.le_of_ble_eq_true rfl, Nat.le_of_ble_eq_true rfl⟩ ⟨rfl, rfl⟩ ⟨by decide, by decide⟩ rfl rfl (Nat.le_of_ble_eq_true rfl) sh113 le113 ⟨rfl, rfl⟩ (c_X9_open ll cx m2) (fun v3 m4 => ?_)
  refine T_icmp_eq (tgt := 1151) C.1 dL_law_414 (by decide) ?_ ?_
  · exact T_sub [0, 1, 2, 3] rfl (t_L_law_1151 hX hsb hH hbs C (hk_18) a1 m4)
  · refine T_iconst C.1 dL_law_417 ?_
    exact T_none
def F_L_arm9 (xs : Nat → Int32) (L : Nat) (k_18 : Int32 → Mm → Option (Unit × Mm)) (a1 : Int32) (m : Mm) : Option (Unit × Mm) :=
  rd L (a1 + (iI 1)) fun j1 =>
  bnd (F_X8_take (xs j1) m) fun v2 m3 =>
  rd L (a1 + (iI 1)) fun j4 =>
  bnd (F_X9_take (xs j4) m3) fun v5 m6 =>
  (if v2 = v5 then
    F_L_law_1151 (k_18) a1 m6
  else
    none)
set_option maxRecDepth 100000 in
set_option maxHeartbeats 4000000 in
theorem t_L_arm9 {pp : Program} {ll : Launch} {ee : Env} {ss : State} {mm : MethodId} {bb : List Frame} {me : Method} {co : Code} {cx : CX} {sb L : Nat} {xs : Nat → Int32} (hX : va_X sb L xs ss ss.heap) (hsb : sb ≤ cx.2.2.1) (hH : cx.2.2.2.1 = ss.heap) (hbs : ss.heap.size ≤ cx.2.2.1 + 1) (C : CM pp ss mm #[Value.ref sb] me co cL_law 4 RL cx (some .boolean)) {k_18 : Int32 → Mm → Option (Unit × Mm)} (hk_18 : ∀ (a1 : Int32) (m : Mm), TLw pp ll ee ss mm bb me co cx sb 18 [(0, .ref sb), (1, .ref (cx.2.2.1 + 1)), (2, .ref (cx.2.2.1 + 113)), (3, .int a1)] [] m (k_18 a1 m)) (a1 : Int32) (m : Mm) : TLw pp ll ee ss mm bb me co cx sb 419 [(0, .ref sb), (1, .ref (cx.2.2.1 + 1)), (2, .ref (cx.2.2.1 + 113)), (3, .int a1)] [] m (F_L_arm9 xs L k_18 a1 m) := by
  unfold F_L_arm9
  refine T_aload_n C.1 dL_law_419 1 rfl ?_
  refine T_aload_n C.1 dL_law_420 0 rfl ?_
  refine T_iload_n C.1 dL_law_421 3 rfl ?_
  refine T_iconst C.1 dL_law_422 ?_
  refine T_iadd C.1 dL_law_423 ?_
  refine T_sld C.1 hX hsb hH dL_law_424 (fun j1 => ?_)
  refine T_callVI (rm := rm_X8_take) [.int (xs j1)] [] C.1 dL_law_425 mw_X8_take wm_3_39 wm_3_40 wm_3_41 ⟨Nat.le_of_ble_eq_true rfl, Nat.le_of_ble_eq_true rfl⟩ ⟨rfl, rfl⟩ ⟨by decide, by decide⟩ rfl rfl (Nat.le_of_ble_eq_true rfl) sh1 le1 ⟨rfl, rfl⟩ (c_X8_take ll cx (xs j1) m) (fun v2 m3 => ?_)
  refine T_aload_n C.1 dL_law_428 2 rfl ?_
  refine T_aload_n C.1 dL_law_429 0 rfl ?_
  refine T_iload_n C.1 dL_law_430 3 rfl ?_
  refine T_iconst C.1 dL_law_431 ?_
  refine T_iadd C.1 dL_law_432 ?_
  refine T_sld C.1 hX hsb hH dL_law_433 (fun j4 => ?_)
  refine T_callVI (rm := rm_X9_take) [.int (xs j4)] [.int v2] C.1 dL_law_434 mw_X9_take wm_6_60 wm_6_61 wm_6_62 ⟨Nat.le_of_ble_eq_true rfl, Nat.le_of_ble_eq_true rfl⟩ ⟨rfl, rfl⟩ ⟨by decide, by decide⟩ rfl rfl (Nat.le_of_ble_eq_true rfl) sh113 le113 ⟨rfl, rfl⟩ (c_X9_take ll cx (xs j4) m3) (fun v5 m6 => ?_)
  refine T_icmp_eq (tgt := 1151) C.1 dL_law_437 (by decide) ?_ ?_
  · exact T_sub [0, 1, 2, 3] rfl (t_L_law_1151 hX hsb hH hbs C (hk_18) a1 m6)
  · refine T_iconst C.1 dL_law_440 ?_
    exact T_none
def F_L_arm10 (xs : Nat → Int32) (L : Nat) (k_18 : Int32 → Mm → Option (Unit × Mm)) (a1 : Int32) (m : Mm) : Option (Unit × Mm) :=
  bnd (F_X8_goOn m) fun v1 m2 =>
  bnd (F_X9_goOn m2) fun v3 m4 =>
  (if v1 = v3 then
    F_L_law_1151 (k_18) a1 m4
  else
    none)
set_option maxRecDepth 100000 in
set_option maxHeartbeats 4000000 in
theorem t_L_arm10 {pp : Program} {ll : Launch} {ee : Env} {ss : State} {mm : MethodId} {bb : List Frame} {me : Method} {co : Code} {cx : CX} {sb L : Nat} {xs : Nat → Int32} (hX : va_X sb L xs ss ss.heap) (hsb : sb ≤ cx.2.2.1) (hH : cx.2.2.2.1 = ss.heap) (hbs : ss.heap.size ≤ cx.2.2.1 + 1) (C : CM pp ss mm #[Value.ref sb] me co cL_law 4 RL cx (some .boolean)) {k_18 : Int32 → Mm → Option (Unit × Mm)} (hk_18 : ∀ (a1 : Int32) (m : Mm), TLw pp ll ee ss mm bb me co cx sb 18 [(0, .ref sb), (1, .ref (cx.2.2.1 + 1)), (2, .ref (cx.2.2.1 + 113)), (3, .int a1)] [] m (k_18 a1 m)) (a1 : Int32) (m : Mm) : TLw pp ll ee ss mm bb me co cx sb 442 [(0, .ref sb), (1, .ref (cx.2.2.1 + 1)), (2, .ref (cx.2.2.1 + 113)), (3, .int a1)] [] m (F_L_arm10 xs L k_18 a1 m) := by
  unfold F_L_arm10
  refine T_aload_n C.1 dL_law_442 1 rfl ?_
  refine T_callVI (rm := rm_X8_goOn) [] [] C.1 dL_law_443 mw_X8_goOn wm_3_55 wm_3_56 wm_3_57 ⟨Nat.le_of_ble_eq_true rfl, Nat.le_of_ble_eq_true rfl⟩ ⟨rfl, rfl⟩ ⟨by decide, by decide⟩ rfl rfl (Nat.le_of_ble_eq_true rfl) sh1 le1 ⟨rfl, rfl⟩ (c_X8_goOn ll cx m) (fun v1 m2 => ?_)
  refine T_aload_n C.1 dL_law_446 2 rfl ?_
  refine T_callVI (rm := rm_X9_goOn) [] [.int v1] C.1 dL_law_447 mw_X9_goOn wm_6_72 wm_6_73 wm_6_74 ⟨Nat.le_of_ble_eq_true rfl, Nat.le_of_ble_eq_true rfl⟩ ⟨rfl, rfl⟩ ⟨by decide, by decide⟩ rfl rfl (Nat.le_of_ble_eq_true rfl) sh113 le113 ⟨rfl, rfl⟩ (c_X9_goOn ll cx m2) (fun v3 m4 => ?_)
  refine T_icmp_eq (tgt := 1151) C.1 dL_law_450 (by decide) ?_ ?_
  · exact T_sub [0, 1, 2, 3] rfl (t_L_law_1151 hX hsb hH hbs C (hk_18) a1 m4)
  · refine T_iconst C.1 dL_law_453 ?_
    exact T_none
def F_L_arm11 (xs : Nat → Int32) (L : Nat) (k_18 : Int32 → Mm → Option (Unit × Mm)) (a1 : Int32) (m : Mm) : Option (Unit × Mm) :=
  bnd (F_X8_again m) fun v1 m2 =>
  bnd (F_X9_again m2) fun v3 m4 =>
  (if v1 = v3 then
    F_L_law_1151 (k_18) a1 m4
  else
    none)
set_option maxRecDepth 100000 in
set_option maxHeartbeats 4000000 in
theorem t_L_arm11 {pp : Program} {ll : Launch} {ee : Env} {ss : State} {mm : MethodId} {bb : List Frame} {me : Method} {co : Code} {cx : CX} {sb L : Nat} {xs : Nat → Int32} (hX : va_X sb L xs ss ss.heap) (hsb : sb ≤ cx.2.2.1) (hH : cx.2.2.2.1 = ss.heap) (hbs : ss.heap.size ≤ cx.2.2.1 + 1) (C : CM pp ss mm #[Value.ref sb] me co cL_law 4 RL cx (some .boolean)) {k_18 : Int32 → Mm → Option (Unit × Mm)} (hk_18 : ∀ (a1 : Int32) (m : Mm), TLw pp ll ee ss mm bb me co cx sb 18 [(0, .ref sb), (1, .ref (cx.2.2.1 + 1)), (2, .ref (cx.2.2.1 + 113)), (3, .int a1)] [] m (k_18 a1 m)) (a1 : Int32) (m : Mm) : TLw pp ll ee ss mm bb me co cx sb 455 [(0, .ref sb), (1, .ref (cx.2.2.1 + 1)), (2, .ref (cx.2.2.1 + 113)), (3, .int a1)] [] m (F_L_arm11 xs L k_18 a1 m) := by
  unfold F_L_arm11
  refine T_aload_n C.1 dL_law_455 1 rfl ?_
  refine T_callVI (rm := rm_X8_again) [] [] C.1 dL_law_456 mw_X8_again wm_3_101 wm_3_102 wm_3_103 ⟨Nat.le_of_ble_eq_true rfl, Nat.le_of_ble_eq_true rfl⟩ ⟨rfl, rfl⟩ ⟨by decide, by decide⟩ rfl rfl (Nat.le_of_ble_eq_true rfl) sh1 le1 ⟨rfl, rfl⟩ (c_X8_again ll cx m) (fun v1 m2 => ?_)
  refine T_aload_n C.1 dL_law_459 2 rfl ?_
  refine T_callVI (rm := rm_X9_again) [] [.int v1] C.1 dL_law_460 mw_X9_again wm_6_106 wm_6_107 wm_6_108 ⟨Nat.le_of_ble_eq_true rfl, Nat.le_of_ble_eq_true rfl⟩ ⟨rfl, rfl⟩ ⟨by decide, by decide⟩ rfl rfl (Nat.le_of_ble_eq_true rfl) sh113 le113 ⟨rfl, rfl⟩ (c_X9_again ll cx m2) (fun v3 m4 => ?_)
  refine T_icmp_eq (tgt := 1151) C.1 dL_law_463 (by decide) ?_ ?_
  · exact T_sub [0, 1, 2, 3] rfl (t_L_law_1151 hX hsb hH hbs C (hk_18) a1 m4)
  · refine T_iconst C.1 dL_law_466 ?_
    exact T_none
def F_L_arm12 (xs : Nat → Int32) (L : Nat) (k_18 : Int32 → Mm → Option (Unit × Mm)) (a1 : Int32) (m : Mm) : Option (Unit × Mm) :=
  bnd (F_X8_anew m) fun v1 m2 =>
  bnd (F_X9_anew m2) fun v3 m4 =>
  (if v1 = v3 then
    F_L_law_1151 (k_18) a1 m4
  else
    none)
set_option maxRecDepth 100000 in
set_option maxHeartbeats 4000000 in
theorem t_L_arm12 {pp : Program} {ll : Launch} {ee : Env} {ss : State} {mm : MethodId} {bb : List Frame} {me : Method} {co : Code} {cx : CX} {sb L : Nat} {xs : Nat → Int32} (hX : va_X sb L xs ss ss.heap) (hsb : sb ≤ cx.2.2.1) (hH : cx.2.2.2.1 = ss.heap) (hbs : ss.heap.size ≤ cx.2.2.1 + 1) (C : CM pp ss mm #[Value.ref sb] me co cL_law 4 RL cx (some .boolean)) {k_18 : Int32 → Mm → Option (Unit × Mm)} (hk_18 : ∀ (a1 : Int32) (m : Mm), TLw pp ll ee ss mm bb me co cx sb 18 [(0, .ref sb), (1, .ref (cx.2.2.1 + 1)), (2, .ref (cx.2.2.1 + 113)), (3, .int a1)] [] m (k_18 a1 m)) (a1 : Int32) (m : Mm) : TLw pp ll ee ss mm bb me co cx sb 468 [(0, .ref sb), (1, .ref (cx.2.2.1 + 1)), (2, .ref (cx.2.2.1 + 113)), (3, .int a1)] [] m (F_L_arm12 xs L k_18 a1 m) := by
  unfold F_L_arm12
  refine T_aload_n C.1 dL_law_468 1 rfl ?_
  refine T_callVI (rm := rm_X8_anew) [] [] C.1 dL_law_469 mw_X8_anew wm_3_118 wm_3_119 wm_3_120 ⟨Nat.le_of_ble_eq_true rfl, Nat.le_of_ble_eq_true rfl⟩ ⟨rfl, rfl⟩ ⟨by decide, by decide⟩ rfl rfl (Nat.le_of_ble_eq_true rfl) sh1 le1 ⟨rfl, rfl⟩ (c_X8_anew ll cx m) (fun v1 m2 => ?_)
  refine T_aload_n C.1 dL_law_472 2 rfl ?_
  refine T_callVI (rm := rm_X9_anew) [] [.int v1] C.1 dL_law_473 mw_X9_anew wm_6_118 wm_6_119 wm_6_120 ⟨Nat.le_of_ble_eq_true rfl, Nat.le_of_ble_eq_true rfl⟩ ⟨rfl, rfl⟩ ⟨by decide, by decide⟩ rfl rfl (Nat.le_of_ble_eq_true rfl) sh113 le113 ⟨rfl, rfl⟩ (c_X9_anew ll cx m2) (fun v3 m4 => ?_)
  refine T_icmp_eq (tgt := 1151) C.1 dL_law_476 (by decide) ?_ ?_
  · exact T_sub [0, 1, 2, 3] rfl (t_L_law_1151 hX hsb hH hbs C (hk_18) a1 m4)
  · refine T_iconst C.1 dL_law_479 ?_
    exact T_none
def F_L_arm13 (xs : Nat → Int32) (L : Nat) (k_18 : Int32 → Mm → Option (Unit × Mm)) (a1 : Int32) (m : Mm) : Option (Unit × Mm) :=
  rd L (a1 + (iI 1)) fun j1 =>
  bnd (F_X8_led (xs j1) m) fun v2 m3 =>
  rd L (a1 + (iI 1)) fun j4 =>
  bnd (F_X9_led (xs j4) m3) fun v5 m6 =>
  (if v2 = v5 then
    F_L_law_1151 (k_18) a1 m6
  else
    none)
set_option maxRecDepth 100000 in
set_option maxHeartbeats 4000000 in
theorem t_L_arm13 {pp : Program} {ll : Launch} {ee : Env} {ss : State} {mm : MethodId} {bb : List Frame} {me : Method} {co : Code} {cx : CX} {sb L : Nat} {xs : Nat → Int32} (hX : va_X sb L xs ss ss.heap) (hsb : sb ≤ cx.2.2.1) (hH : cx.2.2.2.1 = ss.heap) (hbs : ss.heap.size ≤ cx.2.2.1 + 1) (C : CM pp ss mm #[Value.ref sb] me co cL_law 4 RL cx (some .boolean)) {k_18 : Int32 → Mm → Option (Unit × Mm)} (hk_18 : ∀ (a1 : Int32) (m : Mm), TLw pp ll ee ss mm bb me co cx sb 18 [(0, .ref sb), (1, .ref (cx.2.2.1 + 1)), (2, .ref (cx.2.2.1 + 113)), (3, .int a1)] [] m (k_18 a1 m)) (a1 : Int32) (m : Mm) : TLw pp ll ee ss mm bb me co cx sb 481 [(0, .ref sb), (1, .ref (cx.2.2.1 + 1)), (2, .ref (cx.2.2.1 + 113)), (3, .int a1)] [] m (F_L_arm13 xs L k_18 a1 m) := by
  unfold F_L_arm13
  refine T_aload_n C.1 dL_law_481 1 rfl ?_
  refine T_aload_n C.1 dL_law_482 0 rfl ?_
  refine T_iload_n C.1 dL_law_483 3 rfl ?_
  refine T_iconst C.1 dL_law_484 ?_
  refine T_iadd C.1 dL_law_485 ?_
  refine T_sld C.1 hX hsb hH dL_law_486 (fun j1 => ?_)
  refine T_callVI (rm := rm_X8_led) [.int (xs j1)] [] C.1 dL_law_487 mw_X8_led wm_3_126 wm_3_127 wm_3_128 ⟨Nat.le_of_ble_eq_true rfl, Nat.le_of_ble_eq_true rfl⟩ ⟨rfl, rfl⟩ ⟨by decide, by decide⟩ rfl rfl (Nat.le_of_ble_eq_true rfl) sh1 le1 ⟨rfl, rfl⟩ (c_X8_led ll cx (xs j1) m) (fun v2 m3 => ?_)
  refine T_aload_n C.1 dL_law_490 2 rfl ?_
  refine T_aload_n C.1 dL_law_491 0 rfl ?_
  refine T_iload_n C.1 dL_law_492 3 rfl ?_
  refine T_iconst C.1 dL_law_493 ?_
  refine T_iadd C.1 dL_law_494 ?_
  refine T_sld C.1 hX hsb hH dL_law_495 (fun j4 => ?_)
  refine T_callVI (rm := rm_X9_led) [.int (xs j4)] [.int v2] C.1 dL_law_496 mw_X9_led wm_6_122 wm_6_123 wm_6_124 ⟨Nat.le_of_ble_eq_true rfl, Nat.le_of_ble_eq_true rfl⟩ ⟨rfl, rfl⟩ ⟨by decide, by decide⟩ rfl rfl (Nat.le_of_ble_eq_true rfl) sh113 le113 ⟨rfl, rfl⟩ (c_X9_led ll cx (xs j4) m3) (fun v5 m6 => ?_)
  refine T_icmp_eq (tgt := 1151) C.1 dL_law_499 (by decide) ?_ ?_
  · exact T_sub [0, 1, 2, 3] rfl (t_L_law_1151 hX hsb hH hbs C (hk_18) a1 m6)
  · refine T_iconst C.1 dL_law_502 ?_
    exact T_none
def F_L_arm14 (xs : Nat → Int32) (L : Nat) (k_18 : Int32 → Mm → Option (Unit × Mm)) (a1 : Int32) (m : Mm) : Option (Unit × Mm) :=
  rd L (a1 + (iI 1)) fun j1 =>
  rd L (a1 + (iI 2)) fun j2 =>
  bnd (F_X8_evening (xs j1) (xs j2) m) fun v3 m4 =>
  rd L (a1 + (iI 1)) fun j5 =>
  rd L (a1 + (iI 2)) fun j6 =>
  bnd (F_X9_evening (xs j5) (xs j6) m4) fun v7 m8 =>
  (if v3 = v7 then
    F_L_law_1151 (k_18) a1 m8
  else
    none)
set_option maxRecDepth 100000 in
set_option maxHeartbeats 4000000 in
theorem t_L_arm14 {pp : Program} {ll : Launch} {ee : Env} {ss : State} {mm : MethodId} {bb : List Frame} {me : Method} {co : Code} {cx : CX} {sb L : Nat} {xs : Nat → Int32} (hX : va_X sb L xs ss ss.heap) (hsb : sb ≤ cx.2.2.1) (hH : cx.2.2.2.1 = ss.heap) (hbs : ss.heap.size ≤ cx.2.2.1 + 1) (C : CM pp ss mm #[Value.ref sb] me co cL_law 4 RL cx (some .boolean)) {k_18 : Int32 → Mm → Option (Unit × Mm)} (hk_18 : ∀ (a1 : Int32) (m : Mm), TLw pp ll ee ss mm bb me co cx sb 18 [(0, .ref sb), (1, .ref (cx.2.2.1 + 1)), (2, .ref (cx.2.2.1 + 113)), (3, .int a1)] [] m (k_18 a1 m)) (a1 : Int32) (m : Mm) : TLw pp ll ee ss mm bb me co cx sb 504 [(0, .ref sb), (1, .ref (cx.2.2.1 + 1)), (2, .ref (cx.2.2.1 + 113)), (3, .int a1)] [] m (F_L_arm14 xs L k_18 a1 m) := by
  unfold F_L_arm14
  refine T_aload_n C.1 dL_law_504 1 rfl ?_
  refine T_aload_n C.1 dL_law_505 0 rfl ?_
  refine T_iload_n C.1 dL_law_506 3 rfl ?_
  refine T_iconst C.1 dL_law_507 ?_
  refine T_iadd C.1 dL_law_508 ?_
  refine T_sld C.1 hX hsb hH dL_law_509 (fun j1 => ?_)
  refine T_aload_n C.1 dL_law_510 0 rfl ?_
  refine T_iload_n C.1 dL_law_511 3 rfl ?_
  refine T_iconst C.1 dL_law_512 ?_
  refine T_iadd C.1 dL_law_513 ?_
  refine T_sld C.1 hX hsb hH dL_law_514 (fun j2 => ?_)
  refine T_callVI (rm := rm_X8_evening) [.int (xs j1), .int (xs j2)] [] C.1 dL_law_515 mw_X8_evening wm_3_130 wm_3_131 wm_3_132 ⟨Nat.le_of_ble_eq_true rfl, Nat.le_of_ble_eq_true rfl⟩ ⟨rfl, rfl⟩ ⟨by decide, by decide⟩ rfl rfl (Nat.le_of_ble_eq_true rfl) sh1 le1 ⟨rfl, rfl⟩ (c_X8_evening ll cx (xs j1) (xs j2) m) (fun v3 m4 => ?_)
  refine T_aload_n C.1 dL_law_518 2 rfl ?_
  refine T_aload_n C.1 dL_law_519 0 rfl ?_
  refine T_iload_n C.1 dL_law_520 3 rfl ?_
  refine T_iconst C.1 dL_law_521 ?_
  refine T_iadd C.1 dL_law_522 ?_
  refine T_sld C.1 hX hsb hH dL_law_523 (fun j5 => ?_)
  refine T_aload_n C.1 dL_law_524 0 rfl ?_
  refine T_iload_n C.1 dL_law_525 3 rfl ?_
  refine T_iconst C.1 dL_law_526 ?_
  refine T_iadd C.1 dL_law_527 ?_
  refine T_sld C.1 hX hsb hH dL_law_528 (fun j6 => ?_)
  refine T_callVI (rm := rm_X9_evening) [.int (xs j5), .int (xs j6)] [.int v3] C.1 dL_law_529 mw_X9_evening wm_6_126 wm_6_127 wm_6_128 ⟨Nat.le_of_ble_eq_true rfl, Nat.le_of_ble_eq_true rfl⟩ ⟨rfl, rfl⟩ ⟨by decide, by decide⟩ rfl rfl (Nat.le_of_ble_eq_true rfl) sh113 le113 ⟨rfl, rfl⟩ (c_X9_evening ll cx (xs j5) (xs j6) m4) (fun v7 m8 => ?_)
  refine T_icmp_eq (tgt := 1151) C.1 dL_law_532 (by decide) ?_ ?_
  · exact T_sub [0, 1, 2, 3] rfl (t_L_law_1151 hX hsb hH hbs C (hk_18) a1 m8)
  · refine T_iconst C.1 dL_law_535 ?_
    exact T_none
def F_L_arm15 (xs : Nat → Int32) (L : Nat) (k_18 : Int32 → Mm → Option (Unit × Mm)) (a1 : Int32) (m : Mm) : Option (Unit × Mm) :=
  rd L (a1 + (iI 1)) fun j1 =>
  bnd (F_X8_exact (xs j1) m) fun v2 m3 =>
  rd L (a1 + (iI 1)) fun j4 =>
  bnd (F_X9_exact (xs j4) m3) fun v5 m6 =>
  (if v2 = v5 then
    F_L_law_1151 (k_18) a1 m6
  else
    none)
set_option maxRecDepth 100000 in
set_option maxHeartbeats 4000000 in
theorem t_L_arm15 {pp : Program} {ll : Launch} {ee : Env} {ss : State} {mm : MethodId} {bb : List Frame} {me : Method} {co : Code} {cx : CX} {sb L : Nat} {xs : Nat → Int32} (hX : va_X sb L xs ss ss.heap) (hsb : sb ≤ cx.2.2.1) (hH : cx.2.2.2.1 = ss.heap) (hbs : ss.heap.size ≤ cx.2.2.1 + 1) (C : CM pp ss mm #[Value.ref sb] me co cL_law 4 RL cx (some .boolean)) {k_18 : Int32 → Mm → Option (Unit × Mm)} (hk_18 : ∀ (a1 : Int32) (m : Mm), TLw pp ll ee ss mm bb me co cx sb 18 [(0, .ref sb), (1, .ref (cx.2.2.1 + 1)), (2, .ref (cx.2.2.1 + 113)), (3, .int a1)] [] m (k_18 a1 m)) (a1 : Int32) (m : Mm) : TLw pp ll ee ss mm bb me co cx sb 537 [(0, .ref sb), (1, .ref (cx.2.2.1 + 1)), (2, .ref (cx.2.2.1 + 113)), (3, .int a1)] [] m (F_L_arm15 xs L k_18 a1 m) := by
  unfold F_L_arm15
  refine T_aload_n C.1 dL_law_537 1 rfl ?_
  refine T_aload_n C.1 dL_law_538 0 rfl ?_
  refine T_iload_n C.1 dL_law_539 3 rfl ?_
  refine T_iconst C.1 dL_law_540 ?_
  refine T_iadd C.1 dL_law_541 ?_
  refine T_sld C.1 hX hsb hH dL_law_542 (fun j1 => ?_)
  refine T_callVI (rm := rm_X8_exact) [.int (xs j1)] [] C.1 dL_law_543 mw_X8_exact wm_3_155 wm_3_156 wm_3_157 ⟨Nat.le_of_ble_eq_true rfl, Nat.le_of_ble_eq_true rfl⟩ ⟨rfl, rfl⟩ ⟨by decide, by decide⟩ rfl rfl (Nat.le_of_ble_eq_true rfl) sh1 le1 ⟨rfl, rfl⟩ (c_X8_exact ll cx (xs j1) m) (fun v2 m3 => ?_)
  refine T_aload_n C.1 dL_law_546 2 rfl ?_
  refine T_aload_n C.1 dL_law_547 0 rfl ?_
  refine T_iload_n C.1 dL_law_548 3 rfl ?_
  refine T_iconst C.1 dL_law_549 ?_
  refine T_iadd C.1 dL_law_550 ?_
  refine T_sld C.1 hX hsb hH dL_law_551 (fun j4 => ?_)
  refine T_callVI (rm := rm_X9_exact) [.int (xs j4)] [.int v2] C.1 dL_law_552 mw_X9_exact wm_6_134 wm_6_135 wm_6_136 ⟨Nat.le_of_ble_eq_true rfl, Nat.le_of_ble_eq_true rfl⟩ ⟨rfl, rfl⟩ ⟨by decide, by decide⟩ rfl rfl (Nat.le_of_ble_eq_true rfl) sh113 le113 ⟨rfl, rfl⟩ (c_X9_exact ll cx (xs j4) m3) (fun v5 m6 => ?_)
  refine T_icmp_eq (tgt := 1151) C.1 dL_law_555 (by decide) ?_ ?_
  · exact T_sub [0, 1, 2, 3] rfl (t_L_law_1151 hX hsb hH hbs C (hk_18) a1 m6)
  · refine T_iconst C.1 dL_law_558 ?_
    exact T_none
def F_L_arm16 (xs : Nat → Int32) (L : Nat) (k_18 : Int32 → Mm → Option (Unit × Mm)) (a1 : Int32) (m : Mm) : Option (Unit × Mm) :=
  rd L (a1 + (iI 1)) fun j1 =>
  bnd (F_X8_best (xs j1) m) fun v2 m3 =>
  rd L (a1 + (iI 1)) fun j4 =>
  bnd (F_X9_best (xs j4) m3) fun v5 m6 =>
  (if v2 = v5 then
    F_L_law_1151 (k_18) a1 m6
  else
    none)
set_option maxRecDepth 100000 in
set_option maxHeartbeats 4000000 in
theorem t_L_arm16 {pp : Program} {ll : Launch} {ee : Env} {ss : State} {mm : MethodId} {bb : List Frame} {me : Method} {co : Code} {cx : CX} {sb L : Nat} {xs : Nat → Int32} (hX : va_X sb L xs ss ss.heap) (hsb : sb ≤ cx.2.2.1) (hH : cx.2.2.2.1 = ss.heap) (hbs : ss.heap.size ≤ cx.2.2.1 + 1) (C : CM pp ss mm #[Value.ref sb] me co cL_law 4 RL cx (some .boolean)) {k_18 : Int32 → Mm → Option (Unit × Mm)} (hk_18 : ∀ (a1 : Int32) (m : Mm), TLw pp ll ee ss mm bb me co cx sb 18 [(0, .ref sb), (1, .ref (cx.2.2.1 + 1)), (2, .ref (cx.2.2.1 + 113)), (3, .int a1)] [] m (k_18 a1 m)) (a1 : Int32) (m : Mm) : TLw pp ll ee ss mm bb me co cx sb 560 [(0, .ref sb), (1, .ref (cx.2.2.1 + 1)), (2, .ref (cx.2.2.1 + 113)), (3, .int a1)] [] m (F_L_arm16 xs L k_18 a1 m) := by
  unfold F_L_arm16
  refine T_aload_n C.1 dL_law_560 1 rfl ?_
  refine T_aload_n C.1 dL_law_561 0 rfl ?_
  refine T_iload_n C.1 dL_law_562 3 rfl ?_
  refine T_iconst C.1 dL_law_563 ?_
  refine T_iadd C.1 dL_law_564 ?_
  refine T_sld C.1 hX hsb hH dL_law_565 (fun j1 => ?_)
  refine T_callVI (rm := rm_X8_best) [.int (xs j1)] [] C.1 dL_law_566 mw_X8_best wm_3_185 wm_3_186 wm_3_187 ⟨Nat.le_of_ble_eq_true rfl, Nat.le_of_ble_eq_true rfl⟩ ⟨rfl, rfl⟩ ⟨by decide, by decide⟩ rfl rfl (Nat.le_of_ble_eq_true rfl) sh1 le1 ⟨rfl, rfl⟩ (c_X8_best ll cx (xs j1) m) (fun v2 m3 => ?_)
  refine T_aload_n C.1 dL_law_569 2 rfl ?_
  refine T_aload_n C.1 dL_law_570 0 rfl ?_
  refine T_iload_n C.1 dL_law_571 3 rfl ?_
  refine T_iconst C.1 dL_law_572 ?_
  refine T_iadd C.1 dL_law_573 ?_
  refine T_sld C.1 hX hsb hH dL_law_574 (fun j4 => ?_)
  refine T_callVI (rm := rm_X9_best) [.int (xs j4)] [.int v2] C.1 dL_law_575 mw_X9_best wm_6_158 wm_6_159 wm_6_160 ⟨Nat.le_of_ble_eq_true rfl, Nat.le_of_ble_eq_true rfl⟩ ⟨rfl, rfl⟩ ⟨by decide, by decide⟩ rfl rfl (Nat.le_of_ble_eq_true rfl) sh113 le113 ⟨rfl, rfl⟩ (c_X9_best ll cx (xs j4) m3) (fun v5 m6 => ?_)
  refine T_icmp_eq (tgt := 1151) C.1 dL_law_578 (by decide) ?_ ?_
  · exact T_sub [0, 1, 2, 3] rfl (t_L_law_1151 hX hsb hH hbs C (hk_18) a1 m6)
  · refine T_iconst C.1 dL_law_581 ?_
    exact T_none
def F_L_arm17 (xs : Nat → Int32) (L : Nat) (k_18 : Int32 → Mm → Option (Unit × Mm)) (a1 : Int32) (m : Mm) : Option (Unit × Mm) :=
  bnd (F_X8_pairs m) fun v1 m2 =>
  bnd (F_X9_pairs m2) fun v3 m4 =>
  (if v1 = v3 then
    F_L_law_1151 (k_18) a1 m4
  else
    none)
set_option maxRecDepth 100000 in
set_option maxHeartbeats 4000000 in
theorem t_L_arm17 {pp : Program} {ll : Launch} {ee : Env} {ss : State} {mm : MethodId} {bb : List Frame} {me : Method} {co : Code} {cx : CX} {sb L : Nat} {xs : Nat → Int32} (hX : va_X sb L xs ss ss.heap) (hsb : sb ≤ cx.2.2.1) (hH : cx.2.2.2.1 = ss.heap) (hbs : ss.heap.size ≤ cx.2.2.1 + 1) (C : CM pp ss mm #[Value.ref sb] me co cL_law 4 RL cx (some .boolean)) {k_18 : Int32 → Mm → Option (Unit × Mm)} (hk_18 : ∀ (a1 : Int32) (m : Mm), TLw pp ll ee ss mm bb me co cx sb 18 [(0, .ref sb), (1, .ref (cx.2.2.1 + 1)), (2, .ref (cx.2.2.1 + 113)), (3, .int a1)] [] m (k_18 a1 m)) (a1 : Int32) (m : Mm) : TLw pp ll ee ss mm bb me co cx sb 583 [(0, .ref sb), (1, .ref (cx.2.2.1 + 1)), (2, .ref (cx.2.2.1 + 113)), (3, .int a1)] [] m (F_L_arm17 xs L k_18 a1 m) := by
  unfold F_L_arm17
  refine T_aload_n C.1 dL_law_583 1 rfl ?_
  refine T_callVI (rm := rm_X8_pairs) [] [] C.1 dL_law_584 mw_X8_pairs wm_3_212 wm_3_213 wm_3_214 ⟨Nat.le_of_ble_eq_true rfl, Nat.le_of_ble_eq_true rfl⟩ ⟨rfl, rfl⟩ ⟨by decide, by decide⟩ rfl rfl (Nat.le_of_ble_eq_true rfl) sh1 le1 ⟨rfl, rfl⟩ (c_X8_pairs ll cx m) (fun v1 m2 => ?_)
  refine T_aload_n C.1 dL_law_587 2 rfl ?_
  refine T_callVI (rm := rm_X9_pairs) [] [.int v1] C.1 dL_law_588 mw_X9_pairs wm_6_166 wm_6_167 wm_6_168 ⟨Nat.le_of_ble_eq_true rfl, Nat.le_of_ble_eq_true rfl⟩ ⟨rfl, rfl⟩ ⟨by decide, by decide⟩ rfl rfl (Nat.le_of_ble_eq_true rfl) sh113 le113 ⟨rfl, rfl⟩ (c_X9_pairs ll cx m2) (fun v3 m4 => ?_)
  refine T_icmp_eq (tgt := 1151) C.1 dL_law_591 (by decide) ?_ ?_
  · exact T_sub [0, 1, 2, 3] rfl (t_L_law_1151 hX hsb hH hbs C (hk_18) a1 m4)
  · refine T_iconst C.1 dL_law_594 ?_
    exact T_none
def F_L_arm18 (xs : Nat → Int32) (L : Nat) (k_18 : Int32 → Mm → Option (Unit × Mm)) (a1 : Int32) (m : Mm) : Option (Unit × Mm) :=
  rd L (a1 + (iI 1)) fun j1 =>
  bnd (F_X8_face (xs j1) m) fun v2 m3 =>
  rd L (a1 + (iI 1)) fun j4 =>
  bnd (F_X9_face (xs j4) m3) fun v5 m6 =>
  (if v2 = v5 then
    F_L_law_1151 (k_18) a1 m6
  else
    none)
set_option maxRecDepth 100000 in
set_option maxHeartbeats 4000000 in
theorem t_L_arm18 {pp : Program} {ll : Launch} {ee : Env} {ss : State} {mm : MethodId} {bb : List Frame} {me : Method} {co : Code} {cx : CX} {sb L : Nat} {xs : Nat → Int32} (hX : va_X sb L xs ss ss.heap) (hsb : sb ≤ cx.2.2.1) (hH : cx.2.2.2.1 = ss.heap) (hbs : ss.heap.size ≤ cx.2.2.1 + 1) (C : CM pp ss mm #[Value.ref sb] me co cL_law 4 RL cx (some .boolean)) {k_18 : Int32 → Mm → Option (Unit × Mm)} (hk_18 : ∀ (a1 : Int32) (m : Mm), TLw pp ll ee ss mm bb me co cx sb 18 [(0, .ref sb), (1, .ref (cx.2.2.1 + 1)), (2, .ref (cx.2.2.1 + 113)), (3, .int a1)] [] m (k_18 a1 m)) (a1 : Int32) (m : Mm) : TLw pp ll ee ss mm bb me co cx sb 596 [(0, .ref sb), (1, .ref (cx.2.2.1 + 1)), (2, .ref (cx.2.2.1 + 113)), (3, .int a1)] [] m (F_L_arm18 xs L k_18 a1 m) := by
  unfold F_L_arm18
  refine T_aload_n C.1 dL_law_596 1 rfl ?_
  refine T_aload_n C.1 dL_law_597 0 rfl ?_
  refine T_iload_n C.1 dL_law_598 3 rfl ?_
  refine T_iconst C.1 dL_law_599 ?_
  refine T_iadd C.1 dL_law_600 ?_
  refine T_sld C.1 hX hsb hH dL_law_601 (fun j1 => ?_)
  refine T_callVI (rm := rm_X8_face) [.int (xs j1)] [] C.1 dL_law_602 mw_X8_face wm_3_225 wm_3_226 wm_3_227 ⟨Nat.le_of_ble_eq_true rfl, Nat.le_of_ble_eq_true rfl⟩ ⟨rfl, rfl⟩ ⟨by decide, by decide⟩ rfl rfl (Nat.le_of_ble_eq_true rfl) sh1 le1 ⟨rfl, rfl⟩ (c_X8_face ll cx (xs j1) m) (fun v2 m3 => ?_)
  refine T_aload_n C.1 dL_law_605 2 rfl ?_
  refine T_aload_n C.1 dL_law_606 0 rfl ?_
  refine T_iload_n C.1 dL_law_607 3 rfl ?_
  refine T_iconst C.1 dL_law_608 ?_
  refine T_iadd C.1 dL_law_609 ?_
  refine T_sld C.1 hX hsb hH dL_law_610 (fun j4 => ?_)
  refine T_callVI (rm := rm_X9_face) [.int (xs j4)] [.int v2] C.1 dL_law_611 mw_X9_face wm_6_170 wm_6_171 wm_6_172 ⟨Nat.le_of_ble_eq_true rfl, Nat.le_of_ble_eq_true rfl⟩ ⟨rfl, rfl⟩ ⟨by decide, by decide⟩ rfl rfl (Nat.le_of_ble_eq_true rfl) sh113 le113 ⟨rfl, rfl⟩ (c_X9_face ll cx (xs j4) m3) (fun v5 m6 => ?_)
  refine T_icmp_eq (tgt := 1151) C.1 dL_law_614 (by decide) ?_ ?_
  · exact T_sub [0, 1, 2, 3] rfl (t_L_law_1151 hX hsb hH hbs C (hk_18) a1 m6)
  · refine T_iconst C.1 dL_law_617 ?_
    exact T_none
def F_L_arm19 (xs : Nat → Int32) (L : Nat) (k_18 : Int32 → Mm → Option (Unit × Mm)) (a1 : Int32) (m : Mm) : Option (Unit × Mm) :=
  rd L (a1 + (iI 1)) fun j1 =>
  rd L (a1 + (iI 2)) fun j2 =>
  rd L (a1 + (iI 3)) fun j3 =>
  bnd (F_X8_numbers (xs j1) (xs j2) (xs j3) m) fun v4 m5 =>
  rd L (a1 + (iI 1)) fun j6 =>
  rd L (a1 + (iI 2)) fun j7 =>
  rd L (a1 + (iI 3)) fun j8 =>
  bnd (F_X9_numbers (xs j6) (xs j7) (xs j8) m5) fun v9 m10 =>
  (if v4 = v9 then
    F_L_law_1151 (k_18) a1 m10
  else
    none)
set_option maxRecDepth 100000 in
set_option maxHeartbeats 4000000 in
theorem t_L_arm19 {pp : Program} {ll : Launch} {ee : Env} {ss : State} {mm : MethodId} {bb : List Frame} {me : Method} {co : Code} {cx : CX} {sb L : Nat} {xs : Nat → Int32} (hX : va_X sb L xs ss ss.heap) (hsb : sb ≤ cx.2.2.1) (hH : cx.2.2.2.1 = ss.heap) (hbs : ss.heap.size ≤ cx.2.2.1 + 1) (C : CM pp ss mm #[Value.ref sb] me co cL_law 4 RL cx (some .boolean)) {k_18 : Int32 → Mm → Option (Unit × Mm)} (hk_18 : ∀ (a1 : Int32) (m : Mm), TLw pp ll ee ss mm bb me co cx sb 18 [(0, .ref sb), (1, .ref (cx.2.2.1 + 1)), (2, .ref (cx.2.2.1 + 113)), (3, .int a1)] [] m (k_18 a1 m)) (a1 : Int32) (m : Mm) : TLw pp ll ee ss mm bb me co cx sb 619 [(0, .ref sb), (1, .ref (cx.2.2.1 + 1)), (2, .ref (cx.2.2.1 + 113)), (3, .int a1)] [] m (F_L_arm19 xs L k_18 a1 m) := by
  unfold F_L_arm19
  refine T_aload_n C.1 dL_law_619 1 rfl ?_
  refine T_aload_n C.1 dL_law_620 0 rfl ?_
  refine T_iload_n C.1 dL_law_621 3 rfl ?_
  refine T_iconst C.1 dL_law_622 ?_
  refine T_iadd C.1 dL_law_623 ?_
  refine T_sld C.1 hX hsb hH dL_law_624 (fun j1 => ?_)
  refine T_aload_n C.1 dL_law_625 0 rfl ?_
  refine T_iload_n C.1 dL_law_626 3 rfl ?_
  refine T_iconst C.1 dL_law_627 ?_
  refine T_iadd C.1 dL_law_628 ?_
  refine T_sld C.1 hX hsb hH dL_law_629 (fun j2 => ?_)
  refine T_aload_n C.1 dL_law_630 0 rfl ?_
  refine T_iload_n C.1 dL_law_631 3 rfl ?_
  refine T_iconst C.1 dL_law_632 ?_
  refine T_iadd C.1 dL_law_633 ?_
  refine T_sld C.1 hX hsb hH dL_law_634 (fun j3 => ?_)
  refine T_callVI (rm := rm_X8_numbers) [.int (xs j1), .int (xs j2), .int (xs j3)] [] C.1 dL_law_635 mw_X8_numbers wm_3_237 wm_3_238 wm_3_239 ⟨Nat.le_of_ble_eq_true rfl, Nat.le_of_ble_eq_true rfl⟩ ⟨rfl, rfl⟩ ⟨by decide, by decide⟩ rfl rfl (Nat.le_of_ble_eq_true rfl) sh1 le1 ⟨rfl, rfl⟩ (c_X8_numbers ll cx (xs j1) (xs j2) (xs j3) m) (fun v4 m5 => ?_)
  refine T_aload_n C.1 dL_law_638 2 rfl ?_
  refine T_aload_n C.1 dL_law_639 0 rfl ?_
  refine T_iload_n C.1 dL_law_640 3 rfl ?_
  refine T_iconst C.1 dL_law_641 ?_
  refine T_iadd C.1 dL_law_642 ?_
  refine T_sld C.1 hX hsb hH dL_law_643 (fun j6 => ?_)
  refine T_aload_n C.1 dL_law_644 0 rfl ?_
  refine T_iload_n C.1 dL_law_645 3 rfl ?_
  refine T_iconst C.1 dL_law_646 ?_
  refine T_iadd C.1 dL_law_647 ?_
  refine T_sld C.1 hX hsb hH dL_law_648 (fun j7 => ?_)
  refine T_aload_n C.1 dL_law_649 0 rfl ?_
  refine T_iload_n C.1 dL_law_650 3 rfl ?_
  refine T_iconst C.1 dL_law_651 ?_
  refine T_iadd C.1 dL_law_652 ?_
  refine T_sld C.1 hX hsb hH dL_law_653 (fun j8 => ?_)
  refine T_callVI (rm := rm_X9_numbers) [.int (xs j6), .int (xs j7), .int (xs j8)] [.int v4] C.1 dL_law_654 mw_X9_numbers wm_6_174 wm_6_175 wm_6_176 ⟨Nat.le_of_ble_eq_true rfl, Nat.le_of_ble_eq_true rfl⟩ ⟨rfl, rfl⟩ ⟨by decide, by decide⟩ rfl rfl (Nat.le_of_ble_eq_true rfl) sh113 le113 ⟨rfl, rfl⟩ (c_X9_numbers ll cx (xs j6) (xs j7) (xs j8) m5) (fun v9 m10 => ?_)
  refine T_icmp_eq (tgt := 1151) C.1 dL_law_657 (by decide) ?_ ?_
  · exact T_sub [0, 1, 2, 3] rfl (t_L_law_1151 hX hsb hH hbs C (hk_18) a1 m10)
  · refine T_iconst C.1 dL_law_660 ?_
    exact T_none
def F_L_arm20 (xs : Nat → Int32) (L : Nat) (k_18 : Int32 → Mm → Option (Unit × Mm)) (a1 : Int32) (m : Mm) : Option (Unit × Mm) :=
  rd L (a1 + (iI 1)) fun j1 =>
  bnd (F_X8_judge (xs j1) m) fun v2 m3 =>
  rd L (a1 + (iI 1)) fun j4 =>
  bnd (F_X9_judge (xs j4) m3) fun v5 m6 =>
  (if v2 = v5 then
    F_L_law_1151 (k_18) a1 m6
  else
    none)
set_option maxRecDepth 100000 in
set_option maxHeartbeats 4000000 in
theorem t_L_arm20 {pp : Program} {ll : Launch} {ee : Env} {ss : State} {mm : MethodId} {bb : List Frame} {me : Method} {co : Code} {cx : CX} {sb L : Nat} {xs : Nat → Int32} (hX : va_X sb L xs ss ss.heap) (hsb : sb ≤ cx.2.2.1) (hH : cx.2.2.2.1 = ss.heap) (hbs : ss.heap.size ≤ cx.2.2.1 + 1) (C : CM pp ss mm #[Value.ref sb] me co cL_law 4 RL cx (some .boolean)) {k_18 : Int32 → Mm → Option (Unit × Mm)} (hk_18 : ∀ (a1 : Int32) (m : Mm), TLw pp ll ee ss mm bb me co cx sb 18 [(0, .ref sb), (1, .ref (cx.2.2.1 + 1)), (2, .ref (cx.2.2.1 + 113)), (3, .int a1)] [] m (k_18 a1 m)) (a1 : Int32) (m : Mm) : TLw pp ll ee ss mm bb me co cx sb 662 [(0, .ref sb), (1, .ref (cx.2.2.1 + 1)), (2, .ref (cx.2.2.1 + 113)), (3, .int a1)] [] m (F_L_arm20 xs L k_18 a1 m) := by
  unfold F_L_arm20
  refine T_aload_n C.1 dL_law_662 1 rfl ?_
  refine T_aload_n C.1 dL_law_663 0 rfl ?_
  refine T_iload_n C.1 dL_law_664 3 rfl ?_
  refine T_iconst C.1 dL_law_665 ?_
  refine T_iadd C.1 dL_law_666 ?_
  refine T_sld C.1 hX hsb hH dL_law_667 (fun j1 => ?_)
  refine T_callVI (rm := rm_X8_judge) [.int (xs j1)] [] C.1 dL_law_668 mw_X8_judge wm_4_14 wm_4_15 wm_4_16 ⟨Nat.le_of_ble_eq_true rfl, Nat.le_of_ble_eq_true rfl⟩ ⟨rfl, rfl⟩ ⟨by decide, by decide⟩ rfl rfl (Nat.le_of_ble_eq_true rfl) sh1 le1 ⟨rfl, rfl⟩ (c_X8_judge ll cx (xs j1) m) (fun v2 m3 => ?_)
  refine T_aload_n C.1 dL_law_671 2 rfl ?_
  refine T_aload_n C.1 dL_law_672 0 rfl ?_
  refine T_iload_n C.1 dL_law_673 3 rfl ?_
  refine T_iconst C.1 dL_law_674 ?_
  refine T_iadd C.1 dL_law_675 ?_
  refine T_sld C.1 hX hsb hH dL_law_676 (fun j4 => ?_)
  refine T_callVI (rm := rm_X9_judge) [.int (xs j4)] [.int v2] C.1 dL_law_677 mw_X9_judge wm_6_187 wm_6_188 wm_6_189 ⟨Nat.le_of_ble_eq_true rfl, Nat.le_of_ble_eq_true rfl⟩ ⟨rfl, rfl⟩ ⟨by decide, by decide⟩ rfl rfl (Nat.le_of_ble_eq_true rfl) sh113 le113 ⟨rfl, rfl⟩ (c_X9_judge ll cx (xs j4) m3) (fun v5 m6 => ?_)
  refine T_icmp_eq (tgt := 1151) C.1 dL_law_680 (by decide) ?_ ?_
  · exact T_sub [0, 1, 2, 3] rfl (t_L_law_1151 hX hsb hH hbs C (hk_18) a1 m6)
  · refine T_iconst C.1 dL_law_683 ?_
    exact T_none
def F_L_arm21 (xs : Nat → Int32) (L : Nat) (k_18 : Int32 → Mm → Option (Unit × Mm)) (a1 : Int32) (m : Mm) : Option (Unit × Mm) :=
  rd L (a1 + (iI 1)) fun j1 =>
  bnd (F_X8_lots (xs j1) m) fun v2 m3 =>
  rd L (a1 + (iI 1)) fun j4 =>
  bnd (F_X9_lots (xs j4) m3) fun v5 m6 =>
  (if v2 = v5 then
    F_L_law_1151 (k_18) a1 m6
  else
    none)
set_option maxRecDepth 100000 in
set_option maxHeartbeats 4000000 in
theorem t_L_arm21 {pp : Program} {ll : Launch} {ee : Env} {ss : State} {mm : MethodId} {bb : List Frame} {me : Method} {co : Code} {cx : CX} {sb L : Nat} {xs : Nat → Int32} (hX : va_X sb L xs ss ss.heap) (hsb : sb ≤ cx.2.2.1) (hH : cx.2.2.2.1 = ss.heap) (hbs : ss.heap.size ≤ cx.2.2.1 + 1) (C : CM pp ss mm #[Value.ref sb] me co cL_law 4 RL cx (some .boolean)) {k_18 : Int32 → Mm → Option (Unit × Mm)} (hk_18 : ∀ (a1 : Int32) (m : Mm), TLw pp ll ee ss mm bb me co cx sb 18 [(0, .ref sb), (1, .ref (cx.2.2.1 + 1)), (2, .ref (cx.2.2.1 + 113)), (3, .int a1)] [] m (k_18 a1 m)) (a1 : Int32) (m : Mm) : TLw pp ll ee ss mm bb me co cx sb 685 [(0, .ref sb), (1, .ref (cx.2.2.1 + 1)), (2, .ref (cx.2.2.1 + 113)), (3, .int a1)] [] m (F_L_arm21 xs L k_18 a1 m) := by
  unfold F_L_arm21
  refine T_aload_n C.1 dL_law_685 1 rfl ?_
  refine T_aload_n C.1 dL_law_686 0 rfl ?_
  refine T_iload_n C.1 dL_law_687 3 rfl ?_
  refine T_iconst C.1 dL_law_688 ?_
  refine T_iadd C.1 dL_law_689 ?_
  refine T_sld C.1 hX hsb hH dL_law_690 (fun j1 => ?_)
  refine T_callVI (rm := rm_X8_lots) [.int (xs j1)] [] C.1 dL_law_691 mw_X8_lots wm_4_26 wm_4_27 wm_4_28 ⟨Nat.le_of_ble_eq_true rfl, Nat.le_of_ble_eq_true rfl⟩ ⟨rfl, rfl⟩ ⟨by decide, by decide⟩ rfl rfl (Nat.le_of_ble_eq_true rfl) sh1 le1 ⟨rfl, rfl⟩ (c_X8_lots ll cx (xs j1) m) (fun v2 m3 => ?_)
  refine T_aload_n C.1 dL_law_694 2 rfl ?_
  refine T_aload_n C.1 dL_law_695 0 rfl ?_
  refine T_iload_n C.1 dL_law_696 3 rfl ?_
  refine T_iconst C.1 dL_law_697 ?_
  refine T_iadd C.1 dL_law_698 ?_
  refine T_sld C.1 hX hsb hH dL_law_699 (fun j4 => ?_)
  refine T_callVI (rm := rm_X9_lots) [.int (xs j4)] [.int v2] C.1 dL_law_700 mw_X9_lots wm_6_199 wm_6_200 wm_6_201 ⟨Nat.le_of_ble_eq_true rfl, Nat.le_of_ble_eq_true rfl⟩ ⟨rfl, rfl⟩ ⟨by decide, by decide⟩ rfl rfl (Nat.le_of_ble_eq_true rfl) sh113 le113 ⟨rfl, rfl⟩ (c_X9_lots ll cx (xs j4) m3) (fun v5 m6 => ?_)
  refine T_icmp_eq (tgt := 1151) C.1 dL_law_703 (by decide) ?_ ?_
  · exact T_sub [0, 1, 2, 3] rfl (t_L_law_1151 hX hsb hH hbs C (hk_18) a1 m6)
  · refine T_iconst C.1 dL_law_706 ?_
    exact T_none
def F_L_arm22 (xs : Nat → Int32) (L : Nat) (k_18 : Int32 → Mm → Option (Unit × Mm)) (a1 : Int32) (m : Mm) : Option (Unit × Mm) :=
  bnd (F_X8_image m) fun v1 m2 =>
  bnd (F_X9_image m2) fun v3 m4 =>
  (if v1 = v3 then
    F_L_law_1151 (k_18) a1 m4
  else
    none)
set_option maxRecDepth 100000 in
set_option maxHeartbeats 4000000 in
theorem t_L_arm22 {pp : Program} {ll : Launch} {ee : Env} {ss : State} {mm : MethodId} {bb : List Frame} {me : Method} {co : Code} {cx : CX} {sb L : Nat} {xs : Nat → Int32} (hX : va_X sb L xs ss ss.heap) (hsb : sb ≤ cx.2.2.1) (hH : cx.2.2.2.1 = ss.heap) (hbs : ss.heap.size ≤ cx.2.2.1 + 1) (C : CM pp ss mm #[Value.ref sb] me co cL_law 4 RL cx (some .boolean)) {k_18 : Int32 → Mm → Option (Unit × Mm)} (hk_18 : ∀ (a1 : Int32) (m : Mm), TLw pp ll ee ss mm bb me co cx sb 18 [(0, .ref sb), (1, .ref (cx.2.2.1 + 1)), (2, .ref (cx.2.2.1 + 113)), (3, .int a1)] [] m (k_18 a1 m)) (a1 : Int32) (m : Mm) : TLw pp ll ee ss mm bb me co cx sb 708 [(0, .ref sb), (1, .ref (cx.2.2.1 + 1)), (2, .ref (cx.2.2.1 + 113)), (3, .int a1)] [] m (F_L_arm22 xs L k_18 a1 m) := by
  unfold F_L_arm22
  refine T_aload_n C.1 dL_law_708 1 rfl ?_
  refine T_callVI (rm := rm_X8_image) [] [] C.1 dL_law_709 mw_X8_image wm_4_40 wm_4_41 wm_4_42 ⟨Nat.le_of_ble_eq_true rfl, Nat.le_of_ble_eq_true rfl⟩ ⟨rfl, rfl⟩ ⟨by decide, by decide⟩ rfl rfl (Nat.le_of_ble_eq_true rfl) sh1 le1 ⟨rfl, rfl⟩ (c_X8_image ll cx m) (fun v1 m2 => ?_)
  refine T_aload_n C.1 dL_law_712 2 rfl ?_
  refine T_callVI (rm := rm_X9_image) [] [.int v1] C.1 dL_law_713 mw_X9_image wm_6_207 wm_6_208 wm_6_209 ⟨Nat.le_of_ble_eq_true rfl, Nat.le_of_ble_eq_true rfl⟩ ⟨rfl, rfl⟩ ⟨by decide, by decide⟩ rfl rfl (Nat.le_of_ble_eq_true rfl) sh113 le113 ⟨rfl, rfl⟩ (c_X9_image ll cx m2) (fun v3 m4 => ?_)
  refine T_icmp_eq (tgt := 1151) C.1 dL_law_716 (by decide) ?_ ?_
  · exact T_sub [0, 1, 2, 3] rfl (t_L_law_1151 hX hsb hH hbs C (hk_18) a1 m4)
  · refine T_iconst C.1 dL_law_719 ?_
    exact T_none
def F_L_arm23 (xs : Nat → Int32) (L : Nat) (k_18 : Int32 → Mm → Option (Unit × Mm)) (a1 : Int32) (m : Mm) : Option (Unit × Mm) :=
  bnd (F_X8_back m) fun v1 m2 =>
  bnd (F_X9_back m2) fun v3 m4 =>
  (if v1 = v3 then
    F_L_law_1151 (k_18) a1 m4
  else
    none)
set_option maxRecDepth 100000 in
set_option maxHeartbeats 4000000 in
theorem t_L_arm23 {pp : Program} {ll : Launch} {ee : Env} {ss : State} {mm : MethodId} {bb : List Frame} {me : Method} {co : Code} {cx : CX} {sb L : Nat} {xs : Nat → Int32} (hX : va_X sb L xs ss ss.heap) (hsb : sb ≤ cx.2.2.1) (hH : cx.2.2.2.1 = ss.heap) (hbs : ss.heap.size ≤ cx.2.2.1 + 1) (C : CM pp ss mm #[Value.ref sb] me co cL_law 4 RL cx (some .boolean)) {k_18 : Int32 → Mm → Option (Unit × Mm)} (hk_18 : ∀ (a1 : Int32) (m : Mm), TLw pp ll ee ss mm bb me co cx sb 18 [(0, .ref sb), (1, .ref (cx.2.2.1 + 1)), (2, .ref (cx.2.2.1 + 113)), (3, .int a1)] [] m (k_18 a1 m)) (a1 : Int32) (m : Mm) : TLw pp ll ee ss mm bb me co cx sb 721 [(0, .ref sb), (1, .ref (cx.2.2.1 + 1)), (2, .ref (cx.2.2.1 + 113)), (3, .int a1)] [] m (F_L_arm23 xs L k_18 a1 m) := by
  unfold F_L_arm23
  refine T_aload_n C.1 dL_law_721 1 rfl ?_
  refine T_callVI (rm := rm_X8_back) [] [] C.1 dL_law_722 mw_X8_back wm_4_45 wm_4_46 wm_4_47 ⟨Nat.le_of_ble_eq_true rfl, Nat.le_of_ble_eq_true rfl⟩ ⟨rfl, rfl⟩ ⟨by decide, by decide⟩ rfl rfl (Nat.le_of_ble_eq_true rfl) sh1 le1 ⟨rfl, rfl⟩ (c_X8_back ll cx m) (fun v1 m2 => ?_)
  refine T_aload_n C.1 dL_law_725 2 rfl ?_
  refine T_callVI (rm := rm_X9_back) [] [.int v1] C.1 dL_law_726 mw_X9_back wm_6_211 wm_6_212 wm_6_213 ⟨Nat.le_of_ble_eq_true rfl, Nat.le_of_ble_eq_true rfl⟩ ⟨rfl, rfl⟩ ⟨by decide, by decide⟩ rfl rfl (Nat.le_of_ble_eq_true rfl) sh113 le113 ⟨rfl, rfl⟩ (c_X9_back ll cx m2) (fun v3 m4 => ?_)
  refine T_icmp_eq (tgt := 1151) C.1 dL_law_729 (by decide) ?_ ?_
  · exact T_sub [0, 1, 2, 3] rfl (t_L_law_1151 hX hsb hH hbs C (hk_18) a1 m4)
  · refine T_iconst C.1 dL_law_732 ?_
    exact T_none
def F_L_arm24 (xs : Nat → Int32) (L : Nat) (k_18 : Int32 → Mm → Option (Unit × Mm)) (a1 : Int32) (m : Mm) : Option (Unit × Mm) :=
  bnd (F_X8_undo m) fun v1 m2 =>
  bnd (F_X9_undo m2) fun v3 m4 =>
  (if v1 = v3 then
    F_L_law_1151 (k_18) a1 m4
  else
    none)
set_option maxRecDepth 100000 in
set_option maxHeartbeats 4000000 in
theorem t_L_arm24 {pp : Program} {ll : Launch} {ee : Env} {ss : State} {mm : MethodId} {bb : List Frame} {me : Method} {co : Code} {cx : CX} {sb L : Nat} {xs : Nat → Int32} (hX : va_X sb L xs ss ss.heap) (hsb : sb ≤ cx.2.2.1) (hH : cx.2.2.2.1 = ss.heap) (hbs : ss.heap.size ≤ cx.2.2.1 + 1) (C : CM pp ss mm #[Value.ref sb] me co cL_law 4 RL cx (some .boolean)) {k_18 : Int32 → Mm → Option (Unit × Mm)} (hk_18 : ∀ (a1 : Int32) (m : Mm), TLw pp ll ee ss mm bb me co cx sb 18 [(0, .ref sb), (1, .ref (cx.2.2.1 + 1)), (2, .ref (cx.2.2.1 + 113)), (3, .int a1)] [] m (k_18 a1 m)) (a1 : Int32) (m : Mm) : TLw pp ll ee ss mm bb me co cx sb 734 [(0, .ref sb), (1, .ref (cx.2.2.1 + 1)), (2, .ref (cx.2.2.1 + 113)), (3, .int a1)] [] m (F_L_arm24 xs L k_18 a1 m) := by
  unfold F_L_arm24
  refine T_aload_n C.1 dL_law_734 1 rfl ?_
  refine T_callVI (rm := rm_X8_undo) [] [] C.1 dL_law_735 mw_X8_undo wm_4_49 wm_4_50 wm_4_51 ⟨Nat.le_of_ble_eq_true rfl, Nat.le_of_ble_eq_true rfl⟩ ⟨rfl, rfl⟩ ⟨by decide, by decide⟩ rfl rfl (Nat.le_of_ble_eq_true rfl) sh1 le1 ⟨rfl, rfl⟩ (c_X8_undo ll cx m) (fun v1 m2 => ?_)
  refine T_aload_n C.1 dL_law_738 2 rfl ?_
  refine T_callVI (rm := rm_X9_undo) [] [.int v1] C.1 dL_law_739 mw_X9_undo wm_5_163 wm_5_164 wm_5_165 ⟨Nat.le_of_ble_eq_true rfl, Nat.le_of_ble_eq_true rfl⟩ ⟨rfl, rfl⟩ ⟨by decide, by decide⟩ rfl rfl (Nat.le_of_ble_eq_true rfl) sh113 le113 ⟨rfl, rfl⟩ (c_X9_undo ll cx m2) (fun v3 m4 => ?_)
  refine T_icmp_eq (tgt := 1151) C.1 dL_law_742 (by decide) ?_ ?_
  · exact T_sub [0, 1, 2, 3] rfl (t_L_law_1151 hX hsb hH hbs C (hk_18) a1 m4)
  · refine T_iconst C.1 dL_law_745 ?_
    exact T_none
def F_L_arm25 (xs : Nat → Int32) (L : Nat) (k_18 : Int32 → Mm → Option (Unit × Mm)) (a1 : Int32) (m : Mm) : Option (Unit × Mm) :=
  bnd (F_X8_redo m) fun v1 m2 =>
  bnd (F_X9_redo m2) fun v3 m4 =>
  (if v1 = v3 then
    F_L_law_1151 (k_18) a1 m4
  else
    none)
set_option maxRecDepth 100000 in
set_option maxHeartbeats 4000000 in
theorem t_L_arm25 {pp : Program} {ll : Launch} {ee : Env} {ss : State} {mm : MethodId} {bb : List Frame} {me : Method} {co : Code} {cx : CX} {sb L : Nat} {xs : Nat → Int32} (hX : va_X sb L xs ss ss.heap) (hsb : sb ≤ cx.2.2.1) (hH : cx.2.2.2.1 = ss.heap) (hbs : ss.heap.size ≤ cx.2.2.1 + 1) (C : CM pp ss mm #[Value.ref sb] me co cL_law 4 RL cx (some .boolean)) {k_18 : Int32 → Mm → Option (Unit × Mm)} (hk_18 : ∀ (a1 : Int32) (m : Mm), TLw pp ll ee ss mm bb me co cx sb 18 [(0, .ref sb), (1, .ref (cx.2.2.1 + 1)), (2, .ref (cx.2.2.1 + 113)), (3, .int a1)] [] m (k_18 a1 m)) (a1 : Int32) (m : Mm) : TLw pp ll ee ss mm bb me co cx sb 747 [(0, .ref sb), (1, .ref (cx.2.2.1 + 1)), (2, .ref (cx.2.2.1 + 113)), (3, .int a1)] [] m (F_L_arm25 xs L k_18 a1 m) := by
  unfold F_L_arm25
  refine T_aload_n C.1 dL_law_747 1 rfl ?_
  refine T_callVI (rm := rm_X8_redo) [] [] C.1 dL_law_748 mw_X8_redo wm_4_58 wm_4_59 wm_4_60 ⟨Nat.le_of_ble_eq_true rfl, Nat.le_of_ble_eq_true rfl⟩ ⟨rfl, rfl⟩ ⟨by decide, by decide⟩ rfl rfl (Nat.le_of_ble_eq_true rfl) sh1 le1 ⟨rfl, rfl⟩ (c_X8_redo ll cx m) (fun v1 m2 => ?_)
  refine T_aload_n C.1 dL_law_751 2 rfl ?_
  refine T_callVI (rm := rm_X9_redo) [] [.int v1] C.1 dL_law_752 mw_X9_redo wm_5_171 wm_5_172 wm_5_173 ⟨Nat.le_of_ble_eq_true rfl, Nat.le_of_ble_eq_true rfl⟩ ⟨rfl, rfl⟩ ⟨by decide, by decide⟩ rfl rfl (Nat.le_of_ble_eq_true rfl) sh113 le113 ⟨rfl, rfl⟩ (c_X9_redo ll cx m2) (fun v3 m4 => ?_)
  refine T_icmp_eq (tgt := 1151) C.1 dL_law_755 (by decide) ?_ ?_
  · exact T_sub [0, 1, 2, 3] rfl (t_L_law_1151 hX hsb hH hbs C (hk_18) a1 m4)
  · refine T_iconst C.1 dL_law_758 ?_
    exact T_none
def F_L_arm26 (xs : Nat → Int32) (L : Nat) (k_18 : Int32 → Mm → Option (Unit × Mm)) (a1 : Int32) (m : Mm) : Option (Unit × Mm) :=
  rd L (a1 + (iI 1)) fun j1 =>
  bnd (F_X8_body (xs j1) m) fun v2 m3 =>
  rd L (a1 + (iI 1)) fun j4 =>
  bnd (F_X9_body (xs j4) m3) fun v5 m6 =>
  (if v2 = v5 then
    F_L_law_1151 (k_18) a1 m6
  else
    none)
set_option maxRecDepth 100000 in
set_option maxHeartbeats 4000000 in
theorem t_L_arm26 {pp : Program} {ll : Launch} {ee : Env} {ss : State} {mm : MethodId} {bb : List Frame} {me : Method} {co : Code} {cx : CX} {sb L : Nat} {xs : Nat → Int32} (hX : va_X sb L xs ss ss.heap) (hsb : sb ≤ cx.2.2.1) (hH : cx.2.2.2.1 = ss.heap) (hbs : ss.heap.size ≤ cx.2.2.1 + 1) (C : CM pp ss mm #[Value.ref sb] me co cL_law 4 RL cx (some .boolean)) {k_18 : Int32 → Mm → Option (Unit × Mm)} (hk_18 : ∀ (a1 : Int32) (m : Mm), TLw pp ll ee ss mm bb me co cx sb 18 [(0, .ref sb), (1, .ref (cx.2.2.1 + 1)), (2, .ref (cx.2.2.1 + 113)), (3, .int a1)] [] m (k_18 a1 m)) (a1 : Int32) (m : Mm) : TLw pp ll ee ss mm bb me co cx sb 760 [(0, .ref sb), (1, .ref (cx.2.2.1 + 1)), (2, .ref (cx.2.2.1 + 113)), (3, .int a1)] [] m (F_L_arm26 xs L k_18 a1 m) := by
  unfold F_L_arm26
  refine T_aload_n C.1 dL_law_760 1 rfl ?_
  refine T_aload_n C.1 dL_law_761 0 rfl ?_
  refine T_iload_n C.1 dL_law_762 3 rfl ?_
  refine T_iconst C.1 dL_law_763 ?_
  refine T_iadd C.1 dL_law_764 ?_
  refine T_sld C.1 hX hsb hH dL_law_765 (fun j1 => ?_)
  refine T_callVI (rm := rm_X8_body) [.int (xs j1)] [] C.1 dL_law_766 mw_X8_body wm_4_66 wm_4_67 wm_4_68 ⟨Nat.le_of_ble_eq_true rfl, Nat.le_of_ble_eq_true rfl⟩ ⟨rfl, rfl⟩ ⟨by decide, by decide⟩ rfl rfl (Nat.le_of_ble_eq_true rfl) sh1 le1 ⟨rfl, rfl⟩ (c_X8_body ll cx (xs j1) m) (fun v2 m3 => ?_)
  refine T_aload_n C.1 dL_law_769 2 rfl ?_
  refine T_aload_n C.1 dL_law_770 0 rfl ?_
  refine T_iload_n C.1 dL_law_771 3 rfl ?_
  refine T_iconst C.1 dL_law_772 ?_
  refine T_iadd C.1 dL_law_773 ?_
  refine T_sld C.1 hX hsb hH dL_law_774 (fun j4 => ?_)
  refine T_callVI (rm := rm_X9_body) [.int (xs j4)] [.int v2] C.1 dL_law_775 mw_X9_body wm_6_219 wm_6_220 wm_6_221 ⟨Nat.le_of_ble_eq_true rfl, Nat.le_of_ble_eq_true rfl⟩ ⟨rfl, rfl⟩ ⟨by decide, by decide⟩ rfl rfl (Nat.le_of_ble_eq_true rfl) sh113 le113 ⟨rfl, rfl⟩ (c_X9_body ll cx (xs j4) m3) (fun v5 m6 => ?_)
  refine T_icmp_eq (tgt := 1151) C.1 dL_law_778 (by decide) ?_ ?_
  · exact T_sub [0, 1, 2, 3] rfl (t_L_law_1151 hX hsb hH hbs C (hk_18) a1 m6)
  · refine T_iconst C.1 dL_law_781 ?_
    exact T_none
def F_L_arm27 (xs : Nat → Int32) (L : Nat) (k_18 : Int32 → Mm → Option (Unit × Mm)) (a1 : Int32) (m : Mm) : Option (Unit × Mm) :=
  rd L (a1 + (iI 1)) fun j1 =>
  rd L (a1 + (iI 2)) fun j2 =>
  rd L (a1 + (iI 3)) fun j3 =>
  bnd (F_X8_act (xs j1) (xs j2) (xs j3) m) fun v4 m5 =>
  rd L (a1 + (iI 1)) fun j6 =>
  rd L (a1 + (iI 2)) fun j7 =>
  rd L (a1 + (iI 3)) fun j8 =>
  bnd (F_X9_act (xs j6) (xs j7) (xs j8) m5) fun v9 m10 =>
  (if v4 = v9 then
    F_L_law_1151 (k_18) a1 m10
  else
    none)
set_option maxRecDepth 100000 in
set_option maxHeartbeats 4000000 in
theorem t_L_arm27 {pp : Program} {ll : Launch} {ee : Env} {ss : State} {mm : MethodId} {bb : List Frame} {me : Method} {co : Code} {cx : CX} {sb L : Nat} {xs : Nat → Int32} (hX : va_X sb L xs ss ss.heap) (hsb : sb ≤ cx.2.2.1) (hH : cx.2.2.2.1 = ss.heap) (hbs : ss.heap.size ≤ cx.2.2.1 + 1) (C : CM pp ss mm #[Value.ref sb] me co cL_law 4 RL cx (some .boolean)) {k_18 : Int32 → Mm → Option (Unit × Mm)} (hk_18 : ∀ (a1 : Int32) (m : Mm), TLw pp ll ee ss mm bb me co cx sb 18 [(0, .ref sb), (1, .ref (cx.2.2.1 + 1)), (2, .ref (cx.2.2.1 + 113)), (3, .int a1)] [] m (k_18 a1 m)) (a1 : Int32) (m : Mm) : TLw pp ll ee ss mm bb me co cx sb 783 [(0, .ref sb), (1, .ref (cx.2.2.1 + 1)), (2, .ref (cx.2.2.1 + 113)), (3, .int a1)] [] m (F_L_arm27 xs L k_18 a1 m) := by
  unfold F_L_arm27
  refine T_aload_n C.1 dL_law_783 1 rfl ?_
  refine T_aload_n C.1 dL_law_784 0 rfl ?_
  refine T_iload_n C.1 dL_law_785 3 rfl ?_
  refine T_iconst C.1 dL_law_786 ?_
  refine T_iadd C.1 dL_law_787 ?_
  refine T_sld C.1 hX hsb hH dL_law_788 (fun j1 => ?_)
  refine T_aload_n C.1 dL_law_789 0 rfl ?_
  refine T_iload_n C.1 dL_law_790 3 rfl ?_
  refine T_iconst C.1 dL_law_791 ?_
  refine T_iadd C.1 dL_law_792 ?_
  refine T_sld C.1 hX hsb hH dL_law_793 (fun j2 => ?_)
  refine T_aload_n C.1 dL_law_794 0 rfl ?_
  refine T_iload_n C.1 dL_law_795 3 rfl ?_
  refine T_iconst C.1 dL_law_796 ?_
  refine T_iadd C.1 dL_law_797 ?_
  refine T_sld C.1 hX hsb hH dL_law_798 (fun j3 => ?_)
  refine T_callVI (rm := rm_X8_act) [.int (xs j1), .int (xs j2), .int (xs j3)] [] C.1 dL_law_799 mw_X8_act wm_4_74 wm_4_75 wm_4_76 ⟨Nat.le_of_ble_eq_true rfl, Nat.le_of_ble_eq_true rfl⟩ ⟨rfl, rfl⟩ ⟨by decide, by decide⟩ rfl rfl (Nat.le_of_ble_eq_true rfl) sh1 le1 ⟨rfl, rfl⟩ (c_X8_act ll cx (xs j1) (xs j2) (xs j3) m) (fun v4 m5 => ?_)
  refine T_aload_n C.1 dL_law_802 2 rfl ?_
  refine T_aload_n C.1 dL_law_803 0 rfl ?_
  refine T_iload_n C.1 dL_law_804 3 rfl ?_
  refine T_iconst C.1 dL_law_805 ?_
  refine T_iadd C.1 dL_law_806 ?_
  refine T_sld C.1 hX hsb hH dL_law_807 (fun j6 => ?_)
  refine T_aload_n C.1 dL_law_808 0 rfl ?_
  refine T_iload_n C.1 dL_law_809 3 rfl ?_
  refine T_iconst C.1 dL_law_810 ?_
  refine T_iadd C.1 dL_law_811 ?_
  refine T_sld C.1 hX hsb hH dL_law_812 (fun j7 => ?_)
  refine T_aload_n C.1 dL_law_813 0 rfl ?_
  refine T_iload_n C.1 dL_law_814 3 rfl ?_
  refine T_iconst C.1 dL_law_815 ?_
  refine T_iadd C.1 dL_law_816 ?_
  refine T_sld C.1 hX hsb hH dL_law_817 (fun j8 => ?_)
  refine T_callVI (rm := rm_X9_act) [.int (xs j6), .int (xs j7), .int (xs j8)] [.int v4] C.1 dL_law_818 mw_X9_act wm_6_223 wm_6_224 wm_6_225 ⟨Nat.le_of_ble_eq_true rfl, Nat.le_of_ble_eq_true rfl⟩ ⟨rfl, rfl⟩ ⟨by decide, by decide⟩ rfl rfl (Nat.le_of_ble_eq_true rfl) sh113 le113 ⟨rfl, rfl⟩ (c_X9_act ll cx (xs j6) (xs j7) (xs j8) m5) (fun v9 m10 => ?_)
  refine T_icmp_eq (tgt := 1151) C.1 dL_law_821 (by decide) ?_ ?_
  · exact T_sub [0, 1, 2, 3] rfl (t_L_law_1151 hX hsb hH hbs C (hk_18) a1 m10)
  · refine T_iconst C.1 dL_law_824 ?_
    exact T_none
def F_L_arm28 (xs : Nat → Int32) (L : Nat) (k_18 : Int32 → Mm → Option (Unit × Mm)) (a1 : Int32) (m : Mm) : Option (Unit × Mm) :=
  rd L (a1 + (iI 1)) fun j1 =>
  bnd (F_X8_trace (xs j1) m) fun v2 m3 =>
  rd L (a1 + (iI 1)) fun j4 =>
  bnd (F_X9_trace (xs j4) m3) fun v5 m6 =>
  (if v2 = v5 then
    F_L_law_1151 (k_18) a1 m6
  else
    none)
set_option maxRecDepth 100000 in
set_option maxHeartbeats 4000000 in
theorem t_L_arm28 {pp : Program} {ll : Launch} {ee : Env} {ss : State} {mm : MethodId} {bb : List Frame} {me : Method} {co : Code} {cx : CX} {sb L : Nat} {xs : Nat → Int32} (hX : va_X sb L xs ss ss.heap) (hsb : sb ≤ cx.2.2.1) (hH : cx.2.2.2.1 = ss.heap) (hbs : ss.heap.size ≤ cx.2.2.1 + 1) (C : CM pp ss mm #[Value.ref sb] me co cL_law 4 RL cx (some .boolean)) {k_18 : Int32 → Mm → Option (Unit × Mm)} (hk_18 : ∀ (a1 : Int32) (m : Mm), TLw pp ll ee ss mm bb me co cx sb 18 [(0, .ref sb), (1, .ref (cx.2.2.1 + 1)), (2, .ref (cx.2.2.1 + 113)), (3, .int a1)] [] m (k_18 a1 m)) (a1 : Int32) (m : Mm) : TLw pp ll ee ss mm bb me co cx sb 826 [(0, .ref sb), (1, .ref (cx.2.2.1 + 1)), (2, .ref (cx.2.2.1 + 113)), (3, .int a1)] [] m (F_L_arm28 xs L k_18 a1 m) := by
  unfold F_L_arm28
  refine T_aload_n C.1 dL_law_826 1 rfl ?_
  refine T_aload_n C.1 dL_law_827 0 rfl ?_
  refine T_iload_n C.1 dL_law_828 3 rfl ?_
  refine T_iconst C.1 dL_law_829 ?_
  refine T_iadd C.1 dL_law_830 ?_
  refine T_sld C.1 hX hsb hH dL_law_831 (fun j1 => ?_)
  refine T_callVI (rm := rm_X8_trace) [.int (xs j1)] [] C.1 dL_law_832 mw_X8_trace wm_4_114 wm_4_115 wm_4_116 ⟨Nat.le_of_ble_eq_true rfl, Nat.le_of_ble_eq_true rfl⟩ ⟨rfl, rfl⟩ ⟨by decide, by decide⟩ rfl rfl (Nat.le_of_ble_eq_true rfl) sh1 le1 ⟨rfl, rfl⟩ (c_X8_trace ll cx (xs j1) m) (fun v2 m3 => ?_)
  refine T_aload_n C.1 dL_law_835 2 rfl ?_
  refine T_aload_n C.1 dL_law_836 0 rfl ?_
  refine T_iload_n C.1 dL_law_837 3 rfl ?_
  refine T_iconst C.1 dL_law_838 ?_
  refine T_iadd C.1 dL_law_839 ?_
  refine T_sld C.1 hX hsb hH dL_law_840 (fun j4 => ?_)
  refine T_callVI (rm := rm_X9_trace) [.int (xs j4)] [.int v2] C.1 dL_law_841 mw_X9_trace wm_6_215 wm_6_216 wm_6_217 ⟨Nat.le_of_ble_eq_true rfl, Nat.le_of_ble_eq_true rfl⟩ ⟨rfl, rfl⟩ ⟨by decide, by decide⟩ rfl rfl (Nat.le_of_ble_eq_true rfl) sh113 le113 ⟨rfl, rfl⟩ (c_X9_trace ll cx (xs j4) m3) (fun v5 m6 => ?_)
  refine T_icmp_eq (tgt := 1151) C.1 dL_law_844 (by decide) ?_ ?_
  · exact T_sub [0, 1, 2, 3] rfl (t_L_law_1151 hX hsb hH hbs C (hk_18) a1 m6)
  · refine T_iconst C.1 dL_law_847 ?_
    exact T_none
def F_L_arm29 (xs : Nat → Int32) (L : Nat) (k_18 : Int32 → Mm → Option (Unit × Mm)) (a1 : Int32) (m : Mm) : Option (Unit × Mm) :=
  rd L (a1 + (iI 1)) fun j1 =>
  rd L (a1 + (iI 2)) fun j2 =>
  bnd (F_X8_keep (xs j1) (xs j2) m) fun v3 m4 =>
  rd L (a1 + (iI 1)) fun j5 =>
  rd L (a1 + (iI 2)) fun j6 =>
  bnd (F_X9_keep (xs j5) (xs j6) m4) fun v7 m8 =>
  (if v3 = v7 then
    F_L_law_1151 (k_18) a1 m8
  else
    none)
set_option maxRecDepth 100000 in
set_option maxHeartbeats 4000000 in
theorem t_L_arm29 {pp : Program} {ll : Launch} {ee : Env} {ss : State} {mm : MethodId} {bb : List Frame} {me : Method} {co : Code} {cx : CX} {sb L : Nat} {xs : Nat → Int32} (hX : va_X sb L xs ss ss.heap) (hsb : sb ≤ cx.2.2.1) (hH : cx.2.2.2.1 = ss.heap) (hbs : ss.heap.size ≤ cx.2.2.1 + 1) (C : CM pp ss mm #[Value.ref sb] me co cL_law 4 RL cx (some .boolean)) {k_18 : Int32 → Mm → Option (Unit × Mm)} (hk_18 : ∀ (a1 : Int32) (m : Mm), TLw pp ll ee ss mm bb me co cx sb 18 [(0, .ref sb), (1, .ref (cx.2.2.1 + 1)), (2, .ref (cx.2.2.1 + 113)), (3, .int a1)] [] m (k_18 a1 m)) (a1 : Int32) (m : Mm) : TLw pp ll ee ss mm bb me co cx sb 849 [(0, .ref sb), (1, .ref (cx.2.2.1 + 1)), (2, .ref (cx.2.2.1 + 113)), (3, .int a1)] [] m (F_L_arm29 xs L k_18 a1 m) := by
  unfold F_L_arm29
  refine T_aload_n C.1 dL_law_849 1 rfl ?_
  refine T_aload_n C.1 dL_law_850 0 rfl ?_
  refine T_iload_n C.1 dL_law_851 3 rfl ?_
  refine T_iconst C.1 dL_law_852 ?_
  refine T_iadd C.1 dL_law_853 ?_
  refine T_sld C.1 hX hsb hH dL_law_854 (fun j1 => ?_)
  refine T_aload_n C.1 dL_law_855 0 rfl ?_
  refine T_iload_n C.1 dL_law_856 3 rfl ?_
  refine T_iconst C.1 dL_law_857 ?_
  refine T_iadd C.1 dL_law_858 ?_
  refine T_sld C.1 hX hsb hH dL_law_859 (fun j2 => ?_)
  refine T_callVI (rm := rm_X8_keep) [.int (xs j1), .int (xs j2)] [] C.1 dL_law_860 mw_X8_keep wm_4_122 wm_4_123 wm_4_124 ⟨Nat.le_of_ble_eq_true rfl, Nat.le_of_ble_eq_true rfl⟩ ⟨rfl, rfl⟩ ⟨by decide, by decide⟩ rfl rfl (Nat.le_of_ble_eq_true rfl) sh1 le1 ⟨rfl, rfl⟩ (c_X8_keep ll cx (xs j1) (xs j2) m) (fun v3 m4 => ?_)
  refine T_aload_n C.1 dL_law_863 2 rfl ?_
  refine T_aload_n C.1 dL_law_864 0 rfl ?_
  refine T_iload_n C.1 dL_law_865 3 rfl ?_
  refine T_iconst C.1 dL_law_866 ?_
  refine T_iadd C.1 dL_law_867 ?_
  refine T_sld C.1 hX hsb hH dL_law_868 (fun j5 => ?_)
  refine T_aload_n C.1 dL_law_869 0 rfl ?_
  refine T_iload_n C.1 dL_law_870 3 rfl ?_
  refine T_iconst C.1 dL_law_871 ?_
  refine T_iadd C.1 dL_law_872 ?_
  refine T_sld C.1 hX hsb hH dL_law_873 (fun j6 => ?_)
  refine T_callVI (rm := rm_X9_keep) [.int (xs j5), .int (xs j6)] [.int v3] C.1 dL_law_874 mw_X9_keep wm_7_50 wm_7_51 wm_7_52 ⟨Nat.le_of_ble_eq_true rfl, Nat.le_of_ble_eq_true rfl⟩ ⟨rfl, rfl⟩ ⟨by decide, by decide⟩ rfl rfl (Nat.le_of_ble_eq_true rfl) sh113 le113 ⟨rfl, rfl⟩ (c_X9_keep ll cx (xs j5) (xs j6) m4) (fun v7 m8 => ?_)
  refine T_icmp_eq (tgt := 1151) C.1 dL_law_877 (by decide) ?_ ?_
  · exact T_sub [0, 1, 2, 3] rfl (t_L_law_1151 hX hsb hH hbs C (hk_18) a1 m8)
  · refine T_iconst C.1 dL_law_880 ?_
    exact T_none
def F_L_arm30 (xs : Nat → Int32) (L : Nat) (k_18 : Int32 → Mm → Option (Unit × Mm)) (a1 : Int32) (m : Mm) : Option (Unit × Mm) :=
  rd L (a1 + (iI 1)) fun j1 =>
  rd L (a1 + (iI 2)) fun j2 =>
  rd L (a1 + (iI 3)) fun j3 =>
  bnd (F_X8_row (xs j1) (xs j2) (xs j3) m) fun v4 m5 =>
  rd L (a1 + (iI 1)) fun j6 =>
  rd L (a1 + (iI 2)) fun j7 =>
  rd L (a1 + (iI 3)) fun j8 =>
  bnd (F_X9_row (xs j6) (xs j7) (xs j8) m5) fun v9 m10 =>
  (if v4 = v9 then
    F_L_law_1151 (k_18) a1 m10
  else
    none)
set_option maxRecDepth 100000 in
set_option maxHeartbeats 4000000 in
theorem t_L_arm30 {pp : Program} {ll : Launch} {ee : Env} {ss : State} {mm : MethodId} {bb : List Frame} {me : Method} {co : Code} {cx : CX} {sb L : Nat} {xs : Nat → Int32} (hX : va_X sb L xs ss ss.heap) (hsb : sb ≤ cx.2.2.1) (hH : cx.2.2.2.1 = ss.heap) (hbs : ss.heap.size ≤ cx.2.2.1 + 1) (C : CM pp ss mm #[Value.ref sb] me co cL_law 4 RL cx (some .boolean)) {k_18 : Int32 → Mm → Option (Unit × Mm)} (hk_18 : ∀ (a1 : Int32) (m : Mm), TLw pp ll ee ss mm bb me co cx sb 18 [(0, .ref sb), (1, .ref (cx.2.2.1 + 1)), (2, .ref (cx.2.2.1 + 113)), (3, .int a1)] [] m (k_18 a1 m)) (a1 : Int32) (m : Mm) : TLw pp ll ee ss mm bb me co cx sb 882 [(0, .ref sb), (1, .ref (cx.2.2.1 + 1)), (2, .ref (cx.2.2.1 + 113)), (3, .int a1)] [] m (F_L_arm30 xs L k_18 a1 m) := by
  unfold F_L_arm30
  refine T_aload_n C.1 dL_law_882 1 rfl ?_
  refine T_aload_n C.1 dL_law_883 0 rfl ?_
  refine T_iload_n C.1 dL_law_884 3 rfl ?_
  refine T_iconst C.1 dL_law_885 ?_
  refine T_iadd C.1 dL_law_886 ?_
  refine T_sld C.1 hX hsb hH dL_law_887 (fun j1 => ?_)
  refine T_aload_n C.1 dL_law_888 0 rfl ?_
  refine T_iload_n C.1 dL_law_889 3 rfl ?_
  refine T_iconst C.1 dL_law_890 ?_
  refine T_iadd C.1 dL_law_891 ?_
  refine T_sld C.1 hX hsb hH dL_law_892 (fun j2 => ?_)
  refine T_aload_n C.1 dL_law_893 0 rfl ?_
  refine T_iload_n C.1 dL_law_894 3 rfl ?_
  refine T_iconst C.1 dL_law_895 ?_
  refine T_iadd C.1 dL_law_896 ?_
  refine T_sld C.1 hX hsb hH dL_law_897 (fun j3 => ?_)
  refine T_callVI (rm := rm_X8_row) [.int (xs j1), .int (xs j2), .int (xs j3)] [] C.1 dL_law_898 mw_X8_row wm_4_131 wm_4_132 wm_4_133 ⟨Nat.le_of_ble_eq_true rfl, Nat.le_of_ble_eq_true rfl⟩ ⟨rfl, rfl⟩ ⟨by decide, by decide⟩ rfl rfl (Nat.le_of_ble_eq_true rfl) sh1 le1 ⟨rfl, rfl⟩ (c_X8_row ll cx (xs j1) (xs j2) (xs j3) m) (fun v4 m5 => ?_)
  refine T_aload_n C.1 dL_law_901 2 rfl ?_
  refine T_aload_n C.1 dL_law_902 0 rfl ?_
  refine T_iload_n C.1 dL_law_903 3 rfl ?_
  refine T_iconst C.1 dL_law_904 ?_
  refine T_iadd C.1 dL_law_905 ?_
  refine T_sld C.1 hX hsb hH dL_law_906 (fun j6 => ?_)
  refine T_aload_n C.1 dL_law_907 0 rfl ?_
  refine T_iload_n C.1 dL_law_908 3 rfl ?_
  refine T_iconst C.1 dL_law_909 ?_
  refine T_iadd C.1 dL_law_910 ?_
  refine T_sld C.1 hX hsb hH dL_law_911 (fun j7 => ?_)
  refine T_aload_n C.1 dL_law_912 0 rfl ?_
  refine T_iload_n C.1 dL_law_913 3 rfl ?_
  refine T_iconst C.1 dL_law_914 ?_
  refine T_iadd C.1 dL_law_915 ?_
  refine T_sld C.1 hX hsb hH dL_law_916 (fun j8 => ?_)
  refine T_callVI (rm := rm_X9_row) [.int (xs j6), .int (xs j7), .int (xs j8)] [.int v4] C.1 dL_law_917 mw_X9_row wm_7_54 wm_7_55 wm_7_56 ⟨Nat.le_of_ble_eq_true rfl, Nat.le_of_ble_eq_true rfl⟩ ⟨rfl, rfl⟩ ⟨by decide, by decide⟩ rfl rfl (Nat.le_of_ble_eq_true rfl) sh113 le113 ⟨rfl, rfl⟩ (c_X9_row ll cx (xs j6) (xs j7) (xs j8) m5) (fun v9 m10 => ?_)
  refine T_icmp_eq (tgt := 1151) C.1 dL_law_920 (by decide) ?_ ?_
  · exact T_sub [0, 1, 2, 3] rfl (t_L_law_1151 hX hsb hH hbs C (hk_18) a1 m10)
  · refine T_iconst C.1 dL_law_923 ?_
    exact T_none
def F_L_arm31 (xs : Nat → Int32) (L : Nat) (k_18 : Int32 → Mm → Option (Unit × Mm)) (a1 : Int32) (m : Mm) : Option (Unit × Mm) :=
  rd L (a1 + (iI 1)) fun j1 =>
  rd L (a1 + (iI 2)) fun j2 =>
  rd L (a1 + (iI 3)) fun j3 =>
  rd L (a1 + (iI 4)) fun j4 =>
  bnd (F_X8_put (xs j1) (xs j2) ((((xs j3).toInt64) <<< ((iI 32).toInt64 &&& 63)) ||| (((xs j4).toInt64) &&& (iL (4294967295)))) m) fun v5 m6 =>
  rd L (a1 + (iI 1)) fun j7 =>
  rd L (a1 + (iI 2)) fun j8 =>
  rd L (a1 + (iI 3)) fun j9 =>
  rd L (a1 + (iI 4)) fun j10 =>
  bnd (F_X9_put (xs j7) (xs j8) ((((xs j9).toInt64) <<< ((iI 32).toInt64 &&& 63)) ||| (((xs j10).toInt64) &&& (iL (4294967295)))) m6) fun v11 m12 =>
  (if v5 = v11 then
    F_L_law_1151 (k_18) a1 m12
  else
    none)
set_option maxRecDepth 100000 in
set_option maxHeartbeats 4000000 in
theorem t_L_arm31 {pp : Program} {ll : Launch} {ee : Env} {ss : State} {mm : MethodId} {bb : List Frame} {me : Method} {co : Code} {cx : CX} {sb L : Nat} {xs : Nat → Int32} (hX : va_X sb L xs ss ss.heap) (hsb : sb ≤ cx.2.2.1) (hH : cx.2.2.2.1 = ss.heap) (hbs : ss.heap.size ≤ cx.2.2.1 + 1) (C : CM pp ss mm #[Value.ref sb] me co cL_law 4 RL cx (some .boolean)) {k_18 : Int32 → Mm → Option (Unit × Mm)} (hk_18 : ∀ (a1 : Int32) (m : Mm), TLw pp ll ee ss mm bb me co cx sb 18 [(0, .ref sb), (1, .ref (cx.2.2.1 + 1)), (2, .ref (cx.2.2.1 + 113)), (3, .int a1)] [] m (k_18 a1 m)) (a1 : Int32) (m : Mm) : TLw pp ll ee ss mm bb me co cx sb 925 [(0, .ref sb), (1, .ref (cx.2.2.1 + 1)), (2, .ref (cx.2.2.1 + 113)), (3, .int a1)] [] m (F_L_arm31 xs L k_18 a1 m) := by
  unfold F_L_arm31
  refine T_aload_n C.1 dL_law_925 1 rfl ?_
  refine T_aload_n C.1 dL_law_926 0 rfl ?_
  refine T_iload_n C.1 dL_law_927 3 rfl ?_
  refine T_iconst C.1 dL_law_928 ?_
  refine T_iadd C.1 dL_law_929 ?_
  refine T_sld C.1 hX hsb hH dL_law_930 (fun j1 => ?_)
  refine T_aload_n C.1 dL_law_931 0 rfl ?_
  refine T_iload_n C.1 dL_law_932 3 rfl ?_
  refine T_iconst C.1 dL_law_933 ?_
  refine T_iadd C.1 dL_law_934 ?_
  refine T_sld C.1 hX hsb hH dL_law_935 (fun j2 => ?_)
  refine T_aload_n C.1 dL_law_936 0 rfl ?_
  refine T_iload_n C.1 dL_law_937 3 rfl ?_
  refine T_iconst C.1 dL_law_938 ?_
  refine T_iadd C.1 dL_law_939 ?_
  refine T_sld C.1 hX hsb hH dL_law_940 (fun j3 => ?_)
  refine T_i2l C.1 dL_law_941 ?_
  refine T_bipush C.1 dL_law_942 rfl ?_
  refine T_lshl C.1 dL_law_944 ?_
  refine T_aload_n C.1 dL_law_945 0 rfl ?_
  refine T_iload_n C.1 dL_law_946 3 rfl ?_
  refine T_iconst C.1 dL_law_947 ?_
  refine T_iadd C.1 dL_law_948 ?_
  refine T_sld C.1 hX hsb hH dL_law_949 (fun j4 => ?_)
  refine T_i2l C.1 dL_law_950 ?_
  refine T_ldc2 C.1 dL_law_951 wc_L_141 ?_
  refine T_land C.1 dL_law_954 ?_
  refine T_lor C.1 dL_law_955 ?_
  refine T_callVI (rm := rm_X8_put) [.int (xs j1), .int (xs j2), .long ((((xs j3).toInt64) <<< ((iI 32).toInt64 &&& 63)) ||| (((xs j4).toInt64) &&& (iL (4294967295))))] [] C.1 dL_law_956 mw_X8_put wm_4_142 wm_4_143 wm_4_144 ⟨Nat.le_of_ble_eq_true rfl, Nat.le_of_ble_eq_true rfl⟩ ⟨rfl, rfl⟩ ⟨by decide, by decide⟩ rfl rfl (Nat.le_of_ble_eq_true rfl) sh1 le1 ⟨rfl, rfl⟩ (c_X8_put ll cx (xs j1) (xs j2) ((((xs j3).toInt64) <<< ((iI 32).toInt64 &&& 63)) ||| (((xs j4).toInt64) &&& (iL (4294967295)))) m) (fun v5 m6 => ?_)
  refine T_aload_n C.1 dL_law_959 2 rfl ?_
  refine T_aload_n C.1 dL_law_960 0 rfl ?_
  refine T_iload_n C.1 dL_law_961 3 rfl ?_
  refine T_iconst C.1 dL_law_962 ?_
  refine T_iadd C.1 dL_law_963 ?_
  refine T_sld C.1 hX hsb hH dL_law_964 (fun j7 => ?_)
  refine T_aload_n C.1 dL_law_965 0 rfl ?_
  refine T_iload_n C.1 dL_law_966 3 rfl ?_
  refine T_iconst C.1 dL_law_967 ?_
  refine T_iadd C.1 dL_law_968 ?_
  refine T_sld C.1 hX hsb hH dL_law_969 (fun j8 => ?_)
  refine T_aload_n C.1 dL_law_970 0 rfl ?_
  refine T_iload_n C.1 dL_law_971 3 rfl ?_
  refine T_iconst C.1 dL_law_972 ?_
  refine T_iadd C.1 dL_law_973 ?_
  refine T_sld C.1 hX hsb hH dL_law_974 (fun j9 => ?_)
  refine T_i2l C.1 dL_law_975 ?_
  refine T_bipush C.1 dL_law_976 rfl ?_
  refine T_lshl C.1 dL_law_978 ?_
  refine T_aload_n C.1 dL_law_979 0 rfl ?_
  refine T_iload_n C.1 dL_law_980 3 rfl ?_
  refine T_iconst C.1 dL_law_981 ?_
  refine T_iadd C.1 dL_law_982 ?_
  refine T_sld C.1 hX hsb hH dL_law_983 (fun j10 => ?_)
  refine T_i2l C.1 dL_law_984 ?_
  refine T_ldc2 C.1 dL_law_985 wc_L_141 ?_
  refine T_land C.1 dL_law_988 ?_
  refine T_lor C.1 dL_law_989 ?_
  refine T_callVI (rm := rm_X9_put) [.int (xs j7), .int (xs j8), .long ((((xs j9).toInt64) <<< ((iI 32).toInt64 &&& 63)) ||| (((xs j10).toInt64) &&& (iL (4294967295))))] [.int v5] C.1 dL_law_990 mw_X9_put wm_7_58 wm_7_59 wm_7_60 ⟨Nat.le_of_ble_eq_true rfl, Nat.le_of_ble_eq_true rfl⟩ ⟨rfl, rfl⟩ ⟨by decide, by decide⟩ rfl rfl (Nat.le_of_ble_eq_true rfl) sh113 le113 ⟨rfl, rfl⟩ (c_X9_put ll cx (xs j7) (xs j8) ((((xs j9).toInt64) <<< ((iI 32).toInt64 &&& 63)) ||| (((xs j10).toInt64) &&& (iL (4294967295)))) m6) (fun v11 m12 => ?_)
  refine T_icmp_eq (tgt := 1151) C.1 dL_law_993 (by decide) ?_ ?_
  · exact T_sub [0, 1, 2, 3] rfl (t_L_law_1151 hX hsb hH hbs C (hk_18) a1 m12)
  · refine T_iconst C.1 dL_law_996 ?_
    exact T_none
def F_L_arm32 (xs : Nat → Int32) (L : Nat) (k_18 : Int32 → Mm → Option (Unit × Mm)) (a1 : Int32) (m : Mm) : Option (Unit × Mm) :=
  rd L (a1 + (iI 1)) fun j1 =>
  rd L (a1 + (iI 2)) fun j2 =>
  bnd (F_X8_element (xs j1) (xs j2) m) fun w3 m4 =>
  rd L (a1 + (iI 1)) fun j5 =>
  rd L (a1 + (iI 2)) fun j6 =>
  bnd (F_X9_element (xs j5) (xs j6) m4) fun w7 m8 =>
  (if (lg_cmp w3 w7) = iI 0 then
    F_L_law_1151 (k_18) a1 m8
  else
    none)
set_option maxRecDepth 100000 in
set_option maxHeartbeats 4000000 in
theorem t_L_arm32 {pp : Program} {ll : Launch} {ee : Env} {ss : State} {mm : MethodId} {bb : List Frame} {me : Method} {co : Code} {cx : CX} {sb L : Nat} {xs : Nat → Int32} (hX : va_X sb L xs ss ss.heap) (hsb : sb ≤ cx.2.2.1) (hH : cx.2.2.2.1 = ss.heap) (hbs : ss.heap.size ≤ cx.2.2.1 + 1) (C : CM pp ss mm #[Value.ref sb] me co cL_law 4 RL cx (some .boolean)) {k_18 : Int32 → Mm → Option (Unit × Mm)} (hk_18 : ∀ (a1 : Int32) (m : Mm), TLw pp ll ee ss mm bb me co cx sb 18 [(0, .ref sb), (1, .ref (cx.2.2.1 + 1)), (2, .ref (cx.2.2.1 + 113)), (3, .int a1)] [] m (k_18 a1 m)) (a1 : Int32) (m : Mm) : TLw pp ll ee ss mm bb me co cx sb 998 [(0, .ref sb), (1, .ref (cx.2.2.1 + 1)), (2, .ref (cx.2.2.1 + 113)), (3, .int a1)] [] m (F_L_arm32 xs L k_18 a1 m) := by
  unfold F_L_arm32
  refine T_aload_n C.1 dL_law_998 1 rfl ?_
  refine T_aload_n C.1 dL_law_999 0 rfl ?_
  refine T_iload_n C.1 dL_law_1000 3 rfl ?_
  refine T_iconst C.1 dL_law_1001 ?_
  refine T_iadd C.1 dL_law_1002 ?_
  refine T_sld C.1 hX hsb hH dL_law_1003 (fun j1 => ?_)
  refine T_aload_n C.1 dL_law_1004 0 rfl ?_
  refine T_iload_n C.1 dL_law_1005 3 rfl ?_
  refine T_iconst C.1 dL_law_1006 ?_
  refine T_iadd C.1 dL_law_1007 ?_
  refine T_sld C.1 hX hsb hH dL_law_1008 (fun j2 => ?_)
  refine T_callVL (rm := rm_X8_element) [.int (xs j1), .int (xs j2)] [] C.1 dL_law_1009 mw_X8_element wm_4_149 wm_4_150 wm_4_151 ⟨Nat.le_of_ble_eq_true rfl, Nat.le_of_ble_eq_true rfl⟩ ⟨rfl, rfl⟩ ⟨by decide, by decide⟩ rfl rfl (Nat.le_of_ble_eq_true rfl) sh1 le1 ⟨rfl, rfl⟩ (c_X8_element ll cx (xs j1) (xs j2) m) (fun w3 m4 => ?_)
  refine T_aload_n C.1 dL_law_1012 2 rfl ?_
  refine T_aload_n C.1 dL_law_1013 0 rfl ?_
  refine T_iload_n C.1 dL_law_1014 3 rfl ?_
  refine T_iconst C.1 dL_law_1015 ?_
  refine T_iadd C.1 dL_law_1016 ?_
  refine T_sld C.1 hX hsb hH dL_law_1017 (fun j5 => ?_)
  refine T_aload_n C.1 dL_law_1018 0 rfl ?_
  refine T_iload_n C.1 dL_law_1019 3 rfl ?_
  refine T_iconst C.1 dL_law_1020 ?_
  refine T_iadd C.1 dL_law_1021 ?_
  refine T_sld C.1 hX hsb hH dL_law_1022 (fun j6 => ?_)
  refine T_callVL (rm := rm_X9_element) [.int (xs j5), .int (xs j6)] [.long w3] C.1 dL_law_1023 mw_X9_element wm_7_66 wm_7_67 wm_7_68 ⟨Nat.le_of_ble_eq_true rfl, Nat.le_of_ble_eq_true rfl⟩ ⟨rfl, rfl⟩ ⟨by decide, by decide⟩ rfl rfl (Nat.le_of_ble_eq_true rfl) sh113 le113 ⟨rfl, rfl⟩ (c_X9_element ll cx (xs j5) (xs j6) m4) (fun w7 m8 => ?_)
  refine T_lcmp C.1 dL_law_1026 ?_
  refine T_if_eq (tgt := 1151) C.1 dL_law_1027 (by decide) ?_ ?_
  · exact T_sub [0, 1, 2, 3] rfl (t_L_law_1151 hX hsb hH hbs C (hk_18) a1 m8)
  · refine T_iconst C.1 dL_law_1030 ?_
    exact T_none
def F_L_arm33 (xs : Nat → Int32) (L : Nat) (k_18 : Int32 → Mm → Option (Unit × Mm)) (a1 : Int32) (m : Mm) : Option (Unit × Mm) :=
  rd L (a1 + (iI 1)) fun j1 =>
  rd L (a1 + (iI 2)) fun j2 =>
  rd L (a1 + (iI 3)) fun j3 =>
  rd L (a1 + (iI 4)) fun j4 =>
  rd L (a1 + (iI 5)) fun j5 =>
  bnd (F_X8_shift (xs j1) (xs j2) (xs j3) (xs j4) (xs j5) m) fun v6 m7 =>
  rd L (a1 + (iI 1)) fun j8 =>
  rd L (a1 + (iI 2)) fun j9 =>
  rd L (a1 + (iI 3)) fun j10 =>
  rd L (a1 + (iI 4)) fun j11 =>
  rd L (a1 + (iI 5)) fun j12 =>
  bnd (F_X9_shift (xs j8) (xs j9) (xs j10) (xs j11) (xs j12) m7) fun v13 m14 =>
  (if v6 = v13 then
    F_L_law_1151 (k_18) a1 m14
  else
    none)
set_option maxRecDepth 100000 in
set_option maxHeartbeats 4000000 in
theorem t_L_arm33 {pp : Program} {ll : Launch} {ee : Env} {ss : State} {mm : MethodId} {bb : List Frame} {me : Method} {co : Code} {cx : CX} {sb L : Nat} {xs : Nat → Int32} (hX : va_X sb L xs ss ss.heap) (hsb : sb ≤ cx.2.2.1) (hH : cx.2.2.2.1 = ss.heap) (hbs : ss.heap.size ≤ cx.2.2.1 + 1) (C : CM pp ss mm #[Value.ref sb] me co cL_law 4 RL cx (some .boolean)) {k_18 : Int32 → Mm → Option (Unit × Mm)} (hk_18 : ∀ (a1 : Int32) (m : Mm), TLw pp ll ee ss mm bb me co cx sb 18 [(0, .ref sb), (1, .ref (cx.2.2.1 + 1)), (2, .ref (cx.2.2.1 + 113)), (3, .int a1)] [] m (k_18 a1 m)) (a1 : Int32) (m : Mm) : TLw pp ll ee ss mm bb me co cx sb 1032 [(0, .ref sb), (1, .ref (cx.2.2.1 + 1)), (2, .ref (cx.2.2.1 + 113)), (3, .int a1)] [] m (F_L_arm33 xs L k_18 a1 m) := by
  unfold F_L_arm33
  refine T_aload_n C.1 dL_law_1032 1 rfl ?_
  refine T_aload_n C.1 dL_law_1033 0 rfl ?_
  refine T_iload_n C.1 dL_law_1034 3 rfl ?_
  refine T_iconst C.1 dL_law_1035 ?_
  refine T_iadd C.1 dL_law_1036 ?_
  refine T_sld C.1 hX hsb hH dL_law_1037 (fun j1 => ?_)
  refine T_aload_n C.1 dL_law_1038 0 rfl ?_
  refine T_iload_n C.1 dL_law_1039 3 rfl ?_
  refine T_iconst C.1 dL_law_1040 ?_
  refine T_iadd C.1 dL_law_1041 ?_
  refine T_sld C.1 hX hsb hH dL_law_1042 (fun j2 => ?_)
  refine T_aload_n C.1 dL_law_1043 0 rfl ?_
  refine T_iload_n C.1 dL_law_1044 3 rfl ?_
  refine T_iconst C.1 dL_law_1045 ?_
  refine T_iadd C.1 dL_law_1046 ?_
  refine T_sld C.1 hX hsb hH dL_law_1047 (fun j3 => ?_)
  refine T_aload_n C.1 dL_law_1048 0 rfl ?_
  refine T_iload_n C.1 dL_law_1049 3 rfl ?_
  refine T_iconst C.1 dL_law_1050 ?_
  refine T_iadd C.1 dL_law_1051 ?_
  refine T_sld C.1 hX hsb hH dL_law_1052 (fun j4 => ?_)
  refine T_aload_n C.1 dL_law_1053 0 rfl ?_
  refine T_iload_n C.1 dL_law_1054 3 rfl ?_
  refine T_iconst C.1 dL_law_1055 ?_
  refine T_iadd C.1 dL_law_1056 ?_
  refine T_sld C.1 hX hsb hH dL_law_1057 (fun j5 => ?_)
  refine T_callVI (rm := rm_X8_shift) [.int (xs j1), .int (xs j2), .int (xs j3), .int (xs j4), .int (xs j5)] [] C.1 dL_law_1058 mw_X8_shift wm_4_154 wm_4_155 wm_4_156 ⟨Nat.le_of_ble_eq_true rfl, Nat.le_of_ble_eq_true rfl⟩ ⟨rfl, rfl⟩ ⟨by decide, by decide⟩ rfl rfl (Nat.le_of_ble_eq_true rfl) sh1 le1 ⟨rfl, rfl⟩ (c_X8_shift ll cx (xs j1) (xs j2) (xs j3) (xs j4) (xs j5) m) (fun v6 m7 => ?_)
  refine T_aload_n C.1 dL_law_1061 2 rfl ?_
  refine T_aload_n C.1 dL_law_1062 0 rfl ?_
  refine T_iload_n C.1 dL_law_1063 3 rfl ?_
  refine T_iconst C.1 dL_law_1064 ?_
  refine T_iadd C.1 dL_law_1065 ?_
  refine T_sld C.1 hX hsb hH dL_law_1066 (fun j8 => ?_)
  refine T_aload_n C.1 dL_law_1067 0 rfl ?_
  refine T_iload_n C.1 dL_law_1068 3 rfl ?_
  refine T_iconst C.1 dL_law_1069 ?_
  refine T_iadd C.1 dL_law_1070 ?_
  refine T_sld C.1 hX hsb hH dL_law_1071 (fun j9 => ?_)
  refine T_aload_n C.1 dL_law_1072 0 rfl ?_
  refine T_iload_n C.1 dL_law_1073 3 rfl ?_
  refine T_iconst C.1 dL_law_1074 ?_
  refine T_iadd C.1 dL_law_1075 ?_
  refine T_sld C.1 hX hsb hH dL_law_1076 (fun j10 => ?_)
  refine T_aload_n C.1 dL_law_1077 0 rfl ?_
  refine T_iload_n C.1 dL_law_1078 3 rfl ?_
  refine T_iconst C.1 dL_law_1079 ?_
  refine T_iadd C.1 dL_law_1080 ?_
  refine T_sld C.1 hX hsb hH dL_law_1081 (fun j11 => ?_)
  refine T_aload_n C.1 dL_law_1082 0 rfl ?_
  refine T_iload_n C.1 dL_law_1083 3 rfl ?_
  refine T_iconst C.1 dL_law_1084 ?_
  refine T_iadd C.1 dL_law_1085 ?_
  refine T_sld C.1 hX hsb hH dL_law_1086 (fun j12 => ?_)
  refine T_callVI (rm := rm_X9_shift) [.int (xs j8), .int (xs j9), .int (xs j10), .int (xs j11), .int (xs j12)] [.int v6] C.1 dL_law_1087 mw_X9_shift wm_7_71 wm_7_72 wm_7_73 ⟨Nat.le_of_ble_eq_true rfl, Nat.le_of_ble_eq_true rfl⟩ ⟨rfl, rfl⟩ ⟨by decide, by decide⟩ rfl rfl (Nat.le_of_ble_eq_true rfl) sh113 le113 ⟨rfl, rfl⟩ (c_X9_shift ll cx (xs j8) (xs j9) (xs j10) (xs j11) (xs j12) m7) (fun v13 m14 => ?_)
  refine T_icmp_eq (tgt := 1151) C.1 dL_law_1090 (by decide) ?_ ?_
  · exact T_sub [0, 1, 2, 3] rfl (t_L_law_1151 hX hsb hH hbs C (hk_18) a1 m14)
  · refine T_iconst C.1 dL_law_1093 ?_
    exact T_none
def F_L_arm34 (xs : Nat → Int32) (L : Nat) (k_18 : Int32 → Mm → Option (Unit × Mm)) (a1 : Int32) (m : Mm) : Option (Unit × Mm) :=
  rd L (a1 + (iI 1)) fun j1 =>
  rd L (a1 + (iI 2)) fun j2 =>
  bnd (F_X8_taken (xs j1) (xs j2) m) fun v3 m4 =>
  rd L (a1 + (iI 1)) fun j5 =>
  rd L (a1 + (iI 2)) fun j6 =>
  bnd (F_X9_taken (xs j5) (xs j6) m4) fun v7 m8 =>
  (if v3 = v7 then
    F_L_law_1151 (k_18) a1 m8
  else
    none)
set_option maxRecDepth 100000 in
set_option maxHeartbeats 4000000 in
theorem t_L_arm34 {pp : Program} {ll : Launch} {ee : Env} {ss : State} {mm : MethodId} {bb : List Frame} {me : Method} {co : Code} {cx : CX} {sb L : Nat} {xs : Nat → Int32} (hX : va_X sb L xs ss ss.heap) (hsb : sb ≤ cx.2.2.1) (hH : cx.2.2.2.1 = ss.heap) (hbs : ss.heap.size ≤ cx.2.2.1 + 1) (C : CM pp ss mm #[Value.ref sb] me co cL_law 4 RL cx (some .boolean)) {k_18 : Int32 → Mm → Option (Unit × Mm)} (hk_18 : ∀ (a1 : Int32) (m : Mm), TLw pp ll ee ss mm bb me co cx sb 18 [(0, .ref sb), (1, .ref (cx.2.2.1 + 1)), (2, .ref (cx.2.2.1 + 113)), (3, .int a1)] [] m (k_18 a1 m)) (a1 : Int32) (m : Mm) : TLw pp ll ee ss mm bb me co cx sb 1095 [(0, .ref sb), (1, .ref (cx.2.2.1 + 1)), (2, .ref (cx.2.2.1 + 113)), (3, .int a1)] [] m (F_L_arm34 xs L k_18 a1 m) := by
  unfold F_L_arm34
  refine T_aload_n C.1 dL_law_1095 1 rfl ?_
  refine T_aload_n C.1 dL_law_1096 0 rfl ?_
  refine T_iload_n C.1 dL_law_1097 3 rfl ?_
  refine T_iconst C.1 dL_law_1098 ?_
  refine T_iadd C.1 dL_law_1099 ?_
  refine T_sld C.1 hX hsb hH dL_law_1100 (fun j1 => ?_)
  refine T_aload_n C.1 dL_law_1101 0 rfl ?_
  refine T_iload_n C.1 dL_law_1102 3 rfl ?_
  refine T_iconst C.1 dL_law_1103 ?_
  refine T_iadd C.1 dL_law_1104 ?_
  refine T_sld C.1 hX hsb hH dL_law_1105 (fun j2 => ?_)
  refine T_callVI (rm := rm_X8_taken) [.int (xs j1), .int (xs j2)] [] C.1 dL_law_1106 mw_X8_taken wm_4_165 wm_4_166 wm_4_167 ⟨Nat.le_of_ble_eq_true rfl, Nat.le_of_ble_eq_true rfl⟩ ⟨rfl, rfl⟩ ⟨by decide, by decide⟩ rfl rfl (Nat.le_of_ble_eq_true rfl) sh1 le1 ⟨rfl, rfl⟩ (c_X8_taken ll cx (xs j1) (xs j2) m) (fun v3 m4 => ?_)
  refine T_aload_n C.1 dL_law_1109 2 rfl ?_
  refine T_aload_n C.1 dL_law_1110 0 rfl ?_
  refine T_iload_n C.1 dL_law_1111 3 rfl ?_
  refine T_iconst C.1 dL_law_1112 ?_
  refine T_iadd C.1 dL_law_1113 ?_
  refine T_sld C.1 hX hsb hH dL_law_1114 (fun j5 => ?_)
  refine T_aload_n C.1 dL_law_1115 0 rfl ?_
  refine T_iload_n C.1 dL_law_1116 3 rfl ?_
  refine T_iconst C.1 dL_law_1117 ?_
  refine T_iadd C.1 dL_law_1118 ?_
  refine T_sld C.1 hX hsb hH dL_law_1119 (fun j6 => ?_)
  refine T_callVI (rm := rm_X9_taken) [.int (xs j5), .int (xs j6)] [.int v3] C.1 dL_law_1120 mw_X9_taken wm_7_75 wm_7_76 wm_7_77 ⟨Nat.le_of_ble_eq_true rfl, Nat.le_of_ble_eq_true rfl⟩ ⟨rfl, rfl⟩ ⟨by decide, by decide⟩ rfl rfl (Nat.le_of_ble_eq_true rfl) sh113 le113 ⟨rfl, rfl⟩ (c_X9_taken ll cx (xs j5) (xs j6) m4) (fun v7 m8 => ?_)
  refine T_icmp_eq (tgt := 1151) C.1 dL_law_1123 (by decide) ?_ ?_
  · exact T_sub [0, 1, 2, 3] rfl (t_L_law_1151 hX hsb hH hbs C (hk_18) a1 m8)
  · refine T_iconst C.1 dL_law_1126 ?_
    exact T_none
def F_L_arm35 (xs : Nat → Int32) (L : Nat) (k_18 : Int32 → Mm → Option (Unit × Mm)) (a1 : Int32) (m : Mm) : Option (Unit × Mm) :=
  rd L (a1 + (iI 1)) fun j1 =>
  bnd (F_X8_count (xs j1) m) fun v2 m3 =>
  rd L (a1 + (iI 1)) fun j4 =>
  bnd (F_X9_count (xs j4) m3) fun v5 m6 =>
  (if v2 = v5 then
    F_L_law_1151 (k_18) a1 m6
  else
    none)
set_option maxRecDepth 100000 in
set_option maxHeartbeats 4000000 in
theorem t_L_arm35 {pp : Program} {ll : Launch} {ee : Env} {ss : State} {mm : MethodId} {bb : List Frame} {me : Method} {co : Code} {cx : CX} {sb L : Nat} {xs : Nat → Int32} (hX : va_X sb L xs ss ss.heap) (hsb : sb ≤ cx.2.2.1) (hH : cx.2.2.2.1 = ss.heap) (hbs : ss.heap.size ≤ cx.2.2.1 + 1) (C : CM pp ss mm #[Value.ref sb] me co cL_law 4 RL cx (some .boolean)) {k_18 : Int32 → Mm → Option (Unit × Mm)} (hk_18 : ∀ (a1 : Int32) (m : Mm), TLw pp ll ee ss mm bb me co cx sb 18 [(0, .ref sb), (1, .ref (cx.2.2.1 + 1)), (2, .ref (cx.2.2.1 + 113)), (3, .int a1)] [] m (k_18 a1 m)) (a1 : Int32) (m : Mm) : TLw pp ll ee ss mm bb me co cx sb 1128 [(0, .ref sb), (1, .ref (cx.2.2.1 + 1)), (2, .ref (cx.2.2.1 + 113)), (3, .int a1)] [] m (F_L_arm35 xs L k_18 a1 m) := by
  unfold F_L_arm35
  refine T_aload_n C.1 dL_law_1128 1 rfl ?_
  refine T_aload_n C.1 dL_law_1129 0 rfl ?_
  refine T_iload_n C.1 dL_law_1130 3 rfl ?_
  refine T_iconst C.1 dL_law_1131 ?_
  refine T_iadd C.1 dL_law_1132 ?_
  refine T_sld C.1 hX hsb hH dL_law_1133 (fun j1 => ?_)
  refine T_callVI (rm := rm_X8_count) [.int (xs j1)] [] C.1 dL_law_1134 mw_X8_count wm_4_173 wm_4_174 wm_4_175 ⟨Nat.le_of_ble_eq_true rfl, Nat.le_of_ble_eq_true rfl⟩ ⟨rfl, rfl⟩ ⟨by decide, by decide⟩ rfl rfl (Nat.le_of_ble_eq_true rfl) sh1 le1 ⟨rfl, rfl⟩ (c_X8_count ll cx (xs j1) m) (fun v2 m3 => ?_)
  refine T_aload_n C.1 dL_law_1137 2 rfl ?_
  refine T_aload_n C.1 dL_law_1138 0 rfl ?_
  refine T_iload_n C.1 dL_law_1139 3 rfl ?_
  refine T_iconst C.1 dL_law_1140 ?_
  refine T_iadd C.1 dL_law_1141 ?_
  refine T_sld C.1 hX hsb hH dL_law_1142 (fun j4 => ?_)
  refine T_callVI (rm := rm_X9_count) [.int (xs j4)] [.int v2] C.1 dL_law_1143 mw_X9_count wm_7_42 wm_7_43 wm_7_44 ⟨Nat.le_of_ble_eq_true rfl, Nat.le_of_ble_eq_true rfl⟩ ⟨rfl, rfl⟩ ⟨by decide, by decide⟩ rfl rfl (Nat.le_of_ble_eq_true rfl) sh113 le113 ⟨rfl, rfl⟩ (c_X9_count ll cx (xs j4) m3) (fun v5 m6 => ?_)
  refine T_icmp_eq (tgt := 1151) C.1 dL_law_1146 (by decide) ?_ ?_
  · exact T_sub [0, 1, 2, 3] rfl (t_L_law_1151 hX hsb hH hbs C (hk_18) a1 m6)
  · refine T_iconst C.1 dL_law_1149 ?_
    exact T_none
def F_L_law_18 (xs : Nat → Int32) (L : Nat) : Nat → Int32 → Mm → Option (Unit × Mm)
  | 0, _, _ => none
  | f + 1, a1, m =>
    if (Int32.ofNat L - iI 6) < a1 then some ((), m)
    else rd L a1 fun j1 => tsw (xs j1 &&& iI 63) 0 [F_L_arm0 xs L (F_L_law_18 xs L f) a1 m, F_L_arm1 xs L (F_L_law_18 xs L f) a1 m, F_L_arm2 xs L (F_L_law_18 xs L f) a1 m, F_L_arm3 xs L (F_L_law_18 xs L f) a1 m, F_L_arm4 xs L (F_L_law_18 xs L f) a1 m, F_L_arm5 xs L (F_L_law_18 xs L f) a1 m, F_L_arm6 xs L (F_L_law_18 xs L f) a1 m, F_L_arm7 xs L (F_L_law_18 xs L f) a1 m, F_L_arm8 xs L (F_L_law_18 xs L f) a1 m, F_L_arm9 xs L (F_L_law_18 xs L f) a1 m, F_L_arm10 xs L (F_L_law_18 xs L f) a1 m, F_L_arm11 xs L (F_L_law_18 xs L f) a1 m, F_L_arm12 xs L (F_L_law_18 xs L f) a1 m, F_L_arm13 xs L (F_L_law_18 xs L f) a1 m, F_L_arm14 xs L (F_L_law_18 xs L f) a1 m, F_L_arm15 xs L (F_L_law_18 xs L f) a1 m, F_L_arm16 xs L (F_L_law_18 xs L f) a1 m, F_L_arm17 xs L (F_L_law_18 xs L f) a1 m, F_L_arm18 xs L (F_L_law_18 xs L f) a1 m, F_L_arm19 xs L (F_L_law_18 xs L f) a1 m, F_L_arm20 xs L (F_L_law_18 xs L f) a1 m, F_L_arm21 xs L (F_L_law_18 xs L f) a1 m, F_L_arm22 xs L (F_L_law_18 xs L f) a1 m, F_L_arm23 xs L (F_L_law_18 xs L f) a1 m, F_L_arm24 xs L (F_L_law_18 xs L f) a1 m, F_L_arm25 xs L (F_L_law_18 xs L f) a1 m, F_L_arm26 xs L (F_L_law_18 xs L f) a1 m, F_L_arm27 xs L (F_L_law_18 xs L f) a1 m, F_L_arm28 xs L (F_L_law_18 xs L f) a1 m, F_L_arm29 xs L (F_L_law_18 xs L f) a1 m, F_L_arm30 xs L (F_L_law_18 xs L f) a1 m, F_L_arm31 xs L (F_L_law_18 xs L f) a1 m, F_L_arm32 xs L (F_L_law_18 xs L f) a1 m, F_L_arm33 xs L (F_L_law_18 xs L f) a1 m, F_L_arm34 xs L (F_L_law_18 xs L f) a1 m, F_L_arm35 xs L (F_L_law_18 xs L f) a1 m] (F_L_law_1151 (F_L_law_18 xs L f) a1 m)
set_option maxRecDepth 100000 in
set_option maxHeartbeats 4000000 in
theorem t_L_law_18 {pp : Program} {ll : Launch} {ee : Env} {ss : State} {mm : MethodId} {bb : List Frame} {me : Method} {co : Code} {cx : CX} {sb L : Nat} {xs : Nat → Int32} (hX : va_X sb L xs ss ss.heap) (hsb : sb ≤ cx.2.2.1) (hH : cx.2.2.2.1 = ss.heap) (hbs : ss.heap.size ≤ cx.2.2.1 + 1) (C : CM pp ss mm #[Value.ref sb] me co cL_law 4 RL cx (some .boolean)) : ∀ (f : Nat) (a1 : Int32) (m : Mm), TLw pp ll ee ss mm bb me co cx sb 18 [(0, .ref sb), (1, .ref (cx.2.2.1 + 1)), (2, .ref (cx.2.2.1 + 113)), (3, .int a1)] [] m (F_L_law_18 xs L f a1 m) := by
  intro f
  induction f with
  | zero => exact fun _ _ => T_none
  | succ f ih =>
    intro a1 m
    unfold F_L_law_18
    refine T_iload_n C.1 dL_law_18 3 rfl ?_
    refine T_aload_n C.1 dL_law_19 0 rfl ?_
    refine T_slen C.1 hX hsb hH dL_law_20 ?_
    refine T_bipush C.1 dL_law_21 rfl ?_
    refine T_isub C.1 dL_law_23 ?_
    refine T_icmp_gt (tgt := 1157) C.1 dL_law_24 (by decide) ?_ ?_
    · refine T_iconst C.1 dL_law_1157 ?_
      exact T_lawret C.1 C.2.1 C.2.2 hbs dL_law_1158
    · refine T_aload_n C.1 dL_law_27 0 rfl ?_
      refine T_iload_n C.1 dL_law_28 3 rfl ?_
      refine T_sld C.1 hX hsb hH dL_law_29 (fun j1 => ?_)
      refine T_bipush C.1 dL_law_30 rfl ?_
      refine T_iand C.1 dL_law_32 ?_
      refine T_tsw (lo := 0) (os := [159, 182, 225, 268, 301, 324, 347, 360, 373, 386, 409, 422, 435, 448, 471, 504, 527, 550, 563, 586, 629, 652, 675, 688, 701, 714, 727, 750, 793, 816, 849, 892, 965, 999, 1062, 1095]) C.1 dL_law_33 rfl (by decide) (tgd := 1151) (by decide) ⟨⟨192, by decide, t_L_arm0 hX hsb hH hbs C ih a1 m⟩, ⟨215, by decide, t_L_arm1 hX hsb hH hbs C ih a1 m⟩, ⟨258, by decide, t_L_arm2 hX hsb hH hbs C ih a1 m⟩, ⟨301, by decide, t_L_arm3 hX hsb hH hbs C ih a1 m⟩, ⟨334, by decide, t_L_arm4 hX hsb hH hbs C ih a1 m⟩, ⟨357, by decide, t_L_arm5 hX hsb hH hbs C ih a1 m⟩, ⟨380, by decide, t_L_arm6 hX hsb hH hbs C ih a1 m⟩, ⟨393, by decide, t_L_arm7 hX hsb hH hbs C ih a1 m⟩, ⟨406, by decide, t_L_arm8 hX hsb hH hbs C ih a1 m⟩, ⟨419, by decide, t_L_arm9 hX hsb hH hbs C ih a1 m⟩, ⟨442, by decide, t_L_arm10 hX hsb hH hbs C ih a1 m⟩, ⟨455, by decide, t_L_arm11 hX hsb hH hbs C ih a1 m⟩, ⟨468, by decide, t_L_arm12 hX hsb hH hbs C ih a1 m⟩, ⟨481, by decide, t_L_arm13 hX hsb hH hbs C ih a1 m⟩, ⟨504, by decide, t_L_arm14 hX hsb hH hbs C ih a1 m⟩, ⟨537, by decide, t_L_arm15 hX hsb hH hbs C ih a1 m⟩, ⟨560, by decide, t_L_arm16 hX hsb hH hbs C ih a1 m⟩, ⟨583, by decide, t_L_arm17 hX hsb hH hbs C ih a1 m⟩, ⟨596, by decide, t_L_arm18 hX hsb hH hbs C ih a1 m⟩, ⟨619, by decide, t_L_arm19 hX hsb hH hbs C ih a1 m⟩, ⟨662, by decide, t_L_arm20 hX hsb hH hbs C ih a1 m⟩, ⟨685, by decide, t_L_arm21 hX hsb hH hbs C ih a1 m⟩, ⟨708, by decide, t_L_arm22 hX hsb hH hbs C ih a1 m⟩, ⟨721, by decide, t_L_arm23 hX hsb hH hbs C ih a1 m⟩, ⟨734, by decide, t_L_arm24 hX hsb hH hbs C ih a1 m⟩, ⟨747, by decide, t_L_arm25 hX hsb hH hbs C ih a1 m⟩, ⟨760, by decide, t_L_arm26 hX hsb hH hbs C ih a1 m⟩, ⟨783, by decide, t_L_arm27 hX hsb hH hbs C ih a1 m⟩, ⟨826, by decide, t_L_arm28 hX hsb hH hbs C ih a1 m⟩, ⟨849, by decide, t_L_arm29 hX hsb hH hbs C ih a1 m⟩, ⟨882, by decide, t_L_arm30 hX hsb hH hbs C ih a1 m⟩, ⟨925, by decide, t_L_arm31 hX hsb hH hbs C ih a1 m⟩, ⟨998, by decide, t_L_arm32 hX hsb hH hbs C ih a1 m⟩, ⟨1032, by decide, t_L_arm33 hX hsb hH hbs C ih a1 m⟩, ⟨1095, by decide, t_L_arm34 hX hsb hH hbs C ih a1 m⟩, ⟨1128, by decide, t_L_arm35 hX hsb hH hbs C ih a1 m⟩, trivial⟩ (t_L_law_1151 hX hsb hH hbs C ih a1 m)
