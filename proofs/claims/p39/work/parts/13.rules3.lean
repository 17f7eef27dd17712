/-! THE ROWS OF T, third: returns, calls, switches, copies, static rows; a contract out of T -/
def MW (y : MethodName) (cc : ByteArray) (nL : Nat) (ret : Option FieldType) (np : Nat) : Prop := Cond.code y cc nL ret ∈ WA ∧ Cond.initialized y.cls ∈ WA ∧ y.cls ≠ "java/lang/invoke/MethodHandle" ∧ y.cls ≠ "java/lang/invoke/VarHandle" ∧ (parseMethodDescriptor y.desc).map (fun d => d.parameters.length) = some np
theorem goodWA {w : Cond} (h : w ∈ WA) : w ∈ WA ∧ ((w.onTables && w.keeps) = true ∨ ∃ ty, w = .arrayClass ty) := ⟨h, good_of_word (List.mem_filter.mp h).2⟩
theorem goodAll {y : MethodName} {cc : ByteArray} {nL : Nat} {ret : Option FieldType} (h : Cond.code y cc nL ret ∈ WA) : GoodIn WA (wAll y cc nL ret) := fun w hw => goodWA (by
  rcases List.mem_cons.mp hw with rfl | hw
  · exact h
  · exact hw)
/-- the contract that every method has -/
abbrev MT {γ : Type} (l : Launch) (y : MethodName) (cc : ByteArray) (nL : Nat) (ret : Option FieldType) (rm : Room) (cx : CX) (n n2 : Nat) (Ly : Mm → Prop) (cv : γ → Option Value) (mc ms : Nat) (av : List Value) (μ : Mm) (F : Option (γ × Mm)) : Prop :=
  ∀ r μ1, F = some (r, μ1) → Met l y (wAll y cc nL ret) rm (PcM cx n Ly av μ) (QcM cx n2 Ly (cv r) μ1) mc ms (fun q => cx.2.2.1 < q)
def tswO {β : Type} (P : Nat → Option β → Prop) (pc : Nat) : List Int → List (Option β) → Prop
  | [], [] => True
  | o :: os, f :: fs => (∃ tgt : Nat, (pc : Int) + o = (tgt : Int) ∧ P tgt f) ∧ tswO P pc os fs
  | _, _ => False
theorem tswO_get {β : Type} {P : Nat → Option β → Prop} {pc : Nat} {d : Option β} : ∀ {os : List Int} {fs : List (Option β)}, tswO P pc os fs → ∀ i, i < fs.length → ∃ (o : Int) (tgt : Nat), os[i]? = some o ∧ (pc : Int) + o = (tgt : Int) ∧ P tgt (fs.getD i d)
  | [], [], _, i, h => absurd h (by simp)
  | o :: os, f :: fs, h, 0, _ => by
    obtain ⟨⟨tgt, h1, h2⟩, -⟩ := h
    exact ⟨o, tgt, rfl, h1, h2⟩
  | o :: os, f :: fs, h, i + 1, hi => by
    obtain ⟨-, h3⟩ := h
    obtain ⟨o2, t2, a, b, c⟩ := tswO_get (d := d) h3 i (by simpa using hi)
    exact ⟨o2, t2, by simpa using a, b, by simpa using c⟩
  | [], _ :: _, h, _, _ => h.elim
  | _ :: _, [], h, _, _ => h.elim
theorem tswO_len {β : Type} {P : Nat → Option β → Prop} {pc : Nat} : ∀ {os : List Int} {fs : List (Option β)}, tswO P pc os fs → os.length = fs.length
  | [], [], _ => rfl
  | _ :: os, _ :: fs, h => by simpa using tswO_len h.2
  | [], _ :: _, h => h.elim
  | _ :: _, [], h => h.elim
/-- a switch over numbers that follow each other -/
def tsw {β : Type} (x : Int32) (lo : Int) (fs : List (Option β)) (d : Option β) : Option β := if lo ≤ x.toInt ∧ x.toInt < lo + fs.length then fs.getD (x.toInt - lo).toNat d else d
/-- a switch over any numbers -/
def lsw {β : Type} (x : Int32) : List (Int × Option β) → Option β → Option β
  | [], d => d
  | q :: r, d => if x.toInt = q.1 then q.2 else lsw x r d
def lswO {β : Type} (P : Nat → Option β → Prop) (pc : Nat) : List (Int × Int) → List (Int × Option β) → Prop
  | [], [] => True
  | (a, o) :: os, (b, f) :: fs => a = b ∧ (∃ tgt : Nat, (pc : Int) + o = (tgt : Int) ∧ P tgt f) ∧ lswO P pc os fs
  | _, _ => False
theorem lswO_get {β : Type} {P : Nat → Option β → Prop} {pc tgd : Nat} {d : Option β} {dflt : Int} {x : Int32} (hd : (pc : Int) + dflt = (tgd : Int)) (kd : P tgd d) : ∀ {os : List (Int × Int)} {fs : List (Int × Option β)}, lswO P pc os fs → ∃ tgt : Nat, (pc : Int) + Op.lookupswitch.offset os dflt x.toInt = (tgt : Int) ∧ P tgt (lsw x fs d)
  | [], [], _ => ⟨tgd, hd, kd⟩
  | (o1, o2) :: os, (k1, f) :: fs, h => by
    obtain ⟨h1, ⟨tgt, h2, h3⟩, h4⟩ := h
    unfold lsw
    rw [Op.lookupswitch.offset_cons]
    by_cases hx : x.toInt = k1
    · rw [if_pos hx, if_pos (by rw [h1]; exact hx.symm)]
      exact ⟨tgt, h2, h3⟩
    · rw [if_neg hx, if_neg (by rw [h1]; exact fun q => hx q.symm)]
      exact lswO_get hd kd h4
  | [], _ :: _, h => h.elim
  | _ :: _, [], h => h.elim
section TR3
variable {β : Type} {p : Program} {l : Launch} {e : Env} {R : Room} {s : State} {m : MethodId} {args : Array Value} {below : List Frame} {meth : Method} {c : Code} {nL : Nat} {cx : CX} {n : Nat} {Ly : Mm → Prop} {cells slots : Nat} {Q : β → Mm → State → Prop} {pc : Nat} {lv : List (Nat × Value)} {st : List Value} {μ : Mm} {F : Option (β × Mm)} {cc : ByteArray} {own : String}
theorem T_iret {v : Int32} (K : Kx p s m args c cc nL own cx) (hr : meth.sig.returnType = some .int) (hk : meth.locks = false) (hdg : decode cc pc = .ok (.ireturn, 1)) : T p l e R s m args below meth c nL cx n Ly cells slots (fun (r : Int32) μ1 => MQ below (QcM cx n Ly (some (.int r)) μ1) args s cells slots (fun q => cx.2.2.1 < q)) pc lv [.int v] μ (some (v, μ)) := by
  intro ls H locs hl hW hL hS r μ1 q
  cases q
  exact W.iret K.1 K.2.1 hr (fun t ht _ => ⟨rfl, by rw [ht]; exact hW, hL⟩) hS.2.2 hdg hk
theorem T_zret {v : Int32} (K : Kx p s m args c cc nL own cx) (hr : meth.sig.returnType = some .boolean) (hk : meth.locks = false) (hdg : decode cc pc = .ok (.ireturn, 1)) : T p l e R s m args below meth c nL cx n Ly cells slots (fun (r : Int32) μ1 => MQ below (QcM cx n Ly (some (.int r)) μ1) args s cells slots (fun q => cx.2.2.1 < q)) pc lv [.int v] μ (rz v μ) := by
  intro ls H locs hl hW hL hS r μ1 q
  unfold rz at q
  split at q
  · next h =>
    cases q
    exact W.zret K.1 K.2.1 hr (by rcases h with rfl | rfl <;> rfl) (fun t ht _ => ⟨rfl, by rw [ht]; exact hW, hL⟩) hS.2.2 hdg (hlocks := hk)
  · cases q
theorem T_vret (K : Kx p s m args c cc nL own cx) (hr : meth.sig.returnType = none) (hk : meth.locks = false) (hdg : decode cc pc = .ok (.return_, 1)) : T p l e R s m args below meth c nL cx n Ly cells slots (fun (_ : Unit) μ1 => MQ below (QcM cx n Ly none μ1) args s cells slots (fun q => cx.2.2.1 < q)) pc lv [] μ (some ((), μ)) := by
  intro ls H locs hl hW hL hS r μ1 q
  cases q
  exact W.vret K.1 K.2.1 hr (fun t ht _ => ⟨rfl, by rw [ht]; exact hW, hL⟩) hS.2.2 hdg (hlocks := hk)
theorem T_lret {v : Int64} (K : Kx p s m args c cc nL own cx) (hr : meth.sig.returnType = some .long) (hk : meth.locks = false) (hdg : decode cc pc = .ok (.lreturn, 1)) : T p l e R s m args below meth c nL cx n Ly cells slots (fun (r : Int64) μ1 => MQ below (QcM cx n Ly (some (.long r)) μ1) args s cells slots (fun q => cx.2.2.1 < q)) pc lv [.long v] μ (some (v, μ)) := by
  intro ls H locs hl hW hL hS r μ1 q
  cases q
  exact W.lret K.1 K.2.1 hr (fun t ht _ => ⟨rfl, by rw [ht]; exact hW, hL⟩) hS.2.2 hdg (hlocks := hk)
/-- an answer that is a cell of the world: by its place -/
theorem T_aret {x : Nat} {rt : FieldType} (K : Kx p s m args c cc nL own cx) (hr : meth.sig.returnType = some rt) (hrt : (∃ n, rt = .object n) ∨ ∃ t, rt = .array t) (hk : meth.locks = false) (hdg : decode cc pc = .ok (.areturn, 1)) : T p l e R s m args below meth c nL cx n Ly cells slots (fun (r : Nat) μ1 => MQ below (QcM cx n Ly (some (.ref (cx.2.2.1 + r))) μ1) args s cells slots (fun q => cx.2.2.1 < q)) pc lv [.ref (cx.2.2.1 + x)] μ (some (x, μ)) := by
  intro ls H locs hl hW hL hS r μ1 q
  cases q
  exact W.aret K.1 K.2.1 hr hrt (Or.inr ⟨_, rfl⟩) (fun t ht _ => ⟨rfl, by rw [ht]; exact hW, hL⟩) hS.2.2 hdg (hlocks := hk)
theorem T_tsw (K : Kx p s m args c cc nL own cx) {x : Int32} {lo hi dflt : Int} {offs : Array Int} {os : List Int} {fs : List (Option (β × Mm))} {d : Option (β × Mm)} {len tgd : Nat} (hdg : decode cc pc = .ok (.tableswitch dflt lo hi offs, len)) (ho : offs = os.toArray) (hh : hi = lo + os.length - 1) (hd : (pc : Int) + dflt = (tgd : Int)) (ks : tswO (fun tgt f => T p l e R s m args below meth c nL cx n Ly cells slots Q tgt lv st μ f) pc os fs) (kd : T p l e R s m args below meth c nL cx n Ly cells slots Q tgd lv st μ d) : T p l e R s m args below meth c nL cx n Ly cells slots Q pc lv (.int x :: st) μ (tsw x lo fs d) := by
  subst ho
  have hlen := tswO_len ks
  unfold tsw
  refine T_if (fun h => ?_) (fun h => ?_)
  · obtain ⟨o, tgt, h1, h2, h3⟩ := tswO_get (d := d) ks (x.toInt - lo).toNat (by omega)
    exact T_of (fun _ _ _ _ q => lv_tableIn K.1 K.2.1 hdg (by omega) (by omega) (by rw [List.getElem?_toArray]; exact h1) h2 q) (fun _ q => q) h3
  · exact T_of (fun _ _ _ _ q => lv_tableOut K.1 K.2.1 hdg (by omega) hd q) (fun _ q => q) kd
theorem T_lsw (K : Kx p s m args c cc nL own cx) {x : Int32} {dflt : Int} {ps : Array (Int × Int)} {os : List (Int × Int)} {fs : List (Int × Option (β × Mm))} {d : Option (β × Mm)} {len tgd : Nat} (hdg : decode cc pc = .ok (.lookupswitch dflt ps, len)) (ho : ps = os.toArray) (hp : (os.zip (os.drop 1)).all (fun (a, next) => a.1 < next.1) = true) (hd : (pc : Int) + dflt = (tgd : Int)) (ks : lswO (fun tgt f => T p l e R s m args below meth c nL cx n Ly cells slots Q tgt lv st μ f) pc os fs) (kd : T p l e R s m args below meth c nL cx n Ly cells slots Q tgd lv st μ d) : T p l e R s m args below meth c nL cx n Ly cells slots Q pc lv (.int x :: st) μ (lsw x fs d) := by
  subst ho
  obtain ⟨tgt, h1, h2⟩ := lswO_get (x := x) hd kd ks
  exact T_of (fun _ _ _ _ q => lv_lookup K.1 K.2.1 hdg hp rfl h1 q) (fun _ q => q) h2
/-- behind a call -/
theorem T_run {ov : Option Value} {μ1 : Mm} {n2 mc ms : Nat} {rest st0 : List Value} {a : Array Value} {ls : Array Slot} {H : Heap} {locs : List Loc} {Q1 : State → Prop} (hr : va_Run p l e R s m args below meth c H locs cells slots mc ms (F0 m pc ls st0) rest (QcM cx n2 Ly ov μ1 a) (fun q => cx.2.2.1 < q)) (hW : Wd cx n μ H) (hn : n ≤ n2) (hb : cx.2.2.1 < s.heap.size) (hS : va_S (fun q => cx.2.2.1 < q) s.heap H locs) (kk : ∀ (H1 : Heap) (locs1 : List Loc), Wd cx n2 μ1 H1 → Ly μ1 → va_S (fun q => cx.2.2.1 < q) s.heap H1 locs1 → W p l e R s m args below meth c H1 locs1 (cells + mc) (slots + ms) Q1 (F0 m (pc + 3) ls (ov.toList ++ rest))) : W p l e R s m args below meth c H locs cells slots Q1 (F0 m pc ls st0) := by
  intro T9 hT X
  obtain ⟨v, st₀, t, T', L, h0, X', hL, e1, e2, ⟨hv, hw, hly⟩, st9⟩ := hr T9 hT X
  cases hv
  have hw1 : Wd cx n2 μ1 T'.heap := by rw [e1]; exact hw
  obtain ⟨t2, a1, b1⟩ := kk T'.heap (locs ++ L) hw1 hly ⟨by rw [hw1.2.1]; have := hS.1; rw [hW.2.1] at this; omega, fun q h1 h2 => by
    have h2 : ¬ cx.2.2.1 < q := h2
    rw [hw1.2.2 q (by omega), ← hW.2.2 q (by omega)]
    exact hS.2.1 q h1 h2, fun q hq => by
      rcases List.mem_append.mp hq with h | h
      · exact hS.2.2 q h
      · exact hL q h⟩ T' rfl X'
  exact ⟨t2, st9 t2 a1, b1⟩
theorem T_callV {γ : Type} {G : γ → Mm → Option (β × Mm)} {Fc : Option (γ × Mm)} {cv : γ → Option Value} {y : MethodName} {bytes : ByteArray} {maxL np ix ci a n2 mc ms : Nat} {ret : Option FieldType} {rm : Room} {As rest st0 : List Value} {Cq : vw_C} (K : Kx p s m args c cc nL own cx) (hw : MW y bytes maxL ret np) (hli : Cond.methodLink own ix y ∈ WA) (hin : Cond.instanceMethod y ∈ WA) (hse : Cond.selects y.cls y y ∈ WA) (hR : (rm.frames + 1 ≤ R.frames ∧ 8 + (maxL + 11) + rm.locals ≤ R.locals) ∧ rm.cells = mc ∧ rm.slots = ms ∧ cells + mc ≤ R.cells ∧ slots + ms ≤ R.slots ∧ n ≤ n2) (hlen : As.length = np) (hst : st0 = As.reverse ++ .ref (cx.2.2.1 + a) :: rest) (hrest : (rest.map fun v => v.category).sum ≤ 8) (hs : shp a = (9, ci)) (ha : a ≤ n) (hcl : vwCl[ci]? = some Cq ∧ Cq.1 = y.cls) (hM : MT l y bytes maxL ret rm cx n n2 Ly cv mc ms (.ref (cx.2.2.1 + a) :: As) μ Fc) (hdg : decode cc pc = .ok (.invokevirtual ix, 3)) (k : ∀ x μ1, T p l e R s m args below meth c nL cx n2 Ly (cells + mc) (slots + ms) Q (pc + 3) lv ((cv x).toList ++ rest) μ1 (G x μ1)) : T p l e R s m args below meth c nL cx n Ly cells slots Q pc lv st0 μ (bnd Fc G) := by
  intro ls H locs hl hW hL hS r μ2 q
  obtain ⟨x, μ1, hF, hG⟩ := bnd_spec q
  have hts := K.2.2.2.2.1
  have h0 : a ≠ 0 := shp_pk hs (by decide)
  obtain ⟨⟨hR1, hR2⟩, hR3, hR4, hR5, hR6, hR7⟩ := hR
  have cb := callB_of (R := R) (own := own) (index := ix) np hts (goodAll hw.1) rfl hR3 hR4 (hts _ hw.2.1) (hts _ hli) hw.2.2 ⟨hR1, hR2⟩
  refine T_run (va_runV (As := As) (rest := rest) ⟨K.1, K.2.1, K.2.2.1, K.2.2.2.1, hts⟩ (hM x μ1 hF) ⟨cb, hts _ hin, hts _ hse⟩ ⟨PcM.blind, ?_, fun U hU hWm => ⟨rfl, by rw [hU]; exact hW, K.2.2.2.2.2.1.warm hWm, hL⟩⟩ rfl hlen hl.1 hst (lv_room hrest) hdg ⟨hR5, hR6⟩) hW hR7 K.2.2.2.2.2.2 hS (fun H1 locs1 hW1 hL1 hS1 => k x μ1 ls H1 locs1 hl hW1 hL1 hS1 r μ2 hG)
  have hrv := va_recv K.2.2.2.2.2.1.1 hW.1 hcl.1 (wL_a h0 ha (cel_obj hs))
  rw [hcl.2] at hrv
  exact hrv
theorem T_callS {γ : Type} {G : γ → Mm → Option (β × Mm)} {Fc : Option (γ × Mm)} {cv : γ → Option Value} {y : MethodName} {bytes : ByteArray} {maxL np ix : Nat} {ret : Option FieldType} {rm : Room} {As rest st0 : List Value} (K : Kx p s m args c cc nL own cx) (hw : MW y bytes maxL ret np) (hli : Cond.methodLink own ix y ∈ WA) (hin : Cond.static y ∈ WA) (hR : (rm.frames + 1 ≤ R.frames ∧ 8 + (maxL + 11) + rm.locals ≤ R.locals) ∧ rm.cells = 0 ∧ rm.slots = 0 ∧ cells ≤ R.cells ∧ slots ≤ R.slots) (hlen : As.length = np) (hst : st0 = As.reverse ++ rest) (hrest : (rest.map fun v => v.category).sum ≤ 8) (hM : MT l y bytes maxL ret rm cx n n Ly cv 0 0 As μ Fc) (hdg : decode cc pc = .ok (.invokestatic ix, 3)) (k : ∀ x μ1, T p l e R s m args below meth c nL cx n Ly cells slots Q (pc + 3) lv ((cv x).toList ++ rest) μ1 (G x μ1)) : T p l e R s m args below meth c nL cx n Ly cells slots Q pc lv st0 μ (bnd Fc G) := by
  intro ls H locs hl hW hL hS r μ2 q
  obtain ⟨x, μ1, hF, hG⟩ := bnd_spec q
  have hts := K.2.2.2.2.1
  obtain ⟨⟨hR1, hR2⟩, hR3, hR4, hR5, hR6⟩ := hR
  have cb := callB_of (R := R) (own := own) (index := ix) np hts (goodAll hw.1) rfl hR3 hR4 (hts _ hw.2.1) (hts _ hli) hw.2.2 ⟨hR1, hR2⟩
  exact T_run (mc := 0) (ms := 0) (va_runS (As := As) (rest := rest) ⟨K.1, K.2.1, K.2.2.1, K.2.2.2.1, hts⟩ (hM x μ1 hF) ⟨cb, hts _ hin⟩ ⟨PcM.blind, fun U hU hWm => ⟨rfl, by rw [hU]; exact hW, K.2.2.2.2.2.1.warm hWm, hL⟩⟩ rfl hlen hl.1 hst (lv_room hrest) hdg ⟨hR5, hR6⟩) hW (Nat.le_refl _) K.2.2.2.2.2.2 hS (fun H1 locs1 hW1 hL1 hS1 => k x μ1 ls H1 locs1 hl hW1 hL1 hS1 r μ2 hG)
end TR3
/-- a contract out of the walk of the body -/
theorem MT_of {γ : Type} {l : Launch} {y : MethodName} {cc : ByteArray} {nL : Nat} {ret : Option FieldType} {rm : Room} {cx : CX} {n n2 : Nat} {Ly : Mm → Prop} {cv : γ → Option Value} {mc ms : Nat} {av : List Value} {μ : Mm} {F : Option (γ × Mm)} (hy : plainName y.cls = true) (hlen : (lg_sl av).length ≤ nL) (body : ∀ (p : Program) (e : Env) (s : State) (m : MethodId) (args : Array Value) (below : List Frame) (meth : Method) (c : Code), Kx p s m args c cc nL y.cls cx → meth.sig.returnType = ret → meth.locks = false → meth.name = y.name → T p l e rm s m args below meth c nL cx n Ly 0 0 (fun r μ1 => MQ below (QcM cx n2 Ly (cv r) μ1) args s mc ms (fun q => cx.2.2.1 < q)) 0 (lv_args 0 av) [] μ F) : MT l y cc nL ret rm cx n n2 Ly cv mc ms av μ F := by
  intro r μ1 hF
  refine Met.ofW (cc := cc) (maxL := nL) (ret := ret) hy rfl ?_
  intro p e s m args below meth c s₁ B hml hv
  obtain ⟨rfl, hW, hK, hL⟩ := hv
  have hts := atoms_spec (ws := wAll y cc nL ret) B.pre
  have hl := lv_entry av (n := nL) hlen
  rw [lg_entry_eq]
  have hb : cx.2.2.1 < s.heap.size := by rw [hW.2.1]; omega
  exact body p e s m _ below meth c ⟨B.exec, B.bytes, hml, findClass_of_methodNamed B.named, fun w hw => hts w (List.mem_cons_of_mem _ hw), hK, hb⟩ B.returns B.notSynchronized (name_of_methodNamed B.named B.method).1 _ s.heap [] hl hW hL va_S.rf r μ1 hF
