/-! ROWS OF T FOR CONSTRUCTORS: new cells -/
/-- a cell emptied -/
def clr (μ : Mm) (a : Nat) : Mm := ((fun x y => if x = a then 0 else μ.1.1 x y, fun x y => if x = a then 0 else μ.1.2 x y), fun x y => if x = a then 0 else μ.2 x y)
theorem gI_clr_ne {μ : Mm} {a x : Nat} (h : x ≠ a) : gI (clr μ a) x = gI μ x := funext fun y => by simp [gI, clr, h]
theorem gL_clr_ne {μ : Mm} {a x : Nat} (h : x ≠ a) : gL (clr μ a) x = gL μ x := funext fun y => by simp [gL, clr, h]
theorem gR_clr_ne {μ : Mm} {a x : Nat} (h : x ≠ a) : gR (clr μ a) x = gR μ x := funext fun y => by simp [gR, clr, h]
theorem gI_clr_at {μ : Mm} {a : Nat} : gI (clr μ a) a = fun _ => 0 := funext fun y => by simp [gI, clr]
theorem gL_clr_at {μ : Mm} {a : Nat} : gL (clr μ a) a = fun _ => 0 := funext fun y => by simp [gL, clr]
theorem gR_clr_at {μ : Mm} {a : Nat} : gR (clr μ a) a = fun _ => 0 := funext fun y => by simp [gR, clr]
theorem celE_clr {ar : Nat → ClassId} {b : Nat} {μ : Mm} {a y : Nat} (h : y ≠ a) : celE ar b (clr μ a) y = celE ar b μ y := celE_eq (gI_clr_ne h) (gL_clr_ne h) (gR_clr_ne h)
def okTy : FieldType → Bool
  | .float => false
  | .double => false
  | _ => true
theorem fV_def {b j : Nat} {ty : FieldType} (h : okTy ty = true) : fV b (fun _ => 0) (fun _ => 0) (fun _ => 0) j ty = defaultValue ty := by
  cases ty <;> first | rfl | cases h
theorem wL_push {cx : CX} {μ μ1 : Mm} {n : Nat} (ho : ∀ y, y ≠ n + 1 → celE cx.2.1 cx.2.2.1 μ1 y = celE cx.2.1 cx.2.2.1 μ y) : wL cx μ1 (n + 1) = wL cx μ n ++ [(cx.2.2.1 + (n + 1), celE cx.2.1 cx.2.2.1 μ1 (n + 1))] := by
  unfold wL
  rw [List.range_succ, List.map_append]
  congr 1
  apply List.map_congr_left
  intro k hk
  have hk := List.mem_range.mp hk
  rw [ho (k + 1) (by omega)]
/-- the world with one cell more -/
theorem Wd.push {cx : CX} {μ μ1 : Mm} {n a : Nat} {H H1 : Heap} (h : Wd cx n μ H) (ha : a = n + 1) (z : H1.size = H.size + 1) (oq : ∀ q, q < H.size → H1[q]? = H[q]?) (ho : ∀ y, y ≠ a → celE cx.2.1 cx.2.2.1 μ1 y = celE cx.2.1 cx.2.2.1 μ y) (hat : va_at cx.1 vwCl (cx.2.2.1 + a, celE cx.2.1 cx.2.2.1 μ1 a) H1) : Wd cx a μ1 H1 := by
  subst ha
  refine ⟨?_, by rw [z, h.2.1]; omega, fun q hq => by rw [oq q (by rw [h.2.1]; omega)]; exact h.2.2 q hq⟩
  rw [wL_push ho]
  refine va_P.app (h.1.kept (fun k q hk => oq q.1 ((h.1 k q hk).lt))) (fun k q hk => ?_)
  have hz : k < 1 := (List.getElem?_eq_some_iff.mp hk).1
  rw [show k = 0 by omega] at hk
  cases hk
  exact hat
theorem Sgrow {cx : CX} {s : State} {H H1 : Heap} {locs : List Loc} (hS : va_S (fun q => cx.2.2.1 < q) s.heap H locs) (z : H.size ≤ H1.size) (oq : ∀ q, q < H.size → H1[q]? = H[q]?) : va_S (fun q => cx.2.2.1 < q) s.heap H1 locs := ⟨Nat.le_trans hS.1 z, fun q h1 h2 => (oq q (Nat.lt_of_lt_of_le h1 hS.1)).trans (hS.2.1 q h1 h2), hS.2.2⟩
section TC
variable {β : Type} {p : Program} {l : Launch} {e : Env} {R : Room} {s : State} {m : MethodId} {args : Array Value} {below : List Frame} {meth : Method} {c : Code} {nL : Nat} {cx : CX} {n : Nat} {Ly : Mm → Prop} {cells slots : Nat} {Q : β → Mm → State → Prop} {pc : Nat} {lv : List (Nat × Value)} {st : List Value} {μ : Mm} {F : Option (β × Mm)} {cc : ByteArray} {own : String}
theorem T_objInit (K : Kx p s m args c cc nL own cx) {a ix : Nat} (hdg : decode cc pc = .ok (.invokespecial ix, 3)) (hli : Cond.methodLink own ix objectInit ∈ WA) (hin : Cond.instanceMethod objectInit ∈ WA) (hco : Cond.code objectInit ⟨#[0xb1]⟩ 1 none ∈ WA) (hfr : 1 ≤ R.frames) (hlo : (st.map fun v => v.category).sum + 12 ≤ R.locals) (k : T p l e R s m args below meth c nL cx n Ly cells slots Q (pc + 3) lv st μ F) : T p l e R s m args below meth c nL cx n Ly cells slots Q pc lv (.ref a :: st) μ F :=
  fun ls H locs hl hW hL hS r μ1 q => W.objInit K.1 K.2.1 K.2.2.2.1 (K.2.2.2.2.1 _ hli) (K.2.2.2.2.1 _ hin) (K.2.2.2.2.1 _ hco) rfl (hl.1.trans K.2.2.1.symm) rfl hdg hfr (by show 2 * 0 + _ + 12 ≤ _; omega) (W.eq (g2 := F0 m (pc + 3) ls st) rfl (k ls H locs hl hW hL hS r μ1 q))
theorem T_new (K : Kx p s m args c cc nL own cx) {a ci ix : Nat} {C : String} {Tf : u_T} {G : Mm → Option (β × Mm)} (hdg : decode cc pc = .ok (.new ix, 3)) (ha : a = n + 1) (hcl : Cond.classLink own ix C ∈ WA) (hin : Cond.instantiable C (nfO ci) ∈ WA) (hini : Cond.initialized C ∈ WA) (hc : vwCl[ci]? = some (C, Tf, nfO ci)) (hty : ∀ k, k < nfO ci → parseFieldDescriptor (Tf k).2.2.1 = some (tyO ci k)) (hok : ∀ k, k < nfO ci → okTy (tyO ci k) = true) (hws : ∀ w ∈ u_ws C Tf (nfO ci), w ∈ WA) (hs : shp a = (9, ci)) (hce : cells + 1 ≤ R.cells) (hsl : slots + nfO ci ≤ R.slots) (hLy : ∀ μ, Ly μ) (k : ∀ μ1, T p l e R s m args below meth c nL cx a Ly (cells + 1) (slots + nfO ci) Q (pc + 3) lv (.ref (cx.2.2.1 + a) :: st) μ1 (G μ1)) : T p l e R s m args below meth c nL cx n Ly cells slots Q pc lv st μ (nm (clr μ a) G) := by
  intro ls H locs hl hW hL hS r μ1 q
  have hKn := K.2.2.2.2.2.1.1.1 ci _ hc
  have hts := K.2.2.2.2.1
  have hh : H.size = cx.2.2.1 + a := by rw [hW.2.1, ha]; omega
  refine W.newcK K.1 K.2.1 K.2.2.2.1 (hts _ hcl) (hts _ hin) (hts _ hini) rfl hdg hce hsl hKn.2.1 hh fun H1 kC hkC e1 z1 o1 => ?_
  refine k (clr μ a) ls H1 locs hl (hW.push ha (by rw [z1, hh]) (by rw [hh]; exact o1) (fun y h => celE_clr h) ?_) (hLy _) (Sgrow hS (by rw [z1, hh]; omega) (by rw [hh]; exact o1)) r μ1 q
  rw [cel_obj hs, gI_clr_at, gL_clr_at, gR_clr_at]
  refine ⟨_, hc, (u_born (tyO ci) hts hws hKn hkC e1 hty).to (fun j hj => ?_)⟩
  show _ = (fldL cx.2.2.1 (fun _ => 0) (fun _ => 0) (fun _ => 0) ci).getD j .null
  rw [List.getD_eq_getElem?_getD, fldL_at hj, fV_def (hok j hj)]
  rfl
theorem T_newa1 (K : Kx p s m args c cc nL own cx) {a len : Nat} {x : Int32} {G : Mm → Option (β × Mm)} (hdg : decode cc pc = .ok (.newarray .int, 2)) (ha : a = n + 1) (har : Cond.arrayClass .int ∈ WA) (hs : shp a = (1, len)) (hn : ¬ x < 0) (hN : x.toNatClampNeg = len) (hb : len * 8 ≤ 536870912) (hce : cells + 1 ≤ R.cells) (hsl : slots + len ≤ R.slots) (hLy : ∀ μ, Ly μ) (k : ∀ μ1, T p l e R s m args below meth c nL cx a Ly (cells + 1) (slots + len) Q (pc + 2) lv (.ref (cx.2.2.1 + a) :: st) μ1 (G μ1)) : T p l e R s m args below meth c nL cx n Ly cells slots Q pc lv (.int x :: st) μ (nm (clr μ a) G) := by
  intro ls H locs hl hW hL hS r μ1 q
  have hh : H.size = cx.2.2.1 + a := by rw [hW.2.1, ha]; omega
  refine va_newaK (atype := .int) K.1 K.2.1 (K.2.2.2.2.1 _ har) (g := F0 m pc ls (.int x :: st)) rfl hdg rfl hn hN (by show len * 4 ≤ _; omega) hce hsl hh fun H1 cA e1 z1 o1 hAr hNm => ?_
  have hcA : cA = cx.2.1 1 := Option.some.inj (hNm.symm.trans (K.2.2.2.2.2.1.1.2 1 (cx.2.1 1, .int) rfl).2)
  subst hcA
  refine k (clr μ a) ls H1 locs hl (hW.push ha (by rw [z1, hh]) (by rw [hh]; exact o1) (fun y h => celE_clr h) ?_) (hLy _) (Sgrow hS (by rw [z1, hh]; omega) (by rw [hh]; exact o1)) r μ1 q
  rw [cel_1 hs, gI_clr_at]
  exact e1
theorem T_newa3 (K : Kx p s m args c cc nL own cx) {a len : Nat} {x : Int32} {G : Mm → Option (β × Mm)} (hdg : decode cc pc = .ok (.newarray .char, 2)) (ha : a = n + 1) (har : Cond.arrayClass .char ∈ WA) (hs : shp a = (3, len)) (hn : ¬ x < 0) (hN : x.toNatClampNeg = len) (hb : len * 8 ≤ 536870912) (hce : cells + 1 ≤ R.cells) (hsl : slots + len ≤ R.slots) (hLy : ∀ μ, Ly μ) (k : ∀ μ1, T p l e R s m args below meth c nL cx a Ly (cells + 1) (slots + len) Q (pc + 2) lv (.ref (cx.2.2.1 + a) :: st) μ1 (G μ1)) : T p l e R s m args below meth c nL cx n Ly cells slots Q pc lv (.int x :: st) μ (nm (clr μ a) G) := by
  intro ls H locs hl hW hL hS r μ1 q
  have hh : H.size = cx.2.2.1 + a := by rw [hW.2.1, ha]; omega
  refine va_newaK (atype := .char) K.1 K.2.1 (K.2.2.2.2.1 _ har) (g := F0 m pc ls (.int x :: st)) rfl hdg rfl hn hN (by show len * 2 ≤ _; omega) hce hsl hh fun H1 cA e1 z1 o1 hAr hNm => ?_
  have hcA : cA = cx.2.1 3 := Option.some.inj (hNm.symm.trans (K.2.2.2.2.2.1.1.2 3 (cx.2.1 3, .char) rfl).2)
  subst hcA
  refine k (clr μ a) ls H1 locs hl (hW.push ha (by rw [z1, hh]) (by rw [hh]; exact o1) (fun y h => celE_clr h) ?_) (hLy _) (Sgrow hS (by rw [z1, hh]; omega) (by rw [hh]; exact o1)) r μ1 q
  rw [cel_3 hs, gI_clr_at]
  exact e1
theorem T_newa5 (K : Kx p s m args c cc nL own cx) {a len : Nat} {x : Int32} {G : Mm → Option (β × Mm)} (hdg : decode cc pc = .ok (.newarray .long, 2)) (ha : a = n + 1) (har : Cond.arrayClass .long ∈ WA) (hs : shp a = (5, len)) (hn : ¬ x < 0) (hN : x.toNatClampNeg = len) (hb : len * 8 ≤ 536870912) (hce : cells + 1 ≤ R.cells) (hsl : slots + len ≤ R.slots) (hLy : ∀ μ, Ly μ) (k : ∀ μ1, T p l e R s m args below meth c nL cx a Ly (cells + 1) (slots + len) Q (pc + 2) lv (.ref (cx.2.2.1 + a) :: st) μ1 (G μ1)) : T p l e R s m args below meth c nL cx n Ly cells slots Q pc lv (.int x :: st) μ (nm (clr μ a) G) := by
  intro ls H locs hl hW hL hS r μ1 q
  have hh : H.size = cx.2.2.1 + a := by rw [hW.2.1, ha]; omega
  refine va_newaK (atype := .long) K.1 K.2.1 (K.2.2.2.2.1 _ har) (g := F0 m pc ls (.int x :: st)) rfl hdg rfl hn hN (by show len * 8 ≤ _; omega) hce hsl hh fun H1 cA e1 z1 o1 hAr hNm => ?_
  have hcA : cA = cx.2.1 5 := Option.some.inj (hNm.symm.trans (K.2.2.2.2.2.1.1.2 5 (cx.2.1 5, .long) rfl).2)
  subst hcA
  refine k (clr μ a) ls H1 locs hl (hW.push ha (by rw [z1, hh]) (by rw [hh]; exact o1) (fun y h => celE_clr h) ?_) (hLy _) (Sgrow hS (by rw [z1, hh]; omega) (by rw [hh]; exact o1)) r μ1 q
  rw [cel_5 hs, gL_clr_at]
  exact e1
theorem T_anew (K : Kx p s m args c cc nL own cx) {a ix len : Nat} {x : Int32} {G : Mm → Option (β × Mm)} (hdg : decode cc pc = .ok (.anewarray ix, 3)) (ha : a = n + 1) (hcl : Cond.classLink own ix RX2 ∈ WA) (hs : shp a = (6, len)) (hn : ¬ x < 0) (hN : x.toNatClampNeg = len) (hb : len * 8 ≤ 536870912) (hce : cells + 1 ≤ R.cells) (hsl : slots + len ≤ R.slots) (hLy : ∀ μ, Ly μ) (k : ∀ μ1, T p l e R s m args below meth c nL cx a Ly (cells + 1) (slots + len) Q (pc + 3) lv (.ref (cx.2.2.1 + a) :: st) μ1 (G μ1)) : T p l e R s m args below meth c nL cx n Ly cells slots Q pc lv (.int x :: st) μ (nm (clr μ a) G) := by
  subst hN
  intro ls H locs hl hW hL hS r μ1 q
  have hh : H.size = cx.2.2.1 + a := by rw [hW.2.1, ha]; omega
  refine W.anew K.1 K.2.1 K.2.2.2.1 (K.2.2.2.2.1 _ hcl) (va_AO.use K.2.2.2.2.2.1.2.2.2.2.1.1) (g := F0 m pc ls (.int x :: st)) rfl hdg rfl hn (by omega) hce hsl fun cA kA comp f1 f2 f3 f4 => ?_
  obtain ⟨kA2, comp2, k1, k2, k3, k4⟩ := (K.2.2.2.2.2.1.1.2 6 (cx.2.1 6, .object RX2) rfl).2
  have hcA : cA = cx.2.1 6 := Option.some.inj (f1.symm.trans k4)
  subst hcA
  generalize hH1 : H.push ({ cls := cx.2.1 6, slots := Array.replicate x.toNatClampNeg .null, vm := .none } : Cell) = H1
  have z1 : H1.size = H.size + 1 := by rw [← hH1, Array.size_push]
  have e1 : H1[H.size]? = some (arrV (cx.2.1 6) x.toNatClampNeg (fun _ => .null)) := by rw [← hH1, Array.getElem?_push_size, ← arrV_new]
  have o1 : ∀ q : Nat, q < H.size → H1[q]? = H[q]? := fun q hq => by rw [← hH1, Array.getElem?_push, if_neg (Nat.ne_of_lt hq)]
  rw [hh]
  refine k (clr μ a) ls H1 locs hl (hW.push ha z1 o1 (fun y h => celE_clr h) ?_) (hLy _) (Sgrow hS (by rw [z1]; omega) o1) r μ1 q
  rw [cel_6 (Or.inl rfl) hs, gR_clr_at]
  rw [hh] at e1
  exact e1
/-- a final field, in a constructor -/
theorem T_putFV (K : Kx p s m args c cc nL own cx) {ci j a ix : Nat} {ty : FieldType} {v : Value} {μ1 : Mm} (hmn : meth.name = "<init>") (hF : FD ci j own ix ty true) (hde : ∀ (C : String) (Tf : u_T), vwCl[ci]? = some (C, Tf, nfO ci) → (Tf j).1 = own) (hs : shp a = (9, ci)) (ha : a ≤ n) (hn : narrow ty v = v) (hfit : fits ty v = true) (hf : fldL cx.2.2.1 (gI μ1 a) (gL μ1 a) (gR μ1 a) ci = (fldL cx.2.2.1 (gI μ a) (gL μ a) (gR μ a) ci).set j v) (ho : ∀ y, y ≠ a → celE cx.2.1 cx.2.2.1 μ1 y = celE cx.2.1 cx.2.2.1 μ y) (hL1 : Ly μ → Ly μ1) (hdg : decode cc pc = .ok (.putfield ix, 3)) (k : T p l e R s m args below meth c nL cx n Ly cells slots Q (pc + 3) lv st μ1 F) : T p l e R s m args below meth c nL cx n Ly cells slots Q pc lv (v :: .ref (cx.2.2.1 + a) :: st) μ F := by
  intro ls H locs hl hW hL hS r μ2 q
  obtain ⟨C, Tf, hc, hin, hty, hnm, hj, hlk, hfin, rfl⟩ := hF
  have h0 : a ≠ 0 := shp_pk hs (by decide)
  have hts := K.2.2.2.2.1
  have hap := va_apart (own := own) hts hin (tyO ci) hty hnm K.2.2.2.2.2.1.1 hc
  obtain ⟨r9, h1, cell, q1, q2, q3, q4⟩ := hW.1 _ _ (wL_a h0 ha (cel_obj hs))
  have hr : r9 = (C, Tf, nfO ci) := Option.some.inj (h1.symm.trans hc)
  subst hr
  obtain ⟨hS9, hfc, kC, hkC, hkind⟩ := K.2.2.2.2.2.1.1.1 ci _ hc
  obtain ⟨cf, kf, fi, f, hi, hsl⟩ := hS9 j hj
  have hlay := hts _ (hin _ (u_in_lay hj))
  unfold u_lay at hlay
  rw [if_pos hfin] at hlay
  have hst := (u_facts hfc hkC (u_lays hts hin hj) hi).1
  have hcf : m.cls = cf := by
    obtain ⟨_, _, c', _, _, _, -, -, hf', -, -, -, hown2, -⟩ := Cond.laysFinal_spec hlay
    have e1 : c' = cf := by have := hi.symm.trans hf'; simp at this; exact this.1.symm
    rw [hde C Tf hc] at hown2
    rw [← e1]; exact Option.some.inj (K.2.2.2.1.symm.trans hown2)
  have h6 := u_fits hfc hkC hkind (Or.inr hlay) hi (hty j hj) hn hfit
  refine W.putFinK K.1 K.2.1 K.2.2.2.1 (hts _ hlk) hi hst hcf hmn (by rw [q2]; exact h6) q1 q3 (by rw [hsl]; exact k2_hasslot (q4 j hj)) rfl rfl hdg fun H1 e1 e2 e3 => ?_
  rw [hsl] at e1 ⊢
  refine k ls H1 _ hl (hW.upd h0 ha e2 e3 (cel_obj hs) ho ?_) (hL1 hL) (hS.put e2 e3 (Nat.lt_add_of_pos_right (Nat.pos_of_ne_zero h0))) r μ2 q
  refine ⟨_, hc, t_OB.to (V := updV (vp_V (fldL cx.2.2.1 (gI μ a) (gL μ a) (gR μ a) ci)) j v) ⟨_, e1, q2, q3, t_set q4 hap hj v⟩ (fun i _ => ?_)⟩
  rw [hf]
  exact vp_updV_set (by rw [fldL_len]; exact hj) v i
theorem T_putFR (K : Kx p s m args c cc nL own cx) {ci j a ix x : Nat} {ty : FieldType} {G : Mm → Option (β × Mm)} (hmn : meth.name = "<init>") (hI : ∀ b fi fl fr, fV b fi fl fr j ty = rV b (fr j)) (hn : ∀ a, narrow ty (.ref a) = .ref a) (hfit : ∀ a, fits ty (.ref a) = true) (hF : FD ci j own ix ty true) (hde : ∀ (C : String) (Tf : u_T), vwCl[ci]? = some (C, Tf, nfO ci) → (Tf j).1 = own) (hs : shp a = (9, ci)) (ha : a ≤ n) (hx : x ≠ 0) (hLy : ∀ μ, Ly μ) (hdg : decode cc pc = .ok (.putfield ix, 3)) (k : ∀ μ1, T p l e R s m args below meth c nL cx n Ly cells slots Q (pc + 3) lv st μ1 (G μ1)) : T p l e R s m args below meth c nL cx n Ly cells slots Q pc lv (.ref (cx.2.2.1 + x) :: .ref (cx.2.2.1 + a) :: st) μ (nm (pR μ a j x) G) := by
  have ht : tyO ci j = ty := by obtain ⟨_, _, _, _, _, _, _, _, _, h⟩ := hF; exact h
  refine T_putFV K hmn hF hde hs ha (hn _) (hfit _) ?_ (fun y h => celE_pR h) (fun _ => hLy _) hdg (k _)
  refine (fldL_set (by rw [ht, hI, gR_pR_at]; simp [rV_pos hx]) (fun i hi => ⟨rfl, by rw [gR_pR_at]; simp [hi]⟩)).symm
theorem T_putN (K : Kx p s m args c cc nL own cx) {ci j a ix : Nat} {ty : FieldType} {G : Mm → Option (β × Mm)} (hI : ∀ b fi fl fr, fV b fi fl fr j ty = rV b (fr j)) (hn : narrow ty .null = .null) (hfit : fits ty .null = true) (hF : FD ci j own ix ty false) (hs : shp a = (9, ci)) (ha : a ≤ n) (hLy : ∀ μ, Ly μ) (hdg : decode cc pc = .ok (.putfield ix, 3)) (k : ∀ μ1, T p l e R s m args below meth c nL cx n Ly cells slots Q (pc + 3) lv st μ1 (G μ1)) : T p l e R s m args below meth c nL cx n Ly cells slots Q pc lv (.null :: .ref (cx.2.2.1 + a) :: st) μ (nm (pR μ a j 0) G) := by
  have ht : tyO ci j = ty := by obtain ⟨_, _, _, _, _, _, _, _, _, h⟩ := hF; exact h
  refine T_putV K hF hs ha hn hfit ?_ (fun y h => celE_pR h) (fun _ => hLy _) hdg (k _)
  refine (fldL_set (by rw [ht, hI, gR_pR_at]; simp [rV]) (fun i hi => ⟨rfl, by rw [gR_pR_at]; simp [hi]⟩)).symm
theorem T_acn (K : Kx p s m args c cc nL own cx) (hdg : decode cc pc = .ok (.aconst_null, 1)) (k : T p l e R s m args below meth c nL cx n Ly cells slots Q (pc + 1) lv (.null :: st) μ F) : T p l e R s m args below meth c nL cx n Ly cells slots Q pc lv st μ F :=
  T_of (fun _ _ _ _ q => lv_null K.1 K.2.1 hdg q) (fun _ q => q) k
/-- a constructor called -/
theorem T_callI {G : Unit → Mm → Option (β × Mm)} {Fc : Option (Unit × Mm)} {y : MethodName} {bytes : ByteArray} {maxL np ix a n2 mc ms : Nat} {rm : Room} (As rest : List Value) {st0 : List Value} (K : Kx p s m args c cc nL own cx) (hdg : decode cc pc = .ok (.invokespecial ix, 3)) (hw : MW y bytes maxL none np) (hyn : y.name = "<init>") (hli : Cond.methodLink own ix y ∈ WA) (hin : Cond.instanceMethod y ∈ WA) (hR : (rm.frames + 1 ≤ R.frames ∧ 8 + (maxL + 11) + rm.locals ≤ R.locals) ∧ rm.cells = mc ∧ rm.slots = ms ∧ cells + mc ≤ R.cells ∧ slots + ms ≤ R.slots ∧ n ≤ n2) (hlen : As.length = np) (hst : st0 = As.reverse ++ .ref (cx.2.2.1 + a) :: rest) (hrest : (rest.map fun v => v.category).sum ≤ 8) (hM : MT l y bytes maxL none rm cx n n2 Ly cvV mc ms (.ref (cx.2.2.1 + a) :: As) μ Fc) (k : ∀ μ1, Fc = some ((), μ1) → T p l e R s m args below meth c nL cx n2 Ly (cells + mc) (slots + ms) Q (pc + 3) lv rest μ1 (G () μ1)) : T p l e R s m args below meth c nL cx n Ly cells slots Q pc lv st0 μ (bnd Fc G) := by
  intro ls H locs hl hW hL hS r μ2 q
  obtain ⟨x, μ1, hF, hG⟩ := bnd_spec q
  have hts := K.2.2.2.2.1
  obtain ⟨⟨hR1, hR2⟩, hR3, hR4, hR5, hR6, hR7⟩ := hR
  have cb := callB_of (R := R) (own := own) (index := ix) np hts (goodAll hw.1) rfl hR3 hR4 (hts _ hw.2.1) (hts _ hli) hw.2.2 ⟨hR1, hR2⟩
  exact T_run (ov := none) (va_runI (As := As) (rest := rest) ⟨K.1, K.2.1, K.2.2.1, K.2.2.2.1, hts⟩ (hM x μ1 hF) ⟨cb, hyn, hts _ hin⟩ ⟨PcM.blind, fun U hU hWm => ⟨rfl, by rw [hU]; exact hW, K.2.2.2.2.2.1.warm hWm, hL⟩⟩ rfl hlen hl.1 hst (lv_room hrest) hdg ⟨hR5, hR6⟩) hW hR7 K.2.2.2.2.2.2 hS (fun H1 locs1 hW1 hL1 hS1 => k μ1 hF ls H1 locs1 hl hW1 hL1 hS1 r μ2 hG)
theorem T_callN {G : Unit → Mm → Option (β × Mm)} {Fc : Option (Unit × Mm)} {y : MethodName} {bytes : ByteArray} {maxL np ix a n2 mc ms : Nat} {rm : Room} {host : String} (As rest : List Value) {st0 : List Value} (K : Kx p s m args c cc nL own cx) (hdg : decode cc pc = .ok (.invokespecial ix, 3)) (hw : MW y bytes maxL none np) (hyn : y.name = "<init>") (hli : XW s → va_Nw (.methodLinkNest own ix y host) s) (hin : Cond.instanceMethod y ∈ WA) (hR : (rm.frames + 1 ≤ R.frames ∧ 8 + (maxL + 11) + rm.locals ≤ R.locals) ∧ rm.cells = mc ∧ rm.slots = ms ∧ cells + mc ≤ R.cells ∧ slots + ms ≤ R.slots ∧ n ≤ n2) (hlen : As.length = np) (hst : st0 = As.reverse ++ .ref (cx.2.2.1 + a) :: rest) (hrest : (rest.map fun v => v.category).sum ≤ 8) (hM : MT l y bytes maxL none rm cx n n2 Ly cvV mc ms (.ref (cx.2.2.1 + a) :: As) μ Fc) (k : ∀ μ1, Fc = some ((), μ1) → T p l e R s m args below meth c nL cx n2 Ly (cells + mc) (slots + ms) Q (pc + 3) lv rest μ1 (G () μ1)) : T p l e R s m args below meth c nL cx n Ly cells slots Q pc lv st0 μ (bnd Fc G) := by
  intro ls H locs hl hW hL hS r μ2 q
  obtain ⟨x, μ1, hF, hG⟩ := bnd_spec q
  have hts := K.2.2.2.2.1
  obtain ⟨⟨hR1, hR2⟩, hR3, hR4, hR5, hR6, hR7⟩ := hR
  have cb := va_cnB (R := R) (own := own) (host := host) (index := ix) (bytes := bytes) (maxL := maxL) (ret := none) (rm := rm) np hts (goodAll hw.1) rfl hR3 hR4 (hli K.2.2.2.2.2.1.2.2.2.2) (hts _ hw.2.1) hw.2.2 ⟨hR1, hR2⟩
  exact T_run (ov := none) (va_runIN (As := As) (rest := rest) ⟨K.1, K.2.1, K.2.2.1, K.2.2.2.1, hts⟩ (hM x μ1 hF) ⟨cb, hyn, hts _ hin⟩ ⟨PcM.blind, fun U hU hWm => ⟨rfl, by rw [hU]; exact hW, K.2.2.2.2.2.1.warm hWm, hL⟩⟩ rfl hlen hl.1 hst (lv_room hrest) hdg ⟨hR5, hR6⟩) hW hR7 K.2.2.2.2.2.2 hS (fun H1 locs1 hW1 hL1 hS1 => k μ1 hF ls H1 locs1 hl hW1 hL1 hS1 r μ2 hG)
end TC
