/-! THE MEMORY AS A PURE VALUE, AND THE JUDGEMENT T: 'F says some (r, μ1)' carries the machine to an end that answers r and leaves μ1 -/
abbrev Mm : Type := ((Nat → Nat → Int32) × (Nat → Nat → Int64)) × (Nat → Nat → Nat)
def gI (μ : Mm) (a j : Nat) : Int32 := μ.1.1 a j
def gL (μ : Mm) (a j : Nat) : Int64 := μ.1.2 a j
def gR (μ : Mm) (a j : Nat) : Nat := μ.2 a j
def u2 {α : Type} (f : Nat → Nat → α) (a j : Nat) (v : α) : Nat → Nat → α := fun x y => if x = a ∧ y = j then v else f x y
def pI (μ : Mm) (a j : Nat) (v : Int32) : Mm := ((u2 μ.1.1 a j v, μ.1.2), μ.2)
def pL (μ : Mm) (a j : Nat) (v : Int64) : Mm := ((μ.1.1, u2 μ.1.2 a j v), μ.2)
def pR (μ : Mm) (a j : Nat) (v : Nat) : Mm := (μ.1, u2 μ.2 a j v)
/-- a whole row of ints anew -/
def rI (μ : Mm) (a : Nat) (f : Nat → Int32) : Mm := ((fun x y => if x = a then f y else μ.1.1 x y, μ.1.2), μ.2)
def iI (z : Int) : Int32 := Int32.ofInt z
def iL (z : Int) : Int64 := Int64.ofInt z
def rV (b x : Nat) : Value := if x = 0 then .null else .ref (b + x)
def rO (b x : Nat) : Option Nat := if x = 0 then none else some (b + x)
theorem rf_rO (b x : Nat) : va_rf (rO b x) = rV b x := by
  unfold rO rV
  by_cases h : x = 0 <;> simp [h, va_rf]
theorem rV_pos {b x : Nat} (h : x ≠ 0) : rV b x = .ref (b + x) := if_neg h
def fV (b : Nat) (fi : Nat → Int32) (fl : Nat → Int64) (fr : Nat → Nat) (j : Nat) (ty : FieldType) : Value := match ty with
  | .object _ => rV b (fr j)
  | .array _ => rV b (fr j)
  | .long => .long (fl j)
  | _ => .int (fi j)
def tyO : Nat → Nat → FieldType := fun ci => match ci with
  | 0 => tyX0
  | 1 => tyX1
  | 2 => tyX2
  | 3 => tyX3
  | 4 => tyX4
  | 5 => tyX5
  | 6 => tyX6
  | 7 => tyX7
  | _ => tyX8
def nfO : Nat → Nat := fun ci => match ci with
  | 0 => 5
  | 1 => 6
  | 2 => 11
  | 3 => 6
  | 4 => 7
  | 5 => 3
  | 6 => 5
  | 7 => 9
  | _ => 9
def fldL (b : Nat) (fi : Nat → Int32) (fl : Nat → Int64) (fr : Nat → Nat) (ci : Nat) : List Value := (List.range (nfO ci)).map (fun j => fV b fi fl fr j (tyO ci j))
theorem fldL_at {b : Nat} {fi : Nat → Int32} {fl : Nat → Int64} {fr : Nat → Nat} {ci j : Nat} (h : j < nfO ci) : (fldL b fi fl fr ci)[j]? = some (fV b fi fl fr j (tyO ci j)) := by
  unfold fldL
  rw [List.getElem?_map, List.getElem?_range h]
  rfl
theorem fldL_no {b : Nat} {fi : Nat → Int32} {fl : Nat → Int64} {fr : Nat → Nat} {ci j : Nat} (h : nfO ci ≤ j) : (fldL b fi fl fr ci)[j]? = none := by
  unfold fldL
  rw [List.getElem?_eq_none_iff]
  simpa using h
theorem fldL_len {b : Nat} {fi : Nat → Int32} {fl : Nat → Int64} {fr : Nat → Nat} {ci : Nat} : (fldL b fi fl fr ci).length = nfO ci := by simp [fldL]
theorem fldL_set {b : Nat} {fi fi' : Nat → Int32} {fl : Nat → Int64} {fr fr' : Nat → Nat} {ci j : Nat} {v : Value} (hv : fV b fi' fl fr' j (tyO ci j) = v) (ho : ∀ k, k ≠ j → fi' k = fi k ∧ fr' k = fr k) : (fldL b fi fl fr ci).set j v = fldL b fi' fl fr' ci := by
  apply List.ext_getElem?
  intro k
  rw [List.getElem?_set]
  by_cases hk : k < nfO ci
  · by_cases h : j = k
    · subst h
      rw [if_pos rfl, if_pos (by rw [fldL_len]; exact hk), fldL_at hk, hv]
    · rw [if_neg h, fldL_at hk, fldL_at hk]
      unfold fV
      rw [(ho k (fun q => h q.symm)).1, (ho k (fun q => h q.symm)).2]
  · rw [fldL_no (by omega), fldL_no (by omega)]
    by_cases h : j = k
    · subst h
      rw [if_pos rfl, if_neg (by rw [fldL_len]; exact hk)]
    · rw [if_neg h]
/-- what lies at a cell: 1 int[], 2 byte[], 3 char[], 4 short[], 5 long[], 6 rows of objects of a kind, 7 rows of long rows, 8 rows of int rows, 9 an object of a kind, 10 int[] whose length stands in the memory -/
def celR (ar : Nat → ClassId) (b : Nat) (fi : Nat → Int32) (fl : Nat → Int64) (fr : Nat → Nat) (k : Nat × Nat) : va_E := match k with
  | (9, ci) => .inr (ci, fldL b fi fl fr ci)
  | (5, n) => .inl (ar 5, n, .inr (.inl fl))
  | (6, n) => .inl (ar 6, n, .inr (.inr (.inr (.inr (fun j => rO b (fr j))))))
  | (7, n) => .inl (ar 7, n, .inr (.inr (.inr (.inr (fun j => rO b (fr j))))))
  | (8, n) => .inl (ar 8, n, .inr (.inr (.inr (.inr (fun j => rO b (fr j))))))
  | (10, _) => .inl (ar 1, fr 0, .inl fi)
  | (k, n) => .inl (ar k, n, .inl fi)
def celE (ar : Nat → ClassId) (b : Nat) (μ : Mm) (a : Nat) : va_E := celR ar b (gI μ a) (gL μ a) (gR μ a) (shp a)
theorem celE_eq {ar : Nat → ClassId} {b : Nat} {μ μ1 : Mm} {a : Nat} (h1 : gI μ1 a = gI μ a) (h2 : gL μ1 a = gL μ a) (h3 : gR μ1 a = gR μ a) : celE ar b μ1 a = celE ar b μ a := by
  unfold celE
  rw [h1, h2, h3]
theorem u2_ne {α : Type} {f : Nat → Nat → α} {a j x : Nat} {v : α} (h : x ≠ a) : u2 f a j v x = f x := funext fun y => by simp [u2, h]
theorem u2_at {α : Type} {f : Nat → Nat → α} {a j : Nat} {v : α} : u2 f a j v a = fun y => if y = j then v else f a y := funext fun y => by simp [u2]
theorem gI_pI_ne {μ : Mm} {a j x : Nat} {v : Int32} (h : x ≠ a) : gI (pI μ a j v) x = gI μ x := u2_ne h
theorem gI_pI_at {μ : Mm} {a j : Nat} {v : Int32} : gI (pI μ a j v) a = fun y => if y = j then v else gI μ a y := u2_at
theorem gL_pL_ne {μ : Mm} {a j x : Nat} {v : Int64} (h : x ≠ a) : gL (pL μ a j v) x = gL μ x := u2_ne h
theorem gL_pL_at {μ : Mm} {a j : Nat} {v : Int64} : gL (pL μ a j v) a = fun y => if y = j then v else gL μ a y := u2_at
theorem gR_pR_ne {μ : Mm} {a j x : Nat} {v : Nat} (h : x ≠ a) : gR (pR μ a j v) x = gR μ x := u2_ne h
theorem gR_pR_at {μ : Mm} {a j : Nat} {v : Nat} : gR (pR μ a j v) a = fun y => if y = j then v else gR μ a y := u2_at
theorem gI_rI_ne {μ : Mm} {a x : Nat} {f : Nat → Int32} (h : x ≠ a) : gI (rI μ a f) x = gI μ x := funext fun y => by simp [gI, rI, h]
theorem gI_rI_at {μ : Mm} {a : Nat} {f : Nat → Int32} : gI (rI μ a f) a = f := funext fun y => by simp [gI, rI]
theorem cel_obj {ar : Nat → ClassId} {b : Nat} {μ : Mm} {a ci : Nat} (h : shp a = (9, ci)) : celE ar b μ a = .inr (ci, fldL b (gI μ a) (gL μ a) (gR μ a) ci) := by unfold celE; rw [h]; rfl
theorem cel_1 {ar : Nat → ClassId} {b : Nat} {μ : Mm} {a k : Nat} (h : shp a = (1, k)) : celE ar b μ a = .inl (ar 1, k, .inl (gI μ a)) := by unfold celE; rw [h]; rfl
theorem cel_10 {ar : Nat → ClassId} {b : Nat} {μ : Mm} {a k : Nat} (h : shp a = (10, k)) : celE ar b μ a = .inl (ar 1, gR μ a 0, .inl (gI μ a)) := by unfold celE; rw [h]; rfl
theorem cel_2 {ar : Nat → ClassId} {b : Nat} {μ : Mm} {a k : Nat} (h : shp a = (2, k)) : celE ar b μ a = .inl (ar 2, k, .inl (gI μ a)) := by unfold celE; rw [h]; rfl
theorem cel_3 {ar : Nat → ClassId} {b : Nat} {μ : Mm} {a k : Nat} (h : shp a = (3, k)) : celE ar b μ a = .inl (ar 3, k, .inl (gI μ a)) := by unfold celE; rw [h]; rfl
theorem cel_4 {ar : Nat → ClassId} {b : Nat} {μ : Mm} {a k : Nat} (h : shp a = (4, k)) : celE ar b μ a = .inl (ar 4, k, .inl (gI μ a)) := by unfold celE; rw [h]; rfl
theorem cel_5 {ar : Nat → ClassId} {b : Nat} {μ : Mm} {a k : Nat} (h : shp a = (5, k)) : celE ar b μ a = .inl (ar 5, k, .inr (.inl (gL μ a))) := by unfold celE; rw [h]; rfl
theorem cel_6 {ar : Nat → ClassId} {b : Nat} {μ : Mm} {a k kd : Nat} (hk : kd = 6 ∨ kd = 7 ∨ kd = 8) (h : shp a = (kd, k)) : celE ar b μ a = .inl (ar kd, k, .inr (.inr (.inr (.inr (fun j => rO b (gR μ a j)))))) := by
  unfold celE
  rw [h]
  rcases hk with rfl | rfl | rfl <;> rfl
abbrev SCT : Type := Nat × (Nat → Int32)
abbrev CX : Type := va_G × (Nat → ClassId) × Nat × Heap × Nat × SCT
def tyL (ar : Nat → ClassId) : List (ClassId × FieldType) := [(ar 0, .int), (ar 1, .int), (ar 2, .int), (ar 3, .char), (ar 4, .int), (ar 5, .long), (ar 6, .object RX2), (ar 7, .array .long), (ar 8, .array .int)]
def wL (cx : CX) (μ : Mm) (n : Nat) : va_W := (List.range n).map (fun k => (cx.2.2.1 + (k + 1), celE cx.2.1 cx.2.2.1 μ (k + 1)))
theorem wL_at {cx : CX} {μ : Mm} {n k : Nat} (h : k < n) : (wL cx μ n)[k]? = some (cx.2.2.1 + (k + 1), celE cx.2.1 cx.2.2.1 μ (k + 1)) := by
  unfold wL
  rw [List.getElem?_map, List.getElem?_range h]
  rfl
theorem wL_a {cx : CX} {μ : Mm} {n a : Nat} {x : va_E} (h0 : a ≠ 0) (h : a ≤ n) (hx : celE cx.2.1 cx.2.2.1 μ a = x) : (wL cx μ n)[a - 1]? = some (cx.2.2.1 + a, x) := by
  rw [wL_at (by omega : a - 1 < n), show a - 1 + 1 = a by omega, hx]
theorem wL_none {cx : CX} {μ : Mm} {n k : Nat} (h : n ≤ k) : (wL cx μ n)[k]? = none := by
  unfold wL
  rw [List.getElem?_eq_none_iff]
  simpa using h
theorem wL_D (cx : CX) (μ : Mm) (n : Nat) : va_D (fun q => cx.2.2.1 < q) (wL cx μ n) := by
  refine ⟨fun i j p q hi hj e => ?_, fun k q hk => ?_⟩
  · by_cases h1 : i < n
    · by_cases h2 : j < n
      · rw [wL_at h1] at hi
        rw [wL_at h2] at hj
        cases hi; cases hj
        have e : cx.2.2.1 + (i + 1) = cx.2.2.1 + (j + 1) := e
        omega
      · rw [wL_none (by omega)] at hj; cases hj
    · rw [wL_none (by omega)] at hi; cases hi
  · by_cases h1 : k < n
    · rw [wL_at h1] at hk
      cases hk
      show cx.2.2.1 < cx.2.2.1 + (k + 1)
      omega
    · rw [wL_none (by omega)] at hk; cases hk
theorem wL_set {cx : CX} {μ μ1 : Mm} {n a : Nat} {x : va_E} (h0 : a ≠ 0) (he : celE cx.2.1 cx.2.2.1 μ1 a = x) (ho : ∀ y, y ≠ a → celE cx.2.1 cx.2.2.1 μ1 y = celE cx.2.1 cx.2.2.1 μ y) : (wL cx μ n).set (a - 1) (cx.2.2.1 + a, x) = wL cx μ1 n := by
  obtain ⟨k, rfl⟩ : ∃ k, a = k + 1 := ⟨a - 1, by omega⟩
  rw [show k + 1 - 1 = k by omega]
  apply List.ext_getElem?
  intro i
  by_cases hi : i < n
  · rw [wL_at hi, List.getElem?_set]
    by_cases hk : k = i
    · subst hk
      rw [if_pos rfl, if_pos (by simp [wL]; exact hi), he]
    · rw [if_neg hk, wL_at hi, ho (i + 1) (by omega)]
  · rw [wL_none (by omega), List.getElem?_set]
    by_cases hk : k = i
    · subst hk
      rw [if_pos rfl, if_neg (by simp [wL]; omega)]
    · rw [if_neg hk, wL_none (by omega)]
/-- the world: the cells of μ behind the address b, nothing below changed -/
def Wd (cx : CX) (n : Nat) (μ : Mm) (H : Heap) : Prop := va_P cx.1 vwCl (wL cx μ n) H ∧ H.size = cx.2.2.1 + n + 1 ∧ ∀ q, q ≤ cx.2.2.1 → H[q]? = cx.2.2.2.1[q]?
/-- what only constructors need of the tables -/
def AOA (ty : FieldType) (U : State) : Prop := (Cond.arrayOver (.array ty)).before #[] U = true
theorem AOA.moved {ty : FieldType} {u U : State} (hvm : u.vm.Alike U.vm) (h : AOA ty u) : AOA ty U := by
  obtain ⟨comp, c, k, h1, h2, h3, h4, h5⟩ := arrayOverA_spec h
  obtain ⟨k', hk', he⟩ := hvm.2.2 _ _ h3
  have hi : (U.vm.classes.findIdx? fun (x : Class) => match x.kind with | .array component _ => component == comp | _ => false) = some c := by
    have e1 := va_idx_bare u.vm comp
    have e2 := va_idx_bare U.vm comp
    first | rw [hvm.bare_eq] at e1 | rw [← hvm.bare_eq] at e1
    exact (e2.symm.trans e1).trans h2
  have hkind : k'.kind = .array comp (.array ty) := by rw [he]; exact h4
  have f1 : U.vm.findClass (FieldType.array ty).toString = some comp := by rw [hvm.findClass]; exact h1
  have f2 : U.vm.findClass ("[" ++ (FieldType.array ty).toString) = some c := by rw [hvm.findClass]; exact h5
  unfold AOA Cond.before Cond.holds
  simp only [Cond.value]
  rw [f1, Option.bind_some]
  refine (congrArg (fun o : Option Nat => (o.bind (fun c => (U.vm.classes[c]?).map fun (k : Class) => match k.kind with | .array _ t => decide (t = FieldType.array ty) && decide (U.vm.findClass ("[" ++ (FieldType.array ty).toString) = some c) | _ => false) == some true)) hi).trans ?_
  simp [hk', hkind, f2]
def XW (U : State) : Prop := (va_AO RX2 U ∧ AOA .long U ∧ AOA .int U) ∧ va_Nw (.methodLinkNest RX8 18 yX1_init RX8) U ∧ va_Nw (.methodLinkNest RX8 25 yX6_init RX8) U ∧ va_Nw (.methodLinkNest RX8 51 yX0_init RX8) U
theorem XW.warm {s U : State} (hW : s.WarmedH U.vm) (h : XW s) : XW U := ⟨⟨va_AO.moved hW.alike h.1.1, h.1.2.1.moved hW.alike, h.1.2.2.moved hW.alike⟩, va_Nw.warmM hW h.2.1, va_Nw.warmM hW h.2.2.1, va_Nw.warmM hW h.2.2.2⟩
theorem XW.same {u U : State} (hv : u.vm = U.vm) (h : XW u) : XW U := by
  have ha : u.vm.Alike U.vm := by rw [hv]; exact Vm.Alike.refl _
  exact ⟨⟨va_AO.moved ha h.1.1, h.1.2.1.moved ha, h.1.2.2.moved ha⟩, va_Nw.same rfl hv h.2.1, va_Nw.same rfl hv h.2.2.1, va_Nw.same rfl hv h.2.2.2⟩
/-- the script, and what only constructors need -/
def ZS (cx : CX) (U : State) : Prop :=
  (va_X cx.2.2.2.2.1 cx.2.2.2.2.2.1 cx.2.2.2.2.2.2 U cx.2.2.2.1 ∧ cx.2.2.2.2.1 ≤ cx.2.2.1) ∧ True ∧ cx.2.2.1 < cx.2.2.2.1.size ∧ XW U
theorem ZS.by {cx : CX} {u U : State} (hvm : u.vm.Alike U.vm) (hx : XW u → XW U) (h : ZS cx u) : ZS cx U :=
  ⟨⟨h.1.1.moved hvm, h.1.2⟩, trivial, h.2.2.1, hx h.2.2.2⟩
def KN (cx : CX) (U : State) : Prop := va_K cx.1 vwCl (tyL cx.2.1) U ∧ ZS cx U
theorem KN.warm {cx : CX} {s U : State} (hW : s.WarmedH U.vm) (h : KN cx s) : KN cx U := ⟨va_K.moved hW.alike h.1, h.2.by hW.alike (XW.warm hW)⟩
theorem KN.same {cx : CX} {u U : State} (hv : u.vm = U.vm) (h : KN cx u) : KN cx U := by
  have ha : u.vm.Alike U.vm := by rw [hv]; exact Vm.Alike.refl _
  exact ⟨va_K.moved ha h.1, h.2.by ha (XW.same hv)⟩
/-- the references that never change once all is made -/
def Lay (μ : Mm) : Prop := (∀ a ci j x, shp a = (9, ci) → sref ci a j = some x → gR μ a j = x) ∧ ∀ a j x, aref a j = some x → gR μ a j = x
abbrev wAll (y : MethodName) (cc : ByteArray) (nL : Nat) (ret : Option FieldType) : List Cond := .code y cc nL ret :: WA
def PcM (cx : CX) (n : Nat) (Ly : Mm → Prop) (av : List Value) (μ : Mm) : Array Value → State → Prop := fun v U => v = av.toArray ∧ Wd cx n μ U.heap ∧ KN cx U ∧ Ly μ
def QcM (cx : CX) (n : Nat) (Ly : Mm → Prop) (ov : Option Value) (μ : Mm) : Array Value → State → Outcome → State → Prop := fun _ _ o t => o = .returned ov ∧ Wd cx n μ t.heap ∧ Ly μ
theorem PcM.blind {cx : CX} {n : Nat} {Ly : Mm → Prop} {av : List Value} {μ : Mm} : FrameBlind (PcM cx n Ly av μ) := fun a U g mk q => ⟨q.1, q.2.1, KN.same (u := U) (U := U.calling g mk a) rfl q.2.2.1, q.2.2.2⟩
/-- what a walk knows of its method -/
def Kx (p : Program) (s : State) (m : MethodId) (args : Array Value) (c : Code) (cc : ByteArray) (nL : Nat) (own : String) (cx : CX) : Prop :=
  p.tables.exec = Jvm.exec ∧ c.code = cc ∧ c.maxLocals = nL ∧ s.vm.findClass own = some m.cls ∧ (∀ w ∈ WA, w.before args s = true) ∧ KN cx s ∧ cx.2.2.1 < s.heap.size
def T {β : Type} (p : Program) (l : Launch) (e : Env) (R : Room) (s : State) (m : MethodId) (args : Array Value) (below : List Frame) (meth : Method) (c : Code) (nL : Nat) (cx : CX) (n : Nat) (Ly : Mm → Prop) (cells slots : Nat) (Q : β → Mm → State → Prop) (pc : Nat) (lv : List (Nat × Value)) (st : List Value) (μ : Mm) (F : Option (β × Mm)) : Prop :=
  ∀ (ls : Array Slot) (H : Heap) (locs : List Loc), lv_has ls nL lv → Wd cx n μ H → Ly μ → va_S (fun q => cx.2.2.1 < q) s.heap H locs → ∀ (r : β) (μ1 : Mm), F = some (r, μ1) → W p l e R s m args below meth c H locs cells slots (Q r μ1) (F0 m pc ls st)
/-- a value by name -/
def nm {α β : Type} (v : α) (G : α → β) : β := G v
/-- a place in a row of n -/
def rd {β : Type} (n : Nat) (i : Int32) (G : Nat → Option β) : Option β := if 0 ≤ i.toInt ∧ i.toInt < n then G i.toInt.toNat else none
def bnd {γ β : Type} (F : Option (γ × Mm)) (G : γ → Mm → Option β) : Option β := match F with
  | none => none
  | some q => G q.1 q.2
def rz (v : Int32) (μ : Mm) : Option (Int32 × Mm) := if v = iI 0 ∨ v = iI 1 then some (v, μ) else none
def dvI {β : Type} (x y : Int32) (G : Int32 → Option β) : Option β := if y = iI 0 then none else G (x / y)
def rmI {β : Type} (x y : Int32) (G : Int32 → Option β) : Option β := if y = iI 0 then none else G (x - x / y * y)
theorem rd_spec {β : Type} {n : Nat} {i : Int32} {G : Nat → Option β} {r : β} (h : rd n i G = some r) : vp_in i n ∧ G i.toNatClampNeg = some r := by
  unfold rd at h
  split at h
  · next q => exact ⟨vp_in_iff.mpr q, h⟩
  · cases h
theorem bnd_spec {γ β : Type} {F : Option (γ × Mm)} {G : γ → Mm → Option β} {r : β} (h : bnd F G = some r) : ∃ x μ, F = some (x, μ) ∧ G x μ = some r := by
  unfold bnd at h
  split at h
  · cases h
  · next q => exact ⟨q.1, q.2, rfl, h⟩
/-- a write to a place of a row of n -/
def wrI {β : Type} (n : Nat) (μ : Mm) (a : Nat) (i v : Int32) (G : Mm → Option β) : Option β := if 0 ≤ i.toInt ∧ i.toInt < n then G (pI μ a i.toInt.toNat v) else none
def wrL {β : Type} (n : Nat) (μ : Mm) (a : Nat) (i : Int32) (v : Int64) (G : Mm → Option β) : Option β := if 0 ≤ i.toInt ∧ i.toInt < n then G (pL μ a i.toInt.toNat v) else none
/-- a boolean that is 0 or 1 -/
def zb {β : Type} (v : Int32) (G : Option β) : Option β := if v = iI 0 ∨ v = iI 1 then G else none
/-- a reference that isn't null -/
def gd {β : Type} (x : Nat) (G : Nat → Option β) : Option β := if x = 0 then none else G x
def nB (v : Int32) : Int32 := v.toInt8.toInt32
def nS (v : Int32) : Int32 := v.toInt16.toInt32
def nC (v : Int32) : Int32 := v.toUInt32.toUInt16.toUInt32.toInt32
def cpI {β : Type} (n0 n1 : Nat) (μ : Mm) (a0 : Nat) (sp : Int32) (a1 : Nat) (dp k : Int32) (G : Mm → Option β) : Option β := if 0 ≤ sp.toInt ∧ 0 ≤ dp.toInt ∧ 0 ≤ k.toInt ∧ sp.toInt + k.toInt ≤ n0 ∧ dp.toInt + k.toInt ≤ n1 then G (rI μ a1 (va_cpy (gI μ a0) (gI μ a1) sp.toInt.toNat dp.toInt.toNat k.toInt.toNat)) else none
def LyI (Ly : Mm → Prop) : Prop := (∀ μ a j v, Ly μ → Ly (pI μ a j v)) ∧ (∀ μ a j v, Ly μ → Ly (pL μ a j v)) ∧ ∀ μ a f, Ly μ → Ly (rI μ a f)
theorem LyI_Lay : LyI Lay := ⟨fun _ _ _ _ h => h, fun _ _ _ _ h => h, fun _ _ _ h => h⟩
theorem LyI_T : LyI (fun _ => True) := ⟨fun _ _ _ _ h => h, fun _ _ _ _ h => h, fun _ _ _ h => h⟩
theorem Lay_pR {μ : Mm} {a ci j v : Nat} (h : Lay μ) (hs : shp a = (9, ci)) (hd : ∀ x, sref ci x j = none) (ha : ∀ k, aref a k = none) : Lay (pR μ a j v) := by
  refine ⟨fun a2 c2 j2 x h1 h2 => ?_, fun a2 j2 x h1 => ?_⟩
  · show u2 μ.2 a j v a2 j2 = x
    unfold u2
    split
    · next q =>
      obtain ⟨rfl, rfl⟩ := q
      rw [hs] at h1
      cases h1
      rw [hd] at h2
      cases h2
    · exact h.1 a2 c2 j2 x h1 h2
  · show u2 μ.2 a j v a2 j2 = x
    unfold u2
    split
    · next q =>
      obtain ⟨rfl, rfl⟩ := q
      rw [ha] at h1
      cases h1
    · exact h.2 a2 j2 x h1
