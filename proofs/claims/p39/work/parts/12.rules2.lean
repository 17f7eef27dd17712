/-! THE ROWS OF T, second: fields, rows written, returns, calls, switches -/
def FD (ci j : Nat) (own : String) (ix : Nat) (ty : FieldType) (fin : Bool) : Prop := ∃ (C : String) (Tf : u_T), vwCl[ci]? = some (C, Tf, nfO ci) ∧ (∀ w ∈ u_ws C Tf (nfO ci), w ∈ WA) ∧ (∀ k, k < nfO ci → parseFieldDescriptor (Tf k).2.2.1 = some (tyO ci k)) ∧ (∀ a, a < nfO ci → ∀ b, b < nfO ci → a ≠ b → (Tf a).2.1 ≠ (Tf b).2.1) ∧ j < nfO ci ∧ Cond.fieldLink own ix (Tf j).1 (Tf j).2.1 (Tf j).2.2.1 ∈ WA ∧ (Tf j).2.2.2 = fin ∧ tyO ci j = ty
section TR2
variable {β : Type} {p : Program} {l : Launch} {e : Env} {R : Room} {s : State} {m : MethodId} {args : Array Value} {below : List Frame} {meth : Method} {c : Code} {nL : Nat} {cx : CX} {n : Nat} {Ly : Mm → Prop} {cells slots : Nat} {Q : β → Mm → State → Prop} {pc : Nat} {lv : List (Nat × Value)} {st : List Value} {μ : Mm} {F : Option (β × Mm)} {cc : ByteArray} {own : String}
theorem T_getV (K : Kx p s m args c cc nL own cx) {ci j a ix : Nat} {ty : FieldType} {fin : Bool} {v : Value} (hF : FD ci j own ix ty fin) (hs : shp a = (9, ci)) (ha : a ≤ n) (hv : Ly μ → fV cx.2.2.1 (gI μ a) (gL μ a) (gR μ a) j ty = v) (hdg : decode cc pc = .ok (.getfield ix, 3)) (k : T p l e R s m args below meth c nL cx n Ly cells slots Q (pc + 3) lv (v :: st) μ F) : T p l e R s m args below meth c nL cx n Ly cells slots Q pc lv (.ref (cx.2.2.1 + a) :: st) μ F := by
  intro ls H locs hl hW hL hS r μ1 q
  obtain ⟨C, Tf, hc, hin, -, -, hj, hlk, -, rfl⟩ := hF
  exact va_get K.1 K.2.1 (Ts := WA) K.2.2.2.2.1 hin K.2.2.2.1 K.2.2.2.2.2.1.1 hW.1 (a - 1) (wL_a (shp_pk hs (by decide)) ha (cel_obj hs)) hc j hj (K.2.2.2.2.1 _ hlk) (fun _ h => h) (v := v) (by rw [fldL_at hj, hv hL]) hdg (k ls H locs hl hW hL hS r μ1 q)
theorem T_getI (K : Kx p s m args c cc nL own cx) {ci j a ix : Nat} {ty : FieldType} {fin : Bool} (hF : FD ci j own ix ty fin) (hI : ∀ b fi fl fr, fV b fi fl fr j ty = .int (fi j)) (hs : shp a = (9, ci)) (ha : a ≤ n) (hdg : decode cc pc = .ok (.getfield ix, 3)) (k : T p l e R s m args below meth c nL cx n Ly cells slots Q (pc + 3) lv (.int (gI μ a j) :: st) μ F) : T p l e R s m args below meth c nL cx n Ly cells slots Q pc lv (.ref (cx.2.2.1 + a) :: st) μ F :=
  T_getV K hF hs ha (fun _ => hI _ _ _ _) hdg k
theorem T_getR (K : Kx p s m args c cc nL own cx) {ci j a ix x : Nat} {ty : FieldType} {fin : Bool} (hF : FD ci j own ix ty fin) (hI : ∀ b fi fl fr, fV b fi fl fr j ty = rV b (fr j)) (hs : shp a = (9, ci)) (ha : a ≤ n) (hLy : ∀ μ, Ly μ → Lay μ) (hr : sref ci a j = some x) (hx : x ≠ 0) (hdg : decode cc pc = .ok (.getfield ix, 3)) (k : T p l e R s m args below meth c nL cx n Ly cells slots Q (pc + 3) lv (.ref (cx.2.2.1 + x) :: st) μ F) : T p l e R s m args below meth c nL cx n Ly cells slots Q pc lv (.ref (cx.2.2.1 + a) :: st) μ F :=
  T_getV K hF hs ha (fun h => by rw [hI, (hLy μ h).1 a ci j x hs hr, rV_pos hx]) hdg k
/-- a reference that may change: it must not be null -/
theorem T_getD (K : Kx p s m args c cc nL own cx) {ci j a ix : Nat} {ty : FieldType} {fin : Bool} {G : Nat → Option (β × Mm)} (hF : FD ci j own ix ty fin) (hI : ∀ b fi fl fr, fV b fi fl fr j ty = rV b (fr j)) (hs : shp a = (9, ci)) (ha : a ≤ n) (hdg : decode cc pc = .ok (.getfield ix, 3)) (k : ∀ x, T p l e R s m args below meth c nL cx n Ly cells slots Q (pc + 3) lv (.ref (cx.2.2.1 + x) :: st) μ (G x)) : T p l e R s m args below meth c nL cx n Ly cells slots Q pc lv (.ref (cx.2.2.1 + a) :: st) μ (gd (gR μ a j) G) := by
  by_cases hx : gR μ a j = 0
  · intro ls H locs hl hW hL hS r μ1 q
    unfold gd at q
    rw [if_pos hx] at q
    cases q
  · unfold gd
    rw [if_neg hx]
    exact T_getV K hF hs ha (fun _ => by rw [hI, rV_pos hx]) hdg (k _)
/-- a reference read, and asked whether it is null -/
theorem T_getN (K : Kx p s m args c cc nL own cx) {ci j a ix tgt : Nat} {off : Int} {ty : FieldType} {fin : Bool} {A B : Option (β × Mm)} (hF : FD ci j own ix ty fin) (hI : ∀ b fi fl fr, fV b fi fl fr j ty = rV b (fr j)) (hs : shp a = (9, ci)) (ha : a ≤ n) (hdg : decode cc pc = .ok (.getfield ix, 3)) (hdg2 : decode cc (pc + 3) = .ok (.ifnull off, 3)) (ht : ((pc + 3 : Nat) : Int) + off = (tgt : Int)) (k1 : T p l e R s m args below meth c nL cx n Ly cells slots Q tgt lv st μ A) (k2 : T p l e R s m args below meth c nL cx n Ly cells slots Q (pc + 3 + 3) lv st μ B) : T p l e R s m args below meth c nL cx n Ly cells slots Q pc lv (.ref (cx.2.2.1 + a) :: st) μ (if gR μ a j = 0 then A else B) := by
  by_cases hx : gR μ a j = 0
  · rw [if_pos hx]
    refine T_getV K hF hs ha (v := .null) (fun _ => by rw [hI, hx]; rfl) hdg ?_
    exact T_of (fun _ _ _ _ q => lv_ifnullN K.1 K.2.1 hdg2 ht q) (fun _ q => q) k1
  · rw [if_neg hx]
    refine T_getV K hF hs ha (v := .ref (cx.2.2.1 + gR μ a j)) (fun _ => by rw [hI, rV_pos hx]) hdg ?_
    exact T_of (fun _ _ _ _ q => lv_ifnull K.1 K.2.1 hdg2 q) (fun _ q => q) k2
/-- the world behind a write to one cell -/
theorem Wd.upd {μ1 : Mm} {a : Nat} {x : va_E} {H H1 : Heap} (h : Wd cx n μ H) (h0 : a ≠ 0) (ha : a ≤ n) (z : H1.size = H.size) (oq : ∀ q, q ≠ cx.2.2.1 + a → H1[q]? = H[q]?) (hx : celE cx.2.1 cx.2.2.1 μ1 a = x) (ho : ∀ y, y ≠ a → celE cx.2.1 cx.2.2.1 μ1 y = celE cx.2.1 cx.2.2.1 μ y) (hat : va_at cx.1 vwCl (cx.2.2.1 + a, x) H1) : Wd cx n μ1 H1 := by
  refine ⟨?_, by rw [z]; exact h.2.1, fun q hq => by rw [oq q (by omega)]; exact h.2.2 q hq⟩
  have g := h.1.set (wL_D cx μ n) (wL_a h0 ha rfl) hat oq
  rw [wL_set h0 hx ho] at g
  exact g
theorem celE_pI {ar : Nat → ClassId} {b : Nat} {a j y : Nat} {v : Int32} (h : y ≠ a) : celE ar b (pI μ a j v) y = celE ar b μ y := celE_eq (gI_pI_ne h) rfl rfl
theorem celE_pL {ar : Nat → ClassId} {b : Nat} {a j y : Nat} {v : Int64} (h : y ≠ a) : celE ar b (pL μ a j v) y = celE ar b μ y := celE_eq rfl (gL_pL_ne h) rfl
theorem celE_pR {ar : Nat → ClassId} {b : Nat} {a j y : Nat} {v : Nat} (h : y ≠ a) : celE ar b (pR μ a j v) y = celE ar b μ y := celE_eq rfl rfl (gR_pR_ne h)
theorem celE_rI {ar : Nat → ClassId} {b : Nat} {a y : Nat} {f : Nat → Int32} (h : y ≠ a) : celE ar b (rI μ a f) y = celE ar b μ y := celE_eq (gI_rI_ne h) rfl rfl
/-- a field written: the cell, the frame -/
theorem T_putV (K : Kx p s m args c cc nL own cx) {ci j a ix : Nat} {ty : FieldType} {v : Value} {μ1 : Mm} (hF : FD ci j own ix ty false) (hs : shp a = (9, ci)) (ha : a ≤ n) (hn : narrow ty v = v) (hfit : fits ty v = true) (hf : fldL cx.2.2.1 (gI μ1 a) (gL μ1 a) (gR μ1 a) ci = (fldL cx.2.2.1 (gI μ a) (gL μ a) (gR μ a) ci).set j v) (ho : ∀ y, y ≠ a → celE cx.2.1 cx.2.2.1 μ1 y = celE cx.2.1 cx.2.2.1 μ y) (hL1 : Ly μ → Ly μ1) (hdg : decode cc pc = .ok (.putfield ix, 3)) (k : T p l e R s m args below meth c nL cx n Ly cells slots Q (pc + 3) lv st μ1 F) : T p l e R s m args below meth c nL cx n Ly cells slots Q pc lv (v :: .ref (cx.2.2.1 + a) :: st) μ F := by
  intro ls H locs hl hW hL hS r μ2 q
  obtain ⟨C, Tf, hc, hin, hty, hnm, hj, hlk, hfin, rfl⟩ := hF
  have h0 : a ≠ 0 := shp_pk hs (by decide)
  have hts := K.2.2.2.2.1
  have hap := va_apart (own := own) hts hin (tyO ci) hty hnm K.2.2.2.2.2.1.1 hc
  obtain ⟨r9, h1, cell, q1, q2, q3, q4⟩ := hW.1 _ _ (wL_a h0 ha (cel_obj hs))
  have hr : r9 = (C, Tf, nfO ci) := Option.some.inj (h1.symm.trans hc)
  subst hr
  obtain ⟨hS9, hfc, kC, hkC, hkind⟩ := K.2.2.2.2.2.1.1.1 ci _ hc
  obtain ⟨cf, kf, fi, f, hi, hsl⟩ := hS9 j hj
  have hlay := hts _ (hin _ (u_in_lay hj))
  unfold u_lay at hlay
  rw [if_neg (by rw [hfin]; decide)] at hlay
  have hst := (u_facts hfc hkC (u_lays hts hin hj) hi).1
  have h6 := u_store hfc hkC hkind hlay hi (hty j hj) hn hfit
  refine W.putK K.1 K.2.1 (f := f) ⟨K.2.2.2.1, hts _ hlk, ⟨_, _, _, hi⟩, hst⟩ (by rw [q2]; exact h6) q1 q3 (by rw [hsl]; exact k2_hasslot (q4 j hj)) rfl rfl hdg fun H1 e1 e2 e3 => ?_
  rw [hsl] at e1 ⊢
  refine k ls H1 _ hl (hW.upd h0 ha e2 e3 (cel_obj hs) ho ?_) (hL1 hL) (hS.put e2 e3 (Nat.lt_add_of_pos_right (Nat.pos_of_ne_zero h0))) r μ2 q
  refine ⟨_, hc, t_OB.to (V := updV (vp_V (fldL cx.2.2.1 (gI μ a) (gL μ a) (gR μ a) ci)) j v) ⟨_, e1, q2, q3, t_set q4 hap hj v⟩ (fun i _ => ?_)⟩
  rw [hf]
  exact vp_updV_set (by rw [fldL_len]; exact hj) v i
theorem T_putI (K : Kx p s m args c cc nL own cx) {ci j a ix : Nat} {v : Int32} {G : Mm → Option (β × Mm)} (hLI : LyI Ly) (hF : FD ci j own ix .int false) (hs : shp a = (9, ci)) (ha : a ≤ n) (hdg : decode cc pc = .ok (.putfield ix, 3)) (k : ∀ μ1, T p l e R s m args below meth c nL cx n Ly cells slots Q (pc + 3) lv st μ1 (G μ1)) : T p l e R s m args below meth c nL cx n Ly cells slots Q pc lv (.int v :: .ref (cx.2.2.1 + a) :: st) μ (nm (pI μ a j v) G) := by
  have ht : tyO ci j = .int := by obtain ⟨_, _, _, _, _, _, _, _, _, h⟩ := hF; exact h
  refine T_putV K hF hs ha rfl rfl ?_ (fun y h => celE_pI h) (hLI.1 _ _ _ _) hdg (k _)
  refine (fldL_set (by rw [ht]; show Value.int _ = _; rw [gI_pI_at]; simp) (fun i hi => ⟨by rw [gI_pI_at]; simp [hi], rfl⟩)).symm
theorem T_putZ (K : Kx p s m args c cc nL own cx) {ci j a ix : Nat} {v : Int32} {G : Mm → Option (β × Mm)} (hLI : LyI Ly) (hF : FD ci j own ix .boolean false) (hs : shp a = (9, ci)) (ha : a ≤ n) (hdg : decode cc pc = .ok (.putfield ix, 3)) (k : ∀ μ1, T p l e R s m args below meth c nL cx n Ly cells slots Q (pc + 3) lv st μ1 (G μ1)) : T p l e R s m args below meth c nL cx n Ly cells slots Q pc lv (.int v :: .ref (cx.2.2.1 + a) :: st) μ (zb v (nm (pI μ a j v) G)) := by
  have ht : tyO ci j = .boolean := by obtain ⟨_, _, _, _, _, _, _, _, _, h⟩ := hF; exact h
  unfold zb
  refine T_if (fun hv => ?_) (fun _ => T_none)
  refine T_putV K hF hs ha (by rcases hv with rfl | rfl <;> rfl) (by rcases hv with rfl | rfl <;> rfl) ?_ (fun y h => celE_pI h) (hLI.1 _ _ _ _) hdg (k _)
  refine (fldL_set (by rw [ht]; show Value.int _ = _; rw [gI_pI_at]; simp) (fun i hi => ⟨by rw [gI_pI_at]; simp [hi], rfl⟩)).symm
/-- a reference field that may change -/
theorem T_putD (K : Kx p s m args c cc nL own cx) {ci j a ix x : Nat} {ty : FieldType} {G : Mm → Option (β × Mm)} (hI : ∀ b fi fl fr, fV b fi fl fr j ty = rV b (fr j)) (hn : ∀ a, narrow ty (.ref a) = .ref a) (hfit : ∀ a, fits ty (.ref a) = true) (hF : FD ci j own ix ty false) (hs : shp a = (9, ci)) (ha : a ≤ n) (hx : x ≠ 0) (hL1 : ∀ μ v, Ly μ → Ly (pR μ a j v)) (hdg : decode cc pc = .ok (.putfield ix, 3)) (k : ∀ μ1, T p l e R s m args below meth c nL cx n Ly cells slots Q (pc + 3) lv st μ1 (G μ1)) : T p l e R s m args below meth c nL cx n Ly cells slots Q pc lv (.ref (cx.2.2.1 + x) :: .ref (cx.2.2.1 + a) :: st) μ (nm (pR μ a j x) G) := by
  have ht : tyO ci j = ty := by obtain ⟨_, _, _, _, _, _, _, _, _, h⟩ := hF; exact h
  refine T_putV K hF hs ha (hn _) (hfit _) ?_ (fun y h => celE_pR h) (hL1 _ _) hdg (k _)
  refine (fldL_set (by rw [ht, hI, gR_pR_at]; simp [rV_pos hx]) (fun i hi => ⟨rfl, by rw [gR_pR_at]; simp [hi]⟩)).symm
theorem T_iast (K : Kx p s m args c cc nL own cx) {a len : Nat} {i v : Int32} {G : Mm → Option (β × Mm)} (hLI : LyI Ly) (hs : shp a = (1, len)) (ha : a ≤ n) (hdg : decode cc pc = .ok (.iastore, 1)) (k : ∀ μ1, T p l e R s m args below meth c nL cx n Ly cells slots Q (pc + 1) lv st μ1 (G μ1)) : T p l e R s m args below meth c nL cx n Ly cells slots Q pc lv (.int v :: .int i :: .ref (cx.2.2.1 + a) :: st) μ (wrI len μ a i v G) := by
  intro ls H locs hl hW hL hS r μ1 q
  unfold wrI at q
  split at q
  · next hi =>
    have hin : vp_in i len := vp_in_iff.mpr hi
    have h0 : a ≠ 0 := shp_pk hs (by decide)
    refine W.iast K.1 K.2.1 (hW.1 _ _ (wL_a h0 ha (cel_1 hs))) ((K.2.2.2.2.2.1.1.2 1 (cx.2.1 1, .int) rfl).1 len (fun j => .int (gI μ a j))) (fun q => by cases q) (by show ¬ (i < 0 ∨ (arrV _ _ _).slots.size ≤ _); rw [arrV_size]; exact hin) rfl rfl hdg fun H1 e z oq => ?_
    refine k _ ls H1 _ hl (hW.upd h0 ha z oq (cel_1 hs) (fun y h => celE_pI h) ?_) (hLI.1 _ _ _ _ hL) (hS.put z oq (Nat.lt_add_of_pos_right (Nat.pos_of_ne_zero h0))) r μ1 q
    show H1[cx.2.2.1 + a]? = some (vp_cell _ _)
    rw [e, vp_cell_i, vp_cell_i, arrV_store]
    congr 2
    funext y
    rw [gI_pI_at]
    show updV _ _ _ y = _
    unfold updV
    by_cases hq : y = i.toNatClampNeg
    · rw [if_pos hq]
      show _ = Value.int (if y = i.toInt.toNat then _ else _)
      rw [if_pos (show y = i.toInt.toNat from hq)]
    · rw [if_neg hq]
      show _ = Value.int (if y = i.toInt.toNat then _ else _)
      rw [if_neg (show ¬ y = i.toInt.toNat from hq)]
  · cases q
theorem T_cast (K : Kx p s m args c cc nL own cx) {a len : Nat} {i v : Int32} {G : Mm → Option (β × Mm)} (hLI : LyI Ly) (hs : shp a = (3, len)) (ha : a ≤ n) (hdg : decode cc pc = .ok (.castore, 1)) (k : ∀ μ1, T p l e R s m args below meth c nL cx n Ly cells slots Q (pc + 1) lv st μ1 (G μ1)) : T p l e R s m args below meth c nL cx n Ly cells slots Q pc lv (.int v :: .int i :: .ref (cx.2.2.1 + a) :: st) μ (wrI len μ a i (nC v) G) := by
  intro ls H locs hl hW hL hS r μ1 q
  unfold wrI at q
  split at q
  · next hi =>
    have hin : vp_in i len := vp_in_iff.mpr hi
    have h0 : a ≠ 0 := shp_pk hs (by decide)
    refine W.cast K.1 K.2.1 (hW.1 _ _ (wL_a h0 ha (cel_3 hs))) ((K.2.2.2.2.2.1.1.2 3 (cx.2.1 3, .char) rfl).1 len (fun j => .int (gI μ a j))) (fun q => by cases q) (by show ¬ (i < 0 ∨ (arrV _ _ _).slots.size ≤ _); rw [arrV_size]; exact hin) rfl rfl hdg fun H1 e z oq => ?_
    refine k _ ls H1 _ hl (hW.upd h0 ha z oq (cel_3 hs) (fun y h => celE_pI h) ?_) (hLI.1 _ _ _ _ hL) (hS.put z oq (Nat.lt_add_of_pos_right (Nat.pos_of_ne_zero h0))) r μ1 q
    show H1[cx.2.2.1 + a]? = some (vp_cell _ _)
    rw [e, vp_cell_i, vp_cell_i, arrV_store]
    congr 2
    funext y
    rw [gI_pI_at]
    show updV _ _ _ y = _
    unfold updV
    by_cases hq : y = i.toNatClampNeg
    · rw [if_pos hq]
      show _ = Value.int (if y = i.toInt.toNat then _ else _)
      rw [if_pos (show y = i.toInt.toNat from hq)]
      rfl
    · rw [if_neg hq]
      show _ = Value.int (if y = i.toInt.toNat then _ else _)
      rw [if_neg (show ¬ y = i.toInt.toNat from hq)]
  · cases q
theorem T_last (K : Kx p s m args c cc nL own cx) {a len : Nat} {i : Int32} {v : Int64} {G : Mm → Option (β × Mm)} (hLI : LyI Ly) (hs : shp a = (5, len)) (ha : a ≤ n) (hdg : decode cc pc = .ok (.lastore, 1)) (k : ∀ μ1, T p l e R s m args below meth c nL cx n Ly cells slots Q (pc + 1) lv st μ1 (G μ1)) : T p l e R s m args below meth c nL cx n Ly cells slots Q pc lv (.long v :: .int i :: .ref (cx.2.2.1 + a) :: st) μ (wrL len μ a i v G) := by
  intro ls H locs hl hW hL hS r μ1 q
  unfold wrL at q
  split at q
  · next hi =>
    have hin : vp_in i len := vp_in_iff.mpr hi
    have h0 : a ≠ 0 := shp_pk hs (by decide)
    refine W.last K.1 K.2.1 (hW.1 _ _ (wL_a h0 ha (cel_5 hs))) ((K.2.2.2.2.2.1.1.2 5 (cx.2.1 5, .long) rfl).1 len (fun j => .long (gL μ a j))) (fun q => by cases q) (by show ¬ (i < 0 ∨ (arrV _ _ _).slots.size ≤ _); rw [arrV_size]; exact hin) rfl rfl hdg fun H1 e z oq => ?_
    refine k _ ls H1 _ hl (hW.upd h0 ha z oq (cel_5 hs) (fun y h => celE_pL h) ?_) (hLI.2.1 _ _ _ _ hL) (hS.put z oq (Nat.lt_add_of_pos_right (Nat.pos_of_ne_zero h0))) r μ1 q
    show H1[cx.2.2.1 + a]? = some (vp_cell _ _)
    rw [e, vp_cell_l, vp_cell_l, arrV_store]
    congr 2
    funext y
    rw [gL_pL_at]
    show updV _ _ _ y = _
    unfold updV
    by_cases hq : y = i.toNatClampNeg
    · rw [if_pos hq]
      show _ = Value.long (if y = i.toInt.toNat then _ else _)
      rw [if_pos (show y = i.toInt.toNat from hq)]
    · rw [if_neg hq]
      show _ = Value.long (if y = i.toInt.toNat then _ else _)
      rw [if_neg (show ¬ y = i.toInt.toNat from hq)]
  · cases q
end TR2
