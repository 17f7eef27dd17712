/-! ROWS OF T FOR THE LAW'S METHODS: rows of ints whose length stands in the memory; static calls that make cells -/
theorem Lay_nw {μ : Mm} {a : Nat} (hs : shp a = (10, 0)) (ha : ∀ j, aref a j = none) (x : Nat) (h : Lay μ) : Lay (pR (clr μ a) a 0 x) := by
  have e : ∀ a2, a2 ≠ a → ∀ j, gR (pR (clr μ a) a 0 x) a2 j = gR μ a2 j := fun a2 q j => by rw [gR_pR_ne q, gR_clr_ne q]
  exact ⟨fun a2 ci j y h1 h2 => by
    rw [e a2 (fun q => by rw [q, hs] at h1; cases h1) j]
    exact h.1 a2 ci j y h1 h2, fun a2 j y h1 => by
    rw [e a2 (fun q => by rw [q, ha] at h1; cases h1) j]
    exact h.2 a2 j y h1⟩
def nwA {β : Type} (mx : Nat) (μ : Mm) (a : Nat) (x : Int32) (G : Mm → Option β) : Option β := if 0 ≤ x.toInt ∧ x.toInt ≤ mx then G (pR (clr μ a) a 0 x.toInt.toNat) else none
/-- an answer that is this place -/
def gdN {β : Type} (x v : Nat) (G : Option β) : Option β := if v = x then G else none
section TL
variable {β : Type} {p : Program} {l : Launch} {e : Env} {R : Room} {s : State} {m : MethodId} {args : Array Value} {below : List Frame} {meth : Method} {c : Code} {nL : Nat} {cx : CX} {n : Nat} {Ly : Mm → Prop} {cells slots : Nat} {Q : β → Mm → State → Prop} {pc : Nat} {lv : List (Nat × Value)} {st : List Value} {μ : Mm} {F : Option (β × Mm)} {cc : ByteArray} {own : String}
theorem T_newaV (K : Kx p s m args c cc nL own cx) {a mx : Nat} {x : Int32} {G : Mm → Option (β × Mm)} (hdg : decode cc pc = .ok (.newarray .int, 2)) (ha : a = n + 1) (har : Cond.arrayClass .int ∈ WA) (hs : shp a = (10, 0)) (hmx : mx ≤ 1000) (hce : cells + 1 ≤ R.cells) (hsl : slots + mx ≤ R.slots) (hLy : ∀ v, Ly μ → Ly (pR (clr μ a) a 0 v)) (k : ∀ μ1, T p l e R s m args below meth c nL cx a Ly (cells + 1) (slots + mx) Q (pc + 2) lv (.ref (cx.2.2.1 + a) :: st) μ1 (G μ1)) : T p l e R s m args below meth c nL cx n Ly cells slots Q pc lv (.int x :: st) μ (nwA mx μ a x G) := by
  intro ls H locs hl hW hL hS r μ1 q
  unfold nwA at q
  split at q
  · next hx =>
    have hh : H.size = cx.2.2.1 + a := by rw [hW.2.1, ha]; omega
    have hn : ¬ x < 0 := fun h => by rw [Int32.lt_iff_toInt_lt, Int32.toInt_zero] at h; omega
    have hle : x.toInt.toNat ≤ mx := by omega
    refine va_newaK (atype := .int) (N := x.toInt.toNat) K.1 K.2.1 (K.2.2.2.2.1 _ har) (g := F0 m pc ls (.int x :: st)) rfl hdg rfl hn rfl (by show _ * 4 ≤ _; omega) hce (by omega) hh fun H1 cA e1 z1 o1 hAr hNm => ?_
    have hcA : cA = cx.2.1 1 := Option.some.inj (hNm.symm.trans (K.2.2.2.2.2.1.1.2 1 (cx.2.1 1, .int) rfl).2)
    subst hcA
    refine W.widen (k := cells + 1) (n := slots + mx) (Nat.le_refl _) (by omega) ?_
    refine k _ ls H1 locs hl (hW.push ha (by rw [z1, hh]) (by rw [hh]; exact o1) (fun y h => (celE_pR h).trans (celE_clr h)) ?_) (hLy _ hL) (Sgrow hS (by rw [z1, hh]; omega) (by rw [hh]; exact o1)) r μ1 q
    have g1 : gR (pR (clr μ a) a 0 x.toInt.toNat) a 0 = x.toInt.toNat := by rw [gR_pR_at]; simp
    have g2 : gI (pR (clr μ a) a 0 x.toInt.toNat) a = fun _ => 0 := gI_clr_at
    rw [cel_10 hs, g1, g2]
    exact e1
  · cases q
theorem T_vald (K : Kx p s m args c cc nL own cx) {a : Nat} {i : Int32} {G : Nat → Option (β × Mm)} (hdg : decode cc pc = .ok (.iaload, 1)) (hs : shp a = (10, 0)) (ha : a ≤ n) (k : ∀ j, T p l e R s m args below meth c nL cx n Ly cells slots Q (pc + 1) lv (.int (gI μ a j) :: st) μ (G j)) : T p l e R s m args below meth c nL cx n Ly cells slots Q pc lv (.int i :: .ref (cx.2.2.1 + a) :: st) μ (rd (gR μ a 0) i G) := by
  intro ls H locs hl hW hL hS r μ1 q
  obtain ⟨hin, q⟩ := rd_spec q
  exact va_iald K.1 K.2.1 K.2.2.2.2.2.1.1 hW.1 (a - 1) 1 (wL_a (shp_pk hs (by decide)) ha (cel_10 hs)) rfl hin hdg (k _ ls H locs hl hW hL hS r μ1 q)
theorem T_vast (K : Kx p s m args c cc nL own cx) {a : Nat} {i v : Int32} {G : Mm → Option (β × Mm)} (hLI : LyI Ly) (hs : shp a = (10, 0)) (ha : a ≤ n) (hdg : decode cc pc = .ok (.iastore, 1)) (k : ∀ μ1, T p l e R s m args below meth c nL cx n Ly cells slots Q (pc + 1) lv st μ1 (G μ1)) : T p l e R s m args below meth c nL cx n Ly cells slots Q pc lv (.int v :: .int i :: .ref (cx.2.2.1 + a) :: st) μ (wrI (gR μ a 0) μ a i v G) := by
  intro ls H locs hl hW hL hS r μ1 q
  unfold wrI at q
  split at q
  · next hi =>
    have hin : vp_in i (gR μ a 0) := vp_in_iff.mpr hi
    have h0 : a ≠ 0 := shp_pk hs (by decide)
    refine W.iast K.1 K.2.1 (hW.1 _ _ (wL_a h0 ha (cel_10 hs))) ((K.2.2.2.2.2.1.1.2 1 (cx.2.1 1, .int) rfl).1 (gR μ a 0) (fun j => .int (gI μ a j))) (fun q => by cases q) (by show ¬ (i < 0 ∨ (arrV _ _ _).slots.size ≤ _); rw [arrV_size]; exact hin) rfl rfl hdg fun H1 e z oq => ?_
    refine k _ ls H1 _ hl (hW.upd h0 ha z oq (cel_10 hs) (fun y h => celE_pI h) ?_) (hLI.1 _ _ _ _ hL) (hS.put z oq (Nat.lt_add_of_pos_right (Nat.pos_of_ne_zero h0))) r μ1 q
    show H1[cx.2.2.1 + a]? = some (vp_cell _ _)
    rw [e, vp_cell_i, vp_cell_i, arrV_store]
    show some (arrV (cx.2.1 1) (gR μ a 0) _) = some (arrV (cx.2.1 1) (gR μ a 0) _)
    congr 2
    funext y
    rw [gI_pI_at]
    show updV _ _ _ y = _
    unfold updV
    by_cases hq : y = i.toNatClampNeg
    · rw [if_pos hq]
      show _ = Value.int (if y = i.toInt.toNat then _ else _)
      rw [if_pos (show y = i.toInt.toNat from hq)]
    · rw [if_neg hq]
      show _ = Value.int (if y = i.toInt.toNat then _ else _)
      rw [if_neg (show ¬ y = i.toInt.toNat from hq)]
  · cases q
theorem T_alenV (K : Kx p s m args c cc nL own cx) {a : Nat} (hdg : decode cc pc = .ok (.arraylength, 1)) (hs : shp a = (10, 0)) (ha : a ≤ n) (k : T p l e R s m args below meth c nL cx n Ly cells slots Q (pc + 1) lv (.int (Int32.ofNat (gR μ a 0)) :: st) μ F) : T p l e R s m args below meth c nL cx n Ly cells slots Q pc lv (.ref (cx.2.2.1 + a) :: st) μ F :=
  fun ls H locs hl hW hL hS r μ1 q => va_alen (v := Int32.ofNat (gR μ a 0)) K.1 K.2.1 K.2.2.2.2.2.1.1 hW.1 (a - 1) 1 (x := (gR μ a 0, .inl (gI μ a))) (wL_a (shp_pk hs (by decide)) ha (cel_10 hs)) rfl rfl hdg (k ls H locs hl hW hL hS r μ1 q)
/-- a static call that makes cells -/
theorem T_callSA {γ : Type} {G : γ → Mm → Option (β × Mm)} {Fc : Option (γ × Mm)} {cv : γ → Option Value} {y : MethodName} {bytes : ByteArray} {maxL np ix n2 mc ms : Nat} {ret : Option FieldType} {rm : Room} (As rest : List Value) {st0 : List Value} (K : Kx p s m args c cc nL own cx) (hdg : decode cc pc = .ok (.invokestatic ix, 3)) (hw : MW y bytes maxL ret np) (hli : Cond.methodLink own ix y ∈ WA) (hin : Cond.static y ∈ WA) (hR : (rm.frames + 1 ≤ R.frames ∧ 8 + (maxL + 11) + rm.locals ≤ R.locals) ∧ rm.cells = mc ∧ rm.slots = ms ∧ cells + mc ≤ R.cells ∧ slots + ms ≤ R.slots ∧ n ≤ n2) (hlen : As.length = np) (hst : st0 = As.reverse ++ rest) (hrest : (rest.map fun v => v.category).sum ≤ 8) (hM : MT l y bytes maxL ret rm cx n n2 Ly cv mc ms As μ Fc) (k : ∀ x μ1, T p l e R s m args below meth c nL cx n2 Ly (cells + mc) (slots + ms) Q (pc + 3) lv ((cv x).toList ++ rest) μ1 (G x μ1)) : T p l e R s m args below meth c nL cx n Ly cells slots Q pc lv st0 μ (bnd Fc G) := by
  intro ls H locs hl hW hL hS r μ2 q
  obtain ⟨x, μ1, hF, hG⟩ := bnd_spec q
  have hts := K.2.2.2.2.1
  obtain ⟨⟨hR1, hR2⟩, hR3, hR4, hR5, hR6, hR7⟩ := hR
  have cb := callB_of (R := R) (own := own) (index := ix) np hts (goodAll hw.1) rfl hR3 hR4 (hts _ hw.2.1) (hts _ hli) hw.2.2 ⟨hR1, hR2⟩
  exact T_run (mc := mc) (ms := ms) (va_runS (As := As) (rest := rest) ⟨K.1, K.2.1, K.2.2.1, K.2.2.2.1, hts⟩ (hM x μ1 hF) ⟨cb, hts _ hin⟩ ⟨PcM.blind, fun U hU hWm => ⟨rfl, by rw [hU]; exact hW, K.2.2.2.2.2.1.warm hWm, hL⟩⟩ rfl hlen hl.1 hst (lv_room hrest) hdg ⟨hR5, hR6⟩) hW hR7 K.2.2.2.2.2.2 hS (fun H1 locs1 hW1 hL1 hS1 => k x μ1 ls H1 locs1 hl hW1 hL1 hS1 r μ2 hG)
/-- an answer in the world n2, with fewer cells made -/
theorem T_bret {v : Int32} {n2 mc ms : Nat} (K : Kx p s m args c cc nL own cx) (hr : meth.sig.returnType = some .boolean) (hk : meth.locks = false) (hc : cells ≤ mc ∧ slots ≤ ms) (hdg : decode cc pc = .ok (.ireturn, 1)) : T p l e R s m args below meth c nL cx n Ly cells slots (fun (r : Int32) μ1 => MQ below (QcM cx n2 Ly (some (.int r)) μ1) args s mc ms (fun q => cx.2.2.1 < q)) pc lv [.int v] μ (gdN n n2 (rz v μ)) := by
  refine T_if (fun h => ?_) (fun _ => T_none)
  subst h
  intro ls H locs hl hW hL hS r μ1 q
  unfold rz at q
  split at q
  · next h =>
    cases q
    refine W.widen (k := mc) (n := ms) hc.1 hc.2 ?_
    exact W.zret K.1 K.2.1 hr (by rcases h with rfl | rfl <;> rfl) (fun t ht _ => ⟨rfl, by rw [ht]; exact hW, hL⟩) hS.2.2 hdg (hlocks := hk)
  · cases q
theorem T_gdN {x v : Nat} (k : v = x → T p l e R s m args below meth c nL cx n Ly cells slots Q pc lv st μ F) : T p l e R s m args below meth c nL cx n Ly cells slots Q pc lv st μ (gdN x v F) := T_if k (fun _ => T_none)
end TL
