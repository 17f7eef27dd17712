/-! ROWS OF T FOR CONSTRUCTORS, second: rows of rows; a row of objects written -/
/-- a row of N rows, made -/
def mnM (μ : Mm) (a N : Nat) : Mm := ((fun x y => if a ≤ x ∧ x ≤ a + N then 0 else μ.1.1 x y, fun x y => if a ≤ x ∧ x ≤ a + N then 0 else μ.1.2 x y), fun x y => if x = a then (if y < N then a + 1 + y else 0) else if a ≤ x ∧ x ≤ a + N then 0 else μ.2 x y)
theorem gI_mn_ne {μ : Mm} {a N x : Nat} (h : ¬ (a ≤ x ∧ x ≤ a + N)) : gI (mnM μ a N) x = gI μ x := funext fun y => if_neg h
theorem gL_mn_ne {μ : Mm} {a N x : Nat} (h : ¬ (a ≤ x ∧ x ≤ a + N)) : gL (mnM μ a N) x = gL μ x := funext fun y => if_neg h
theorem gR_mn_ne {μ : Mm} {a N x : Nat} (h : ¬ (a ≤ x ∧ x ≤ a + N)) : gR (mnM μ a N) x = gR μ x := funext fun y => by
  show (if x = a then _ else if a ≤ x ∧ x ≤ a + N then 0 else μ.2 x y) = _
  rw [if_neg (by omega), if_neg h]
  rfl
theorem gI_mn_in {μ : Mm} {a N x : Nat} (h : a ≤ x ∧ x ≤ a + N) : gI (mnM μ a N) x = fun _ => 0 := funext fun y => if_pos h
theorem gL_mn_in {μ : Mm} {a N x : Nat} (h : a ≤ x ∧ x ≤ a + N) : gL (mnM μ a N) x = fun _ => 0 := funext fun y => if_pos h
theorem gR_mn_at {μ : Mm} {a N : Nat} : gR (mnM μ a N) a = fun y => if y < N then a + 1 + y else 0 := funext fun y => if_pos rfl
def wrR {β : Type} (n : Nat) (μ : Mm) (a : Nat) (i : Int32) (x : Nat) (G : Mm → Option β) : Option β := if 0 ≤ i.toInt ∧ i.toInt < n then G (pR μ a i.toInt.toNat x) else none
theorem mn_outer (c : ClassId) (N h0 : Nat) : ∀ i : Nat, Jvm.Free.Multi.outerC c N h0 i = arrV c N (fun j => va_rf (if j < i then some (h0 + 1 + j) else none))
  | 0 => by
    show ({ cls := c, slots := Array.replicate N .null, vm := .none } : Cell) = _
    rw [arrV_new]
    refine congrArg (arrV c N) (funext fun j => ?_)
    simp [va_rf]
  | i + 1 => by
    show (Jvm.Free.Multi.outerC c N h0 i).setSlot i (.ref (h0 + 1 + i)) = _
    rw [mn_outer c N h0 i, arrV_store]
    refine congrArg (arrV c N) (funext fun j => ?_)
    by_cases e : j = i
    · subst e
      simp [updV, va_rf]
    · by_cases h : j < i
      · simp [updV, e, h, Nat.lt_succ_of_lt h]
      · simp [updV, e, h, show ¬ j < i + 1 by omega]
section TC
variable {β : Type} {p : Program} {l : Launch} {e : Env} {R : Room} {s : State} {m : MethodId} {args : Array Value} {below : List Frame} {meth : Method} {c : Code} {nL : Nat} {cx : CX} {n : Nat} {Ly : Mm → Prop} {cells slots : Nat} {Q : β → Mm → State → Prop} {pc : Nat} {lv : List (Nat × Value)} {st : List Value} {μ : Mm} {F : Option (β × Mm)} {cc : ByteArray} {own : String}

theorem T_mnL (K : Kx p s m args c cc nL own cx) {a ix N M : Nat} {x y : Int32} {G : Mm → Option (β × Mm)} (hdg : decode cc pc = .ok (.multianewarray ix 2, 4)) (ha : a = n + 1) (hcl : Cond.classLink own ix ("[" ++ (FieldType.array .long).toString) ∈ WA) (har : Cond.arrayClass .long ∈ WA) (hcy : s.vm.findClass (FieldType.array .long).toString = some (cx.2.1 5)) (hs : shp a = (7, N)) (hs2 : ∀ i, i < N → shp (a + 1 + i) = (5, M)) (hn : ¬ x < 0) (hk : ¬ y < 0) (hN : x.toNatClampNeg = N) (hM : y.toNatClampNeg = M) (hb : N * 8 ≤ 536870912 ∧ M * 8 ≤ 536870912) (hce : cells + (1 + N) ≤ R.cells) (hsl : slots + (N + N * M) ≤ R.slots) (hLy : ∀ μ, Ly μ) (k : ∀ μ1, T p l e R s m args below meth c nL cx (a + N) Ly (cells + 1 + N) (slots + N + N * M) Q (pc + 4) lv (.ref (cx.2.2.1 + a) :: st) μ1 (G μ1)) : T p l e R s m args below meth c nL cx n Ly cells slots Q pc lv (.int y :: .int x :: st) μ (nm (mnM μ a N) G) := by
  subst hN
  subst hM
  intro ls H locs hl hW hL hS r μ1 q
  have hh : H.size = cx.2.2.1 + a := by rw [hW.2.1, ha]; omega
  intro T9 hT X
  obtain ⟨vm₁, cA, comp, -, fA, fC, -, -, X', step⟩ := X.multianewarray2F K.1 K.2.2.2.1 (K.2.2.2.2.1 _ hcl) K.2.2.2.2.2.1.2.2.2.2.1.2.1 (K.2.2.2.2.1 _ har) (g := F0 m pc ls (.int y :: .int x :: st)) rfl (by rw [K.2.1]; exact hdg) rfl hn hk (by omega) (by show _ * 8 ≤ _; omega) (by omega) rfl rfl hce hsl
  have ec : some (cx.2.1 5) = some comp := hcy.symm.trans fC
  cases ec
  have hcA : cA = cx.2.1 7 := Option.some.inj (fA.symm.trans (K.2.2.2.2.2.1.1.2 7 (cx.2.1 7, .array .long) rfl).2)
  subst hcA
  generalize hF : Jvm.Free.Multi.fill (T9.setVm vm₁) (cx.2.1 7) (cx.2.1 5) x.toNatClampNeg y.toNatClampNeg (defaultValue .long) x.toNatClampNeg = F9 at X' step
  have hTh : (T9.setVm vm₁).heap = H := hT
  obtain ⟨f1, f2, -, -⟩ := Jvm.Free.Multi.fill_facts (T9.setVm vm₁) (cx.2.1 7) (cx.2.1 5) x.toNatClampNeg y.toNatClampNeg (defaultValue .long) x.toNatClampNeg
  rw [hF, hTh] at f1 f2
  have hold : ∀ z : Nat, z < H.size → F9.heap[z]? = H[z]? := fun z hz => by
    have := Jvm.Free.Multi.fill_old (T9.setVm vm₁) (cx.2.1 7) (cx.2.1 5) x.toNatClampNeg y.toNatClampNeg (defaultValue .long) (a := z) (by rw [hTh]; exact hz) x.toNatClampNeg
    rw [hF, hTh] at this
    exact this
  have hrow : ∀ j : Nat, j < x.toNatClampNeg → F9.heap[H.size + 1 + j]? = some (vp_cell (cx.2.1 5) (y.toNatClampNeg, .inr (.inl fun _ => 0))) := fun j hj => by
    have := Jvm.Free.Multi.fill_inner (T9.setVm vm₁) (cx.2.1 7) (cx.2.1 5) x.toNatClampNeg y.toNatClampNeg (defaultValue .long) x.toNatClampNeg j hj
    rw [hF, hTh] at this
    rw [this]
    show some ({ cls := cx.2.1 5, slots := Array.replicate y.toNatClampNeg (defaultValue .long), vm := .none } : Cell) = _
    rw [arrV_new]
    rfl
  rw [mn_outer] at f2
  have hWn : Wd cx (a + x.toNatClampNeg) (mnM μ a x.toNatClampNeg) F9.heap := by
    refine ⟨fun k9 q9 hq => ?_, by rw [f1, hh]; omega, fun z hz => by rw [hold z (by rw [hh]; omega)]; exact hW.2.2 z hz⟩
    by_cases h9 : k9 < a + x.toNatClampNeg
    · rw [wL_at h9] at hq
      cases hq
      by_cases h8 : k9 < n
      · have e : celE cx.2.1 cx.2.2.1 (mnM μ a x.toNatClampNeg) (k9 + 1) = celE cx.2.1 cx.2.2.1 μ (k9 + 1) := celE_eq (gI_mn_ne (by omega)) (gL_mn_ne (by omega)) (gR_mn_ne (by omega))
        rw [e]
        have h0 := hW.1 _ _ (wL_at (cx := cx) (μ := μ) h8)
        exact h0.kept (hold _ h0.lt)
      · by_cases h7 : k9 + 1 = a
        · rw [h7, cel_6 (by omega) hs, gR_mn_at]
          show F9.heap[cx.2.2.1 + a]? = some (vp_cell _ _)
          rw [← hh, f2, vp_cell_q]
          refine congrArg some (congrArg (arrV (cx.2.1 7) x.toNatClampNeg) (funext fun j => ?_))
          by_cases hj : j < x.toNatClampNeg
          · rw [if_pos hj]
            show va_rf (some (H.size + 1 + j)) = va_rf (rO cx.2.2.1 (if j < x.toNatClampNeg then a + 1 + j else 0))
            rw [if_pos hj, hh]
            unfold rO
            rw [if_neg (show ¬ a + 1 + j = 0 by omega)]
            show Value.ref (cx.2.2.1 + a + 1 + j) = Value.ref (cx.2.2.1 + (a + 1 + j))
            have e9 : ∀ u v w : Nat, u + v + 1 + w = u + (v + 1 + w) := fun u v w => by omega
            exact congrArg Value.ref (e9 _ _ _)
          · rw [if_neg hj]
            show va_rf none = va_rf (rO cx.2.2.1 (if j < x.toNatClampNeg then a + 1 + j else 0))
            rw [if_neg hj]
            rfl
        · obtain ⟨i, hi, e⟩ : ∃ i, i < x.toNatClampNeg ∧ k9 + 1 = a + 1 + i := ⟨k9 - a, by omega, by omega⟩
          rw [e, cel_5 (hs2 i hi), gL_mn_in (by omega)]
          show F9.heap[cx.2.2.1 + (a + 1 + i)]? = some (vp_cell _ _)
          rw [show cx.2.2.1 + (a + 1 + i) = H.size + 1 + i by rw [hh]; omega]
          exact hrow i hi
    · rw [wL_none (by omega)] at hq
      cases hq
  obtain ⟨t, a1, b1⟩ := k (mnM μ a x.toNatClampNeg) ls F9.heap locs hl hWn (hLy _) (Sgrow hS (by rw [f1]; omega) hold) r μ1 q F9 rfl X'
  refine ⟨t, step t ?_, b1⟩
  have e : T9.heap.size = cx.2.2.1 + a := by rw [hT]; exact hh
  rw [e]
  exact a1
theorem T_mnI (K : Kx p s m args c cc nL own cx) {a ix N M : Nat} {x y : Int32} {G : Mm → Option (β × Mm)} (hdg : decode cc pc = .ok (.multianewarray ix 2, 4)) (ha : a = n + 1) (hcl : Cond.classLink own ix ("[" ++ (FieldType.array .int).toString) ∈ WA) (har : Cond.arrayClass .int ∈ WA) (hcy : s.vm.findClass (FieldType.array .int).toString = some (cx.2.1 1)) (hs : shp a = (8, N)) (hs2 : ∀ i, i < N → shp (a + 1 + i) = (1, M)) (hn : ¬ x < 0) (hk : ¬ y < 0) (hN : x.toNatClampNeg = N) (hM : y.toNatClampNeg = M) (hb : N * 8 ≤ 536870912 ∧ M * 8 ≤ 536870912) (hce : cells + (1 + N) ≤ R.cells) (hsl : slots + (N + N * M) ≤ R.slots) (hLy : ∀ μ, Ly μ) (k : ∀ μ1, T p l e R s m args below meth c nL cx (a + N) Ly (cells + 1 + N) (slots + N + N * M) Q (pc + 4) lv (.ref (cx.2.2.1 + a) :: st) μ1 (G μ1)) : T p l e R s m args below meth c nL cx n Ly cells slots Q pc lv (.int y :: .int x :: st) μ (nm (mnM μ a N) G) := by
  subst hN
  subst hM
  intro ls H locs hl hW hL hS r μ1 q
  have hh : H.size = cx.2.2.1 + a := by rw [hW.2.1, ha]; omega
  intro T9 hT X
  obtain ⟨vm₁, cA, comp, -, fA, fC, -, -, X', step⟩ := X.multianewarray2F K.1 K.2.2.2.1 (K.2.2.2.2.1 _ hcl) K.2.2.2.2.2.1.2.2.2.2.1.2.2 (K.2.2.2.2.1 _ har) (g := F0 m pc ls (.int y :: .int x :: st)) rfl (by rw [K.2.1]; exact hdg) rfl hn hk (by omega) (by show _ * 4 ≤ _; omega) (by omega) rfl rfl hce hsl
  have ec : some (cx.2.1 1) = some comp := hcy.symm.trans fC
  cases ec
  have hcA : cA = cx.2.1 8 := Option.some.inj (fA.symm.trans (K.2.2.2.2.2.1.1.2 8 (cx.2.1 8, .array .int) rfl).2)
  subst hcA
  generalize hF : Jvm.Free.Multi.fill (T9.setVm vm₁) (cx.2.1 8) (cx.2.1 1) x.toNatClampNeg y.toNatClampNeg (defaultValue .int) x.toNatClampNeg = F9 at X' step
  have hTh : (T9.setVm vm₁).heap = H := hT
  obtain ⟨f1, f2, -, -⟩ := Jvm.Free.Multi.fill_facts (T9.setVm vm₁) (cx.2.1 8) (cx.2.1 1) x.toNatClampNeg y.toNatClampNeg (defaultValue .int) x.toNatClampNeg
  rw [hF, hTh] at f1 f2
  have hold : ∀ z : Nat, z < H.size → F9.heap[z]? = H[z]? := fun z hz => by
    have := Jvm.Free.Multi.fill_old (T9.setVm vm₁) (cx.2.1 8) (cx.2.1 1) x.toNatClampNeg y.toNatClampNeg (defaultValue .int) (a := z) (by rw [hTh]; exact hz) x.toNatClampNeg
    rw [hF, hTh] at this
    exact this
  have hrow : ∀ j : Nat, j < x.toNatClampNeg → F9.heap[H.size + 1 + j]? = some (vp_cell (cx.2.1 1) (y.toNatClampNeg, .inl fun _ => 0)) := fun j hj => by
    have := Jvm.Free.Multi.fill_inner (T9.setVm vm₁) (cx.2.1 8) (cx.2.1 1) x.toNatClampNeg y.toNatClampNeg (defaultValue .int) x.toNatClampNeg j hj
    rw [hF, hTh] at this
    rw [this]
    show some ({ cls := cx.2.1 1, slots := Array.replicate y.toNatClampNeg (defaultValue .int), vm := .none } : Cell) = _
    rw [arrV_new]
    rfl
  rw [mn_outer] at f2
  have hWn : Wd cx (a + x.toNatClampNeg) (mnM μ a x.toNatClampNeg) F9.heap := by
    refine ⟨fun k9 q9 hq => ?_, by rw [f1, hh]; omega, fun z hz => by rw [hold z (by rw [hh]; omega)]; exact hW.2.2 z hz⟩
    by_cases h9 : k9 < a + x.toNatClampNeg
    · rw [wL_at h9] at hq
      cases hq
      by_cases h8 : k9 < n
      · have e : celE cx.2.1 cx.2.2.1 (mnM μ a x.toNatClampNeg) (k9 + 1) = celE cx.2.1 cx.2.2.1 μ (k9 + 1) := celE_eq (gI_mn_ne (by omega)) (gL_mn_ne (by omega)) (gR_mn_ne (by omega))
        rw [e]
        have h0 := hW.1 _ _ (wL_at (cx := cx) (μ := μ) h8)
        exact h0.kept (hold _ h0.lt)
      · by_cases h7 : k9 + 1 = a
        · rw [h7, cel_6 (by omega) hs, gR_mn_at]
          show F9.heap[cx.2.2.1 + a]? = some (vp_cell _ _)
          rw [← hh, f2, vp_cell_q]
          refine congrArg some (congrArg (arrV (cx.2.1 8) x.toNatClampNeg) (funext fun j => ?_))
          by_cases hj : j < x.toNatClampNeg
          · rw [if_pos hj]
            show va_rf (some (H.size + 1 + j)) = va_rf (rO cx.2.2.1 (if j < x.toNatClampNeg then a + 1 + j else 0))
            rw [if_pos hj, hh]
            unfold rO
            rw [if_neg (show ¬ a + 1 + j = 0 by omega)]
            show Value.ref (cx.2.2.1 + a + 1 + j) = Value.ref (cx.2.2.1 + (a + 1 + j))
            have e9 : ∀ u v w : Nat, u + v + 1 + w = u + (v + 1 + w) := fun u v w => by omega
            exact congrArg Value.ref (e9 _ _ _)
          · rw [if_neg hj]
            show va_rf none = va_rf (rO cx.2.2.1 (if j < x.toNatClampNeg then a + 1 + j else 0))
            rw [if_neg hj]
            rfl
        · obtain ⟨i, hi, e⟩ : ∃ i, i < x.toNatClampNeg ∧ k9 + 1 = a + 1 + i := ⟨k9 - a, by omega, by omega⟩
          rw [e, cel_1 (hs2 i hi), gI_mn_in (by omega)]
          show F9.heap[cx.2.2.1 + (a + 1 + i)]? = some (vp_cell _ _)
          rw [show cx.2.2.1 + (a + 1 + i) = H.size + 1 + i by rw [hh]; omega]
          exact hrow i hi
    · rw [wL_none (by omega)] at hq
      cases hq
  obtain ⟨t, a1, b1⟩ := k (mnM μ a x.toNatClampNeg) ls F9.heap locs hl hWn (hLy _) (Sgrow hS (by rw [f1]; omega) hold) r μ1 q F9 rfl X'
  refine ⟨t, step t ?_, b1⟩
  have e : T9.heap.size = cx.2.2.1 + a := by rw [hT]; exact hh
  rw [e]
  exact a1
theorem T_aast (K : Kx p s m args c cc nL own cx) {a len x : Nat} {i : Int32} {G : Mm → Option (β × Mm)} (hLy : ∀ μ, Ly μ) (hs : shp a = (6, len)) (ha : a ≤ n) (hx : shp x = (9, 2)) (hxn : x ≤ n) (hdg : decode cc pc = .ok (.aastore, 1)) (k : ∀ μ1, T p l e R s m args below meth c nL cx n Ly cells slots Q (pc + 1) lv st μ1 (G μ1)) : T p l e R s m args below meth c nL cx n Ly cells slots Q pc lv (.ref (cx.2.2.1 + x) :: .int i :: .ref (cx.2.2.1 + a) :: st) μ (wrR len μ a i x G) := by
  intro ls H locs hl hW hL hS r μ1 q
  unfold wrR at q
  split at q
  · next hi =>
    have hin : vp_in i len := vp_in_iff.mpr hi
    have h0 : a ≠ 0 := shp_pk hs (by decide)
    have hx0 : x ≠ 0 := shp_pk hx (by decide)
    have hlt : i.toNatClampNeg < len := Nat.not_le.mp fun q => hin (Or.inr q)
    have hi0 : ¬ i < 0 := fun q => hin (Or.inl q)
    have hKK := K.2.2.2.2.2.1.1
    obtain ⟨r', hr', cellV, g1, g2, g3, -⟩ := hW.1 _ _ (wL_a hx0 hxn (cel_obj hx))
    have hcls := (hKK.1 2 (RX2, TX2, 11) rfl).2
    obtain ⟨kA, comp, k1, k2, k3, -⟩ := (hKK.2 6 (cx.2.1 6, .object RX2) rfl).2
    have hcomp : comp = cx.1.1 2 := Option.some.inj (k3.symm.trans hcls.1)
    subst hcomp
    obtain ⟨kC, hkC, -⟩ := hcls.2
    refine W.aast K.1 K.2.1 (hW.1 _ _ (wL_a h0 ha (cel_6 (Or.inl rfl) hs))) (fun q h => by cases h) (fun h => by cases h) k1 k2 rfl hkC ⟨hi0, by show _ < (arrV _ _ _).slots.size; rw [arrV_size]; exact hlt⟩ g1 (fun q h => by rw [g3] at h; cases h) (by rw [g2]; exact hkC) (by rw [g2]; exact va_assign hcls) rfl rfl hdg fun H1 e z oq => ?_
    refine k _ ls H1 _ hl (hW.upd h0 ha z oq (cel_6 (Or.inl rfl) hs) (fun y h => celE_pR h) ?_) (hLy _) (hS.put z oq (Nat.lt_add_of_pos_right (Nat.pos_of_ne_zero h0))) r μ1 q
    show H1[cx.2.2.1 + a]? = some (vp_cell _ _)
    rw [e, vp_cell_q, vp_cell_q, arrV_store]
    refine congrArg some (congrArg (arrV (cx.2.1 6) len) (funext fun y => ?_))
    rw [gR_pR_at]
    show updV _ _ _ y = va_rf (rO _ (if y = i.toInt.toNat then x else gR μ a y))
    unfold updV
    by_cases hq : y = i.toNatClampNeg
    · rw [if_pos hq, if_pos (show y = i.toInt.toNat from hq), rf_rO, rV_pos hx0]
    · rw [if_neg hq, if_neg (show ¬ y = i.toInt.toNat from hq)]
  · cases q
end TC
