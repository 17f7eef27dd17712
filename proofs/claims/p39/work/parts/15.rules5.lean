/-! THE ROWS OF T, fifth: System.arraycopy -/
theorem celE_rL {ar : Nat → ClassId} {b : Nat} {μ : Mm} {a y : Nat} {f : Nat → Int64} (h : y ≠ a) : celE ar b (rL μ a f) y = celE ar b μ y := celE_eq rfl (gL_rL_ne h) rfl
section TR4
variable {β : Type} {p : Program} {l : Launch} {e : Env} {R : Room} {s : State} {m : MethodId} {args : Array Value} {below : List Frame} {meth : Method} {c : Code} {nL : Nat} {cx : CX} {n : Nat} {Ly : Mm → Prop} {cells slots : Nat} {Q : β → Mm → State → Prop} {pc : Nat} {lv : List (Nat × Value)} {st : List Value} {μ : Mm} {F : Option (β × Mm)} {cc : ByteArray} {own : String}


theorem T_cpI (K : Kx p s m args c cc nL own cx) {a0 a n0 n1 ix : Nat} {sp dp cnt : Int32} {G : Mm → Option (β × Mm)} (hLI : ∀ μ a f, Ly μ → Ly (rI μ a f)) (hdg : decode cc pc = .ok (.invokestatic ix, 3)) (hli : Cond.methodLink own ix arraycopyName ∈ WA) (hnat : Cond.native arraycopyName ∈ WA) (hsta : Cond.static arraycopyName ∈ WA) (hini : Cond.initialized "java/lang/System" ∈ WA) (hs0 : shp a0 = (1, n0)) (ha0 : a0 ≤ n) (hs1 : shp a = (1, n1)) (ha1 : a ≤ n) (hfr : 1 ≤ R.frames) (hlo : (st.map fun v => v.category).sum + (nativeFrameWords "java/lang/System" "arraycopy" 5 + 11) ≤ R.locals) (k : ∀ μ1, T p l e R s m args below meth c nL cx n Ly cells slots Q (pc + 3) lv st μ1 (G μ1)) : T p l e R s m args below meth c nL cx n Ly cells slots Q pc lv (.int cnt :: .int dp :: .ref (cx.2.2.1 + a) :: .int sp :: .ref (cx.2.2.1 + a0) :: st) μ (cpI n0 n1 μ a0 sp a dp cnt G) := by
  intro ls H locs hl hW hL hS r μ1 q
  unfold cpI at q
  split at q
  · next hc =>
    obtain ⟨g1, g2, g3, g4, g5⟩ := hc
    have z1 : ¬ sp < 0 := fun h => by rw [Int32.lt_iff_toInt_lt, Int32.toInt_zero] at h; omega
    have z2 : ¬ dp < 0 := fun h => by rw [Int32.lt_iff_toInt_lt, Int32.toInt_zero] at h; omega
    have z3 : ¬ cnt < 0 := fun h => by rw [Int32.lt_iff_toInt_lt, Int32.toInt_zero] at h; omega
    have h00 : a0 ≠ 0 := shp_pk hs0 (by decide)
    have h10 : a ≠ 0 := shp_pk hs1 (by decide)
    have hc0 : H[cx.2.2.1 + a0]? = some (arrV (cx.2.1 1) n0 (fun j => .int (gI μ a0 j))) := hW.1 _ _ (wL_a h00 ha0 (cel_1 hs0))
    have hc1 : H[cx.2.2.1 + a]? = some (arrV (cx.2.1 1) n1 (fun j => .int (gI μ a j))) := hW.1 _ _ (wL_a h10 ha1 (cel_1 hs1))
    have hko := (K.2.2.2.2.2.1.1.2 1 (cx.2.1 1, .int) rfl).1
    obtain ⟨-, k0, hk0, cm0, hkk0⟩ := hko n0 (fun j => .int (gI μ a0 j))
    obtain ⟨-, k1, hk1, cm1, hkk1⟩ := hko n1 (fun j => .int (gI μ a j))
    have i1 : sp.toNatClampNeg + cnt.toNatClampNeg ≤ n0 := by show sp.toInt.toNat + cnt.toInt.toNat ≤ n0; omega
    have i2 : dp.toNatClampNeg + cnt.toNatClampNeg ≤ n1 := by show dp.toInt.toNat + cnt.toInt.toNat ≤ n1; omega
    intro T9 hT X
    obtain ⟨vm', X', step⟩ := X.arraycopy K.1 K.2.2.2.1 (K.2.2.2.2.1 _ hli) (K.2.2.2.2.1 _ hnat) (K.2.2.2.2.1 _ hsta) (K.2.2.2.2.1 _ hini) (src := cx.2.2.1 + a0) (dst := cx.2.2.1 + a) (srcPos := sp) (destPos := dp) (n := cnt) (by rw [hT]; exact hc0) (by rw [hT]; exact hc1) (fun _ h => by cases h) (fun _ h => by cases h) (fun h => by cases h) (fun h => by cases h) hk0 hk1 hkk0 hkk1 (by simp [refKind]) z1 z2 z3
      (by rw [arrV_size]; omega) (by rw [arrV_size]; omega)
      (fun vm₁ _ i hi => by
        have e : (arrV (cx.2.1 1) n0 (fun j => .int (gI μ a0 j))).slots.getD (sp.toNatClampNeg + i) .null = .int (gI μ a0 (sp.toNatClampNeg + i)) := by
          rw [Array.getD_eq_getD_getElem?, arrV_read _ _ (by omega)]
          rfl
        exact ⟨by rw [e]; rfl, by rw [e]; exact trivial⟩)
      (g := F0 m pc ls (.int cnt :: .int dp :: .ref (cx.2.2.1 + a) :: .int sp :: .ref (cx.2.2.1 + a0) :: st)) rfl (hl.1.trans K.2.2.1.symm) (rest := st) rfl (by rw [K.2.1]; exact hdg) hfr (by show 2 * 0 + _ + _ ≤ _; omega)
    have e1 : copied (arrV (cx.2.1 1) n0 (fun j => .int (gI μ a0 j))) (arrV (cx.2.1 1) n1 (fun j => .int (gI μ a j))) sp dp cnt = arrV (cx.2.1 1) n1 (fun j => .int (va_cpy (gI μ a0) (gI μ a) sp.toNatClampNeg dp.toNatClampNeg cnt.toNatClampNeg j)) := va_copied (fun z => .int z) _ _ _ _ i1
    rw [e1] at X' step
    have hlt : cx.2.2.1 + a < H.size := (Array.getElem?_eq_some_iff.mp hc1).1
    generalize hnew : arrV (cx.2.1 1) n1 (fun j => .int (va_cpy (gI μ a0) (gI μ a) sp.toNatClampNeg dp.toNatClampNeg cnt.toNatClampNeg j)) = cell1 at X' step
    have hheap : ((T9.setVm vm').setCell (cx.2.2.1 + a) cell1).heap = H.setIfInBounds (cx.2.2.1 + a) cell1 := by rw [← hT]; rfl
    have oq : ∀ q : Nat, q ≠ cx.2.2.1 + a → (H.setIfInBounds (cx.2.2.1 + a) cell1)[q]? = H[q]? := fun q hq => by simp [Array.getElem?_setIfInBounds, Ne.symm hq]
    obtain ⟨t, a1, b1⟩ := k (rI μ a (va_cpy (gI μ a0) (gI μ a) sp.toInt.toNat dp.toInt.toNat cnt.toInt.toNat)) ls (H.setIfInBounds (cx.2.2.1 + a) cell1) _ hl (hW.upd h10 ha1 (by simp) oq (cel_1 hs1) (fun y h => celE_rI h) (by
        show (H.setIfInBounds (cx.2.2.1 + a) cell1)[cx.2.2.1 + a]? = some (vp_cell _ _)
        rw [Array.getElem?_setIfInBounds, if_pos rfl, if_pos hlt, ← hnew, gI_rI_at]
        rfl)) (hLI _ _ _ hL) ⟨by rw [Array.size_setIfInBounds]; exact hS.1, fun q g1 g2 => by
        rw [oq q (fun e => g2 (by rw [e]; exact Nat.lt_add_of_pos_right (Nat.pos_of_ne_zero h10)))]
        exact hS.2.1 q g1 g2, fun q hq => by
        rcases List.mem_append.mp hq with h | h
        · exact hS.2.2 q h
        · obtain ⟨z, -, hz⟩ := List.mem_map.mp h
          rw [← hz]
          exact Nat.lt_add_of_pos_right (Nat.pos_of_ne_zero h10)⟩ r μ1 q _ hheap X'
    exact ⟨t, step t a1, b1⟩
  · cases q
theorem T_cpL (K : Kx p s m args c cc nL own cx) {a0 a n0 n1 ix : Nat} {sp dp cnt : Int32} {G : Mm → Option (β × Mm)} (hLI : ∀ μ a f, Ly μ → Ly (rL μ a f)) (hdg : decode cc pc = .ok (.invokestatic ix, 3)) (hli : Cond.methodLink own ix arraycopyName ∈ WA) (hnat : Cond.native arraycopyName ∈ WA) (hsta : Cond.static arraycopyName ∈ WA) (hini : Cond.initialized "java/lang/System" ∈ WA) (hs0 : shp a0 = (5, n0)) (ha0 : a0 ≤ n) (hs1 : shp a = (5, n1)) (ha1 : a ≤ n) (hfr : 1 ≤ R.frames) (hlo : (st.map fun v => v.category).sum + (nativeFrameWords "java/lang/System" "arraycopy" 5 + 11) ≤ R.locals) (k : ∀ μ1, T p l e R s m args below meth c nL cx n Ly cells slots Q (pc + 3) lv st μ1 (G μ1)) : T p l e R s m args below meth c nL cx n Ly cells slots Q pc lv (.int cnt :: .int dp :: .ref (cx.2.2.1 + a) :: .int sp :: .ref (cx.2.2.1 + a0) :: st) μ (cpL n0 n1 μ a0 sp a dp cnt G) := by
  intro ls H locs hl hW hL hS r μ1 q
  unfold cpL at q
  split at q
  · next hc =>
    obtain ⟨g1, g2, g3, g4, g5⟩ := hc
    have z1 : ¬ sp < 0 := fun h => by rw [Int32.lt_iff_toInt_lt, Int32.toInt_zero] at h; omega
    have z2 : ¬ dp < 0 := fun h => by rw [Int32.lt_iff_toInt_lt, Int32.toInt_zero] at h; omega
    have z3 : ¬ cnt < 0 := fun h => by rw [Int32.lt_iff_toInt_lt, Int32.toInt_zero] at h; omega
    have h00 : a0 ≠ 0 := shp_pk hs0 (by decide)
    have h10 : a ≠ 0 := shp_pk hs1 (by decide)
    have hc0 : H[cx.2.2.1 + a0]? = some (arrV (cx.2.1 5) n0 (fun j => .long (gL μ a0 j))) := hW.1 _ _ (wL_a h00 ha0 (cel_5 hs0))
    have hc1 : H[cx.2.2.1 + a]? = some (arrV (cx.2.1 5) n1 (fun j => .long (gL μ a j))) := hW.1 _ _ (wL_a h10 ha1 (cel_5 hs1))
    have hko := (K.2.2.2.2.2.1.1.2 5 (cx.2.1 5, .long) rfl).1
    obtain ⟨-, k0, hk0, cm0, hkk0⟩ := hko n0 (fun j => .long (gL μ a0 j))
    obtain ⟨-, k1, hk1, cm1, hkk1⟩ := hko n1 (fun j => .long (gL μ a j))
    have i1 : sp.toNatClampNeg + cnt.toNatClampNeg ≤ n0 := by show sp.toInt.toNat + cnt.toInt.toNat ≤ n0; omega
    have i2 : dp.toNatClampNeg + cnt.toNatClampNeg ≤ n1 := by show dp.toInt.toNat + cnt.toInt.toNat ≤ n1; omega
    intro T9 hT X
    obtain ⟨vm', X', step⟩ := X.arraycopy K.1 K.2.2.2.1 (K.2.2.2.2.1 _ hli) (K.2.2.2.2.1 _ hnat) (K.2.2.2.2.1 _ hsta) (K.2.2.2.2.1 _ hini) (src := cx.2.2.1 + a0) (dst := cx.2.2.1 + a) (srcPos := sp) (destPos := dp) (n := cnt) (by rw [hT]; exact hc0) (by rw [hT]; exact hc1) (fun _ h => by cases h) (fun _ h => by cases h) (fun h => by cases h) (fun h => by cases h) hk0 hk1 hkk0 hkk1 (by simp [refKind]) z1 z2 z3
      (by rw [arrV_size]; omega) (by rw [arrV_size]; omega)
      (fun vm₁ _ i hi => by
        have e : (arrV (cx.2.1 5) n0 (fun j => .long (gL μ a0 j))).slots.getD (sp.toNatClampNeg + i) .null = .long (gL μ a0 (sp.toNatClampNeg + i)) := by
          rw [Array.getD_eq_getD_getElem?, arrV_read _ _ (by omega)]
          rfl
        exact ⟨by rw [e]; rfl, by rw [e]; exact trivial⟩)
      (g := F0 m pc ls (.int cnt :: .int dp :: .ref (cx.2.2.1 + a) :: .int sp :: .ref (cx.2.2.1 + a0) :: st)) rfl (hl.1.trans K.2.2.1.symm) (rest := st) rfl (by rw [K.2.1]; exact hdg) hfr (by show 2 * 0 + _ + _ ≤ _; omega)
    have e1 : copied (arrV (cx.2.1 5) n0 (fun j => .long (gL μ a0 j))) (arrV (cx.2.1 5) n1 (fun j => .long (gL μ a j))) sp dp cnt = arrV (cx.2.1 5) n1 (fun j => .long (va_cpy (gL μ a0) (gL μ a) sp.toNatClampNeg dp.toNatClampNeg cnt.toNatClampNeg j)) := va_copied (fun z => .long z) _ _ _ _ i1
    rw [e1] at X' step
    have hlt : cx.2.2.1 + a < H.size := (Array.getElem?_eq_some_iff.mp hc1).1
    generalize hnew : arrV (cx.2.1 5) n1 (fun j => .long (va_cpy (gL μ a0) (gL μ a) sp.toNatClampNeg dp.toNatClampNeg cnt.toNatClampNeg j)) = cell1 at X' step
    have hheap : ((T9.setVm vm').setCell (cx.2.2.1 + a) cell1).heap = H.setIfInBounds (cx.2.2.1 + a) cell1 := by rw [← hT]; rfl
    have oq : ∀ q : Nat, q ≠ cx.2.2.1 + a → (H.setIfInBounds (cx.2.2.1 + a) cell1)[q]? = H[q]? := fun q hq => by simp [Array.getElem?_setIfInBounds, Ne.symm hq]
    obtain ⟨t, a1, b1⟩ := k (rL μ a (va_cpy (gL μ a0) (gL μ a) sp.toInt.toNat dp.toInt.toNat cnt.toInt.toNat)) ls (H.setIfInBounds (cx.2.2.1 + a) cell1) _ hl (hW.upd h10 ha1 (by simp) oq (cel_5 hs1) (fun y h => celE_rL h) (by
        show (H.setIfInBounds (cx.2.2.1 + a) cell1)[cx.2.2.1 + a]? = some (vp_cell _ _)
        rw [Array.getElem?_setIfInBounds, if_pos rfl, if_pos hlt, ← hnew, gL_rL_at]
        rfl)) (hLI _ _ _ hL) ⟨by rw [Array.size_setIfInBounds]; exact hS.1, fun q g1 g2 => by
        rw [oq q (fun e => g2 (by rw [e]; exact Nat.lt_add_of_pos_right (Nat.pos_of_ne_zero h10)))]
        exact hS.2.1 q g1 g2, fun q hq => by
        rcases List.mem_append.mp hq with h | h
        · exact hS.2.2 q h
        · obtain ⟨z, -, hz⟩ := List.mem_map.mp h
          rw [← hz]
          exact Nat.lt_add_of_pos_right (Nat.pos_of_ne_zero h10)⟩ r μ1 q _ hheap X'
    exact ⟨t, step t a1, b1⟩
  · cases q
end TR4
