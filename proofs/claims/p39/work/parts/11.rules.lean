/-! THE ROWS OF T: an instruction each -/
section TR
variable {β : Type} {p : Program} {l : Launch} {e : Env} {R : Room} {s : State} {m : MethodId} {args : Array Value} {below : List Frame} {meth : Method} {c : Code} {nL : Nat} {cx : CX} {n : Nat} {Ly : Mm → Prop} {cells slots : Nat} {Q : β → Mm → State → Prop} {pc : Nat} {lv : List (Nat × Value)} {st : List Value} {μ : Mm} {F : Option (β × Mm)} {cc : ByteArray} {own : String}
/-- any row of the machine that changes frame alone -/
theorem T_of {pc2 : Nat} {st2 : List Value} {F2 : Option (β × Mm)} (h : ∀ (ls : Array Slot) (H : Heap) (locs : List Loc) (Q1 : State → Prop), W p l e R s m args below meth c H locs cells slots Q1 (F0 m pc2 ls st2) → W p l e R s m args below meth c H locs cells slots Q1 (F0 m pc ls st)) (hF : ∀ x, F = some x → F2 = some x) (k : T p l e R s m args below meth c nL cx n Ly cells slots Q pc2 lv st2 μ F2) : T p l e R s m args below meth c nL cx n Ly cells slots Q pc lv st μ F :=
  fun ls H locs hl hW hL hS r μ1 q => h ls H locs _ (k ls H locs hl hW hL hS r μ1 (hF _ q))
theorem T_nm {α : Type} {v : α} {G : α → Option (β × Mm)} (k : T p l e R s m args below meth c nL cx n Ly cells slots Q pc lv st μ (G v)) : T p l e R s m args below meth c nL cx n Ly cells slots Q pc lv st μ (nm v G) := k
theorem T_none : T p l e R s m args below meth c nL cx n Ly cells slots Q pc lv st μ none := fun _ _ _ _ _ _ _ _ _ q => by cases q
theorem T_if {P : Prop} [Decidable P] {A B : Option (β × Mm)} (k1 : P → T p l e R s m args below meth c nL cx n Ly cells slots Q pc lv st μ A) (k2 : ¬ P → T p l e R s m args below meth c nL cx n Ly cells slots Q pc lv st μ B) : T p l e R s m args below meth c nL cx n Ly cells slots Q pc lv st μ (if P then A else B) := by
  by_cases h : P
  · rw [if_pos h]; exact k1 h
  · rw [if_neg h]; exact k2 h
/-- fewer locals -/
theorem T_sub {lv' : List (Nat × Value)} (ks : List Nat) (hl' : lv_pick lv ks = lv') (k : T p l e R s m args below meth c nL cx n Ly cells slots Q pc lv' st μ F) : T p l e R s m args below meth c nL cx n Ly cells slots Q pc lv st μ F :=
  fun ls H locs hl hW hL hS r μ1 q => k ls H locs (lv_sub hl ks hl') hW hL hS r μ1 q
theorem T_iconst (K : Kx p s m args c cc nL own cx) {z : Int} (hdg : decode cc pc = .ok (.iconst z, 1))  (k : T p l e R s m args below meth c nL cx n Ly cells slots Q (pc + 1) lv (.int (iI z) :: st) μ F) : T p l e R s m args below meth c nL cx n Ly cells slots Q pc lv st μ F :=
  T_of (fun _ _ _ _ q => lv_iconst K.1 K.2.1 hdg rfl q) (fun _ q => q) k
theorem T_bipush (K : Kx p s m args c cc nL own cx) {z : Int} (hdg : decode cc pc = .ok (.bipush z, 2))  (hv : (Int8.ofInt z).toInt32 = iI z) (k : T p l e R s m args below meth c nL cx n Ly cells slots Q (pc + 2) lv (.int (iI z) :: st) μ F) : T p l e R s m args below meth c nL cx n Ly cells slots Q pc lv st μ F :=
  T_of (fun _ _ _ _ q => lv_bipush K.1 K.2.1 hdg hv q) (fun _ q => q) k
theorem T_sipush (K : Kx p s m args c cc nL own cx) {z : Int} (hdg : decode cc pc = .ok (.sipush z, 3))  (hv : (Int16.ofInt z).toInt32 = iI z) (k : T p l e R s m args below meth c nL cx n Ly cells slots Q (pc + 3) lv (.int (iI z) :: st) μ F) : T p l e R s m args below meth c nL cx n Ly cells slots Q pc lv st μ F :=
  T_of (fun _ _ _ _ q => lv_sipush K.1 K.2.1 hdg hv q) (fun _ q => q) k
theorem T_ldc (K : Kx p s m args c cc nL own cx) {z : Int} {ix : Nat} (hdg : decode cc pc = .ok (.ldc ix, 2)) (hc : Cond.constant own ix (iI z) ∈ WA) (k : T p l e R s m args below meth c nL cx n Ly cells slots Q (pc + 2) lv (.int (iI z) :: st) μ F) : T p l e R s m args below meth c nL cx n Ly cells slots Q pc lv st μ F :=
  T_of (fun _ _ _ _ q => lv_ldc K.1 K.2.1 K.2.2.2.1 (K.2.2.2.2.1 _ hc) hdg q) (fun _ q => q) k
theorem T_ldcw (K : Kx p s m args c cc nL own cx) {z : Int} {ix : Nat} (hdg : decode cc pc = .ok (.ldc_w ix, 3)) (hc : Cond.constant own ix (iI z) ∈ WA) (k : T p l e R s m args below meth c nL cx n Ly cells slots Q (pc + 3) lv (.int (iI z) :: st) μ F) : T p l e R s m args below meth c nL cx n Ly cells slots Q pc lv st μ F :=
  T_of (fun _ _ _ _ q => lv_ldcw K.1 K.2.1 K.2.2.2.1 (K.2.2.2.2.1 _ hc) hdg q) (fun _ q => q) k
theorem T_ldc2 (K : Kx p s m args c cc nL own cx) {z : Int} {ix : Nat} (hdg : decode cc pc = .ok (.ldc2_w ix, 3)) (hc : Cond.constantLong own ix (iL z) ∈ WA) (k : T p l e R s m args below meth c nL cx n Ly cells slots Q (pc + 3) lv (.long (iL z) :: st) μ F) : T p l e R s m args below meth c nL cx n Ly cells slots Q pc lv st μ F :=
  T_of (fun _ _ _ _ q => lv_ldc2 K.1 K.2.1 K.2.2.2.1 (K.2.2.2.2.1 _ hc) hdg q) (fun _ q => q) k
theorem T_lconst (K : Kx p s m args c cc nL own cx) {z : Fin 2} {x : Int64} (hdg : decode cc pc = .ok (.lconst z, 1)) (hx : Int64.ofNat (z : Nat) = x) (k : T p l e R s m args below meth c nL cx n Ly cells slots Q (pc + 1) lv (.long x :: st) μ F) : T p l e R s m args below meth c nL cx n Ly cells slots Q pc lv st μ F :=
  T_of (fun _ _ _ _ q => lv_lconst K.1 K.2.1 hdg hx q) (fun _ q => q) k
theorem T_iload_n (K : Kx p s m args c cc nL own cx) {i : Fin 4} {x : Int32} (hdg : decode cc pc = .ok (.iload_n i, 1)) (j : Nat) (hj : lv[j]? = some ((i : Nat), .int x)) (k : T p l e R s m args below meth c nL cx n Ly cells slots Q (pc + 1) lv (.int x :: st) μ F) : T p l e R s m args below meth c nL cx n Ly cells slots Q pc lv st μ F :=
  fun ls H locs hl hW hL hS r μ1 q => lv_iload_n K.1 K.2.1 hdg rfl (lv_at hl j hj) (k ls H locs hl hW hL hS r μ1 q)
theorem T_iload (K : Kx p s m args c cc nL own cx) {i : Nat} {x : Int32} (hdg : decode cc pc = .ok (.iload i, 2)) (j : Nat) (hj : lv[j]? = some (i, .int x)) (k : T p l e R s m args below meth c nL cx n Ly cells slots Q (pc + 2) lv (.int x :: st) μ F) : T p l e R s m args below meth c nL cx n Ly cells slots Q pc lv st μ F :=
  fun ls H locs hl hW hL hS r μ1 q => lv_iload K.1 K.2.1 hdg (lv_at hl j hj) (k ls H locs hl hW hL hS r μ1 q)
theorem T_lload_n (K : Kx p s m args c cc nL own cx) {i : Fin 4} {x : Int64} (hdg : decode cc pc = .ok (.lload_n i, 1)) (j : Nat) (hj : lv[j]? = some ((i : Nat), .long x)) (k : T p l e R s m args below meth c nL cx n Ly cells slots Q (pc + 1) lv (.long x :: st) μ F) : T p l e R s m args below meth c nL cx n Ly cells slots Q pc lv st μ F :=
  fun ls H locs hl hW hL hS r μ1 q => lv_lload_n K.1 K.2.1 hdg rfl (lv_at hl j hj) (k ls H locs hl hW hL hS r μ1 q)
theorem T_lload (K : Kx p s m args c cc nL own cx) {i : Nat} {x : Int64} (hdg : decode cc pc = .ok (.lload i, 2)) (j : Nat) (hj : lv[j]? = some (i, .long x)) (k : T p l e R s m args below meth c nL cx n Ly cells slots Q (pc + 2) lv (.long x :: st) μ F) : T p l e R s m args below meth c nL cx n Ly cells slots Q pc lv st μ F :=
  fun ls H locs hl hW hL hS r μ1 q => lv_lload K.1 K.2.1 hdg (lv_at hl j hj) (k ls H locs hl hW hL hS r μ1 q)
theorem T_aload_n (K : Kx p s m args c cc nL own cx) {i : Fin 4} {x : Nat} (hdg : decode cc pc = .ok (.aload_n i, 1)) (j : Nat) (hj : lv[j]? = some ((i : Nat), .ref x)) (k : T p l e R s m args below meth c nL cx n Ly cells slots Q (pc + 1) lv (.ref x :: st) μ F) : T p l e R s m args below meth c nL cx n Ly cells slots Q pc lv st μ F :=
  fun ls H locs hl hW hL hS r μ1 q => lv_aload_n K.1 K.2.1 hdg rfl (lv_at hl j hj) (k ls H locs hl hW hL hS r μ1 q)
theorem T_aload (K : Kx p s m args c cc nL own cx) {i : Nat} {x : Nat} (hdg : decode cc pc = .ok (.aload i, 2)) (j : Nat) (hj : lv[j]? = some (i, .ref x)) (k : T p l e R s m args below meth c nL cx n Ly cells slots Q (pc + 2) lv (.ref x :: st) μ F) : T p l e R s m args below meth c nL cx n Ly cells slots Q pc lv st μ F :=
  fun ls H locs hl hW hL hS r μ1 q => lv_aload K.1 K.2.1 hdg (lv_at hl j hj) (k ls H locs hl hW hL hS r μ1 q)
theorem T_istore_n (K : Kx p s m args c cc nL own cx) {i : Fin 4} {x : Int32} {lv' : List (Nat × Value)} (hdg : decode cc pc = .ok (.istore_n i, 1))  (hn : (i : Nat) < nL) (hl' : ((i : Nat), Value.int x) :: lv.filter (fun q => !(q.1 == (i : Nat)) && !(q.1 + 1 == (i : Nat) && q.2.category == 2)) = lv') (k : T p l e R s m args below meth c nL cx n Ly cells slots Q (pc + 1) lv' st μ F) : T p l e R s m args below meth c nL cx n Ly cells slots Q pc lv (.int x :: st) μ F :=
  fun ls H locs hl hW hL hS r μ1 q => lv_istore_n K.1 K.2.1 hdg rfl hl hn hl' (fun ls2 hl2 => k ls2 H locs hl2 hW hL hS r μ1 q)
theorem T_istore (K : Kx p s m args c cc nL own cx) {i : Nat} {x : Int32} {lv' : List (Nat × Value)} (hdg : decode cc pc = .ok (.istore i, 2))  (hn : i < nL) (hl' : (i, Value.int x) :: lv.filter (fun q => !(q.1 == i) && !(q.1 + 1 == i && q.2.category == 2)) = lv') (k : T p l e R s m args below meth c nL cx n Ly cells slots Q (pc + 2) lv' st μ F) : T p l e R s m args below meth c nL cx n Ly cells slots Q pc lv (.int x :: st) μ F :=
  fun ls H locs hl hW hL hS r μ1 q => lv_istore K.1 K.2.1 hdg hl hn hl' (fun ls2 hl2 => k ls2 H locs hl2 hW hL hS r μ1 q)
theorem T_astore_n (K : Kx p s m args c cc nL own cx) {i : Fin 4} {x : Nat} {lv' : List (Nat × Value)} (hdg : decode cc pc = .ok (.astore_n i, 1))  (hn : (i : Nat) < nL) (hl' : ((i : Nat), Value.ref x) :: lv.filter (fun q => !(q.1 == (i : Nat)) && !(q.1 + 1 == (i : Nat) && q.2.category == 2)) = lv') (k : T p l e R s m args below meth c nL cx n Ly cells slots Q (pc + 1) lv' st μ F) : T p l e R s m args below meth c nL cx n Ly cells slots Q pc lv (.ref x :: st) μ F :=
  fun ls H locs hl hW hL hS r μ1 q => lv_astore_n K.1 K.2.1 hdg rfl hl hn hl' (fun ls2 hl2 => k ls2 H locs hl2 hW hL hS r μ1 q)
theorem T_astore (K : Kx p s m args c cc nL own cx) {i : Nat} {x : Nat} {lv' : List (Nat × Value)} (hdg : decode cc pc = .ok (.astore i, 2))  (hn : i < nL) (hl' : (i, Value.ref x) :: lv.filter (fun q => !(q.1 == i) && !(q.1 + 1 == i && q.2.category == 2)) = lv') (k : T p l e R s m args below meth c nL cx n Ly cells slots Q (pc + 2) lv' st μ F) : T p l e R s m args below meth c nL cx n Ly cells slots Q pc lv (.ref x :: st) μ F :=
  fun ls H locs hl hW hL hS r μ1 q => lv_astore K.1 K.2.1 hdg hl hn hl' (fun ls2 hl2 => k ls2 H locs hl2 hW hL hS r μ1 q)
theorem T_lstore_n (K : Kx p s m args c cc nL own cx) {i : Fin 4} {x : Int64} {lv' : List (Nat × Value)} (hdg : decode cc pc = .ok (.lstore_n i, 1))  (hn : (i : Nat) + 1 < nL) (hl' : ((i : Nat), Value.long x) :: lv.filter (fun q => !(q.1 == (i : Nat)) && (!(q.1 == (i : Nat) + 1) && !(q.1 + 1 == (i : Nat) && q.2.category == 2))) = lv') (k : T p l e R s m args below meth c nL cx n Ly cells slots Q (pc + 1) lv' st μ F) : T p l e R s m args below meth c nL cx n Ly cells slots Q pc lv (.long x :: st) μ F :=
  fun ls H locs hl hW hL hS r μ1 q => lv_lstore_n K.1 K.2.1 hdg rfl hl hn hl' (fun ls2 hl2 => k ls2 H locs hl2 hW hL hS r μ1 q)
theorem T_lstore (K : Kx p s m args c cc nL own cx) {i : Nat} {x : Int64} {lv' : List (Nat × Value)} (hdg : decode cc pc = .ok (.lstore i, 2))  (hn : i + 1 < nL) (hl' : (i, Value.long x) :: lv.filter (fun q => !(q.1 == i) && (!(q.1 == i + 1) && !(q.1 + 1 == i && q.2.category == 2))) = lv') (k : T p l e R s m args below meth c nL cx n Ly cells slots Q (pc + 2) lv' st μ F) : T p l e R s m args below meth c nL cx n Ly cells slots Q pc lv (.long x :: st) μ F :=
  fun ls H locs hl hW hL hS r μ1 q => lv_lstore K.1 K.2.1 hdg hl hn hl' (fun ls2 hl2 => k ls2 H locs hl2 hW hL hS r μ1 q)
theorem T_iinc (K : Kx p s m args c cc nL own cx) {i : Nat} {z : Int} {x v : Int32} {lv' : List (Nat × Value)} (hdg : decode cc pc = .ok (.iinc i z, 3)) (j : Nat) (hj : lv[j]? = some (i, .int x)) (hv : x + iI z = v) (hn : i < nL) (hl' : (i, Value.int v) :: lv.filter (fun q => !(q.1 == i) && !(q.1 + 1 == i && q.2.category == 2)) = lv') (k : T p l e R s m args below meth c nL cx n Ly cells slots Q (pc + 3) lv' st μ F) : T p l e R s m args below meth c nL cx n Ly cells slots Q pc lv st μ F :=
  fun ls H locs hl hW hL hS r μ1 q => lv_iinc (v := v) K.1 K.2.1 hdg hl hj hv hn hl' (fun ls2 hl2 => k ls2 H locs hl2 hW hL hS r μ1 q)
theorem T_iadd (K : Kx p s m args c cc nL own cx) {x y : Int32} (hdg : decode cc pc = .ok (.iadd, 1))  (k : T p l e R s m args below meth c nL cx n Ly cells slots Q (pc + 1) lv (.int (x + y) :: st) μ F) : T p l e R s m args below meth c nL cx n Ly cells slots Q pc lv (.int y :: .int x :: st) μ F :=
  T_of (fun _ _ _ _ q => lv_iadd K.1 K.2.1 hdg  q) (fun _ q => q) k
theorem T_isub (K : Kx p s m args c cc nL own cx) {x y : Int32} (hdg : decode cc pc = .ok (.isub, 1))  (k : T p l e R s m args below meth c nL cx n Ly cells slots Q (pc + 1) lv (.int (x - y) :: st) μ F) : T p l e R s m args below meth c nL cx n Ly cells slots Q pc lv (.int y :: .int x :: st) μ F :=
  T_of (fun _ _ _ _ q => lv_isub K.1 K.2.1 hdg  q) (fun _ q => q) k
theorem T_imul (K : Kx p s m args c cc nL own cx) {x y : Int32} (hdg : decode cc pc = .ok (.imul, 1))  (k : T p l e R s m args below meth c nL cx n Ly cells slots Q (pc + 1) lv (.int (x * y) :: st) μ F) : T p l e R s m args below meth c nL cx n Ly cells slots Q pc lv (.int y :: .int x :: st) μ F :=
  T_of (fun _ _ _ _ q => lv_imul K.1 K.2.1 hdg  q) (fun _ q => q) k
theorem T_iand (K : Kx p s m args c cc nL own cx) {x y : Int32} (hdg : decode cc pc = .ok (.iand, 1))  (k : T p l e R s m args below meth c nL cx n Ly cells slots Q (pc + 1) lv (.int (x &&& y) :: st) μ F) : T p l e R s m args below meth c nL cx n Ly cells slots Q pc lv (.int y :: .int x :: st) μ F :=
  T_of (fun _ _ _ _ q => lv_iand K.1 K.2.1 hdg  q) (fun _ q => q) k
theorem T_ior (K : Kx p s m args c cc nL own cx) {x y : Int32} (hdg : decode cc pc = .ok (.ior, 1))  (k : T p l e R s m args below meth c nL cx n Ly cells slots Q (pc + 1) lv (.int (x ||| y) :: st) μ F) : T p l e R s m args below meth c nL cx n Ly cells slots Q pc lv (.int y :: .int x :: st) μ F :=
  T_of (fun _ _ _ _ q => lv_ior K.1 K.2.1 hdg  q) (fun _ q => q) k
theorem T_ixor (K : Kx p s m args c cc nL own cx) {x y : Int32} (hdg : decode cc pc = .ok (.ixor, 1))  (k : T p l e R s m args below meth c nL cx n Ly cells slots Q (pc + 1) lv (.int (x ^^^ y) :: st) μ F) : T p l e R s m args below meth c nL cx n Ly cells slots Q pc lv (.int y :: .int x :: st) μ F :=
  T_of (fun _ _ _ _ q => lv_ixor K.1 K.2.1 hdg  q) (fun _ q => q) k
theorem T_ishl (K : Kx p s m args c cc nL own cx) {x y : Int32} (hdg : decode cc pc = .ok (.ishl, 1))  (k : T p l e R s m args below meth c nL cx n Ly cells slots Q (pc + 1) lv (.int (x <<< (y &&& 31)) :: st) μ F) : T p l e R s m args below meth c nL cx n Ly cells slots Q pc lv (.int y :: .int x :: st) μ F :=
  T_of (fun _ _ _ _ q => lv_ishl K.1 K.2.1 hdg  q) (fun _ q => q) k
theorem T_ishr (K : Kx p s m args c cc nL own cx) {x y : Int32} (hdg : decode cc pc = .ok (.ishr, 1))  (k : T p l e R s m args below meth c nL cx n Ly cells slots Q (pc + 1) lv (.int (x >>> (y &&& 31)) :: st) μ F) : T p l e R s m args below meth c nL cx n Ly cells slots Q pc lv (.int y :: .int x :: st) μ F :=
  T_of (fun _ _ _ _ q => lv_ishr K.1 K.2.1 hdg  q) (fun _ q => q) k
theorem T_ineg (K : Kx p s m args c cc nL own cx) {x : Int32} (hdg : decode cc pc = .ok (.ineg, 1))  (k : T p l e R s m args below meth c nL cx n Ly cells slots Q (pc + 1) lv (.int (-x) :: st) μ F) : T p l e R s m args below meth c nL cx n Ly cells slots Q pc lv (.int x :: st) μ F :=
  T_of (fun _ _ _ _ q => lv_ineg K.1 K.2.1 hdg  q) (fun _ q => q) k
theorem T_iushr (K : Kx p s m args c cc nL own cx) {x y : Int32} (hdg : decode cc pc = .ok (.iushr, 1))  (k : T p l e R s m args below meth c nL cx n Ly cells slots Q (pc + 1) lv (.int ((x.toUInt32 >>> (y.toUInt32 &&& Int32.toUInt32 31)).toInt32) :: st) μ F) : T p l e R s m args below meth c nL cx n Ly cells slots Q pc lv (.int y :: .int x :: st) μ F :=
  T_of (fun _ _ _ _ q => lv_iushr K.1 K.2.1 hdg rfl q) (fun _ q => q) k
theorem T_ladd (K : Kx p s m args c cc nL own cx) {x y : Int64} (hdg : decode cc pc = .ok (.ladd, 1))  (k : T p l e R s m args below meth c nL cx n Ly cells slots Q (pc + 1) lv (.long (x + y) :: st) μ F) : T p l e R s m args below meth c nL cx n Ly cells slots Q pc lv (.long y :: .long x :: st) μ F :=
  T_of (fun _ _ _ _ q => lv_ladd K.1 K.2.1 hdg  q) (fun _ q => q) k
theorem T_land (K : Kx p s m args c cc nL own cx) {x y : Int64} (hdg : decode cc pc = .ok (.land, 1))  (k : T p l e R s m args below meth c nL cx n Ly cells slots Q (pc + 1) lv (.long (x &&& y) :: st) μ F) : T p l e R s m args below meth c nL cx n Ly cells slots Q pc lv (.long y :: .long x :: st) μ F :=
  T_of (fun _ _ _ _ q => lv_land K.1 K.2.1 hdg  q) (fun _ q => q) k
theorem T_lor (K : Kx p s m args c cc nL own cx) {x y : Int64} (hdg : decode cc pc = .ok (.lor, 1))  (k : T p l e R s m args below meth c nL cx n Ly cells slots Q (pc + 1) lv (.long (x ||| y) :: st) μ F) : T p l e R s m args below meth c nL cx n Ly cells slots Q pc lv (.long y :: .long x :: st) μ F :=
  T_of (fun _ _ _ _ q => lv_lor K.1 K.2.1 hdg  q) (fun _ q => q) k
theorem T_lshl (K : Kx p s m args c cc nL own cx) {x : Int64} {y : Int32} (hdg : decode cc pc = .ok (.lshl, 1))  (k : T p l e R s m args below meth c nL cx n Ly cells slots Q (pc + 1) lv (.long (x <<< (y.toInt64 &&& 63)) :: st) μ F) : T p l e R s m args below meth c nL cx n Ly cells slots Q pc lv (.int y :: .long x :: st) μ F :=
  T_of (fun _ _ _ _ q => lv_lshl K.1 K.2.1 hdg rfl q) (fun _ q => q) k
theorem T_i2l (K : Kx p s m args c cc nL own cx) {x : Int32} (hdg : decode cc pc = .ok (.i2l, 1))  (k : T p l e R s m args below meth c nL cx n Ly cells slots Q (pc + 1) lv (.long (x.toInt64) :: st) μ F) : T p l e R s m args below meth c nL cx n Ly cells slots Q pc lv (.int x :: st) μ F :=
  T_of (fun _ _ _ _ q => lv_i2l K.1 K.2.1 hdg rfl q) (fun _ q => q) k
theorem T_l2i (K : Kx p s m args c cc nL own cx) {x : Int64} (hdg : decode cc pc = .ok (.l2i, 1))  (k : T p l e R s m args below meth c nL cx n Ly cells slots Q (pc + 1) lv (.int (x.toInt32) :: st) μ F) : T p l e R s m args below meth c nL cx n Ly cells slots Q pc lv (.long x :: st) μ F :=
  T_of (fun _ _ _ _ q => lv_l2i K.1 K.2.1 hdg rfl q) (fun _ q => q) k
theorem T_i2b (K : Kx p s m args c cc nL own cx) {x : Int32} (hdg : decode cc pc = .ok (.i2b, 1))  (k : T p l e R s m args below meth c nL cx n Ly cells slots Q (pc + 1) lv (.int (x.toInt8.toInt32) :: st) μ F) : T p l e R s m args below meth c nL cx n Ly cells slots Q pc lv (.int x :: st) μ F :=
  T_of (fun _ _ _ _ q => lv_i2b K.1 K.2.1 hdg rfl q) (fun _ q => q) k
theorem T_i2s (K : Kx p s m args c cc nL own cx) {x : Int32} (hdg : decode cc pc = .ok (.i2s, 1))  (k : T p l e R s m args below meth c nL cx n Ly cells slots Q (pc + 1) lv (.int (x.toInt16.toInt32) :: st) μ F) : T p l e R s m args below meth c nL cx n Ly cells slots Q pc lv (.int x :: st) μ F :=
  T_of (fun _ _ _ _ q => lv_i2s K.1 K.2.1 hdg rfl q) (fun _ q => q) k
theorem T_i2c (K : Kx p s m args c cc nL own cx) {x : Int32} (hdg : decode cc pc = .ok (.i2c, 1))  (k : T p l e R s m args below meth c nL cx n Ly cells slots Q (pc + 1) lv (.int ((x.toUInt32 % 65536).toInt32) :: st) μ F) : T p l e R s m args below meth c nL cx n Ly cells slots Q pc lv (.int x :: st) μ F :=
  T_of (fun _ _ _ _ q => lv_i2c K.1 K.2.1 hdg rfl q) (fun _ q => q) k
theorem T_lcmp (K : Kx p s m args c cc nL own cx) {x y : Int64} (hdg : decode cc pc = .ok (.lcmp, 1))  (k : T p l e R s m args below meth c nL cx n Ly cells slots Q (pc + 1) lv (.int (lg_cmp x y) :: st) μ F) : T p l e R s m args below meth c nL cx n Ly cells slots Q pc lv (.long y :: .long x :: st) μ F :=
  T_of (fun _ _ _ _ q => W.lcmp K.1 K.2.1 hdg  q) (fun _ q => q) k
theorem T_dup (K : Kx p s m args c cc nL own cx) {v : Value} (hdg : decode cc pc = .ok (.dup, 1))  (h1 : v.category = 1) (k : T p l e R s m args below meth c nL cx n Ly cells slots Q (pc + 1) lv (v :: v :: st) μ F) : T p l e R s m args below meth c nL cx n Ly cells slots Q pc lv (v :: st) μ F :=
  T_of (fun _ _ _ _ q => lv_dup K.1 K.2.1 hdg h1 q) (fun _ q => q) k
theorem T_pop (K : Kx p s m args c cc nL own cx) {v : Value} (hdg : decode cc pc = .ok (.pop, 1))  (h1 : v.category = 1) (k : T p l e R s m args below meth c nL cx n Ly cells slots Q (pc + 1) lv st μ F) : T p l e R s m args below meth c nL cx n Ly cells slots Q pc lv (v :: st) μ F :=
  T_of (fun _ _ _ _ q => lv_pop K.1 K.2.1 hdg h1 q) (fun _ q => q) k
theorem T_dup2 (K : Kx p s m args c cc nL own cx) {v w : Value} (hdg : decode cc pc = .ok (.dup2, 1))  (h1 : v.category = 1) (h2 : w.category = 1) (k : T p l e R s m args below meth c nL cx n Ly cells slots Q (pc + 1) lv (v :: w :: v :: w :: st) μ F) : T p l e R s m args below meth c nL cx n Ly cells slots Q pc lv (v :: w :: st) μ F :=
  T_of (fun _ _ _ _ q => lv_dup2_11 K.1 K.2.1 hdg h1 h2 q) (fun _ q => q) k
theorem T_goto (K : Kx p s m args c cc nL own cx) {off : Int} {tgt : Nat} (hdg : decode cc pc = .ok (.goto off, 3))  (ht : (pc : Int) + off = (tgt : Int)) (k : T p l e R s m args below meth c nL cx n Ly cells slots Q tgt lv st μ F) : T p l e R s m args below meth c nL cx n Ly cells slots Q pc lv st μ F :=
  T_of (fun _ _ _ _ q => lv_goto K.1 K.2.1 hdg ht q) (fun _ q => q) k
theorem T_icmp_eq (K : Kx p s m args c cc nL own cx) {x y : Int32} {off : Int} {tgt : Nat} {A B : Option (β × Mm)} (hdg : decode cc pc = .ok (.if_icmp .eq off, 3))  (ht : (pc : Int) + off = (tgt : Int)) (k1 : T p l e R s m args below meth c nL cx n Ly cells slots Q tgt lv st μ A) (k2 : T p l e R s m args below meth c nL cx n Ly cells slots Q (pc + 3) lv st μ B) : T p l e R s m args below meth c nL cx n Ly cells slots Q pc lv (.int y :: .int x :: st) μ (if x = y then A else B) := by
  intro ls H locs hl hW hL hS r μ1 q
  refine lv_icmp_eq K.1 K.2.1 hdg ht (fun h => ?_) (fun h => ?_)
  · rw [if_pos h] at q; exact k1 ls H locs hl hW hL hS r μ1 q
  · rw [if_neg h] at q; exact k2 ls H locs hl hW hL hS r μ1 q
theorem T_if_eq (K : Kx p s m args c cc nL own cx) {x : Int32} {off : Int} {tgt : Nat} {A B : Option (β × Mm)} (hdg : decode cc pc = .ok (.ifCond .eq off, 3))  (ht : (pc : Int) + off = (tgt : Int)) (k1 : T p l e R s m args below meth c nL cx n Ly cells slots Q tgt lv st μ A) (k2 : T p l e R s m args below meth c nL cx n Ly cells slots Q (pc + 3) lv st μ B) : T p l e R s m args below meth c nL cx n Ly cells slots Q pc lv (.int x :: st) μ (if x = iI 0 then A else B) := by
  intro ls H locs hl hW hL hS r μ1 q
  have hz : iI 0 = (0 : Int32) := rfl
  rw [hz] at q
  refine lv_if_eq K.1 K.2.1 hdg ht (fun h => ?_) (fun h => ?_)
  · rw [if_pos h] at q; exact k1 ls H locs hl hW hL hS r μ1 q
  · rw [if_neg h] at q; exact k2 ls H locs hl hW hL hS r μ1 q
theorem T_icmp_ne (K : Kx p s m args c cc nL own cx) {x y : Int32} {off : Int} {tgt : Nat} {A B : Option (β × Mm)} (hdg : decode cc pc = .ok (.if_icmp .ne off, 3))  (ht : (pc : Int) + off = (tgt : Int)) (k1 : T p l e R s m args below meth c nL cx n Ly cells slots Q tgt lv st μ A) (k2 : T p l e R s m args below meth c nL cx n Ly cells slots Q (pc + 3) lv st μ B) : T p l e R s m args below meth c nL cx n Ly cells slots Q pc lv (.int y :: .int x :: st) μ (if x = y then B else A) := by
  intro ls H locs hl hW hL hS r μ1 q
  refine lv_icmp_ne K.1 K.2.1 hdg ht (fun h => ?_) (fun h => ?_)
  · rw [if_neg h] at q; exact k1 ls H locs hl hW hL hS r μ1 q
  · rw [if_pos h] at q; exact k2 ls H locs hl hW hL hS r μ1 q
theorem T_if_ne (K : Kx p s m args c cc nL own cx) {x : Int32} {off : Int} {tgt : Nat} {A B : Option (β × Mm)} (hdg : decode cc pc = .ok (.ifCond .ne off, 3))  (ht : (pc : Int) + off = (tgt : Int)) (k1 : T p l e R s m args below meth c nL cx n Ly cells slots Q tgt lv st μ A) (k2 : T p l e R s m args below meth c nL cx n Ly cells slots Q (pc + 3) lv st μ B) : T p l e R s m args below meth c nL cx n Ly cells slots Q pc lv (.int x :: st) μ (if x = iI 0 then B else A) := by
  intro ls H locs hl hW hL hS r μ1 q
  have hz : iI 0 = (0 : Int32) := rfl
  rw [hz] at q
  refine lv_if_ne K.1 K.2.1 hdg ht (fun h => ?_) (fun h => ?_)
  · rw [if_neg h] at q; exact k1 ls H locs hl hW hL hS r μ1 q
  · rw [if_pos h] at q; exact k2 ls H locs hl hW hL hS r μ1 q
theorem T_icmp_lt (K : Kx p s m args c cc nL own cx) {x y : Int32} {off : Int} {tgt : Nat} {A B : Option (β × Mm)} (hdg : decode cc pc = .ok (.if_icmp .lt off, 3))  (ht : (pc : Int) + off = (tgt : Int)) (k1 : T p l e R s m args below meth c nL cx n Ly cells slots Q tgt lv st μ A) (k2 : T p l e R s m args below meth c nL cx n Ly cells slots Q (pc + 3) lv st μ B) : T p l e R s m args below meth c nL cx n Ly cells slots Q pc lv (.int y :: .int x :: st) μ (if x < y then A else B) := by
  intro ls H locs hl hW hL hS r μ1 q
  refine lv_icmp_lt K.1 K.2.1 hdg ht (fun h => ?_) (fun h => ?_)
  · rw [if_pos h] at q; exact k1 ls H locs hl hW hL hS r μ1 q
  · rw [if_neg h] at q; exact k2 ls H locs hl hW hL hS r μ1 q
theorem T_if_lt (K : Kx p s m args c cc nL own cx) {x : Int32} {off : Int} {tgt : Nat} {A B : Option (β × Mm)} (hdg : decode cc pc = .ok (.ifCond .lt off, 3))  (ht : (pc : Int) + off = (tgt : Int)) (k1 : T p l e R s m args below meth c nL cx n Ly cells slots Q tgt lv st μ A) (k2 : T p l e R s m args below meth c nL cx n Ly cells slots Q (pc + 3) lv st μ B) : T p l e R s m args below meth c nL cx n Ly cells slots Q pc lv (.int x :: st) μ (if x < iI 0 then A else B) := by
  intro ls H locs hl hW hL hS r μ1 q
  have hz : iI 0 = (0 : Int32) := rfl
  rw [hz] at q
  refine lv_if_lt K.1 K.2.1 hdg ht (fun h => ?_) (fun h => ?_)
  · rw [if_pos h] at q; exact k1 ls H locs hl hW hL hS r μ1 q
  · rw [if_neg h] at q; exact k2 ls H locs hl hW hL hS r μ1 q
theorem T_icmp_ge (K : Kx p s m args c cc nL own cx) {x y : Int32} {off : Int} {tgt : Nat} {A B : Option (β × Mm)} (hdg : decode cc pc = .ok (.if_icmp .ge off, 3))  (ht : (pc : Int) + off = (tgt : Int)) (k1 : T p l e R s m args below meth c nL cx n Ly cells slots Q tgt lv st μ A) (k2 : T p l e R s m args below meth c nL cx n Ly cells slots Q (pc + 3) lv st μ B) : T p l e R s m args below meth c nL cx n Ly cells slots Q pc lv (.int y :: .int x :: st) μ (if y ≤ x then A else B) := by
  intro ls H locs hl hW hL hS r μ1 q
  refine lv_icmp_ge K.1 K.2.1 hdg ht (fun h => ?_) (fun h => ?_)
  · rw [if_pos h] at q; exact k1 ls H locs hl hW hL hS r μ1 q
  · rw [if_neg h] at q; exact k2 ls H locs hl hW hL hS r μ1 q
theorem T_if_ge (K : Kx p s m args c cc nL own cx) {x : Int32} {off : Int} {tgt : Nat} {A B : Option (β × Mm)} (hdg : decode cc pc = .ok (.ifCond .ge off, 3))  (ht : (pc : Int) + off = (tgt : Int)) (k1 : T p l e R s m args below meth c nL cx n Ly cells slots Q tgt lv st μ A) (k2 : T p l e R s m args below meth c nL cx n Ly cells slots Q (pc + 3) lv st μ B) : T p l e R s m args below meth c nL cx n Ly cells slots Q pc lv (.int x :: st) μ (if iI 0 ≤ x then A else B) := by
  intro ls H locs hl hW hL hS r μ1 q
  have hz : iI 0 = (0 : Int32) := rfl
  rw [hz] at q
  refine lv_if_ge K.1 K.2.1 hdg ht (fun h => ?_) (fun h => ?_)
  · rw [if_pos h] at q; exact k1 ls H locs hl hW hL hS r μ1 q
  · rw [if_neg h] at q; exact k2 ls H locs hl hW hL hS r μ1 q
theorem T_icmp_gt (K : Kx p s m args c cc nL own cx) {x y : Int32} {off : Int} {tgt : Nat} {A B : Option (β × Mm)} (hdg : decode cc pc = .ok (.if_icmp .gt off, 3))  (ht : (pc : Int) + off = (tgt : Int)) (k1 : T p l e R s m args below meth c nL cx n Ly cells slots Q tgt lv st μ A) (k2 : T p l e R s m args below meth c nL cx n Ly cells slots Q (pc + 3) lv st μ B) : T p l e R s m args below meth c nL cx n Ly cells slots Q pc lv (.int y :: .int x :: st) μ (if y < x then A else B) := by
  intro ls H locs hl hW hL hS r μ1 q
  refine lv_icmp_gt K.1 K.2.1 hdg ht (fun h => ?_) (fun h => ?_)
  · rw [if_pos h] at q; exact k1 ls H locs hl hW hL hS r μ1 q
  · rw [if_neg h] at q; exact k2 ls H locs hl hW hL hS r μ1 q
theorem T_if_gt (K : Kx p s m args c cc nL own cx) {x : Int32} {off : Int} {tgt : Nat} {A B : Option (β × Mm)} (hdg : decode cc pc = .ok (.ifCond .gt off, 3))  (ht : (pc : Int) + off = (tgt : Int)) (k1 : T p l e R s m args below meth c nL cx n Ly cells slots Q tgt lv st μ A) (k2 : T p l e R s m args below meth c nL cx n Ly cells slots Q (pc + 3) lv st μ B) : T p l e R s m args below meth c nL cx n Ly cells slots Q pc lv (.int x :: st) μ (if iI 0 < x then A else B) := by
  intro ls H locs hl hW hL hS r μ1 q
  have hz : iI 0 = (0 : Int32) := rfl
  rw [hz] at q
  refine lv_if_gt K.1 K.2.1 hdg ht (fun h => ?_) (fun h => ?_)
  · rw [if_pos h] at q; exact k1 ls H locs hl hW hL hS r μ1 q
  · rw [if_neg h] at q; exact k2 ls H locs hl hW hL hS r μ1 q
theorem T_icmp_le (K : Kx p s m args c cc nL own cx) {x y : Int32} {off : Int} {tgt : Nat} {A B : Option (β × Mm)} (hdg : decode cc pc = .ok (.if_icmp .le off, 3))  (ht : (pc : Int) + off = (tgt : Int)) (k1 : T p l e R s m args below meth c nL cx n Ly cells slots Q tgt lv st μ A) (k2 : T p l e R s m args below meth c nL cx n Ly cells slots Q (pc + 3) lv st μ B) : T p l e R s m args below meth c nL cx n Ly cells slots Q pc lv (.int y :: .int x :: st) μ (if x ≤ y then A else B) := by
  intro ls H locs hl hW hL hS r μ1 q
  refine lv_icmp_le K.1 K.2.1 hdg ht (fun h => ?_) (fun h => ?_)
  · rw [if_pos h] at q; exact k1 ls H locs hl hW hL hS r μ1 q
  · rw [if_neg h] at q; exact k2 ls H locs hl hW hL hS r μ1 q
theorem T_if_le (K : Kx p s m args c cc nL own cx) {x : Int32} {off : Int} {tgt : Nat} {A B : Option (β × Mm)} (hdg : decode cc pc = .ok (.ifCond .le off, 3))  (ht : (pc : Int) + off = (tgt : Int)) (k1 : T p l e R s m args below meth c nL cx n Ly cells slots Q tgt lv st μ A) (k2 : T p l e R s m args below meth c nL cx n Ly cells slots Q (pc + 3) lv st μ B) : T p l e R s m args below meth c nL cx n Ly cells slots Q pc lv (.int x :: st) μ (if x ≤ iI 0 then A else B) := by
  intro ls H locs hl hW hL hS r μ1 q
  have hz : iI 0 = (0 : Int32) := rfl
  rw [hz] at q
  refine lv_if_le K.1 K.2.1 hdg ht (fun h => ?_) (fun h => ?_)
  · rw [if_pos h] at q; exact k1 ls H locs hl hW hL hS r μ1 q
  · rw [if_neg h] at q; exact k2 ls H locs hl hW hL hS r μ1 q
theorem T_idiv (K : Kx p s m args c cc nL own cx) {x y : Int32} {G : Int32 → Option (β × Mm)} (hdg : decode cc pc = .ok (.idiv, 1))  (k : ∀ z, T p l e R s m args below meth c nL cx n Ly cells slots Q (pc + 1) lv (.int z :: st) μ (G z)) : T p l e R s m args below meth c nL cx n Ly cells slots Q pc lv (.int y :: .int x :: st) μ (dvI x y G) := by
  intro ls H locs hl hW hL hS r μ1 q
  unfold dvI at q
  split at q
  · cases q
  · next h => exact lv_idiv K.1 K.2.1 hdg h (k (x / y) ls H locs hl hW hL hS r μ1 q)
theorem T_irem (K : Kx p s m args c cc nL own cx) {x y : Int32} {G : Int32 → Option (β × Mm)} (hdg : decode cc pc = .ok (.irem, 1))  (k : ∀ z, T p l e R s m args below meth c nL cx n Ly cells slots Q (pc + 1) lv (.int z :: st) μ (G z)) : T p l e R s m args below meth c nL cx n Ly cells slots Q pc lv (.int y :: .int x :: st) μ (rmI x y G) := by
  intro ls H locs hl hW hL hS r μ1 q
  unfold rmI at q
  split at q
  · cases q
  · next h => exact lv_irem K.1 K.2.1 hdg h (k (x - x / y * y) ls H locs hl hW hL hS r μ1 q)
theorem T_iald (K : Kx p s m args c cc nL own cx) {a len : Nat} {i : Int32} {G : Nat → Option (β × Mm)} (hdg : decode cc pc = .ok (.iaload, 1)) (hs : shp a = (1, len)) (ha : a ≤ n) (k : ∀ j, T p l e R s m args below meth c nL cx n Ly cells slots Q (pc + 1) lv (.int (gI μ a j) :: st) μ (G j)) : T p l e R s m args below meth c nL cx n Ly cells slots Q pc lv (.int i :: .ref (cx.2.2.1 + a) :: st) μ (rd len i G) := by
  intro ls H locs hl hW hL hS r μ1 q
  obtain ⟨hin, q⟩ := rd_spec q
  exact va_iald K.1 K.2.1 K.2.2.2.2.2.1.1 hW.1 (a - 1) 1 (wL_a (shp_pk hs (by decide)) ha (cel_1 hs)) rfl hin hdg (k _ ls H locs hl hW hL hS r μ1 q)
theorem T_cald (K : Kx p s m args c cc nL own cx) {a len : Nat} {i : Int32} {G : Nat → Option (β × Mm)} (hdg : decode cc pc = .ok (.caload, 1)) (hs : shp a = (3, len)) (ha : a ≤ n) (k : ∀ j, T p l e R s m args below meth c nL cx n Ly cells slots Q (pc + 1) lv (.int (gI μ a j) :: st) μ (G j)) : T p l e R s m args below meth c nL cx n Ly cells slots Q pc lv (.int i :: .ref (cx.2.2.1 + a) :: st) μ (rd len i G) := by
  intro ls H locs hl hW hL hS r μ1 q
  obtain ⟨hin, q⟩ := rd_spec q
  exact va_cald K.1 K.2.1 K.2.2.2.2.2.1.1 hW.1 (a - 1) 3 (wL_a (shp_pk hs (by decide)) ha (cel_3 hs)) rfl hin hdg (k _ ls H locs hl hW hL hS r μ1 q)
theorem T_lald (K : Kx p s m args c cc nL own cx) {a len : Nat} {i : Int32} {G : Nat → Option (β × Mm)} (hdg : decode cc pc = .ok (.laload, 1)) (hs : shp a = (5, len)) (ha : a ≤ n) (k : ∀ j, T p l e R s m args below meth c nL cx n Ly cells slots Q (pc + 1) lv (.long (gL μ a j) :: st) μ (G j)) : T p l e R s m args below meth c nL cx n Ly cells slots Q pc lv (.int i :: .ref (cx.2.2.1 + a) :: st) μ (rd len i G) := by
  intro ls H locs hl hW hL hS r μ1 q
  obtain ⟨hin, q⟩ := rd_spec q
  exact va_lald K.1 K.2.1 K.2.2.2.2.2.1.1 hW.1 (a - 1) 5 (wL_a (shp_pk hs (by decide)) ha (cel_5 hs)) rfl hin hdg (k _ ls H locs hl hW hL hS r μ1 q)
/-- a row of rows or objects, whose references never change -/
theorem T_aald (K : Kx p s m args c cc nL own cx) {a len kd : Nat} {i : Int32} {G : Nat → Option (β × Mm)} {x : Nat → Nat} (hdg : decode cc pc = .ok (.aaload, 1)) (hk : kd = 6 ∨ kd = 7 ∨ kd = 8) (hs : shp a = (kd, len)) (ha : a ≤ n) (hLy : ∀ μ, Ly μ → Lay μ) (hx : ∀ j, j < len → aref a j = some (x j) ∧ x j ≠ 0) (k : ∀ j, j < len → T p l e R s m args below meth c nL cx n Ly cells slots Q (pc + 1) lv (.ref (cx.2.2.1 + x j) :: st) μ (G j)) : T p l e R s m args below meth c nL cx n Ly cells slots Q pc lv (.int i :: .ref (cx.2.2.1 + a) :: st) μ (rd len i G) := by
  intro ls H locs hl hW hL hS r μ1 q
  obtain ⟨hin, q⟩ := rd_spec q
  have hlt : i.toNatClampNeg < len := Nat.not_le.mp fun z => hin (Or.inr z)
  have h0 : a ≠ 0 := shp_pk hs (by omega)
  have hcell := hW.1 _ _ (wL_a (cx := cx) (μ := μ) h0 ha (cel_6 hk hs))
  obtain ⟨hx1, hx2⟩ := hx _ hlt
  have hv : va_rf (rO cx.2.2.1 (gR μ a i.toNatClampNeg)) = .ref (cx.2.2.1 + x i.toNatClampNeg) := by rw [rf_rO, (hLy μ hL).2 _ _ _ hx1, rV_pos hx2]
  have kk := k _ hlt ls H locs hl hW hL hS r μ1 q
  rw [← hv] at kk
  have hko := K.2.2.2.2.2.1.1.2
  rcases hk with rfl | rfl | rfl
  · exact W.aald (v := va_rf (rO cx.2.2.1 (gR μ a i.toNatClampNeg))) (ty := .object RX2) K.1 K.2.1 hcell ((hko 6 (cx.2.1 6, .object RX2) rfl).1 len (fun j => va_rf (rO cx.2.2.1 (gR μ a j)))) rfl (fun z => by cases z) (by show ¬ (i < 0 ∨ (arrV _ _ _).slots.size ≤ _); rw [arrV_size]; exact hin) (by show (arrV _ _ _).slots[_]? = _; rw [arrV_read _ _ hlt]) rfl rfl hdg kk
  · exact W.aald (v := va_rf (rO cx.2.2.1 (gR μ a i.toNatClampNeg))) (ty := .array .long) K.1 K.2.1 hcell ((hko 7 (cx.2.1 7, .array .long) rfl).1 len (fun j => va_rf (rO cx.2.2.1 (gR μ a j)))) rfl (fun z => by cases z) (by show ¬ (i < 0 ∨ (arrV _ _ _).slots.size ≤ _); rw [arrV_size]; exact hin) (by show (arrV _ _ _).slots[_]? = _; rw [arrV_read _ _ hlt]) rfl rfl hdg kk
  · exact W.aald (v := va_rf (rO cx.2.2.1 (gR μ a i.toNatClampNeg))) (ty := .array .int) K.1 K.2.1 hcell ((hko 8 (cx.2.1 8, .array .int) rfl).1 len (fun j => va_rf (rO cx.2.2.1 (gR μ a j)))) rfl (fun z => by cases z) (by show ¬ (i < 0 ∨ (arrV _ _ _).slots.size ≤ _); rw [arrV_size]; exact hin) (by show (arrV _ _ _).slots[_]? = _; rw [arrV_read _ _ hlt]) rfl rfl hdg kk
end TR
