/-! WHAT A TEXT IS WORTH -/
theorem lsw_hit {β : Type} {b : Nat} {z : Int} {F d : Option β} {t : List (Int × Option β)} (hb : b < 1000) (h : (b : Int) = z) : lsw (kI b) ((z, F) :: t) d = F := by
  unfold lsw
  rw [kI_toInt (by omega)]
  exact if_pos h
theorem lsw_miss {β : Type} {b : Nat} {z : Int} {F d : Option β} {t : List (Int × Option β)} (hb : b < 1000) (h : ¬ (b : Int) = z) : lsw (kI b) ((z, F) :: t) d = lsw (kI b) t d := by
  rw [lsw]
  rw [kI_toInt (by omega)]
  exact if_neg h
theorem lsw_nil {β : Type} {x : Int32} {d : Option β} : lsw x [] d = d := rfl
theorem dv_m1 (a : Int32) : a / (iI (-1)) = -a := by
  apply Int32.toInt_inj.mp
  rw [Int32.toInt_div, Int32.toInt_neg, show (iI (-1)).toInt = -1 from by decide]
  rw [Int.tdiv_neg, Int.tdiv_one]
theorem rm_m1 (a : Int32) : a - a / (iI (-1)) * (iI (-1)) = iI 0 := by
  rw [dv_m1, show iI (-1) = -1 from by decide, Int32.neg_mul_neg, Int32.mul_one, Int32.sub_self]
  rfl
def Op2 (o : Nat) : Prop := o = 37 ∨ o = 38 ∨ o = 42 ∨ o = 43 ∨ o = 45 ∨ o = 47 ∨ o = 60 ∨ o = 61 ∨ o = 62 ∨ o = 124
def op2 (o : Nat) (a b : Int32) : Int32 :=
  if o = 37 then (if b = iI 0 then iI 0 else a - a / b * b)
  else if o = 38 then (if a = iI 0 then iI 0 else if b = iI 0 then iI 0 else iI 1)
  else if o = 42 then a * b
  else if o = 43 then a + b
  else if o = 45 then a - b
  else if o = 47 then (if b = iI 0 then iI 0 else a / b)
  else if o = 60 then (if b ≤ a then iI 0 else iI 1)
  else if o = 61 then (if a = b then iI 1 else iI 0)
  else if o = 62 then (if a ≤ b then iI 0 else iI 1)
  else (if a = iI 0 then if b = iI 0 then iI 0 else iI 1 else iI 1)
theorem some_if {α : Type} {c : Prop} [Decidable c] {a b : α} {m : Mm} : (if c then some (a, m) else some (b, m)) = some (if c then a else b, m) := by
  by_cases h : c
  · rw [if_pos h, if_pos h]
  · rw [if_neg h, if_neg h]
theorem joined_eq {o : Nat} (h : Op2 o) {a b : Int32} {m : Mm} : F_X3_joined (kI o) a b m = some (op2 o a b, m) := by
  unfold F_X3_joined F_X3_joined_92
  rcases h with rfl | rfl | rfl | rfl | rfl | rfl | rfl | rfl | rfl | rfl
  · rw [lsw_miss (by omega) (by decide), lsw_miss (by omega) (by decide), lsw_miss (by omega) (by decide), lsw_miss (by omega) (by decide), lsw_miss (by omega) (by decide), lsw_miss (by omega) (by decide), lsw_miss (by omega) (by decide), lsw_miss (by omega) (by decide), lsw_miss (by omega) (by decide), lsw_nil]
    show _ = some (if b = iI 0 then iI 0 else a - a / b * b, m)
    by_cases z : b = iI 0
    · rw [if_pos z, if_pos z]
    · rw [if_neg z, if_neg z]
      unfold rmI
      rw [if_neg z]
  · rw [lsw_hit (by omega) (by decide), some_if, some_if]
    rfl
  · rw [lsw_miss (by omega) (by decide), lsw_hit (by omega) (by decide)]
    rfl
  · rw [lsw_miss (by omega) (by decide), lsw_miss (by omega) (by decide), lsw_hit (by omega) (by decide)]
    rfl
  · rw [lsw_miss (by omega) (by decide), lsw_miss (by omega) (by decide), lsw_miss (by omega) (by decide), lsw_hit (by omega) (by decide)]
    rfl
  · rw [lsw_miss (by omega) (by decide), lsw_miss (by omega) (by decide), lsw_miss (by omega) (by decide), lsw_miss (by omega) (by decide), lsw_hit (by omega) (by decide)]
    show _ = some (if b = iI 0 then iI 0 else a / b, m)
    by_cases z : b = iI 0
    · rw [if_pos z, if_pos z]
    · rw [if_neg z, if_neg z]
      unfold dvI
      rw [if_neg z]
  · rw [lsw_miss (by omega) (by decide), lsw_miss (by omega) (by decide), lsw_miss (by omega) (by decide), lsw_miss (by omega) (by decide), lsw_miss (by omega) (by decide), lsw_hit (by omega) (by decide), some_if]
    rfl
  · rw [lsw_miss (by omega) (by decide), lsw_miss (by omega) (by decide), lsw_miss (by omega) (by decide), lsw_miss (by omega) (by decide), lsw_miss (by omega) (by decide), lsw_miss (by omega) (by decide), lsw_hit (by omega) (by decide), some_if]
    rfl
  · rw [lsw_miss (by omega) (by decide), lsw_miss (by omega) (by decide), lsw_miss (by omega) (by decide), lsw_miss (by omega) (by decide), lsw_miss (by omega) (by decide), lsw_miss (by omega) (by decide), lsw_miss (by omega) (by decide), lsw_hit (by omega) (by decide), some_if]
    rfl
  · rw [lsw_miss (by omega) (by decide), lsw_miss (by omega) (by decide), lsw_miss (by omega) (by decide), lsw_miss (by omega) (by decide), lsw_miss (by omega) (by decide), lsw_miss (by omega) (by decide), lsw_miss (by omega) (by decide), lsw_miss (by omega) (by decide), lsw_hit (by omega) (by decide), some_if, some_if]
    rfl
/-- values, how many, one by one -/
abbrev Sk : Type := Nat × (Nat → Int32)
def upS (g : Nat → Int32) (d : Nat) (v : Int32) : Nat → Int32 := fun i => if i = d then v else g i
def pst (E : Nat → Int32) (i : Ins) (s : Sk) : Sk :=
  if i.1 = 1 then (s.1 + 1, upS s.2 s.1 (kI i.2))
  else if i.1 = 2 then (s.1 + 1, upS s.2 s.1 (E i.2))
  else if i.1 = 3 then (s.1, upS s.2 (s.1 - 1) (if s.2 (s.1 - 1) = iI 0 then iI 1 else iI 0))
  else if i.1 = 4 then (s.1, upS s.2 (s.1 - 1) (-(s.2 (s.1 - 1))))
  else (s.1 - 1, upS s.2 (s.1 - 2) (op2 i.1 (s.2 (s.1 - 2)) (s.2 (s.1 - 1))))
def exe (E : Nat → Int32) : List Ins → Sk → Sk
  | [], s => s
  | i :: t, s => exe E t (pst E i s)
def vst (i : Ins) (d e : Nat) : Prop := (i.1 = 1 ∧ e = d + 1) ∨ (i.1 = 2 ∧ i.2 < 6 ∧ e = d + 1) ∨ (i.1 = 3 ∧ 1 ≤ d ∧ e = d) ∨ (i.1 = 4 ∧ 1 ≤ d ∧ e = d) ∨ (Op2 i.1 ∧ 2 ≤ d ∧ e = d - 1)
def Vd : List Ins → Nat → Nat → Prop
  | [], d, e => d = e
  | i :: t, d, e => ∃ d', vst i d d' ∧ Vd t d' e
theorem Vd.app : ∀ {t t' : List Ins} {d e f : Nat}, Vd t d e → Vd t' e f → Vd (t ++ t') d f
  | [], t', d, e, f, h, k => by
    have h : d = e := h
    rw [h]; exact k
  | i :: t, t', d, e, f, h, k => by
    obtain ⟨d', h1, h2⟩ := h
    exact ⟨d', h1, Vd.app h2 k⟩
theorem Vd.one {i : Ins} {d e : Nat} (h : vst i d e) : Vd [i] d e := ⟨e, h, rfl⟩
theorem vst_le {i : Ins} {d e : Nat} (h : vst i d e) : e ≤ d + 1 := by
  unfold vst at h; omega
theorem pst_1 {E : Nat → Int32} {i : Ins} {d e : Nat} {g : Nat → Int32} (h : vst i d e) : (pst E i (d, g)).1 = e := by
  unfold vst at h
  unfold pst
  rcases h with ⟨h1, h2⟩ | ⟨h1, _, h2⟩ | ⟨h1, _, h2⟩ | ⟨h1, _, h2⟩ | ⟨h1, _, h2⟩
  · rw [if_pos h1, h2]
  · rw [if_neg (by omega), if_pos h1, h2]
  · rw [if_neg (by omega), if_neg (by omega), if_pos h1, h2]
  · rw [if_neg (by omega), if_neg (by omega), if_neg (by omega), if_pos h1, h2]
  · unfold Op2 at h1
    rw [if_neg (by omega), if_neg (by omega), if_neg (by omega), if_neg (by omega), h2]
theorem exe_1 {E : Nat → Int32} : ∀ {t : List Ins} {d e : Nat} {g : Nat → Int32}, Vd t d e → (exe E t (d, g)).1 = e
  | [], d, e, g, h => h
  | i :: t, d, e, g, h => by
    obtain ⟨d', h1, h2⟩ := h
    have e1 := pst_1 (E := E) (g := g) h1
    show (exe E t (pst E i (d, g))).1 = e
    generalize pst E i (d, g) = s at e1
    obtain ⟨s1, s2⟩ := s
    have e1 : s1 = d' := e1
    subst e1
    exact exe_1 h2
def val (E : Nat → Int32) (t : List Ins) : Int32 := (exe E t (0, fun _ => iI 0)).2 0
def lawF (E : Nat → Int32) : List Lin → Int32
  | [] => iI 0
  | ln :: T => if ln.1 = [] then val E ln.2 else if val E ln.1 = iI 0 then lawF E T else val E ln.2
/-! what is read can be worked out -/
def VG (r : Res) : Prop := match r.2 with
  | some t => ∀ d, Vd t d (d + 1)
  | none => True
def Op2s (op : Nat → Bool) : Prop := ∀ c, op c = true → Op2 c
theorem s2_oOr : Op2s oOr := fun c h => by
  have : c = 124 := of_decide_eq_true h
  unfold Op2; omega
theorem s2_oAnd : Op2s oAnd := fun c h => by
  have : c = 38 := of_decide_eq_true h
  unfold Op2; omega
theorem s2_oCmp : Op2s oCmp := fun c h => by
  have : c = 60 ∨ c = 61 ∨ c = 62 := of_decide_eq_true h
  unfold Op2; omega
theorem s2_oSum : Op2s oSum := fun c h => by
  have : c = 43 ∨ c = 45 := of_decide_eq_true h
  unfold Op2; omega
theorem s2_oPrd : Op2s oPrd := fun c h => by
  have : c = 42 ∨ c = 47 ∨ c = 37 := of_decide_eq_true h
  unfold Op2; omega
theorem vd_two {t t' : List Ins} {c : Nat} (h : ∀ d, Vd t d (d + 1)) (h' : ∀ d, Vd t' d (d + 1)) (hc : Op2 c) (d : Nat) : Vd (t ++ t' ++ [(c, 0)]) d (d + 1) :=
  ((h d).app (h' (d + 1))).app (Vd.one (Or.inr (Or.inr (Or.inr (Or.inr ⟨hc, by omega, by omega⟩)))))
theorem lev_vg {C : Nat → Nat} {op : Nat → Bool} {sub : Nat → Res} (ho : Op2s op) (hs : ∀ p, VG (sub p)) : ∀ m p t, (∀ d, Vd t d (d + 1)) → VG (lev C op sub m p t)
  | 0, p, t, _ => trivial
  | m + 1, p, t, h => by
    unfold lev
    by_cases z : op (C p) = true
    · rw [if_pos z]
      have g := hs (p + 1)
      generalize sub (p + 1) = r at g
      obtain ⟨p', o⟩ := r
      cases o with
      | none => trivial
      | some t' => exact lev_vg ho hs m p' _ (vd_two h g (ho _ z))
    · rw [if_neg z]
      exact h
theorem levS_vg {C : Nat → Nat} {op : Nat → Bool} {sub : Nat → Res} (ho : Op2s op) (hs : ∀ p, VG (sub p)) (p : Nat) : VG (levS C op sub p) := by
  unfold levS
  have g := hs p
  generalize sub p = r at g
  obtain ⟨p', o⟩ := r
  cases o with
  | none => trivial
  | some t => exact lev_vg ho hs 130 p' t g
theorem cmpS_vg {C : Nat → Nat} {op : Nat → Bool} {sub : Nat → Res} (ho : Op2s op) (hs : ∀ p, VG (sub p)) (p : Nat) : VG (cmpS C op sub p) := by
  unfold cmpS
  have g := hs p
  generalize sub p = r at g
  obtain ⟨p', o⟩ := r
  cases o with
  | none => trivial
  | some t =>
    show VG (if op (C p') = true then _ else (p', some t))
    by_cases z : op (C p') = true
    · rw [if_pos z]
      have g2 := hs (p' + 1)
      generalize sub (p' + 1) = r2 at g2
      obtain ⟨p2, o2⟩ := r2
      cases o2 with
      | none => trivial
      | some t2 => exact vd_two g g2 (ho _ z)
    · rw [if_neg z]
      exact g
theorem eit_vg {C : Nat → Nat} {O : Nat → Res} (h : ∀ p, VG (O p)) (p : Nat) : VG (eitR C O p) :=
  levS_vg s2_oOr (levS_vg s2_oAnd (cmpS_vg s2_oCmp (levS_vg s2_oSum (levS_vg s2_oPrd h)))) p
theorem un_vg {o : Nat} {r : Res} (ho : o = 3 ∨ o = 4) (h : VG r) : VG (unR o r) := by
  obtain ⟨p', c⟩ := r
  cases c with
  | none => trivial
  | some t =>
    refine fun d => (h d).app (Vd.one ?_)
    unfold vst
    show (o = 1 ∧ _) ∨ (o = 2 ∧ _) ∨ (o = 3 ∧ _) ∨ (o = 4 ∧ _) ∨ _
    omega
theorem par_vg {C : Nat → Nat} {r : Res} (h : VG r) : VG (parR C r) := by
  obtain ⟨p', c⟩ := r
  cases c with
  | none => trivial
  | some t =>
    show VG (if C p' = 41 then (p' + 1, some t) else (p', none))
    by_cases z : C p' = 41
    · rw [if_pos z]; exact h
    · rw [if_neg z]; trivial
theorem num_vg {C : Nat → Nat} {p : Nat} : VG (numR C p) := by
  unfold numR
  split
  · trivial
  · exact fun d => Vd.one (Or.inl ⟨rfl, rfl⟩)
theorem nm_vg {p c : Nat} : VG (match nmO c with
    | some i => (p + 1, some [(2, i)])
    | none => (p, none)) := by
  cases q : nmO c with
  | some i => exact fun d => Vd.one (Or.inr (Or.inl ⟨rfl, (nmO_lt q).1, rfl⟩))
  | none => trivial
theorem opr_vg {C : Nat → Nat} : ∀ k p, VG (oprR C k p)
  | 0, p => by
    unfold oprR
    by_cases z : isD (C p) = true
    · rw [if_pos z]; exact num_vg
    · rw [if_neg z]; exact nm_vg
  | k + 1, p => by
    unfold oprR
    by_cases z : isD (C p) = true
    · rw [if_pos z]; exact num_vg
    · rw [if_neg z]
      cases q : nmO (C p) with
      | some i => exact fun d => Vd.one (Or.inr (Or.inl ⟨rfl, (nmO_lt q).1, rfl⟩))
      | none =>
        show VG (if C p = 33 then unR 3 (oprR C k (p + 1)) else if C p = 45 then unR 4 (oprR C k (p + 1)) else if C p = 40 then parR C (eitR C (oprR C k) (p + 1)) else (p, none))
        by_cases y1 : C p = 33
        · rw [if_pos y1]; exact un_vg (Or.inl rfl) (opr_vg k (p + 1))
        · rw [if_neg y1]
          by_cases y2 : C p = 45
          · rw [if_pos y2]; exact un_vg (Or.inr rfl) (opr_vg k (p + 1))
          · rw [if_neg y2]
            by_cases y3 : C p = 40
            · rw [if_pos y3]; exact par_vg (eit_vg (opr_vg k) (p + 1))
            · rw [if_neg y3]; trivial
/-- a line that can be worked out -/
def LV (ln : Lin) : Prop := (ln.1 = [] ∨ Vd ln.1 0 1) ∧ Vd ln.2 0 1
theorem lin_vg {C : Nat → Nat} {p : Nat} : match (linR C p).2 with
    | some ln => LV ln
    | none => True := by
  unfold linR
  have g := eit_vg (C := C) (opr_vg (C := C) 6) p
  generalize eitR C (oprR C 6) p = r at g
  obtain ⟨p', o⟩ := r
  cases o with
  | none => trivial
  | some t =>
    have g : ∀ d, Vd t d (d + 1) := g
    show match (if C p' = 63 then match eitR C (oprR C 6) (p' + 1) with
      | (p2, none) => (p2, none)
      | (p2, some t2) => (p2, some (t, t2))
    else (p', some ([], t)) : Nat × Option Lin).2 with
    | some ln => LV ln
    | none => True
    by_cases z : C p' = 63
    · rw [if_pos z]
      have g2 := eit_vg (C := C) (opr_vg (C := C) 6) (p' + 1)
      generalize eitR C (oprR C 6) (p' + 1) = r2 at g2
      obtain ⟨p2, o2⟩ := r2
      cases o2 with
      | none => trivial
      | some t2 => exact ⟨Or.inr (g 0), g2 0⟩
    · rw [if_neg z]
      exact ⟨Or.inl rfl, g 0⟩
theorem txt_vg {C : Nat → Nat} {l : Nat} : ∀ M p T, (∀ ln, ln ∈ T → LV ln) → match (txtR C l M p T).2 with
    | some T' => ∀ ln, ln ∈ T' → LV ln
    | none => True
  | 0, p, T, _ => trivial
  | M + 1, p, T, h => by
    unfold txtR
    have g := lin_vg (C := C) (p := p)
    generalize linR C p = r at g
    obtain ⟨p', o⟩ := r
    cases o with
    | none => trivial
    | some ln =>
      have g : LV ln := g
      have h' : ∀ l', l' ∈ T ++ [ln] → LV l' := fun l' q => by
        rcases List.mem_append.mp q with q | q
        · exact h l' q
        · rw [List.mem_singleton.mp q]; exact g
      show match (if C p' = 59 then txtR C l M (p' + 1) (T ++ [ln]) else if p' < l then (p', none) else (p', some (T ++ [ln]))).2 with
        | some T' => ∀ ln, ln ∈ T' → LV ln
        | none => True
      by_cases z : C p' = 59
      · rw [if_pos z]
        exact txt_vg M (p' + 1) (T ++ [ln]) h'
      · rw [if_neg z]
        by_cases y : p' < l
        · rw [if_pos y]; trivial
        · rw [if_neg y]; exact h'
/-- and is as short as its text -/
theorem txt_len {b : Nat → Nat} {l : Nat} (hl : l ≤ 120) : ∀ M p T, p ≤ l → (lay T).length ≤ p → match (txtR (cch b l) l M p T).2 with
    | some T' => (lay T').length ≤ l + 1
    | none => True
  | 0, p, T, _, _ => trivial
  | M + 1, p, T, hp, h => by
    unfold txtR
    have g := lin_gr (b := b) hl hp
    generalize linR (cch b l) p = r at g
    obtain ⟨p', o⟩ := r
    cases o with
    | none => trivial
    | some ln =>
      have g : p < p' ∧ p' ≤ l ∧ (ln.1 = [] → p + ln.2.length ≤ p') ∧ (ln.1 ≠ [] → p + ln.1.length + 1 + ln.2.length ≤ p') ∧ 1 ≤ ln.2.length := g
      have hlen : (lay (T ++ [ln])).length ≤ p' + 1 := by
        rw [lay_app, List.length_append, lnC_len]
        by_cases w : ln.1 = []
        · have := g.2.2.1 w
          rw [if_pos w]
          omega
        · have := g.2.2.2.1 w
          rw [if_neg w]
          omega
      show match (if cch b l p' = 59 then txtR (cch b l) l M (p' + 1) (T ++ [ln]) else if p' < l then (p', none) else (p', some (T ++ [ln]))).2 with
        | some T' => (lay T').length ≤ l + 1
        | none => True
      by_cases z : cch b l p' = 59
      · have zl := cch_lt (b := b) (l := l) (p := p') (by omega)
        rw [if_pos z]
        exact txt_len hl M (p' + 1) (T ++ [ln]) (by omega) hlen
      · rw [if_neg z]
        by_cases y : p' < l
        · rw [if_pos y]; trivial
        · rw [if_neg y]
          show (lay (T ++ [ln])).length ≤ l + 1
          omega
