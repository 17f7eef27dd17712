/-! A TEXT, READ: WHAT IT IS, OR WHERE ITS FAULT IS -/
abbrev Ins : Type := Nat × Nat
abbrev Res : Type := Nat × Option (List Ins)
/-- the byte at a place, 256 behind the last -/
def cch (b : Nat → Nat) (l p : Nat) : Nat := if p < l then b p else 256
def isD (c : Nat) : Bool := decide (48 ≤ c ∧ c ≤ 57)
theorem isD_iff {c : Nat} : isD c = true ↔ 48 ≤ c ∧ c ≤ 57 := by simp [isD]
def nmO (c : Nat) : Option Nat := if c = 119 then some 0 else if c = 120 then some 1 else if c = 116 then some 2 else if c = 108 then some 3 else if c = 111 then some 4 else if c = 114 then some 5 else none
theorem nmO_lt {c k : Nat} (h : nmO c = some k) : k < 6 ∧ c < 256 := by
  unfold nmO at h
  split at h
  · cases h; omega
  · split at h
    · cases h; omega
    · split at h
      · cases h; omega
      · split at h
        · cases h; omega
        · split at h
          · cases h; omega
          · split at h
            · cases h; omega
            · cases h
/-- digits from a place on, at most so many more: where they end, their number -/
def dgs (C : Nat → Nat) : Nat → Nat → Nat → Nat × Nat
  | 0, p, v => (p, v)
  | c + 1, p, v => if isD (C p) = true then dgs C c (p + 1) (10 * v + (C p - 48)) else (p, v)
def numR (C : Nat → Nat) (p : Nat) : Res := if isD (C (dgs C 4 p 0).1) = true then ((dgs C 4 p 0).1, none) else ((dgs C 4 p 0).1, some [(1, (dgs C 4 p 0).2)])
/-- what is parted by operators, from one part on -/
def lev (C : Nat → Nat) (op : Nat → Bool) (sub : Nat → Res) : Nat → Nat → List Ins → Res
  | 0, p, _ => (p, none)
  | m + 1, p, t => if op (C p) = true then match sub (p + 1) with
      | (p', none) => (p', none)
      | (p', some t') => lev C op sub m p' (t ++ t' ++ [(C p, 0)])
    else (p, some t)
def levS (C : Nat → Nat) (op : Nat → Bool) (sub : Nat → Res) (p : Nat) : Res := match sub p with
  | (p', none) => (p', none)
  | (p', some t) => lev C op sub 130 p' t
def cmpS (C : Nat → Nat) (op : Nat → Bool) (sub : Nat → Res) (p : Nat) : Res := match sub p with
  | (p', none) => (p', none)
  | (p', some t) => if op (C p') = true then match sub (p' + 1) with
      | (p2, none) => (p2, none)
      | (p2, some t2) => (p2, some (t ++ t2 ++ [(C p', 0)]))
    else (p', some t)
def oOr (c : Nat) : Bool := decide (c = 124)
def oAnd (c : Nat) : Bool := decide (c = 38)
def oCmp (c : Nat) : Bool := decide (c = 60 ∨ c = 61 ∨ c = 62)
def oSum (c : Nat) : Bool := decide (c = 43 ∨ c = 45)
def oPrd (c : Nat) : Bool := decide (c = 42 ∨ c = 47 ∨ c = 37)
def prdR (C : Nat → Nat) (O : Nat → Res) (p : Nat) : Res := levS C oPrd O p
def sumR (C : Nat → Nat) (O : Nat → Res) (p : Nat) : Res := levS C oSum (prdR C O) p
def cmpR (C : Nat → Nat) (O : Nat → Res) (p : Nat) : Res := cmpS C oCmp (sumR C O) p
def andR (C : Nat → Nat) (O : Nat → Res) (p : Nat) : Res := levS C oAnd (cmpR C O) p
def eitR (C : Nat → Nat) (O : Nat → Res) (p : Nat) : Res := levS C oOr (andR C O) p
def unR (o : Nat) (r : Res) : Res := match r with
  | (p, none) => (p, none)
  | (p, some t) => (p, some (t ++ [(o, 0)]))
def parR (C : Nat → Nat) (r : Res) : Res := match r with
  | (p, none) => (p, none)
  | (p, some t) => if C p = 41 then (p + 1, some t) else (p, none)
/-- an operand, when k more may be open -/
def oprR (C : Nat → Nat) : Nat → Nat → Res
  | 0, p => if isD (C p) = true then numR C p else match nmO (C p) with
    | some i => (p + 1, some [(2, i)])
    | none => (p, none)
  | k + 1, p => if isD (C p) = true then numR C p else match nmO (C p) with
    | some i => (p + 1, some [(2, i)])
    | none => if C p = 33 then unR 3 (oprR C k (p + 1)) else if C p = 45 then unR 4 (oprR C k (p + 1)) else if C p = 40 then parR C (eitR C (oprR C k) (p + 1)) else (p, none)
abbrev Lin : Type := List Ins × List Ins
/-- a line: its test (nothing: none), what counts -/
def linR (C : Nat → Nat) (p : Nat) : Nat × Option Lin := match eitR C (oprR C 6) p with
  | (p', none) => (p', none)
  | (p', some t) => if C p' = 63 then match eitR C (oprR C 6) (p' + 1) with
      | (p2, none) => (p2, none)
      | (p2, some t2) => (p2, some (t, t2))
    else (p', some ([], t))
def txtR (C : Nat → Nat) (l : Nat) : Nat → Nat → List Lin → Nat × Option (List Lin)
  | 0, p, _ => (p, none)
  | m + 1, p, T => match linR C p with
    | (p', none) => (p', none)
    | (p', some ln) => if C p' = 59 then txtR C l m (p' + 1) (T ++ [ln]) else if p' < l then (p', none) else (p', some (T ++ [ln]))
/-- what is read goes on, and no instruction is without a byte of its own -/
def GR (l p : Nat) (r : Res) : Prop := match r.2 with
  | some c => p < r.1 ∧ r.1 ≤ l ∧ p + c.length ≤ r.1 ∧ 1 ≤ c.length
  | none => p ≤ r.1 ∧ r.1 ≤ l
theorem cch_lt {b : Nat → Nat} {l p : Nat} (h : cch b l p ≠ 256) : p < l := by
  rcases Nat.lt_or_ge p l with z | z
  · exact z
  · exact absurd (if_neg (by omega)) h
theorem cch_at {b : Nat → Nat} {l p : Nat} (h : p < l) : cch b l p = b p := if_pos h
theorem cch_end {b : Nat → Nat} {l : Nat} : cch b l l = 256 := if_neg (by omega)
theorem isD_lt {b : Nat → Nat} {l p : Nat} (h : isD (cch b l p) = true) : p < l := cch_lt (b := b) (by have := isD_iff.mp h; omega)
theorem dgs_gr {b : Nat → Nat} {l : Nat} : ∀ c p v, p ≤ l → p ≤ (dgs (cch b l) c p v).1 ∧ (dgs (cch b l) c p v).1 ≤ l ∧ (dgs (cch b l) c p v).1 ≤ p + c ∧ (dgs (cch b l) c p v).2 + 1 ≤ (v + 1) * 10 ^ c
  | 0, p, v, h => ⟨Nat.le_refl _, h, Nat.le_refl _, by show v + 1 ≤ (v + 1) * 1; omega⟩
  | c + 1, p, v, h => by
    unfold dgs
    by_cases z : isD (cch b l p) = true
    · rw [if_pos z]
      have hd := isD_iff.mp z
      have hp := isD_lt z
      obtain ⟨h1, h2, h3, h4⟩ := dgs_gr (b := b) (l := l) c (p + 1) (10 * v + (cch b l p - 48)) (by omega)
      refine ⟨by omega, h2, by omega, Nat.le_trans h4 ?_⟩
      have e : (v + 1) * 10 ^ (c + 1) = (10 * (v + 1)) * 10 ^ c := by rw [Nat.pow_succ]; rw [Nat.mul_comm (10 ^ c) 10, ← Nat.mul_assoc, Nat.mul_comm (v + 1) 10]
      rw [e]
      exact Nat.mul_le_mul_right _ (by omega)
    · rw [if_neg z]
      refine ⟨Nat.le_refl _, h, by omega, ?_⟩
      have : 1 ≤ 10 ^ (c + 1) := Nat.one_le_pow _ _ (by omega)
      exact Nat.le_mul_of_pos_right _ this
theorem num_gr {b : Nat → Nat} {l p : Nat} (h : isD (cch b l p) = true) : GR l p (numR (cch b l) p) := by
  have hp := isD_lt h
  obtain ⟨h1, h2, h3, h4⟩ := dgs_gr (b := b) (l := l) 3 (p + 1) (10 * 0 + (cch b l p - 48)) (by omega)
  have e : dgs (cch b l) 4 p 0 = dgs (cch b l) 3 (p + 1) (10 * 0 + (cch b l p - 48)) := if_pos h
  unfold numR
  rw [e]
  split
  · exact ⟨by show p ≤ (dgs (cch b l) 3 (p + 1) (10 * 0 + (cch b l p - 48))).1; omega, h2⟩
  · exact ⟨by show p < (dgs (cch b l) 3 (p + 1) (10 * 0 + (cch b l p - 48))).1; omega, h2, by show p + 1 ≤ (dgs (cch b l) 3 (p + 1) (10 * 0 + (cch b l p - 48))).1; omega, Nat.le_refl _⟩
def OpOk (op : Nat → Bool) : Prop := ∀ c, op c = true → c ≠ 256 ∧ c < 128 ∧ 5 ≤ c ∧ isD c = false
theorem lev_gr {b : Nat → Nat} {l : Nat} {op : Nat → Bool} {sub : Nat → Res} (ho : OpOk op) (hs : ∀ p, p ≤ l → GR l p (sub p)) : ∀ m p t p0, p0 < p → p ≤ l → p0 + t.length ≤ p → 1 ≤ t.length → l - p < m → GR l p0 (lev (cch b l) op sub m p t)
  | 0, p, t, p0, _, _, _, _, h => absurd h (by omega)
  | m + 1, p, t, p0, h1, h2, h3, h5, h4 => by
    unfold lev
    by_cases z : op (cch b l p) = true
    · rw [if_pos z]
      have hp := cch_lt (ho _ z).1
      have g := hs (p + 1) (by omega)
      generalize sub (p + 1) = r at g
      obtain ⟨p', o⟩ := r
      cases o with
      | none =>
        have g : p + 1 ≤ p' ∧ p' ≤ l := g
        exact ⟨by show p0 ≤ p'; omega, g.2⟩
      | some t' =>
        have g : p + 1 < p' ∧ p' ≤ l ∧ p + 1 + t'.length ≤ p' ∧ 1 ≤ t'.length := g
        show GR l p0 (lev (cch b l) op sub m p' (t ++ t' ++ [(cch b l p, 0)]))
        refine lev_gr ho hs m p' _ p0 (by omega) g.2.1 ?_ ?_ (by omega)
        · rw [List.length_append, List.length_append]
          show p0 + (t.length + t'.length + 1) ≤ p'
          omega
        · rw [List.length_append, List.length_append]
          show 1 ≤ t.length + t'.length + 1
          omega
    · rw [if_neg z]
      exact ⟨h1, h2, h3, h5⟩
theorem levS_gr {b : Nat → Nat} {l : Nat} {op : Nat → Bool} {sub : Nat → Res} (hl : l ≤ 120) (ho : OpOk op) (hs : ∀ p, p ≤ l → GR l p (sub p)) (p : Nat) (hp : p ≤ l) : GR l p (levS (cch b l) op sub p) := by
  unfold levS
  have g := hs p hp
  generalize sub p = r at g
  obtain ⟨p', o⟩ := r
  cases o with
  | none => exact g
  | some t =>
    have g : p < p' ∧ p' ≤ l ∧ p + t.length ≤ p' ∧ 1 ≤ t.length := g
    exact lev_gr ho hs 130 p' t p g.1 g.2.1 g.2.2.1 g.2.2.2 (by omega)
theorem cmpS_gr {b : Nat → Nat} {l : Nat} {op : Nat → Bool} {sub : Nat → Res} (ho : OpOk op) (hs : ∀ p, p ≤ l → GR l p (sub p)) (p : Nat) (hp : p ≤ l) : GR l p (cmpS (cch b l) op sub p) := by
  unfold cmpS
  have g := hs p hp
  generalize sub p = r at g
  obtain ⟨p', o⟩ := r
  cases o with
  | none => exact g
  | some t =>
    have g : p < p' ∧ p' ≤ l ∧ p + t.length ≤ p' ∧ 1 ≤ t.length := g
    show GR l p (if op (cch b l p') = true then _ else (p', some t))
    by_cases z : op (cch b l p') = true
    · rw [if_pos z]
      have hp' := cch_lt (ho _ z).1
      have g2 := hs (p' + 1) (by omega)
      generalize sub (p' + 1) = r2 at g2
      obtain ⟨p2, o2⟩ := r2
      cases o2 with
      | none =>
        have g2 : p' + 1 ≤ p2 ∧ p2 ≤ l := g2
        exact ⟨by show p ≤ p2; omega, g2.2⟩
      | some t2 =>
        have g2 : p' + 1 < p2 ∧ p2 ≤ l ∧ p' + 1 + t2.length ≤ p2 ∧ 1 ≤ t2.length := g2
        refine ⟨by show p < p2; omega, g2.2.1, ?_, ?_⟩
        · show p + (t ++ t2 ++ [(cch b l p', 0)]).length ≤ p2
          rw [List.length_append, List.length_append]
          show p + (t.length + t2.length + 1) ≤ p2
          omega
        · show 1 ≤ (t ++ t2 ++ [(cch b l p', 0)]).length
          rw [List.length_append, List.length_append]
          show 1 ≤ t.length + t2.length + 1
          omega
    · rw [if_neg z]
      exact g
theorem ok_oOr : OpOk oOr := fun c h => by
  have : c = 124 := of_decide_eq_true h
  subst this; decide
theorem ok_oAnd : OpOk oAnd := fun c h => by
  have : c = 38 := of_decide_eq_true h
  subst this; decide
theorem ok_oCmp : OpOk oCmp := fun c h => by
  have : c = 60 ∨ c = 61 ∨ c = 62 := of_decide_eq_true h
  rcases this with rfl | rfl | rfl <;> decide
theorem ok_oSum : OpOk oSum := fun c h => by
  have : c = 43 ∨ c = 45 := of_decide_eq_true h
  rcases this with rfl | rfl <;> decide
theorem ok_oPrd : OpOk oPrd := fun c h => by
  have : c = 42 ∨ c = 47 ∨ c = 37 := of_decide_eq_true h
  rcases this with rfl | rfl | rfl <;> decide
section GRS
variable {b : Nat → Nat} {l : Nat} {O : Nat → Res}
theorem prd_gr (hl : l ≤ 120) (h : ∀ p, p ≤ l → GR l p (O p)) (p : Nat) (hp : p ≤ l) : GR l p (prdR (cch b l) O p) := levS_gr hl ok_oPrd h p hp
theorem sum_gr (hl : l ≤ 120) (h : ∀ p, p ≤ l → GR l p (O p)) (p : Nat) (hp : p ≤ l) : GR l p (sumR (cch b l) O p) := levS_gr hl ok_oSum (prd_gr hl h) p hp
theorem cmp_gr (hl : l ≤ 120) (h : ∀ p, p ≤ l → GR l p (O p)) (p : Nat) (hp : p ≤ l) : GR l p (cmpR (cch b l) O p) := cmpS_gr ok_oCmp (sum_gr hl h) p hp
theorem and_gr (hl : l ≤ 120) (h : ∀ p, p ≤ l → GR l p (O p)) (p : Nat) (hp : p ≤ l) : GR l p (andR (cch b l) O p) := levS_gr hl ok_oAnd (cmp_gr hl h) p hp
theorem eit_gr (hl : l ≤ 120) (h : ∀ p, p ≤ l → GR l p (O p)) (p : Nat) (hp : p ≤ l) : GR l p (eitR (cch b l) O p) := levS_gr hl ok_oOr (and_gr hl h) p hp
end GRS
theorem un_gr {l p o : Nat} {r : Res} (h : GR l (p + 1) r) : GR l p (unR o r) := by
  obtain ⟨p', c⟩ := r
  cases c with
  | none =>
    have h : p + 1 ≤ p' ∧ p' ≤ l := h
    exact ⟨by show p ≤ p'; omega, h.2⟩
  | some t =>
    have h : p + 1 < p' ∧ p' ≤ l ∧ p + 1 + t.length ≤ p' ∧ 1 ≤ t.length := h
    refine ⟨by show p < p'; omega, h.2.1, ?_, ?_⟩
    · show p + (t ++ [(o, 0)]).length ≤ p'
      rw [List.length_append]
      show p + (t.length + 1) ≤ p'
      omega
    · show 1 ≤ (t ++ [(o, 0)]).length
      rw [List.length_append]
      show 1 ≤ t.length + 1
      omega
theorem par_gr {b : Nat → Nat} {l p : Nat} {r : Res} (h : GR l (p + 1) r) : GR l p (parR (cch b l) r) := by
  obtain ⟨p', c⟩ := r
  cases c with
  | none =>
    have h : p + 1 ≤ p' ∧ p' ≤ l := h
    exact ⟨by show p ≤ p'; omega, h.2⟩
  | some t =>
    have h : p + 1 < p' ∧ p' ≤ l ∧ p + 1 + t.length ≤ p' ∧ 1 ≤ t.length := h
    show GR l p (if cch b l p' = 41 then (p' + 1, some t) else (p', none))
    by_cases z : cch b l p' = 41
    · rw [if_pos z]
      have := cch_lt (b := b) (l := l) (p := p') (by omega)
      exact ⟨by show p < p' + 1; omega, by show p' + 1 ≤ l; omega, by show p + t.length ≤ p' + 1; omega, h.2.2.2⟩
    · rw [if_neg z]
      exact ⟨by show p ≤ p'; omega, h.2.1⟩
theorem opr_gr {b : Nat → Nat} {l : Nat} (hl : l ≤ 120) : ∀ k p, p ≤ l → GR l p (oprR (cch b l) k p)
  | 0, p, hp => by
    unfold oprR
    by_cases z : isD (cch b l p) = true
    · rw [if_pos z]; exact num_gr z
    · rw [if_neg z]
      cases q : nmO (cch b l p) with
      | some i =>
        have := cch_lt (b := b) (l := l) (p := p) (by have := (nmO_lt q).2; omega)
        exact ⟨by show p < p + 1; omega, by show p + 1 ≤ l; omega, Nat.le_refl _, Nat.le_refl _⟩
      | none => exact ⟨Nat.le_refl _, hp⟩
  | k + 1, p, hp => by
    unfold oprR
    by_cases z : isD (cch b l p) = true
    · rw [if_pos z]; exact num_gr z
    · rw [if_neg z]
      cases q : nmO (cch b l p) with
      | some i =>
        have := cch_lt (b := b) (l := l) (p := p) (by have := (nmO_lt q).2; omega)
        exact ⟨by show p < p + 1; omega, by show p + 1 ≤ l; omega, Nat.le_refl _, Nat.le_refl _⟩
      | none =>
        show GR l p (if cch b l p = 33 then unR 3 (oprR (cch b l) k (p + 1)) else if cch b l p = 45 then unR 4 (oprR (cch b l) k (p + 1)) else if cch b l p = 40 then parR (cch b l) (eitR (cch b l) (oprR (cch b l) k) (p + 1)) else (p, none))
        by_cases y1 : cch b l p = 33
        · have := cch_lt (b := b) (l := l) (p := p) (by omega)
          rw [if_pos y1]; exact un_gr (opr_gr hl k (p + 1) (by omega))
        · rw [if_neg y1]
          by_cases y2 : cch b l p = 45
          · have := cch_lt (b := b) (l := l) (p := p) (by omega)
            rw [if_pos y2]; exact un_gr (opr_gr hl k (p + 1) (by omega))
          · rw [if_neg y2]
            by_cases y3 : cch b l p = 40
            · have := cch_lt (b := b) (l := l) (p := p) (by omega)
              rw [if_pos y3]; exact par_gr (eit_gr hl (opr_gr hl k) (p + 1) (by omega))
            · rw [if_neg y3]; exact ⟨Nat.le_refl _, hp⟩
