/-! LOTS: EVENINGS BY PARTS OF A LOT -/
/-- the same evening, but what is led, and the turns -/
def setN (e : Ev) (w g n : Int32) : Ev := (eO e, eT e, eP e, eR e, eJ e, eH e, eA e, w, g, n)
def Sm (e e' : Ev) : Prop := ∃ w g n, e' = setN e w g n
theorem st_set {P : Pa} {e : Ev} {p : Nat} {w g n : Int32} : Sm (stE P e p) (stE P (setN e w g n) p) := by
  have hc : ch P (setN e w g n) p = ch P e p := rfl
  unfold stE
  rw [hc]
  cases ch P e p with
  | none => exact ⟨kI p, kI (eP e), n + kI 1, rfl⟩
  | some k => exact ⟨kI p, kI k, n + kI 1, rfl⟩
theorem pl_set {P : Pa} {lot : Nat → Nat} {m : Nat} : ∀ f e w g n, Sm (plE P lot m f e).1 (plE P lot m f (setN e w g n)).1
  | 0, e, w, g, n => ⟨w, g, n, rfl⟩
  | f + 1, e, w, g, n => by
    by_cases z : m ≤ eP e
    · have h1 : plE P lot m (f + 1) e = (e, 0) := by unfold plE; rw [if_pos z]
      have h2 : plE P lot m (f + 1) (setN e w g n) = (setN e w g n, 0) := by unfold plE; rw [if_pos (show m ≤ eP (setN e w g n) from z)]
      rw [h1, h2]
      exact ⟨w, g, n, rfl⟩
    · have hcu : cu P lot (setN e w g n) = cu P lot e := rfl
      cases hc : cu P lot e with
      | none =>
        have h1 : plE P lot m (f + 1) e = (e, 0) := by rw [plE, if_neg z, hc]
        have h2 : plE P lot m (f + 1) (setN e w g n) = (setN e w g n, 0) := by rw [plE, if_neg (show ¬ m ≤ eP (setN e w g n) from z), hcu, hc]
        rw [h1, h2]
        exact ⟨w, g, n, rfl⟩
      | some p =>
        have h1 : (plE P lot m (f + 1) e).1 = (plE P lot m f (stE P e p)).1 := by rw [plE, if_neg z, hc]
        have h2 : (plE P lot m (f + 1) (setN e w g n)).1 = (plE P lot m f (stE P (setN e w g n) p)).1 := by rw [plE, if_neg (show ¬ m ≤ eP (setN e w g n) from z), hcu, hc]
        obtain ⟨w', g', n', hs⟩ := st_set (P := P) (e := e) (p := p) (w := w) (g := g) (n := n)
        rw [h1, h2, hs]
        exact pl_set f _ w' g' n'
theorem cl_set {P : Pa} {lot : Nat → Nat} {e : Ev} {w g n : Int32} : Sm (clE P lot e) (clE P lot (setN e w g n)) := by
  have hc : agC P lot (setN e w g n) = agC P lot e := rfl
  have hi : (pA P = 1 ∧ 0 < eP (setN e w g n) ∧ pN P ≤ eP (setN e w g n)) = (pA P = 1 ∧ 0 < eP e ∧ pN P ≤ eP e) := rfl
  unfold clE
  by_cases z : pA P = 1 ∧ 0 < eP e ∧ pN P ≤ eP e
  · rw [if_pos z, if_pos (show pA P = 1 ∧ 0 < eP (setN e w g n) ∧ pN P ≤ eP (setN e w g n) from z)]
    unfold agE
    rw [hc]
    cases agC P lot e with
    | none => exact ⟨w, g, n, rfl⟩
    | some k => exact ⟨kI (lot 0), kI k, n + kI 1, rfl⟩
  · rw [if_neg z, if_neg (show ¬ (pA P = 1 ∧ 0 < eP (setN e w g n) ∧ pN P ≤ eP (setN e w g n)) from z)]
    exact ⟨w, g, n, rfl⟩
theorem pl_lot {P : Pa} {lot lot' : Nat → Nat} {m : Nat} (h : ∀ j, j < m → lot j = lot' j) : ∀ g e, plE P lot m g e = plE P lot' m g e
  | 0, _ => rfl
  | g + 1, e => by
    by_cases z : m ≤ eP e
    · rw [plE, plE, if_pos z, if_pos z]
    · have hc : cu P lot e = cu P lot' e := by
        unfold cu
        rw [h (eP e) (by omega)]
      rw [plE, plE, if_neg z, if_neg z, hc]
      cases cu P lot' e with
      | none => rfl
      | some p =>
        show ((plE P lot m g (stE P e p)).1, (plE P lot m g (stE P e p)).2 + 1) = ((plE P lot' m g (stE P e p)).1, (plE P lot' m g (stE P e p)).2 + 1)
        rw [pl_lot h g (stE P e p)]
theorem ev_lot {P : Pa} {lot lot' : Nat → Nat} (hP : PaOk P) (hl : LotOk (pN P) P lot) (h : ∀ j, j < pN P → lot j = lot' j) (w g : Int32) : evE P lot w g = evE P lot' w g := by
  have h1 := pl_lot (P := P) (m := pN P) h 28 (wrE w g (kI 0))
  have hw := wf_pl hP hl 28 (wrE w g (kI 0)) (left_le hP (Nat.zero_le _)) wf_wr
  unfold evE
  rw [← h1]
  generalize (plE P lot (pN P) 28 (wrE w g (kI 0))).1 = e at hw
  unfold clE
  by_cases z : pA P = 1 ∧ 0 < eP e ∧ pN P ≤ eP e
  · rw [if_pos z, if_pos z]
    have h0 := h 0 (by omega)
    unfold agE agC
    rw [h0]
  · rw [if_neg z, if_neg z]
theorem wf_mono {m m' : Nat} {P : Pa} {lot : Nat → Nat} {e : Ev} (hm : m ≤ m') (h : WfE m P lot e) : WfE m' P lot e := by
  obtain ⟨h1, h2, h3, h4, h5, h6, h7, h8⟩ := h
  exact ⟨h1, by omega, h3, h4, h5, h6, fun r hr => ⟨by have := (h7 r hr).1; omega, (h7 r hr).2⟩, h8⟩
theorem LotOk.mono {m m' : Nat} {P : Pa} {lot : Nat → Nat} (hm : m ≤ m') (h : LotOk m' P lot) : LotOk m P lot := by
  have := h.1
  exact ⟨by omega, fun i j hi hj => h.2.1 i j (by omega) (by omega), fun i hi => h.2.2 i (by omega)⟩
theorem left_pl {P : Pa} {lot : Nat → Nat} {m : Nat} (hP : PaOk P) (hl : LotOk m P lot) : ∀ g e, WfE m P lot e → left P (plE P lot m g e).1 ≤ left P e
  | 0, _, _ => Nat.le_refl _
  | g + 1, e, hw => by
    by_cases z : m ≤ eP e
    · have h1 : plE P lot m (g + 1) e = (e, 0) := by unfold plE; rw [if_pos z]
      rw [h1]
      exact Nat.le_refl _
    · have ho : eP e < m := by omega
      obtain ⟨p, hp⟩ := cu_some hl ho
      have h1 : (plE P lot m (g + 1) e).1 = (plE P lot m g (stE P e p)).1 := by rw [plE, if_neg z, hp]
      rw [h1]
      have h2 := left_st (p := p) hl.1 hw ho
      have h3 := left_pl hP hl g (stE P e p) (wf_st hP hl hw ho hp)
      omega
theorem pl_more {P : Pa} {lot : Nat → Nat} {m : Nat} (hP : PaOk P) (hl : LotOk m P lot) : ∀ g e, left P e ≤ g → WfE m P lot e → plE P lot m (g + 1) e = plE P lot m g e
  | 0, e, hg, hw => by
    have h1 := hw.2.1
    have h0 := hl.1
    have h2 : (pN P - eP e) * (1 + pM P) = 0 := by unfold left at hg; omega
    have he : m ≤ eP e := by rcases Nat.mul_eq_zero.mp h2 with h3 | h3 <;> omega
    show plE P lot m 1 e = (e, 0)
    unfold plE
    rw [if_pos he]
  | g + 1, e, hg, hw => by
    by_cases z : m ≤ eP e
    · rw [plE, if_pos z, plE, if_pos z]
    · have ho : eP e < m := by omega
      obtain ⟨p, hp⟩ := cu_some hl ho
      have h2 := left_st (p := p) hl.1 hw ho
      have ih := pl_more hP hl g (stE P e p) (by omega) (wf_st hP hl hw ho hp)
      have e1 : plE P lot m (g + 1 + 1) e = ((plE P lot m (g + 1) (stE P e p)).1, (plE P lot m (g + 1) (stE P e p)).2 + 1) := by rw [plE, if_neg z, hp]
      have e2 : plE P lot m (g + 1) e = ((plE P lot m g (stE P e p)).1, (plE P lot m g (stE P e p)).2 + 1) := by rw [plE, if_neg z, hp]
      rw [e1, e2, ih]
theorem pl_comp {P : Pa} {lot : Nat → Nat} {m m' : Nat} (hP : PaOk P) (hm : m ≤ m') (hl : LotOk m' P lot) : ∀ g e, left P e ≤ g → WfE m P lot e → (plE P lot m' g (plE P lot m g e).1).1 = (plE P lot m' g e).1
  | 0, _, _, _ => rfl
  | g + 1, e, hg, hw => by
    have hl0 := hl.mono hm
    by_cases z : m ≤ eP e
    · have h1 : plE P lot m (g + 1) e = (e, 0) := by unfold plE; rw [if_pos z]
      rw [h1]
    · have ho : eP e < m := by omega
      obtain ⟨p, hp⟩ := cu_some hl0 ho
      have h2 := left_st (p := p) hl0.1 hw ho
      have hws := wf_st hP hl0 hw ho hp
      have e1 : (plE P lot m (g + 1) e).1 = (plE P lot m g (stE P e p)).1 := by rw [plE, if_neg z, hp]
      have e2 : (plE P lot m' (g + 1) e).1 = (plE P lot m' g (stE P e p)).1 := by rw [plE, if_neg (by omega), hp]
      have h3 := left_pl hP hl0 g (stE P e p) hws
      have h4 := (wf_pl hP hl0 g (stE P e p) (by omega) hws).1
      rw [e1, e2, pl_more hP hl g _ (by omega) (wf_mono hm h4)]
      exact pl_comp hP hm hl g (stE P e p) (by omega) hws
/-- where an evening stands when the first k of a lot have opened -/
def lsE (P : Pa) (L : Nat → Nat) (k : Nat) : Ev := (plE P L k 28 (wrE (kI 0) (kI 0) (kI 0))).1
theorem ls_ok {P : Pa} {L : Nat → Nat} {k : Nat} (hP : PaOk P) (hl : LotOk k P L) : WfE k P L (lsE P L k) ∧ eP (lsE P L k) = k := wf_pl hP hl 28 _ (left_le hP (Nat.zero_le _)) wf_wr
theorem ls_step {P : Pa} {L : Nat → Nat} {k : Nat} (hP : PaOk P) (hl : LotOk (k + 1) P L) : (plE P L (k + 1) 28 (lsE P L k)).1 = lsE P L (k + 1) := pl_comp hP (Nat.le_succ k) hl 28 _ (left_le hP (Nat.zero_le _)) wf_wr
theorem ls_lot {P : Pa} {L L' : Nat → Nat} {k : Nat} (h : ∀ j, j < k → L j = L' j) : lsE P L k = lsE P L' k := by
  unfold lsE
  rw [pl_lot h]
theorem ls_ev {P : Pa} {L : Nat → Nat} : evE P L (kI 0) (kI 0) = clE P L (lsE P L (pN P)) := rfl
/-- how many lots from here on end as told -/
def ltF (P : Pa) (el : Nat → Int64) (cc : Nat) : Nat → Nat → Nat → (Nat → Nat) → Nat
  | 0, _, _, L => if unl el (has0 (evE P L (kI 0) (kI 0))) cc 0 = none then 1 else 0
  | c + 1, k, u, L => fs (fun w => if bt u w = 0 then ltF P el cc c (k + 1) (u + 2 ^ w) (up L k w) else 0) (pN P) 0
theorem bt_set {u w x : Nat} (hu : u < 128) (hw : w < 7) (hx : x < 7) (h : bt u w = 0) : bt (u + 2 ^ w) x = if x = w then 1 else bt u x := (by decide +kernel : ∀ u, u < 128 → ∀ w, w < 7 → ∀ x, x < 7 → bt u w = 0 → bt (u + 2 ^ w) x = if x = w then 1 else bt u x) u hu w hw x hx h
/-- the people of a part of a lot are those of u -/
def Us (P : Pa) (k u : Nat) (L : Nat → Nat) : Prop := LotOk k P L ∧ u < 2 ^ pN P ∧ ∀ j, j < k → bt u (L j) = 1
theorem Us.step {P : Pa} {k u w : Nat} {L : Nat → Nat} (hn : pN P ≤ 7) (h : Us P k u L) (hk : k < pN P) (hw : w < pN P) (hb : bt u w = 0) : Us P (k + 1) (u + 2 ^ w) (up L k w) := by
  obtain ⟨⟨h1, h2, h3⟩, h4, h5⟩ := h
  have p2 := p2_n hn
  refine ⟨⟨by omega, fun i j hi hj he => ?_, fun i hi => ?_⟩, bt_lt hn h4 hw hb, fun j hj => ?_⟩
  · by_cases zi : i = k
    · by_cases zj : j = k
      · omega
      · rw [zi, up_at, up_ne zj] at he
        have := h5 j (by omega)
        rw [← he] at this
        omega
    · by_cases zj : j = k
      · rw [zj, up_at, up_ne zi] at he
        have := h5 i (by omega)
        rw [he] at this
        omega
      · rw [up_ne zi, up_ne zj] at he
        exact h2 i j (by omega) (by omega) he
  · by_cases zi : i = k
    · rw [zi, up_at]; exact hw
    · rw [up_ne zi]; exact h3 i (by omega)
  · by_cases zj : j = k
    · rw [zj, up_at, bt_set (by omega) (by omega) (by omega) hb, if_pos rfl]
    · rw [up_ne zj]
      have := h3 j (by omega)
      rw [bt_set (by omega) (by omega) (by omega) hb]
      split
      · rfl
      · exact h5 j (by omega)
theorem lt_congr {P : Pa} {el el' : Nat → Int64} {cc : Nat} (hP : PaOk P) (he : ∀ j, j < cc → el j = el' j) : ∀ c k u L L', k + c = pN P → Us P k u L → (∀ j, j < k → L j = L' j) → ltF P el cc c k u L = ltF P el' cc c k u L' := by
  have hn := hP.1
  intro c
  induction c with
  | zero =>
    intro k u L L' hk hu hL
    have hk : k = pN P := by omega
    subst hk
    unfold ltF
    rw [ev_lot hP hu.1 hL, unl_congr cc 0 (fun j _ hj => he j (by omega))]
  | succ c ih =>
    intro k u L L' hk hu hL
    unfold ltF
    refine fs_congr _ 0 (fun w _ hw => ?_)
    by_cases z : bt u w = 0
    · rw [if_pos z, if_pos z]
      refine ih (k + 1) _ _ _ (by omega) (hu.step hn (by omega) (by omega) z) (fun j hj => ?_)
      by_cases y : j = k
      · rw [y, up_at, up_at]
      · rw [up_ne y, up_ne y]
        exact hL j (by omega)
    · rw [if_neg z, if_neg z]
theorem kI_all (x : Int32) : ∃ v, v < 4294967296 ∧ x = kI v := by
  rcases i32_cases x with q | ⟨k, k1, e⟩
  · have b := x.le_toInt
    refine ⟨(x.toInt + 4294967296).toNat, by omega, ?_⟩
    unfold kI
    rw [Int.toNat_of_nonneg (by omega)]
    unfold iI
    rw [Int32.ofInt_add, Int32.ofInt_toInt]
    have : Int32.ofInt 4294967296 = 0 := by decide
    rw [this, Int32.add_zero]
  · exact ⟨k, by omega, e⟩
