/-! THE CELLS: printed by wip/p39/gen/layout.py out of the constructors: kind and length of each place, the references that never change -/
def shpL : List (Nat × Nat) := [(0, 0), (9, 8), (9, 4), (1, 70), (1, 70), (1, 7), (9, 3), (3, 121), (1, 121), (1, 121), (1, 6), (9, 1), (1, 40), (1, 40), (1, 40), (1, 40), (9, 6), (3, 120), (9, 3), (3, 121), (1, 121), (1, 121), (1, 6), (9, 2), (1, 7), (1, 7), (1, 7), (1, 7), (9, 2), (1, 7), (1, 7), (1, 7), (1, 7), (9, 7), (6, 10), (8, 10), (1, 8), (1, 8), (1, 8), (1, 8), (1, 8), (1, 8), (1, 8), (1, 8), (1, 8), (1, 8), (1, 128), (1, 7), (1, 7), (1, 7), (9, 2), (1, 7), (1, 7), (1, 7), (1, 7), (9, 2), (1, 7), (1, 7), (1, 7), (1, 7), (9, 2), (1, 7), (1, 7), (1, 7), (1, 7), (9, 2), (1, 7), (1, 7), (1, 7), (1, 7), (9, 2), (1, 7), (1, 7), (1, 7), (1, 7), (9, 2), (1, 7), (1, 7), (1, 7), (1, 7), (9, 2), (1, 7), (1, 7), (1, 7), (1, 7), (9, 2), (1, 7), (1, 7), (1, 7), (1, 7), (9, 2), (1, 7), (1, 7), (1, 7), (1, 7), (9, 2), (1, 7), (1, 7), (1, 7), (1, 7), (9, 0), (1, 50), (1, 24), (9, 5), (1, 6), (1, 6), (7, 6), (5, 60), (5, 60), (5, 60), (5, 60), (5, 60), (5, 60), (10, 0), (10, 0)]
def shp (a : Nat) : Nat × Nat := shpL.getD a (0, 0)
def NN : Nat := 112
def sref : Nat → Nat → Nat → Option Nat := fun ci a j => match ci, j with
  | 0, 0 => some (a + 1)
  | 0, 2 => some (a + 2)
  | 1, 0 => some (a + 1)
  | 1, 1 => some (a + 2)
  | 1, 2 => some (a + 3)
  | 1, 3 => some (a + 4)
  | 2, 0 => some (a + 1)
  | 2, 1 => some (a + 2)
  | 2, 2 => some (a + 3)
  | 2, 3 => some (a + 4)
  | 3, 0 => some (a + 1)
  | 3, 1 => some (a + 2)
  | 3, 4 => some (a + 3)
  | 3, 5 => some (a + 4)
  | 4, 1 => some (a + 1)
  | 4, 2 => some (a + 2)
  | 4, 3 => some (a + 3)
  | 5, 0 => some (a + 1)
  | 5, 1 => some (a + 2)
  | 5, 2 => some (a + 3)
  | 6, 0 => some (a + 1)
  | 7, 0 => some 2
  | 7, 1 => some (a + 1)
  | 7, 2 => some (a + 2)
  | 7, 3 => some (a + 13)
  | 7, 4 => some (a + 14)
  | 7, 5 => some (a + 15)
  | 7, 6 => some (a + 16)
  | 8, 0 => some (a + 1)
  | 8, 1 => some (a + 10)
  | 8, 2 => some (a + 15)
  | 8, 3 => some (a + 22)
  | 8, 4 => some (a + 27)
  | 8, 5 => some (a + 32)
  | 8, 6 => some (a + 99)
  | 8, 7 => some (a + 102)
  | _, _ => none
def aref : Nat → Nat → Option Nat := fun a j => match a with
  | 34 => if j < 10 then some (50 + 5 * j) else none
  | 35 => if j < 10 then some (36 + 1 * j) else none
  | 106 => if j < 6 then some (107 + 1 * j) else none
  | _ => none
theorem shp_lt {a : Nat} (h : (shp a).1 ≠ 0 ∧ (shp a).1 ≠ 10) : a ≤ NN := by
  by_cases q : a < shpL.length
  · have e : shpL.length = NN + 3 := by decide +kernel
    have h1 : a = NN + 1 → (shp a).1 = 10 := fun z => by rw [z]; decide +kernel
    have h2 : a = NN + 2 → (shp a).1 = 10 := fun z => by rw [z]; decide +kernel
    have h3 : a ≠ NN + 1 := fun z => h.2 (h1 z)
    have h4 : a ≠ NN + 2 := fun z => h.2 (h2 z)
    omega
  · exact absurd (by unfold shp; rw [List.getD_eq_getElem?_getD, List.getElem?_eq_none (Nat.le_of_not_lt q)]; rfl) h.1
theorem shp_pos {a : Nat} (h : (shp a).1 ≠ 0) : a ≠ 0 := fun q => h (by rw [q]; rfl)
theorem shp_pk {a k len : Nat} (h : shp a = (k, len)) (hk : k ≠ 0) : a ≠ 0 := shp_pos (by rw [h]; exact hk)
theorem shp_le {a k len : Nat} (h : shp a = (k, len)) (hk : k ≠ 0 ∧ k ≠ 10) : a ≤ NN := shp_lt (by rw [h]; exact hk)
