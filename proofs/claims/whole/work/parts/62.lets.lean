/-! the class's moment, and its lets -/
def colD (h : AHp) (r : Int32) : Int32 := if 0 ≤ r.toInt ∧ r.toInt ≤ 5 then hI h 5 r.toNatClampNeg else 0
def stH (h : AHp) (a b r k : Int32) : AHp := sI (sI (sI (sI (sI h 6 4 a) 6 5 b) 6 6 (if 0 < r then r else 0)) 6 7 (colD h r)) 6 8 k
theorem standC (a b r k : Int32) (h : AHp) : m_X9_stand a b r k h = some ((), stH h a b r k) := by
  unfold m_X9_stand stH
  simp only [lt_eq, colourOfC, bd_some]
  rfl
def leH (h : AHp) (s t : Int32) : AHp := sI (sI (sI h 6 2 s) 6 3 (colD h s)) 6 1 t
/-- two laws of the class -/
def L2 (h : AHp) (cl0 cl1 : List Clz) (K0 K1 : Nat → Prop) (v0 v1 : Nat → Int32) : Prop := LawC h (hM h 3 3) cl0 K0 v0 ∧ LawC h (hM h 3 4) cl1 K1 v1 ∧ hM h 3 3 ≠ hM h 3 4
abbrev PL (h : AHp) : Nat → Nat → Bool := fun k i => (k == 6 && (i == 1 || i == 2 || i == 3)) || k == hM h 3 3 + 2 || k == hM h 3 4 + 2
theorem law_bounds {j : Nat} (h : isLaw j) : 7 ≤ j ∧ j ≤ 34 := by rcases h with rfl | rfl | rfl | rfl <;> omega
theorem law_apart {j i : Nat} (h : isLaw j) (h2 : isLaw i) (hne : j ≠ i) : j + 7 < i ∨ i + 7 < j := by
  rcases h with rfl | rfl | rfl | rfl <;> rcases h2 with rfl | rfl | rfl | rfl <;> first | omega | exact absurd rfl hne
