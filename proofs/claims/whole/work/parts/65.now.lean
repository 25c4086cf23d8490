/-! one moment, told by its nine letters; both sides asked there -/
def mo (col : Nat → Int32) (s t a b r k l : Int32) : Mom := fun i => match i with
  | 0 => l
  | 1 => t
  | 2 => s
  | 3 => col s.toNatClampNeg
  | 4 => a
  | 5 => b
  | 6 => if 0 ≤ r then r else 0
  | 7 => if 0 ≤ r then col r.toNatClampNeg else 0
  | _ => k
def AL (cl0 cl1 : List Clz) (col : Nat → Int32) (laws s t a b r k : Int32) (l : Nat) : Bool := ok2 cl0 cl1 laws (mo col s t a b r k (nI l))
theorem mo_congr {col col2 : Nat → Int32} (hc : ∀ i, i < 6 → col i = col2 i) {s t a b r k l : Int32} (hs : 0 ≤ s.toInt ∧ s.toInt ≤ 5) (hr : -1 ≤ r.toInt ∧ r.toInt ≤ 5) : mo col s t a b r k l = mo col2 s t a b r k l := by
  funext i
  unfold mo
  rw [hc _ (clamp_lt hs.1 (by omega))]
  by_cases h0 : 0 ≤ r
  · rw [hc _ (clamp_lt (by rw [i32_le] at h0; exact h0) (by omega))]
  · simp only [if_neg h0]
theorem momS_mo (h : AHp) (s t l : Int32) : momS h s t l = mo (hI h 91) s t (hI h 70 36) (hI h 70 37) (hI h 70 38) (hI h 70 39) l := by
  funext i
  unfold momS momM mo
  simp only [hI_sI, Nat.reduceEqDiff, false_and, and_false, true_and, and_true, reduceIte]
  rcases i with _ | _ | _ | _ | _ | _ | _ | _ | i <;> rfl
def StC (g : AHp) (a b r k : Int32) : Prop := hI g 6 4 = a ∧ hI g 6 5 = b ∧ hI g 6 6 = (if 0 < r then r else 0) ∧ hI g 6 7 = colD g r ∧ hI g 6 8 = k
theorem StC.st (h : AHp) (a b r k : Int32) : StC (stH h a b r k) a b r k := by
  refine ⟨rfl, rfl, rfl, ?_, rfl⟩
  rw [colD_st]; rfl
abbrev PCl : Nat → Nat → Bool := fun k i => (k == 6 && (i == 1 || i == 2 || i == 3)) || k == 9 || k == 17 || k == 25 || k == 36
abbrev PC : Nat → Nat → Bool := fun k _ => k == 6 || k == 9 || k == 17 || k == 25 || k == 36
theorem PCl_PC {h g : AHp} (c : Ch PCl h g) : Ch PC h g := c.mono (fun k i hp => by
  simp only [Bool.or_eq_false_iff, Bool.and_eq_false_iff, beq_eq_false_iff_ne] at hp ⊢; omega)
theorem StC.ch {g g1 : AHp} {a b r k : Int32} (x : StC g a b r k) (c : Ch PCl g g1) : StC g1 a b r k := by
  obtain ⟨x1, x2, x3, x4, x5⟩ := x
  have e5 : colD g1 r = colD g r := by unfold colD; rw [c.r (k := 5) (fun _ => rfl)]
  exact ⟨by rw [c.i rfl, x1], by rw [c.i rfl, x2], by rw [c.i rfl, x3], by rw [c.i rfl, x4, e5], by rw [c.i rfl, x5]⟩
theorem eL_mo {g : AHp} {a b r k s t l : Int32} (x : StC g a b r k) (hs : 0 ≤ s.toInt ∧ s.toInt ≤ 5) (hR : -1 ≤ r.toInt ∧ r.toInt ≤ 5) : ∀ i, i < 9 → eL (hI (leH g s t) 6) l i = mo (hI g 5) s t a b r k l i := by
  obtain ⟨x1, x2, x3, x4, x5⟩ := x
  have n0 : ∀ x : Int32, (0 ≤ x) ↔ 0 ≤ x.toInt := fun x => by rw [i32_le]; simp only [tIall]
  have n1 : ∀ x : Int32, (0 < x) ↔ 0 < x.toInt := fun x => by rw [i32_lt]; simp only [tIall]
  intro i hi
  have hcases : i = 0 ∨ i = 1 ∨ i = 2 ∨ i = 3 ∨ i = 4 ∨ i = 5 ∨ i = 6 ∨ i = 7 ∨ i = 8 := by omega
  unfold eL mo leH
  rcases hcases with rfl | rfl | rfl | rfl | rfl | rfl | rfl | rfl | rfl
  · simp
  · simp [hI_sI]
  · simp [hI_sI]
  · simp [hI_sI, colD, hs]
  · simp [hI_sI, x1]
  · simp [hI_sI, x2]
  · simp only [hI_sI, Nat.reduceEqDiff, false_and, and_false, true_and, and_true, reduceIte, x3, n0, n1]
    by_cases h0 : 0 < r.toInt
    · rw [if_pos h0, if_pos (by omega)]
    · rw [if_neg h0]
      by_cases h1 : 0 ≤ r.toInt
      · rw [if_pos h1, i32_eq]; simp only [tIall]; omega
      · rw [if_neg h1]
  · simp only [hI_sI, Nat.reduceEqDiff, false_and, and_false, true_and, and_true, reduceIte, x4, n0, colD]
    by_cases h1 : 0 ≤ r.toInt
    · rw [if_pos ⟨h1, hR.2⟩, if_pos h1]
    · rw [if_neg (by omega), if_neg h1]
  · simp [hI_sI, x5]
theorem PL_PCl {h g g1 : AHp} (l0 : isLaw (hM h 3 3)) (l1 : isLaw (hM h 3 4)) (c : Ch (PL h) g g1) : Ch PCl g g1 := c.mono (fun k i hp => by
  have a0 : hM h 3 3 = 7 ∨ hM h 3 3 = 15 ∨ hM h 3 3 = 23 ∨ hM h 3 3 = 34 := l0
  have a1 : hM h 3 4 = 7 ∨ hM h 3 4 = 15 ∨ hM h 3 4 = 23 ∨ hM h 3 4 = 34 := l1
  simp only [Bool.or_eq_false_iff, Bool.and_eq_false_iff, beq_eq_false_iff_ne] at hp ⊢
  omega)
/-- the class asked at a moment -/
theorem askC {g : AHp} {cl0 cl1 : List Clz} {K0 K1 : Nat → Prop} {v0 v1 : Nat → Int32} {a b r k : Int32} (hL : L2 g cl0 cl1 K0 K1 v0 v1) (hst : StC g a b r k) (laws t : Int32) {s : Int32} (hs : 0 ≤ s.toInt ∧ s.toInt ≤ 5) (hr : -1 ≤ r.toInt ∧ r.toInt ≤ 5) (x : Int32) (hx : ∀ j, j < 32 → tb x j = true → 1 ≤ j ∧ j ≤ 24) :
    ∃ y g1, m_X9_lets laws s t x g = some (y, g1) ∧ Ch PCl g g1 ∧ L2 g1 cl0 cl1 K0 K1 v0 v1 ∧ StC g1 a b r k ∧ ∀ j, j < 32 → tb y j = (tb x j && AL cl0 cl1 (hI g 5) laws s t a b r k j) := by
  obtain ⟨y, g1, e1, c1, l1, q1⟩ := letsC hL laws s t x hx
  have c1' := PL_PCl hL.1.1 hL.2.1.1 c1
  refine ⟨y, g1, e1, c1', l1, hst.ch c1', fun j hj => ?_⟩
  rw [q1 j hj, ok2_nine hL laws (eL_mo hst hs hr)]; rfl
theorem L2.pc {h g : AHp} {cl0 cl1 : List Clz} {K0 K1 : Nat → Prop} {v0 v1 : Nat → Int32} (hL : L2 h cl0 cl1 K0 K1 v0 v1) {P : Nat → Nat → Bool} (c : Ch P h g) (h3 : P 3 3 = false ∧ P 3 4 = false) (hp : ∀ k, 7 ≤ k → k ≤ 41 → ∀ i, P k i = false) : L2 g cl0 cl1 K0 K1 v0 v1 := hL.next (c 3 3 h3.1).2.2 (c 3 4 h3.2).2.2 (fun k a b i => c.i (hp k a b i))
/-- the reference asked at a moment -/
theorem askM {g : AHp} {cl0 cl1 : List Clz} {laws s t : Int32} (hs : 0 ≤ s.toInt ∧ s.toInt ≤ 5) (ht : 0 ≤ t.toInt ∧ t.toInt ≤ 11) (hL0 : LawM g 0 cl0) (hL1 : LawM g 1 cl1) (hk : okL g) : ∃ y g1, m_X12_waysBy laws s t g = some (y, g1) ∧ Ch PWs g g1 ∧ ∀ j, j < 32 → tb y j = (decide (1 ≤ j ∧ j ≤ 24) && tb (hI g 72 t.toNatClampNeg) j && AL cl0 cl1 (hI g 91) laws s t (hI g 70 36) (hI g 70 37) (hI g 70 38) (hI g 70 39) j) := by
  obtain ⟨y, g1, e1, c1, q1⟩ := waysM (laws := laws) hs ht hL0 hL1 hk
  refine ⟨y, g1, e1, c1, fun j hj => ?_⟩
  rw [q1 j hj, momS_mo]; rfl
/-- one law alone, as bits -/
def lawsOf (w : Nat) : Int32 := if w = 0 then 1 else 2
def clOf (cl0 cl1 : List Clz) (w : Nat) : List Clz := if w = 0 then cl0 else cl1
theorem ok2_one {cl0 cl1 : List Clz} {w : Nat} (hw : w ≤ 1) (e : Mom) : ok2 cl0 cl1 (lawsOf w) e = letsD (clOf cl0 cl1 w) e := by
  have hc : w = 0 ∨ w = 1 := by omega
  unfold ok2 lawsOf clOf
  rcases hc with rfl | rfl
  · simp [show tb 1 0 = true from rfl, show tb 1 1 = false from rfl]
  · simp [show tb 2 0 = false from rfl, show tb 2 1 = true from rfl]
theorem shl_law {w : Nat} (hw : w ≤ 1) : (1 : Int32) <<< (nI w &&& 31) = lawsOf w := by
  have hc : w = 0 ∨ w = 1 := by omega
  rcases hc with rfl | rfl <;> rfl
theorem askM1 {g : AHp} {cl0 cl1 : List Clz} {s t : Int32} {w l : Nat} (hw : w ≤ 1) (hs : 0 ≤ s.toInt ∧ s.toInt ≤ 5) (hL0 : LawM g 0 cl0) (hL1 : LawM g 1 cl1) (hk : okL g) : ∃ g1, bd (m_X12_says s t (nI l) g) (fun _ h => m_X12_lets (nI w) h) = some (if AL cl0 cl1 (hI g 91) (lawsOf w) s t (hI g 70 36) (hI g 70 37) (hI g 70 38) (hI g 70 39) l = true then 1 else 0, g1) ∧ Ch PWs g g1 := by
  rw [saysM, bd_some]
  have c0 := says_ch g s t (nI l)
  generalize hg : sI (sI (sI g 70 35 s) 70 34 t) 70 33 (nI l) = g0 at c0
  have hmg : momM g0 = momS g s t (nI l) := by rw [← hg]; rfl
  have okg : okM g0 := ⟨by rw [← hg]; exact hs, by rw [c0.i (k := 70) (i := 38) rfl]; exact hk⟩
  have hLw : LawM g0 w (clOf cl0 cl1 w) := by
    have hc : w = 0 ∨ w = 1 := by omega
    rcases hc with rfl | rfl
    · exact hL0.same (sameLM.pws c0)
    · exact hL1.same (sameLM.pws c0)
  obtain ⟨g1, e1, c1⟩ := letsM hw hLw okg
  refine ⟨g1, ?_, c0.trans (pw_pws c1)⟩
  rw [e1, hmg, momS_mo]
  unfold AL
  rw [ok2_one hw]
