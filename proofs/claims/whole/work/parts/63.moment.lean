/-! the moment behind so many sentences -/
def lenA (h : AHp) (c m : Nat) : Int32 := if 1 ≤ m then hI h c (m - 1) else 0
def lenB (h : AHp) (c m : Nat) : Int32 := if 2 ≤ m then hI h c (m - 2) else 0
def spkR (h : AHp) (c m : Nat) : Int32 := if 1 ≤ m then hI h c (m - 1) else -1
theorem nI_sub_toInt {m c : Nat} (hm : m ≤ 200) (hc : c ≤ 10) : (nI m - nI c).toInt = (m : Int) - c := by
  rw [sub_toInt (nI m) c (by omega), nI_toInt (by omega), if_neg (by omega)]
theorem standNowC {h : AHp} {m : Nat} (em : hI h 42 3 = nI m) (hm : m ≤ 200) : m_X11_standNow h = some ((), stH h (lenA h 45 m) (lenB h 45 m) (spkR h 43 m) (nI m)) := by
  have s1 : (nI m - 1).toInt = (m : Int) - 1 := nI_sub_toInt (c := 1) hm (by omega)
  have s2 : (nI m - 2).toInt = (m : Int) - 2 := nI_sub_toInt (c := 2) hm (by omega)
  have a1 : (if 0 ≤ (nI m - 1).toInt ∧ (nI m - 1).toInt < m then hI h 45 (nI m - 1).toNatClampNeg else 0) = lenA h 45 m := by
    unfold lenA; rw [clamp_toNat, s1]
    by_cases h1 : 1 ≤ m
    · rw [if_pos (by omega), if_pos h1]; congr 1; omega
    · rw [if_neg (by omega), if_neg h1]
  have a2 : (if 0 ≤ (nI m - 2).toInt ∧ (nI m - 2).toInt < m then hI h 45 (nI m - 2).toNatClampNeg else 0) = lenB h 45 m := by
    unfold lenB; rw [clamp_toNat, s2]
    by_cases h1 : 2 ≤ m
    · rw [if_pos (by omega), if_pos h1]; congr 1; omega
    · rw [if_neg (by omega), if_neg h1]
  have a3 : (if 0 ≤ (nI m - 1).toInt ∧ (nI m - 1).toInt < m then hI h 43 (nI m - 1).toNatClampNeg else -1) = spkR h 43 m := by
    unfold spkR; rw [clamp_toNat, s1]
    by_cases h1 : 1 ≤ m
    · rw [if_pos (by omega), if_pos h1]; congr 1; omega
    · rw [if_neg (by omega), if_neg h1]
  unfold m_X11_standNow
  rw [em, spanG em hm, bd_some, em, spanG em hm, bd_some, em, speakG em hm, bd_some, em, a1, a2, a3, standC, bd_some]
/-- the reference: fields 36, 37, 38, 39 as told -/
abbrev PSt : Nat → Nat → Bool := fun k i => k == 70 && (i == 36 || i == 37 || i == 38 || i == 39)
theorem standsAtM {h : AHp} {m : Nat} (hm : m ≤ 200) : ∃ h1, m_X12_standsAt (nI m) h = some ((), h1) ∧ Ch PSt h h1 ∧ hI h1 70 39 = nI m ∧ hI h1 70 36 = lenA h 96 m ∧ hI h1 70 37 = lenB h 96 m ∧ hI h1 70 38 = spkR h 94 m := by
  have s1 : (nI m - 1).toInt = (m : Int) - 1 := nI_sub_toInt (c := 1) hm (by omega)
  have s2 : (nI m - 2).toInt = (m : Int) - 2 := nI_sub_toInt (c := 2) hm (by omega)
  have b1 : ∀ g : AHp, (if 0 ≤ (nI m - 1).toInt then hI g 96 (nI m - 1).toNatClampNeg else 0) = lenA g 96 m := fun g => by
    unfold lenA; rw [clamp_toNat, s1]
    by_cases h1 : 1 ≤ m
    · rw [if_pos (by omega), if_pos h1]; congr 1; omega
    · rw [if_neg (by omega), if_neg h1]
  have b2 : ∀ g : AHp, (if 0 ≤ (nI m - 2).toInt then hI g 96 (nI m - 2).toNatClampNeg else 0) = lenB g 96 m := fun g => by
    unfold lenB; rw [clamp_toNat, s2]
    by_cases h1 : 2 ≤ m
    · rw [if_pos (by omega), if_pos h1]; congr 1; omega
    · rw [if_neg (by omega), if_neg h1]
  have e0 : (nI m).toInt = m := nI_toInt (by omega)
  unfold m_X12_standsAt
  simp only [lt_eq]
  rw [lengthG _ (by rw [s1]; omega), bd_some, b1, lengthG _ (by rw [s2]; omega), bd_some, b2]
  by_cases h1 : 1 ≤ m
  · rw [if_neg (by rw [i32_le, e0]; simp only [tIall]; omega), gd_pos (inb_iff.mpr (by rw [s1]; omega))]
    refine ⟨_, rfl, (((Ch.rf.sI rfl).sI rfl).sI rfl).sI rfl, ?_, ?_, ?_, ?_⟩
    · simp [hI_sI]
    · simp [hI_sI, lenA]
    · simp [hI_sI, lenB]
    · have e1 : (nI m - 1).toNatClampNeg = m - 1 := by rw [clamp_toNat, s1]; omega
      simp [hI_sI, spkR, h1, e1]
  · rw [if_pos (by rw [i32_le, e0]; simp only [tIall]; omega)]
    refine ⟨_, rfl, (((Ch.rf.sI rfl).sI rfl).sI rfl).sI rfl, ?_, ?_, ?_, ?_⟩
    · simp [hI_sI]
    · simp [hI_sI, lenA]
    · simp [hI_sI, lenB]
    · simp [hI_sI, spkR, h1]
theorem colD_st (h : AHp) (a b r k x : Int32) : colD (stH h a b r k) x = colD h x := by
  unfold colD stH
  simp only [hI_sI, Nat.reduceEqDiff, false_and, reduceIte]
theorem mom_eq {h g : AHp} {A B R K s t l : Int32} (hs : 0 ≤ s.toInt ∧ s.toInt ≤ 5) (hR : -1 ≤ R.toInt ∧ R.toInt ≤ 5) (hc : ∀ i, i < 6 → hI g 91 i = hI h 5 i) (g36 : hI g 70 36 = A) (g37 : hI g 70 37 = B) (g38 : hI g 70 38 = R) (g39 : hI g 70 39 = K) : ∀ i, i < 9 → eL (hI (leH (stH h A B R K) s t) 6) l i = momS g s t l i := by
  have n0 : ∀ x : Int32, (0 ≤ x) ↔ 0 ≤ x.toInt := fun x => by rw [i32_le]; simp only [tIall]
  have n1 : ∀ x : Int32, (0 < x) ↔ 0 < x.toInt := fun x => by rw [i32_lt]; simp only [tIall]
  have hsc := hc s.toNatClampNeg (clamp_lt hs.1 (by omega))
  intro i hi
  have hcases : i = 0 ∨ i = 1 ∨ i = 2 ∨ i = 3 ∨ i = 4 ∨ i = 5 ∨ i = 6 ∨ i = 7 ∨ i = 8 := by omega
  unfold eL momS momM leH
  rw [colD_st]
  unfold stH
  rcases hcases with rfl | rfl | rfl | rfl | rfl | rfl | rfl | rfl | rfl
  · simp [hI_sI]
  · simp [hI_sI]
  · simp [hI_sI]
  · simp [hI_sI, colD, hs, hsc]
  · simp [hI_sI, g36]
  · simp [hI_sI, g37]
  · simp only [hI_sI, Nat.reduceEqDiff, false_and, and_false, true_and, and_true, reduceIte, g38, n0, n1]
    by_cases h0 : 0 < R.toInt
    · rw [if_pos h0, if_pos (by omega)]
    · rw [if_neg h0]
      by_cases h1 : 0 ≤ R.toInt
      · rw [if_pos h1, i32_eq]; simp only [tIall]; omega
      · rw [if_neg h1]
  · simp only [hI_sI, Nat.reduceEqDiff, false_and, and_false, true_and, and_true, reduceIte, g38, n0, colD]
    by_cases h1 : 0 ≤ R.toInt
    · rw [if_pos ⟨h1, hR.2⟩, if_pos h1, hc _ (clamp_lt h1 (by omega))]
    · rw [if_neg (by omega), if_neg h1]
  · simp [hI_sI, g39]
