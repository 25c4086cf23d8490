/-! the moment behind so many sentences -/
def lenA (h : AHp) (c m : Nat) : Int32 := if 1 ≤ m then hI h c (m - 1) else 0
def lenB (h : AHp) (c m : Nat) : Int32 := if 2 ≤ m then hI h c (m - 2) else 0
def spkR (h : AHp) (c m : Nat) : Int32 := if 1 ≤ m then hI h c (m - 1) else -1
theorem nI_sub_toInt {m c : Nat} (hm : m ≤ 200) (hc : c ≤ 10) : (nI m - nI c).toInt = (m : Int) - c := by
  rw [sub_toInt (nI m) c (by omega), nI_toInt (by omega), if_neg (by omega)]
theorem standNowC {h : AHp} {m : Nat} (em : hI h 42 3 = nI m) (hm : m ≤ 200) : m_X11_standNow h = some ((), stH h (lenA h 45 m) (lenB h 45 m) (spkR h 43 m) (nI m)) := by
  have s1 : (nI m - 1).toInt = (m : Int) - 1 := nI_sub_toInt (c := 1) hm (by omega)
  have s2 : (nI m - 2).toInt = (m : Int) - 2 := nI_sub_toInt (c := 2) hm (by omega)
  have a1 : (if 0 ≤ (nI m - 1).toInt ∧ (nI m - 1).toInt < m then hI h 45 (nI m - 1).toNatClampNeg else 0) = lenA h 45 m := by
    unfold lenA; rw [clamp_toNat, s1]
    by_cases h1 : 1 ≤ m
    · rw [if_pos (by omega), if_pos h1]; congr 1; omega
    · rw [if_neg (by omega), if_neg h1]
  have a2 : (if 0 ≤ (nI m - 2).toInt ∧ (nI m - 2).toInt < m then hI h 45 (nI m - 2).toNatClampNeg else 0) = lenB h 45 m := by
    unfold lenB; rw [clamp_toNat, s2]
    by_cases h1 : 2 ≤ m
    · rw [if_pos (by omega), if_pos h1]; congr 1; omega
    · rw [if_neg (by omega), if_neg h1]
  have a3 : (if 0 ≤ (nI m - 1).toInt ∧ (nI m - 1).toInt < m then hI h 43 (nI m - 1).toNatClampNeg else -1) = spkR h 43 m := by
    unfold spkR; rw [clamp_toNat, s1]
    by_cases h1 : 1 ≤ m
    · rw [if_pos (by omega), if_pos h1]; congr 1; omega
    · rw [if_neg (by omega), if_neg h1]
  unfold m_X11_standNow
  rw [em, spanG em hm, bd_some, em, spanG em hm, bd_some, em, speakG em hm, bd_some, em, a1, a2, a3, standC, bd_some]
