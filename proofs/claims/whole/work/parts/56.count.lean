/-! count -/
theorem sub_toInt (x : Int32) (c : Nat) (hc : c ≤ 1000) : (x - nI c).toInt = if x.toInt - c < -2147483648 then x.toInt - c + 4294967296 else x.toInt - c := by
  have hb := i32_bd x
  rw [Int32.toInt_sub, nI_toInt (by omega)]
  simp only [Int.bmod]
  split <;> split <;> omega
theorem colourOfC (x : Int32) (h : AHp) : m_X9_colourOf x h = some (if 0 ≤ x.toInt ∧ x.toInt ≤ 5 then hI h 5 x.toNatClampNeg else 0, h) := by
  unfold m_X9_colourOf
  rw [isSpeakerC, bd_some]
  by_cases hx : 0 ≤ x.toInt ∧ x.toInt ≤ 5
  · rw [b2i_t hx, if_neg one_ne, gd_pos (inb_iff.mpr (by omega)), if_pos hx]
  · rw [b2i_f hx, if_pos rfl, if_neg hx]
theorem saidBy_l {h : AHp} {m : Nat} (x : Int32) (h4 : hI h 42 3 = nI m) (h5 : m ≤ 200) (g4 : hI h 70 3 = nI m) (hw : ∀ i, i < m → hI h 94 i = hI h 43 i) :
    ∀ (d k f g : Nat) (v : Int32), k + d = m → d < f → d < g → ∃ r, m_X7_saidBy_4 f x v (nI k) h = some (r, h) ∧ m_X12_saidBy_4 g x v (nI k) h = some (r, h) := by
  intro d
  induction d with
  | zero =>
    intro k f g v hk hf hg
    obtain ⟨f, rfl⟩ : ∃ a, f = a + 1 := ⟨f - 1, by omega⟩
    obtain ⟨g, rfl⟩ : ∃ a, g = a + 1 := ⟨g - 1, by omega⟩
    have hkn : nI m ≤ nI k := nI_le (by omega) (by omega)
    exact ⟨v, by rw [m_X7_saidBy_4, h4, if_pos hkn], by rw [m_X12_saidBy_4, g4, if_pos hkn]⟩
  | succ d ih =>
    intro k f g v hk hf hg
    obtain ⟨f, rfl⟩ : ∃ a, f = a + 1 := ⟨f - 1, by omega⟩
    obtain ⟨g, rfl⟩ : ∃ a, g = a + 1 := ⟨g - 1, by omega⟩
    have hkn : ¬ nI m ≤ nI k := nI_ge (by omega) (by omega)
    have hk2 : ¬ (200 : Int32) ≤ nI k := nI_ge (a := k) (b := 200) (by omega) (by omega)
    have gk : inb (nI k) 200 := inb_nI (by omega) (by omega)
    rw [m_X7_saidBy_4, m_X12_saidBy_4, h4, g4, if_neg hkn, if_neg hkn, if_neg hk2, gd_pos gk, gd_pos gk, nI_clamp (by omega), hw k (by omega)]
    simp only [lt_eq, nI_1]
    split
    · exact ih (k + 1) f g _ (by omega) (by omega) (by omega)
    · exact ih (k + 1) f g _ (by omega) (by omega) (by omega)
theorem words_l {h : AHp} {m : Nat} (h5 : m ≤ 200) (g4 : hI h 70 3 = nI m) : ∀ (d k f : Nat), k + d = m → d < f → m_X12_allWords_4 f (sumW (hI h 96) k) (nI k) h = some (sumW (hI h 96) m, h) := by
  intro d
  induction d with
  | zero =>
    intro k f hk hf
    obtain ⟨f, rfl⟩ : ∃ a, f = a + 1 := ⟨f - 1, by omega⟩
    have hkm : k = m := by omega
    subst hkm
    rw [m_X12_allWords_4, g4, if_pos (nI_le (Nat.le_refl _) (by omega))]
  | succ d ih =>
    intro k f hk hf
    obtain ⟨f, rfl⟩ : ∃ a, f = a + 1 := ⟨f - 1, by omega⟩
    rw [m_X12_allWords_4, g4, if_neg (nI_ge (by omega) (by omega)), gd_pos (inb_nI (n := k) (N := 200) (by omega) (by omega)), nI_clamp (by omega), lt_eq, lt_eq, nI_1]
    exact ih (k + 1) f (by omega) (by omega)
theorem things_l {h : AHp} (hs : ∀ i, i < 12 → hI h 72 i = hI h 4 i) : ∀ (d k f g : Nat) (v : Int32), k + d = 12 → d < f → d < g → ∃ r, m_X9_sayable_4 f v (nI k) h = some (r, h) ∧ m_X12_thingsThere_4 g v (nI k) h = some (r, h) := by
  intro d
  induction d with
  | zero =>
    intro k f g v hk hf hg
    obtain ⟨f, rfl⟩ : ∃ a, f = a + 1 := ⟨f - 1, by omega⟩
    obtain ⟨g, rfl⟩ : ∃ a, g = a + 1 := ⟨g - 1, by omega⟩
    have hkm : k = 12 := by omega
    subst hkm
    exact ⟨v, by rw [m_X9_sayable_4, if_pos (by decide)], by rw [m_X12_thingsThere_4, if_pos (by decide)]⟩
  | succ d ih =>
    intro k f g v hk hf hg
    obtain ⟨f, rfl⟩ : ∃ a, f = a + 1 := ⟨f - 1, by omega⟩
    obtain ⟨g, rfl⟩ : ∃ a, g = a + 1 := ⟨g - 1, by omega⟩
    have hkn : ¬ (12 : Int32) ≤ nI k := nI_ge (a := k) (b := 12) (by omega) (by omega)
    have gk : inb (nI k) 12 := inb_nI (by omega) (by omega)
    rw [m_X9_sayable_4, m_X12_thingsThere_4, if_neg hkn, if_neg hkn, gd_pos gk, gd_pos gk, nI_clamp (by omega), hs k (by omega)]
    simp only [lt_eq, nI_1]
    split
    · exact ih (k + 1) f g _ (by omega) (by omega) (by omega)
    · exact ih (k + 1) f g _ (by omega) (by omega) (by omega)
section TALK
variable {h : AHp} {m : Nat}
theorem hasG (h4 : hI h 42 3 = nI m) (h5 : m ≤ 200) (x : Int32) : m_X7_has x h = some (b2i (0 ≤ x.toInt ∧ x.toInt < m), h) := by
  unfold m_X7_has b2i
  simp only [i32_lt, i32_le, tIall, h4, nI_toInt (show m < 2 ^ 31 by omega)]
  repeat' split
  all_goals first | rfl | omega
theorem spanG (h4 : hI h 42 3 = nI m) (h5 : m ≤ 200) (x : Int32) : m_X7_spanAt x h = some (if 0 ≤ x.toInt ∧ x.toInt < m then hI h 45 x.toNatClampNeg else 0, h) := by
  unfold m_X7_spanAt
  rw [hasG h4 h5, bd_some]
  by_cases hx : 0 ≤ x.toInt ∧ x.toInt < m
  · rw [b2i_t hx, if_neg one_ne, gd_pos (inb_iff.mpr (by omega)), if_pos hx]
  · rw [b2i_f hx, if_pos rfl, if_neg hx]
theorem speakG (h4 : hI h 42 3 = nI m) (h5 : m ≤ 200) (x : Int32) : m_X7_speakerAt x h = some (if 0 ≤ x.toInt ∧ x.toInt < m then hI h 43 x.toNatClampNeg else -1, h) := by
  unfold m_X7_speakerAt
  rw [hasG h4 h5, bd_some]
  by_cases hx : 0 ≤ x.toInt ∧ x.toInt < m
  · rw [b2i_t hx, if_neg one_ne, gd_pos (inb_iff.mpr (by omega)), if_pos hx]
  · rw [b2i_f hx, if_pos rfl, if_neg hx]
theorem thingG (h4 : hI h 42 3 = nI m) (h5 : m ≤ 200) (x : Int32) : m_X7_thingAt x h = some (if 0 ≤ x.toInt ∧ x.toInt < m then hI h 44 x.toNatClampNeg else -1, h) := by
  unfold m_X7_thingAt
  rw [hasG h4 h5, bd_some]
  by_cases hx : 0 ≤ x.toInt ∧ x.toInt < m
  · rw [b2i_t hx, if_neg one_ne, gd_pos (inb_iff.mpr (by omega)), if_pos hx]
  · rw [b2i_f hx, if_pos rfl, if_neg hx]
theorem lengthG (x : Int32) (hx : x.toInt < 200) : m_X12_lengthAt x h = some (if 0 ≤ x.toInt then hI h 96 x.toNatClampNeg else 0, h) := by
  unfold m_X12_lengthAt
  simp only [i32_le, tIall]
  split
  · rw [gd_pos (inb_iff.mpr (by omega))]
  · rfl
end TALK
def LCn (h : AHp) : Prop := (isLaw (hM h 3 3) ∧ hI h (hM h 3 3) 9 = hI h 77 0) ∧ (isLaw (hM h 3 4) ∧ hI h (hM h 3 4) 9 = hI h 77 1)
theorem sim_count {h : AHp} (x : Int32) (hB : BI h) (hL : LCn h) : SimB (fun _ _ => false) h (m_X11_count x) (m_X12_count x) := by
  obtain ⟨a1, a2, a3, a4, a5, a6⟩ := id hB
  obtain ⟨m, em, em2, hm⟩ := nat_of a4.2.1
  have hm200 : m ≤ 200 := by have := a4.2.2.1; omega
  have em3 : hI h 70 3 = nI m := by rw [a4.1, em]
  have hb := i32_bd x
  have s10 : (x - 10).toInt = if x.toInt - 10 < -2147483648 then x.toInt - 10 + 4294967296 else x.toInt - 10 := sub_toInt x 10 (by omega)
  have s20 : (x - 20).toInt = if x.toInt - 20 < -2147483648 then x.toInt - 20 + 4294967296 else x.toInt - 20 := sub_toInt x 20 (by omega)
  by_cases h10 : 10 ≤ x.toInt ∧ x.toInt ≤ 15
  · have hs : 0 ≤ (x - 10).toInt ∧ (x - 10).toInt ≤ 5 := by rw [s10]; split <;> omega
    refine SimB.same hB (hI h 5 (x - 10).toNatClampNeg) ?_ ?_
    · unfold m_X11_count
      simp only [i32_lt, i32_le, tIall]
      rw [if_neg (by omega), if_neg (by omega), colourOfC, if_pos hs]; rfl
    · unfold m_X12_count
      rw [isSpeakerM, bd_some, b2i_t hs, if_neg one_ne, gd_pos (inb_iff.mpr (by omega)), (a3 _ (clamp_lt hs.1 (by omega))).1]
  have hs10 : ¬ (0 ≤ (x - 10).toInt ∧ (x - 10).toInt ≤ 5) := by rw [s10]; split <;> omega
  have ec : m_X11_count x h = m_X11_count_24 x h := by
    unfold m_X11_count
    simp only [i32_lt, i32_le, tIall]
    repeat' split
    all_goals first | rfl | omega
  by_cases h20 : 20 ≤ x.toInt ∧ x.toInt ≤ 25
  · have hs : 0 ≤ (x - 20).toInt ∧ (x - 20).toInt ≤ 5 := by rw [s20]; split <;> omega
    obtain ⟨r, f1, f2⟩ := saidBy_l (h := h) (x - 20) em hm200 em3 (fun i hi => (a4.2.2.2.2 i (by omega)).1.1) m 0 FU FU 0 (by omega) (by unfold FU; omega) (by unfold FU; omega)
    refine SimB.same hB r ?_ ?_
    · rw [ec]; unfold m_X11_count_24
      simp only [i32_lt, i32_le, tIall]
      rw [if_neg (by omega), if_neg (by omega)]
      unfold m_X7_saidBy
      rw [show m_X7_saidBy_4 FU (x - 20) 0 0 h = some (r, h) from f1]; rfl
    · unfold m_X12_count
      rw [isSpeakerM, bd_some, b2i_f hs10, if_pos rfl, isSpeakerM, bd_some, b2i_t hs, if_neg one_ne]
      unfold m_X12_saidBy
      rw [show m_X12_saidBy_4 FU (x - 20) 0 0 h = some (r, h) from f2]; rfl
  have hs20 : ¬ (0 ≤ (x - 20).toInt ∧ (x - 20).toInt ≤ 5) := by rw [s20]; split <;> omega
  have ec2 : m_X11_count x h = m_X11_count_48 x h := by
    rw [ec]; unfold m_X11_count_24
    simp only [i32_lt, i32_le, tIall]
    repeat' split
    all_goals first | rfl | omega
  have sm1 : (nI m - 1).toInt = (m : Int) - 1 := by
    have := sub_toInt (nI m) 1 (by omega)
    rw [nI_toInt (by omega), if_neg (by omega)] at this; exact this
  have sm2 : (nI m - 2).toInt = (m : Int) - 2 := by
    have := sub_toInt (nI m) 2 (by omega)
    rw [nI_toInt (by omega), if_neg (by omega)] at this; exact this
  have ew : ∀ i : Nat, i < m → hI h 96 i = hI h 45 i := fun i hi => (a4.2.2.2.2 i (by omega)).2.2.1
  obtain ⟨r6, f61, f62⟩ := things_l (h := h) (fun i hi => (a2 i hi).1) 12 0 FU FU 0 (by omega) (by unfold FU; omega) (by unfold FU; omega)
  have f7 := words_l hm200 em3 m 0 FU (by omega) (by unfold FU; omega)
  by_cases c0 : x = 0
  · refine SimB.same hB (hI h 42 3) ?_ ?_
    · rw [ec2]; unfold m_X11_count_48; rw [if_pos c0]
    · unfold m_X12_count; rw [isSpeakerM, bd_some, b2i_f hs10, if_pos rfl, isSpeakerM, bd_some, b2i_f hs20, if_pos rfl, if_pos c0]; rw [a4.1]
  by_cases c1 : x = 1
  · refine SimB.same hB (hI h 42 4) ?_ ?_
    · rw [ec2]; unfold m_X11_count_48; rw [if_neg c0, if_pos c1]
    · unfold m_X12_count; rw [isSpeakerM, bd_some, b2i_f hs10, if_pos rfl, isSpeakerM, bd_some, b2i_f hs20, if_pos rfl, if_neg c0, if_pos c1]
      unfold m_X12_allWords
      rw [show m_X12_allWords_4 FU 0 0 h = some (sumW (hI h 96) m, h) from f7, bd_some, a4.2.2.2.1, em, nI_clamp (by omega), sumW_congr ew]
  by_cases c2 : x = 2
  · refine SimB.same hB (hI h (hM h 3 3) 9) ?_ ?_
    · rw [ec2]; unfold m_X11_count_48; rw [if_neg c0, if_neg c1, if_pos c2]; rw [gd_pos hL.1.1]
    · unfold m_X12_count; rw [isSpeakerM, bd_some, b2i_f hs10, if_pos rfl, isSpeakerM, bd_some, b2i_f hs20, if_pos rfl, if_neg c0, if_neg c1, if_pos c2]; exact congrArg (fun z => some (z, h)) hL.1.2.symm
  by_cases c3 : x = 3
  · refine SimB.same hB (hI h (hM h 3 4) 9) ?_ ?_
    · rw [ec2]; unfold m_X11_count_48; rw [if_neg c0, if_neg c1, if_neg c2, if_pos c3]; rw [gd_pos hL.2.1]
    · unfold m_X12_count; rw [isSpeakerM, bd_some, b2i_f hs10, if_pos rfl, isSpeakerM, bd_some, b2i_f hs20, if_pos rfl, if_neg c0, if_neg c1, if_neg c2, if_pos c3]; exact congrArg (fun z => some (z, h)) hL.2.2.symm
  by_cases c4 : x = 4
  · refine SimB.same hB (hI h 1 1) ?_ ?_
    · rw [ec2]; unfold m_X11_count_48; rw [if_neg c0, if_neg c1, if_neg c2, if_neg c3, if_pos c4]
    · unfold m_X12_count; rw [isSpeakerM, bd_some, b2i_f hs10, if_pos rfl, isSpeakerM, bd_some, b2i_f hs20, if_pos rfl, if_neg c0, if_neg c1, if_neg c2, if_neg c3, if_pos c4]; rw [a1.1]
  by_cases c5 : x = 5
  · refine SimB.same hB (hI h 0 11) ?_ ?_
    · rw [ec2]; unfold m_X11_count_48; rw [if_neg c0, if_neg c1, if_neg c2, if_neg c3, if_neg c4, if_pos c5]
    · unfold m_X12_count; rw [isSpeakerM, bd_some, b2i_f hs10, if_pos rfl, isSpeakerM, bd_some, b2i_f hs20, if_pos rfl, if_neg c0, if_neg c1, if_neg c2, if_neg c3, if_neg c4, if_pos c5]; rw [a5.1]
  by_cases c6 : x = 6
  · refine SimB.same hB (r6) ?_ ?_
    · rw [ec2]; unfold m_X11_count_48; rw [if_neg c0, if_neg c1, if_neg c2, if_neg c3, if_neg c4, if_neg c5, if_pos c6]; unfold m_X9_sayable; rw [show m_X9_sayable_4 FU 0 0 h = some (r6, h) from f61]; rfl
    · unfold m_X12_count; rw [isSpeakerM, bd_some, b2i_f hs10, if_pos rfl, isSpeakerM, bd_some, b2i_f hs20, if_pos rfl, if_neg c0, if_neg c1, if_neg c2, if_neg c3, if_neg c4, if_neg c5, if_pos c6]; unfold m_X12_thingsThere; rw [show m_X12_thingsThere_4 FU 0 0 h = some (r6, h) from f62]; rfl
  by_cases c7 : x = 7
  · refine SimB.same hB ((if 0 ≤ (nI m - 1).toInt ∧ (nI m - 1).toInt < m then hI h 45 (nI m - 1).toNatClampNeg else 0)) ?_ ?_
    · rw [ec2]; unfold m_X11_count_48; rw [if_neg c0, if_neg c1, if_neg c2, if_neg c3, if_neg c4, if_neg c5, if_neg c6, if_pos c7]; rw [em, spanG em hm200]; rfl
    · unfold m_X12_count; rw [isSpeakerM, bd_some, b2i_f hs10, if_pos rfl, isSpeakerM, bd_some, b2i_f hs20, if_pos rfl, if_neg c0, if_neg c1, if_neg c2, if_neg c3, if_neg c4, if_neg c5, if_neg c6, if_pos c7]
      rw [em3, lengthG _ (by rw [sm1]; omega), bd_some]
      by_cases hq : 0 ≤ (nI m - 1).toInt
      · rw [if_pos hq, if_pos ⟨hq, by rw [sm1]; omega⟩, ew _ (by rw [clamp_toNat, sm1]; rw [sm1] at hq; omega)]
      · rw [if_neg hq, if_neg (by omega)]
  by_cases c8 : x = 8
  · refine SimB.same hB ((if 0 ≤ (nI m - 2).toInt ∧ (nI m - 2).toInt < m then hI h 45 (nI m - 2).toNatClampNeg else 0)) ?_ ?_
    · rw [ec2]; unfold m_X11_count_48; rw [if_neg c0, if_neg c1, if_neg c2, if_neg c3, if_neg c4, if_neg c5, if_neg c6, if_neg c7, if_pos c8]; rw [em, spanG em hm200]; rfl
    · unfold m_X12_count; rw [isSpeakerM, bd_some, b2i_f hs10, if_pos rfl, isSpeakerM, bd_some, b2i_f hs20, if_pos rfl, if_neg c0, if_neg c1, if_neg c2, if_neg c3, if_neg c4, if_neg c5, if_neg c6, if_neg c7, if_pos c8]
      rw [em3, lengthG _ (by rw [sm2]; omega), bd_some]
      by_cases hq : 0 ≤ (nI m - 2).toInt
      · rw [if_pos hq, if_pos ⟨hq, by rw [sm2]; omega⟩, ew _ (by rw [clamp_toNat, sm2]; rw [sm2] at hq; omega)]
      · rw [if_neg hq, if_neg (by omega)]
  refine SimB.same hB (-1) ?_ ?_
  · rw [ec2]; unfold m_X11_count_48; rw [if_neg c0, if_neg c1, if_neg c2, if_neg c3, if_neg c4, if_neg c5, if_neg c6, if_neg c7, if_neg c8]
  · unfold m_X12_count; rw [isSpeakerM, bd_some, b2i_f hs10, if_pos rfl, isSpeakerM, bd_some, b2i_f hs20, if_pos rfl, if_neg c0, if_neg c1, if_neg c2, if_neg c3, if_neg c4, if_neg c5, if_neg c6, if_neg c7, if_neg c8]
