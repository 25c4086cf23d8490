/-! check -/
theorem shl_bv (k : Nat) (hk : k < 32) (c x : Int32) (hc : (c &&& 31).toBitVec = BitVec.ofNat 32 k) : (x <<< (c &&& 31)).toBitVec = x.toBitVec <<< k := by
  rw [Int32.toBitVec_shiftLeft, hc]
  have h1 : (BitVec.ofNat 32 k).smod 32 = BitVec.ofNat 32 k := by
    have : ∀ j : Fin 32, (BitVec.ofNat 32 j.val).smod 32 = BitVec.ofNat 32 j.val := by decide
    exact this ⟨k, hk⟩
  rw [h1, BitVec.shiftLeft_eq', BitVec.toNat_ofNat, Nat.mod_eq_of_lt (by omega)]
theorem word_eq (b0 b1 b2 b3 : Int32) : (((((0 : Int32) <<< ((8 : Int32) &&& 31) ||| b0) <<< ((8 : Int32) &&& 31) ||| b1) <<< ((8 : Int32) &&& 31) ||| b2) <<< ((8 : Int32) &&& 31) ||| b3) = (((b0 <<< ((24 : Int32) &&& 31)) ||| (b1 <<< ((16 : Int32) &&& 31))) ||| (b2 <<< ((8 : Int32) &&& 31))) ||| b3 := by
  apply Int32.toBitVec_inj.mp
  simp only [Int32.toBitVec_or, shl_bv 8 (by decide) 8 _ rfl, shl_bv 16 (by decide) 16 _ rfl, shl_bv 24 (by decide) 24 _ rfl, BitVec.shiftLeft_or_distrib, ← BitVec.shiftLeft_add]
  simp
theorem inb_nI {n N : Nat} (h : n < N) (hN : N < 2147483648) : inb (nI n) N := vp_in_nI h hN
theorem byteAtC {h : AHp} {m i : Nat} (hm : hI h 1 1 = nI m) (hm2 : m ≤ 220) (hi : i < m) : m_X8_byteAt (nI i) h = some (hI h 2 i, h) := by
  have e1 : (nI i).toInt = i := nI_toInt (by omega)
  have e2 : (nI m).toInt = m := nI_toInt (by omega)
  unfold m_X8_byteAt
  simp only [i32_lt, i32_le, tIall, hm, e1, e2]
  rw [if_neg (by omega), if_neg (by omega), if_neg (by omega), gd_pos (inb_iff.mpr (by rw [e1]; omega)), nI_clamp (by omega)]
theorem four_mul (k : Nat) : (4 : Int32) * nI k = nI (4 * k) := pk_mul 4 k
theorem numberAtC {h : AHp} {m k : Nat} (hm : hI h 1 1 = nI m) (hm2 : m ≤ 220) (hk : 4 * k + 4 ≤ m) : m_X8_numberAt (nI k) h = some ((((hI h 2 (4 * k) <<< ((24 : Int32) &&& 31)) ||| (hI h 2 (4 * k + 1) <<< ((16 : Int32) &&& 31))) ||| (hI h 2 (4 * k + 2) <<< ((8 : Int32) &&& 31))) ||| hI h 2 (4 * k + 3), h) := by
  unfold m_X8_numberAt
  rw [lt_eq, four_mul]
  simp only [show nI (4 * k) + 1 = nI (4 * k + 1) from nI_add _ 1, show nI (4 * k) + 2 = nI (4 * k + 2) from nI_add _ 2, show nI (4 * k) + 3 = nI (4 * k + 3) from nI_add _ 3, byteAtC hm hm2 (show 4 * k < m by omega), byteAtC hm hm2 (show 4 * k + 1 < m by omega), byteAtC hm hm2 (show 4 * k + 2 < m by omega), byteAtC hm hm2 (show 4 * k + 3 < m by omega), bd_some]
theorem numStep {h : AHp} {k j f : Nat} {v : Int32} (hk : 4 * k + 4 ≤ 220) (hj : j < 4) : m_X12_numberAt_4 (f + 1) (nI k) v (nI j) h = m_X12_numberAt_4 f (nI k) (v <<< ((8 : Int32) &&& 31) ||| (hI h 71 (4 * k + j) &&& 255)) (nI (j + 1)) h := by
  have e1 : (nI j).toInt = j := nI_toInt (by omega)
  have e2 : (nI (4 * k + j)).toInt = ((4 * k + j : Nat) : Int) := nI_toInt (by omega)
  rw [m_X12_numberAt_4, four_mul, nI_add, if_neg (by rw [i32_le, e1]; simp only [tIall]; omega), gd_pos (inb_iff.mpr (by rw [e2]; omega)), nI_clamp (by omega), lt_eq, lt_eq, nI_1]
theorem numberAtM {h : AHp} {k : Nat} (hk : 4 * k + 4 ≤ 220) : m_X12_numberAt (nI k) h = some (((((hI h 71 (4 * k) &&& 255) <<< ((24 : Int32) &&& 31)) ||| ((hI h 71 (4 * k + 1) &&& 255) <<< ((16 : Int32) &&& 31))) ||| ((hI h 71 (4 * k + 2) &&& 255) <<< ((8 : Int32) &&& 31))) ||| (hI h 71 (4 * k + 3) &&& 255), h) := by
  unfold m_X12_numberAt FU
  show m_X12_numberAt_4 20000 (nI k) 0 (nI 0) h = _
  rw [numStep hk (by omega), numStep hk (by omega), numStep hk (by omega), numStep hk (by omega), m_X12_numberAt_4, if_pos (by decide), ← word_eq]
  rfl
theorem spanAtC {h : AHp} {m i : Nat} (hm : hI h 42 3 = nI m) (hm2 : m ≤ 200) (hi : i < m) : m_X7_spanAt (nI i) h = some (hI h 45 i, h) := by
  have e1 : (nI i).toInt = i := nI_toInt (by omega)
  have e2 : (nI m).toInt = m := nI_toInt (by omega)
  unfold m_X7_spanAt m_X7_has
  simp only [i32_lt, i32_le, tIall, hm, e1, e2]
  rw [if_neg (by omega), if_neg (by omega), if_neg (by omega), bd_some, if_neg one_ne, gd_pos (inb_iff.mpr (by rw [e1]; omega)), nI_clamp (by omega)]
theorem nI_ne_m1 {k : Nat} (hk : k < 2147483648) : ¬ nI k = -1 := by
  rw [i32_eq, nI_toInt hk]; simp only [tIall]; omega
theorem check_l {h hm : AHp} {n m t : Nat} (h1 : hI h 1 1 = nI t) (h2 : t ≤ 220) (h3 : 4 * n ≤ t) (h4 : hI h 42 3 = nI m) (h5 : m ≤ 200) (h6 : n ≤ m) (g4 : hI hm 70 3 = nI m) (hb : ∀ i, i < t → hI h 2 i = hI hm 71 i &&& 255) (hw : ∀ i, i < m → hI hm 96 i = hI h 45 i) :
    ∀ (d k f g : Nat), k + d = n → d < f → d < g → ∃ r, m_X11_check_41 f (nI n) (-1) (nI k) h = some (r, sI h 1 1 0) ∧ m_X12_check_40 g (nI n) (nI k) hm = some (r, hm) := by
  intro d
  induction d with
  | zero =>
    intro k f g hk hf hg
    obtain ⟨f, rfl⟩ : ∃ a, f = a + 1 := ⟨f - 1, by omega⟩
    obtain ⟨g, rfl⟩ : ∃ a, g = a + 1 := ⟨g - 1, by omega⟩
    have hkn : nI n ≤ nI k := nI_le (by omega) (by omega)
    refine ⟨-1, ?_, ?_⟩
    · rw [m_X11_check_41, if_pos hkn]; rfl
    · rw [m_X12_check_40, if_pos hkn]
  | succ d ih =>
    intro k f g hk hf hg
    obtain ⟨f, rfl⟩ : ∃ a, f = a + 1 := ⟨f - 1, by omega⟩
    obtain ⟨g, rfl⟩ : ∃ a, g = a + 1 := ⟨g - 1, by omega⟩
    have hkn : ¬ nI n ≤ nI k := nI_ge (by omega) (by omega)
    have ei : nI m - nI n + nI k = nI (m - n + k) := by rw [pk_sub (by omega), nI_add]
    rw [m_X11_check_41, if_neg hkn, if_pos rfl, numberAtC h1 h2 (by omega), bd_some, h4, ei, spanAtC h4 h5 (by omega), bd_some]
    rw [m_X12_check_40, if_neg hkn, numberAtM (by omega), bd_some, g4, ei, gd_pos (inb_nI (n := m - n + k) (N := 200) (by omega) (by omega)), nI_clamp (n := m - n + k) (by omega), hw _ (by omega), ← hb _ (by omega), ← hb _ (by omega), ← hb _ (by omega), ← hb _ (by omega)]
    simp only [lt_eq, nI_1]
    split
    · exact ih (k + 1) f g (by omega) (by omega) (by omega)
    · refine ⟨nI k, ?_, rfl⟩
      obtain ⟨f, rfl⟩ : ∃ a, f = a + 1 := ⟨f - 1, by omega⟩
      rw [m_X11_check_41]
      split
      · rfl
      · rw [if_neg (nI_ne_m1 (by omega))]; rfl
theorem sim_check {h : AHp} (x : Int32) (hB : BI h) : SimB (fun k i => (k == 1 && i == 1) || (k == 70 && i == 1)) h (m_X11_check x) (m_X12_check x) := by
  obtain ⟨⟨t1, t2, t3, t4⟩, a2, a3, a4, a5, a6⟩ := id hB
  obtain ⟨t, et, et2, ht⟩ := nat_of t2
  obtain ⟨m, em, em2, hm⟩ := nat_of a4.2.1
  have hm200 : m ≤ 200 := by have := a4.2.2.1; omega
  have ht220 : t ≤ 220 := by omega
  have e4 : (hI h 1 1 / 4).toInt = ((t / 4 : Nat) : Int) := by
    rw [et]; show (nI t / nI 4).toInt = _
    rw [pk_div (by omega) (by omega) (by omega)]; exact nI_toInt (by omega)
  by_cases hx : 0 ≤ x.toInt ∧ x.toInt ≤ 20 ∧ x.toInt ≤ m ∧ 4 * x.toInt ≤ t
  · obtain ⟨n, en, en2, hn⟩ := nat_of hx.1
    have c : Ch (fun k i => (k == 1 && i == 1) || (k == 70 && i == 1)) h (sI (sI h 1 1 0) 70 1 0) := (Ch.rf.sI rfl).sI rfl
    obtain ⟨r, f1, f2⟩ := check_l (h := h) (hm := sI (sI h 1 1 0) 70 1 0) (n := n) (m := m) (t := t) et ht220 (by omega) em hm200 (by omega) (by rw [c.i rfl, a4.1, em]) (fun i hi => by rw [c.i rfl]; exact t4 i (by omega)) (fun i hi => by rw [c.i rfl]; exact (a4.2.2.2.2 i (by omega)).2.2.1) n 0 FU FU (by omega) (by unfold FU; omega) (by unfold FU; omega)
    refine ⟨r, sI h 1 1 0, sI (sI h 1 1 0) 70 1 0, ?_, ?_, ⟨?_, a2.ch c (fun _ => rfl) (fun _ => rfl), a3.ch c (fun _ => rfl) (fun _ => rfl), a4.ch c ⟨rfl, rfl, rfl⟩ (fun _ => rfl) (fun _ => rfl) (fun _ => rfl) (fun _ => rfl) (fun _ => rfl) (fun _ => rfl), a5.ch c ⟨rfl, rfl⟩, a6.ch c ⟨rfl, rfl, rfl, rfl, rfl, rfl, rfl⟩ (fun _ => ⟨rfl, rfl, rfl, rfl, rfl, rfl, rfl, rfl⟩)⟩, c⟩
    · unfold m_X11_check
      rw [en, four_mul, em, et]
      simp only [i32_lt, i32_le, tIall, nI_toInt (show n < 2 ^ 31 by omega), nI_toInt (show m < 2 ^ 31 by omega), nI_toInt (show t < 2 ^ 31 by omega), nI_toInt (show 4 * n < 2 ^ 31 by omega)]
      rw [if_neg (by omega), if_neg (by omega), if_neg (by omega), if_pos (by omega)]
      exact f1
    · unfold m_X12_check
      rw [liesI, bd_some, b2i_t (by show ((0 : Int) ≤ x.toInt ∧ x.toInt ≤ 20); omega), if_neg one_ne]
      have y1 : hI (sI h 1 1 0) 70 3 = hI h 42 3 := a4.1
      have y2 : hI (sI h 1 1 0) 70 1 = hI h 1 1 := t1
      rw [y1, y2, if_neg (by rw [i32_lt]; omega), if_pos (by rw [i32_le, e4]; omega), lt_eq, en]
      exact f2
    · refine ⟨rfl, ?_, ?_, fun i hi => ?_⟩
      · show (0 : Int) ≤ (0 : Int32).toInt; decide
      · show (0 : Int32).toInt ≤ 220; decide
      · exact absurd hi (by show ¬ (i : Int) < (0 : Int32).toInt; rw [show (0 : Int32).toInt = 0 from rfl]; omega)
  · refine SimB.same hB (-2) ?_ ?_
    · unfold m_X11_check
      have e4x : 0 ≤ x.toInt → x.toInt ≤ 20 → (4 * x).toInt = 4 * x.toInt := fun h0 h20 => by
        obtain ⟨n, en, en2, hn⟩ := nat_of h0
        rw [en, four_mul, nI_toInt (by omega), nI_toInt (by omega)]; omega
      simp only [i32_lt, i32_le, tIall]
      repeat' split
      all_goals first | rfl | (have := e4x (by omega) (by omega); omega)
    · unfold m_X12_check
      rw [liesI, bd_some]
      by_cases h20 : 0 ≤ x.toInt ∧ x.toInt ≤ 20
      · rw [b2i_t (by exact h20), if_neg one_ne, a4.1, t1]
        simp only [i32_lt, i32_le, e4]
        repeat' split
        all_goals first | rfl | omega
      · rw [b2i_f (by exact h20), if_pos rfl]
