/-! THE LAW'S LOOP over what each pair of calls does -/
def Sim {r : Type} (I : AHp → Prop) (h : AHp) (c m : AHp → Option (r × AHp)) : Prop := ∃ (x : r) (h1 h2 : AHp), c h = some (x, h1) ∧ m h1 = some (x, h2) ∧ I h2
def Sims (I2 : AHp → Prop) (h : AHp) : Prop :=
  (∀ (a1 a2 a3 a4 a5 : Int32), Sim I2 h (m_X11_feed a1 a2 a3 a4 a5) (m_X12_feed a1 a2 a3 a4 a5)) ∧
  (∀ (a1 a2 : Int32), Sim I2 h (m_X11_thing a1 a2) (m_X12_thing a1 a2)) ∧
  (∀ (a1 : Int32), Sim I2 h (m_X11_lengths a1) (m_X12_lengths a1)) ∧
  (∀ (a1 a2 : Int32), Sim I2 h (m_X11_colour a1 a2) (m_X12_colour a1 a2)) ∧
  (∀ (a1 a2 : Int32), Sim I2 h (m_X11_law a1 a2) (m_X12_law a1 a2)) ∧
  (∀ (a1 a2 a3 a4 : Int32), Sim I2 h (m_X11_may a1 a2 a3 a4) (m_X12_may a1 a2 a3 a4)) ∧
  (∀ (a1 a2 a3 : Int32), Sim I2 h (m_X11_ways a1 a2 a3) (m_X12_ways a1 a2 a3)) ∧
  (∀ (a1 a2 a3 : Int32), Sim I2 h (m_X11_say a1 a2 a3) (m_X12_say a1 a2 a3)) ∧
  (∀ (a1 a2 : Int32), Sim I2 h (m_X11_said a1 a2) (m_X12_said a1 a2)) ∧
  (∀ (a1 : Int32), Sim I2 h (m_X11_paid a1) (m_X12_paid a1)) ∧
  (∀ (a1 a2 : Int32), Sim I2 h (m_X11_judged a1 a2) (m_X12_judged a1 a2)) ∧
  (∀ (a1 a2 a3 : Int32), Sim I2 h (m_X11_held a1 a2 a3) (m_X12_held a1 a2 a3)) ∧
  (∀ (a1 a2 a3 : Int32), Sim I2 h (m_X11_coded a1 a2 a3) (m_X12_coded a1 a2 a3)) ∧
  (∀ (a1 a2 : Int32), Sim I2 h (m_X11_heard a1 a2) (m_X12_heard a1 a2)) ∧
  (∀ (a1 a2 a3 : Int32), Sim I2 h (m_X11_anyTalk a1 a2 a3) (m_X12_anyTalk a1 a2 a3)) ∧
  (∀ (a1 a2 a3 a4 a5 a6 : Int32), Sim I2 h (m_X11_silenced a1 a2 a3 a4 a5 a6) (m_X12_silenced a1 a2 a3 a4 a5 a6)) ∧
  (∀ (a1 a2 : Int32), Sim I2 h (m_X11_waited a1 a2) (m_X12_waited a1 a2)) ∧
  (∀ (a1 a2 : Int32), Sim I2 h (m_X11_round a1 a2) (m_X12_round a1 a2)) ∧
  (∀ (a1 : Int32), Sim I2 h (m_X11_seed a1) (m_X12_seed a1)) ∧
  (∀ (a1 : Int32), Sim I2 h (m_X11_draw a1) (m_X12_draw a1)) ∧
  (Sim I2 h (m_X11_keep) (m_X12_keep)) ∧
  (Sim I2 h (m_X11_undo) (m_X12_undo)) ∧
  (∀ (a1 : Int32), Sim I2 h (m_X11_check a1) (m_X12_check a1)) ∧
  (∀ (a1 : Int32), Sim I2 h (m_X11_count a1) (m_X12_count a1))
theorem lg_cmp_self (x : Int64) : lg_cmp x x = 0 := by
  unfold lg_cmp
  rw [if_neg (by simp), if_pos rfl]
theorem ofNat_toInt {n : Nat} (h : n < 2147483648) : (Int32.ofNat n).toInt = n := nI_toInt h
theorem nI_addk {a k : Nat} (h : a + k < 2147483648) : nI a + nI k = nI (a + k) := nI_add a k
theorem nI_plus_toInt {a k : Nat} (h : a + k < 2147483648) : (nI a + nI k).toInt = ((a + k : Nat) : Int) := by
  rw [nI_add]; exact nI_toInt h
theorem inb_plus {a k L : Nat} (hL : L < 2147483648) (h : a + k < L) : inb (nI a + nI k) L := by
  rw [inb_iff, nI_plus_toInt (by omega)]; omega
set_option maxHeartbeats 4000000 in
set_option maxRecDepth 100000 in
theorem loop_pure (I : Nat → AHp → Prop) (hidle : ∀ n h, I n h → n < 512 → I (n + 1) h) (hs : ∀ n h, I n h → n < 512 → Sims (I (n + 1)) h) (L : Nat) (xs : Nat → Int32) (hL : L ≤ 3584) : ∀ (f n : Nat) (h : AHp), I n h → 514 ≤ n + f → 7 * n ≤ 3584 + 7 → ∃ h1 : AHp, m_L_law_18 L xs f (nI (7 * n)) h = some (1, h1) := by
  intro f
  induction f with
  | zero => intro n h _ h1 h2; omega
  | succ f ih =>
    intro n h hI0 hf hn
    rw [m_L_law_18]
    have eL : (Int32.ofNat L - 7).toInt = (L : Int) - 7 := by
      rw [Int32.toInt_sub, ofNat_toInt (by omega), show (7 : Int32).toInt = 7 from rfl]
      simp [Int.bmod]; omega
    have e0 : (nI (7 * n)).toInt = ((7 * n : Nat) : Int) := nI_toInt (by omega)
    by_cases hlt : (Int32.ofNat L - 7) < nI (7 * n)
    · rw [if_pos hlt]; exact ⟨h, rfl⟩
    rw [if_neg hlt]
    rw [i32_lt, eL, e0] at hlt
    have g0 : inb (nI (7 * n)) L := by rw [inb_iff, e0]; omega
    have g1 : inb ((nI (7 * n)) + 1) L := inb_plus (k := 1) (by omega) (by omega)
    have g2 : inb ((nI (7 * n)) + 2) L := inb_plus (k := 2) (by omega) (by omega)
    have g3 : inb ((nI (7 * n)) + 3) L := inb_plus (k := 3) (by omega) (by omega)
    have g4 : inb ((nI (7 * n)) + 4) L := inb_plus (k := 4) (by omega) (by omega)
    have g5 : inb ((nI (7 * n)) + 5) L := inb_plus (k := 5) (by omega) (by omega)
    have g6 : inb ((nI (7 * n)) + 6) L := inb_plus (k := 6) (by omega) (by omega)
    have e7 : nI (7 * n) + 7 = nI (7 * (n + 1)) := by
      show nI (7 * n) + nI 7 = _
      rw [nI_add]; congr 1
    rw [gd_pos g0]
    obtain ⟨S0, S1, S2, S3, S4, S5, S6, S7, S8, S9, S10, S11, S12, S13, S14, S15, S16, S17, S18, S19, S20, S21, S22, S23⟩ := hs n h hI0 (by omega)
    by_cases c0 : ((xs (nI (7 * n)).toNatClampNeg) &&& 31) = 0
    · rw [if_pos c0]
      obtain ⟨x, h1, h2, e1, e2, hI2⟩ := S0 (xs ((nI (7 * n)) + 1).toNatClampNeg) (xs ((nI (7 * n)) + 2).toNatClampNeg) (xs ((nI (7 * n)) + 3).toNatClampNeg) (xs ((nI (7 * n)) + 4).toNatClampNeg) (xs ((nI (7 * n)) + 5).toNatClampNeg)
      simp only [gd_pos g1, gd_pos g2, gd_pos g3, gd_pos g4, gd_pos g5, e1, e2, bd_some, lt_eq, if_true]
      rw [e7]; exact ih (n + 1) h2 hI2 (by omega) (by omega)
    rw [if_neg c0]
    by_cases c1 : ((xs (nI (7 * n)).toNatClampNeg) &&& 31) = 1
    · rw [if_pos c1]
      obtain ⟨x, h1, h2, e1, e2, hI2⟩ := S1 (xs ((nI (7 * n)) + 1).toNatClampNeg) (xs ((nI (7 * n)) + 2).toNatClampNeg)
      simp only [gd_pos g1, gd_pos g2, e1, e2, bd_some, lt_eq, if_true]
      rw [e7]; exact ih (n + 1) h2 hI2 (by omega) (by omega)
    rw [if_neg c1]
    by_cases c2 : ((xs (nI (7 * n)).toNatClampNeg) &&& 31) = 2
    · rw [if_pos c2]
      obtain ⟨x, h1, h2, e1, e2, hI2⟩ := S2 (xs ((nI (7 * n)) + 1).toNatClampNeg)
      simp only [gd_pos g1, e1, e2, bd_some, lt_eq, if_true]
      rw [e7]; exact ih (n + 1) h2 hI2 (by omega) (by omega)
    rw [if_neg c2]
    by_cases c3 : ((xs (nI (7 * n)).toNatClampNeg) &&& 31) = 3
    · rw [if_pos c3]
      obtain ⟨x, h1, h2, e1, e2, hI2⟩ := S3 (xs ((nI (7 * n)) + 1).toNatClampNeg) (xs ((nI (7 * n)) + 2).toNatClampNeg)
      simp only [gd_pos g1, gd_pos g2, e1, e2, bd_some, lt_eq, if_true]
      rw [e7]; exact ih (n + 1) h2 hI2 (by omega) (by omega)
    rw [if_neg c3]
    by_cases c4 : ((xs (nI (7 * n)).toNatClampNeg) &&& 31) = 4
    · rw [if_pos c4]
      obtain ⟨x, h1, h2, e1, e2, hI2⟩ := S4 (xs ((nI (7 * n)) + 1).toNatClampNeg) (xs ((nI (7 * n)) + 2).toNatClampNeg)
      simp only [gd_pos g1, gd_pos g2, e1, e2, bd_some, lt_eq, if_true]
      rw [e7]; exact ih (n + 1) h2 hI2 (by omega) (by omega)
    rw [if_neg c4]
    by_cases c5 : ((xs (nI (7 * n)).toNatClampNeg) &&& 31) = 5
    · rw [if_pos c5]
      obtain ⟨x, h1, h2, e1, e2, hI2⟩ := S5 (xs ((nI (7 * n)) + 1).toNatClampNeg) (xs ((nI (7 * n)) + 2).toNatClampNeg) (xs ((nI (7 * n)) + 3).toNatClampNeg) (xs ((nI (7 * n)) + 4).toNatClampNeg)
      simp only [gd_pos g1, gd_pos g2, gd_pos g3, gd_pos g4, e1, e2, bd_some, lt_eq, if_true]
      rw [e7]; exact ih (n + 1) h2 hI2 (by omega) (by omega)
    rw [if_neg c5]
    by_cases c6 : ((xs (nI (7 * n)).toNatClampNeg) &&& 31) = 6
    · rw [if_pos c6]
      obtain ⟨x, h1, h2, e1, e2, hI2⟩ := S6 (xs ((nI (7 * n)) + 1).toNatClampNeg) (xs ((nI (7 * n)) + 2).toNatClampNeg) (xs ((nI (7 * n)) + 3).toNatClampNeg)
      simp only [gd_pos g1, gd_pos g2, gd_pos g3, e1, e2, bd_some, lt_eq, if_true]
      rw [e7]; exact ih (n + 1) h2 hI2 (by omega) (by omega)
    rw [if_neg c6]
    by_cases c7 : ((xs (nI (7 * n)).toNatClampNeg) &&& 31) = 7
    · rw [if_pos c7]
      obtain ⟨x, h1, h2, e1, e2, hI2⟩ := S7 (xs ((nI (7 * n)) + 1).toNatClampNeg) (xs ((nI (7 * n)) + 2).toNatClampNeg) (xs ((nI (7 * n)) + 3).toNatClampNeg)
      simp only [gd_pos g1, gd_pos g2, gd_pos g3, e1, e2, bd_some, lt_eq, if_true]
      rw [e7]; exact ih (n + 1) h2 hI2 (by omega) (by omega)
    rw [if_neg c7]
    by_cases c8 : ((xs (nI (7 * n)).toNatClampNeg) &&& 31) = 8
    · rw [if_pos c8]
      obtain ⟨x, h1, h2, e1, e2, hI2⟩ := S8 (xs ((nI (7 * n)) + 1).toNatClampNeg) (xs ((nI (7 * n)) + 2).toNatClampNeg)
      simp only [gd_pos g1, gd_pos g2, e1, e2, bd_some, lt_eq, if_true]
      rw [e7]; exact ih (n + 1) h2 hI2 (by omega) (by omega)
    rw [if_neg c8]
    by_cases c9 : ((xs (nI (7 * n)).toNatClampNeg) &&& 31) = 9
    · rw [if_pos c9]
      obtain ⟨x, h1, h2, e1, e2, hI2⟩ := S9 (xs ((nI (7 * n)) + 1).toNatClampNeg)
      simp only [gd_pos g1, e1, e2, bd_some, lt_eq, if_true]
      rw [e7]; exact ih (n + 1) h2 hI2 (by omega) (by omega)
    rw [if_neg c9]
    by_cases c10 : ((xs (nI (7 * n)).toNatClampNeg) &&& 31) = 10
    · rw [if_pos c10]
      obtain ⟨x, h1, h2, e1, e2, hI2⟩ := S10 (xs ((nI (7 * n)) + 1).toNatClampNeg) (xs ((nI (7 * n)) + 2).toNatClampNeg)
      simp only [gd_pos g1, gd_pos g2, e1, e2, bd_some, lt_eq, if_true]
      rw [e7]; exact ih (n + 1) h2 hI2 (by omega) (by omega)
    rw [if_neg c10]
    by_cases c11 : ((xs (nI (7 * n)).toNatClampNeg) &&& 31) = 11
    · rw [if_pos c11]
      obtain ⟨x, h1, h2, e1, e2, hI2⟩ := S11 (xs ((nI (7 * n)) + 1).toNatClampNeg) (xs ((nI (7 * n)) + 2).toNatClampNeg) (xs ((nI (7 * n)) + 3).toNatClampNeg)
      simp only [gd_pos g1, gd_pos g2, gd_pos g3, e1, e2, bd_some, lt_eq, if_true]
      rw [e7]; exact ih (n + 1) h2 hI2 (by omega) (by omega)
    rw [if_neg c11]
    by_cases c12 : ((xs (nI (7 * n)).toNatClampNeg) &&& 31) = 12
    · rw [if_pos c12]
      obtain ⟨x, h1, h2, e1, e2, hI2⟩ := S12 (xs ((nI (7 * n)) + 1).toNatClampNeg) (xs ((nI (7 * n)) + 2).toNatClampNeg) (xs ((nI (7 * n)) + 3).toNatClampNeg)
      simp only [gd_pos g1, gd_pos g2, gd_pos g3, e1, e2, bd_some, lt_eq, if_true]
      rw [e7]; exact ih (n + 1) h2 hI2 (by omega) (by omega)
    rw [if_neg c12]
    by_cases c13 : ((xs (nI (7 * n)).toNatClampNeg) &&& 31) = 13
    · rw [if_pos c13]
      obtain ⟨x, h1, h2, e1, e2, hI2⟩ := S13 (xs ((nI (7 * n)) + 1).toNatClampNeg) (xs ((nI (7 * n)) + 2).toNatClampNeg)
      simp only [gd_pos g1, gd_pos g2, e1, e2, bd_some, lt_eq, lg_cmp_self, if_true]
      rw [e7]; exact ih (n + 1) h2 hI2 (by omega) (by omega)
    rw [if_neg c13]
    by_cases c14 : ((xs (nI (7 * n)).toNatClampNeg) &&& 31) = 14
    · rw [if_pos c14]
      obtain ⟨x, h1, h2, e1, e2, hI2⟩ := S14 (xs ((nI (7 * n)) + 1).toNatClampNeg) (xs ((nI (7 * n)) + 2).toNatClampNeg) (xs ((nI (7 * n)) + 3).toNatClampNeg)
      simp only [gd_pos g1, gd_pos g2, gd_pos g3, e1, e2, bd_some, lt_eq, if_true]
      rw [e7]; exact ih (n + 1) h2 hI2 (by omega) (by omega)
    rw [if_neg c14]
    by_cases c15 : ((xs (nI (7 * n)).toNatClampNeg) &&& 31) = 15
    · rw [if_pos c15]
      obtain ⟨x, h1, h2, e1, e2, hI2⟩ := S15 (xs ((nI (7 * n)) + 1).toNatClampNeg) (xs ((nI (7 * n)) + 2).toNatClampNeg) (xs ((nI (7 * n)) + 3).toNatClampNeg) (xs ((nI (7 * n)) + 4).toNatClampNeg) (xs ((nI (7 * n)) + 5).toNatClampNeg) (xs ((nI (7 * n)) + 6).toNatClampNeg)
      simp only [gd_pos g1, gd_pos g2, gd_pos g3, gd_pos g4, gd_pos g5, gd_pos g6, e1, e2, bd_some, lt_eq, if_true]
      rw [e7]; exact ih (n + 1) h2 hI2 (by omega) (by omega)
    rw [if_neg c15]
    by_cases c16 : ((xs (nI (7 * n)).toNatClampNeg) &&& 31) = 16
    · rw [if_pos c16]
      obtain ⟨x, h1, h2, e1, e2, hI2⟩ := S16 (xs ((nI (7 * n)) + 1).toNatClampNeg) (xs ((nI (7 * n)) + 2).toNatClampNeg)
      simp only [gd_pos g1, gd_pos g2, e1, e2, bd_some, lt_eq, if_true]
      rw [e7]; exact ih (n + 1) h2 hI2 (by omega) (by omega)
    rw [if_neg c16]
    by_cases c17 : ((xs (nI (7 * n)).toNatClampNeg) &&& 31) = 17
    · rw [if_pos c17]
      obtain ⟨x, h1, h2, e1, e2, hI2⟩ := S17 (xs ((nI (7 * n)) + 1).toNatClampNeg) (xs ((nI (7 * n)) + 2).toNatClampNeg)
      simp only [gd_pos g1, gd_pos g2, e1, e2, bd_some, lt_eq, if_true]
      rw [e7]; exact ih (n + 1) h2 hI2 (by omega) (by omega)
    rw [if_neg c17]
    by_cases c18 : ((xs (nI (7 * n)).toNatClampNeg) &&& 31) = 18
    · rw [if_pos c18]
      obtain ⟨x, h1, h2, e1, e2, hI2⟩ := S18 (xs ((nI (7 * n)) + 1).toNatClampNeg)
      simp only [gd_pos g1, e1, e2, bd_some, lt_eq, if_true]
      rw [e7]; exact ih (n + 1) h2 hI2 (by omega) (by omega)
    rw [if_neg c18]
    by_cases c19 : ((xs (nI (7 * n)).toNatClampNeg) &&& 31) = 19
    · rw [if_pos c19]
      obtain ⟨x, h1, h2, e1, e2, hI2⟩ := S19 (xs ((nI (7 * n)) + 1).toNatClampNeg)
      simp only [gd_pos g1, e1, e2, bd_some, lt_eq, if_true]
      rw [e7]; exact ih (n + 1) h2 hI2 (by omega) (by omega)
    rw [if_neg c19]
    by_cases c20 : ((xs (nI (7 * n)).toNatClampNeg) &&& 31) = 20
    · rw [if_pos c20]
      obtain ⟨x, h1, h2, e1, e2, hI2⟩ := S20 
      simp only [e1, e2, bd_some, lt_eq, if_true]
      rw [e7]; exact ih (n + 1) h2 hI2 (by omega) (by omega)
    rw [if_neg c20]
    by_cases c21 : ((xs (nI (7 * n)).toNatClampNeg) &&& 31) = 21
    · rw [if_pos c21]
      obtain ⟨x, h1, h2, e1, e2, hI2⟩ := S21 
      simp only [e1, e2, bd_some, lt_eq, if_true]
      rw [e7]; exact ih (n + 1) h2 hI2 (by omega) (by omega)
    rw [if_neg c21]
    by_cases c22 : ((xs (nI (7 * n)).toNatClampNeg) &&& 31) = 22
    · rw [if_pos c22]
      obtain ⟨x, h1, h2, e1, e2, hI2⟩ := S22 (xs ((nI (7 * n)) + 1).toNatClampNeg)
      simp only [gd_pos g1, e1, e2, bd_some, lt_eq, if_true]
      rw [e7]; exact ih (n + 1) h2 hI2 (by omega) (by omega)
    rw [if_neg c22]
    by_cases c23 : ((xs (nI (7 * n)).toNatClampNeg) &&& 31) = 23
    · rw [if_pos c23]
      obtain ⟨x, h1, h2, e1, e2, hI2⟩ := S23 (xs ((nI (7 * n)) + 1).toNatClampNeg)
      simp only [gd_pos g1, e1, e2, bd_some, lt_eq, if_true]
      rw [e7]; exact ih (n + 1) h2 hI2 (by omega) (by omega)
    rw [if_neg c23]
    simp only [lt_eq]
    rw [e7]; exact ih (n + 1) h (hidle n h hI0 (by omega)) (by omega) (by omega)
theorem pure_of (I : Nat → AHp → Prop) (h0 : I 0 hE0) (hidle : ∀ n h, I n h → n < 512 → I (n + 1) h) (hs : ∀ n h, I n h → n < 512 → Sims (I (n + 1)) h) (L : Nat) (xs : Nat → Int32) (hL : L ≤ 3584) : ∃ h1 : AHp, m_L_law_18 L xs FU 0 hE0 = some (1, h1) :=
  loop_pure I hidle hs L xs hL FU 0 hE0 h0 (by unfold FU; omega) (by omega)
