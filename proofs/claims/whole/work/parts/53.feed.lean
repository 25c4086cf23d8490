/-! feed -/
def byC (x s : Int32) : Int32 := (x >>> (s &&& 31)) &&& 255
def byM (x s : Int32) : Int32 := vp_nar .byte ((x >>> (s &&& 31)).toInt8.toInt32)
theorem h255 : ∀ j : Fin 32, (255#32)[j] = decide (j.val < 8) := by decide
theorem by_eq (x s : Int32) : byC x s = byM x s &&& 255 := by
  unfold byC byM
  rw [vp_nar_byte]
  generalize x >>> (s &&& 31) = y
  apply Int32.toBitVec_inj.mp
  simp only [Int32.toBitVec_and, Int32.toBitVec_toInt8, Int8.toBitVec_toInt32]
  ext i hi
  have h2 := h255 ⟨i, hi⟩
  simp only [BitVec.getElem_and]
  by_cases h8 : i < 8
  · congr 1
    simp [BitVec.getElem_signExtend, h8, hi]
  · have h3 : (255#32)[i] = false := by
      have : (255#32)[i] = (255#32)[(⟨i, hi⟩ : Fin 32)] := rfl
      rw [this, h2]; simp [h8]
    show (y.toBitVec[i] && (255#32)[i]) = (_ && (255#32)[i])
    rw [h3, Bool.and_false, Bool.and_false]
theorem appStep (f n : Nat) (x s : Int32) (h : AHp) (hs : 0 ≤ s.toInt) (hn : hI h 1 1 = nI n) (hlt : n < 220) : m_X8_append_3 (f + 1) x s h = m_X8_append_3 f x (s + (-8)) (sI (sI h 2 n (byC x s)) 1 1 (nI (n + 1))) := by
  have e1 : (nI n).toInt = n := nI_toInt (by omega)
  rw [m_X8_append_3]
  simp only [i32_lt, i32_le, tIall, hn, e1]
  rw [if_neg (by omega), if_neg (by omega), gd_pos (inb_iff.mpr (by rw [e1]; omega))]
  simp only [lt_eq, hI_sI, hn, nI_clamp (show n < 2 ^ 31 by omega), Nat.reduceEqDiff, false_and, reduceIte, ← nI_succ]
  rfl
theorem pushStep (f n : Nat) (x s : Int32) (h : AHp) (hs : 0 ≤ s.toInt) (hn : hI h 70 1 = nI n) (hlt : n < 220) : m_X12_push_3 (f + 1) x s h = m_X12_push_3 f x (s + (-8)) (sI (sI h 71 n (byM x s)) 70 1 (nI (n + 1))) := by
  have e1 : (nI n).toInt = n := nI_toInt (by omega)
  rw [m_X12_push_3]
  simp only [i32_lt, i32_le, tIall, hn, e1]
  rw [if_neg (by omega), gd_pos (inb_iff.mpr (by rw [e1]; omega))]
  simp only [lt_eq, hI_sI, hn, nI_clamp (show n < 2 ^ 31 by omega), Nat.reduceEqDiff, false_and, reduceIte, ← nI_succ]
  rfl
def sh (k : Nat) : Int32 := if k = 0 then 24 else if k = 1 then 16 else if k = 2 then 8 else 0
theorem four {i n : Nat} {v : Int32} (B : Int32 → Int32) : (if i = n + 3 then B 0 else if i = n + 2 then B 8 else if i = n + 1 then B 16 else if i = n then B 24 else v) = if n ≤ i ∧ i < n + 4 then B (sh (i - n)) else v := by
  have hc : i = n ∨ i = n + 1 ∨ i = n + 2 ∨ i = n + 3 ∨ (i < n ∨ n + 4 ≤ i) := by omega
  rcases hc with rfl | rfl | rfl | rfl | hc
  · simp [sh]
  · simp [sh]
  · simp [sh]
  · simp [sh]
  · rw [if_neg (by omega), if_neg (by omega), if_neg (by omega), if_neg (by omega), if_neg (by omega)]
theorem tI24 : (24 : Int32) + (-8) = 16 ∧ (16 : Int32) + (-8) = 8 ∧ (8 : Int32) + (-8) = 0 ∧ (0 : Int32) + (-8) = -8 := by decide
theorem appC (n : Nat) (x : Int32) (h : AHp) (hn : hI h 1 1 = nI n) (hle : n + 4 ≤ 220) : ∃ h1, m_X8_append x h = some ((), h1) ∧ hI h1 1 1 = nI (n + 4) ∧ (∀ i, hI h1 2 i = if n ≤ i ∧ i < n + 4 then byC x (sh (i - n)) else hI h 2 i) ∧ Ch (fun k i => (k == 1 && i == 1) || k == 2) h h1 := by
  unfold m_X8_append FU
  rw [appStep _ n x 24 h (by decide) hn (by omega), tI24.1, appStep _ (n + 1) x 16 _ (by decide) (by simp [hI_sI]) (by omega), tI24.2.1, appStep _ (n + 2) x 8 _ (by decide) (by simp [hI_sI]) (by omega), tI24.2.2.1, appStep _ (n + 3) x 0 _ (by decide) (by simp [hI_sI]) (by omega), tI24.2.2.2, m_X8_append_3, if_pos (by decide)]
  refine ⟨_, rfl, by simp [hI_sI], fun i => by rw [← four (byC x)]; simp [hI_sI], ?_⟩
  exact ((((((((Ch.rf.sI (by simp)).sI rfl).sI (by simp)).sI rfl).sI (by simp)).sI rfl).sI (by simp)).sI rfl)
theorem pushM (n : Nat) (x : Int32) (h : AHp) (hn : hI h 70 1 = nI n) (hle : n + 4 ≤ 220) : ∃ h1, m_X12_push x h = some ((), h1) ∧ hI h1 70 1 = nI (n + 4) ∧ (∀ i, hI h1 71 i = if n ≤ i ∧ i < n + 4 then byM x (sh (i - n)) else hI h 71 i) ∧ Ch (fun k i => (k == 70 && i == 1) || k == 71) h h1 := by
  unfold m_X12_push FU
  rw [pushStep _ n x 24 h (by decide) hn (by omega), tI24.1, pushStep _ (n + 1) x 16 _ (by decide) (by simp [hI_sI]) (by omega), tI24.2.1, pushStep _ (n + 2) x 8 _ (by decide) (by simp [hI_sI]) (by omega), tI24.2.2.1, pushStep _ (n + 3) x 0 _ (by decide) (by simp [hI_sI]) (by omega), tI24.2.2.2, m_X12_push_3, if_pos (by decide)]
  refine ⟨_, rfl, by simp [hI_sI], fun i => by rw [← four (byM x)]; simp [hI_sI], ?_⟩
  exact ((((((((Ch.rf.sI (by simp)).sI rfl).sI (by simp)).sI rfl).sI (by simp)).sI rfl).sI (by simp)).sI rfl)
theorem nat_of {x : Int32} (h0 : 0 ≤ x.toInt) : ∃ n : Nat, x = nI n ∧ x.toInt = n ∧ n < 2147483648 := by
  have hb := i32_bd x
  refine ⟨x.toInt.toNat, ?_, by omega, by omega⟩
  rw [i32_eq, nI_toInt (by omega)]; omega
theorem sim_feed {h : AHp} (a b c d e : Int32) (hB : BI h) : SimB (fun k i => (k == 1 && i == 1) || k == 2 || (k == 70 && i == 1) || k == 71) h (m_X11_feed a b c d e) (m_X12_feed a b c d e) := by
  obtain ⟨⟨t1, t2, t3, t4⟩, a2, a3, a4, a5, a6⟩ := id hB
  obtain ⟨n, en, en2, hn⟩ := nat_of t2
  have e20 : (hI h 1 1 + 20).toInt = (n : Int) + 20 := by
    rw [en]; show (nI n + nI 20).toInt = _
    rw [nI_plus_toInt (by omega)]; omega
  by_cases hle : n + 20 ≤ 220
  · obtain ⟨c1, f1, g1, r1, k1⟩ := appC n a h en (by omega)
    obtain ⟨c2, f2, g2, r2, k2⟩ := appC (n + 4) b c1 g1 (by omega)
    obtain ⟨c3, f3, g3, r3, k3⟩ := appC (n + 4 + 4) c c2 g2 (by omega)
    obtain ⟨c4, f4, g4, r4, k4⟩ := appC (n + 4 + 4 + 4) d c3 g3 (by omega)
    obtain ⟨c5, f5, g5, r5, k5⟩ := appC (n + 4 + 4 + 4 + 4) e c4 g4 (by omega)
    have kc := (((k1.trans k2).trans k3).trans k4).trans k5
    have em : hI c5 70 1 = nI n := by rw [kc.i rfl, t1, en]
    obtain ⟨d1, p1, q1, s1, j1⟩ := pushM n a c5 em (by omega)
    obtain ⟨d2, p2, q2, s2, j2⟩ := pushM (n + 4) b d1 q1 (by omega)
    obtain ⟨d3, p3, q3, s3, j3⟩ := pushM (n + 4 + 4) c d2 q2 (by omega)
    obtain ⟨d4, p4, q4, s4, j4⟩ := pushM (n + 4 + 4 + 4) d d3 q3 (by omega)
    obtain ⟨d5, p5, q5, s5, j5⟩ := pushM (n + 4 + 4 + 4 + 4) e d4 q4 (by omega)
    have jc := (((j1.trans j2).trans j3).trans j4).trans j5
    have cc : Ch (fun k i => (k == 1 && i == 1) || k == 2 || (k == 70 && i == 1) || k == 71) h d5 := (kc.mono (fun k i hp => by simp only [Bool.or_eq_false_iff] at hp ⊢; exact hp.1.1)).trans (jc.mono (fun k i hp => by simp only [Bool.or_eq_false_iff] at hp ⊢; exact ⟨hp.1.2, hp.2⟩))
    refine ⟨nI (n + 20), c5, d5, ?_, ?_, ⟨?_, a2.ch cc (fun _ => rfl) (fun _ => rfl), a3.ch cc (fun _ => rfl) (fun _ => rfl), a4.ch cc ⟨rfl, rfl, rfl⟩ (fun _ => rfl) (fun _ => rfl) (fun _ => rfl) (fun _ => rfl) (fun _ => rfl) (fun _ => rfl), a5.ch cc ⟨rfl, rfl⟩, a6.ch cc ⟨rfl, rfl, rfl, rfl, rfl, rfl, rfl⟩ (fun _ => ⟨rfl, rfl, rfl, rfl, rfl, rfl, rfl, rfl⟩)⟩, cc⟩
    · unfold m_X11_feed
      rw [if_pos (by rw [i32_le, e20]; simp only [tIall]; omega)]
      simp only [f1, f2, f3, f4, f5, bd_some, g5]
    · unfold m_X12_feed
      rw [if_pos (by rw [em, ← en, i32_le, e20]; simp only [tIall]; omega)]
      simp only [p1, p2, p3, p4, p5, bd_some, q5]
    · have e1 : hI d5 1 1 = nI (n + 20) := by rw [jc.i rfl, g5]
      have e2 : (nI (n + 20)).toInt = ((n + 20 : Nat) : Int) := nI_toInt (by omega)
      refine ⟨by rw [q5, e1], by rw [e1, e2]; omega, by rw [e1, e2]; omega, fun i hi => ?_⟩
      have hi2 : i < n + 20 := by rw [e1, e2] at hi; omega
      have x1 : hI d5 2 i = hI c5 2 i := jc.i rfl
      have x2 : hI c5 71 i = hI h 71 i := kc.i rfl
      rw [x1, r5, r4, r3, r2, r1, s5, s4, s3, s2, s1, x2]
      repeat' split
      all_goals first | exact by_eq _ _ | (exact t4 i (by rw [en2]; omega)) | omega
  · refine SimB.same hB (-1) ?_ ?_
    · unfold m_X11_feed
      rw [if_neg (by rw [i32_le, e20]; simp only [tIall]; omega)]
    · unfold m_X12_feed
      rw [if_neg (by rw [t1, i32_le, e20]; simp only [tIall]; omega)]
