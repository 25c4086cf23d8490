/-! keep and undo -/
theorem cpy_step {k m i : Nat} (F G : Nat → Int32) (hk : k < m) : (if k + 1 ≤ i ∧ i < m then F i else if i = k then F k else G i) = if k ≤ i ∧ i < m then F i else G i := by
  by_cases hi : i = k
  · subst hi
    rw [if_neg (by omega), if_pos rfl, if_pos (by omega)]
  · by_cases hi2 : k + 1 ≤ i ∧ i < m
    · rw [if_pos hi2, if_pos (by omega)]
    · rw [if_neg hi2, if_neg hi, if_neg (by omega)]
theorem keep_l (m : Nat) (hm : m ≤ 200) : ∀ (d k : Nat) (h : AHp) (f : Nat), k + d = m → hI h 70 3 = nI m → d < f → ∃ h1, m_X12_keep_23 f (nI k) h = m_X12_keep_75 FU 0 h1 ∧ (∀ i, hI h1 114 i = if k ≤ i ∧ i < m then hI h 94 i else hI h 114 i) ∧ (∀ i, hI h1 115 i = if k ≤ i ∧ i < m then hI h 95 i else hI h 115 i) ∧ (∀ i, hI h1 116 i = if k ≤ i ∧ i < m then hI h 96 i else hI h 116 i) ∧ Ch (fun k _ => k == 114 || k == 115 || k == 116) h h1 := by
  intro d
  induction d with
  | zero =>
    intro k h f hk hm3 hf
    obtain ⟨f, rfl⟩ : ∃ g, f = g + 1 := ⟨f - 1, by omega⟩
    have hkm : k = m := by omega
    subst hkm
    refine ⟨h, ?_, fun i => by rw [if_neg (by omega)], fun i => by rw [if_neg (by omega)], fun i => by rw [if_neg (by omega)], Ch.rf⟩
    rw [m_X12_keep_23, if_pos (by rw [hm3]; exact nI_le (Nat.le_refl _) (by omega))]
  | succ d ih =>
    intro k h f hk hm3 hf
    obtain ⟨f, rfl⟩ : ∃ g, f = g + 1 := ⟨f - 1, by omega⟩
    have g : inb (nI k) 200 := vp_in_nI (by omega) (by omega)
    have ec : (nI k).toNatClampNeg = k := nI_clamp (by omega)
    rw [m_X12_keep_23, if_neg (by rw [hm3]; exact nI_ge (by omega) (by omega))]
    simp only [gd_pos g, lt_eq, ec, nI_1]
    obtain ⟨h1, e1, r1, r2, r3, c1⟩ := ih (k + 1) (sI (sI (sI h 114 k (hI h 94 k)) 115 k (hI (sI h 114 k (hI h 94 k)) 95 k)) 116 k (hI (sI (sI h 114 k (hI h 94 k)) 115 k (hI (sI h 114 k (hI h 94 k)) 95 k)) 96 k)) f (by omega) (by simp [hI_sI, hm3]) (by omega)
    refine ⟨h1, e1, fun i => ?_, fun i => ?_, fun i => ?_, (((Ch.rf.sI (by simp)).sI (by simp)).sI (by simp)).trans c1⟩
    all_goals first | rw [r1] | rw [r2] | rw [r3]
    all_goals simp only [hI_sI, Nat.reduceEqDiff, false_and, true_and, reduceIte]
    · exact cpy_step (hI h 94) (hI h 114) (by omega)
    · exact cpy_step (hI h 95) (hI h 115) (by omega)
    · exact cpy_step (hI h 96) (hI h 116) (by omega)
theorem undo_l (m : Nat) (hm : m ≤ 200) : ∀ (d k : Nat) (h : AHp) (f : Nat), k + d = m → hI h 70 3 = nI m → d < f → ∃ h1, m_X12_undo_27 f (nI k) h = m_X12_undo_79 FU 0 h1 ∧ (∀ i, hI h1 94 i = if k ≤ i ∧ i < m then hI h 114 i else hI h 94 i) ∧ (∀ i, hI h1 95 i = if k ≤ i ∧ i < m then hI h 115 i else hI h 95 i) ∧ (∀ i, hI h1 96 i = if k ≤ i ∧ i < m then hI h 116 i else hI h 96 i) ∧ Ch (fun k _ => k == 94 || k == 95 || k == 96) h h1 := by
  intro d
  induction d with
  | zero =>
    intro k h f hk hm3 hf
    obtain ⟨f, rfl⟩ : ∃ g, f = g + 1 := ⟨f - 1, by omega⟩
    have hkm : k = m := by omega
    subst hkm
    refine ⟨h, ?_, fun i => by rw [if_neg (by omega)], fun i => by rw [if_neg (by omega)], fun i => by rw [if_neg (by omega)], Ch.rf⟩
    rw [m_X12_undo_27, if_pos (by rw [hm3]; exact nI_le (Nat.le_refl _) (by omega))]
  | succ d ih =>
    intro k h f hk hm3 hf
    obtain ⟨f, rfl⟩ : ∃ g, f = g + 1 := ⟨f - 1, by omega⟩
    have g : inb (nI k) 200 := vp_in_nI (by omega) (by omega)
    have ec : (nI k).toNatClampNeg = k := nI_clamp (by omega)
    rw [m_X12_undo_27, if_neg (by rw [hm3]; exact nI_ge (by omega) (by omega))]
    simp only [gd_pos g, lt_eq, ec, nI_1]
    obtain ⟨h1, e1, r1, r2, r3, c1⟩ := ih (k + 1) (sI (sI (sI h 94 k (hI h 114 k)) 95 k (hI (sI h 94 k (hI h 114 k)) 115 k)) 96 k (hI (sI (sI h 94 k (hI h 114 k)) 95 k (hI (sI h 94 k (hI h 114 k)) 115 k)) 116 k)) f (by omega) (by simp [hI_sI, hm3]) (by omega)
    refine ⟨h1, e1, fun i => ?_, fun i => ?_, fun i => ?_, (((Ch.rf.sI (by simp)).sI (by simp)).sI (by simp)).trans c1⟩
    all_goals first | rw [r1] | rw [r2] | rw [r3]
    all_goals simp only [hI_sI, Nat.reduceEqDiff, false_and, true_and, reduceIte]
    · exact cpy_step (hI h 114) (hI h 94) (by omega)
    · exact cpy_step (hI h 115) (hI h 95) (by omega)
    · exact cpy_step (hI h 116) (hI h 96) (by omega)
theorem keep_c : ∀ (d k : Nat) (h : AHp) (f : Nat), k + d = 6 → d < f → ∃ h1, m_X12_keep_75 f (nI k) h = some (hI h1 70 3, h1) ∧ (∀ i, hI h1 117 i = if k ≤ i ∧ i < 6 then hI h 91 i else hI h 117 i) ∧ Ch (fun k _ => k == 117) h h1 := by
  intro d
  induction d with
  | zero =>
    intro k h f hk hf
    obtain ⟨f, rfl⟩ : ∃ g, f = g + 1 := ⟨f - 1, by omega⟩
    have hkm : k = 6 := by omega
    subst hkm
    refine ⟨h, ?_, fun i => by rw [if_neg (by omega)], Ch.rf⟩
    rw [m_X12_keep_75, if_pos (by decide)]
  | succ d ih =>
    intro k h f hk hf
    obtain ⟨f, rfl⟩ : ∃ g, f = g + 1 := ⟨f - 1, by omega⟩
    have g : inb (nI k) 6 := vp_in_nI (by omega) (by omega)
    have ec : (nI k).toNatClampNeg = k := nI_clamp (by omega)
    rw [m_X12_keep_75, if_neg (by exact nI_ge (a := k) (b := 6) (by omega) (by omega))]
    simp only [gd_pos g, lt_eq, ec, nI_1]
    obtain ⟨h1, e1, r1, c1⟩ := ih (k + 1) (sI h 117 k (hI h 91 k)) f (by omega) (by omega)
    refine ⟨h1, e1, fun i => ?_, (Ch.rf.sI (by simp)).trans c1⟩
    rw [r1]
    simp only [hI_sI, Nat.reduceEqDiff, false_and, true_and, reduceIte]
    exact cpy_step (hI h 91) (hI h 117) (by omega)
theorem undo_c : ∀ (d k : Nat) (h : AHp) (f : Nat), k + d = 6 → d < f → ∃ h1, m_X12_undo_79 f (nI k) h = some (1, h1) ∧ (∀ i, hI h1 91 i = if k ≤ i ∧ i < 6 then hI h 117 i else hI h 91 i) ∧ Ch (fun k _ => k == 91) h h1 := by
  intro d
  induction d with
  | zero =>
    intro k h f hk hf
    obtain ⟨f, rfl⟩ : ∃ g, f = g + 1 := ⟨f - 1, by omega⟩
    have hkm : k = 6 := by omega
    subst hkm
    refine ⟨h, ?_, fun i => by rw [if_neg (by omega)], Ch.rf⟩
    rw [m_X12_undo_79, if_pos (by decide)]
  | succ d ih =>
    intro k h f hk hf
    obtain ⟨f, rfl⟩ : ∃ g, f = g + 1 := ⟨f - 1, by omega⟩
    have g : inb (nI k) 6 := vp_in_nI (by omega) (by omega)
    have ec : (nI k).toNatClampNeg = k := nI_clamp (by omega)
    rw [m_X12_undo_79, if_neg (by exact nI_ge (a := k) (b := 6) (by omega) (by omega))]
    simp only [gd_pos g, lt_eq, ec, nI_1]
    obtain ⟨h1, e1, r1, c1⟩ := ih (k + 1) (sI h 91 k (hI h 117 k)) f (by omega) (by omega)
    refine ⟨h1, e1, fun i => ?_, (Ch.rf.sI (by simp)).trans c1⟩
    rw [r1]
    simp only [hI_sI, Nat.reduceEqDiff, false_and, true_and, reduceIte]
    exact cpy_step (hI h 117) (hI h 91) (by omega)
theorem cpy0 (f g : Nat → Int32) {n : Int32} {N : Nat} (hN : n.toNatClampNeg = N) (i : Nat) : va_cpy f g (0 : Int32).toNatClampNeg (0 : Int32).toNatClampNeg n.toNatClampNeg i = if i < N then f i else g i := by
  rw [hN]
  show (if 0 ≤ i ∧ i < 0 + N then f (0 + (i - 0)) else g i) = _
  by_cases h : i < N
  · rw [if_pos (by omega), if_pos h]; congr 1; omega
  · rw [if_neg (by omega), if_neg h]
theorem cpyN (f g : Nat → Int32) (N i : Nat) : va_cpy f g 0 0 N i = if i < N then f i else g i := by
  show (if 0 ≤ i ∧ i < 0 + N then f (0 + (i - 0)) else g i) = _
  by_cases h : i < N
  · rw [if_pos (by omega), if_pos h]; congr 1; omega
  · rw [if_neg (by omega), if_neg h]
theorem sumW_congr {f g : Nat → Int32} : ∀ {n : Nat}, (∀ i, i < n → f i = g i) → sumW f n = sumW g n
  | 0, _ => rfl
  | n + 1, h => by
    show sumW f n + f n = sumW g n + g n
    rw [sumW_congr (fun i hi => h i (by omega)), h n (by omega)]
/-- a talk's copy -/
theorem BTk.copy {h h1 : AHp} {o a fm m o2 a2 fm2 m2 : Nat} (hB : BTk h o a fm m) (e0 : hI h1 70 fm2 = hI h 70 fm) (e1 : hI h1 o2 3 = hI h o 3) (e2 : hI h1 o2 4 = hI h o 4)
    (r1 : ∀ i, i < 200 → hI h1 a2 i = hI h a i) (r2 : ∀ i, i < 200 → hI h1 (a2 + 1) i = hI h (a + 1) i) (r3 : ∀ i, i < 200 → hI h1 (a2 + 2) i = hI h (a + 2) i)
    (s1 : ∀ i : Nat, (i : Int) < (hI h o 3).toInt → hI h1 m2 i = hI h m i) (s2 : ∀ i : Nat, (i : Int) < (hI h o 3).toInt → hI h1 (m2 + 1) i = hI h (m + 1) i) (s3 : ∀ i : Nat, (i : Int) < (hI h o 3).toInt → hI h1 (m2 + 2) i = hI h (m + 2) i) : BTk h1 o2 a2 fm2 m2 := by
  obtain ⟨b1, b2, b3, b4, b5⟩ := hB
  refine ⟨by rw [e0, e1, b1], by rw [e1]; exact b2, by rw [e1]; exact b3, ?_, fun i hi => ?_⟩
  · rw [e1, e2, b4]
    refine sumW_congr (fun i hi => (r3 i ?_).symm)
    rw [clamp_toNat] at hi; omega
  · rw [e1] at hi
    have := b5 i hi
    rw [r1 i (by omega), r2 i (by omega), r3 i (by omega), s1 i hi, s2 i hi, s3 i hi]
    exact this
theorem sim_keep {h : AHp} (hB : BI h) : SimB (fun k i => k == 46 || k == 47 || k == 48 || k == 49 || k == 50 || (k == 0 && (i == 12 || i == 13)) || (k == 70 && (i == 63 || i == 64 || i == 65)) || k == 114 || k == 115 || k == 116 || k == 117) h m_X11_keep m_X12_keep := by
  obtain ⟨a1, a2, a3, a4, a5, a6⟩ := id hB
  obtain ⟨m, em, em2, hm⟩ := nat_of a4.2.1
  obtain ⟨hc, ehc, eqs, kc⟩ : ∃ hc, m_X11_keep h = some (hI h 42 3, hc) ∧ (hI hc 46 3 = hI h 42 3 ∧ hI hc 46 4 = hI h 42 4 ∧ (∀ i, i < 200 → hI hc 47 i = hI h 43 i) ∧ (∀ i, i < 200 → hI hc 48 i = hI h 44 i) ∧ (∀ i, i < 200 → hI hc 49 i = hI h 45 i) ∧ (∀ i, i < 6 → hI hc 50 i = hI h 5 i) ∧ hI hc 0 12 = hI h 0 11 ∧ hI hc 0 13 = 1) ∧ Ch (fun k i => k == 46 || k == 47 || k == 48 || k == 49 || k == 50 || (k == 0 && (i == 12 || i == 13))) h hc := by
    refine ⟨_, by unfold m_X11_keep m_X7_copyFrom_46; simp only [lt_eq, bd_some, hI_sI, hI_sR, Nat.reduceEqDiff, false_and, and_false, true_and, and_true, reduceIte]; rfl, ?_, ?_⟩
    · refine ⟨?_, ?_, fun i hi => ?_, fun i hi => ?_, fun i hi => ?_, fun i hi => ?_, ?_, ?_⟩
      all_goals simp [hI_sI, hI_sR]
      all_goals first | (rw [cpyN, if_pos hi]; done) | (rw [cpyN, if_pos hi]; simp [hI_sI, hI_sR]; done)
    · exact (((((((Ch.rf.sR (by simp)).sR (by simp)).sR (by simp)).sI rfl).sI rfl).sR (by simp)).sI rfl).sI rfl
  obtain ⟨q1, q2, q3, q4, q5, q6, q7, q8⟩ := eqs
  have em3 : hI hc 70 3 = nI m := by rw [kc.i rfl, a4.1, em]
  have k0 : Ch (fun k i => k == 70 && (i == 63 || i == 64 || i == 65)) hc (sI (sI (sI hc 70 63 1) 70 64 (hI hc 70 3)) 70 65 (hI hc 70 2)) := ((Ch.rf.sI rfl).sI rfl).sI rfl
  obtain ⟨h1, e1, r1, r2, r3, c1⟩ := keep_l m (by have := a4.2.2.1; omega) m 0 (sI (sI (sI hc 70 63 1) 70 64 (hI hc 70 3)) 70 65 (hI hc 70 2)) FU (by omega) (by rw [k0.i rfl, em3]) (by unfold FU; have := a4.2.2.1; omega)
  obtain ⟨h2, e2, r4, c2⟩ := keep_c 6 0 h1 FU (by omega) (by unfold FU; omega)
  have cc : Ch (fun k i => k == 46 || k == 47 || k == 48 || k == 49 || k == 50 || (k == 0 && (i == 12 || i == 13)) || (k == 70 && (i == 63 || i == 64 || i == 65)) || k == 114 || k == 115 || k == 116 || k == 117) h h2 := by
    refine (((kc.mono ?_).trans (k0.mono ?_)).trans (c1.mono ?_)).trans (c2.mono ?_)
    all_goals intro k i hp; simp only [Bool.or_eq_false_iff] at hp ⊢; simp only [hp, and_self]
  have f1 : ∀ {k i}, (k == 70 && (i == 63 || i == 64 || i == 65)) = false → (k == 114 || k == 115 || k == 116) = false → (k == 117) = false → hI h2 k i = hI hc k i := fun p1 p2 p3 => by rw [c2.i p3, c1.i p2, k0.i p1]
  refine ⟨hI h 42 3, hc, h2, ehc, ?_, ⟨a1.ch cc rfl rfl (fun _ => rfl) (fun _ => rfl), a2.ch cc (fun _ => rfl) (fun _ => rfl), a3.ch cc (fun _ => rfl) (fun _ => rfl), a4.ch cc ⟨rfl, rfl, rfl⟩ (fun _ => rfl) (fun _ => rfl) (fun _ => rfl) (fun _ => rfl) (fun _ => rfl) (fun _ => rfl), a5.ch cc ⟨rfl, rfl⟩, ?_⟩, cc⟩
  · unfold m_X12_keep
    simp only [lt_eq, hI_sI, Nat.reduceEqDiff, false_and, and_false, true_and, and_true, reduceIte]
    show m_X12_keep_23 FU (nI 0) _ = _
    rw [e1]
    show m_X12_keep_75 FU (nI 0) _ = _
    rw [e2, c2.i rfl, c1.i rfl, k0.i rfl, em3, em]
  · have z1 : hI h2 70 63 = 1 := by rw [c2.i rfl, c1.i rfl]; rfl
    have z2 : hI h2 70 64 = hI h 70 3 := by rw [c2.i rfl, c1.i rfl]; show hI hc 70 3 = _; rw [kc.i rfl]
    have z3 : hI h2 70 65 = hI h 70 2 := by rw [c2.i rfl, c1.i rfl]; show hI hc 70 2 = _; rw [kc.i rfl]
    have y1 : hI h2 0 13 = 1 := by rw [f1 rfl rfl rfl, q8]
    refine ⟨by rw [z1, y1], Or.inr ⟨y1, ?_, ?_, ?_⟩⟩
    · refine a4.copy z2 (by rw [f1 rfl rfl rfl, q1]) (by rw [f1 rfl rfl rfl, q2]) (fun i hi => by rw [f1 rfl rfl rfl, q3 i hi]) (fun i hi => by rw [f1 rfl rfl rfl, q4 i hi]) (fun i hi => by rw [f1 rfl rfl rfl, q5 i hi]) (fun i hi => ?_) (fun i hi => ?_) (fun i hi => ?_)
      · rw [c2.i rfl, r1, if_pos (by omega), k0.i rfl, kc.i rfl]
      · rw [c2.i rfl, r2, if_pos (by omega), k0.i rfl, kc.i rfl]
      · rw [c2.i rfl, r3, if_pos (by omega), k0.i rfl, kc.i rfl]
    · have y2 : hI h2 0 12 = hI h 0 11 := by rw [f1 rfl rfl rfl, q7]
      exact ⟨by rw [z3, y2, a5.1], by rw [y2]; exact a5.2⟩
    · intro i hi
      have y3 : hI h2 50 i = hI h 5 i := by rw [f1 rfl rfl rfl, q6 i hi]
      have := a3 i hi
      rw [y3, r4, if_pos (by omega), c1.i rfl, k0.i rfl, kc.i rfl]
      exact this
theorem sim_undo {h : AHp} (hB : BI h) : SimB (fun k i => k == 42 || k == 43 || k == 44 || k == 45 || k == 5 || (k == 0 && i == 11) || (k == 70 && (i == 2 || i == 3)) || k == 94 || k == 95 || k == 96 || k == 91) h m_X11_undo m_X12_undo := by
  obtain ⟨a1, a2, a3, a4, a5, a6⟩ := id hB
  rcases a6.2 with z0 | ⟨z0, b1, b2, b3⟩
  · refine SimB.same hB 0 ?_ ?_
    · unfold m_X11_undo; rw [if_pos z0]
    · unfold m_X12_undo; rw [if_pos (by rw [a6.1, z0])]
  obtain ⟨m, em, em2, hm⟩ := nat_of b1.2.1
  obtain ⟨hc, ehc, eqs, kc⟩ : ∃ hc, m_X11_undo h = some (1, hc) ∧ (hI hc 42 3 = hI h 46 3 ∧ hI hc 42 4 = hI h 46 4 ∧ (∀ i, i < 200 → hI hc 43 i = hI h 47 i) ∧ (∀ i, i < 200 → hI hc 44 i = hI h 48 i) ∧ (∀ i, i < 200 → hI hc 45 i = hI h 49 i) ∧ (∀ i, i < 6 → hI hc 5 i = hI h 50 i) ∧ hI hc 0 11 = hI h 0 12) ∧ Ch (fun k i => k == 42 || k == 43 || k == 44 || k == 45 || k == 5 || (k == 0 && i == 11)) h hc := by
    refine ⟨_, by unfold m_X11_undo m_X7_copyFrom; rw [z0, if_neg one_ne]; simp only [lt_eq, bd_some, hI_sI, hI_sR, Nat.reduceEqDiff, false_and, and_false, true_and, and_true, reduceIte]; rfl, ?_, ?_⟩
    · refine ⟨?_, ?_, fun i hi => ?_, fun i hi => ?_, fun i hi => ?_, fun i hi => ?_, ?_⟩
      all_goals simp [hI_sI, hI_sR]
      all_goals first | (rw [cpyN, if_pos hi]; done) | (rw [cpyN, if_pos hi]; simp [hI_sI, hI_sR]; done)
    · exact ((((((Ch.rf.sR (by simp)).sR (by simp)).sR (by simp)).sI rfl).sI rfl).sR (by simp)).sI rfl
  obtain ⟨q1, q2, q3, q4, q5, q6, q7⟩ := eqs
  have em3 : hI hc 70 64 = nI m := by rw [kc.i rfl, b1.1, em]
  have k0 : Ch (fun k i => k == 70 && (i == 2 || i == 3)) hc (sI (sI hc 70 3 (hI hc 70 64)) 70 2 (hI hc 70 65)) := (Ch.rf.sI rfl).sI rfl
  obtain ⟨h1, e1, r1, r2, r3, c1⟩ := undo_l m (by have := b1.2.2.1; omega) m 0 (sI (sI hc 70 3 (hI hc 70 64)) 70 2 (hI hc 70 65)) FU (by omega) (by rw [← em3]; rfl) (by unfold FU; have := b1.2.2.1; omega)
  obtain ⟨h2, e2, r4, c2⟩ := undo_c 6 0 h1 FU (by omega) (by unfold FU; omega)
  have cc : Ch (fun k i => k == 42 || k == 43 || k == 44 || k == 45 || k == 5 || (k == 0 && i == 11) || (k == 70 && (i == 2 || i == 3)) || k == 94 || k == 95 || k == 96 || k == 91) h h2 := by
    refine (((kc.mono ?_).trans (k0.mono ?_)).trans (c1.mono ?_)).trans (c2.mono ?_)
    all_goals intro k i hp; simp only [Bool.or_eq_false_iff] at hp ⊢; simp only [hp, and_self]
  have f1 : ∀ {k i}, (k == 70 && (i == 2 || i == 3)) = false → (k == 94 || k == 95 || k == 96) = false → (k == 91) = false → hI h2 k i = hI hc k i := fun p1 p2 p3 => by rw [c2.i p3, c1.i p2, k0.i p1]
  have z2 : hI h2 70 3 = hI h 70 64 := by rw [c2.i rfl, c1.i rfl]; show hI hc 70 64 = _; rw [kc.i rfl]
  have z3 : hI h2 70 2 = hI h 70 65 := by rw [c2.i rfl, c1.i rfl]; show hI hc 70 65 = _; rw [kc.i rfl]
  refine ⟨1, hc, h2, ehc, ?_, ⟨a1.ch cc rfl rfl (fun _ => rfl) (fun _ => rfl), a2.ch cc (fun _ => rfl) (fun _ => rfl), ?_, ?_, ?_, a6.ch cc ⟨rfl, rfl, rfl, rfl, rfl, rfl, rfl⟩ (fun _ => ⟨rfl, rfl, rfl, rfl, rfl, rfl, rfl, rfl⟩)⟩, cc⟩
  · unfold m_X12_undo
    rw [if_neg (by rw [kc.i rfl, a6.1, z0]; exact one_ne)]
    simp only [lt_eq, hI_sI, Nat.reduceEqDiff, false_and, and_false, true_and, and_true, reduceIte]
    show m_X12_undo_27 FU (nI 0) _ = _
    rw [e1]
    show m_X12_undo_79 FU (nI 0) _ = _
    rw [e2]
  · intro i hi
    have y3 : hI h2 5 i = hI h 50 i := by rw [f1 rfl rfl rfl, q6 i hi]
    have := b3 i hi
    rw [y3, r4, if_pos (by omega), c1.i rfl, k0.i rfl, kc.i rfl]
    exact this
  · refine b1.copy z2 (by rw [f1 rfl rfl rfl, q1]) (by rw [f1 rfl rfl rfl, q2]) (fun i hi => by rw [f1 rfl rfl rfl, q3 i hi]) (fun i hi => by rw [f1 rfl rfl rfl, q4 i hi]) (fun i hi => by rw [f1 rfl rfl rfl, q5 i hi]) (fun i hi => ?_) (fun i hi => ?_) (fun i hi => ?_)
    · rw [c2.i rfl, r1, if_pos (by omega), k0.i rfl, kc.i rfl]
    · rw [c2.i rfl, r2, if_pos (by omega), k0.i rfl, kc.i rfl]
    · rw [c2.i rfl, r3, if_pos (by omega), k0.i rfl, kc.i rfl]
  · have y2 : hI h2 0 11 = hI h 0 12 := by rw [f1 rfl rfl rfl, q7]
    exact ⟨by rw [z3, y2, b2.1], by rw [y2]; exact b2.2⟩
