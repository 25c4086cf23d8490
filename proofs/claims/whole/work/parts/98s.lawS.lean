/-! law: both -/
/-- the law that is read into is neither of the two that are asked -/
def SPR (h : AHp) : Prop := isLaw (hM h 3 5) ∧ hM h 3 5 ≠ hM h 3 3 ∧ hM h 3 5 ≠ hM h 3 4
abbrev PWl : Nat → Nat → Bool := fun k i => k == 1 || k == 3 || (Nat.ble 7 k && Nat.ble k 30) || (Nat.ble 33 k && Nat.ble k 41) || (k == 70 && (i == 1 || (Nat.ble 4 i && Nat.ble i 10) || i == 30 || i == 31)) || (Nat.ble 77 k && Nat.ble k 90)
theorem LawC.far {h g : AHp} {j j2 : Nat} {cl : List Clz} {Kc : Nat → Prop} {kv : Nat → Int32} (x : LawC h j2 cl Kc kv) (hj : isLaw j) (hne : j ≠ j2) (c : ∀ k i, (k < j ∨ j + 7 < k) → 7 ≤ k → k ≤ 41 → k ≠ 33 → hI g k i = hI h k i) : LawC g j2 cl Kc kv := by
  have h1 := law_apart hj x.1 hne
  have h2 : 7 ≤ j2 ∧ j2 + 7 ≤ 41 ∧ (33 < j2 ∨ j2 + 7 < 33) := by
    have := x.1
    rcases this with h | h | h | h <;> omega
  refine x.next (fun k u1 u2 _ i => c k i (by omega) (by omega) (by omega) (by omega)) (fun r hr => ?_)
  rw [c (j2 + 2) r (by omega) (by omega) (by omega) (by omega)]
  exact (x.2.2.2.2.1 r hr).2
theorem LawM.far {h g : AHp} {w w2 : Nat} {cl : List Clz} (x : LawM h w2 cl) (hw : w ≤ 1) (hw2 : w2 ≤ 1) (hne : w ≠ w2) (c : Ch (PLz w) h g) : LawM g w2 cl := by
  obtain ⟨x1, x2, x3⟩ := x
  have f7 : ∀ k i, 78 ≤ k → k ≤ 81 → i < 14 → hI g k (14 * w2 + i) = hI h k (14 * w2 + i) := fun k i u1 u2 u3 => c.i (by
    simp only [Bool.or_eq_false_iff, Bool.and_eq_false_iff, beq_eq_false_iff_ne, ble_f]; omega)
  have f8 : ∀ i, 200 * w2 ≤ i → i < 200 * w2 + 200 → hI g 82 i = hI h 82 i ∧ hI g 83 i = hI h 83 i := fun i u1 u2 => ⟨c.i (by
    simp only [Bool.or_eq_false_iff, Bool.and_eq_false_iff, beq_eq_false_iff_ne, ble_f]; omega), c.i (by
    simp only [Bool.or_eq_false_iff, Bool.and_eq_false_iff, beq_eq_false_iff_ne, ble_f]; omega)⟩
  have sg : ∀ {a b : Int32} {D : Mom → Option Int32}, SegM h w2 a b D → SegM g w2 a b D := fun s g2 h1 h2 hk => s g2 (fun i u1 u2 => by rw [h1 i u1 u2, (f8 i u1 u2).1]) (fun i u1 u2 => by rw [h2 i u1 u2, (f8 i u1 u2).2]) hk
  refine ⟨x1, ?_, fun i q hq => ?_⟩
  · rw [c.i (by simp only [Bool.or_eq_false_iff, Bool.and_eq_false_iff, beq_eq_false_iff_ne, ble_f]; omega)]; exact x2
  · have hi : i < cl.length := (List.getElem?_eq_some_iff.mp hq).1
    obtain ⟨y1, y2, y3⟩ := x3 i q hq
    rw [f7 78 i (by omega) (by omega) (by omega), f7 79 i (by omega) (by omega) (by omega), f7 80 i (by omega) (by omega) (by omega), f7 81 i (by omega) (by omega) (by omega)]
    exact ⟨y1, sg y2, fun e => sg (y3 e)⟩
theorem LawC.low {h g : AHp} {j : Nat} {cl : List Clz} {Kc : Nat → Prop} {kv : Nat → Int32} (x : LawC h j cl Kc kv) (c : ∀ k i, 7 ≤ k → k ≤ 41 → k ≠ 33 → hI g k i = hI h k i) : LawC g j cl Kc kv := by
  have h2 : 7 ≤ j ∧ j + 7 ≤ 41 ∧ (33 < j ∨ j + 7 < 33) := by
    have := x.1
    rcases this with h | h | h | h <;> omega
  refine x.next (fun k u1 u2 _ i => c k i (by omega) (by omega) (by omega)) (fun r hr => ?_)
  rw [c (j + 2) r (by omega) (by omega) (by omega)]
  exact (x.2.2.2.2.1 r hr).2
theorem sim_law {h : AHp} (w n : Int32) (hB : BI h) (hI0 : LI h) (hS : SPR h) : ∃ (x : Int32) (h1 h2 : AHp), m_X11_law w n h = some (x, h1) ∧ m_X12_law w n h1 = some (x, h2) ∧ BI h2 ∧ LI h2 ∧ SPR h2 ∧ Ch PWl h h2 := by
  have same : ∀ x : Int32, m_X11_law w n h = some (x, h) → m_X12_law w n h = some (x, h) → ∃ (x : Int32) (h1 h2 : AHp), m_X11_law w n h = some (x, h1) ∧ m_X12_law w n h1 = some (x, h2) ∧ BI h2 ∧ LI h2 ∧ SPR h2 ∧ Ch PWl h h2 := fun x e1 e2 => ⟨x, h, h, e1, e2, hB, hI0, hS, Ch.rf⟩
  by_cases hw : 0 ≤ w.toInt ∧ w.toInt ≤ 1
  rotate_left
  · refine same (-1) ?_ ?_
    · unfold m_X11_law; rw [isLawC, bd_some, b2i_f hw, if_pos rfl]
    · unfold m_X12_law; rw [isLawM, bd_some, b2i_f hw, if_pos rfl]
  by_cases hn : 1 ≤ n.toInt ∧ n.toInt ≤ 200
  rotate_left
  · refine same (-1) ?_ ?_
    · unfold m_X11_law; rw [isLawC, bd_some, b2i_t hw, if_neg one_ne, show m_X11_isOnTape n 200 1 h = some (0, h) from onTape_no (lim := 200) (grp := 1) (by omega) hn, bd_some, if_pos rfl]
    · unfold m_X12_law; rw [isLawM, bd_some, b2i_t hw, if_neg one_ne, liesI, bd_some, b2i_f (by exact hn), if_pos rfl]
  obtain ⟨w, rfl, -, hw1⟩ := nat_in (lo := 0) (hi := 1) hw
  obtain ⟨n, rfl, hn1, hn2⟩ := nat_in (lo := 1) (hi := 200) hn
  obtain ⟨cl0, cl1, K0, K1, v0, v1, hLR⟩ := id hI0
  obtain ⟨E, xC, xR, ⟨rfl, rfl, rfl, rfl, rfl, rfl⟩, e701⟩ := hB.en hLR
  have hc := E.hc
  have eT : m_X11_isOnTape (nI n) 200 1 h = some (if n * 1 ≤ E.c then 1 else 0, h) := onTape_n (lim := 200) (grp := 1) xC.2.1 hc hn1 hn2 (by omega) (by omega)
  by_cases hq : n ≤ E.c
  rotate_left
  · rw [if_neg (by omega)] at eT
    refine same (-1) ?_ ?_
    · unfold m_X11_law; rw [isLawC, bd_some, b2i_t hw, if_neg one_ne, eT, bd_some, if_pos rfl]
    · unfold m_X12_law; rw [isLawM, bd_some, b2i_t hw, if_neg one_ne, liesI, bd_some, b2i_t (by exact hn), if_neg one_ne, e701, if_neg (nI_ge (by omega) (by omega))]
  rw [if_pos (by omega)] at eT
  obtain ⟨hj, hj3, hj4⟩ := hS
  generalize hjd : hM h 3 5 = j at hj hj3 hj4
  have hbd := law_bounds hj
  obtain ⟨v, g1, e1, c1, O1⟩ := readLawC (ty := E.ty) hj ⟨hn1, hn2⟩ ⟨hq, hc⟩ xC.2.1 (fun i hi => xC.2.2.1 i (by omega))
  have hC0 : m_X11_law (nI w) (nI n) h = (if v < 0 then (some (v, sI g1 1 1 0)) else (bd (m_X9_takeSpare (nI w) (sI g1 1 1 0)) fun r10 h11 => (some (v, h11)))) := by
    unfold m_X11_law
    rw [isLawC, bd_some, b2i_t hw, if_neg one_ne, eT, bd_some, if_neg one_ne, hjd, gd_pos hj, e1, bd_some, clearC, bd_some]
  have far1 : ∀ k i, (k < j ∨ j + 7 < k) → k ≠ 1 → ¬ (k = 33 ∧ i = 1) → hI g1 k i = hI h k i ∧ hL g1 k i = hL h k i ∧ hM g1 k i = hM h k i := fun k i u1 u2 u3 => c1 k i (by
    simp only [Bool.or_eq_false_iff, Bool.and_eq_false_iff, beq_eq_false_iff_ne, ble_f]; omega)
  have hj34 : j ≤ 34 ∧ (33 < j ∨ j + 7 < 33) := by
    rcases hj with h | h | h | h <;> omega
  have m33 : hM g1 3 3 = hM h 3 3 := (far1 3 3 (by omega) (by omega) (by omega)).2.2
  have m34 : hM g1 3 4 = hM h 3 4 := (far1 3 4 (by omega) (by omega) (by omega)).2.2
  have m35 : hM g1 3 5 = j := by rw [(far1 3 5 (by omega) (by omega) (by omega)).2.2, hjd]
  have c1' : Ch PWl h (sI g1 1 1 0) := (c1.mono (fun k i hp => by
    simp only [Bool.or_eq_false_iff, Bool.and_eq_false_iff, beq_eq_false_iff_ne, ble_f] at hp ⊢; omega)).sI (by simp)
  have upz : ∀ {u v : AHp}, Ch (PLz w) u v → Ch PWl u v := fun c => c.mono (fun k i hp => by
    simp only [Bool.or_eq_false_iff, Bool.and_eq_false_iff, beq_eq_false_iff_ne, ble_f] at hp ⊢; omega)
  have zlow : ∀ k i, k < 70 → PLz w k i = false := fun k i hk => by
    simp only [Bool.or_eq_false_iff, Bool.and_eq_false_iff, beq_eq_false_iff_ne, ble_f]; omega
  obtain ⟨l0, l1, hne⟩ := hLR.1
  -- what the reference finds behind the class
  have hRf : ∀ g, (∀ k i, 70 ≤ k → hI g k i = hI h k i) → ∃ g2, Ch (PLz w) g g2 ∧ hI g2 70 1 = 0 ∧ (match lwS E.ty n 300 [] 0 with
      | .inl F => m_X12_law (nI w) (nI n) g = some (F, g2) ∧ sameLM g g2
      | .inr cl => m_X12_law (nI w) (nI n) g = some (nI cl.length, g2) ∧ LawM g2 w cl) := fun g hg =>
    lawMM hw1 ⟨hn1, hn2⟩ ⟨hq, hc⟩ (by rw [hg 70 1 (by omega), e701]) (fun i hi => by rw [hg 71 i (by omega)]; exact xR.2.1 i (by omega))
  have hi1 : ∀ k i, 70 ≤ k → hI (sI g1 1 1 0) k i = hI h k i := fun k i hk => by
    rw [hI_sI, if_neg (by omega)]; exact (far1 k i (by omega) (by omega) (by omega)).1
  have bi : ∀ g2, Ch PWl h g2 → hI g2 1 1 = 0 → hI g2 70 1 = 0 → BI g2 := fun g2 cc q1 q2 => hB.clr cc (fun {k i} hp u1 u2 => by
    simp only [Bool.or_eq_true, Bool.and_eq_true, beq_iff_eq] at hp
    simp only [Bool.or_eq_false_iff, Bool.and_eq_false_iff, beq_eq_false_iff_ne, ble_f]
    omega) q1 q2
  cases hrs : lwS E.ty n 300 [] 0 with
  | inl F =>
    rw [hrs] at O1
    obtain ⟨o1, o2⟩ := O1
    simp only [hrs] at hRf
    obtain ⟨g2, c2, z2, e2, s2⟩ := hRf (sI g1 1 1 0) hi1
    have cc := c1'.trans (upz c2)
    rw [if_pos (by rw [o1, i32_lt]; simp only [tIall]; exact o2), o1] at hC0
    have mm : ∀ i, hM g2 3 i = hM g1 3 i := fun i => (c2 3 i (zlow 3 i (by omega))).2.2
    have low2 : ∀ k i, 7 ≤ k → k ≤ 41 → k ≠ 33 → (k < j ∨ j + 7 < k) → hI g2 k i = hI h k i := fun k i u1 u2 u3 u4 => by
      rw [c2.i (zlow k i (by omega)), hI_sI, if_neg (by omega)]; exact (far1 k i u4 (by omega) (by omega)).1
    have sm : sameLM h g2 := fun k u1 u2 i => by rw [s2 k u1 u2 i]; exact hi1 k i (by omega)
    refine ⟨F, _, g2, hC0, e2, bi g2 cc ?_ z2, ⟨E.cl0, E.cl1, E.K0, E.K1, E.v0, E.v1, ⟨?_, ?_, ?_⟩, hLR.2.1.same sm, hLR.2.2.same sm⟩, ?_, cc⟩
    · rw [c2.i (zlow 1 1 (by omega)), hI_sI, if_pos ⟨rfl, rfl⟩]
    · rw [mm 3, m33]; exact l0.far hj hj3 (fun k i u1 u2 u3 u4 => low2 k i u2 u3 u4 u1)
    · rw [mm 4, m34]; exact l1.far hj hj4 (fun k i u1 u2 u3 u4 => low2 k i u2 u3 u4 u1)
    · rw [mm 3, mm 4, m33, m34]; exact hne
    · unfold SPR
      rw [mm 3, mm 4, mm 5, m33, m34, m35]; exact ⟨hj, hj3, hj4⟩
  | inr cl =>
    rw [hrs] at O1
    obtain ⟨o1, p1, cst1, s1, t1, L1⟩ := O1
    have LC1 := L1.law
    have h14 := LC1.2.1
    simp only [hrs] at hRf
    rw [if_neg (by rw [o1]; exact nI_pos (by omega)), o1] at hC0
    have LCs : LawC (sI g1 1 1 0) j cl (fun r => ∃ v, cst1 r = some v) (fun r => (cst1 r).getD 0) := LC1.low (fun k i u1 u2 u3 => by rw [hI_sI, if_neg (by omega)])
    by_cases hw0 : w = 0
    · subst hw0
      have ets : m_X9_takeSpare (nI 0) (sI g1 1 1 0) = some ((), sM (sM (sI g1 1 1 0) 3 3 j) 3 5 (hM h 3 3)) := by
        have a3 : hM (sI g1 1 1 0) 3 3 = hM h 3 3 := m33
        have a5 : hM (sI g1 1 1 0) 3 5 = j := m35
        unfold m_X9_takeSpare m_X9_takeSpare_15
        rw [if_pos (by rfl), a3, gd_pos l0.1, if_pos (by rfl), a5, gd_pos hj, lt_eq, gd_pos l0.1, lt_eq]
      obtain ⟨hh, hhe⟩ : ∃ hh, hh = sM (sM (sI g1 1 1 0) 3 3 j) 3 5 (hM h 3 3) := ⟨_, rfl⟩
      rw [ets, bd_some, ← hhe] at hC0
      have ihh : ∀ k i, hI hh k i = hI (sI g1 1 1 0) k i := fun k i => by rw [hhe]; rfl
      obtain ⟨g2, c2, z2, e2, LM2⟩ := hRf hh (fun k i hk => by rw [ihh]; exact hi1 k i hk)
      have chh : Ch PWl h hh := by rw [hhe]; exact (c1'.sM (by simp)).sM (by simp)
      have cc := chh.trans (upz c2)
      have mm : ∀ i, hM g2 3 i = hM hh 3 i := fun i => (c2 3 i (zlow 3 i (by omega))).2.2
      have m3 : hM hh 3 3 = j := by rw [hhe]; rfl
      have m4 : hM hh 3 4 = hM h 3 4 := by rw [hhe]; exact m34
      have m5 : hM hh 3 5 = hM h 3 3 := by rw [hhe]; rfl
      have low2 : ∀ k i, k < 70 → hI g2 k i = hI (sI g1 1 1 0) k i := fun k i u1 => by rw [c2.i (zlow k i u1), ihh]
      have cM : Ch (PLz 0) hh g2 := c2
      have LMo : LawM hh 1 E.cl1 := hLR.2.2.same (fun k u1 u2 i => by rw [ihh]; exact hi1 k i (by omega))
      refine ⟨nI cl.length, hh, g2, hC0, e2, bi g2 cc ?_ z2, ⟨cl, E.cl1, (fun r => ∃ v, cst1 r = some v), E.K1, (fun r => (cst1 r).getD 0), E.v1, ⟨?_, ?_, ?_⟩, LM2, LMo.far (by omega) (by omega) (by omega) cM⟩, ?_, cc⟩
      · rw [low2 1 1 (by omega), hI_sI, if_pos ⟨rfl, rfl⟩]
      · rw [mm 3, m3]; exact LCs.low (fun k i u1 u2 u3 => low2 k i (by omega))
      · rw [mm 4, m4]; exact l1.far hj hj4 (fun k i u1 u2 u3 u4 => by rw [low2 k i (by omega), hI_sI, if_neg (by omega)]; exact (far1 k i u1 (by omega) (by omega)).1)
      · rw [mm 3, mm 4, m3, m4]; exact hj4
      · unfold SPR
        rw [mm 3, mm 4, mm 5, m3, m4, m5]; exact ⟨l0.1, fun e => hj3 e.symm, hne⟩
    · have hw' : w = 1 := by omega
      subst hw'
      have ets : m_X9_takeSpare (nI 1) (sI g1 1 1 0) = some ((), sM (sM (sI g1 1 1 0) 3 4 j) 3 5 (hM h 3 4)) := by
        have a4 : hM (sI g1 1 1 0) 3 4 = hM h 3 4 := m34
        have a5 : hM (sI g1 1 1 0) 3 5 = j := m35
        unfold m_X9_takeSpare m_X9_takeSpare_15
        rw [if_neg (by decide), a4, gd_pos l1.1, if_neg (by decide), a5, gd_pos hj, lt_eq, gd_pos l1.1, lt_eq]
      obtain ⟨hh, hhe⟩ : ∃ hh, hh = sM (sM (sI g1 1 1 0) 3 4 j) 3 5 (hM h 3 4) := ⟨_, rfl⟩
      rw [ets, bd_some, ← hhe] at hC0
      have ihh : ∀ k i, hI hh k i = hI (sI g1 1 1 0) k i := fun k i => by rw [hhe]; rfl
      obtain ⟨g2, c2, z2, e2, LM2⟩ := hRf hh (fun k i hk => by rw [ihh]; exact hi1 k i hk)
      have chh : Ch PWl h hh := by rw [hhe]; exact (c1'.sM (by simp)).sM (by simp)
      have cc := chh.trans (upz c2)
      have mm : ∀ i, hM g2 3 i = hM hh 3 i := fun i => (c2 3 i (zlow 3 i (by omega))).2.2
      have m3 : hM hh 3 3 = hM h 3 3 := by rw [hhe]; exact m33
      have m4 : hM hh 3 4 = j := by rw [hhe]; rfl
      have m5 : hM hh 3 5 = hM h 3 4 := by rw [hhe]; rfl
      have low2 : ∀ k i, k < 70 → hI g2 k i = hI (sI g1 1 1 0) k i := fun k i u1 => by rw [c2.i (zlow k i u1), ihh]
      have LMo : LawM hh 0 E.cl0 := hLR.2.1.same (fun k u1 u2 i => by rw [ihh]; exact hi1 k i (by omega))
      refine ⟨nI cl.length, hh, g2, hC0, e2, bi g2 cc ?_ z2, ⟨E.cl0, cl, E.K0, (fun r => ∃ v, cst1 r = some v), E.v0, (fun r => (cst1 r).getD 0), ⟨?_, ?_, ?_⟩, LMo.far (by omega) (by omega) (by omega) c2, LM2⟩, ?_, cc⟩
      · rw [low2 1 1 (by omega), hI_sI, if_pos ⟨rfl, rfl⟩]
      · rw [mm 3, m3]; exact l0.far hj hj3 (fun k i u1 u2 u3 u4 => by rw [low2 k i (by omega), hI_sI, if_neg (by omega)]; exact (far1 k i u1 (by omega) (by omega)).1)
      · rw [mm 4, m4]; exact LCs.low (fun k i u1 u2 u3 => low2 k i (by omega))
      · rw [mm 3, mm 4, m3, m4]; exact fun e => hj3 e.symm
      · unfold SPR
        rw [mm 3, mm 4, mm 5, m3, m4, m5]; exact ⟨l1.1, fun e => hne e.symm, fun e => hj4 e.symm⟩
