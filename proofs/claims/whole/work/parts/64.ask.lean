/-! asking now: both sides -/
def LR (h : AHp) (cl0 cl1 : List Clz) (K0 K1 : Nat → Prop) (v0 v1 : Nat → Int32) : Prop := L2 h cl0 cl1 K0 K1 v0 v1 ∧ LawM h 0 cl0 ∧ LawM h 1 cl1
theorem tb_mask {k : Nat} (hk : k < 32) : tb 33554430 k = decide (1 ≤ k ∧ k ≤ 24) := by
  have : ∀ j : Fin 32, tb 33554430 j.val = decide (1 ≤ j.val ∧ j.val ≤ 24) := by decide
  exact this ⟨k, hk⟩
theorem BS.bits {h : AHp} (hB : BS h) {i : Nat} (hi : i < 12) {k : Nat} (hk : k < 32) (ht : tb (hI h 4 i) k = true) : 1 ≤ k ∧ k ≤ 24 := by
  have e := (hB i hi).2
  rw [← e, tb_and, tb_mask hk] at ht
  simp at ht; exact ht.2
theorem ok2_nine {h : AHp} {cl0 cl1 : List Clz} {K0 K1 : Nat → Prop} {v0 v1 : Nat → Int32} (hL : L2 h cl0 cl1 K0 K1 v0 v1) (laws : Int32) {e e2 : Mom} (he : ∀ i, i < 9 → e i = e2 i) : ok2 cl0 cl1 laws e = ok2 cl0 cl1 laws e2 := by
  unfold ok2
  rw [letsD_nine hL.1 he, letsD_nine hL.2.1 he]
abbrev PA (h : AHp) : Nat → Nat → Bool := fun k i => k == 6 || k == hM h 3 3 + 2 || k == hM h 3 4 + 2 || k == 92 || k == 93 || (k == 70 && decide (33 ≤ i ∧ i ≤ 39))
theorem PA_f {h : AHp} (l0 : isLaw (hM h 3 3)) (l1 : isLaw (hM h 3 4)) {k i : Nat} (hk : k ≤ 5 ∨ 37 ≤ k) (h92 : k ≠ 92 ∧ k ≠ 93) (h70 : k = 70 → i < 33 ∨ 39 < i) : PA h k i = false := by
  have b0 := law_bounds l0
  have b1 := law_bounds l1
  simp only [Bool.or_eq_false_iff, Bool.and_eq_false_iff, beq_eq_false_iff_ne, decide_eq_false_iff_not]
  omega
theorem BI.pa {h h2 : AHp} (hB : BI h) (l0 : isLaw (hM h 3 3)) (l1 : isLaw (hM h 3 4)) (c : Ch (PA h) h h2) : BI h2 := by
  obtain ⟨a1, a2, a3, a4, a5, a6⟩ := hB
  have f : ∀ {k i : Nat}, (k ≤ 5 ∨ 37 ≤ k) → (k ≠ 92 ∧ k ≠ 93) → (k = 70 → i < 33 ∨ 39 < i) → PA h k i = false := fun p q r => PA_f l0 l1 p q r
  refine ⟨a1.ch c (f (by omega) (by omega) (by omega)) (f (by omega) (by omega) (by omega)) (fun _ => f (by omega) (by omega) (by omega)) (fun _ => f (by omega) (by omega) (by omega)), a2.ch c (fun _ => f (by omega) (by omega) (by omega)) (fun _ => f (by omega) (by omega) (by omega)), a3.ch c (fun _ => f (by omega) (by omega) (by omega)) (fun _ => f (by omega) (by omega) (by omega)), a4.ch c ⟨f (by omega) (by omega) (by omega), f (by omega) (by omega) (by omega), f (by omega) (by omega) (by omega)⟩ (fun _ => f (by omega) (by omega) (by omega)) (fun _ => f (by omega) (by omega) (by omega)) (fun _ => f (by omega) (by omega) (by omega)) (fun _ => f (by omega) (by omega) (by omega)) (fun _ => f (by omega) (by omega) (by omega)) (fun _ => f (by omega) (by omega) (by omega)), a5.ch c ⟨f (by omega) (by omega) (by omega), f (by omega) (by omega) (by omega)⟩, a6.ch c ⟨f (by omega) (by omega) (by omega), f (by omega) (by omega) (by omega), f (by omega) (by omega) (by omega), f (by omega) (by omega) (by omega), f (by omega) (by omega) (by omega), f (by omega) (by omega) (by omega), f (by omega) (by omega) (by omega)⟩ (fun _ => ⟨f (by omega) (by omega) (by omega), f (by omega) (by omega) (by omega), f (by omega) (by omega) (by omega), f (by omega) (by omega) (by omega), f (by omega) (by omega) (by omega), f (by omega) (by omega) (by omega), f (by omega) (by omega) (by omega), f (by omega) (by omega) (by omega)⟩)⟩
theorem stH_ch (h : AHp) (a b r k : Int32) (P : Nat → Nat → Bool) (hp : ∀ i, P 6 i = true) : Ch P h (stH h a b r k) := ((((Ch.rf.sI (hp _)).sI (hp _)).sI (hp _)).sI (hp _)).sI (hp _)
theorem ways_now {h : AHp} {cl0 cl1 : List Clz} {K0 K1 : Nat → Prop} {v0 v1 : Nat → Int32} (hB : BI h) (hL : LR h cl0 cl1 K0 K1 v0 v1) (laws s t : Int32) (hs : 0 ≤ s.toInt ∧ s.toInt ≤ 5) (ht : 0 ≤ t.toInt ∧ t.toInt ≤ 11) :
    ∃ hA x h1 h2 h3, m_X11_standNow h = some ((), hA) ∧ m_X9_lets laws s t (hI h 4 t.toNatClampNeg) hA = some (x, h1) ∧ hI hA 4 t.toNatClampNeg = hI h 4 t.toNatClampNeg ∧ m_X12_standsAt (hI h1 70 3) h1 = some ((), h2) ∧ m_X12_waysBy laws s t h2 = some (x, h3) ∧ BI h3 ∧ LR h3 cl0 cl1 K0 K1 v0 v1 ∧ Ch (PA h) h h3 := by
  obtain ⟨a1, a2, a3, a4, a5, a6⟩ := id hB
  obtain ⟨hL2, hM0, hM1⟩ := hL
  obtain ⟨m, em, em2, hm⟩ := nat_of a4.2.1
  have hm200 : m ≤ 200 := by have := a4.2.2.1; omega
  have ht12 : t.toNatClampNeg < 12 := clamp_lt ht.1 (by omega)
  have b0 := law_bounds hL2.1.1
  have b1 := law_bounds hL2.2.1.1
  have cA : Ch (PA h) h (stH h (lenA h 45 m) (lenB h 45 m) (spkR h 43 m) (nI m)) := stH_ch _ _ _ _ _ _ (fun i => by simp)
  have eA := standNowC em hm200
  generalize hAe : stH h (lenA h 45 m) (lenB h 45 m) (spkR h 43 m) (nI m) = hA at cA eA
  have mA3 : hM hA 3 3 = hM h 3 3 := by rw [← hAe]; rfl
  have mA4 : hM hA 3 4 = hM h 3 4 := by rw [← hAe]; rfl
  have hL2A : L2 hA cl0 cl1 K0 K1 v0 v1 := hL2.next mA3 mA4 (fun k p q i => by
    rw [← hAe]; unfold stH
    rw [hI_sI, if_neg (by omega), hI_sI, if_neg (by omega), hI_sI, if_neg (by omega), hI_sI, if_neg (by omega), hI_sI, if_neg (by omega)])
  obtain ⟨x, h1, e1, c1, l1, q1⟩ := letsC hL2A laws s t (hI h 4 t.toNatClampNeg) (fun k hk hb => a2.bits ht12 hk hb)
  have c1' : Ch (PA h) hA h1 := c1.mono (fun k i hp => by
    simp only [Bool.or_eq_false_iff, Bool.and_eq_false_iff, beq_eq_false_iff_ne] at hp ⊢
    rw [mA3, mA4]; omega)
  have cH1 := cA.trans c1'
  have f : ∀ {k i : Nat}, (k ≤ 5 ∨ 37 ≤ k) → (k ≠ 92 ∧ k ≠ 93) → (k = 70 → i < 33 ∨ 39 < i) → hI h1 k i = hI h k i := fun p q r => cH1.i (PA_f hL2.1.1 hL2.2.1.1 p q r)
  have e70 : hI h1 70 3 = nI m := by rw [f (by omega) (by omega) (by omega), a4.1, em]
  obtain ⟨h2, e2, c2, g39, g36, g37, g38⟩ := standsAtM (h := h1) (m := m) hm200
  have c2' : Ch (PA h) h1 h2 := c2.mono (fun k i hp => by
    simp only [Bool.or_eq_false_iff, Bool.and_eq_false_iff, beq_eq_false_iff_ne, decide_eq_false_iff_not] at hp ⊢
    omega)
  have cH2 := cH1.trans c2'
  have fs : ∀ g, Ch (PA h) h g → sameLM h g := fun g cg => sameLM.ch cg (fun k p q i => PA_f hL2.1.1 hL2.2.1.1 (by omega) (by omega) (by omega))
  have lenA_eq : lenA h1 96 m = lenA h 45 m := by
    unfold lenA; split
    · rw [f (by omega) (by omega) (by omega)]; exact (a4.2.2.2.2 (m - 1) (by omega)).2.2.1
    · rfl
  have lenB_eq : lenB h1 96 m = lenB h 45 m := by
    unfold lenB; split
    · rw [f (by omega) (by omega) (by omega)]; exact (a4.2.2.2.2 (m - 2) (by omega)).2.2.1
    · rfl
  have spk_eq : spkR h1 94 m = spkR h 43 m := by
    unfold spkR; split
    · rw [f (by omega) (by omega) (by omega)]; exact (a4.2.2.2.2 (m - 1) (by omega)).1.1
    · rfl
  have spk_b : -1 ≤ (spkR h 43 m).toInt ∧ (spkR h 43 m).toInt ≤ 5 := by
    unfold spkR; split
    · have := (a4.2.2.2.2 (m - 1) (by omega)).1; omega
    · exact ⟨by decide, by decide⟩
  have okh : okL h2 := by unfold okL; rw [g38, spk_eq]; exact spk_b
  obtain ⟨y, h3, e3, c3, q3⟩ := waysM (laws := laws) (h := h2) hs ht (hM0.same (fs h2 cH2)) (hM1.same (fs h2 cH2)) okh
  have c3' : Ch (PA h) h2 h3 := c3.mono (fun k i hp => by
    simp only [Bool.or_eq_false_iff, Bool.and_eq_false_iff, beq_eq_false_iff_ne, decide_eq_false_iff_not] at hp ⊢
    omega)
  have cH3 := cH2.trans c3'
  have hme : ∀ l i, i < 9 → eL (hI (leH hA s t) 6) l i = momS h2 s t l i := fun l => by
    rw [← hAe]
    refine mom_eq hs spk_b (fun i hi => ?_) (by rw [g36, lenA_eq]) (by rw [g37, lenB_eq]) (by rw [g38, spk_eq]) g39
    rw [cH2.i (PA_f hL2.1.1 hL2.2.1.1 (by omega) (by omega) (by omega))]; exact (a3 i hi).1
  have hxy : y = x := by
    apply tb_ext
    intro k hk
    rw [q3 k hk, q1 k hk, ok2_nine hL2A laws (hme (nI k)), cH2.i (PA_f hL2.1.1 hL2.2.1.1 (by omega) (by omega) (by omega)), (a2 _ ht12).1]
    by_cases hb : tb (hI h 4 t.toNatClampNeg) k = true
    · rw [decide_eq_true (a2.bits ht12 hk hb)]; simp
    · simp at hb; rw [hb]; simp
  subst hxy
  refine ⟨hA, y, h1, h2, h3, eA, e1, ?_, by rw [e70]; exact e2, e3, hB.pa hL2.1.1 hL2.2.1.1 cH3, ⟨?_, hM0.same (fs h3 cH3), hM1.same (fs h3 cH3)⟩, cH3⟩
  · exact cA.i (PA_f hL2.1.1 hL2.2.1.1 (by omega) (by omega) (by omega))
  · have m1 : ∀ i, hM h3 3 i = hM h1 3 i := fun i => ((c2 3 i rfl).2.2.symm ▸ (c3 3 i rfl).2.2)
    refine l1.next (m1 3) (m1 4) (fun k p q i => ?_)
    rw [c3.i (by simp; omega), c2.i (by simp; omega)]
