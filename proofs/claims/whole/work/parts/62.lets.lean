/-! the class's moment, and its lets -/
def colD (h : AHp) (r : Int32) : Int32 := if 0 ≤ r.toInt ∧ r.toInt ≤ 5 then hI h 5 r.toNatClampNeg else 0
def stH (h : AHp) (a b r k : Int32) : AHp := sI (sI (sI (sI (sI h 6 4 a) 6 5 b) 6 6 (if 0 < r then r else 0)) 6 7 (colD h r)) 6 8 k
theorem standC (a b r k : Int32) (h : AHp) : m_X9_stand a b r k h = some ((), stH h a b r k) := by
  unfold m_X9_stand stH
  simp only [lt_eq, colourOfC, bd_some]
  rfl
def leH (h : AHp) (s t : Int32) : AHp := sI (sI (sI h 6 2 s) 6 3 (colD h s)) 6 1 t
/-- two laws of the class -/
def L2 (h : AHp) (cl0 cl1 : List Clz) (K0 K1 : Nat → Prop) (v0 v1 : Nat → Int32) : Prop := LawC h (hM h 3 3) cl0 K0 v0 ∧ LawC h (hM h 3 4) cl1 K1 v1 ∧ hM h 3 3 ≠ hM h 3 4
abbrev PL (h : AHp) : Nat → Nat → Bool := fun k i => (k == 6 && (i == 1 || i == 2 || i == 3)) || k == hM h 3 3 + 2 || k == hM h 3 4 + 2
theorem law_bounds {j : Nat} (h : isLaw j) : 7 ≤ j ∧ j ≤ 34 := by rcases h with rfl | rfl | rfl | rfl <;> omega
theorem law_apart {j i : Nat} (h : isLaw j) (h2 : isLaw i) (hne : j ≠ i) : j + 7 < i ∨ i + 7 < j := by
  rcases h with rfl | rfl | rfl | rfl <;> rcases h2 with rfl | rfl | rfl | rfl <;> first | omega | exact absurd rfl hne
theorem tb_two {k : Nat} (hk : k < 32) : tb 2 k = decide (k = 1) := by
  have : ∀ j : Fin 32, tb 2 j.val = decide (j.val = 1) := by decide
  exact this ⟨k, hk⟩
theorem tb_second (x : Int32) : (x &&& 2 = 0) ↔ tb x 1 = false := by
  constructor
  · intro h
    have e : tb (x &&& 2) 1 = false := by rw [h, tb_zero]
    rw [tb_and, tb_two (by omega)] at e
    simpa using e
  · intro h
    apply tb_ext
    intro k hk
    rw [tb_and, tb_two hk, tb_zero]
    by_cases h1 : k = 1
    · rw [h1, h]; rfl
    · rw [decide_eq_false h1, Bool.and_false]
theorem L2.next {h g : AHp} {cl0 cl1 : List Clz} {K0 K1 : Nat → Prop} {v0 v1 : Nat → Int32} (hL : L2 h cl0 cl1 K0 K1 v0 v1) (e3 : hM g 3 3 = hM h 3 3) (e4 : hM g 3 4 = hM h 3 4) (c : ∀ k, 7 ≤ k → k ≤ 41 → ∀ i, hI g k i = hI h k i) : L2 g cl0 cl1 K0 K1 v0 v1 := by
  obtain ⟨l0, l1, hne⟩ := hL
  have b0 := law_bounds l0.1
  have b1 := law_bounds l1.1
  unfold L2
  rw [e3, e4]
  refine ⟨l0.next (fun k a b _ i => c k (by omega) (by omega) i) (fun r hr => by rw [c _ (by omega) (by omega)]; exact (l0.2.2.2.2.1 r hr).2), l1.next (fun k a b _ i => c k (by omega) (by omega) i) (fun r hr => by rw [c _ (by omega) (by omega)]; exact (l1.2.2.2.2.1 r hr).2), hne⟩
theorem letsC {h : AHp} {cl0 cl1 : List Clz} {K0 K1 : Nat → Prop} {v0 v1 : Nat → Int32} (hL : L2 h cl0 cl1 K0 K1 v0 v1) (laws s t x : Int32) (hx : ∀ k, k < 32 → tb x k = true → 1 ≤ k ∧ k ≤ 24) : ∃ r h1, m_X9_lets laws s t x h = some (r, h1) ∧ Ch (PL h) h h1 ∧ L2 h1 cl0 cl1 K0 K1 v0 v1 ∧ ∀ k, k < 32 → tb r k = (tb x k && ok2 cl0 cl1 laws (eL (hI (leH h s t) 6) (nI k))) := by
  have c0 : Ch (PL h) h (leH h s t) := ((Ch.rf.sI rfl).sI rfl).sI rfl
  have hL0 : L2 (leH h s t) cl0 cl1 K0 K1 v0 v1 := hL.next rfl rfl (fun k a b i => by
    unfold leH
    rw [hI_sI, if_neg (by omega), hI_sI, if_neg (by omega), hI_sI, if_neg (by omega)])
  have e0 : m_X9_lets laws s t x h = (if (laws &&& 1) = 0 then (m_X9_lets_50 laws x (leH h s t)) else (gd (isLaw (hM (leH h s t) 3 3)) (bd (m_X2_allowed (hM (leH h s t) 3 3) x (leH h s t)) fun r10 h11 => (m_X9_lets_50 laws r10 h11)))) := by
    unfold m_X9_lets
    simp only [lt_eq, colourOfC, bd_some]
    rfl
  /- the second law -/
  have second : ∀ (x2 : Int32) (g : AHp), Ch (PL h) h g → L2 g cl0 cl1 K0 K1 v0 v1 → hI g 6 = hI (leH h s t) 6 → (∀ k, k < 32 → tb x2 k = true → 1 ≤ k ∧ k ≤ 24) → ∃ r h1, m_X9_lets_50 laws x2 g = some (r, h1) ∧ Ch (PL h) h h1 ∧ L2 h1 cl0 cl1 K0 K1 v0 v1 ∧ ∀ k, k < 32 → tb r k = (tb x2 k && (!tb laws 1 || letsD cl1 (eL (hI (leH h s t) 6) (nI k)))) := by
    intro x2 g cg hLg hm hx2
    have g3 : hM g 3 3 = hM h 3 3 := (cg 3 3 (by have := law_bounds hL.1.1; have := law_bounds hL.2.1.1; simp; omega)).2.2
    have g4 : hM g 3 4 = hM h 3 4 := (cg 3 4 (by have := law_bounds hL.1.1; have := law_bounds hL.2.1.1; simp; omega)).2.2
    unfold m_X9_lets_50
    cases hb : tb laws 1 with
    | false =>
      rw [if_pos ((tb_second laws).mpr hb)]
      exact ⟨x2, g, rfl, cg, hLg, fun k hk => by simp⟩
    | true =>
      rw [if_neg (fun z => by rw [(tb_second laws).mp z] at hb; cases hb), gd_pos hLg.2.1.1]
      obtain ⟨r, h1, e1, c1, l1, b1⟩ := allowedC hLg.2.1 x2 hx2
      rw [e1, bd_some]
      have h3 : hM h1 3 3 = hM g 3 3 := (c1 3 3 (by have := law_bounds hLg.2.1.1; simp; omega)).2.2
      have h4 : hM h1 3 4 = hM g 3 4 := (c1 3 4 (by have := law_bounds hLg.2.1.1; simp; omega)).2.2
      have ap := law_apart hLg.1.1 hLg.2.1.1 hLg.2.2
      refine ⟨r, h1, rfl, cg.trans (c1.mono (fun k i hp => ?_)), ⟨?_, ?_, ?_⟩, fun k hk => ?_⟩
      · simp only [Bool.or_eq_false_iff] at hp
        rw [g4]; exact hp.2
      · rw [h3]
        exact hLg.1.next (fun k a b _ i => c1.i (by simp; omega)) (fun r hr => by rw [c1.i (by simp; omega)]; exact (hLg.1.2.2.2.2.1 r hr).2)
      · rw [h4]; exact l1
      · rw [h3, h4]; exact hLg.2.2
      · rw [b1 k hk, hm]; simp
  rw [e0]
  cases hb : tb laws 0 with
  | false =>
    rw [if_pos ((tb_first laws).mpr hb)]
    obtain ⟨r, h1, e1, c1, l1, b1⟩ := second x _ c0 hL0 rfl hx
    refine ⟨r, h1, e1, c1, l1, fun k hk => ?_⟩
    rw [b1 k hk]; unfold ok2; rw [hb]; simp
  | true =>
    rw [if_neg (fun z => by rw [(tb_first laws).mp z] at hb; cases hb), gd_pos hL0.1.1]
    obtain ⟨r, h1, e1, c1, l1, b1⟩ := allowedC hL0.1 x hx
    rw [e1, bd_some]
    have h3 : hM h1 3 3 = hM h 3 3 := (c1 3 3 (by have := law_bounds hL0.1.1; simp; omega)).2.2
    have h4 : hM h1 3 4 = hM h 3 4 := (c1 3 4 (by have := law_bounds hL0.1.1; simp; omega)).2.2
    have ap := law_apart hL.1.1 hL.2.1.1 hL.2.2
    obtain ⟨r2, h2, e2, c2, l2, b2⟩ := second r h1 (c0.trans (c1.mono (fun k i hp => by
      simp only [Bool.or_eq_false_iff] at hp
      exact hp.1.2))) ⟨by rw [h3]; exact l1, by
        rw [h4]
        exact hL0.2.1.next (fun k a b _ i => c1.i (by simp; show ¬ k = hM h 3 3 + 2; have : hM (leH h s t) 3 4 = hM h 3 4 := rfl; omega)) (fun r hr => by rw [c1.i (by simp; show ¬ hM h 3 4 = hM h 3 3; exact fun z => hL.2.2 z.symm)]; exact (hL0.2.1.2.2.2.2.1 r hr).2), by rw [h3, h4]; exact hL.2.2⟩ (c1.r (fun i => by simp; have := law_bounds hL0.1.1; omega)) (fun k hk ht => hx k hk (by rw [b1 k hk] at ht; simp at ht; exact ht.1))
    refine ⟨r2, h2, e2, c2, l2, fun k hk => ?_⟩
    rw [b2 k hk, b1 k hk]; unfold ok2; rw [hb]; simp [Bool.and_assoc]
