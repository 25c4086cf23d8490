/-! asking now: both sides -/
def LR (h : AHp) (cl0 cl1 : List Clz) (K0 K1 : Nat → Prop) (v0 v1 : Nat → Int32) : Prop := L2 h cl0 cl1 K0 K1 v0 v1 ∧ LawM h 0 cl0 ∧ LawM h 1 cl1
theorem tb_mask {k : Nat} (hk : k < 32) : tb 33554430 k = decide (1 ≤ k ∧ k ≤ 24) := by
  have : ∀ j : Fin 32, tb 33554430 j.val = decide (1 ≤ j.val ∧ j.val ≤ 24) := by decide
  exact this ⟨k, hk⟩
theorem BS.bits {h : AHp} (hB : BS h) {i : Nat} (hi : i < 12) {k : Nat} (hk : k < 32) (ht : tb (hI h 4 i) k = true) : 1 ≤ k ∧ k ≤ 24 := by
  have e := (hB i hi).2
  rw [← e, tb_and, tb_mask hk] at ht
  simp at ht; exact ht.2
theorem ok2_nine {h : AHp} {cl0 cl1 : List Clz} {K0 K1 : Nat → Prop} {v0 v1 : Nat → Int32} (hL : L2 h cl0 cl1 K0 K1 v0 v1) (laws : Int32) {e e2 : Mom} (he : ∀ i, i < 9 → e i = e2 i) : ok2 cl0 cl1 laws e = ok2 cl0 cl1 laws e2 := by
  unfold ok2
  rw [letsD_nine hL.1 he, letsD_nine hL.2.1 he]
abbrev PA (h : AHp) : Nat → Nat → Bool := fun k i => k == 6 || k == hM h 3 3 + 2 || k == hM h 3 4 + 2 || k == 92 || k == 93 || (k == 70 && decide (33 ≤ i ∧ i ≤ 39))
theorem PA_f {h : AHp} (l0 : isLaw (hM h 3 3)) (l1 : isLaw (hM h 3 4)) {k i : Nat} (hk : k ≤ 5 ∨ 37 ≤ k) (h92 : k ≠ 92 ∧ k ≠ 93) (h70 : k = 70 → i < 33 ∨ 39 < i) : PA h k i = false := by
  have b0 := law_bounds l0
  have b1 := law_bounds l1
  simp only [Bool.or_eq_false_iff, Bool.and_eq_false_iff, beq_eq_false_iff_ne, decide_eq_false_iff_not]
  omega
theorem BI.pa {h h2 : AHp} (hB : BI h) (l0 : isLaw (hM h 3 3)) (l1 : isLaw (hM h 3 4)) (c : Ch (PA h) h h2) : BI h2 := by
  obtain ⟨a1, a2, a3, a4, a5, a6⟩ := hB
  have f : ∀ {k i : Nat}, (k ≤ 5 ∨ 37 ≤ k) → (k ≠ 92 ∧ k ≠ 93) → (k = 70 → i < 33 ∨ 39 < i) → PA h k i = false := fun p q r => PA_f l0 l1 p q r
  refine ⟨a1.ch c (f (by omega) (by omega) (by omega)) (f (by omega) (by omega) (by omega)) (fun _ => f (by omega) (by omega) (by omega)) (fun _ => f (by omega) (by omega) (by omega)), a2.ch c (fun _ => f (by omega) (by omega) (by omega)) (fun _ => f (by omega) (by omega) (by omega)), a3.ch c (fun _ => f (by omega) (by omega) (by omega)) (fun _ => f (by omega) (by omega) (by omega)), a4.ch c ⟨f (by omega) (by omega) (by omega), f (by omega) (by omega) (by omega), f (by omega) (by omega) (by omega)⟩ (fun _ => f (by omega) (by omega) (by omega)) (fun _ => f (by omega) (by omega) (by omega)) (fun _ => f (by omega) (by omega) (by omega)) (fun _ => f (by omega) (by omega) (by omega)) (fun _ => f (by omega) (by omega) (by omega)) (fun _ => f (by omega) (by omega) (by omega)), a5.ch c ⟨f (by omega) (by omega) (by omega), f (by omega) (by omega) (by omega)⟩, a6.ch c ⟨f (by omega) (by omega) (by omega), f (by omega) (by omega) (by omega), f (by omega) (by omega) (by omega), f (by omega) (by omega) (by omega), f (by omega) (by omega) (by omega), f (by omega) (by omega) (by omega), f (by omega) (by omega) (by omega)⟩ (fun _ => ⟨f (by omega) (by omega) (by omega), f (by omega) (by omega) (by omega), f (by omega) (by omega) (by omega), f (by omega) (by omega) (by omega), f (by omega) (by omega) (by omega), f (by omega) (by omega) (by omega), f (by omega) (by omega) (by omega), f (by omega) (by omega) (by omega)⟩)⟩
