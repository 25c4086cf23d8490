/-! asking now: both sides -/
def LR (h : AHp) (cl0 cl1 : List Clz) (K0 K1 : Nat → Prop) (v0 v1 : Nat → Int32) : Prop := L2 h cl0 cl1 K0 K1 v0 v1 ∧ LawM h 0 cl0 ∧ LawM h 1 cl1
theorem tb_mask {k : Nat} (hk : k < 32) : tb 33554430 k = decide (1 ≤ k ∧ k ≤ 24) := by
  have : ∀ j : Fin 32, tb 33554430 j.val = decide (1 ≤ j.val ∧ j.val ≤ 24) := by decide
  exact this ⟨k, hk⟩
theorem BS.bits {h : AHp} (hB : BS h) {i : Nat} (hi : i < 12) {k : Nat} (hk : k < 32) (ht : tb (hI h 4 i) k = true) : 1 ≤ k ∧ k ≤ 24 := by
  have e := (hB i hi).2
  rw [← e, tb_and, tb_mask hk] at ht
  simp at ht; exact ht.2
theorem ok2_nine {h : AHp} {cl0 cl1 : List Clz} {K0 K1 : Nat → Prop} {v0 v1 : Nat → Int32} (hL : L2 h cl0 cl1 K0 K1 v0 v1) (laws : Int32) {e e2 : Mom} (he : ∀ i, i < 9 → e i = e2 i) : ok2 cl0 cl1 laws e = ok2 cl0 cl1 laws e2 := by
  unfold ok2
  rw [letsD_nine hL.1 he, letsD_nine hL.2.1 he]
