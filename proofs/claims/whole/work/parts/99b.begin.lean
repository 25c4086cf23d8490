/-! the beginning -/
theorem inv_0 : Inv 0 hE0 := by
  have law0 : ∀ j, isLaw j → hI hE0 j 9 = 0 → hI hE0 j 11 = 0 → LawC hE0 j [] (fun _ => False) (fun _ => 0) := fun j hj h9 h11 =>
    ⟨hj, by simp, by rw [h9]; rfl, by rw [h11]; rfl, fun r hr => hr.elim, fun i q hq => by simp at hq⟩
  have lawm : ∀ w, hI hE0 77 w = 0 → LawM hE0 w [] := fun w h77 => ⟨by simp, by rw [h77]; rfl, fun i q hq => by simp at hq⟩
  have z4 : ∀ i, hI hE0 4 i = 0 := fun i => rfl
  have z5 : ∀ i, hI hE0 5 i = 0 := fun i => rfl
  have m3 : hM hE0 3 3 = 7 ∧ hM hE0 3 4 = 15 ∧ hM hE0 3 5 = 23 := ⟨rfl, rfl, rfl⟩
  refine ⟨⟨⟨rfl, by decide, by decide, fun i hi => ?_⟩, fun i hi => ⟨rfl, by rw [z4]; decide⟩, fun i hi => ⟨rfl, by rw [z5]; decide, by rw [z5]; decide⟩, ⟨rfl, by decide, by decide, rfl, fun i hi => ?_⟩, ⟨rfl, by decide, by decide⟩, ⟨rfl, Or.inl rfl⟩⟩, ⟨[], [], fun _ => False, fun _ => False, fun _ => 0, fun _ => 0, ⟨?_, ?_, ?_⟩, lawm 0 rfl, lawm 1 rfl⟩, ?_, 0, Nat.le_refl _, rfl, fun key hk => ?_⟩
  · have : (hI hE0 1 1).toInt = 0 := by decide
    omega
  · have : (hI hE0 42 3).toInt = 0 := by decide
    omega
  · rw [m3.1]; exact law0 7 (Or.inl rfl) rfl rfl
  · rw [m3.2.1]; exact law0 15 (Or.inr (Or.inl rfl)) rfl rfl
  · rw [m3.1, m3.2.1]; decide
  · unfold SPR
    rw [m3.1, m3.2.1, m3.2.2]; exact ⟨Or.inr (Or.inr (Or.inl rfl)), by decide, by decide⟩
  · show (hL hE0 32 key >>> (((32 : Int32)).toInt64 &&& 63)).toInt ≤ 0
    have : hL hE0 32 key = 0 := rfl
    rw [this]; decide
theorem pure_all (L : Nat) (xs : Nat → Int32) (hL : L ≤ 3584) : ∃ h1 : AHp, m_L_law_18 L xs FU 0 hE0 = some (1, h1) :=
  pure_of Inv inv_0 (fun _ _ x _ => x.step) (fun _ _ x hn => inv_sims x hn) L xs hL
