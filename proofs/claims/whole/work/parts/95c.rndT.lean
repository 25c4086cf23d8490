/-! rounds: thinning, the whole -/
section THIN
variable {E : En} {t c : Nat}
theorem thinBeh {s a : Nat} {g : AHp} (ht : t ≤ 11) (hs : s ≤ 1) (ha : 1 ≤ a ∧ a ≤ 24) (x : CX E g) (rx : RdX E t g) (mg : MG g c (GR E t)) (al : Alv E t g) : ∃ v g1, m_X5_thinOutBehind (nI s) (nI a) g = some (v, g1) ∧ (v = 0 ∨ v = 1) ∧ CX E g1 ∧ RdX E t g1 ∧ MG g1 c (GR E t) ∧ Alv E t g1 ∧ Ch PVt g g1 := by
  have h := thin46 (c := c) ht hs ha 24 1 FU 0 0 g (by omega) (by omega) (by unfold FU; omega) (Or.inl rfl) x rx mg al (fun u l h1 h2 => by omega)
  have e21 : ∀ (b : Nat) (s0 : Int32), s0 + nI a = nI b → m_X5_thinOutBehind_21 (nI s) (nI a) (nI (s * 25)) s0 g = m_X5_thinOutBehind_46 FU (nI s) (nI a) (nI (s * 25)) (nI b) 0 0 1 g := fun b s0 hb => by
    unfold m_X5_thinOutBehind_21
    rw [hb, lt_eq, if_neg (nI_pos (by omega)), if_pos (show nI a < 25 from nI_lt (b := 25) (by omega) (by omega))]
  unfold m_X5_thinOutBehind
  have hc : s = 0 ∨ s = 1 := by omega
  rcases hc with rfl | rfl
  · rw [if_pos (show nI 0 = 0 from rfl), if_pos (show nI 0 = 0 from rfl)]
    rw [show m_X5_thinOutBehind_21 (nI 0) (nI a) 0 25 g = _ from e21 ((1 - 0) * 25 + a) 25 (nI_add 25 a)]
    exact h
  · rw [if_neg (show ¬ nI 1 = 0 from by decide), if_neg (show ¬ nI 1 = 0 from by decide)]
    rw [show m_X5_thinOutBehind_21 (nI 1) (nI a) 25 0 g = _ from e21 ((1 - 1) * 25 + a) 0 (by rw [show (0 : Int32) + nI a = nI (0 + a) from nI_add 0 a])]
    exact h
theorem thin18 (ht : t ≤ 11) (k4 : Int32 → Int32 → AHp → Option (Unit × AHp)) : ∀ (d a f : Nat) (x1 x2 : Int32) (g : AHp), a + d = 25 → 1 ≤ a → d < f → (x1 = 0 ∨ x1 = 1) → CX E g → RdX E t g → MG g c (GR E t) → Alv E t g → ∃ v g1, m_X5_thinOutAll_18 k4 f x1 x2 (nI a) g = k4 v (x2 + 1) g1 ∧ (v = 0 ∨ v = 1) ∧ CX E g1 ∧ RdX E t g1 ∧ MG g1 c (GR E t) ∧ Alv E t g1 ∧ Ch PVt g g1 := by
  intro d
  induction d with
  | zero =>
    intro a f x1 x2 g ha h1 hf h5 x rx mg al
    obtain ⟨f, rfl⟩ : ∃ a, f = a + 1 := ⟨f - 1, by omega⟩
    have : a = 25 := by omega
    subst this
    exact ⟨x1, g, by rw [m_X5_thinOutAll_18, if_pos (by decide), lt_eq], h5, x, rx, mg, al, Ch.rf⟩
  | succ d ih =>
    intro a f x1 x2 g ha h1 hf h5 x rx mg al
    obtain ⟨f, rfl⟩ : ∃ a, f = a + 1 := ⟨f - 1, by omega⟩
    obtain ⟨v, g1, e1, hv, x1', rx1, mg1, al1, c1⟩ := thinBeh (s := 0) (a := a) ht (by omega) ⟨h1, by omega⟩ x rx mg al
    obtain ⟨w, g2, e2, hw, x2', rx2, mg2, al2, c2⟩ := thinBeh (s := 1) (a := a) ht (by omega) ⟨h1, by omega⟩ x1' rx1 mg1 al1
    have hor : ∀ p q : Int32, (p = 0 ∨ p = 1) → (q = 0 ∨ q = 1) → (p ||| q = 0 ∨ p ||| q = 1) := fun p q hp hq => by rcases hp with rfl | rfl <;> rcases hq with rfl | rfl <;> decide
    rw [m_X5_thinOutAll_18, if_neg (show ¬ 25 ≤ nI a from nI_ge (a := a) (b := 25) (by omega) (by omega))]
    rw [show m_X5_thinOutBehind 0 (nI a) g = _ from e1, bd_some, lt_eq]
    rw [show m_X5_thinOutBehind 1 (nI a) g1 = _ from e2, bd_some, lt_eq, lt_eq, nI_1]
    obtain ⟨u, g3, e3, hu, x3, rx3, mg3, al3, c3⟩ := ih (a + 1) f ((x1 ||| v) ||| w) x2 g2 (by omega) (by omega) (by omega) (hor _ _ (hor _ _ h5 hv) hw) x2' rx2 mg2 al2
    exact ⟨u, g3, e3, hu, x3, rx3, mg3, al3, (c1.trans c2).trans c3⟩
theorem thin4 (ht : t ≤ 11) : ∀ (d i f : Nat) (x1 : Int32) (g : AHp), i + d = 64 → d < f → CX E g → RdX E t g → MG g c (GR E t) → Alv E t g → ∃ g1, m_X5_thinOutAll_4 f x1 (nI i) g = some ((), g1) ∧ CX E g1 ∧ RdX E t g1 ∧ MG g1 c (GR E t) ∧ Alv E t g1 ∧ Ch PVt g g1 := by
  intro d
  induction d with
  | zero =>
    intro i f x1 g hi hf x rx mg al
    obtain ⟨f, rfl⟩ : ∃ a, f = a + 1 := ⟨f - 1, by omega⟩
    have : i = 64 := by omega
    subst this
    exact ⟨g, by rw [m_X5_thinOutAll_4, if_pos (by decide)], x, rx, mg, al, Ch.rf⟩
  | succ d ih =>
    intro i f x1 g hi hf x rx mg al
    obtain ⟨f, rfl⟩ : ∃ a, f = a + 1 := ⟨f - 1, by omega⟩
    rw [m_X5_thinOutAll_4, if_neg (show ¬ 64 ≤ nI i from nI_ge (a := i) (b := 64) (by omega) (by omega))]
    by_cases h0 : x1 = 0
    · rw [if_pos h0]; exact ⟨g, rfl, x, rx, mg, al, Ch.rf⟩
    · obtain ⟨v, g1, e1, hv, x1', rx1, mg1, al1, c1⟩ := thin18 (c := c) ht (m_X5_thinOutAll_4 f) 24 1 FU 0 (nI i) g (by omega) (by omega) (by unfold FU; omega) (Or.inl rfl) x rx mg al
      rw [if_neg h0]
      rw [show m_X5_thinOutAll_18 (m_X5_thinOutAll_4 f) FU 0 (nI i) 1 g = _ from e1, nI_1]
      obtain ⟨g2, e2, x2, rx2, mg2, al2, c2⟩ := ih (i + 1) f v g1 (by omega) (by omega) x1' rx1 mg1 al1
      exact ⟨g2, e2, x2, rx2, mg2, al2, c1.trans c2⟩
theorem thinAllC {g : AHp} (ht : t ≤ 11) (x : CX E g) (rx : RdX E t g) (mg : MG g c (GR E t)) (al : Alv E t g) : ∃ g1, m_X5_thinOutAll g = some ((), g1) ∧ CX E g1 ∧ RdX E t g1 ∧ MG g1 c (GR E t) ∧ Alv E t g1 ∧ Ch PVt g g1 := thin4 ht 64 0 FU 1 g (by omega) (by unfold FU; omega) x rx mg al
end THIN
