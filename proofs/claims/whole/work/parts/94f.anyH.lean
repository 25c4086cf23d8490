/-! any talk: the reference's rows -/
section ANYH
variable {E : En} {A : APar} {an bn : Nat}
def PRl (g : AHp) (S : Nat → Nat → Bool) : Prop := ∀ a b, a ≤ 24 → b ≤ 24 → (hI g 106 (25 * a + b) ≠ 0 ↔ S a b = true)
abbrev P67 : Nat → Nat → Bool := fun k _ => k == 106 || k == 107
theorem hold164 {a b : Nat} {y : Int32} (ha : a ≤ 24) (hb : b ≤ 24) (x1 x2 x3 x4 x5 x6 : Int32) (k44 : Int32 → Int32 → Int32 → Int32 → Int32 → AHp → Option (Int32 × AHp)) (k102 : Int32 → Int32 → Int32 → Int32 → Int32 → Int32 → Int32 → AHp → Option (Int32 × AHp)) : ∀ (d l f : Nat) (g : AHp), l + d = 25 → 1 ≤ l → d < f → ∃ g1, m_X12_canHold_164 k44 k102 f x1 x2 x3 x4 x5 x6 (nI (25 * a + b)) y (nI l) g = k102 x1 x2 x3 x4 x5 x6 (nI (25 * a + b + 1)) g1 ∧ Ch (fun k _ => k == 107) g g1 ∧ (∀ z, hI g1 107 z = hI g 107 z ∨ hI g1 107 z = 1) ∧ ∀ z, hI g1 107 z ≠ 0 ↔ (hI g 107 z ≠ 0 ∨ ∃ u, l ≤ u ∧ u ≤ 24 ∧ tb y u = true ∧ z = 25 * u + a) := by
  intro d
  induction d with
  | zero =>
    intro l f g hl h1 hf
    obtain ⟨f, rfl⟩ : ∃ a, f = a + 1 := ⟨f - 1, by omega⟩
    have : l = 25 := by omega
    subst this
    refine ⟨g, by rw [m_X12_canHold_164, if_pos (by decide), lt_eq, nI_1], Ch.rf, fun _ => Or.inl rfl, fun z => ⟨Or.inl, fun h => ?_⟩⟩
    rcases h with h | ⟨u, h1, h2, _⟩
    · exact h
    · omega
  | succ d ih =>
    intro l f g hl h1 hf
    obtain ⟨f, rfl⟩ : ∃ a, f = a + 1 := ⟨f - 1, by omega⟩
    rw [m_X12_canHold_164, if_neg (show ¬ 24 < nI l from nI_nlt (a := 24) (b := l) (by omega) (by omega))]
    by_cases h0 : y = 0
    · refine ⟨g, by rw [if_pos h0, lt_eq, nI_1], Ch.rf, fun _ => Or.inl rfl, fun z => ⟨Or.inl, fun h => ?_⟩⟩
      rcases h with h | ⟨u, h1, h2, h3, _⟩
      · exact h
      · rw [h0, tb_zero] at h3; cases h3
    rw [if_neg h0, hasM _ (by omega), bd_some]
    cases hy : tb y l with
    | false =>
      rw [i01_f, if_pos rfl, lt_eq, nI_1]
      obtain ⟨g1, e1, c1, v1, q1⟩ := ih (l + 1) f g (by omega) (by omega) (by omega)
      refine ⟨g1, e1, c1, v1, fun z => ?_⟩
      rw [q1]
      constructor
      · rintro (h | ⟨u, h1, h2⟩)
        · exact Or.inl h
        · exact Or.inr ⟨u, by omega, h2⟩
      · rintro (h | ⟨u, h1, h2, h3, h4⟩)
        · exact Or.inl h
        · refine Or.inr ⟨u, ?_, h2, h3, h4⟩
          rcases Nat.lt_or_ge l u with h | h
          · exact h
          · rw [show u = l by omega, hy] at h3; cases h3
    | true =>
      rw [i01_t, if_neg one_ne, pairBehindM ha hb, bd_some, gd_pos (inb_nI (by omega) (by omega)), nI_clamp (by omega), vb1, lt_eq, lt_eq, nI_1]
      obtain ⟨g1, e1, c1, v1, q1⟩ := ih (l + 1) f (sI g 107 (25 * l + a) 1) (by omega) (by omega) (by omega)
      refine ⟨g1, e1, (Ch.rf.sI rfl : Ch (fun k _ => k == 107) g _).trans c1, fun z => ?_, fun z => ?_⟩
      · rcases v1 z with h | h
        · rw [h, hI_sI]; split
          · exact Or.inr rfl
          · exact Or.inl rfl
        · exact Or.inr h
      rw [q1, hI_sI]
      by_cases hz : z = 25 * l + a
      · rw [if_pos ⟨rfl, hz⟩]
        exact ⟨fun _ => Or.inr ⟨l, Nat.le_refl _, by omega, hy, hz⟩, fun _ => Or.inl one_ne⟩
      · rw [if_neg (by omega)]
        constructor
        · rintro (h | ⟨u, h1, h2⟩)
          · exact Or.inl h
          · exact Or.inr ⟨u, by omega, h2⟩
        · rintro (h | ⟨u, h1, h2, h3, h4⟩)
          · exact Or.inl h
          · refine Or.inr ⟨u, ?_, h2, h3, h4⟩
            rcases Nat.lt_or_ge l u with h | h
            · exact h
            · exact absurd (by rw [h4, show u = l by omega]) hz
theorem hold214 (k44 : Int32 → Int32 → Int32 → Int32 → Int32 → AHp → Option (Int32 × AHp)) (x1 x2 x3 x4 : Int32) {i : Nat} {S : Nat → Nat → Bool} : ∀ (d p f : Nat) (g : AHp), p + d = 625 → d < f → (∀ z, z < 625 → (hI g 107 z = 0 ∨ hI g 107 z = 1)) → (∀ a b, a ≤ 24 → b ≤ 24 → (hI g 107 (25 * a + b) ≠ 0 ↔ S a b = true)) → (∀ a b, a ≤ 24 → b ≤ 24 → 25 * a + b < p → (hI g 106 (25 * a + b) ≠ 0 ↔ S a b = true)) → ∃ g1, m_X12_canHold_214 k44 f x1 x2 x3 x4 (nI i) (nI p) g = k44 x1 x2 x3 x4 (nI (i + 1)) g1 ∧ Ch P67 g g1 ∧ PRl g1 S := by
  intro d
  induction d with
  | zero =>
    intro p f g hp hf h01 h107 h106
    obtain ⟨f, rfl⟩ : ∃ a, f = a + 1 := ⟨f - 1, by omega⟩
    have : p = 625 := by omega
    subst this
    exact ⟨g, by rw [m_X12_canHold_214, if_pos (by decide), lt_eq, nI_1], Ch.rf, fun a b h1 h2 => h106 a b h1 h2 (by omega)⟩
  | succ d ih =>
    intro p f g hp hf h01 h107 h106
    obtain ⟨f, rfl⟩ : ∃ a, f = a + 1 := ⟨f - 1, by omega⟩
    have evp : vp_nar .boolean (hI g 107 p) = hI g 107 p := by
      rcases h01 p (by omega) with h | h <;> rw [h]
      · exact vb0
      · exact vb1
    rw [m_X12_canHold_214, if_neg (show ¬ 625 ≤ nI p from nI_ge (a := p) (b := 625) (by omega) (by omega))]
    simp only [gd_pos (inb_nI (n := p) (N := 625) (by omega) (by omega)), nI_clamp (n := p) (show p < 2 ^ 31 by omega), lt_eq, nI_1]
    rw [evp]
    have e107 : ∀ z, hI (sI g 106 p (hI g 107 p)) 107 z = hI g 107 z := fun z => by rw [hI_sI, if_neg (by omega)]
    obtain ⟨g1, e1, c1, q1⟩ := ih (p + 1) f (sI g 106 p (hI g 107 p)) (by omega) (by omega) (fun z hz => by rw [e107]; exact h01 z hz) (fun a b h1 h2 => by rw [e107]; exact h107 a b h1 h2) (fun a b h1 h2 h3 => by
      rw [hI_sI]
      by_cases he : 25 * a + b = p
      · rw [if_pos ⟨rfl, he⟩, ← he]; exact h107 a b h1 h2
      · rw [if_neg (by omega)]; exact h106 a b h1 h2 (by omega))
    exact ⟨g1, e1, (Ch.rf.sI rfl : Ch P67 g _).trans c1, q1⟩
theorem hold102 (k44 : Int32 → Int32 → Int32 → Int32 → Int32 → AHp → Option (Int32 × AHp)) (x1 x2 x3 : Int32) {i q : Nat} {S : Nat → Nat → Bool} (hi : i < A.n) (hq : q < A.K) (hcb : ∀ a b, a ≤ 24 → b ≤ 24 → S a b = true → cbS an bn i (25 * a + b) = true) : ∀ (d p f : Nat) (fl : Bool) (g : AHp), p + d = 625 → d < f → LY E A an bn 12500 g → PRl g S → (∀ z, z < 625 → (hI g 107 z = 0 ∨ hI g 107 z = 1)) → (fl = true ↔ ∃ a b l, a ≤ 24 ∧ b ≤ 24 ∧ l ≤ 24 ∧ 25 * a + b < p ∧ S a b = true ∧ FA E A i q a b l = true) → (∀ l a, l ≤ 24 → a ≤ 24 → (hI g 107 (25 * l + a) ≠ 0 ↔ ∃ b, b ≤ 24 ∧ 25 * a + b < p ∧ S a b = true ∧ FA E A i q a b l = true)) →
    ∃ g1, m_X12_canHold_102 k44 f x1 x2 x3 (if fl = true then 1 else 0) (nI i) (nI q) (nI p) g = k44 x1 x2 x3 (if anyA (FA E A) i q S = true then 1 else 0) (nI (i + 1)) g1 ∧ Ch P67 g g1 ∧ PRl g1 (nxtA (FA E A) i q S) := by
  have hn := A.hn
  have hK := A.hK
  intro d
  induction d with
  | zero =>
    intro p f fl g hp hf ly pr h01 hfl h107
    obtain ⟨f, rfl⟩ : ∃ a, f = a + 1 := ⟨f - 1, by omega⟩
    have : p = 625 := by omega
    subst this
    have hfe : fl = anyA (FA E A) i q S := by
      rw [Bool.eq_iff_iff, hfl, anyA_iff]
      constructor
      · rintro ⟨a, b, l, h1, h2, h3, h4, h5, h6⟩; exact ⟨a, b, l, h1, h2, h3, h5, h6⟩
      · rintro ⟨a, b, l, h1, h2, h3, h5, h6⟩; exact ⟨a, b, l, h1, h2, h3, by omega, h5, h6⟩
    obtain ⟨g1, e1, c1, q1⟩ := hold214 k44 x1 x2 x3 (if fl = true then 1 else 0) (i := i) (S := nxtA (FA E A) i q S) 625 0 FU g (by omega) (by unfold FU; omega) h01 (fun l a h1 h2 => by
      rw [h107 l a h1 h2, nxtA_iff]
      constructor
      · rintro ⟨b, h3, h4, h5, h6⟩; exact ⟨h1, h2, b, h3, h5, h6⟩
      · rintro ⟨_, _, b, h3, h5, h6⟩; exact ⟨b, h3, by omega, h5, h6⟩) (fun a b _ _ h => by omega)
    refine ⟨g1, ?_, c1, q1⟩
    rw [m_X12_canHold_102, if_pos (by decide)]
    rw [show m_X12_canHold_214 k44 FU x1 x2 x3 (if fl = true then 1 else 0) (nI i) 0 g = _ from e1, hfe]
  | succ d ih =>
    intro p f fl g hp hf ly pr h01 hfl h107
    obtain ⟨f, rfl⟩ : ∃ a, f = a + 1 := ⟨f - 1, by omega⟩
    have epair : p = 25 * (p / 25) + p % 25 := by omega
    have hpa : p / 25 ≤ 24 := by omega
    have hpb : p % 25 ≤ 24 := by omega
    generalize hA : p / 25 = a at epair hpa
    generalize hB : p % 25 = b at epair hpb
    have uniq : ∀ a2 b2, b2 ≤ 24 → 25 * a2 + b2 = p → a2 = a ∧ b2 = b := fun a2 b2 h1 h2 => by omega
    have ex : (((4 * nI i) + nI q) * 625) + nI p = nI ((4 * i + q) * 625 + p) := by
      rw [show (4 : Int32) * nI i = nI (4 * i) from pk_mul 4 i, nI_add, show nI (4 * i + q) * 625 = nI ((4 * i + q) * 625) from pk_mul _ 625, nI_add]
    rw [m_X12_canHold_102, if_neg (show ¬ 625 ≤ nI p from nI_ge (a := p) (b := 625) (by omega) (by omega))]
    simp only [gd_pos (inb_nI (n := p) (N := 625) (by omega) (by omega)), nI_clamp (n := p) (show p < 2 ^ 31 by omega), ex, gd_pos (inb_nI (n := (4 * i + q) * 625 + p) (N := 12500) (by omega) (by omega)), nI_clamp (n := (4 * i + q) * 625 + p) (show (4 * i + q) * 625 + p < 2 ^ 31 by omega), lt_eq, nI_1]
    have hpr := pr a b hpa hpb
    rw [← epair] at hpr
    by_cases hz : hI g 106 p = 0
    · have hns : ¬ S a b = true := fun z => (hpr.mpr z) hz
      rw [if_pos hz]
      refine ih (p + 1) f fl g (by omega) (by omega) ly pr h01 ?_ (fun l a2 h1 h2 => ?_)
      · rw [hfl]
        constructor
        · rintro ⟨a2, b2, l, h1, h2, h3, h4, h5⟩; exact ⟨a2, b2, l, h1, h2, h3, by omega, h5⟩
        · rintro ⟨a2, b2, l, h1, h2, h3, h4, h5, h6⟩
          refine ⟨a2, b2, l, h1, h2, h3, ?_, h5, h6⟩
          by_cases he : 25 * a2 + b2 = p
          · obtain ⟨rfl, rfl⟩ := uniq a2 b2 h2 he; exact absurd h5 hns
          · omega
      · rw [h107 l a2 h1 h2]
        constructor
        · rintro ⟨b2, h3, h4, h5⟩; exact ⟨b2, h3, by omega, h5⟩
        · rintro ⟨b2, h3, h4, h5, h6⟩
          refine ⟨b2, h3, ?_, h5, h6⟩
          by_cases he : 25 * a2 + b2 = p
          · obtain ⟨rfl, rfl⟩ := uniq a2 b2 h3 he; exact absurd h5 hns
          · omega
    · have hs := hpr.mp hz
      rw [if_neg hz]
      have hy := ly i q a b hi hq hpa hpb (hcb a b hpa hpb hs) (by omega)
      rw [← epair] at hy
      generalize hI g 105 ((4 * i + q) * 625 + p) = y at hy
      have hyn : y ≠ 0 ↔ ∃ l, l ≤ 24 ∧ FA E A i q a b l = true := by
        constructor
        · intro h
          by_cases hex : ∃ l, l ≤ 24 ∧ FA E A i q a b l = true
          · exact hex
          · exfalso; apply h
            rw [tb_eq0]; intro k hk
            rw [hy k hk]
            cases hFk : FA E A i q a b k with
            | false => rfl
            | true => exact absurd ⟨k, (FA_b hq hk hFk).2, hFk⟩ hex
        · rintro ⟨l, h1, h2⟩ h0
          have := hy l (by omega)
          rw [h0, tb_zero, h2] at this; cases this
      have go : ∀ fl2 : Bool, (fl2 = true ↔ (fl = true ∨ y ≠ 0)) → ∃ g1, m_X12_canHold_164 k44 (m_X12_canHold_102 k44 f) FU x1 x2 x3 (if fl2 = true then 1 else 0) (nI i) (nI q) (nI p) y 1 g = k44 x1 x2 x3 (if anyA (FA E A) i q S = true then 1 else 0) (nI (i + 1)) g1 ∧ Ch P67 g g1 ∧ PRl g1 (nxtA (FA E A) i q S) := fun fl2 hf2 => by
        obtain ⟨g1, e1, c1, v1, q1⟩ := hold164 (a := a) (b := b) (y := y) hpa hpb x1 x2 x3 (if fl2 = true then 1 else 0) (nI i) (nI q) k44 (m_X12_canHold_102 k44 f) 24 1 FU g (by omega) (by omega) (by unfold FU; omega)
        rw [← epair] at e1
        rw [show m_X12_canHold_164 k44 (m_X12_canHold_102 k44 f) FU x1 x2 x3 (if fl2 = true then 1 else 0) (nI i) (nI q) (nI p) y 1 g = _ from e1]
        have c67 : Ch P67 g g1 := c1.mono (fun k i hp => (Bool.or_eq_false_iff.mp hp).2)
        obtain ⟨g2, e2, c2, q2⟩ := ih (p + 1) f fl2 g1 (by omega) (by omega) (fun i2 q2 a2 b2 h1 h2 h3 h4 h5 h6 k hk => by rw [c1.i rfl]; exact ly i2 q2 a2 b2 h1 h2 h3 h4 h5 h6 k hk) (fun a2 b2 h1 h2 => by rw [c1.i rfl]; exact pr a2 b2 h1 h2) (fun z hz => by
            rcases v1 z with h | h
            · rw [h]; exact h01 z hz
            · exact Or.inr h) (by
          rw [hf2, hfl, hyn]
          constructor
          · rintro (⟨a2, b2, l, h1, h2, h3, h4, h5⟩ | ⟨l, h1, h2⟩)
            · exact ⟨a2, b2, l, h1, h2, h3, by omega, h5⟩
            · exact ⟨a, b, l, hpa, hpb, h1, by omega, hs, h2⟩
          · rintro ⟨a2, b2, l, h1, h2, h3, h4, h5, h6⟩
            by_cases he : 25 * a2 + b2 = p
            · obtain ⟨rfl, rfl⟩ := uniq a2 b2 h2 he; exact Or.inr ⟨l, h3, h6⟩
            · exact Or.inl ⟨a2, b2, l, h1, h2, h3, by omega, h5, h6⟩) (fun l a2 h1 h2 => by
          rw [q1, h107 l a2 h1 h2]
          constructor
          · rintro (⟨b2, h3, h4, h5⟩ | ⟨u, h3, h4, h5, h6⟩)
            · exact ⟨b2, h3, by omega, h5⟩
            · have hul : u = l := by omega
              have haa : a = a2 := by omega
              subst hul haa
              exact ⟨b, hpb, by omega, hs, by rw [← hy u (by omega)]; exact h5⟩
          · rintro ⟨b2, h3, h4, h5, h6⟩
            by_cases he : 25 * a2 + b2 = p
            · obtain ⟨rfl, rfl⟩ := uniq a2 b2 h3 he
              exact Or.inr ⟨l, (FA_b hq (by omega) h6).1, h1, by rw [hy l (by omega)]; exact h6, rfl⟩
            · exact Or.inl ⟨b2, h3, by omega, h5, h6⟩)
        exact ⟨g2, e2, c67.trans c2, q2⟩
      cases fl with
      | false =>
        rw [i01_f, if_pos rfl]
        by_cases hy0 : y = 0
        · rw [if_pos hy0]
          have := go false (by simp [hy0]); rw [i01_f] at this; exact this
        · rw [if_neg hy0]
          have := go true (by simp [hy0]); rw [i01_t] at this; exact this
      | true =>
        rw [i01_t, if_neg one_ne]
        have := go true (by simp); rw [i01_t] at this; exact this
end ANYH
