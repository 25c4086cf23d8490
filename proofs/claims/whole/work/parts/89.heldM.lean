/-! held and coded: the reference's tables -/
theorem vb1 : vp_nar .boolean 1 = 1 := by decide
theorem vb0 : vp_nar .boolean 0 = 0 := by decide
theorem withDigit_l {x dg : Int32} {mr : Nat} (hmr : mr ≤ 5) (g : AHp) : ∀ (d l f : Nat) (v : Int32), l + d = 25 → 1 ≤ l → d < f → ∃ y, m_X12_withDigit_5 f x (nI mr) dg v (nI l) g = some (y, g) ∧ ∀ k, k < 32 → tb y k = (tb v k || (decide (l ≤ k ∧ k ≤ 24) && tb x k && decide (mr = 0 ∨ nI (k % mr) = dg))) := by
  intro d
  induction d with
  | zero =>
    intro l f v hl h1 hf
    obtain ⟨f, rfl⟩ : ∃ a, f = a + 1 := ⟨f - 1, by omega⟩
    have : l = 25 := by omega
    subst this
    exact ⟨v, by rw [m_X12_withDigit_5, if_pos (by decide)], fun k hk => by rw [decide_eq_false (show ¬ (25 ≤ k ∧ k ≤ 24) by omega)]; simp⟩
  | succ d ih =>
    intro l f v hl h1 hf
    obtain ⟨f, rfl⟩ : ∃ a, f = a + 1 := ⟨f - 1, by omega⟩
    have take : (mr = 0 ∨ nI (l % mr) = dg) → tb x l = true → ∃ y, m_X12_withDigit_5 f x (nI mr) dg (v ||| ((1 : Int32) <<< (nI l &&& 31))) (nI (l + 1)) g = some (y, g) ∧ ∀ k, k < 32 → tb y k = (tb v k || (decide (l ≤ k ∧ k ≤ 24) && tb x k && decide (mr = 0 ∨ nI (k % mr) = dg))) := fun hq hx => by
      obtain ⟨y, e, q⟩ := ih (l + 1) f (v ||| ((1 : Int32) <<< (nI l &&& 31))) (by omega) (by omega) (by omega)
      refine ⟨y, e, fun k hk => ?_⟩
      rw [q k hk, tb_or, tb_bit (by omega) hk]
      by_cases hkl : k = l
      · subst hkl
        rw [decide_eq_true (show k ≤ k ∧ k ≤ 24 by omega), hx, decide_eq_true hq]; simp
      · rw [decide_eq_false hkl, Bool.or_false, show decide (l + 1 ≤ k ∧ k ≤ 24) = decide (l ≤ k ∧ k ≤ 24) from decide_eq_decide.mpr (by omega)]
    have skip : (tb x l = false ∨ ¬ (mr = 0 ∨ nI (l % mr) = dg)) → ∃ y, m_X12_withDigit_5 f x (nI mr) dg v (nI (l + 1)) g = some (y, g) ∧ ∀ k, k < 32 → tb y k = (tb v k || (decide (l ≤ k ∧ k ≤ 24) && tb x k && decide (mr = 0 ∨ nI (k % mr) = dg))) := fun hq => by
      obtain ⟨y, e, q⟩ := ih (l + 1) f v (by omega) (by omega) (by omega)
      refine ⟨y, e, fun k hk => ?_⟩
      rw [q k hk]
      by_cases hkl : k = l
      · subst hkl
        rw [decide_eq_false (show ¬ (k + 1 ≤ k ∧ k ≤ 24) by omega)]
        rcases hq with h | h
        · rw [h]; simp
        · rw [decide_eq_false h]; simp
      · rw [show decide (l + 1 ≤ k ∧ k ≤ 24) = decide (l ≤ k ∧ k ≤ 24) from decide_eq_decide.mpr (by omega)]
    rw [m_X12_withDigit_5, if_neg (show ¬ 24 < nI l from nI_nlt (a := 24) (b := l) (by omega) (by omega)), hasM _ (by omega), bd_some]
    simp only [lt_eq, nI_1]
    cases hx : tb x l with
    | false => rw [i01_f, if_pos rfl]; exact skip (Or.inl hx)
    | true =>
      rw [i01_t, if_neg one_ne]
      by_cases h0 : mr = 0
      · rw [if_pos (by rw [h0]; rfl)]; exact take (Or.inl h0) hx
      · have hne : ¬ nI mr = 0 := nI_ne0 (by omega) (by omega)
        rw [if_neg hne, gd_pos hne, pk_rem (a := l) (d := mr) (by omega) (by omega) (by omega)]
        by_cases hq : nI (l % mr) = dg
        · rw [if_pos hq]; exact take (Or.inr hq) hx
        · rw [if_neg hq]; exact skip (Or.inr (fun z => by rcases z with z | z; exact h0 z; exact hq z))
/-- what the reference keeps of the talk that is told -/
structure MPar (E : En) (H : HPar) (mr : Nat) where
  hmr : mr ≤ 5
  dgt : Nat → Int32
  hwat : ∀ i, i < H.n → 0 ≤ (H.wat i).toInt ∧ (H.wat i).toInt ≤ 11
  hlen : ∀ i, i < H.n → ∀ k, k < 32 → tb (H.len i) k = (tb (E.siz (H.wat i).toNatClampNeg) k && decide (mr = 0 ∨ nI (k % mr) = dgt i))
def WX (E : En) (H : HPar) {mr : Nat} (M : MPar E H mr) (g : AHp) : Prop := ∀ i, i < H.n → hI g 97 i = H.who i ∧ hI g 98 i = H.wat i ∧ hI g 99 i = M.dgt i
theorem WX.ch {P : Nat → Nat → Bool} {E : En} {H : HPar} {mr : Nat} {M : MPar E H mr} {h g : AHp} (x : WX E H M h) (c : Ch P h g) (hp : ∀ i, P 97 i = false ∧ P 98 i = false ∧ P 99 i = false) : WX E H M g := fun i hi => by
  rw [c.i (hp i).1, c.i (hp i).2.1, c.i (hp i).2.2]; exact x i hi
abbrev PR3 : Nat → Nat → Bool := fun k i => PMo k i || k == 100 || k == 101 || k == 102
theorem pmo_pr3 {h g : AHp} (c : Ch PMo h g) : Ch PR3 h g := c.mono (fun k i hp => by
  simp only [Bool.or_eq_false_iff] at hp ⊢; exact hp.1.1.1)
theorem pr3_pkm {h g : AHp} (c : Ch PR3 h g) : Ch PKm h g := c.mono (fun k i hp => by
  simp only [Bool.or_eq_false_iff, Bool.and_eq_false_iff, beq_eq_false_iff_ne, ble_f] at hp ⊢; omega)
section RCH
variable {E : En} {H : HPar} {mr an bn : Nat} {M : MPar E H mr}
/-- rows up to i are reached as they should be -/
def Rea (E : En) (H : HPar) (an bn i : Nat) (g : AHp) : Prop := ∀ j a b, j ≤ i → a ≤ 24 → b ≤ 24 → (hI g 102 (625 * j + (25 * a + b)) ≠ 0 ↔ RS (FH E H) an bn j a b)
def May (E : En) (H : HPar) (an bn i : Nat) (g : AHp) : Prop := ∀ j a b, j < i → a ≤ 24 → b ≤ 24 → RS (FH E H) an bn j a b → ∀ k, k < 32 → tb (hI g 100 (625 * j + (25 * a + b))) k = FH E H j a b k
theorem FH_b {i a b k : Nat} (hi : i < H.n) (hk : k < 32) (h : FH E H i a b k = true) : 1 ≤ k ∧ k ≤ 24 := by
  unfold FH at h
  rw [Bool.and_eq_true] at h
  exact H.hl i hi k hk h.1
theorem reaches145 {i a b fu : Nat} {y : Int32} (laws : Int32) (ha : a ≤ 24) (hb : b ≤ 24) (hi : i < 12) (x2 x3 : Int32) (k41 : Int32 → Int32 → Int32 → Int32 → Int32 → AHp → Option (Int32 × AHp)) (k50 : Int32 → Int32 → Int32 → Int32 → Int32 → Int32 → AHp → Option (Int32 × AHp)) : ∀ (d l f fu : Nat) (g : AHp), l + d = 25 → 1 ≤ l → d < f → ∃ fu2 g1, m_X12_reaches_145 k41 k50 f laws x2 x3 (nI fu) (nI i) (nI (25 * a + b)) y (nI l) g = k50 laws x2 x3 (nI fu2) (nI i) (nI (25 * a + b + 1)) g1 ∧ Ch (fun k _ => k == 102) g g1 ∧ (fu2 = if (∃ u, l ≤ u ∧ u ≤ 24 ∧ tb y u = true) then i + 1 else fu) ∧ ∀ z, hI g1 102 z = if (∃ u, l ≤ u ∧ u ≤ 24 ∧ tb y u = true ∧ z = 625 * (i + 1) + (25 * u + a)) then 1 else hI g 102 z := by
  intro d
  induction d with
  | zero =>
    intro l f fu g hl h1 hf
    obtain ⟨f, rfl⟩ : ∃ a, f = a + 1 := ⟨f - 1, by omega⟩
    have : l = 25 := by omega
    subst this
    refine ⟨fu, g, by rw [m_X12_reaches_145, if_pos (by decide), lt_eq, nI_1], Ch.rf, ?_, fun z => ?_⟩
    · rw [if_neg (by rintro ⟨u, h1, h2, _⟩; omega)]
    · rw [if_neg (by rintro ⟨u, h1, h2, _⟩; omega)]
  | succ d ih =>
    intro l f fu g hl h1 hf
    obtain ⟨f, rfl⟩ : ∃ a, f = a + 1 := ⟨f - 1, by omega⟩
    rw [m_X12_reaches_145, if_neg (show ¬ 24 < nI l from nI_nlt (a := 24) (b := l) (by omega) (by omega)), hasM _ (by omega), bd_some]
    cases hy : tb y l with
    | false =>
      rw [i01_f, if_pos rfl, lt_eq, nI_1]
      obtain ⟨fu2, g1, e1, c1, q1, q2⟩ := ih (l + 1) f fu g (by omega) (by omega) (by omega)
      refine ⟨fu2, g1, e1, c1, ?_, fun z => ?_⟩
      · rw [q1]; congr 1
        exact propext ⟨fun ⟨u, h1, h2⟩ => ⟨u, by omega, h2⟩, fun ⟨u, h1, h2, h3⟩ => ⟨u, by
          rcases Nat.lt_or_ge l u with h | h
          · exact h
          · rw [show u = l by omega, hy] at h3; cases h3, h2, h3⟩⟩
      · rw [q2]; congr 1
        exact propext ⟨fun ⟨u, h1, h2⟩ => ⟨u, by omega, h2⟩, fun ⟨u, h1, h2, h3, h4⟩ => ⟨u, by
          rcases Nat.lt_or_ge l u with h | h
          · exact h
          · rw [show u = l by omega, hy] at h3; cases h3, h2, h3, h4⟩⟩
    | true =>
      have ex : (625 : Int32) * nI (i + 1) + nI (25 * l + a) = nI (625 * (i + 1) + (25 * l + a)) := by rw [show (625 : Int32) * nI (i + 1) = nI (625 * (i + 1)) from pk_mul 625 (i + 1), nI_add]
      rw [i01_t, if_neg one_ne, pairBehindM ha hb, bd_some, nI_1, ex, gd_pos (inb_nI (by omega) (by omega)), nI_clamp (by omega), vb1]
      simp only [lt_eq, nI_1]
      obtain ⟨fu2, g1, e1, c1, q1, q2⟩ := ih (l + 1) f (i + 1) (sI g 102 (625 * (i + 1) + (25 * l + a)) 1) (by omega) (by omega) (by omega)
      refine ⟨fu2, g1, e1, (Ch.rf.sI rfl : Ch (fun k _ => k == 102) g _).trans c1, ?_, fun z => ?_⟩
      · rw [q1, if_pos ⟨l, Nat.le_refl _, by omega, hy⟩]; split <;> rfl
      · rw [q2]
        by_cases hz : z = 625 * (i + 1) + (25 * l + a)
        · rw [if_pos (⟨l, Nat.le_refl _, by omega, hy, hz⟩ : ∃ u, l ≤ u ∧ u ≤ 24 ∧ tb y u = true ∧ z = 625 * (i + 1) + (25 * u + a)), hI_sI, if_pos ⟨rfl, hz⟩]
          split <;> rfl
        · rw [hI_sI, if_neg (by omega)]
          congr 1
          exact propext ⟨fun ⟨u, h1, h2⟩ => ⟨u, by omega, h2⟩, fun ⟨u, h1, h2, h3, h4⟩ => ⟨u, by
            rcases Nat.lt_or_ge l u with h | h
            · exact h
            · exfalso; exact hz (by rw [h4, show u = l by omega]), h2, h3, h4⟩⟩
end RCH
