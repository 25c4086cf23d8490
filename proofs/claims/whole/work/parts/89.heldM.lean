/-! held and coded: the reference's tables -/
theorem vb1 : vp_nar .boolean 1 = 1 := by decide
theorem vb0 : vp_nar .boolean 0 = 0 := by decide
theorem withDigit_l {x dg : Int32} {mr : Nat} (hmr : mr ≤ 5) (g : AHp) : ∀ (d l f : Nat) (v : Int32), l + d = 25 → 1 ≤ l → d < f → ∃ y, m_X12_withDigit_5 f x (nI mr) dg v (nI l) g = some (y, g) ∧ ∀ k, k < 32 → tb y k = (tb v k || (decide (l ≤ k ∧ k ≤ 24) && tb x k && decide (mr = 0 ∨ nI (k % mr) = dg))) := by
  intro d
  induction d with
  | zero =>
    intro l f v hl h1 hf
    obtain ⟨f, rfl⟩ : ∃ a, f = a + 1 := ⟨f - 1, by omega⟩
    have : l = 25 := by omega
    subst this
    exact ⟨v, by rw [m_X12_withDigit_5, if_pos (by decide)], fun k hk => by rw [decide_eq_false (show ¬ (25 ≤ k ∧ k ≤ 24) by omega)]; simp⟩
  | succ d ih =>
    intro l f v hl h1 hf
    obtain ⟨f, rfl⟩ : ∃ a, f = a + 1 := ⟨f - 1, by omega⟩
    have take : (mr = 0 ∨ nI (l % mr) = dg) → tb x l = true → ∃ y, m_X12_withDigit_5 f x (nI mr) dg (v ||| ((1 : Int32) <<< (nI l &&& 31))) (nI (l + 1)) g = some (y, g) ∧ ∀ k, k < 32 → tb y k = (tb v k || (decide (l ≤ k ∧ k ≤ 24) && tb x k && decide (mr = 0 ∨ nI (k % mr) = dg))) := fun hq hx => by
      obtain ⟨y, e, q⟩ := ih (l + 1) f (v ||| ((1 : Int32) <<< (nI l &&& 31))) (by omega) (by omega) (by omega)
      refine ⟨y, e, fun k hk => ?_⟩
      rw [q k hk, tb_or, tb_bit (by omega) hk]
      by_cases hkl : k = l
      · subst hkl
        rw [decide_eq_true (show k ≤ k ∧ k ≤ 24 by omega), hx, decide_eq_true hq]; simp
      · rw [decide_eq_false hkl, Bool.or_false, show decide (l + 1 ≤ k ∧ k ≤ 24) = decide (l ≤ k ∧ k ≤ 24) from decide_eq_decide.mpr (by omega)]
    have skip : (tb x l = false ∨ ¬ (mr = 0 ∨ nI (l % mr) = dg)) → ∃ y, m_X12_withDigit_5 f x (nI mr) dg v (nI (l + 1)) g = some (y, g) ∧ ∀ k, k < 32 → tb y k = (tb v k || (decide (l ≤ k ∧ k ≤ 24) && tb x k && decide (mr = 0 ∨ nI (k % mr) = dg))) := fun hq => by
      obtain ⟨y, e, q⟩ := ih (l + 1) f v (by omega) (by omega) (by omega)
      refine ⟨y, e, fun k hk => ?_⟩
      rw [q k hk]
      by_cases hkl : k = l
      · subst hkl
        rw [decide_eq_false (show ¬ (k + 1 ≤ k ∧ k ≤ 24) by omega)]
        rcases hq with h | h
        · rw [h]; simp
        · rw [decide_eq_false h]; simp
      · rw [show decide (l + 1 ≤ k ∧ k ≤ 24) = decide (l ≤ k ∧ k ≤ 24) from decide_eq_decide.mpr (by omega)]
    rw [m_X12_withDigit_5, if_neg (show ¬ 24 < nI l from nI_nlt (a := 24) (b := l) (by omega) (by omega)), hasM _ (by omega), bd_some]
    simp only [lt_eq, nI_1]
    cases hx : tb x l with
    | false => rw [i01_f, if_pos rfl]; exact skip (Or.inl hx)
    | true =>
      rw [i01_t, if_neg one_ne]
      by_cases h0 : mr = 0
      · rw [if_pos (by rw [h0]; rfl)]; exact take (Or.inl h0) hx
      · have hne : ¬ nI mr = 0 := nI_ne0 (by omega) (by omega)
        rw [if_neg hne, gd_pos hne, pk_rem (a := l) (d := mr) (by omega) (by omega) (by omega)]
        by_cases hq : nI (l % mr) = dg
        · rw [if_pos hq]; exact take (Or.inr hq) hx
        · rw [if_neg hq]; exact skip (Or.inr (fun z => by rcases z with z | z; exact h0 z; exact hq z))
/-- what the reference keeps of the talk that is told -/
def MPar (E : En) (H : HPar) (mr : Nat) : Type := { dgt : Nat → Int32 // mr ≤ 5 ∧ (∀ i, i < H.n → 0 ≤ (H.wat i).toInt ∧ (H.wat i).toInt ≤ 11) ∧ ∀ i, i < H.n → ∀ k, k < 32 → tb (H.len i) k = (tb (E.siz (H.wat i).toNatClampNeg) k && decide (mr = 0 ∨ nI (k % mr) = dgt i)) }
def MPar.dgt {E : En} {H : HPar} {mr : Nat} (M : MPar E H mr) : Nat → Int32 := Subtype.val M
theorem MPar.hmr {E : En} {H : HPar} {mr : Nat} (M : MPar E H mr) : mr ≤ 5 := (Subtype.property M).1
theorem MPar.hwat {E : En} {H : HPar} {mr : Nat} (M : MPar E H mr) : ∀ i, i < H.n → 0 ≤ (H.wat i).toInt ∧ (H.wat i).toInt ≤ 11 := (Subtype.property M).2.1
theorem MPar.hlen {E : En} {H : HPar} {mr : Nat} (M : MPar E H mr) : ∀ i, i < H.n → ∀ k, k < 32 → tb (H.len i) k = (tb (E.siz (H.wat i).toNatClampNeg) k && decide (mr = 0 ∨ nI (k % mr) = M.dgt i)) := (Subtype.property M).2.2
def WX (E : En) (H : HPar) {mr : Nat} (M : MPar E H mr) (g : AHp) : Prop := ∀ i, i < H.n → hI g 97 i = H.who i ∧ hI g 98 i = H.wat i ∧ hI g 99 i = M.dgt i
theorem WX.ch {P : Nat → Nat → Bool} {E : En} {H : HPar} {mr : Nat} {M : MPar E H mr} {h g : AHp} (x : WX E H M h) (c : Ch P h g) (hp : ∀ i, P 97 i = false ∧ P 98 i = false ∧ P 99 i = false) : WX E H M g := fun i hi => by
  rw [c.i (hp i).1, c.i (hp i).2.1, c.i (hp i).2.2]; exact x i hi
abbrev PR3 : Nat → Nat → Bool := fun k i => PMo k i || k == 100 || k == 101 || k == 102
theorem pmo_pr3 {h g : AHp} (c : Ch PMo h g) : Ch PR3 h g := c.mono (fun k i hp => by
  simp only [Bool.or_eq_false_iff] at hp ⊢; exact hp.1.1.1)
theorem pr3_pkm {h g : AHp} (c : Ch PR3 h g) : Ch PKm h g := c.mono (fun k i hp => by
  simp only [Bool.or_eq_false_iff, Bool.and_eq_false_iff, beq_eq_false_iff_ne, ble_f] at hp ⊢; omega)
section RCH
variable {E : En} {H : HPar} {mr an bn : Nat} {M : MPar E H mr}
/-- rows up to i are reached as they should be -/
def Rea (E : En) (H : HPar) (an bn i : Nat) (g : AHp) : Prop := ∀ j a b, j ≤ i → a ≤ 24 → b ≤ 24 → (hI g 102 (625 * j + (25 * a + b)) ≠ 0 ↔ RS (FH E H) an bn j a b)
def May (E : En) (H : HPar) (an bn i : Nat) (g : AHp) : Prop := ∀ j a b, j < i → a ≤ 24 → b ≤ 24 → RS (FH E H) an bn j a b → ∀ k, k < 32 → tb (hI g 100 (625 * j + (25 * a + b))) k = FH E H j a b k
theorem FH_b {i a b k : Nat} (hi : i < H.n) (hk : k < 32) (h : FH E H i a b k = true) : 1 ≤ k ∧ k ≤ 24 := by
  unfold FH at h
  rw [Bool.and_eq_true] at h
  exact H.hl i hi k hk h.1
theorem reaches145 {i a b : Nat} {y : Int32} (laws : Int32) (ha : a ≤ 24) (hb : b ≤ 24) (hi : i < 12) (x2 x3 : Int32) (k41 : Int32 → Int32 → Int32 → Int32 → Int32 → AHp → Option (Int32 × AHp)) (k50 : Int32 → Int32 → Int32 → Int32 → Int32 → Int32 → AHp → Option (Int32 × AHp)) : ∀ (d l f fu : Nat) (g : AHp), l + d = 25 → 1 ≤ l → d < f → ∃ fu2 g1, m_X12_reaches_145 k41 k50 f laws x2 x3 (nI fu) (nI i) (nI (25 * a + b)) y (nI l) g = k50 laws x2 x3 (nI fu2) (nI i) (nI (25 * a + b + 1)) g1 ∧ Ch (fun k _ => k == 102) g g1 ∧ (((∃ u, l ≤ u ∧ u ≤ 24 ∧ tb y u = true) ∧ fu2 = i + 1) ∨ ((∀ u, l ≤ u → u ≤ 24 → tb y u = false) ∧ fu2 = fu)) ∧ ∀ z, hI g1 102 z ≠ 0 ↔ (hI g 102 z ≠ 0 ∨ ∃ u, l ≤ u ∧ u ≤ 24 ∧ tb y u = true ∧ z = 625 * (i + 1) + (25 * u + a)) := by
  intro d
  induction d with
  | zero =>
    intro l f fu g hl h1 hf
    obtain ⟨f, rfl⟩ : ∃ a, f = a + 1 := ⟨f - 1, by omega⟩
    have : l = 25 := by omega
    subst this
    refine ⟨fu, g, by rw [m_X12_reaches_145, if_pos (by decide), lt_eq, nI_1], Ch.rf, Or.inr ⟨fun u h1 h2 => by omega, rfl⟩, fun z => ⟨Or.inl, fun h => ?_⟩⟩
    rcases h with h | ⟨u, h1, h2, _⟩
    · exact h
    · omega
  | succ d ih =>
    intro l f fu g hl h1 hf
    obtain ⟨f, rfl⟩ : ∃ a, f = a + 1 := ⟨f - 1, by omega⟩
    rw [m_X12_reaches_145, if_neg (show ¬ 24 < nI l from nI_nlt (a := 24) (b := l) (by omega) (by omega)), hasM _ (by omega), bd_some]
    cases hy : tb y l with
    | false =>
      rw [i01_f, if_pos rfl, lt_eq, nI_1]
      obtain ⟨fu2, g1, e1, c1, q1, q2⟩ := ih (l + 1) f fu g (by omega) (by omega) (by omega)
      have hgt : ∀ u, l ≤ u → tb y u = true → l + 1 ≤ u := fun u h1 h3 => by
        rcases Nat.lt_or_ge l u with h | h
        · exact h
        · rw [show u = l by omega, hy] at h3; cases h3
      refine ⟨fu2, g1, e1, c1, ?_, fun z => ?_⟩
      · rcases q1 with ⟨⟨u, h1, h2, h3⟩, h4⟩ | ⟨h1, h2⟩
        · exact Or.inl ⟨⟨u, by omega, h2, h3⟩, h4⟩
        · refine Or.inr ⟨fun u h3 h4 => ?_, h2⟩
          by_cases hu : u = l
          · rw [hu]; exact hy
          · exact h1 u (by omega) h4
      · rw [q2]
        constructor
        · rintro (h | ⟨u, h1, h2⟩)
          · exact Or.inl h
          · exact Or.inr ⟨u, by omega, h2⟩
        · rintro (h | ⟨u, h1, h2, h3, h4⟩)
          · exact Or.inl h
          · exact Or.inr ⟨u, hgt u h1 h3, h2, h3, h4⟩
    | true =>
      have ex : (625 : Int32) * nI (i + 1) + nI (25 * l + a) = nI (625 * (i + 1) + (25 * l + a)) := by rw [show (625 : Int32) * nI (i + 1) = nI (625 * (i + 1)) from pk_mul 625 (i + 1), nI_add]
      rw [i01_t, if_neg one_ne, pairBehindM ha hb, bd_some, nI_1, ex, gd_pos (inb_nI (by omega) (by omega)), nI_clamp (by omega), vb1]
      simp only [lt_eq, nI_1]
      obtain ⟨fu2, g1, e1, c1, q1, q2⟩ := ih (l + 1) f (i + 1) (sI g 102 (625 * (i + 1) + (25 * l + a)) 1) (by omega) (by omega) (by omega)
      refine ⟨fu2, g1, e1, (Ch.rf.sI rfl : Ch (fun k _ => k == 102) g _).trans c1, Or.inl ⟨⟨l, Nat.le_refl _, by omega, hy⟩, ?_⟩, fun z => ?_⟩
      · rcases q1 with ⟨_, h⟩ | ⟨_, h⟩ <;> exact h
      · rw [q2, hI_sI]
        by_cases hz : z = 625 * (i + 1) + (25 * l + a)
        · rw [if_pos ⟨rfl, hz⟩]
          exact ⟨fun _ => Or.inr ⟨l, Nat.le_refl _, by omega, hy, hz⟩, fun _ => Or.inl one_ne⟩
        · rw [if_neg (by omega)]
          constructor
          · rintro (h | ⟨u, h1, h2⟩)
            · exact Or.inl h
            · exact Or.inr ⟨u, by omega, h2⟩
          · rintro (h | ⟨u, h1, h2, h3, h4⟩)
            · exact Or.inl h
            · refine Or.inr ⟨u, ?_, h2, h3, h4⟩
              rcases Nat.lt_or_ge l u with h | h
              · exact h
              · exact absurd (by rw [h4, show u = l by omega]) hz
def FuOK (E : En) (H : HPar) (an bn i fu : Nat) : Prop := fu ≤ i ∧ (∃ a b, RS (FH E H) an bn fu a b) ∧ ∀ j a b, fu < j → j ≤ i → ¬ RS (FH E H) an bn j a b
def Zr (i : Nat) (g : AHp) : Prop := ∀ z, 625 * (i + 1) ≤ z → z < 8125 → hI g 102 z = 0
theorem reaches50 (ha : an ≤ 24) (hb : bn ≤ 24) (k41 : Int32 → Int32 → Int32 → Int32 → Int32 → AHp → Option (Int32 × AHp)) {i : Nat} (hi : i < H.n) : ∀ (d p f fu : Nat) (g : AHp), p + d = 625 → d < f → RX E g → WX E H M g → Rea E H an bn i g → Zr (i + 1) g → (∀ l a, l ≤ 24 → a ≤ 24 → (hI g 102 (625 * (i + 1) + (25 * l + a)) ≠ 0 ↔ (1 ≤ l ∧ ∃ b, b ≤ 24 ∧ 25 * a + b < p ∧ RS (FH E H) an bn i a b ∧ FH E H i a b l = true))) → May E H an bn i g → (∀ a b, a ≤ 24 → b ≤ 24 → 25 * a + b < p → RS (FH E H) an bn i a b → ∀ k, k < 32 → tb (hI g 100 (625 * i + (25 * a + b))) k = FH E H i a b k) → ((fu = i + 1 ∧ ∃ a b, RS (FH E H) an bn (i + 1) a b) ∨ (FuOK E H an bn i fu ∧ ∀ a b l, a ≤ 24 → b ≤ 24 → 25 * a + b < p → RS (FH E H) an bn i a b → 1 ≤ l → l ≤ 24 → FH E H i a b l = false)) →
    ∃ fu2 g1, m_X12_reaches_50 k41 f H.laws (nI H.n) (nI mr) (nI fu) (nI i) (nI p) g = k41 H.laws (nI H.n) (nI mr) (nI fu2) (nI (i + 1)) g1 ∧ RX E g1 ∧ WX E H M g1 ∧ Rea E H an bn (i + 1) g1 ∧ Zr (i + 1) g1 ∧ May E H an bn (i + 1) g1 ∧ FuOK E H an bn (i + 1) fu2 ∧ Ch PR3 g g1 := by
  have hn := H.hn
  have hm := E.hm
  intro d
  induction d with
  | zero =>
    intro p f fu g hp hf x wx rea zr row may mayi hfu
    obtain ⟨f, rfl⟩ : ∃ a, f = a + 1 := ⟨f - 1, by omega⟩
    have : p = 625 := by omega
    subst this
    have hrow : ∀ l a, l ≤ 24 → a ≤ 24 → (hI g 102 (625 * (i + 1) + (25 * l + a)) ≠ 0 ↔ RS (FH E H) an bn (i + 1) l a) := fun l a h1 h2 => by
      rw [row l a h1 h2]
      constructor
      · rintro ⟨h3, b, h4, h5, h6, h7⟩; exact ⟨⟨h3, h1⟩, b, h4, h6, h7⟩
      · rintro ⟨h3, b, h4, h6, h7⟩; exact ⟨h3.1, b, h4, by omega, h6, h7⟩
    refine ⟨fu, g, by rw [m_X12_reaches_50, if_pos (by decide), lt_eq, nI_1], x, wx, fun j a b hj h1 h2 => ?_, zr, fun j a b hj h1 h2 hr => ?_, ?_, Ch.rf⟩
    · by_cases hji : j = i + 1
      · subst hji; exact hrow a b h1 h2
      · exact rea j a b (by omega) h1 h2
    · by_cases hji : j = i
      · subst hji; exact mayi a b h1 h2 (by omega) hr
      · exact may j a b (by omega) h1 h2 hr
    · rcases hfu with ⟨h1, h2⟩ | ⟨h1, h2⟩
      · subst h1; exact ⟨Nat.le_refl _, h2, fun j a b h3 h4 => by omega⟩
      · refine ⟨by have := h1.1; omega, h1.2.1, fun j a b h3 h4 hr => ?_⟩
        by_cases hji : j = i + 1
        · subst hji
          obtain ⟨h5, b2, h6, h7, h8⟩ := hr
          have hbb := RS_b ha hb i b b2 h7
          have := h2 b b2 a hbb.1 h6 (by omega) h7 h5.1 h5.2
          rw [this] at h8; cases h8
        · exact h1.2.2 j a b h3 (by omega) hr
  | succ d ih =>
    intro p f fu g hp hf x wx rea zr row may mayi hfu
    obtain ⟨f, rfl⟩ : ∃ a, f = a + 1 := ⟨f - 1, by omega⟩
    have ex : (625 : Int32) * nI i + nI p = nI (625 * i + p) := by rw [show (625 : Int32) * nI i = nI (625 * i) from pk_mul 625 i, nI_add]
    have epair : p = 25 * (p / 25) + p % 25 := by omega
    have hpa : p / 25 ≤ 24 := by omega
    have hpb : p % 25 ≤ 24 := by omega
    generalize hA : p / 25 = a at epair hpa
    generalize hB : p % 25 = b at epair hpb
    have hrs := rea i a b (Nat.le_refl _) hpa hpb
    rw [← epair] at hrs
    have uniq : ∀ a2 b2, b2 ≤ 24 → 25 * a2 + b2 = p → a2 = a ∧ b2 = b := fun a2 b2 h1 h2 => by omega
    rw [m_X12_reaches_50, if_neg (show ¬ 625 ≤ nI p from nI_ge (a := p) (b := 625) (by omega) (by omega))]
    simp only [ex, gd_pos (inb_nI (n := 625 * i + p) (N := 8125) (by omega) (by omega)), gd_pos (inb_nI (n := 625 * i + p) (N := 7500) (by omega) (by omega)), nI_clamp (n := 625 * i + p) (show 625 * i + p < 2 ^ 31 by omega)]
    by_cases hz : hI g 102 (625 * i + p) = 0
    · have hnr : ¬ RS (FH E H) an bn i a b := fun z => (hrs.mpr z) hz
      rw [if_pos hz, lt_eq, nI_1]
      refine ih (p + 1) f fu g (by omega) (by omega) x wx rea zr (fun l a2 h1 h2 => ?_) may (fun a2 b2 h1 h2 h3 hr => ?_) ?_
      · rw [row l a2 h1 h2]
        constructor
        · rintro ⟨h3, b2, h4, h5, h6⟩; exact ⟨h3, b2, h4, by omega, h6⟩
        · rintro ⟨h3, b2, h4, h5, h6, h7⟩
          refine ⟨h3, b2, h4, ?_, h6, h7⟩
          by_cases he : 25 * a2 + b2 = p
          · obtain ⟨rfl, rfl⟩ := uniq a2 b2 h4 he; exact absurd h6 hnr
          · omega
      · by_cases he : 25 * a2 + b2 = p
        · obtain ⟨rfl, rfl⟩ := uniq a2 b2 h2 he; exact absurd hr hnr
        · exact mayi a2 b2 h1 h2 (by omega) hr
      · rcases hfu with h | ⟨h1, h2⟩
        · exact Or.inl h
        · refine Or.inr ⟨h1, fun a2 b2 l h3 h4 h5 hr h6 h7 => ?_⟩
          by_cases he : 25 * a2 + b2 = p
          · obtain ⟨rfl, rfl⟩ := uniq a2 b2 h4 he; exact absurd hr hnr
          · exact h2 a2 b2 l h3 h4 (by omega) hr h6 h7
    · have hr0 : RS (FH E H) an bn i a b := hrs.mp hz
      have gi : inb (nI i) 12 := inb_nI (by omega) (by omega)
      have ec : (nI i).toNatClampNeg = i := nI_clamp (by omega)
      have ed : nI p / 25 = nI a := by rw [epair]; exact pair_div hpa hpb
      have em : nI p - nI p / 25 * 25 = nI b := by rw [epair]; exact pair_mod hpa hpb
      obtain ⟨g0, e0, c0, x0, s0⟩ := standsBehindM x (show i ≤ 12 by omega) (nI a) (nI b)
      have her : (if i = 0 then E.r else hI g 97 (i - 1)) = rrH E H i := by
        unfold rrH
        by_cases h0 : i = 0
        · rw [if_pos h0, if_pos h0]
        · rw [if_neg h0, if_neg h0, (wx (i - 1) (by omega)).1]
      rw [her] at s0
      have hrr : -1 ≤ (rrH E H i).toInt ∧ (rrH E H i).toInt ≤ 5 := by
        unfold rrH; split
        · exact E.hr
        · have := H.hw (i - 1) (by omega); omega
      obtain ⟨y, g1, e1, c1, x1, s1, q1⟩ := x0.ask s0 H.laws (H.hw i hi) (M.hwat i hi) hrr
      have c01 := (pst_pmo c0).trans (pws_pmo c1)
      have wx0 := wx.ch c0 (fun _ => ⟨rfl, rfl, rfl⟩)
      have wx1 := wx.ch c01 (fun _ => ⟨rfl, rfl, rfl⟩)
      obtain ⟨y2, e2, q2⟩ := withDigit_l (x := y) (dg := M.dgt i) M.hmr g1 24 1 FU 0 (by omega) (by omega) (by unfold FU; omega)
      have hy2 : ∀ k, k < 32 → tb y2 k = FH E H i a b k := fun k hk => by
        rw [q2 k hk, q1 k hk, tb_zero, Bool.false_or]
        unfold FH
        rw [M.hlen i hi k hk]
        cases hsz : tb (E.siz (H.wat i).toNatClampNeg) k with
        | false => simp
        | true =>
          rw [decide_eq_true (E.hsz _ (clamp_lt (M.hwat i hi).1 (by have := (M.hwat i hi).2; omega)) k hk hsz)]
          simp [Bool.and_comm]
      have e2' : m_X12_withDigit y (nI mr) (M.dgt i) g1 = some (y2, g1) := e2
      rw [if_neg hz, em, ed, e0, bd_some]
      simp only [gd_pos gi, ec, lt_eq]
      rw [(wx0 i hi).1, (wx0 i hi).2.1, e1, bd_some, (wx1 i hi).2.2, e2', bd_some]
      have c2 : Ch PR3 g (sI g1 100 (625 * i + p) y2) := (pmo_pr3 c01).sI (by simp)
      obtain ⟨fu2, g2, e3, c3, q3, q4⟩ := reaches145 (a := a) (b := b) (y := y2) H.laws hpa hpb (show i < 12 by omega) (nI H.n) (nI mr) k41 (m_X12_reaches_50 k41 f) 24 1 FU fu (sI g1 100 (625 * i + p) y2) (by omega) (by omega) (by unfold FU; omega)
      rw [← epair] at e3
      rw [show m_X12_reaches_145 k41 (m_X12_reaches_50 k41 f) FU H.laws (nI H.n) (nI mr) (nI fu) (nI i) (nI p) y2 1 (sI g1 100 (625 * i + p) y2) = _ from e3]
      have c3' : Ch PR3 g g2 := c2.trans (c3.mono (fun k i hp => by
        simp only [Bool.or_eq_false_iff] at hp ⊢; exact hp.2))
      have e102 : ∀ z, hI g2 102 z ≠ 0 ↔ (hI g 102 z ≠ 0 ∨ ∃ u, 1 ≤ u ∧ u ≤ 24 ∧ tb y2 u = true ∧ z = 625 * (i + 1) + (25 * u + a)) := fun z => by
        rw [q4 z, hI_sI, if_neg (by omega), c01.i rfl]
      have e100 : ∀ z, hI g2 100 z = if z = 625 * i + p then y2 else hI g 100 z := fun z => by
        rw [c3.i rfl, hI_sI]
        by_cases hzz : z = 625 * i + p
        · rw [if_pos ⟨rfl, hzz⟩, if_pos hzz]
        · rw [if_neg (by omega), if_neg hzz, c01.i rfl]
      obtain ⟨fu3, g3, e4, x4, w4, r4, z4, m4, f4, c4⟩ := ih (p + 1) f fu2 g2 (by omega) (by omega) (x.pkm (pr3_pkm c3')) (wx.ch c3' (fun _ => ⟨rfl, rfl, rfl⟩)) (fun j a2 b2 hj h1 h2 => by
          rw [e102, ← rea j a2 b2 hj h1 h2]
          constructor
          · rintro (h | ⟨u, h3, h4, h5, h6⟩)
            · exact h
            · omega
          · exact Or.inl) (fun z hz hz2 => by
          have : ¬ hI g2 102 z ≠ 0 := fun w => by
            rcases (e102 z).mp w with h | ⟨u, h3, h4, h5, h6⟩
            · exact h (zr z hz hz2)
            · omega
          simpa using this) (fun l a2 h1 h2 => by
          rw [e102, row l a2 h1 h2]
          constructor
          · rintro (⟨h3, b2, h4, h5, h6⟩ | ⟨u, h3, h4, h5, h6⟩)
            · exact ⟨h3, b2, h4, by omega, h6⟩
            · have hul : u = l := by omega
              have haa : a = a2 := by omega
              subst hul haa
              exact ⟨h3, b, hpb, by omega, hr0, by rw [← hy2 u (by omega)]; exact h5⟩
          · rintro ⟨h3, b2, h4, h5, h6, h7⟩
            by_cases he : 25 * a2 + b2 = p
            · obtain ⟨rfl, rfl⟩ := uniq a2 b2 h4 he
              exact Or.inr ⟨l, h3, h1, by rw [hy2 l (by omega)]; exact h7, rfl⟩
            · exact Or.inl ⟨h3, b2, h4, by omega, h6, h7⟩) (fun j a2 b2 hj h1 h2 hr => by
          intro k hk
          rw [e100, if_neg (by omega)]; exact may j a2 b2 hj h1 h2 hr k hk) (fun a2 b2 h1 h2 h3 hr k hk => by
          rw [e100]
          by_cases he : 25 * a2 + b2 = p
          · obtain ⟨rfl, rfl⟩ := uniq a2 b2 h2 he
            rw [if_pos (by omega)]; exact hy2 k hk
          · rw [if_neg (by omega)]; exact mayi a2 b2 h1 h2 (by omega) hr k hk) (by
          rcases q3 with ⟨⟨u, h1, h2, h3⟩, h4⟩ | ⟨h1, h2⟩
          · exact Or.inl ⟨h4, u, a, ⟨⟨h1, h2⟩, b, hpb, hr0, by rw [← hy2 u (by omega)]; exact h3⟩⟩
          · rw [h2]
            rcases hfu with h | ⟨h3, h4⟩
            · exact Or.inl h
            · refine Or.inr ⟨h3, fun a2 b2 l h5 h6 h7 hr h8 h9 => ?_⟩
              by_cases he : 25 * a2 + b2 = p
              · obtain ⟨rfl, rfl⟩ := uniq a2 b2 h6 he
                rw [← hy2 l (by omega)]; exact h1 l h8 h9
              · exact h4 a2 b2 l h5 h6 (by omega) hr h8 h9)
      exact ⟨fu3, g3, e4, x4, w4, r4, z4, m4, f4, c3'.trans c4⟩
end RCH
