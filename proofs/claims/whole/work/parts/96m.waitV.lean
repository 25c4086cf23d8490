abbrev PU : Nat → Nat → Bool := fun k i => PMo k i || k == 110
theorem pmo_pu {g g1 : AHp} (c : Ch PMo g g1) : Ch PU g g1 := c.mono (fun k i hp => (Bool.or_eq_false_iff.mp hp).1)
theorem RX.pu {E : En} {g g1 : AHp} (x : RX E g) (c : Ch PU g g1) : RX E g1 := x.pkm (c.mono (fun k i hp => by
  simp only [Bool.or_eq_false_iff, Bool.and_eq_false_iff, beq_eq_false_iff_ne, ble_f] at hp ⊢; omega))
theorem nar01 (b : Bool) : vp_nar .boolean (if b = true then (1 : Int32) else 0) = (if b = true then 1 else 0) := by cases b <;> decide
def B01 (g : AHp) : Prop := ∀ n, n < 4375 → hI g 110 n = 0 ∨ hI g 110 n = 1
section SPM
variable {E : En} {a b q i : Nat} {sp : Int32}
theorem spm_in (hq : q < 7) (ha : a < 25) (hb : b < 25) {s : Nat} (hs : s < 6) (k3 : Int32 → Int32 → Int32 → Int32 → AHp → Option (Unit × AHp)) :
    ∀ (d t f : Nat) (g : AHp), t + d = 25 → 1 ≤ t → d < f → RX E g →
    ∃ g1, m_X12_spreads_13 k3 f (nI (kq a b q)) (nI i) sp (nI s) (nI t) g = k3 (nI (kq a b q)) (nI i) sp (nI (s + 1)) g1 ∧ Ch PU g g1 ∧ RX E g1 ∧ (B01 g → B01 g1) ∧
      ∀ n, n < 4375 → (¬ hI g1 110 n = 0 ↔ ¬ hI g 110 n = 0 ∨ ∃ l', t ≤ l' ∧ l' ≤ 24 ∧ tb sp s = true ∧ n = kq l' a (s + 1) ∧ wq E i a b q s l' = true) := by
  intro d
  induction d with
  | zero =>
    intro t f g ht h1 hf x
    obtain ⟨f, rfl⟩ : ∃ a, f = a + 1 := ⟨f - 1, by omega⟩
    have : t = 25 := by omega
    subst this
    rw [m_X12_spreads_13, if_pos (by decide), lt_eq, nI_1]
    refine ⟨g, rfl, Ch.rf, x, fun h => h, fun n hn => ⟨Or.inl, ?_⟩⟩
    rintro (h | ⟨l', h1, h2, _⟩)
    · exact h
    · omega
  | succ d ih =>
    intro t f g ht h1 hf x
    obtain ⟨f, rfl⟩ : ∃ a, f = a + 1 := ⟨f - 1, by omega⟩
    obtain ⟨k1, k2, k4⟩ := kq_f hq ha hb
    obtain ⟨m1, m2, m3⟩ := kq_f (q := s + 1) (a := t) (b := a) (by omega) (by omega) ha
    have d1 : nI (kq a b q) / 7 = nI (25 * a + b) := by
      have := pk_div (a := kq a b q) (d := 7) (by omega) (by omega) (by omega)
      rw [k1] at this; exact this
    have ethen : (7 : Int32) * nI (25 * t + a) + nI s = nI (kq t a (s + 1)) := by
      rw [show (7 : Int32) * nI (25 * t + a) = nI (7 * (25 * t + a)) from pk_mul 7 (25 * t + a), nI_add]
      unfold kq
      rw [if_neg (by omega), Nat.add_sub_cancel]
    rw [m_X12_spreads_13, if_neg (show ¬ 24 < nI t by rw [i32_lt, nI_toInt (by omega)]; simp only [tIall]; omega), hasM _ (by omega), bd_some]
    cases hsp : tb sp s with
    | false =>
      rw [i01_f, if_pos rfl, lt_eq, nI_1]
      refine ⟨g, rfl, Ch.rf, x, fun h => h, fun n hn => ⟨Or.inl, ?_⟩⟩
      rintro (h | ⟨l', _, _, h3, _⟩)
      · exact h
      · cases h3
    | true =>
      have hin : inb (nI (kq t a (s + 1))) 4375 := inb_nI m3 (by omega)
      have ec : (nI (kq t a (s + 1))).toNatClampNeg = kq t a (s + 1) := nI_clamp (by omega)
      rw [i01_t, if_neg one_ne, d1, pairBehindM (by omega) (by omega), bd_some, lt_eq, ethen]
      simp only [gd_pos hin, ec]
      by_cases h0 : hI g 110 (kq t a (s + 1)) = 0
      · rw [if_pos h0]
        obtain ⟨g1, e1, c1, x1, s1⟩ := standsInM (E := E) (i := i) hq ha hb x
        rw [e1, bd_some]
        obtain ⟨g2, e2, c2, x2, s2⟩ := maySayM (E := E) (i := i) (l := t) (sp := (1 : Int32) <<< (nI s &&& 31)) hq ⟨h1, by omega⟩ x1 s1
        have hone : anyT (fun s2 => tb ((1 : Int32) <<< (nI s &&& 31)) s2 && wq E i a b q s2 t) 6 = wq E i a b q s t := by
          rw [Bool.eq_iff_iff, anyT_iff]
          constructor
          · rintro ⟨s2, hs2, h⟩
            rw [Bool.and_eq_true, tb_bit (by omega) (by omega), decide_eq_true_iff] at h
            rw [← h.1]; exact h.2
          · intro h
            exact ⟨s, hs, by rw [tb_bit (by omega) (by omega), h]; simp⟩
        rw [hone] at e2
        rw [e2, bd_some, lt_eq, lt_eq, nI_1, nar01]
        have c12 : Ch PU g g2 := pmo_pu ((pst_pmo c1).trans (pws_pmo c2))
        have c3 : Ch PU g (sI g2 110 (kq t a (s + 1)) (if wq E i a b q s t = true then 1 else 0)) := c12.sI (by rfl)
        have v110 : ∀ n, hI (sI g2 110 (kq t a (s + 1)) (if wq E i a b q s t = true then 1 else 0)) 110 n = if n = kq t a (s + 1) then (if wq E i a b q s t = true then 1 else 0) else hI g 110 n := fun n => by
          rw [hI_sI]
          by_cases e : n = kq t a (s + 1)
          · rw [if_pos ⟨rfl, e⟩, if_pos e]
          · rw [if_neg (fun h => e h.2), if_neg e]
            exact (pst_pmo c1 |>.trans (pws_pmo c2)).i (k := 110) (i := n) rfl
        generalize sI g2 110 (kq t a (s + 1)) (if wq E i a b q s t = true then 1 else 0) = g3 at c3 v110
        obtain ⟨g4, e4, c4, x4, b4, r4⟩ := ih (t + 1) f g3 (by omega) (by omega) (by omega) (x.pu c3)
        have b3 : B01 g → B01 g3 := fun h n hn => by
          rw [v110]
          by_cases e : n = kq t a (s + 1)
          · rw [if_pos e]; exact b01_ok _
          · rw [if_neg e]; exact h n hn
        refine ⟨g4, e4, c3.trans c4, x4, fun h => b4 (b3 h), fun n hn => (r4 n hn).trans ?_⟩
        rw [v110, hsp]
        by_cases e : n = kq t a (s + 1)
        · rw [if_pos e, e, h0]
          constructor
          · rintro (h | ⟨l', h1, h2, h3, h4, h5⟩)
            · refine Or.inr ⟨t, by omega, by omega, trivial, rfl, ?_⟩
              cases hw : wq E i a b q s t with
              | true => rfl
              | false => rw [hw] at h; exact absurd i01_f h
            · exact Or.inr ⟨l', by omega, h2, trivial, h4, h5⟩
          · rintro (h | ⟨l', h1, h2, h3, h4, h5⟩)
            · exact absurd rfl h
            · by_cases e2 : l' = t
              · rw [e2] at h5; rw [h5, i01_t]; exact Or.inl one_ne
              · exact Or.inr ⟨l', by omega, h2, rfl, h4, h5⟩
        · rw [if_neg e]
          refine or_congr Iff.rfl ⟨?_, ?_⟩
          · rintro ⟨l', h1, h2, h3, h4, h5⟩; exact ⟨l', by omega, h2, trivial, h4, h5⟩
          · rintro ⟨l', h1, h2, h3, h4, h5⟩
            by_cases e2 : l' = t
            · rw [e2] at h4; exact absurd h4 e
            · exact ⟨l', by omega, h2, rfl, h4, h5⟩
      · rw [if_neg h0, lt_eq, nI_1]
        obtain ⟨g4, e4, c4, x4, b4, r4⟩ := ih (t + 1) f g (by omega) (by omega) (by omega) x
        refine ⟨g4, e4, c4, x4, b4, fun n hn => (r4 n hn).trans ?_⟩
        rw [hsp]
        constructor
        · rintro (h | ⟨l', h1, h2, h3, h4, h5⟩)
          · exact Or.inl h
          · exact Or.inr ⟨l', by omega, h2, trivial, h4, h5⟩
        · rintro (h | ⟨l', h1, h2, h3, h4, h5⟩)
          · exact Or.inl h
          · by_cases e2 : l' = t
            · rw [e2] at h4; rw [h4]; exact Or.inl h0
            · exact Or.inr ⟨l', by omega, h2, rfl, h4, h5⟩
end SPM
section SPM2
variable {E : En} {a b q i : Nat} {sp : Int32}
theorem spm_out (hq : q < 7) (ha : a < 25) (hb : b < 25) :
    ∀ (d s f : Nat) (g : AHp), s + d = 6 → d < f → RX E g →
    ∃ g1, m_X12_spreads_3 f (nI (kq a b q)) (nI i) sp (nI s) g = some ((), g1) ∧ Ch PU g g1 ∧ RX E g1 ∧ (B01 g → B01 g1) ∧
      ∀ n, n < 4375 → (¬ hI g1 110 n = 0 ↔ ¬ hI g 110 n = 0 ∨ ∃ s2 l', s ≤ s2 ∧ s2 < 6 ∧ 1 ≤ l' ∧ l' ≤ 24 ∧ tb sp s2 = true ∧ n = kq l' a (s2 + 1) ∧ wq E i a b q s2 l' = true) := by
  intro d
  induction d with
  | zero =>
    intro s f g hs hf x
    obtain ⟨f, rfl⟩ : ∃ a, f = a + 1 := ⟨f - 1, by omega⟩
    have : s = 6 := by omega
    subst this
    rw [m_X12_spreads_3, if_pos (by decide)]
    refine ⟨g, rfl, Ch.rf, x, fun h => h, fun n hn => ⟨Or.inl, ?_⟩⟩
    rintro (h | ⟨s2, l', h1, h2, _⟩)
    · exact h
    · omega
  | succ d ih =>
    intro s f g hs hf x
    obtain ⟨f, rfl⟩ : ∃ a, f = a + 1 := ⟨f - 1, by omega⟩
    rw [m_X12_spreads_3, if_neg (show ¬ 6 ≤ nI s from nI_ge (a := s) (b := 6) (by omega) (by omega))]
    obtain ⟨g1, e1, c1, x1, b1, r1⟩ := spm_in (E := E) (i := i) (sp := sp) hq ha hb (s := s) (by omega) (m_X12_spreads_3 f) 24 1 FU g (by omega) (by omega) (by unfold FU; omega) x
    obtain ⟨g2, e2, c2, x2, b2, r2⟩ := ih (s + 1) f g1 (by omega) (by omega) x1
    refine ⟨g2, ?_, c1.trans c2, x2, fun h => b2 (b1 h), fun n hn => (r2 n hn).trans ?_⟩
    · rw [← e2]; exact e1
    · rw [r1 n hn, or_assoc]
      refine or_congr Iff.rfl ⟨?_, ?_⟩
      · rintro (⟨l', h1, h2, h3, h4, h5⟩ | ⟨s2, l', h1, h2⟩)
        · exact ⟨s, l', by omega, by omega, h1, h2, h3, h4, h5⟩
        · exact ⟨s2, l', by omega, h2⟩
      · rintro ⟨s2, l', h1, h2, h3, h4, h5, h6, h7⟩
        by_cases e : s2 = s
        · subst e; exact Or.inl ⟨l', h3, h4, h5, h6, h7⟩
        · exact Or.inr ⟨s2, l', by omega, h2, h3, h4, h5, h6, h7⟩
end SPM2
