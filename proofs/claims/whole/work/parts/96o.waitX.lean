section SCN
variable {E : En} {i l : Nat} {sp : Int32}
def okN (E : En) (sp : Int32) (i l n : Nat) : Bool := anyT (fun s => tb sp s && wq E i (n / 175) (n / 7 % 25) (qOf n) s l) 6
def NXw (E : En) (sp : Int32) (i n n' : Nat) : Prop := ∃ s2 l', 0 ≤ s2 ∧ s2 < 6 ∧ 1 ≤ l' ∧ l' ≤ 24 ∧ tb sp s2 = true ∧ n' = kq l' (n / 175) (s2 + 1) ∧ wq E i (n / 175) (n / 7 % 25) (qOf n) s2 l' = true
theorem wtm_scan (hi : i ≤ 5) (hl : 1 ≤ l ∧ l ≤ 24) (k82 : Int32 → Int32 → Int32 → AHp → Option (Int32 × AHp)) :
    ∀ (d t f : Nat) (g : AHp), t + d = 4375 → d < f → RX E g →
    ∃ g1, Ch PU g g1 ∧ RX E g1 ∧ (B01 g → B01 g1) ∧
      ((m_X12_waited_115 k82 f sp (nI l) (nI i) (nI t) g = some (nI i, g1) ∧ ∃ n, t ≤ n ∧ n < 4375 ∧ ¬ hI g 109 n = 0 ∧ okN E sp i l n = true) ∨
       (m_X12_waited_115 k82 f sp (nI l) (nI i) (nI t) g = m_X12_waited_176 k82 FU sp (nI l) (nI i) 0 g1 ∧ (∀ n, t ≤ n → n < 4375 → ¬ hI g 109 n = 0 → okN E sp i l n = false) ∧
        (i < 5 → ∀ n', n' < 4375 → (¬ hI g1 110 n' = 0 ↔ ¬ hI g 110 n' = 0 ∨ ∃ n, t ≤ n ∧ n < 4375 ∧ ¬ hI g 109 n = 0 ∧ NXw E sp i n n')))) := by
  intro d
  induction d with
  | zero =>
    intro t f g ht hf x
    obtain ⟨f, rfl⟩ : ∃ a, f = a + 1 := ⟨f - 1, by omega⟩
    have : t = 4375 := by omega
    subst this
    rw [m_X12_waited_115, if_pos (by decide)]
    refine ⟨g, Ch.rf, x, fun h => h, Or.inr ⟨rfl, fun n h1 h2 => by omega, fun _ n' hn => ⟨Or.inl, ?_⟩⟩⟩
    rintro (h | ⟨n, h1, h2, _⟩)
    · exact h
    · omega
  | succ d ih =>
    intro t f g ht hf x
    obtain ⟨f, rfl⟩ : ∃ a, f = a + 1 := ⟨f - 1, by omega⟩
    have hin : inb (nI t) 4375 := inb_nI (by omega) (by omega)
    have ec : (nI t).toNatClampNeg = t := nI_clamp (by omega)
    -- going on behind t
    have go : ∀ g0, Ch PU g g0 → RX E g0 → (B01 g → B01 g0) → (¬ hI g 109 t = 0 → okN E sp i l t = false) → (i < 5 → ∀ n', n' < 4375 → (¬ hI g0 110 n' = 0 ↔ ¬ hI g 110 n' = 0 ∨ (¬ hI g 109 t = 0 ∧ NXw E sp i t n'))) →
        ∃ g1, Ch PU g g1 ∧ RX E g1 ∧ (B01 g → B01 g1) ∧
      ((m_X12_waited_115 k82 f sp (nI l) (nI i) (nI (t + 1)) g0 = some (nI i, g1) ∧ ∃ n, t ≤ n ∧ n < 4375 ∧ ¬ hI g 109 n = 0 ∧ okN E sp i l n = true) ∨
       (m_X12_waited_115 k82 f sp (nI l) (nI i) (nI (t + 1)) g0 = m_X12_waited_176 k82 FU sp (nI l) (nI i) 0 g1 ∧ (∀ n, t ≤ n → n < 4375 → ¬ hI g 109 n = 0 → okN E sp i l n = false) ∧
        (i < 5 → ∀ n', n' < 4375 → (¬ hI g1 110 n' = 0 ↔ ¬ hI g 110 n' = 0 ∨ ∃ n, t ≤ n ∧ n < 4375 ∧ ¬ hI g 109 n = 0 ∧ NXw E sp i n n')))) := by
      intro g0 c0 x0 b0 hno h110
      have e109 : ∀ n, hI g0 109 n = hI g 109 n := fun n => c0.i (k := 109) (i := n) rfl
      obtain ⟨g1, c1, x1, b1, r1⟩ := ih (t + 1) f g0 (by omega) (by omega) x0
      refine ⟨g1, c0.trans c1, x1, fun h => b1 (b0 h), ?_⟩
      rcases r1 with ⟨e1, n, h1, h2, h3, h4⟩ | ⟨e1, h1, h2⟩
      · rw [e109] at h3
        exact Or.inl ⟨e1, n, by omega, h2, h3, h4⟩
      · refine Or.inr ⟨e1, fun n q1 q2 q3 => ?_, fun h5 n' hn => (h2 h5 n' hn).trans ?_⟩
        · by_cases e : n = t
          · rw [e]; rw [e] at q3; exact hno q3
          · exact h1 n (by omega) q2 (by rw [e109]; exact q3)
        · rw [h110 h5 n' hn, or_assoc]
          refine or_congr Iff.rfl ⟨?_, ?_⟩
          · rintro (⟨q1, q2⟩ | ⟨n, q1, q2, q3, q4⟩)
            · exact ⟨t, by omega, by omega, q1, q2⟩
            · rw [e109] at q3; exact ⟨n, by omega, q2, q3, q4⟩
          · rintro ⟨n, q1, q2, q3, q4⟩
            by_cases e : n = t
            · rw [e] at q3 q4; exact Or.inl ⟨q3, q4⟩
            · exact Or.inr ⟨n, by omega, q2, by rw [e109]; exact q3, q4⟩
    rw [m_X12_waited_115, if_neg (show ¬ 4375 ≤ nI t from nI_ge (a := t) (b := 4375) (by omega) (by omega)), gd_pos hin, ec]
    by_cases h0 : hI g 109 t = 0
    · rw [if_pos h0, lt_eq, nI_1]
      exact go g Ch.rf x (fun h => h) (fun h => absurd h0 h) (fun _ n' hn => ⟨Or.inl, fun h => h.elim (fun h => h) (fun h => absurd h0 h.1)⟩)
    · rw [if_neg h0]
      obtain ⟨k1, k2, k3, k4⟩ := kq_dec (n := t) (by omega)
      obtain ⟨g1, e1, c1, x1, s1⟩ := standsInM (E := E) (i := i) k3 k1 k2 x
      rw [k4] at e1
      rw [e1, bd_some]
      obtain ⟨g2, e2, c2, x2, s2⟩ := maySayM (E := E) (i := i) (l := l) (sp := sp) k3 hl x1 s1
      have cm : Ch PMo g g2 := (pst_pmo c1).trans (pws_pmo c2)
      have e110 : ∀ n, hI g2 110 n = hI g 110 n := fun n => cm.i (k := 110) (i := n) rfl
      have b2 : B01 g → B01 g2 := fun h n hn => by rw [e110]; exact h n hn
      rw [e2, bd_some]
      cases hok : okN E sp i l t with
      | true =>
        unfold okN at hok
        rw [hok, i01_t, if_neg one_ne]
        exact ⟨g2, pmo_pu cm, x2, b2, Or.inl ⟨rfl, t, by omega, by omega, h0, by unfold okN; exact hok⟩⟩
      | false =>
        have hok2 := hok
        unfold okN at hok2
        rw [hok2, i01_f, if_pos rfl]
        by_cases h5 : i = 5
        · rw [if_pos (show 5 ≤ nI i by rw [h5]; decide), lt_eq, nI_1]
          exact go g2 (pmo_pu cm) x2 b2 (fun _ => hok) (fun h => by omega)
        · rw [if_neg (show ¬ 5 ≤ nI i from nI_ge (a := i) (b := 5) (by omega) (by omega))]
          obtain ⟨g3, e3, c3, x3, b3, r3⟩ := spm_out (E := E) (i := i) (sp := sp) k3 k1 k2 6 0 FU g2 (by omega) (by unfold FU; omega) x2
          rw [k4] at e3
          rw [show m_X12_spreads (nI t) (nI i) sp g2 = some ((), g3) from e3, bd_some, lt_eq, nI_1]
          refine go g3 ((pmo_pu cm).trans c3) x3 (fun h => b3 (b2 h)) (fun _ => hok) (fun _ n' hn => ?_)
          rw [r3 n' hn, e110]
          refine or_congr Iff.rfl ⟨fun h => ⟨h0, h⟩, fun h => h.2⟩
end SCN
