/-! waited: the reference -/
section MS
variable {E : En} {a b q i l : Nat} {sp : Int32}
theorem ms_in (hq : q < 7) (hl : 1 ≤ l ∧ l ≤ 24) {s : Nat} (hs : s < 6) (k2 : Int32 → Int32 → Int32 → AHp → Option (Int32 × AHp)) :
    ∀ (d t f : Nat) (g : AHp), t + d = 12 → d < f → RX E g → StM g (nI a) (nI b) (nI q - 1) (nI (E.m + i)) →
    (∀ t2, t2 < t → (tb (E.siz t2) l && E.ok 1 (nI s) (nI t2) (nI a) (nI b) (nI q - 1) (nI (E.m + i)) l) = false) →
    ∃ g1, Ch PWs g g1 ∧ RX E g1 ∧ StM g1 (nI a) (nI b) (nI q - 1) (nI (E.m + i)) ∧
      ((m_X12_maySay_11 k2 f sp (nI l) (nI s) (nI t) g = some (1, g1) ∧ tb sp s = true ∧ wq E i a b q s l = true) ∨
       (m_X12_maySay_11 k2 f sp (nI l) (nI s) (nI t) g = k2 sp (nI l) (nI (s + 1)) g1 ∧ (tb sp s = true → wq E i a b q s l = false))) := by
  have hall : ∀ t, t < 12 → tb 4095 t = true := by decide
  intro d
  induction d with
  | zero =>
    intro t f g ht hf x st hno
    obtain ⟨f, rfl⟩ : ∃ a, f = a + 1 := ⟨f - 1, by omega⟩
    have : t = 12 := by omega
    subst this
    rw [m_X12_maySay_11, if_pos (by decide), lt_eq, nI_1]
    refine ⟨g, Ch.rf, x, st, Or.inr ⟨rfl, fun _ => ?_⟩⟩
    cases hw : wq E i a b q s l with
    | false => rfl
    | true =>
      unfold wq En.anyOk at hw
      rw [anyT_iff] at hw
      obtain ⟨t, ht, hw⟩ := hw
      rw [hall t ht, Bool.true_and, hno t ht] at hw
      cases hw
  | succ d ih =>
    intro t f g ht hf x st hno
    obtain ⟨f, rfl⟩ : ∃ a, f = a + 1 := ⟨f - 1, by omega⟩
    rw [m_X12_maySay_11, if_neg (show ¬ 12 ≤ nI t from nI_ge (a := t) (b := 12) (by omega) (by omega)), hasM _ (by omega), bd_some]
    cases hb : tb sp s with
    | false =>
      rw [i01_f, if_pos rfl, lt_eq, nI_1]
      exact ⟨g, Ch.rf, x, st, Or.inr ⟨rfl, fun h => by cases h⟩⟩
    | true =>
      rw [i01_t, if_neg one_ne, gd_pos (inb_nI (by omega) (by omega)), nI_clamp (by omega), x.2.2.1.2 t (by omega), hasM _ (by omega), bd_some]
      cases hz : tb (E.siz t) l with
      | false =>
        rw [i01_f, if_pos rfl, lt_eq, nI_1]
        obtain ⟨g1, c1, x1, s1, r1⟩ := ih (t + 1) f g (by omega) (by omega) x st (fun t2 h2 => by
          by_cases e : t2 = t
          · rw [e, hz, Bool.false_and]
          · exact hno t2 (by omega))
        rw [hb] at r1
        exact ⟨g1, c1, x1, s1, r1⟩
      | true =>
        rw [i01_t, if_neg one_ne, saysM, bd_some]
        have hq1 := q_int hq
        obtain ⟨g1, e1, c1, x1, s1⟩ := x.ask1 (w := 0) (l := l) (t := nI t) st (by omega) (s_int hs) (by rw [hq1]; omega)
        rw [show m_X12_lets 0 (sI (sI (sI g 70 35 (nI s)) 70 34 (nI t)) 70 33 (nI l)) = _ from e1, bd_some]
        rw [show lawsOf 0 = 1 from rfl]
        cases hok : E.ok 1 (nI s) (nI t) (nI a) (nI b) (nI q - 1) (nI (E.m + i)) l with
        | true =>
          rw [i01_t, if_neg one_ne]
          refine ⟨g1, c1, x1, s1, Or.inl ⟨rfl, rfl, ?_⟩⟩
          unfold wq En.anyOk
          rw [anyT_iff]
          exact ⟨t, by omega, by rw [hall t (by omega), hz, hok]; rfl⟩
        | false =>
          rw [i01_f, if_pos rfl, lt_eq, nI_1]
          obtain ⟨g2, c2, x2, s2, r2⟩ := ih (t + 1) f g1 (by omega) (by omega) x1 s1 (fun t2 h2 => by
            by_cases e : t2 = t
            · rw [e, hok, Bool.and_false]
            · exact hno t2 (by omega))
          rw [hb] at r2
          exact ⟨g2, c1.trans c2, x2, s2, r2⟩
end MS
