section ANS
variable {E : En} {T W : Int32} {kA kB kS kL kK : Bool} {l : Nat}
theorem waitC (hl : 1 ≤ l ∧ l ≤ 24) (hW : W = (1 : Int32) <<< (nI l &&& 31))
    (hS : kS = false → ∀ i a b q s s2 z, s < 6 → s2 < 6 → wq E i a b q s z = wq E i a b q s2 z) :
    ∀ (d i f : Nat) (g : AHp), i + d = 6 → d < f → CX E g → WtX T W kA kB kS kL kK g →
    ∃ v g1, m_X10_answer_34 f (nI i) g = some (v, g1) ∧ Ch PW3 g g1 ∧ CX E g1 ∧ WC kA kB kL kK (fun s => tb T s = true) (fun i a b q s z => wq E i a b q s z = true) l d i (CS 64 g) (CS 66 g) v.toInt := by
  intro d
  induction d with
  | zero =>
    intro i f g hi hf x wx
    obtain ⟨f, rfl⟩ : ∃ a, f = a + 1 := ⟨f - 1, by omega⟩
    have : i = 6 := by omega
    subst this
    rw [m_X10_answer_34, if_pos (by decide)]
    exact ⟨-2, g, rfl, Ch.rf, x, show (-2 : Int32).toInt = -2 by decide⟩
  | succ d ih =>
    intro i f g hi hf x wx
    obtain ⟨f, rfl⟩ : ∃ a, f = a + 1 := ⟨f - 1, by omega⟩
    have hm := E.hm
    rw [m_X10_answer_34, if_neg (show ¬ 5 < nI i by rw [i32_lt, nI_toInt (by omega)]; simp only [tIall]; omega), x.1, nI_add]
    obtain ⟨v, g1, e1, c1, x1, r1⟩ := somebodyC (E := E) (T := T) (W := W) (kA := kA) (kB := kB) (kS := kS) (kL := kL) (kK := kK) (i := i) (l := l) (by omega) hl hW (fun h a b q s s2 h1 h2 => hS h i a b q s s2 l h1 h2) x wx
    have w1 : WtX T W kA kB kS kL kK g1 := wx.ch c1 (fun i => rfl)
    have c1' : Ch PW3 g g1 := pwt_3 (pc_pw c1)
    have s64 : CS 64 g1 = CS 64 g := by
      funext a b q
      unfold CS
      rw [c1.i (k := 64) (i := 25 * q + b) rfl]
    have s66 : CS 66 g1 = CS 66 g := by
      funext a b q
      unfold CS
      rw [c1.i (k := 66) (i := 25 * q + b) rfl]
    rw [e1, bd_some]
    rcases r1 with ⟨hv, hok⟩ | ⟨hv, hno⟩
    · rw [hv, if_neg one_ne]
      exact ⟨nI i, g1, rfl, c1', x1, Or.inl ⟨hok, nI_toInt (by omega)⟩⟩
    · rw [hv, if_pos rfl]
      by_cases h5 : i = 5
      · rw [if_pos (show 5 ≤ nI i by rw [h5]; decide), lt_eq, nI_1]
        obtain ⟨v2, g2, e2, c2, x2, r2⟩ := ih (i + 1) f g1 (by omega) (by omega) x1 w1
        have hd : d = 0 := by omega
        subst hd
        exact ⟨v2, g2, e2, c1'.trans c2, x2, Or.inr ⟨hno, r2⟩⟩
      · rw [if_neg (show ¬ 5 ≤ nI i from nI_ge (a := i) (b := 5) (by omega) (by omega)), x1.1, nI_add]
        obtain ⟨v2, g2, e2, c2, x2, hz, q64, q66⟩ := spreadC (E := E) (T := T) (W := W) (kA := kA) (kB := kB) (kS := kS) (kL := kL) (kK := kK) (i := i) (l := l) (by omega) hl hW (fun h a b q s s2 z h1 h2 => hS h i a b q s s2 z h1 h2) x1 w1
        rw [e2, bd_some]
        rw [s64, s66] at q64
        rw [s64, s66] at q66
        have f64 : CS 64 g2 = fun a b q => wNxC kA kB kL (fun s => tb T s = true) (fun a b q s z => wq E i a b q s z = true) l (CS 64 g) a b q ∧ (kK = false → ¬ CS 66 g a b q) := by
          funext a b q; exact propext (q64 a b q)
        have f66 : CS 66 g2 = fun a b q => CS 66 g a b q ∨ wNxC kA kB kL (fun s => tb T s = true) (fun a b q s z => wq E i a b q s z = true) l (CS 64 g) a b q := by
          funext a b q; exact propext (q66 a b q)
        by_cases h0 : v2 = 0
        · rw [if_pos h0]
          refine ⟨-2, g2, rfl, c1'.trans c2, x2, Or.inr ⟨hno, ?_⟩⟩
          have := WC_nil kA kB kL kK (fun s => tb T s = true) (fun i a b q s z => wq E i a b q s z = true) l d (i + 1) (CS 64 g2) (CS 66 g2) (hz h0)
          rw [f64, f66] at this
          exact this
        · rw [if_neg h0, lt_eq, nI_1]
          obtain ⟨v3, g3, e3, c3, x3, r3⟩ := ih (i + 1) f g2 (by omega) (by omega) x2 (w1.ch c2 (fun i => rfl))
          rw [f64, f66] at r3
          exact ⟨v3, g3, e3, (c1'.trans c2).trans c3, x3, Or.inr ⟨hno, r3⟩⟩
end ANS
