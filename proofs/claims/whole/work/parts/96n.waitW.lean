/-- the places that a row of the reference marks -/
def MS (c : Nat) (g : AHp) (a b q : Nat) : Prop := a < 25 ∧ b < 25 ∧ q < 7 ∧ ¬ hI g c (kq a b q) = 0
def qOf (n : Nat) : Nat := if n % 7 = 6 then 0 else n % 7 + 1
theorem kq_dec {n : Nat} (hn : n < 4375) : n / 175 < 25 ∧ n / 7 % 25 < 25 ∧ qOf n < 7 ∧ kq (n / 175) (n / 7 % 25) (qOf n) = n := by
  unfold kq qOf
  by_cases h : n % 7 = 6
  · rw [if_pos h, if_pos rfl]; omega
  · rw [if_neg h, if_neg (by omega)]; omega
theorem wtm_clear (k82 : Int32 → Int32 → Int32 → AHp → Option (Int32 × AHp)) (x1 x2 x3 : Int32) : ∀ (d t f : Nat) (g : AHp), t + d = 4375 → d < f → ∃ g1, m_X12_waited_90 k82 f x1 x2 x3 (nI t) g = m_X12_waited_115 k82 FU x1 x2 x3 0 g1 ∧ Ch (fun k _ => k == 110) g g1 ∧ ∀ n, n < 4375 → (n < t → hI g 110 n = 0) → hI g1 110 n = 0 := by
  intro d
  induction d with
  | zero =>
    intro t f g ht hf
    obtain ⟨f, rfl⟩ : ∃ a, f = a + 1 := ⟨f - 1, by omega⟩
    have : t = 4375 := by omega
    subst this
    rw [m_X12_waited_90, if_pos (by decide)]
    exact ⟨g, rfl, Ch.rf, fun n hn h => h hn⟩
  | succ d ih =>
    intro t f g ht hf
    obtain ⟨f, rfl⟩ : ∃ a, f = a + 1 := ⟨f - 1, by omega⟩
    rw [m_X12_waited_90, if_neg (show ¬ 4375 ≤ nI t from nI_ge (a := t) (b := 4375) (by omega) (by omega)), gd_pos (inb_nI (by omega) (by omega)), lt_eq, lt_eq, nI_1, nI_clamp (by omega), vb0]
    obtain ⟨g1, e1, c1, r1⟩ := ih (t + 1) f (sI g 110 t 0) (by omega) (by omega)
    refine ⟨g1, e1, (Ch.rf.sI (by rfl)).trans c1, fun n hn h => r1 n hn (fun h2 => ?_)⟩
    rw [hI_sI]
    by_cases e : n = t
    · rw [if_pos ⟨rfl, e⟩]
    · rw [if_neg (fun h => e h.2)]; exact h (by omega)
theorem nar_b {x : Int32} (h : x = 0 ∨ x = 1) : vp_nar .boolean x = x := by rcases h with rfl | rfl <;> decide
theorem wtm_copy (k82 : Int32 → Int32 → Int32 → AHp → Option (Int32 × AHp)) (x1 x2 : Int32) (i : Nat) : ∀ (d t f : Nat) (g : AHp), t + d = 4375 → d < f → B01 g → ∃ g1, m_X12_waited_176 k82 f x1 x2 (nI i) (nI t) g = k82 x1 x2 (nI (i + 1)) g1 ∧ Ch (fun k _ => k == 109) g g1 ∧ ∀ n, n < 4375 → hI g1 109 n = (if n < t then hI g 109 n else hI g 110 n) := by
  intro d
  induction d with
  | zero =>
    intro t f g ht hf hB
    obtain ⟨f, rfl⟩ : ∃ a, f = a + 1 := ⟨f - 1, by omega⟩
    have : t = 4375 := by omega
    subst this
    rw [m_X12_waited_176, if_pos (by decide), lt_eq, nI_1]
    exact ⟨g, rfl, Ch.rf, fun n hn => by rw [if_pos hn]⟩
  | succ d ih =>
    intro t f g ht hf hB
    obtain ⟨f, rfl⟩ : ∃ a, f = a + 1 := ⟨f - 1, by omega⟩
    have hin : inb (nI t) 4375 := inb_nI (by omega) (by omega)
    have ec : (nI t).toNatClampNeg = t := nI_clamp (by omega)
    rw [m_X12_waited_176, if_neg (show ¬ 4375 ≤ nI t from nI_ge (a := t) (b := 4375) (by omega) (by omega))]
    simp only [gd_pos hin, ec, lt_eq, nI_1, nar_b (hB t (by omega))]
    have c0 : Ch (fun k _ => k == 109) g (sI g 109 t (hI g 110 t)) := Ch.rf.sI (by rfl)
    obtain ⟨g1, e1, c1, r1⟩ := ih (t + 1) f (sI g 109 t (hI g 110 t)) (by omega) (by omega) (fun n hn => by
      rw [c0.i (k := 110) (i := n) rfl]; exact hB n hn)
    refine ⟨g1, e1, c0.trans c1, fun n hn => ?_⟩
    rw [r1 n hn, c0.i (k := 110) (i := n) rfl, hI_sI]
    by_cases e : n = t
    · rw [if_pos (by omega), if_pos ⟨rfl, e⟩, if_neg (by omega), e]
    · rw [if_neg (show ¬ (109 = 109 ∧ n = t) from fun h => e h.2)]
      by_cases h : n < t
      · rw [if_pos h, if_pos (show n < t + 1 by omega)]
      · rw [if_neg h, if_neg (show ¬ n < t + 1 by omega)]
