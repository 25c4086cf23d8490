section LVL
variable {E : En} {l : Nat} {sp : Int32}
abbrev PVw : Nat → Nat → Bool := fun k i => PMo k i || k == 109 || k == 110
theorem pu_pv {g g1 : AHp} (c : Ch PU g g1) : Ch PVw g g1 := c.mono (fun k i hp => by
  simp only [Bool.or_eq_false_iff] at hp ⊢; exact ⟨hp.1.1, hp.2⟩)
theorem RX.pv {g g1 : AHp} (x : RX E g) (c : Ch PVw g g1) : RX E g1 := x.pkm (c.mono (fun k i hp => by
  simp only [Bool.or_eq_false_iff, Bool.and_eq_false_iff, beq_eq_false_iff_ne, ble_f] at hp ⊢; omega))
theorem wtm_82 (hl : 1 ≤ l ∧ l ≤ 24) : ∀ (d i f : Nat) (g : AHp), i + d = 6 → d < f → RX E g →
    ∃ v g1, m_X12_waited_82 f sp (nI l) (nI i) g = some (v, g1) ∧ Ch PVw g g1 ∧ RX E g1 ∧ WR (fun s => tb sp s = true) (fun i a b q s z => wq E i a b q s z = true) l d i (MS 109 g) v.toInt := by
  intro d
  induction d with
  | zero =>
    intro i f g hi hf x
    obtain ⟨f, rfl⟩ : ∃ a, f = a + 1 := ⟨f - 1, by omega⟩
    have : i = 6 := by omega
    subst this
    rw [m_X12_waited_82, if_pos (by decide)]
    exact ⟨-2, g, rfl, Ch.rf, x, show (-2 : Int32).toInt = -2 by decide⟩
  | succ d ih =>
    intro i f g hi hf x
    obtain ⟨f, rfl⟩ : ∃ a, f = a + 1 := ⟨f - 1, by omega⟩
    rw [m_X12_waited_82, if_neg (show ¬ 5 < nI i by rw [i32_lt, nI_toInt (by omega)]; simp only [tIall]; omega)]
    obtain ⟨g0, e0, c0, r0⟩ := wtm_clear (m_X12_waited_82 f) sp (nI l) (nI i) 4375 0 FU g (by omega) (by unfold FU; omega)
    rw [show m_X12_waited_90 (m_X12_waited_82 f) FU sp (nI l) (nI i) 0 g = m_X12_waited_115 (m_X12_waited_82 f) FU sp (nI l) (nI i) 0 g0 from e0]
    have z0 : ∀ n, n < 4375 → hI g0 110 n = 0 := fun n hn => r0 n hn (fun h => by omega)
    have cu0 : Ch PU g g0 := c0.mono (fun k i hp => (Bool.or_eq_false_iff.mp hp).2)
    have e109 : ∀ n, hI g0 109 n = hI g 109 n := fun n => c0.i (k := 109) (i := n) rfl
    obtain ⟨g1, c1, x1, b1, r1⟩ := wtm_scan (E := E) (i := i) (l := l) (sp := sp) (by omega) hl (m_X12_waited_82 f) 4375 0 FU g0 (by omega) (by unfold FU; omega) (x.pu cu0)
    have cv : Ch PVw g g1 := pu_pv (cu0.trans c1)
    rcases r1 with ⟨e1, n, _, hn, h9, hok⟩ | ⟨e1, hno, hnx⟩
    · refine ⟨nI i, g1, e1, cv, x1, Or.inl ⟨?_, nI_toInt (by omega)⟩⟩
      unfold okN at hok
      rw [anyT_iff] at hok
      obtain ⟨s, hs, hok⟩ := hok
      rw [Bool.and_eq_true] at hok
      obtain ⟨k1, k2, k3, k4⟩ := kq_dec hn
      exact ⟨n / 175, n / 7 % 25, qOf n, s, ⟨k1, k2, k3, by rw [k4, ← e109]; exact h9⟩, hs, hok.1, hok.2⟩
    · have hq7 : ∀ a b q, a < 25 → b < 25 → q < 7 → kq a b q / 175 = a ∧ kq a b q / 7 % 25 = b ∧ qOf (kq a b q) = q := fun a b q ha hb hq => by
        obtain ⟨k1, k2, k3⟩ := kq_f hq ha hb
        refine ⟨by omega, by rw [k1]; omega, ?_⟩
        unfold qOf
        rw [k2]
        by_cases h : q = 0
        · rw [if_pos h, if_pos rfl, h]
        · rw [if_neg h, if_neg (by omega)]; omega
      have hnok : ¬ wOk (fun s => tb sp s = true) (fun a b q s z => wq E i a b q s z = true) l (MS 109 g) := by
        rintro ⟨a, b, q, s, ⟨ha, hb, hq, h9⟩, hs, hT, hw⟩
        obtain ⟨k1, k2, k3⟩ := kq_f hq ha hb
        obtain ⟨j1, j2, j3⟩ := hq7 a b q ha hb hq
        have := hno (kq a b q) (by omega) k3 (by rw [e109]; exact h9)
        unfold okN at this
        rw [j1, j2, j3] at this
        have h2 : anyT (fun s => tb sp s && wq E i a b q s l) 6 = true := (anyT_iff 6).mpr ⟨s, hs, by rw [Bool.and_eq_true]; exact ⟨hT, hw⟩⟩
        rw [this] at h2; cases h2
      obtain ⟨g2, e2, c2, r2⟩ := wtm_copy (m_X12_waited_82 f) sp (nI l) i 4375 0 FU g1 (by omega) (by unfold FU; omega) (b1 (fun n hn => Or.inl (z0 n hn)))
      have cv2 : Ch PVw g g2 := cv.trans (c2.mono (fun k i hp => by simp only [Bool.or_eq_false_iff] at hp; exact hp.1.2))
      obtain ⟨v, g3, e3, c3, x3, r3⟩ := ih (i + 1) f g2 (by omega) (by omega) (x.pv cv2)
      refine ⟨v, g3, ?_, cv2.trans c3, x3, Or.inr ⟨hnok, ?_⟩⟩
      · rw [← e3, ← e2]; exact e1
      · by_cases h5 : i = 5
        · have hd : d = 0 := by omega
          subst hd
          exact r3
        · have hset : MS 109 g2 = wNx (fun s => tb sp s = true) (fun a b q s z => wq E i a b q s z = true) (MS 109 g) := by
            funext a b q
            apply propext
            constructor
            · rintro ⟨ha, hb, hq, h9⟩
              obtain ⟨k1, k2, k3⟩ := kq_f hq ha hb
              rw [r2 _ k3, if_neg (by omega), hnx (by omega) _ k3, z0 _ k3] at h9
              rcases h9 with h | ⟨n, _, hn, h9, s2, l', _, q1, q2, q3, q4, q5, q6⟩
              · exact absurd rfl h
              · obtain ⟨m1, m2, m3, m4⟩ := kq_dec hn
                obtain ⟨j1, j2, j3⟩ := hq7 a b q ha hb hq
                obtain ⟨i1, i2, i3⟩ := hq7 l' (n / 175) (s2 + 1) (by omega) m1 (by omega)
                rw [q5] at j1 j2 j3
                have ea : a = l' := j1.symm.trans i1
                have eb : b = n / 175 := j2.symm.trans i2
                have eq : q = s2 + 1 := j3.symm.trans i3
                subst ea eb eq
                exact ⟨s2, n / 7 % 25, qOf n, rfl, q1, q4, q2, q3, ⟨m1, m2, m3, by rw [m4, ← e109]; exact h9⟩, q6⟩
            · rintro ⟨s, b0, q0, eq, hs, hT, h1, h2, ⟨hb, hb0, hq0, h9⟩, hw⟩
              subst eq
              obtain ⟨k1, k2, k3⟩ := kq_f (q := s + 1) (a := a) (b := b) (by omega) (by omega) hb
              obtain ⟨m1, m2, m3⟩ := kq_f hq0 hb hb0
              obtain ⟨j1, j2, j3⟩ := hq7 b b0 q0 hb hb0 hq0
              refine ⟨by omega, hb, by omega, ?_⟩
              rw [r2 _ k3, if_neg (by omega), hnx (by omega) _ k3]
              exact Or.inr ⟨kq b b0 q0, by omega, m3, by rw [e109]; exact h9, s, a, by omega, hs, h1, h2, hT, by rw [j1], by rw [j1, j2, j3]; exact hw⟩
          rw [← hset]
          exact r3
end LVL
