section SPC
variable {E : En} {T W : Int32} {kA kB kS kL kK : Bool} {i l : Nat}
abbrev PW3 : Nat → Nat → Bool := fun k i => PC k i || k == 64 || k == 65 || k == 66
theorem pwt_3 {g g1 : AHp} (c : Ch PWt g g1) : Ch PW3 g g1 := c.mono (fun k i hp => by
  simp only [Bool.or_eq_false_iff] at hp ⊢; exact ⟨hp.1.1.1, hp.1.2⟩)
theorem CX.p46 {g g1 : AHp} (x : CX E g) (c : Ch P46 g g1) : CX E g1 := x.po (c.mono (fun k i hp => by
  simp only [Bool.or_eq_false_iff, Bool.and_eq_false_iff, beq_eq_false_iff_ne, ble_f] at hp ⊢; omega))
theorem spreadC (hi : i ≤ 5) (hl : 1 ≤ l ∧ l ≤ 24) (hW : W = (1 : Int32) <<< (nI l &&& 31))
    (hS : kS = false → ∀ a b q s s2 z, s < 6 → s2 < 6 → wq E i a b q s z = wq E i a b q s2 z) {g : AHp} (x : CX E g) (wx : WtX T W kA kB kS kL kK g) :
    ∃ v g1, m_X10_spread (nI (E.m + i)) g = some (v, g1) ∧ Ch PW3 g g1 ∧ CX E g1 ∧ (v = 0 → ∀ a b q, ¬ CS 64 g1 a b q) ∧
      (∀ a b q, CS 64 g1 a b q ↔ wNxC kA kB kL (fun s => tb T s = true) (fun a b q s z => wq E i a b q s z = true) l (CS 64 g) a b q ∧ (kK = false → ¬ CS 66 g a b q)) ∧
      (∀ a b q, CS 66 g1 a b q ↔ CS 66 g a b q ∨ wNxC kA kB kL (fun s => tb T s = true) (fun a b q s z => wq E i a b q s z = true) l (CS 64 g) a b q) := by
  obtain ⟨g0, e0, c0, r0⟩ := spr_clear (nI (E.m + i)) 175 0 FU g (by omega) (by unfold FU; omega)
  have x0 : CX E g0 := x.po (c0.mono (fun k i hp => by
    simp only [Bool.or_eq_false_iff, Bool.and_eq_false_iff, beq_eq_false_iff_ne, ble_f] at hp ⊢; omega))
  have wx0 : WtX T W kA kB kS kL kK g0 := wx.ch c0 (fun i => rfl)
  obtain ⟨g2, e2, c2, x2, r2⟩ := spr_out (E := E) (T := T) (W := W) (kA := kA) (kB := kB) (kS := kS) (kL := kL) (kK := kK) (i := i) (l := l) hl hW hS 175 0 FU g0 (by omega) (by unfold FU; omega) x0 wx0 (WV.zero (fun n hn => r0 n hn (fun h => by omega)))
  have wx2 : WtX T W kA kB kS kL kK g2 := wx0.ch c2 (fun i => rfl)
  obtain ⟨v, g3, e3, c3, r3, hv, hv0⟩ := spr_end (kK := kK) 175 0 FU 0 g2 (by omega) (by unfold FU; omega) (Or.inl rfl) wx2.2.2.2.2
  have x3 : CX E g3 := x2.p46 c3
  have c02 : Ch PWt g g2 := (c0.mono (fun k i hp => (Bool.or_eq_false_iff.mp hp).2)).trans c2
  have e66 : ∀ n, hI g2 66 n = hI g 66 n := fun n => c02.i (k := 66) (i := n) rfl
  have e64 : ∀ n, hI g0 64 n = hI g 64 n := fun n => c0.i (k := 64) (i := n) rfl
  have hN : ∀ a b q, a < 25 → b < 25 → q < 7 → (tb (hI g2 65 (25 * q + b)) a = true ↔ wNxC kA kB kL (fun s => tb T s = true) (fun a b q s z => wq E i a b q s z = true) l (CS 64 g) a b q) := fun a b q ha hb hq => by
    rw [r2 (25 * q + b) a (by omega) (by omega), r0 (25 * q + b) (by omega) (fun h => by omega), tb_zero]
    constructor
    · rintro (h | ⟨r, _, h2, a0, h3, h4, s, l', _, h6, h7, h8, h9, h10, h11, h12, h13⟩)
      · cases h
      · rw [e64] at h4
        refine ⟨s, a0, r % 25, r / 25, l', h6, h7, ⟨h3, by omega, by omega, by rw [show 25 * (r / 25) + r % 25 = r by omega]; exact h4⟩, h8, h9, h10, h11, h13, ?_, ?_⟩
        · unfold rwN at h12
          have h2 : (if kB = true then a0 else 0) ≤ 24 := by split <;> omega
          omega
        · unfold rwN at h12
          have h2 : (if kB = true then a0 else 0) ≤ 24 := by split <;> omega
          omega
    · rintro ⟨s, a0, b0, q0, l', h1, h2, ⟨h3, h4, h5, h6⟩, h7, h8, h9, h10, h11, h12, h13⟩
      refine Or.inr ⟨25 * q0 + b0, by omega, by omega, a0, h3, by rw [e64]; exact h6, s, l', by omega, h1, h2, h7, h8, h9, ?_, ?_, h11⟩
      · rw [show (25 * q0 + b0) % 25 = b0 by omega, show (25 * q0 + b0) / 25 = q0 by omega]; exact h10
      · unfold rwN; rw [← h12, ← h13]
  have hNb : ∀ a b q, wNxC kA kB kL (fun s => tb T s = true) (fun a b q s z => wq E i a b q s z = true) l (CS 64 g) a b q → a < 25 ∧ b < 25 ∧ q < 7 := by
    rintro a b q ⟨s, a0, b0, q0, l', h1, h2, ⟨h3, h4, h5, h6⟩, h7, h8, h9, h10, h11, h12, h13⟩
    refine ⟨?_, ?_, ?_⟩
    · rw [h11]; split <;> omega
    · rw [h12]; split <;> omega
    · rw [h13]; split <;> omega
  refine ⟨v, g3, ?_, (pwt_3 c02).trans (c3.mono (fun k i hp => by simp only [Bool.or_eq_false_iff] at hp ⊢; exact ⟨hp.1.1.2, hp.2⟩)), x3, ?_, ?_, ?_⟩
  · unfold m_X10_spread
    rw [show m_X10_spread_2 FU (nI (E.m + i)) 0 g = m_X10_spread_24 FU (nI (E.m + i)) 0 g0 from e0]
    rw [show m_X10_spread_24 FU (nI (E.m + i)) 0 g0 = m_X10_spread_89 FU 0 0 g2 from e2]
    exact e3
  · rintro h a b q ⟨ha, hb, hq, hbit⟩
    rw [(hv0 h).2 (25 * q + b) (by omega) (by omega), tb_zero] at hbit
    cases hbit
  · intro a b q
    constructor
    · rintro ⟨ha, hb, hq, hbit⟩
      rw [(r3 (25 * q + b) (by omega)).1, if_neg (by omega)] at hbit
      cases hk : kK with
      | true =>
        rw [hk, if_pos rfl] at hbit
        exact ⟨(hN a b q ha hb hq).mp hbit, fun h => by cases h⟩
      | false =>
        rw [hk, if_neg (by decide), tb_and, tb_xor, tb_m1 (by omega), Bool.and_eq_true, e66] at hbit
        refine ⟨(hN a b q ha hb hq).mp hbit.1, ?_⟩
        rintro _ ⟨_, _, _, h66⟩
        rw [h66] at hbit
        cases hbit.2
    · rintro ⟨hn, hs⟩
      obtain ⟨ha, hb, hq⟩ := hNb a b q hn
      refine ⟨ha, hb, hq, ?_⟩
      rw [(r3 (25 * q + b) (by omega)).1, if_neg (by omega)]
      have h65 := (hN a b q ha hb hq).mpr hn
      cases hk : kK with
      | true => rw [if_pos rfl]; exact h65
      | false =>
        rw [if_neg (by decide), tb_and, tb_xor, tb_m1 (by omega), h65, e66]
        cases h66 : tb (hI g 66 (25 * q + b)) a with
        | true => exact absurd ⟨ha, hb, hq, h66⟩ (hs hk)
        | false => rfl
  · intro a b q
    constructor
    · rintro ⟨ha, hb, hq, hbit⟩
      rw [(r3 (25 * q + b) (by omega)).2, if_neg (by omega), tb_or, Bool.or_eq_true, e66] at hbit
      rcases hbit with h | h
      · exact Or.inl ⟨ha, hb, hq, h⟩
      · exact Or.inr ((hN a b q ha hb hq).mp h)
    · intro h
      have hb3 : a < 25 ∧ b < 25 ∧ q < 7 := by
        rcases h with ⟨ha, hb, hq, _⟩ | h
        · exact ⟨ha, hb, hq⟩
        · exact hNb a b q h
      refine ⟨hb3.1, hb3.2.1, hb3.2.2, ?_⟩
      rw [(r3 (25 * q + b) (by omega)).2, if_neg (by omega), tb_or, Bool.or_eq_true, e66]
      rcases h with ⟨_, _, _, h⟩ | h
      · exact Or.inl h
      · exact Or.inr ((hN a b q hb3.1 hb3.2.1 hb3.2.2).mpr h)
end SPC
