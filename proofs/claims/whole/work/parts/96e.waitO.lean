abbrev PWt : Nat → Nat → Bool := fun k i => PC k i || k == 65
theorem pc_pw {g g1 : AHp} (c : Ch PC g g1) : Ch PWt g g1 := c.mono (fun k i hp => (Bool.or_eq_false_iff.mp hp).1)
theorem StC.o {g : AHp} {a b r k : Int32} (x : StC g a b r k) (n : Nat) (v : Int32) : StC (sI g 65 n v) a b r k := by
  unfold StC colD at x ⊢
  exact x
theorem CX.o65 {E : En} {g : AHp} (x : CX E g) (n : Nat) (v : Int32) : CX E (sI g 65 n v) := x.po (Ch.rf.sI (by rfl))
section SP
variable {E : En} {T W : Int32} {kA kB kS kL kK : Bool} {i l : Nat}
theorem rowOfC {g : AHp} (wx : WtX T W kA kB kS kL kK g) {x1 : Int32} {q b : Nat} (h1 : x1 + 1 = nI q) : m_X10_rowOf x1 (nI b) g = some (nI (25 * (if kL = true then q else 0) + (if kB = true then b else 0)), g) := by
  unfold m_X10_rowOf
  rw [wx.2.1.2, wx.2.2.2.1, h1, show nI q * 25 = nI (q * 25) from pk_mul q 25]
  cases kL <;> cases kB
  · rw [i01_f, if_pos rfl, if_pos rfl]; rfl
  · rw [i01_f, i01_t, if_pos rfl, if_neg one_ne, show ((0 : Int32) * 25) = nI 0 from rfl, nI_add]; rfl
  · rw [i01_f, i01_t, if_neg one_ne, if_pos rfl, show (0 : Int32) = nI 0 from rfl, nI_add, Nat.mul_comm q 25]; rfl
  · rw [i01_t, if_neg one_ne, if_neg one_ne, nI_add, Nat.mul_comm q 25]; rfl
def rwN (kB kL : Bool) (s a : Nat) : Nat := 25 * (if kL = true then s + 1 else 0) + (if kB = true then a else 0)
theorem rwN_lt {s a : Nat} (hs : s < 6) (ha : a < 25) : rwN kB kL s a < 175 := by
  unfold rwN
  have h1 : (if kL = true then s + 1 else 0) ≤ 6 := by split <;> omega
  have h2 : (if kB = true then a else 0) ≤ 24 := by split <;> omega
  omega
theorem speak61 {g : AHp} (wx : WtX T W kA kB kS kL kK g) (k7 : Int32 → Int32 → Int32 → Int32 → AHp → Option (Unit × AHp)) {a s : Nat} (hs : s < 6) (ha : a < 25) (x2 x3 : Int32) :
    m_X10_speakOn_61 k7 (nI a) x2 x3 (nI s) g = k7 (nI a) x2 x3 (nI (s + 1)) (if x2 = 0 then g else sI g 65 (rwN kB kL s a) (hI g 65 (rwN kB kL s a) ||| (if kA = true then x2 else 1))) := by
  have hlt := rwN_lt (kB := kB) (kL := kL) hs ha
  have er : nI (25 * (if kL = true then s + 1 else 0) + (if kB = true then a else 0)) = nI (rwN kB kL s a) := rfl
  unfold m_X10_speakOn_61
  rw [rowOfC wx (q := s + 1) (nI_1 s), bd_some, er]
  generalize rwN kB kL s a = n at hlt
  have hin : inb (nI n) 175 := inb_nI hlt (by omega)
  rw [if_neg (show ¬ nI n < 0 by rw [i32_lt, nI_toInt (by omega)]; simp only [tIall]; omega), if_neg (show ¬ 175 ≤ nI n from nI_ge (a := n) (b := 175) (by omega) (by omega))]
  have ec : (nI n).toNatClampNeg = n := nI_clamp (by omega)
  simp only [gd_pos hin, ec]
  rw [wx.2.1.1]
  by_cases h0 : x2 = 0
  · rw [if_pos h0, if_pos h0, lt_eq, nI_1]
  · rw [if_neg h0, if_neg h0]
    cases kA
    · rw [i01_f, if_pos rfl, lt_eq, lt_eq, nI_1]; rfl
    · rw [i01_t, if_neg one_ne, lt_eq, lt_eq, nI_1]; rfl
def ND (E : En) (T : Int32) (kA kB kL : Bool) (i l t a b q n z : Nat) : Prop := ∃ s l', t ≤ s ∧ s < 6 ∧ tb T s = true ∧ 1 ≤ l' ∧ l' ≤ 24 ∧ l' ≠ l ∧ wq E i a b q s l' = true ∧ n = rwN kB kL s a ∧ z = (if kA = true then l' else 0)
theorem lits : ∀ j, j < 32 → tb 33554430 j = decide (1 ≤ j ∧ j ≤ 24) := by decide
theorem speak_l (hl : 1 ≤ l ∧ l ≤ 24) (hW : W = (1 : Int32) <<< (nI l &&& 31)) {a b q : Nat} (ha : a < 25) (hq : q < 7)
    (hS : kS = false → ∀ s s2 z, s < 6 → s2 < 6 → wq E i a b q s z = wq E i a b q s2 z) :
    ∀ (d t f : Nat) (x2 x3 : Int32) (g : AHp), t + d = 6 → d < f → CX E g → WtX T W kA kB kS kL kK g → StC g (nI a) (nI b) (nI q - 1) (nI (E.m + i)) →
    (¬ x3 = 0 → kS = false → ∀ j, j < 32 → tb x2 j = (decide (1 ≤ j ∧ j ≤ 24 ∧ j ≠ l) && wq E i a b q 0 j)) →
    ∃ g1, m_X10_speakOn_7 f (nI a) x2 x3 (nI t) g = some ((), g1) ∧ Ch PWt g g1 ∧ CX E g1 ∧ ∀ n z, n < 175 → z < 32 → (tb (hI g1 65 n) z = true ↔ tb (hI g 65 n) z = true ∨ ND E T kA kB kL i l t a b q n z) := by
  have hM : ∀ j, j < 32 → tb (33554430 &&& (W ^^^ (-1))) j = decide (1 ≤ j ∧ j ≤ 24 ∧ j ≠ l) := fun j hj => by
    rw [tb_and, lits j hj, tb_xor, tb_m1 hj, hW, tb_bit (by omega) hj, Bool.xor_true, ← decide_not, ← Bool.decide_and]
    exact decide_eq_decide.mpr ⟨fun h => ⟨h.1.1, h.1.2, h.2⟩, fun h => ⟨⟨h.1, h.2.1⟩, h.2.2⟩⟩
  intro d
  induction d with
  | zero =>
    intro t f x2 x3 g ht hf x wx st hx
    obtain ⟨f, rfl⟩ : ∃ a, f = a + 1 := ⟨f - 1, by omega⟩
    have : t = 6 := by omega
    subst this
    rw [m_X10_speakOn_7, if_pos (by decide)]
    refine ⟨g, rfl, Ch.rf, x, fun n z hn hz => ⟨Or.inl, ?_⟩⟩
    rintro (h | ⟨s, l', h1, h2, _⟩)
    · exact h
    · omega
  | succ d ih =>
    intro t f x2 x3 g ht hf x wx st hx
    obtain ⟨f, rfl⟩ : ∃ a, f = a + 1 := ⟨f - 1, by omega⟩
    rw [m_X10_speakOn_7, if_neg (show ¬ 6 ≤ nI t from nI_ge (a := t) (b := 6) (by omega) (by omega)), wx.1.1, wx.2.2.1]
    cases hT : tb T t with
    | false =>
      rw [if_pos ((hasC (by omega)).mpr hT), lt_eq, nI_1]
      obtain ⟨g1, e1, c1, x1, r1⟩ := ih (t + 1) f x2 x3 g (by omega) (by omega) x wx st hx
      refine ⟨g1, e1, c1, x1, fun n z hn hz => (r1 n z hn hz).trans ?_⟩
      refine or_congr Iff.rfl ⟨?_, ?_⟩
      · rintro ⟨s, l', h1, h2⟩; exact ⟨s, l', by omega, h2⟩
      · rintro ⟨s, l', h1, h2, h3, h4⟩
        by_cases e : s = t
        · rw [e, hT] at h3; cases h3
        · exact ⟨s, l', by omega, h2, h3, h4⟩
    | true =>
      rw [if_neg (fun z => by rw [(hasC (by omega)).mp z] at hT; cases hT)]
      -- going on with the lengths of t
      have go : ∀ (y x4 : Int32) (g0 : AHp), Ch PWt g g0 → CX E g0 → StC g0 (nI a) (nI b) (nI q - 1) (nI (E.m + i)) → (∀ n, hI g0 65 n = hI g 65 n) → (∀ j, j < 32 → tb y j = (decide (1 ≤ j ∧ j ≤ 24 ∧ j ≠ l) && wq E i a b q t j)) →
          ∃ g1, m_X10_speakOn_61 (m_X10_speakOn_7 f) (nI a) y x4 (nI t) g0 = some ((), g1) ∧ Ch PWt g g1 ∧ CX E g1 ∧ ∀ n z, n < 175 → z < 32 → (tb (hI g1 65 n) z = true ↔ tb (hI g 65 n) z = true ∨ ND E T kA kB kL i l t a b q n z) := by
        intro y x4 g0 c0 x0 st0 e65 hy
        have wx0 : WtX T W kA kB kS kL kK g0 := wx.ch c0 (fun i => rfl)
        rw [speak61 wx0 _ (by omega) ha]
        have hlt := rwN_lt (kB := kB) (kL := kL) (s := t) (by omega) ha
        have hstep : ∃ g2, (if y = 0 then g0 else sI g0 65 (rwN kB kL t a) (hI g0 65 (rwN kB kL t a) ||| (if kA = true then y else 1))) = g2 ∧ Ch PWt g g2 ∧ CX E g2 ∧ StC g2 (nI a) (nI b) (nI q - 1) (nI (E.m + i)) ∧ ∀ n z, n < 175 → z < 32 → (tb (hI g2 65 n) z = true ↔ tb (hI g 65 n) z = true ∨ (n = rwN kB kL t a ∧ ∃ l', 1 ≤ l' ∧ l' ≤ 24 ∧ l' ≠ l ∧ wq E i a b q t l' = true ∧ z = (if kA = true then l' else 0))) := by
          have hex : ∀ j, j < 32 → (tb y j = true ↔ 1 ≤ j ∧ j ≤ 24 ∧ j ≠ l ∧ wq E i a b q t j = true) := fun j hj => by
            rw [hy j hj, Bool.and_eq_true, decide_eq_true_iff]
            exact ⟨fun h => ⟨h.1.1, h.1.2.1, h.1.2.2, h.2⟩, fun h => ⟨⟨h.1, h.2.1, h.2.2.1⟩, h.2.2.2⟩⟩
          by_cases h0 : y = 0
          · rw [if_pos h0]
            refine ⟨g0, rfl, c0, x0, st0, fun n z hn hz => ?_⟩
            rw [e65]
            refine ⟨Or.inl, ?_⟩
            rintro (h | ⟨_, l', h1, h2, h3, h4, _⟩)
            · exact h
            · have := (hex l' (by omega)).mpr ⟨h1, h2, h3, h4⟩
              rw [h0, tb_zero] at this; cases this
          · rw [if_neg h0]
            refine ⟨_, rfl, c0.sI (by rfl), x0.o65 _ _, st0.o _ _, fun n z hn hz => ?_⟩
            rw [hI_sI]
            by_cases en : n = rwN kB kL t a
            · rw [if_pos ⟨rfl, en⟩, tb_or, Bool.or_eq_true, e65, en]
              refine or_congr Iff.rfl ?_
              cases hkA : kA with
              | true =>
                rw [if_pos rfl]
                constructor
                · intro h
                  have := (hex z hz).mp h
                  exact ⟨rfl, z, this.1, this.2.1, this.2.2.1, this.2.2.2, by rw [if_pos rfl]⟩
                · rintro ⟨_, l', h1, h2, h3, h4, h5⟩
                  rw [if_pos rfl] at h5
                  rw [h5]
                  exact (hex l' (by omega)).mpr ⟨h1, h2, h3, h4⟩
              | false =>
                rw [if_neg (by decide), tb_one, decide_eq_true_iff]
                constructor
                · intro h
                  have : ∃ j, j < 32 ∧ tb y j = true := Classical.byContradiction (fun hne => h0 (tb_ext (fun j hj => by
                    rw [tb_zero]
                    cases hq2 : tb y j with
                    | false => rfl
                    | true => exact absurd ⟨j, hj, hq2⟩ hne)))
                  obtain ⟨j, hj, hb⟩ := this
                  have := (hex j hj).mp hb
                  exact ⟨rfl, j, this.1, this.2.1, this.2.2.1, this.2.2.2, by rw [if_neg (by decide)]; exact h⟩
                · rintro ⟨_, l', h1, h2, h3, h4, h5⟩
                  rw [if_neg (by decide)] at h5
                  exact h5
            · rw [if_neg (fun h => en h.2), e65]
              refine ⟨Or.inl, ?_⟩
              rintro (h | ⟨h, _⟩)
              · exact h
              · exact absurd h en
        obtain ⟨g2, eg2, c2, x2', st2, r2⟩ := hstep
        rw [eg2]
        obtain ⟨g1, e1, c1, x1, r1⟩ := ih (t + 1) f y x4 g2 (by omega) (by omega) x2' (wx.ch c2 (fun i => rfl)) st2 (fun _ hk j hj => by rw [hy j hj, hS hk t 0 j (by omega) (by omega)])
        refine ⟨g1, e1, c2.trans c1, x1, fun n z hn hz => (r1 n z hn hz).trans ?_⟩
        rw [r2 n z hn hz, or_assoc]
        refine or_congr Iff.rfl ⟨?_, ?_⟩
        · rintro (⟨h1, l', h2, h3, h4, h5, h6⟩ | ⟨s, l', h1, h2⟩)
          · exact ⟨t, l', by omega, by omega, hT, h2, h3, h4, h5, h1, h6⟩
          · exact ⟨s, l', by omega, h2⟩
        · rintro ⟨s, l', h1, h2, h3, h4, h5, h6, h7, h8, h9⟩
          by_cases e : s = t
          · subst e; exact Or.inl ⟨h8, l', h4, h5, h6, h7, h9⟩
          · exact Or.inr ⟨s, l', by omega, h2, h3, h4, h5, h6, h7, h8, h9⟩
      have ask : ∃ g1, m_X10_speakOn_37 (m_X10_speakOn_7 f) (nI a) (nI t) g = some ((), g1) ∧ Ch PWt g g1 ∧ CX E g1 ∧ ∀ n z, n < 175 → z < 32 → (tb (hI g1 65 n) z = true ↔ tb (hI g 65 n) z = true ∨ ND E T kA kB kL i l t a b q n z) := by
        have hq1 := q_int hq
        obtain ⟨y, g0, e0, c0, x0, s0, q0⟩ := x.any (things := 4095) st (s_int (s := t) (by omega)) (by rw [hq1]; omega) (L := 33554430 &&& (W ^^^ (-1))) (fun j hj hb => by rw [hM j hj, decide_eq_true_iff] at hb; omega)
        unfold m_X10_speakOn_37
        rw [wx.1.2, e0, bd_some]
        exact go y 1 g0 (pc_pw (PCl_PC c0)) x0 s0 (fun n => c0.i (k := 65) (i := n) rfl) (fun j hj => by rw [q0 j hj, hM j hj]; rfl)
      cases hk : kS with
      | true =>
        rw [i01_t, if_neg one_ne]
        exact ask
      | false =>
        rw [i01_f, if_pos rfl]
        by_cases h3 : x3 = 0
        · rw [if_pos h3]; exact ask
        · rw [if_neg h3]
          exact go x2 x3 g Ch.rf x st (fun _ => rfl) (fun j hj => by rw [hx h3 hk j hj, hS hk 0 t j (by omega) (by omega)])
end SP
