abbrev PWt : Nat → Nat → Bool := fun k i => PC k i || k == 65
theorem pc_pw {g g1 : AHp} (c : Ch PC g g1) : Ch PWt g g1 := c.mono (fun k i hp => (Bool.or_eq_false_iff.mp hp).1)
theorem StC.o {g : AHp} {a b r k : Int32} (x : StC g a b r k) (n : Nat) (v : Int32) : StC (sI g 65 n v) a b r k := by
  unfold StC colD at x ⊢
  exact x
theorem CX.o65 {E : En} {g : AHp} (x : CX E g) (n : Nat) (v : Int32) : CX E (sI g 65 n v) := x.po (Ch.rf.sI (by rfl))
section SP
variable {E : En} {T W : Int32} {kA kB kS kL kK : Bool} {i l : Nat}
theorem rowOfC {g : AHp} (wx : WtX T W kA kB kS kL kK g) {x1 : Int32} {q b : Nat} (h1 : x1 + 1 = nI q) : m_X10_rowOf x1 (nI b) g = some (nI (25 * (if kL = true then q else 0) + (if kB = true then b else 0)), g) := by
  unfold m_X10_rowOf
  rw [wx.2.1.2, wx.2.2.2.1, h1, show nI q * 25 = nI (q * 25) from pk_mul q 25]
  cases kL <;> cases kB
  · rw [i01_f, if_pos rfl, if_pos rfl]; rfl
  · rw [i01_f, i01_t, if_pos rfl, if_neg one_ne, show ((0 : Int32) * 25) = nI 0 from rfl, nI_add]; rfl
  · rw [i01_f, i01_t, if_neg one_ne, if_pos rfl, show (0 : Int32) = nI 0 from rfl, nI_add, Nat.mul_comm q 25]; rfl
  · rw [i01_t, if_neg one_ne, if_neg one_ne, nI_add, Nat.mul_comm q 25]; rfl
def rwN (kB kL : Bool) (s a : Nat) : Nat := 25 * (if kL = true then s + 1 else 0) + (if kB = true then a else 0)
theorem rwN_lt {s a : Nat} (hs : s < 6) (ha : a < 25) : rwN kB kL s a < 175 := by
  unfold rwN
  have h1 : (if kL = true then s + 1 else 0) ≤ 6 := by split <;> omega
  have h2 : (if kB = true then a else 0) ≤ 24 := by split <;> omega
  omega
theorem speak93 {g : AHp} (wx : WtX T W kA kB kS kL kK g) (k7 : Int32 → Int32 → Int32 → Int32 → AHp → Option (Unit × AHp)) {a s n : Nat} (hlt : n < 175) (x2 x3 : Int32) :
    m_X10_speakOn_93 k7 (nI a) x2 x3 (nI s) (nI n) g = k7 (nI a) x2 x3 (nI (s + 1)) (if x2 = 0 then g else sI g 65 n (hI g 65 n ||| (if kA = true then x2 else 1))) := by
  unfold m_X10_speakOn_93
  have hin : inb (nI n) 175 := inb_nI hlt (by omega)
  have ec : (nI n).toNatClampNeg = n := nI_clamp (by omega)
  simp only [gd_pos hin, ec]
  rw [wx.2.1.1]
  by_cases h0 : x2 = 0
  · rw [if_pos h0, if_pos h0, lt_eq, nI_1]
  · rw [if_neg h0, if_neg h0]
    cases kA
    · rw [i01_f, if_pos rfl, lt_eq, lt_eq, nI_1]; rfl
    · rw [i01_t, if_neg one_ne, lt_eq, lt_eq, nI_1]; rfl
def ND (E : En) (T : Int32) (kA kB kL : Bool) (i l t a b q n z : Nat) : Prop := ∃ s l', t ≤ s ∧ s < 6 ∧ tb T s = true ∧ 1 ≤ l' ∧ l' ≤ 24 ∧ l' ≠ l ∧ wq E i a b q s l' = true ∧ n = rwN kB kL s a ∧ z = (if kA = true then l' else 0)
theorem lits : ∀ j, j < 32 → tb 33554430 j = decide (1 ≤ j ∧ j ≤ 24) := by decide
/-- a length that s may say there -/
def VL (E : En) (i l a b q s j : Nat) : Prop := 1 ≤ j ∧ j ≤ 24 ∧ j ≠ l ∧ wq E i a b q s j = true
/-- y has what s may say there, but for what is reached already -/
def GDw (E : En) (kA kB kL : Bool) (i l a b q : Nat) (y : Int32) (s : Nat) (g : AHp) : Prop := ∀ j, j < 32 → (tb y j = true → VL E i l a b q s j) ∧ (VL E i l a b q s j → tb y j = true ∨ (kA = true ∧ tb (hI g 65 (rwN kB kL s a)) j = true))
/-- speakers whom no clause tells apart have reached the same; bit 0 alone where the length does not count -/
def WV (T : Int32) (kA kB kS kL : Bool) (g : AHp) : Prop := (kS = false → ∀ a s s2 z, a < 25 → s < 6 → s2 < 6 → tb T s = true → tb T s2 = true → z < 32 → tb (hI g 65 (rwN kB kL s a)) z = tb (hI g 65 (rwN kB kL s2 a)) z) ∧ (kA = false → ∀ n z, n < 175 → z < 32 → tb (hI g 65 n) z = true → z = 0)
theorem WV.zero {g : AHp} (h : ∀ n, n < 175 → hI g 65 n = 0) : WV T kA kB kS kL g := by
  refine ⟨fun _ a s s2 z ha hs hs2 _ _ hz => ?_, fun _ n z hn hz hb => ?_⟩
  · rw [h _ (rwN_lt hs ha), h _ (rwN_lt hs2 ha)]
  · rw [h n hn, tb_zero] at hb; cases hb
theorem WV.same {g g1 : AHp} (v : WV T kA kB kS kL g) (h : ∀ n, hI g1 65 n = hI g 65 n) : WV T kA kB kS kL g1 := by
  unfold WV at v ⊢
  simp only [h]; exact v
theorem WV.next {g g1 : AHp} {a b q : Nat} (ha : a < 25) (hS : kS = false → ∀ s s2 z, s < 6 → s2 < 6 → wq E i a b q s z = wq E i a b q s2 z) (v : WV T kA kB kS kL g)
    (r : ∀ n z, n < 175 → z < 32 → (tb (hI g1 65 n) z = true ↔ tb (hI g 65 n) z = true ∨ ND E T kA kB kL i l 0 a b q n z)) : WV T kA kB kS kL g1 := by
  refine ⟨fun hk a' s s2 z ha' hs hs2 hT hT2 hz => ?_, fun hk n z hn hz hb => ?_⟩
  · have key : ∀ s s2, s < 6 → s2 < 6 → tb T s = true → tb T s2 = true → tb (hI g1 65 (rwN kB kL s a')) z = true → tb (hI g1 65 (rwN kB kL s2 a')) z = true := by
      intro s s2 hs hs2 hT hT2 h
      rw [r _ z (rwN_lt hs2 ha') hz]
      rcases (r _ z (rwN_lt hs ha') hz).mp h with h | ⟨s0, l', h1, h2, h3, h4, h5, h6, h7, h8, h9⟩
      · exact Or.inl (by rw [← v.1 hk a' s s2 z ha' hs hs2 hT hT2 hz]; exact h)
      · refine Or.inr ?_
        have b1 : (if kB = true then a' else 0) ≤ 24 := by split <;> omega
        have b2 : (if kB = true then a else 0) ≤ 24 := by split <;> omega
        by_cases hL : kL = true
        · unfold rwN at h8
          rw [if_pos hL, if_pos hL] at h8
          refine ⟨s2, l', by omega, hs2, hT2, h4, h5, h6, (hS hk s2 s0 l' hs2 h2).trans h7, ?_, h9⟩
          unfold rwN
          rw [if_pos hL]
          omega
        · unfold rwN at h8
          rw [if_neg hL, if_neg hL] at h8
          refine ⟨s0, l', h1, h2, h3, h4, h5, h6, h7, ?_, h9⟩
          unfold rwN
          rw [if_neg hL, if_neg hL]
          exact h8
    exact Bool.eq_iff_iff.mpr ⟨key s s2 hs hs2 hT hT2, key s2 s hs2 hs hT2 hT⟩
  · rcases (r n z hn hz).mp hb with h | ⟨_, _, _, _, _, _, _, _, _, _, h9⟩
    · exact v.2 hk n z hn hz h
    · rw [hk, if_neg (by decide)] at h9; exact h9
theorem speak_l (hl : 1 ≤ l ∧ l ≤ 24) (hW : W = (1 : Int32) <<< (nI l &&& 31)) {a b q : Nat} (ha : a < 25) (hq : q < 7)
    (hS : kS = false → ∀ s s2 z, s < 6 → s2 < 6 → wq E i a b q s z = wq E i a b q s2 z) :
    ∀ (d t f : Nat) (x2 x3 : Int32) (g : AHp), t + d = 6 → d < f → CX E g → WtX T W kA kB kS kL kK g → StC g (nI a) (nI b) (nI q - 1) (nI (E.m + i)) →
    (kA = false → ∀ n z, n < 175 → z < 32 → tb (hI g 65 n) z = true → z = 0) →
    (x3 = 0 → kS = false → ∀ s s2 z, s < 6 → s2 < 6 → tb T s = true → tb T s2 = true → z < 32 → tb (hI g 65 (rwN kB kL s a)) z = tb (hI g 65 (rwN kB kL s2 a)) z) →
    (¬ x3 = 0 → kS = false → ∀ s, t ≤ s → s < 6 → tb T s = true → GDw E kA kB kL i l a b q x2 s g) →
    ∃ g1, m_X10_speakOn_7 f (nI a) x2 x3 (nI t) g = some ((), g1) ∧ Ch PWt g g1 ∧ CX E g1 ∧ ∀ n z, n < 175 → z < 32 → (tb (hI g1 65 n) z = true ↔ tb (hI g 65 n) z = true ∨ ND E T kA kB kL i l t a b q n z) := by
  have hM : ∀ j, j < 32 → tb (33554430 &&& (W ^^^ (-1))) j = decide (1 ≤ j ∧ j ≤ 24 ∧ j ≠ l) := fun j hj => by
    rw [tb_and, lits j hj, tb_xor, tb_m1 hj, hW, tb_bit (by omega) hj, Bool.xor_true, ← decide_not, ← Bool.decide_and]
    exact decide_eq_decide.mpr ⟨fun h => ⟨h.1.1, h.1.2, h.2⟩, fun h => ⟨⟨h.1, h.2.1⟩, h.2.2⟩⟩
  intro d
  induction d with
  | zero =>
    intro t f x2 x3 g ht hf x wx st hB hA hx
    obtain ⟨f, rfl⟩ : ∃ a, f = a + 1 := ⟨f - 1, by omega⟩
    have : t = 6 := by omega
    subst this
    rw [m_X10_speakOn_7, if_pos (by decide)]
    refine ⟨g, rfl, Ch.rf, x, fun n z hn hz => ⟨Or.inl, ?_⟩⟩
    rintro (h | ⟨s, l', h1, h2, _⟩)
    · exact h
    · omega
  | succ d ih =>
    intro t f x2 x3 g ht hf x wx st hB hA hx
    obtain ⟨f, rfl⟩ : ∃ a, f = a + 1 := ⟨f - 1, by omega⟩
    have er : nI (25 * (if kL = true then t + 1 else 0) + (if kB = true then a else 0)) = nI (rwN kB kL t a) := rfl
    have hlt := rwN_lt (kB := kB) (kL := kL) (s := t) (by omega) ha
    rw [m_X10_speakOn_7, if_neg (show ¬ 6 ≤ nI t from nI_ge (a := t) (b := 6) (by omega) (by omega)), rowOfC wx (q := t + 1) (nI_1 t), bd_some, er, wx.1.1, wx.2.2.1]
    cases hT : tb T t with
    | false =>
      rw [if_pos ((hasC (by omega)).mpr hT), lt_eq, nI_1]
      obtain ⟨g1, e1, c1, x1, r1⟩ := ih (t + 1) f x2 x3 g (by omega) (by omega) x wx st hB hA (fun h hk s h1 h2 h3 => hx h hk s (by omega) h2 h3)
      refine ⟨g1, e1, c1, x1, fun n z hn hz => (r1 n z hn hz).trans ?_⟩
      refine or_congr Iff.rfl ⟨?_, ?_⟩
      · rintro ⟨s, l', h1, h2⟩; exact ⟨s, l', by omega, h2⟩
      · rintro ⟨s, l', h1, h2, h3, h4⟩
        by_cases e : s = t
        · rw [e, hT] at h3; cases h3
        · exact ⟨s, l', by omega, h2, h3, h4⟩
    | true =>
      have n0 : ¬ nI (rwN kB kL t a) < 0 := by
        rw [i32_lt, nI_toInt (by omega)]; simp only [tIall]; omega
      have n1 : ¬ 175 ≤ nI (rwN kB kL t a) := nI_ge (a := rwN kB kL t a) (b := 175) (by omega) (by omega)
      rw [if_neg (fun z => by rw [(hasC (by omega)).mp z] at hT; cases hT), if_neg n0, if_neg n1]
      -- going on with the lengths of t
      have go : ∀ (y x4 : Int32) (g0 : AHp), ¬ x4 = 0 → Ch PWt g g0 → CX E g0 → StC g0 (nI a) (nI b) (nI q - 1) (nI (E.m + i)) → (∀ n, hI g0 65 n = hI g 65 n) → GDw E kA kB kL i l a b q y t g →
          (kS = false → ∀ s, t + 1 ≤ s → s < 6 → tb T s = true → GDw E kA kB kL i l a b q y s g) →
          ∃ g1, m_X10_speakOn_93 (m_X10_speakOn_7 f) (nI a) y x4 (nI t) (nI (rwN kB kL t a)) g0 = some ((), g1) ∧ Ch PWt g g1 ∧ CX E g1 ∧ ∀ n z, n < 175 → z < 32 → (tb (hI g1 65 n) z = true ↔ tb (hI g 65 n) z = true ∨ ND E T kA kB kL i l t a b q n z) := by
        intro y x4 g0 hx4 c0 x0 st0 e65 hy hys
        have wx0 : WtX T W kA kB kS kL kK g0 := wx.ch c0 (fun i => rfl)
        rw [speak93 wx0 _ hlt]
        have hstep : ∃ g2, (if y = 0 then g0 else sI g0 65 (rwN kB kL t a) (hI g0 65 (rwN kB kL t a) ||| (if kA = true then y else 1))) = g2 ∧ Ch PWt g g2 ∧ CX E g2 ∧ StC g2 (nI a) (nI b) (nI q - 1) (nI (E.m + i)) ∧ ∀ n z, n < 175 → z < 32 → (tb (hI g2 65 n) z = true ↔ tb (hI g 65 n) z = true ∨ (n = rwN kB kL t a ∧ ∃ l', 1 ≤ l' ∧ l' ≤ 24 ∧ l' ≠ l ∧ wq E i a b q t l' = true ∧ z = (if kA = true then l' else 0))) := by
          by_cases h0 : y = 0
          · rw [if_pos h0]
            refine ⟨g0, rfl, c0, x0, st0, fun n z hn hz => ?_⟩
            rw [e65]
            refine ⟨Or.inl, ?_⟩
            rintro (h | ⟨en, l', h1, h2, h3, h4, h5⟩)
            · exact h
            · rcases (hy l' (by omega)).2 ⟨h1, h2, h3, h4⟩ with hb | ⟨hk, hb⟩
              · rw [h0, tb_zero] at hb; cases hb
              · rw [if_pos hk] at h5
                rw [en, h5]; exact hb
          · rw [if_neg h0]
            refine ⟨_, rfl, c0.sI (by rfl), x0.o65 _ _, st0.o _ _, fun n z hn hz => ?_⟩
            rw [hI_sI]
            by_cases en : n = rwN kB kL t a
            · rw [if_pos ⟨rfl, en⟩, tb_or, Bool.or_eq_true, e65, en]
              by_cases hkA : kA = true
              · rw [if_pos hkA]
                constructor
                · rintro (h | h)
                  · exact Or.inl h
                  · have := (hy z hz).1 h
                    exact Or.inr ⟨rfl, z, this.1, this.2.1, this.2.2.1, this.2.2.2, by rw [if_pos hkA]⟩
                · rintro (h | ⟨_, l', h1, h2, h3, h4, h5⟩)
                  · exact Or.inl h
                  · rw [if_pos hkA] at h5
                    rw [h5]
                    rcases (hy l' (by omega)).2 ⟨h1, h2, h3, h4⟩ with hb | ⟨_, hb⟩
                    · exact Or.inr hb
                    · exact Or.inl hb
              · rw [if_neg hkA, tb_one, decide_eq_true_iff]
                refine or_congr Iff.rfl ?_
                constructor
                · intro h
                  have : ∃ j, j < 32 ∧ tb y j = true := Classical.byContradiction (fun hne => h0 (tb_ext (fun j hj => by
                    rw [tb_zero]
                    cases hq2 : tb y j with
                    | false => rfl
                    | true => exact absurd ⟨j, hj, hq2⟩ hne)))
                  obtain ⟨j, hj, hb⟩ := this
                  have := (hy j hj).1 hb
                  exact ⟨rfl, j, this.1, this.2.1, this.2.2.1, this.2.2.2, by rw [if_neg hkA]; exact h⟩
                · rintro ⟨_, l', h1, h2, h3, h4, h5⟩
                  rw [if_neg hkA] at h5
                  exact h5
            · rw [if_neg (fun h => en h.2), e65]
              refine ⟨Or.inl, ?_⟩
              rintro (h | ⟨h, _⟩)
              · exact h
              · exact absurd h en
        obtain ⟨g2, eg2, c2, x2', st2, r2⟩ := hstep
        rw [eg2]
        have hB2 : kA = false → ∀ n z, n < 175 → z < 32 → tb (hI g2 65 n) z = true → z = 0 := fun hk n z hn hz hb => by
          rcases (r2 n z hn hz).mp hb with h | ⟨_, l', _, _, _, _, h5⟩
          · exact hB hk n z hn hz h
          · rw [hk, if_neg (by decide)] at h5; exact h5
        have hys2 : kS = false → ∀ s, t + 1 ≤ s → s < 6 → tb T s = true → GDw E kA kB kL i l a b q y s g2 := fun hk s h1 h2 h3 j hj => by
          refine ⟨(hys hk s h1 h2 h3 j hj).1, fun hv => ?_⟩
          rcases (hys hk s h1 h2 h3 j hj).2 hv with h | ⟨h4, h5⟩
          · exact Or.inl h
          · exact Or.inr ⟨h4, (r2 _ j (rwN_lt h2 ha) hj).mpr (Or.inl h5)⟩
        obtain ⟨g1, e1, c1, x1, r1⟩ := ih (t + 1) f y x4 g2 (by omega) (by omega) x2' (wx.ch c2 (fun i => rfl)) st2 hB2 (fun h => absurd h hx4) (fun _ => hys2)
        refine ⟨g1, e1, c2.trans c1, x1, fun n z hn hz => (r1 n z hn hz).trans ?_⟩
        rw [r2 n z hn hz, or_assoc]
        refine or_congr Iff.rfl ⟨?_, ?_⟩
        · rintro (⟨h1, l', h2, h3, h4, h5, h6⟩ | ⟨s, l', h1, h2⟩)
          · exact ⟨t, l', by omega, by omega, hT, h2, h3, h4, h5, h1, h6⟩
          · exact ⟨s, l', by omega, h2⟩
        · rintro ⟨s, l', h1, h2, h3, h4, h5, h6, h7, h8, h9⟩
          by_cases e : s = t
          · subst e; exact Or.inl ⟨h8, l', h4, h5, h6, h7, h9⟩
          · exact Or.inr ⟨s, l', by omega, h2, h3, h4, h5, h6, h7, h8, h9⟩
      have ask : (kS = false → x3 = 0) → ∃ g1, m_X10_speakOn_59 (m_X10_speakOn_7 f) (nI a) (nI t) (nI (rwN kB kL t a)) g = some ((), g1) ∧ Ch PWt g g1 ∧ CX E g1 ∧ ∀ n z, n < 175 → z < 32 → (tb (hI g1 65 n) z = true ↔ tb (hI g 65 n) z = true ∨ ND E T kA kB kL i l t a b q n z) := by
        intro h30
        have hq1 := q_int hq
        have hL : ∀ j, j < 32 → tb ((33554430 &&& (W ^^^ (-1))) &&& (hI g 65 (rwN kB kL t a) ^^^ (-1))) j = (decide (1 ≤ j ∧ j ≤ 24 ∧ j ≠ l) && !tb (hI g 65 (rwN kB kL t a)) j) := fun j hj => by
          rw [tb_and, hM j hj, tb_xor, tb_m1 hj, Bool.xor_true]
        obtain ⟨y, g0, e0, c0, x0, s0, q0⟩ := x.any (things := 4095) st (s_int (s := t) (by omega)) (by rw [hq1]; omega) (L := (33554430 &&& (W ^^^ (-1))) &&& (hI g 65 (rwN kB kL t a) ^^^ (-1))) (fun j hj hb => by rw [hL j hj, Bool.and_eq_true, decide_eq_true_iff] at hb; omega)
        have hy : GDw E kA kB kL i l a b q y t g := fun j hj => by
          have hv : tb y j = ((decide (1 ≤ j ∧ j ≤ 24 ∧ j ≠ l) && !tb (hI g 65 (rwN kB kL t a)) j) && wq E i a b q t j) := by rw [q0 j hj, hL j hj]; rfl
          constructor
          · intro h
            rw [hv, Bool.and_eq_true, Bool.and_eq_true, decide_eq_true_iff] at h
            exact ⟨h.1.1.1, h.1.1.2.1, h.1.1.2.2, h.2⟩
          · rintro ⟨h1, h2, h3, h4⟩
            cases hb : tb (hI g 65 (rwN kB kL t a)) j with
            | true =>
              cases hk : kA with
              | true => exact Or.inr ⟨rfl, rfl⟩
              | false =>
                have := hB hk _ j hlt hj hb
                omega
            | false =>
              refine Or.inl ?_
              rw [hv, hb, h4, decide_eq_true ⟨h1, h2, h3⟩]; rfl
        have hys : kS = false → ∀ s, t + 1 ≤ s → s < 6 → tb T s = true → GDw E kA kB kL i l a b q y s g := fun hk s h1 h2 h3 j hj => by
          have e1 := hS hk s t j h2 (by omega)
          have e2 := hA (h30 hk) hk s t j h2 (by omega) h3 hT hj
          have := hy j hj
          unfold VL at this ⊢
          rw [e1, e2]; exact this
        unfold m_X10_speakOn_59
        have ec : (nI (rwN kB kL t a)).toNatClampNeg = rwN kB kL t a := nI_clamp (by omega)
        rw [gd_pos (inb_nI hlt (by omega)), ec, wx.1.2, e0, bd_some]
        exact go y 1 g0 one_ne (pc_pw (PCl_PC c0)) x0 s0 (fun n => c0.i (k := 65) (i := n) rfl) hy hys
      cases hk : kS with
      | true =>
        rw [i01_t, if_neg one_ne]
        exact ask (fun h => by rw [hk] at h; cases h)
      | false =>
        rw [i01_f, if_pos rfl]
        by_cases h3 : x3 = 0
        · rw [if_pos h3]; exact ask (fun _ => h3)
        · rw [if_neg h3]
          exact go x2 x3 g h3 Ch.rf x st (fun _ => rfl) (hx h3 hk t (by omega) (by omega) hT) (fun _ s h1 h2 h4 => hx h3 hk s (by omega) h2 h4)
end SP
