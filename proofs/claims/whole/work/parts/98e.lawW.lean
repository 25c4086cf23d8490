theorem operationC (s : Int32) (h : AHp) : m_X4_operation s h = some (if isT s = true then nI (opA s) else -1, h) := by
  unfold m_X4_operation isT
  by_cases h1 : s = 37
  · subst h1; rw [if_pos rfl]; rfl
  rw [if_neg h1]
  by_cases h2 : s = 42
  · subst h2; rw [if_pos rfl]; rfl
  rw [if_neg h2]
  by_cases h3 : s = 47
  · subst h3; rw [if_pos rfl]; rfl
  rw [if_neg h3, decide_eq_false h1, decide_eq_false h2, decide_eq_false h3]; rfl
theorem opA_T {s : Int32} (h : isT s = true) : ¬ nI (opA s) = -1 := by
  have := opA_lt s
  intro e
  have := congrArg Int32.toInt e
  rw [nI_toInt (by omega)] at this
  simp only [tIall] at this
  omega
section VC2
variable {j : Nat} {ty : Nat → Int32} {n : Nat} {rec : Int32 → AHp → Option (Int32 × AHp)} {srec : Nat → Nat → VSp} {o : Nat}
theorem termLC (ho : o ≤ 6) (hr : o < 6 → RecV j ty n rec srec (o + 1)) {p0 s0 t0 : Nat} {cst0 : Nat → Option Int32} {m0 : Int32} {g0 : AHp} (hj : isLaw j) (hs0 : s0 ≤ p0) (ht0 : t0 ≤ 9 + p0) :
    ∀ (sf f i p : Nat) (A : Dmn) (mA v : Int32) (g : AHp), n - p < sf → n - p < f → i < p → OutV j ty n p0 cst0 s0 t0 m0 g0 (.inr (A, mA, p)) v g →
    ∃ v1 g1, m_X4_readTerm_b_20 rec f (nI o) v (if isT (sg ty n p) = true then nI (opA (sg ty n p)) else -1) (nI i) g = some (v1, g1) ∧ Ch (PLw j) g g1 ∧ OutV j ty n p0 cst0 s0 t0 m0 g0 (trL ty n srec o sf A mA p) v1 g1 := by
  intro sf
  induction sf with
  | zero => intro f i p A mA v g h; omega
  | succ sf ih =>
    intro f i p A mA v g hsf hf hi O1
    obtain ⟨f, rfl⟩ : ∃ q, f = q + 1 := ⟨f - 1, by omega⟩
    obtain ⟨cst, s, t, rg, hv, x, l, gr, hb, dA, rA⟩ := id O1
    simp only [] at x l hb dA rA
    have hn := x.2.1
    rw [m_X4_readTerm_b_20, if_neg (show ¬ 200 ≤ nI i from nI_ge (a := i) (b := 200) (by omega) (by omega)), trL]
    cases hT : isT (sg ty n p) with
    | false =>
      rw [if_neg (show ¬ (false = true) by decide), if_pos rfl, if_neg (show ¬ (false = true) by decide)]
      exact ⟨v, g, rfl, Ch.rf, O1⟩
    | true =>
      have hp : p < n := sg_lt (fun h => by rw [h] at hT; revert hT; decide)
      obtain ⟨g1, e1, x1, c1⟩ := stepC x hp
      have l1 := l.pt c1
      obtain ⟨v2, g2, e2, c2, O2⟩ := factorC ho hr x1 l1 (by omega) (by omega)
      rw [if_pos rfl, if_neg (opA_T hT), if_pos rfl, e1, bd_some, l1.1.2.2.2, gd_pos hj, e2, bd_some]
      cases hrs : fcS ty n srec o (p + 1) with
      | inl F =>
        rw [hrs] at O2
        have x2 : XF j F g2 := O2
        obtain ⟨v3, g3, e3, x3, c3⟩ := emitX x2 (nI (opA (sg ty n p))) v v2
        obtain ⟨f, rfl⟩ : ∃ q, f = q + 1 := ⟨f - 1, by omega⟩
        rw [e3, bd_some, x3.sign, bd_some, operationC, bd_some, show isT (-1) = false by decide, if_neg (show ¬ (false = true) by decide), lt_eq, vsb_l, m_X4_readTerm_b_20, if_pos rfl, ite_self]
        exact ⟨v3, g3, rfl, ((pt_lw c1).trans c2).trans (lo_lw c3), x3⟩
      | inr y =>
        obtain ⟨B, m2, q⟩ := y
        rw [hrs] at O2
        obtain ⟨v3, g3, e3, c3, O3⟩ := binC (c := sg ty n p) (Or.inl hT) hs0 ht0 gr hb dA rA hj c1 O2
        obtain ⟨cst3, s3, t3, rg3, hv3, x3, -⟩ := id O3
        simp only [] at x3
        have hq : p + 1 < q := by
          obtain ⟨_, _, _, _, _, _, _, _, hb2, _⟩ := O2
          exact hb2.2.2
        have hqn := x3.2.1
        rw [hv, e3, bd_some, signC x3, bd_some, operationC, bd_some, lt_eq, nI_1, vsb_r]
        obtain ⟨v4, g4, e4, c4, O4⟩ := ih f (i + 1) q (arD (sg ty n p) A B) (mA ||| m2) v3 g3 (by omega) (by omega) (by omega) O3
        exact ⟨v4, g4, e4, (((pt_lw c1).trans c2).trans (lo_lw c3)).trans c4, O4⟩
theorem termC (ho : o ≤ 6) (hr : o < 6 → RecV j ty n rec srec (o + 1)) {p s t : Nat} {g : AHp} {cst : Nat → Option Int32} {m : Int32} (x : TxC ty n p g) (l : LCx j cst s t m g) (hs : s ≤ p) (ht : t ≤ 9 + p) : ∃ v g1, m_X4_readTerm_b rec (nI o) g = some (v, g1) ∧ Ch (PLw j) g g1 ∧ OutV j ty n p cst s t m g (trS ty n srec o p) v g1 := by
  unfold m_X4_readTerm_b trS
  obtain ⟨v, g1, e1, c1, O1⟩ := factorC ho hr x l hs ht
  rw [e1, bd_some]
  cases hrs : fcS ty n srec o p with
  | inl F =>
    rw [hrs] at O1
    have x1 : XF j F g1 := O1
    obtain ⟨fu, hfu⟩ := FU_s
    rw [x1.sign, bd_some, operationC, bd_some, show isT (-1) = false by decide, if_neg (show ¬ (false = true) by decide), vsb_l, hfu, m_X4_readTerm_b_20, if_pos rfl, ite_self]
    exact ⟨v, g1, rfl, c1, x1⟩
  | inr y =>
    obtain ⟨A, mA, q⟩ := y
    rw [hrs] at O1
    obtain ⟨cst1, s1, t1, rg, hv, x1, -, -, hb, -⟩ := id O1
    simp only [] at x1 hb
    rw [signC x1, bd_some, operationC, bd_some, vsb_r]
    obtain ⟨v4, g4, e4, c4, O4⟩ := termLC ho hr l.2.1.1 hs ht 300 FU 0 q A mA v g1 (by have := x1.2.1; omega) (by have := x1.2.1; unfold FU; omega) (by omega) O1
    exact ⟨v4, g4, e4, c1.trans c4, O4⟩
theorem sum39 (k8 : Int32 → Int32 → Int32 → AHp → Option (Int32 × AHp)) {p : Nat} {g : AHp} (x : TxC ty n p g) (hP : isP (sg ty n p) = true) (x1 x2 x3 : Int32) : m_X4_readSum_b_39 rec k8 x1 x2 x3 g = m_X4_readSum_b_56 rec k8 x1 x2 x3 (nI (opA (sg ty n p))) g := by
  unfold m_X4_readSum_b_39
  rw [signC x, bd_some]
  unfold isP at hP
  rw [Bool.or_eq_true, decide_eq_true_iff, decide_eq_true_iff] at hP
  rcases hP with h | h
  · rw [h, if_pos rfl]; rfl
  · rw [h, if_neg (by decide)]; rfl
theorem sumLC (ho : o ≤ 6) (hr : o < 6 → RecV j ty n rec srec (o + 1)) {p0 s0 t0 : Nat} {cst0 : Nat → Option Int32} {m0 : Int32} {g0 : AHp} (hj : isLaw j) (hs0 : s0 ≤ p0) (ht0 : t0 ≤ 9 + p0) :
    ∀ (sf f i p : Nat) (A : Dmn) (mA v : Int32) (g : AHp), n - p < sf → n - p < f → i < p → OutV j ty n p0 cst0 s0 t0 m0 g0 (.inr (A, mA, p)) v g →
    ∃ v1 g1, m_X4_readSum_b_8 rec f (nI o) v (nI i) g = some (v1, g1) ∧ Ch (PLw j) g g1 ∧ OutV j ty n p0 cst0 s0 t0 m0 g0 (smL ty n srec o sf A mA p) v1 g1 := by
  intro sf
  induction sf with
  | zero => intro f i p A mA v g h; omega
  | succ sf ih =>
    intro f i p A mA v g hsf hf hi O1
    obtain ⟨f, rfl⟩ : ∃ q, f = q + 1 := ⟨f - 1, by omega⟩
    obtain ⟨cst, s, t, rg, hv, x, l, gr, hb, dA, rA⟩ := id O1
    simp only [] at x l hb dA rA
    have hn := x.2.1
    rw [m_X4_readSum_b_8, if_neg (show ¬ 200 ≤ nI i from nI_ge (a := i) (b := 200) (by omega) (by omega)), signC x, bd_some, smL]
    cases hT : isP (sg ty n p) with
    | false =>
      have hT2 := hT
      unfold isP at hT2
      rw [Bool.or_eq_false_iff, decide_eq_false_iff_not, decide_eq_false_iff_not] at hT2
      rw [if_neg hT2.1, signC x, bd_some, if_neg hT2.2, if_neg (show ¬ (false = true) by decide)]
      exact ⟨v, g, rfl, Ch.rf, O1⟩
    | true =>
      have hp : p < n := sg_lt (fun h => by rw [h] at hT; revert hT; decide)
      obtain ⟨g1, e1, x1, c1⟩ := stepC x hp
      have l1 := l.pt c1
      obtain ⟨v2, g2, e2, c2, O2⟩ := termC ho hr x1 l1 (by omega) (by omega)
      have hgo : (if sg ty n p = 43 then m_X4_readSum_b_39 rec (m_X4_readSum_b_8 rec f) (nI o) v (nI i) g else bd (m_X8_sign g) fun r13 h14 => (if r13 = 45 then (m_X4_readSum_b_39 rec (m_X4_readSum_b_8 rec f) (nI o) v (nI i) h14) else (some (v, h14)))) = m_X4_readSum_b_56 rec (m_X4_readSum_b_8 rec f) (nI o) v (nI i) (nI (opA (sg ty n p))) g := by
        have hT2 := hT
        unfold isP at hT2
        rw [Bool.or_eq_true, decide_eq_true_iff, decide_eq_true_iff] at hT2
        by_cases h43 : sg ty n p = 43
        · rw [if_pos h43, sum39 _ x hT]
        · rw [if_neg h43, signC x, bd_some, if_pos (hT2.resolve_left h43), sum39 _ x hT]
      rw [if_pos rfl, hgo]
      unfold m_X4_readSum_b_56
      rw [e1, bd_some, l1.1.2.2.2, gd_pos hj, e2, bd_some]
      cases hrs : trS ty n srec o (p + 1) with
      | inl F =>
        rw [hrs] at O2
        have x2 : XF j F g2 := O2
        obtain ⟨v3, g3, e3, x3, c3⟩ := emitX x2 (nI (opA (sg ty n p))) v v2
        obtain ⟨f, rfl⟩ : ∃ q, f = q + 1 := ⟨f - 1, by omega⟩
        rw [e3, bd_some, lt_eq, nI_1, vsb_l, m_X4_readSum_b_8]
        by_cases h200 : (200 : Int32) ≤ nI (i + 1)
        · rw [if_pos h200]
          exact ⟨v3, g3, rfl, ((pt_lw c1).trans c2).trans (lo_lw c3), x3⟩
        · rw [if_neg h200, x3.sign, bd_some, if_neg (by decide), x3.sign, bd_some, if_neg (by decide)]
          exact ⟨v3, g3, rfl, ((pt_lw c1).trans c2).trans (lo_lw c3), x3⟩
      | inr y =>
        obtain ⟨B, m2, q⟩ := y
        rw [hrs] at O2
        obtain ⟨v3, g3, e3, c3, O3⟩ := binC (c := sg ty n p) (Or.inr hT) hs0 ht0 gr hb dA rA hj c1 O2
        have hq : p + 1 < q := by
          obtain ⟨_, _, _, _, _, _, _, _, hb2, _⟩ := O2
          exact hb2.2.2
        rw [hv, e3, bd_some, lt_eq, nI_1, vsb_r]
        obtain ⟨v4, g4, e4, c4, O4⟩ := ih f (i + 1) q (arD (sg ty n p) A B) (mA ||| m2) v3 g3 (by omega) (by omega) (by omega) O3
        exact ⟨v4, g4, e4, (((pt_lw c1).trans c2).trans (lo_lw c3)).trans c4, O4⟩
theorem sumC (ho : o ≤ 6) (hr : o < 6 → RecV j ty n rec srec (o + 1)) {p s t : Nat} {g : AHp} {cst : Nat → Option Int32} {m : Int32} (x : TxC ty n p g) (l : LCx j cst s t m g) (hs : s ≤ p) (ht : t ≤ 9 + p) : ∃ v g1, m_X4_readSum_b rec (nI o) g = some (v, g1) ∧ Ch (PLw j) g g1 ∧ OutV j ty n p cst s t m g (smS ty n srec o p) v g1 := by
  unfold m_X4_readSum_b smS
  obtain ⟨v, g1, e1, c1, O1⟩ := termC ho hr x l hs ht
  rw [e1, bd_some]
  cases hrs : trS ty n srec o p with
  | inl F =>
    rw [hrs] at O1
    have x1 : XF j F g1 := O1
    obtain ⟨fu, hfu⟩ := FU_s
    rw [vsb_l, hfu, m_X4_readSum_b_8, if_neg (by decide), x1.sign, bd_some, if_neg (by decide), x1.sign, bd_some, if_neg (by decide)]
    exact ⟨v, g1, rfl, c1, x1⟩
  | inr y =>
    obtain ⟨A, mA, q⟩ := y
    rw [hrs] at O1
    obtain ⟨cst1, s1, t1, rg, hv, x1, -, -, hb, -⟩ := id O1
    simp only [] at x1 hb
    rw [vsb_r]
    obtain ⟨v4, g4, e4, c4, O4⟩ := sumLC ho hr l.2.1.1 hs ht 300 FU 0 q A mA v g1 (by have := x1.2.1; omega) (by have := x1.2.1; unfold FU; omega) (by omega) O1
    exact ⟨v4, g4, e4, c1.trans c4, O4⟩
end VC2
theorem readSumC {j : Nat} {ty : Nat → Int32} {n : Nat} : ∀ (f o : Nat), o ≤ 6 → 7 ≤ f + o → RecV j ty n (m_X4_readSum f) (SMs ty n f) o := by
  intro f
  induction f with
  | zero => intro o h1 h2; omega
  | succ f ih =>
    intro o h1 h2 p g cst s t m x l hs ht
    rw [m_X4_readSum, SMs]
    exact sumC h1 (fun h => ih (o + 1) (by omega) (by omega)) x l hs ht
