/-! conditions: the class -/
def OutK (j : Nat) (ty : Nat → Int32) (n p : Nat) (cst : Nat → Option Int32) (s t : Nat) (m0 : Int32) (g : AHp) (r : VSp) (g1 : AHp) : Prop := match r with
  | .inl F => XF j F g1
  | .inr y => ∃ cst1 s1 t1, TxC ty n y.2.2 g1 ∧ LCx j cst1 s1 t1 (m0 ||| y.2.1) g1 ∧ Grow j cst s t g cst1 s1 t1 g1 ∧ (s1 + p ≤ s + y.2.2 ∧ t1 + p ≤ t + y.2.2 ∧ p < y.2.2) ∧ (depOn y.1 y.2.1 ∧ bD y.1) ∧ RunB j (hI g1 (j + 1)) cst1 s s1 t t1 y.1
def RecK (j : Nat) (ty : Nat → Int32) (n : Nat) (rec : Int32 → AHp → Option (Unit × AHp)) (srec : Nat → Nat → VSp) (o : Nat) : Prop := ∀ (p : Nat) (g : AHp) (cst : Nat → Option Int32) (s t : Nat) (m : Int32), TxC ty n p g → LCx j cst s t m g → s ≤ p → t ≤ 9 + p → ∃ g1, rec (nI o) g = some ((), g1) ∧ Ch (PLw j) g g1 ∧ OutK j ty n p cst s t m g (srec o p) g1
/-- behind a fault nothing is read -/
def RecX (j : Nat) (rec : Int32 → AHp → Option (Unit × AHp)) : Prop := ∀ (F : Int32) (g : AHp) (x : Int32), XF j F g → rec x g = some ((), g)
def OutJ (j : Nat) (ty : Nat → Int32) (n p : Nat) (cst : Nat → Option Int32) (s t : Nat) (m0 : Int32) (g : AHp) (A : Dmn) (mA : Int32) (q : Nat) (J : List Nat) (jv : Int32) (oj : Nat) (g1 : AHp) : Prop :=
  ∃ cst1 s1 t1, TxC ty n q g1 ∧ LCx j cst1 s1 t1 (m0 ||| mA) g1 ∧ Grow j cst s t g cst1 s1 t1 g1 ∧ (s1 + p ≤ s + q ∧ t1 + p ≤ t + q ∧ p < q) ∧ (depOn A mA ∧ bD A) ∧ OpB j (hI g1 (j + 1)) cst1 s s1 t t1 J jv oj A ∧ Chn (hI g1 (j + 1)) oj J
theorem ite_two {r : Type} {c1 c2 : Prop} [Decidable c1] [Decidable c2] {x y : r} (h : c1 ∨ c2) : (if c1 then x else if c2 then x else y) = x := by
  by_cases h1 : c1
  · rw [if_pos h1]
  · rw [if_neg h1, if_pos (h.resolve_left h1)]
theorem comparisonC (s : Int32) (h : AHp) : m_X4_comparison s h = some (if isC s = true then nI (opK s) else -1, h) := by
  unfold m_X4_comparison isC
  by_cases h1 : s = 60
  · subst h1; rw [if_pos rfl]; rfl
  rw [if_neg h1]
  by_cases h2 : s = 61
  · subst h2; rw [if_pos rfl]; rfl
  rw [if_neg h2]
  by_cases h3 : s = 62
  · subst h3; rw [if_pos rfl]; rfl
  rw [if_neg h3, decide_eq_false h1, decide_eq_false h2, decide_eq_false h3]; rfl
theorem opK_n (s : Int32) : ¬ nI (opK s) = -1 := by
  have := opK_lt s
  intro e
  have := congrArg Int32.toInt e
  rw [nI_toInt (by omega)] at this
  simp only [tIall] at this
  omega
theorem factorX {j : Nat} {F : Int32} {g : AHp} (x : XF j F g) (rec : Int32 → AHp → Option (Int32 × AHp)) (o : Int32) : m_X4_readFactor_b rec o g = some (0, g) := by
  unfold m_X4_readFactor_b
  rw [x.sign, bd_some, isDigitC, bd_some, show dgt (-1) = false by decide, i01_f, if_pos rfl, if_neg (by decide), isWordC, bd_some, show wrd (-1) = false by decide, i01_f, if_pos rfl]
  unfold m_X4_readFactor_b_93
  rw [if_neg (by decide), x.fail, bd_some]
theorem sumX {j : Nat} {F : Int32} {g : AHp} (x : XF j F g) (f : Nat) (o : Int32) : m_X4_readSum (f + 1) o g = some (0, g) := by
  obtain ⟨fu, hfu⟩ := FU_s
  rw [m_X4_readSum]
  unfold m_X4_readSum_b m_X4_readTerm_b
  rw [factorX x, bd_some, x.sign, bd_some, operationC, bd_some, show isT (-1) = false by decide, if_neg (show ¬ (false = true) by decide), hfu, m_X4_readTerm_b_20, if_neg (by decide), if_pos rfl, bd_some, m_X4_readSum_b_8, if_neg (by decide), x.sign, bd_some, if_neg (by decide), x.sign, bd_some, if_neg (by decide)]
theorem landN (j : Nat) (g : AHp) : m_X2_land j (-1) g = some ((), g) := by
  obtain ⟨fu, hfu⟩ := FU_s
  unfold m_X2_land
  rw [hfu, m_X2_land_4, if_neg (by decide), if_pos (by decide)]
section KC
variable {j : Nat} {ty : Nat → Int32} {n : Nat} {rec : Int32 → AHp → Option (Unit × AHp)} {srec : Nat → Nat → VSp} {o : Nat}
theorem partX (hx : RecX j rec) : RecX j (m_X4_readPart_b rec) := fun F g x1 x => by
  obtain ⟨fu, hfu⟩ := FU_s
  unfold m_X4_readPart_b
  rw [hx F g x1 x, bd_some, hfu, m_X4_readPart_b_9, if_neg (by decide), x.takes (by decide), bd_some, if_pos rfl, x.2.1.1, gd_pos x.2.1.2, landN, bd_some]
theorem condX (hx : RecX j rec) : RecX j (m_X4_readCondition_b rec) := fun F g x1 x => by
  obtain ⟨fu, hfu⟩ := FU_s
  unfold m_X4_readCondition_b
  rw [partX hx F g x1 x, bd_some, hfu, m_X4_readCondition_b_9, if_neg (by decide), x.takes (by decide), bd_some, if_pos rfl, x.2.1.1, gd_pos x.2.1.2, landN, bd_some]
theorem c1_lo {g g1 : AHp} (c : Ch (fun k _ => k == j + 1) g g1) : Ch (PLo j) g g1 := c.mono (fun k i hp => by
  simp only [Bool.or_eq_false_iff, Bool.and_eq_false_iff, beq_eq_false_iff_ne] at hp ⊢; omega)
/-- the jumps land -/
theorem landC {p0 s0 t0 p : Nat} {cst0 : Nat → Option Int32} {m0 mA jv : Int32} {g0 g : AHp} {A : Dmn} {J : List Nat} {oj : Nat} (ho : oj < 16) (hs0 : s0 ≤ p0) (ht0 : t0 ≤ 9 + p0) (O1 : OutJ j ty n p0 cst0 s0 t0 m0 g0 A mA p J jv oj g) :
    ∃ g1, m_X2_land j (nI (prv J) - 1) g = some ((), g1) ∧ Ch (PLo j) g g1 ∧ OutK j ty n p0 cst0 s0 t0 m0 g0 (.inr (A, mA, p)) g1 := by
  obtain ⟨cst, s, t, x, l, gr, hb, dA, rA, ch⟩ := O1
  have hj := l.2.1.1
  have hn := x.2.1
  have hst := rA.1
  obtain ⟨g1, e1, c1, h1, h2⟩ := land_l (j := j) (s := s) ho (by omega) J 0 FU g l.1.1 ch (fun k hk => by have := hst.2.2.2.2.2.2 k hk; omega) (by omega) (by unfold FU; omega)
  refine ⟨g1, e1, c1_lo c1, cst, s, t, x.lo hj (c1_lo c1), ?_, ⟨gr.1, gr.2.1, fun k hk => ?_⟩, hb, dA, rA.land (fun k _ _ hk => h2 k hk) h1⟩
  · obtain ⟨⟨l1, l2, l3, l4⟩, l5, l6⟩ := l
    refine ⟨⟨by rw [c1.i (by simp)]; exact l1, by rw [c1.i (by simp)]; exact l2, by rw [c1.i (by simp)]; exact l3, by rw [((c1_lo c1) 33 1 (plo_m hj)).2.2]; exact l4⟩, l5, fun r v h => ?_⟩
    rw [c1.i (by simp)]; exact l6 r v h
  · rw [h2 k (fun hm => by have := hst.2.2.2.2.2.2 k hm; omega), gr.2.2 k hk]
/-- one more operand of a condition -/
theorem binJ {p0 s0 t0 p q : Nat} {cst0 : Nat → Option Int32} {m0 mA m2 jv : Int32} {g0 g g1 g2 : AHp} {A B : Dmn} {J : List Nat} {oj : Nat} (hjo : (jv = 1 ∧ oj = 10) ∨ (jv = 0 ∧ oj = 11)) (hs0 : s0 ≤ p0) (ht0 : t0 ≤ 9 + p0) {cst : Nat → Option Int32} {s t : Nat}
    (l : LCx j cst s t (m0 ||| mA) g) (gr : Grow j cst0 s0 t0 g0 cst s t g) (hb : s + p0 ≤ s0 + p ∧ t + p0 ≤ t0 + p ∧ p0 < p) (dA : depOn A mA ∧ bD A) (rA : OpB j (hI g (j + 1)) cst s0 s t0 t J jv oj A) (ch : Chn (hI g (j + 1)) oj J)
    (h1s : hI g1 (j + 1) s = jmc oj (prv J)) (h1o : ∀ k, k ≠ s → hI g1 (j + 1) k = hI g (j + 1) k)
    (O2 : OutK j ty n (p + 1) cst (s + 1) t (m0 ||| mA) g1 (.inr (B, m2, q)) g2) :
    OutJ j ty n p0 cst0 s0 t0 m0 g0 (jD jv A B) (mA ||| m2) q (s :: J) jv oj g2 := by
  obtain ⟨cst2, s2, t2, x2, l2, gr2, ⟨b1, b2, b3⟩, dB, rB⟩ := O2
  simp only [] at x2 l2 b1 b2 b3 dB rB
  have h1 := gr.1
  have h2 := gr2.1
  have hst := rA.1
  have hcd : ∀ k, k < s → hI g2 (j + 1) k = hI g (j + 1) k := fun k hk => by
    rw [gr2.2.2 k (by omega), h1o k (by omega)]
  refine ⟨cst2, s2, t2, x2, ?_, ⟨⟨by omega, by omega⟩, fun u hu => ?_, fun k hk => ?_⟩, ⟨by omega, by omega, by omega⟩, ⟨jD_dep dA.1 dB.1, jD_b dA.2 dB.2⟩, ?_, ⟨?_, fun k hk => (hst.2.2.2.2.2.2 k hk).2, ch.ext (fun k hk => hcd k (hst.2.2.2.2.2.2 k hk).2)⟩⟩
  · rw [or_as] at l2; exact l2
  · rw [gr2.2.1 u (by omega), gr.2.1 u hu]
  · rw [hcd k (by omega), gr.2.2 k hk]
  · exact OpB.add hjo dA.2 (rA.ext (fun k _ u2 => hcd k u2) (fun u _ u2 => gr2.2.1 u u2)) rB
  · rw [gr2.2.2 s (by omega), h1s]
theorem partLC (hx : RecX j rec) (hr : RecK j ty n rec srec o) {p0 s0 t0 : Nat} {cst0 : Nat → Option Int32} {m0 : Int32} {g0 : AHp} (hs0 : s0 ≤ p0) (ht0 : t0 ≤ 9 + p0) :
    ∀ (sf f i p : Nat) (A : Dmn) (mA : Int32) (J : List Nat) (g : AHp), n - p < sf → n - p < f → i < p → OutJ j ty n p0 cst0 s0 t0 m0 g0 A mA p J 0 11 g →
    ∃ g1, m_X4_readPart_b_9 rec f (nI o) (nI (prv J) - 1) (nI i) g = some ((), g1) ∧ Ch (PLw j) g g1 ∧ OutK j ty n p0 cst0 s0 t0 m0 g0 (paL ty n srec o sf A mA p) g1 := by
  intro sf
  induction sf with
  | zero => intro f i p A mA J g h; omega
  | succ sf ih =>
    intro f i p A mA J g hsf hf hi O1
    obtain ⟨f, rfl⟩ : ∃ q, f = q + 1 := ⟨f - 1, by omega⟩
    obtain ⟨cst, s, t, x, l, gr, hb, dA, rA, ch⟩ := id O1
    have hj := l.2.1.1
    have hn := x.2.1
    rw [m_X4_readPart_b_9, if_neg (show ¬ 200 ≤ nI i from nI_ge (a := i) (b := 200) (by omega) (by omega)), paL]
    obtain ⟨g1, c1, r1⟩ := takesC x (k := 38) (by decide)
    rcases r1 with ⟨h1, h2, x1, e1⟩ | ⟨h1, h2, e1⟩
    · have l1 := l.pt c1
      have hst := rA.1
      obtain ⟨g2, e2, l2, c2, k2, o2⟩ := jumpC l1 (by omega) (oj := 11) (by omega) (J := J) (by
        cases J with
        | nil => show 0 < 60000; omega
        | cons r J => have := hst.2.2.2.2.2.2 r List.mem_cons_self; show r + 1 < 60000; omega)
      obtain ⟨g3, e3, c3, O3⟩ := hr (p + 1) g2 cst (s + 1) t (m0 ||| mA) (x1.lo hj c2) l2 (by omega) (by omega)
      rw [e1, bd_some, if_neg one_ne, l1.1.2.2.2, gd_pos hj, show m_X2_jump j 11 (nI (prv J) - 1) g1 = _ from e2, bd_some, e3, bd_some, lt_eq, nI_1, if_pos h1]
      cases hrs : srec o (p + 1) with
      | inl F =>
        rw [hrs] at O3
        have x3 : XF j F g3 := O3
        obtain ⟨f, rfl⟩ : ∃ q, f = q + 1 := ⟨f - 1, by omega⟩
        obtain ⟨g4, e4, x4, c4⟩ := landXF x3 (nI s)
        rw [vsb_l, m_X4_readPart_b_9]
        by_cases h200 : (200 : Int32) ≤ nI (i + 1)
        · rw [if_pos h200, x3.2.1.1, gd_pos hj, e4, bd_some]
          exact ⟨g4, rfl, (((pt_lw c1).trans (lo_lw c2)).trans c3).trans (lo_lw c4), x4⟩
        · rw [if_neg h200, x3.takes (by decide), bd_some, if_pos rfl, x3.2.1.1, gd_pos hj, e4, bd_some]
          exact ⟨g4, rfl, (((pt_lw c1).trans (lo_lw c2)).trans c3).trans (lo_lw c4), x4⟩
      | inr y =>
        obtain ⟨B, m2, q⟩ := y
        rw [hrs] at O3
        have hq : p + 1 < q := by
          obtain ⟨_, _, _, _, _, _, hb2, _⟩ := O3
          exact hb2.2.2
        have O4 := binJ (jv := 0) (oj := 11) (Or.inr ⟨rfl, rfl⟩) hs0 ht0 l gr hb dA rA ch k2 (fun k hk => by rw [o2 k hk, c1.i (pt_j hj (j + 1) k (by omega))]) O3
        rw [vsb_r]
        obtain ⟨g5, e5, c5, O5⟩ := ih f (i + 1) q (jD 0 A B) (mA ||| m2) (s :: J) g3 (by omega) (by omega) (by omega) O4
        rw [show nI (prv (s :: J)) - 1 = nI s from nI_pred s] at e5
        exact ⟨g5, e5, (((pt_lw c1).trans (lo_lw c2)).trans c3).trans c5, O5⟩
    · subst h2
      obtain ⟨g2, e2, c2, O2⟩ := landC (by omega) hs0 ht0 O1
      rw [e1, bd_some, if_pos rfl, l.1.2.2.2, gd_pos hj, e2, bd_some, if_neg h1]
      exact ⟨g2, rfl, lo_lw c2, O2⟩
theorem partC (hx : RecX j rec) (hr : RecK j ty n rec srec o) : RecK j ty n (m_X4_readPart_b rec) (paS ty n srec) o := by
  intro p g cst s t m x l hs ht
  have hj := l.2.1.1
  unfold m_X4_readPart_b paS
  have hr1 := hr
  obtain ⟨g1, e1, c1, O1⟩ := hr1 p g cst s t m x l hs ht
  rw [e1, bd_some]
  cases hrs : srec o p with
  | inl F =>
    rw [hrs] at O1
    have x1 : XF j F g1 := O1
    obtain ⟨fu, hfu⟩ := FU_s
    rw [vsb_l, hfu, m_X4_readPart_b_9, if_neg (by decide), x1.takes (by decide), bd_some, if_pos rfl, x1.2.1.1, gd_pos hj, landN, bd_some]
    exact ⟨g1, rfl, c1, x1⟩
  | inr y =>
    obtain ⟨A, mA, q⟩ := y
    rw [hrs] at O1
    obtain ⟨cst1, s1, t1, x1, l1, gr, hb, dA, rA⟩ := id O1
    simp only [] at x1 l1 hb dA rA
    rw [vsb_r]
    obtain ⟨g4, e4, c4, O4⟩ := partLC hx hr1 hs ht 300 FU 0 q A mA [] g1 (by have := x1.2.1; omega) (by have := x1.2.1; unfold FU; omega) (by omega) ⟨cst1, s1, t1, x1, l1, gr, hb, dA, OpB.nil rA, trivial⟩
    rw [show nI (prv []) - 1 = (-1 : Int32) by decide] at e4
    exact ⟨g4, e4, c1.trans c4, O4⟩
theorem condLC (hx : RecX j rec) (hr : RecK j ty n (m_X4_readPart_b rec) (paS ty n srec) o) {p0 s0 t0 : Nat} {cst0 : Nat → Option Int32} {m0 : Int32} {g0 : AHp} (hs0 : s0 ≤ p0) (ht0 : t0 ≤ 9 + p0) :
    ∀ (sf f i p : Nat) (A : Dmn) (mA : Int32) (J : List Nat) (g : AHp), n - p < sf → n - p < f → i < p → OutJ j ty n p0 cst0 s0 t0 m0 g0 A mA p J 1 10 g →
    ∃ g1, m_X4_readCondition_b_9 rec f (nI o) (nI (prv J) - 1) (nI i) g = some ((), g1) ∧ Ch (PLw j) g g1 ∧ OutK j ty n p0 cst0 s0 t0 m0 g0 (cdL ty n srec o sf A mA p) g1 := by
  intro sf
  induction sf with
  | zero => intro f i p A mA J g h; omega
  | succ sf ih =>
    intro f i p A mA J g hsf hf hi O1
    obtain ⟨f, rfl⟩ : ∃ q, f = q + 1 := ⟨f - 1, by omega⟩
    obtain ⟨cst, s, t, x, l, gr, hb, dA, rA, ch⟩ := id O1
    have hj := l.2.1.1
    have hn := x.2.1
    rw [m_X4_readCondition_b_9, if_neg (show ¬ 200 ≤ nI i from nI_ge (a := i) (b := 200) (by omega) (by omega)), cdL]
    obtain ⟨g1, c1, r1⟩ := takesC x (k := 124) (by decide)
    rcases r1 with ⟨h1, h2, x1, e1⟩ | ⟨h1, h2, e1⟩
    · have l1 := l.pt c1
      have hst := rA.1
      obtain ⟨g2, e2, l2, c2, k2, o2⟩ := jumpC l1 (by omega) (oj := 10) (by omega) (J := J) (by
        cases J with
        | nil => show 0 < 60000; omega
        | cons r J => have := hst.2.2.2.2.2.2 r List.mem_cons_self; show r + 1 < 60000; omega)
      obtain ⟨g3, e3, c3, O3⟩ := hr (p + 1) g2 cst (s + 1) t (m0 ||| mA) (x1.lo hj c2) l2 (by omega) (by omega)
      rw [e1, bd_some, if_neg one_ne, l1.1.2.2.2, gd_pos hj, show m_X2_jump j 10 (nI (prv J) - 1) g1 = _ from e2, bd_some, e3, bd_some, lt_eq, nI_1, if_pos h1]
      cases hrs : (paS ty n srec) o (p + 1) with
      | inl F =>
        rw [hrs] at O3
        have x3 : XF j F g3 := O3
        obtain ⟨f, rfl⟩ : ∃ q, f = q + 1 := ⟨f - 1, by omega⟩
        obtain ⟨g4, e4, x4, c4⟩ := landXF x3 (nI s)
        rw [vsb_l, m_X4_readCondition_b_9]
        by_cases h200 : (200 : Int32) ≤ nI (i + 1)
        · rw [if_pos h200, x3.2.1.1, gd_pos hj, e4, bd_some]
          exact ⟨g4, rfl, (((pt_lw c1).trans (lo_lw c2)).trans c3).trans (lo_lw c4), x4⟩
        · rw [if_neg h200, x3.takes (by decide), bd_some, if_pos rfl, x3.2.1.1, gd_pos hj, e4, bd_some]
          exact ⟨g4, rfl, (((pt_lw c1).trans (lo_lw c2)).trans c3).trans (lo_lw c4), x4⟩
      | inr y =>
        obtain ⟨B, m2, q⟩ := y
        rw [hrs] at O3
        have hq : p + 1 < q := by
          obtain ⟨_, _, _, _, _, _, hb2, _⟩ := O3
          exact hb2.2.2
        have O4 := binJ (jv := 1) (oj := 10) (Or.inl ⟨rfl, rfl⟩) hs0 ht0 l gr hb dA rA ch k2 (fun k hk => by rw [o2 k hk, c1.i (pt_j hj (j + 1) k (by omega))]) O3
        rw [vsb_r]
        obtain ⟨g5, e5, c5, O5⟩ := ih f (i + 1) q (jD 1 A B) (mA ||| m2) (s :: J) g3 (by omega) (by omega) (by omega) O4
        rw [show nI (prv (s :: J)) - 1 = nI s from nI_pred s] at e5
        exact ⟨g5, e5, (((pt_lw c1).trans (lo_lw c2)).trans c3).trans c5, O5⟩
    · subst h2
      obtain ⟨g2, e2, c2, O2⟩ := landC (by omega) hs0 ht0 O1
      rw [e1, bd_some, if_pos rfl, l.1.2.2.2, gd_pos hj, e2, bd_some, if_neg h1]
      exact ⟨g2, rfl, lo_lw c2, O2⟩
theorem condC (hx : RecX j rec) (hr : RecK j ty n rec srec o) : RecK j ty n (m_X4_readCondition_b rec) (cdS ty n srec) o := by
  intro p g cst s t m x l hs ht
  have hj := l.2.1.1
  unfold m_X4_readCondition_b cdS
  have hr1 := partC hx hr
  obtain ⟨g1, e1, c1, O1⟩ := hr1 p g cst s t m x l hs ht
  rw [e1, bd_some]
  cases hrs : (paS ty n srec) o p with
  | inl F =>
    rw [hrs] at O1
    have x1 : XF j F g1 := O1
    obtain ⟨fu, hfu⟩ := FU_s
    rw [vsb_l, hfu, m_X4_readCondition_b_9, if_neg (by decide), x1.takes (by decide), bd_some, if_pos rfl, x1.2.1.1, gd_pos hj, landN, bd_some]
    exact ⟨g1, rfl, c1, x1⟩
  | inr y =>
    obtain ⟨A, mA, q⟩ := y
    rw [hrs] at O1
    obtain ⟨cst1, s1, t1, x1, l1, gr, hb, dA, rA⟩ := id O1
    simp only [] at x1 l1 hb dA rA
    rw [vsb_r]
    obtain ⟨g4, e4, c4, O4⟩ := condLC hx hr1 hs ht 300 FU 0 q A mA [] g1 (by have := x1.2.1; omega) (by have := x1.2.1; unfold FU; omega) (by omega) ⟨cst1, s1, t1, x1, l1, gr, hb, dA, OpB.nil rA, trivial⟩
    rw [show nI (prv []) - 1 = (-1 : Int32) by decide] at e4
    exact ⟨g4, e4, c1.trans c4, O4⟩
/-- a comparison -/
theorem binK {c : Int32} (hc : isC c = true) {p0 q q2 s0 t0 s t rg : Nat} {cst0 cst : Nat → Option Int32} {m0 mA m2 v2 : Int32} {A B : Dmn} {g0 g g' g2 : AHp} (hs0 : s0 ≤ p0) (ht0 : t0 ≤ 9 + p0)
    (gr : Grow j cst0 s0 t0 g0 cst s t g) (hb : s + p0 ≤ s0 + q ∧ t + p0 ≤ t0 + q ∧ p0 < q) (dA : depOn A mA) (rA : RunE j (hI g (j + 1)) cst s0 s t0 t rg A) (hj : isLaw j) (c0 : Ch Pt g g')
    (O2 : OutV j ty n (q + 1) cst s t (m0 ||| mA) g' (.inr (B, m2, q2)) v2 g2) :
    ∃ v3 g3, m_X2_emit j (nI (opK c)) (nI rg) v2 g2 = some (v3, g3) ∧ Ch (PLo j) g2 g3 ∧ OutK j ty n p0 cst0 s0 t0 m0 g0 (.inr (cmD c A B, mA ||| m2, q2)) g3 := by
  obtain ⟨cst1, s1, t1, r2, hv2, x2, l2, gr2, ⟨b1, b2, b3⟩, dB, rB⟩ := O2
  simp only [] at x2 l2 b1 b2 b3 dB rB
  have hn := x2.2.1
  have hA := rA.1
  have hB := rB.1
  obtain ⟨g3, e3, l3, c3, h3, o3⟩ := emitC l2 (by omega) (by omega) (op := opK c) (a := rg) (b := r2) (opK_lt c) (by omega) (by omega)
  rw [hv2]
  refine ⟨nI t1, g3, e3, c3, cst1, s1 + 1, t1 + 1, x2.lo hj c3, ?_, ⟨⟨by have := gr.1; have := gr2.1; omega, by have := gr.1; have := gr2.1; omega⟩, fun u hu => ?_, fun k hk => ?_⟩, ⟨by simp only []; omega, by simp only []; omega, by simp only []; omega⟩, ⟨cmD_dep dA dB, cmD_b _ _ _⟩, ?_⟩
  · rw [or_as] at l3; exact l3
  · rw [gr2.2.1 u (by have := gr.1; omega), gr.2.1 u hu]
  · have h1 := gr.1
    have h2 := gr2.1
    rw [o3 k (by omega), gr2.2.2 k (by omega), c0.i (pt_j hj (j + 1) k (by omega)), gr.2.2 k hk]
  · have h1 := gr.1
    have h2 := gr2.1
    refine RunB.cm hc (rA.ext (fun k u1 u2 => ?_) (fun u u1 u2 => gr2.2.1 u u2)) (rB.ext (fun k u1 u2 => o3 k (by omega)) (fun u _ _ => rfl)) (by omega) (by omega) h3
    rw [o3 k (by omega), gr2.2.2 k (by omega), c0.i (pt_j hj (j + 1) k (by omega))]
theorem pieceX : RecX j (m_X4_readPiece_b rec) := fun F g x1 x => by
  unfold m_X4_readPiece_b
  rw [x.sign, bd_some, if_neg (by decide), if_neg (by decide), sumX x 9, bd_some, x.sign, bd_some, comparisonC, bd_some, show isC (-1) = false by decide, if_neg (show ¬ (false = true) by decide), if_pos rfl, x.fail, bd_some]
theorem pieceC (ho : o ≤ 6) (hx : o < 6 → RecX j rec) (hr : o < 6 → RecK j ty n rec srec (o + 1)) : RecK j ty n (m_X4_readPiece_b rec) (pcS ty n srec) o := by
  intro p g cst s t m x l hs ht
  have hj := l.2.1.1
  have hn := x.2.1
  unfold m_X4_readPiece_b pcS
  rw [signC x, bd_some]
  by_cases hb : sg ty n p = 33 ∨ sg ty n p = 40
  · have hp : p < n := sg_lt (fun h => by rw [h] at hb; revert hb; decide)
    rw [ite_two hb, if_pos hb]
    unfold m_X4_readPiece_b_77
    by_cases ho6 : o < 6
    · obtain ⟨g1, e1, x1, c1⟩ := stepC x hp
      rw [if_pos (show nI o < 6 from nI_lt (a := o) (b := 6) ho6 (by omega)), if_pos ho6, e1, bd_some, nI_1]
      by_cases h33 : sg ty n p = 33
      · rw [if_pos h33, if_pos h33]
        obtain ⟨g2, e2, c2, O2⟩ := hr ho6 (p + 1) g1 cst s t m x1 (l.pt c1) (by omega) (by omega)
        rw [e2, bd_some]
        cases hrs : srec (o + 1) (p + 1) with
        | inl F =>
          rw [hrs] at O2
          have x2 : XF j F g2 := O2
          obtain ⟨v3, g3, e3, x3, c3⟩ := emitX x2 9 0 0
          rw [x2.2.1.1, gd_pos hj, e3, bd_some, vsb_l]
          exact ⟨g3, rfl, ((pt_lw c1).trans c2).trans (lo_lw c3), x3⟩
        | inr y =>
          obtain ⟨A, mA, q⟩ := y
          rw [hrs] at O2
          obtain ⟨cst2, s2, t2, x2, l2, gr2, ⟨b1, b2, b3⟩, dA, rA⟩ := O2
          simp only [] at x2 l2 b1 b2 b3 dA rA
          have hqn := x2.2.1
          have hst := rA.1
          obtain ⟨g3, e3, l3, c3, h3, o3⟩ := emitC l2 (by omega) (by omega) (op := 9) (a := 0) (b := 0) (by omega) (by omega) (by omega)
          rw [l2.1.2.2.2, gd_pos hj, show m_X2_emit j 9 0 0 g2 = _ from e3, bd_some, vsb_r]
          have h1 := gr2.1
          refine ⟨g3, rfl, ((pt_lw c1).trans c2).trans (lo_lw c3), cst2, s2 + 1, t2 + 1, x2.lo hj c3, l3, ⟨⟨by omega, by omega⟩, fun u hu => gr2.2.1 u hu, fun k hk => ?_⟩, ⟨by simp only []; omega, by simp only []; omega, by simp only []; omega⟩, ⟨ntD_dep dA.1, ntD_b dA.2⟩, RunB.nt dA.2 (rA.ext (fun k u1 u2 => o3 k (by omega)) (fun u _ _ => rfl)) (by omega) (by omega) h3⟩
          rw [o3 k (by omega), gr2.2.2 k hk, c1.i (pt_j hj (j + 1) k (by omega))]
      · rw [if_neg h33, if_neg h33]
        obtain ⟨g2, e2, c2, O2⟩ := condC (hx ho6) (hr ho6) (p + 1) g1 cst s t m x1 (l.pt c1) (by omega) (by omega)
        rw [e2, bd_some]
        cases hrs : cdS ty n srec (o + 1) (p + 1) with
        | inl F =>
          rw [hrs] at O2
          have x2 : XF j F g2 := O2
          rw [x2.expect (by decide), bd_some, vsb_l]
          exact ⟨g2, rfl, (pt_lw c1).trans c2, x2⟩
        | inr y =>
          obtain ⟨A, mA, q⟩ := y
          rw [hrs] at O2
          obtain ⟨cst2, s2, t2, x2, l2, gr2, ⟨b1, b2, b3⟩, dA, rA⟩ := O2
          simp only [] at x2 l2 b1 b2 b3 dA rA
          have hqn := x2.2.1
          obtain ⟨g3, e3, c3, r3⟩ := expectC x2 (k := 41) (by decide)
          rw [e3, bd_some, vsb_r]
          rcases r3 with ⟨h1, h2, h3⟩ | ⟨h1, h2⟩
          · rw [if_pos h1]
            exact ⟨g3, rfl, ((pt_lw c1).trans c2).trans (pt_lw c3), cst2, s2, t2, h3, l2.pt c3, ((Grow.pt hj c1).trans gr2).trans (Grow.pt hj c3), ⟨by simp only []; omega, by simp only []; omega, by simp only []; omega⟩, dA, rA.ext (fun k _ _ => c3.i (pt_j hj (j + 1) k (by omega))) (fun _ _ _ => rfl)⟩
          · rw [if_neg h1]
            exact ⟨g3, rfl, ((pt_lw c1).trans c2).trans (pt_lw c3), XF.of (l2.pt c3) (by omega) (by omega) h2 (flt_neg (k := 1) (by omega) (by omega) (by omega))⟩
    · obtain ⟨g1, e1, h1, c1⟩ := failC x 5
      rw [if_neg (show ¬ nI o < 6 from nI_nlt (a := o) (b := 6) (by omega) (by omega)), if_neg ho6, e1, bd_some]
      exact ⟨g1, rfl, pt_lw c1, XF.of (l.pt c1) (by omega) (by omega) h1 (flt_neg (k := 5) (by omega) (by omega) (by omega))⟩
  · have hb2 := not_or.mp hb
    rw [if_neg hb2.1, if_neg hb2.2, if_neg hb]
    obtain ⟨v1, g1, e1, c1, O1⟩ := readSumC (j := j) (ty := ty) (n := n) 10 o ho (by omega) p g cst s t m x l hs ht
    rw [e1, bd_some]
    cases hrs : SMs ty n 10 o p with
    | inl F =>
      rw [hrs] at O1
      have x1 : XF j F g1 := O1
      rw [x1.sign, bd_some, comparisonC, bd_some, show isC (-1) = false by decide, if_neg (show ¬ (false = true) by decide), if_pos rfl, x1.fail, bd_some, vsb_l]
      exact ⟨g1, rfl, c1, x1⟩
    | inr y =>
      obtain ⟨A, mA, q⟩ := y
      rw [hrs] at O1
      obtain ⟨cst1, s1, t1, rg, hv, x1, l1, gr, hbd, dA, rA⟩ := O1
      simp only [] at x1 l1 hbd dA rA
      have hqn := x1.2.1
      rw [signC x1, bd_some, comparisonC, bd_some, vsb_r]
      cases hC : isC (sg ty n q) with
      | false =>
        obtain ⟨g2, e2, h2, c2⟩ := failC x1 1
        rw [if_neg (show ¬ (false = true) by decide), if_pos rfl, e2, bd_some, if_neg (show ¬ (false = true) by decide)]
        exact ⟨g2, rfl, c1.trans (pt_lw c2), XF.of (l1.pt c2) (by omega) (by omega) h2 (flt_neg (k := 1) (by omega) (by omega) (by omega))⟩
      | true =>
        have hq : q < n := sg_lt (fun h => by rw [h] at hC; revert hC; decide)
        obtain ⟨g2, e2, x2, c2⟩ := stepC x1 hq
        have l2 := l1.pt c2
        obtain ⟨v3, g3, e3, c3, O3⟩ := readSumC (j := j) (ty := ty) (n := n) 10 o ho (by omega) (q + 1) g2 cst1 s1 t1 (m ||| mA) x2 l2 (by omega) (by omega)
        rw [if_pos rfl, if_neg (opK_n _), e2, bd_some, l2.1.2.2.2, gd_pos hj, e3, bd_some, if_pos rfl]
        cases hrs2 : SMs ty n 10 o (q + 1) with
        | inl F =>
          rw [hrs2] at O3
          have x3 : XF j F g3 := O3
          obtain ⟨v4, g4, e4, x4, c4⟩ := emitX x3 (nI (opK (sg ty n q))) v1 v3
          rw [e4, bd_some, vsb_l]
          exact ⟨g4, rfl, ((c1.trans (pt_lw c2)).trans c3).trans (lo_lw c4), x4⟩
        | inr y =>
          obtain ⟨B, m2, q2⟩ := y
          rw [hrs2] at O3
          obtain ⟨v4, g4, e4, c4, O4⟩ := binK (c := sg ty n q) hC hs ht gr hbd dA rA hj c2 O3
          rw [hv, e4, bd_some, vsb_r]
          exact ⟨g4, rfl, ((c1.trans (pt_lw c2)).trans c3).trans (lo_lw c4), O4⟩
end KC
theorem readPieceC {j : Nat} {ty : Nat → Int32} {n : Nat} : ∀ (f o : Nat), o ≤ 6 → 7 ≤ f + o → RecX j (m_X4_readPiece f) ∧ RecK j ty n (m_X4_readPiece f) (PCs ty n f) o := by
  intro f
  induction f with
  | zero => intro o h1 h2; omega
  | succ f ih =>
    intro o h1 h2
    have hx : RecX j (m_X4_readPiece (f + 1)) := fun F g x1 x => by
      rw [m_X4_readPiece]; exact pieceX F g x1 x
    refine ⟨hx, fun p g cst s t m x l hs ht => ?_⟩
    rw [m_X4_readPiece, PCs]
    exact pieceC h1 (fun h => (ih (o + 1) (by omega) (by omega)).1) (fun h => (ih (o + 1) (by omega) (by omega)).2) p g cst s t m x l hs ht
