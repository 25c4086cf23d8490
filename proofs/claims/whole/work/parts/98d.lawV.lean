/-! sums: the class -/
def OutV (j : Nat) (ty : Nat → Int32) (n p : Nat) (cst : Nat → Option Int32) (s t : Nat) (m0 : Int32) (g : AHp) (r : VSp) (v : Int32) (g1 : AHp) : Prop := match r with
  | .inl F => XF j F g1
  | .inr y => ∃ cst1 s1 t1 rg, v = nI rg ∧ TxC ty n y.2.2 g1 ∧ LCx j cst1 s1 t1 (m0 ||| y.2.1) g1 ∧ Grow j cst s t g cst1 s1 t1 g1 ∧ (s1 + p ≤ s + y.2.2 ∧ t1 + p ≤ t + y.2.2 ∧ p < y.2.2) ∧ depOn y.1 y.2.1 ∧ RunE j (hI g1 (j + 1)) cst1 s s1 t t1 rg y.1
def RecV (j : Nat) (ty : Nat → Int32) (n : Nat) (rec : Int32 → AHp → Option (Int32 × AHp)) (srec : Nat → Nat → VSp) (o : Nat) : Prop := ∀ (p : Nat) (g : AHp) (cst : Nat → Option Int32) (s t : Nat) (m : Int32), TxC ty n p g → LCx j cst s t m g → s ≤ p → t ≤ 9 + p → ∃ v g1, rec (nI o) g = some (v, g1) ∧ Ch (PLw j) g g1 ∧ OutV j ty n p cst s t m g (srec o p) v g1
theorem isDigitC (s : Int32) (h : AHp) : m_X4_isDigit s h = some (if dgt s = true then 1 else 0, h) := by
  unfold m_X4_isDigit dgt
  simp only [i32_lt, tIall, decide_eq_true_iff]
  repeat' split
  all_goals first | rfl | omega
section NUM
variable {ty : Nat → Int32} {n : Nat}
theorem num_l : ∀ (k i p f : Nat) (v : Int32) (g : AHp), i + k = 5 → k < f → TxC ty n p g → ∃ w g1, m_X4_readNumber_4 f v (nI i) g = some (w, g1) ∧ Ch Pt g g1 ∧ (match nmS ty n k v p with
    | .inl F => hI g1 1 4 = F ∧ F.toInt < 0
    | .inr y => w = y.1 ∧ TxC ty n y.2 g1 ∧ p ≤ y.2 ∧ (dgt (sg ty n p) = true → 1 ≤ k → p < y.2)) := by
  intro k
  induction k with
  | zero =>
    intro i p f v g hi hf x
    obtain ⟨f, rfl⟩ : ∃ q, f = q + 1 := ⟨f - 1, by omega⟩
    have hn := x.2.1
    have : i = 5 := by omega
    subst this
    rw [m_X4_readNumber_4, if_pos (by decide), nmS]
    unfold m_X4_readNumber_51
    rw [signC x, bd_some, isDigitC, bd_some]
    cases hd : dgt (sg ty n p) with
    | false =>
      rw [i01_f, if_pos rfl, if_neg (show ¬ (false = true) by decide)]
      exact ⟨v, g, rfl, Ch.rf, rfl, x, Nat.le_refl _, fun h => by cases h⟩
    | true =>
      obtain ⟨g1, e1, h1, c1⟩ := failC x 2
      rw [i01_t, if_neg one_ne, e1, bd_some, if_pos rfl]
      exact ⟨v, g1, rfl, c1, h1, flt_neg (k := 2) (by omega) (by omega) (by omega)⟩
  | succ k ih =>
    intro i p f v g hi hf x
    obtain ⟨f, rfl⟩ : ∃ q, f = q + 1 := ⟨f - 1, by omega⟩
    have hn := x.2.1
    rw [m_X4_readNumber_4, if_neg (show ¬ 5 ≤ nI i from nI_ge (a := i) (b := 5) (by omega) (by omega)), signC x, bd_some, isDigitC, bd_some, nmS]
    cases hd : dgt (sg ty n p) with
    | false =>
      rw [i01_f, if_pos rfl, if_neg (show ¬ (false = true) by decide)]
      unfold m_X4_readNumber_51
      rw [signC x, bd_some, isDigitC, bd_some, hd, i01_f, if_pos rfl]
      exact ⟨v, g, rfl, Ch.rf, rfl, x, Nat.le_refl _, fun h => by cases h⟩
    | true =>
      have hp : p < n := sg_lt (fun h => by rw [h] at hd; revert hd; decide)
      obtain ⟨g1, e1, x1, c1⟩ := stepC x hp
      rw [i01_t, if_neg one_ne, signC x, bd_some, lt_eq, e1, bd_some, lt_eq, nI_1, if_pos rfl]
      obtain ⟨w, g2, e2, c2, r2⟩ := ih (i + 1) (p + 1) f (v * 10 + sg ty n p - 48) g1 (by omega) (by omega) x1
      refine ⟨w, g2, e2, c1.trans c2, ?_⟩
      cases hr : nmS ty n k (v * 10 + sg ty n p - 48) (p + 1) with
      | inl F => rw [hr] at r2; exact r2
      | inr y => rw [hr] at r2; exact ⟨r2.1, r2.2.1, by have := r2.2.2.1; omega, fun _ _ => by have := r2.2.2.1; omega⟩
end NUM
theorem ten_s : ∃ q, FU = q + 10 := ⟨19990, rfl⟩
theorem int8_s : ∀ c : Fin 128, (nI c.val).toInt8.toInt32 = nI c.val := by decide
theorem lix_w {s : Int32} (h : lix s < 9) : 97 ≤ s.toInt ∧ s.toInt ≤ 122 := by
  by_cases h0 : s = 108
  · subst h0; decide
  by_cases h1 : s = 116
  · subst h1; decide
  by_cases h2 : s = 115
  · subst h2; decide
  by_cases h3 : s = 99
  · subst h3; decide
  by_cases h4 : s = 97
  · subst h4; decide
  by_cases h5 : s = 98
  · subst h5; decide
  by_cases h6 : s = 114
  · subst h6; decide
  by_cases h7 : s = 100
  · subst h7; decide
  by_cases h8 : s = 107
  · subst h8; decide
  unfold lix at h
  rw [if_neg h0, if_neg h1, if_neg h2, if_neg h3, if_neg h4, if_neg h5, if_neg h6, if_neg h7, if_neg h8] at h
  omega
theorem ixC_l (s : Int32) (h : AHp) (f : Nat) : m_J1_indexOfChar_4cfef_7 (f + 10) 9 s (nI 0) h = some (if lix s < 9 then nI (lix s) else -1, h) := by
  have st : ∀ (i : Nat) (f : Nat) (c : Int32), i < 9 → ltrs.getD i 0 = c → m_J1_indexOfChar_4cfef_7 (f + 1) 9 s (nI i) h = (if c = s then some (nI i, h) else m_J1_indexOfChar_4cfef_7 f 9 s (nI (i + 1)) h) := by
    intro i f c hi hc
    rw [m_J1_indexOfChar_4cfef_7, if_neg (show ¬ 9 ≤ nI i from nI_ge (a := i) (b := 9) (by omega) (by omega)), gd_pos (inb_nI (by omega) (by omega)), nI_clamp (by omega), hc, lt_eq, nI_1]
  have fin : ∀ f, m_J1_indexOfChar_4cfef_7 (f + 1) 9 s (nI 9) h = some (-1, h) := by
    intro f
    rw [m_J1_indexOfChar_4cfef_7, if_pos (by decide)]
  rw [show f + 10 = (f + 9) + 1 from rfl, st 0 (f + 9) 108 (by omega) rfl, show f + 9 = (f + 8) + 1 from rfl, st 1 (f + 8) 116 (by omega) rfl, show f + 8 = (f + 7) + 1 from rfl, st 2 (f + 7) 115 (by omega) rfl, show f + 7 = (f + 6) + 1 from rfl, st 3 (f + 6) 99 (by omega) rfl, show f + 6 = (f + 5) + 1 from rfl, st 4 (f + 5) 97 (by omega) rfl, show f + 5 = (f + 4) + 1 from rfl, st 5 (f + 4) 98 (by omega) rfl, show f + 4 = (f + 3) + 1 from rfl, st 6 (f + 3) 114 (by omega) rfl, show f + 3 = (f + 2) + 1 from rfl, st 7 (f + 2) 100 (by omega) rfl, show f + 2 = (f + 1) + 1 from rfl, st 8 (f + 1) 107 (by omega) rfl, fin f]
  unfold lix
  by_cases h0 : s = 108
  · rw [if_pos h0.symm, if_pos h0]; rfl
  rw [if_neg (fun z => h0 z.symm), if_neg h0]
  by_cases h1 : s = 116
  · rw [if_pos h1.symm, if_pos h1]; rfl
  rw [if_neg (fun z => h1 z.symm), if_neg h1]
  by_cases h2 : s = 115
  · rw [if_pos h2.symm, if_pos h2]; rfl
  rw [if_neg (fun z => h2 z.symm), if_neg h2]
  by_cases h3 : s = 99
  · rw [if_pos h3.symm, if_pos h3]; rfl
  rw [if_neg (fun z => h3 z.symm), if_neg h3]
  by_cases h4 : s = 97
  · rw [if_pos h4.symm, if_pos h4]; rfl
  rw [if_neg (fun z => h4 z.symm), if_neg h4]
  by_cases h5 : s = 98
  · rw [if_pos h5.symm, if_pos h5]; rfl
  rw [if_neg (fun z => h5 z.symm), if_neg h5]
  by_cases h6 : s = 114
  · rw [if_pos h6.symm, if_pos h6]; rfl
  rw [if_neg (fun z => h6 z.symm), if_neg h6]
  by_cases h7 : s = 100
  · rw [if_pos h7.symm, if_pos h7]; rfl
  rw [if_neg (fun z => h7 z.symm), if_neg h7]
  by_cases h8 : s = 107
  · rw [if_pos h8.symm, if_pos h8]; rfl
  rw [if_neg (fun z => h8 z.symm), if_neg h8]
  rfl
theorem ixC {s : Int32} (hs : 97 ≤ s.toInt ∧ s.toInt ≤ 122) (h : AHp) : m_J0_indexOf_0f7a4 ((s.toUInt32 % 65536).toInt32) h = some (if lix s < 9 then nI (lix s) else -1, h) := by
  obtain ⟨c, rfl, hc1, hc2⟩ := nat_in (x := s) (lo := 97) (hi := 122) hs
  have e1 : ((nI c).toUInt32 % 65536).toInt32 = nI c := by
    rw [pk_char, pk_tn (by omega), Nat.mod_eq_of_lt (by omega)]
  rw [e1]
  unfold m_J0_indexOf_0f7a4 m_J0_indexOf_7cf53 m_J0_isLatin1_aae02 m_J0_length_8abf5 m_J0_coder_7d493 m_J1_indexOf_4cfef m_J1_canEncode_9a6ad m_J1_indexOfChar_4cfef
  rw [if_neg one_ne, if_pos rfl, bd_some, if_neg one_ne, if_neg one_ne, bd_some, bd_some, show (9 : Int32) >>> ((0 : Int32) &&& 31) = 9 from by decide, if_neg (nI_pos (by omega)), if_neg (show ¬ 255 < nI c from nI_nlt (a := 255) (b := c) (by omega) (by omega)), bd_some, if_neg one_ne, lt_eq, lt_eq, if_neg (show ¬ ((0 : Int32) < 0) by decide), if_neg (show ¬ ((9 : Int32) < 9) by decide), if_pos (show (0 : Int32) < 9 by decide), lt_eq, int8_s ⟨c, by omega⟩]
  obtain ⟨q, hq⟩ := ten_s
  rw [hq, show m_J1_indexOfChar_4cfef_7 (q + 10) 9 (nI c) 0 h = _ from ixC_l (nI c) h q, bd_some, bd_some, bd_some]
theorem or_as (a b c : Int32) : a ||| b ||| c = a ||| (b ||| c) := tb_ext (fun k _ => by rw [tb_or, tb_or, tb_or, tb_or, Bool.or_assoc])
section VC
variable {j : Nat} {ty : Nat → Int32} {n : Nat}
/-- one more operand -/
theorem binC {c : Int32} (hc : isT c = true ∨ isP c = true) {p0 p q s0 t0 s t rg : Nat} {cst0 cst : Nat → Option Int32} {m0 mA m2 v2 : Int32} {A B : Dmn} {g0 g g' g2 : AHp} (hs0 : s0 ≤ p0) (ht0 : t0 ≤ 9 + p0)
    (gr : Grow j cst0 s0 t0 g0 cst s t g) (hb : s + p0 ≤ s0 + p ∧ t + p0 ≤ t0 + p ∧ p0 < p) (dA : depOn A mA) (rA : RunE j (hI g (j + 1)) cst s0 s t0 t rg A) (hj : isLaw j) (c0 : Ch Pt g g')
    (O2 : OutV j ty n (p + 1) cst s t (m0 ||| mA) g' (.inr (B, m2, q)) v2 g2) :
    ∃ v3 g3, m_X2_emit j (nI (opA c)) (nI rg) v2 g2 = some (v3, g3) ∧ Ch (PLo j) g2 g3 ∧ OutV j ty n p0 cst0 s0 t0 m0 g0 (.inr (arD c A B, mA ||| m2, q)) v3 g3 := by
  obtain ⟨cst1, s1, t1, r2, hv2, x2, l2, gr2, ⟨b1, b2, b3⟩, dB, rB⟩ := O2
  simp only [] at x2 l2 b1 b2 b3 dB rB
  have hn := x2.2.1
  have hA := rA.1
  have hB := rB.1
  obtain ⟨g3, e3, l3, c3, h3, o3⟩ := emitC l2 (by omega) (by omega) (op := opA c) (a := rg) (b := r2) (opA_lt c) (by omega) (by omega)
  rw [hv2]
  refine ⟨nI t1, g3, e3, c3, cst1, s1 + 1, t1 + 1, t1, rfl, x2.lo hj c3, ?_, ⟨⟨by have := gr.1; have := gr2.1; omega, by have := gr.1; have := gr2.1; omega⟩, fun u hu => ?_, fun k hk => ?_⟩, ⟨by simp only []; omega, by simp only []; omega, by simp only []; omega⟩, arD_dep dA dB, ?_⟩
  · rw [or_as] at l3; exact l3
  · rw [gr2.2.1 u (by have := gr.1; omega), gr.2.1 u hu]
  · have h1 := gr.1
    have h2 := gr2.1
    rw [o3 k (by omega), gr2.2.2 k (by omega), c0.i (pt_j hj (j + 1) k (by omega)), gr.2.2 k hk]
  · have h1 := gr.1
    have h2 := gr2.1
    refine RunE.ar hc (rA.ext (fun k u1 u2 => ?_) (fun u u1 u2 => gr2.2.1 u u2)) (rB.ext (fun k u1 u2 => o3 k (by omega)) (fun u _ _ => rfl)) (by omega) (by omega) h3 (fresh l2)
    rw [o3 k (by omega), gr2.2.2 k (by omega), c0.i (pt_j hj (j + 1) k (by omega))]
variable {rec : Int32 → AHp → Option (Int32 × AHp)} {srec : Nat → Nat → VSp} {o : Nat}
theorem factorC (ho : o ≤ 6) (hr : o < 6 → RecV j ty n rec srec (o + 1)) {p s t : Nat} {g : AHp} {cst : Nat → Option Int32} {m : Int32} (x : TxC ty n p g) (l : LCx j cst s t m g) (hs : s ≤ p) (ht : t ≤ 9 + p) : ∃ v g1, m_X4_readFactor_b rec (nI o) g = some (v, g1) ∧ Ch (PLw j) g g1 ∧ OutV j ty n p cst s t m g (fcS ty n srec o p) v g1 := by
  have hj := l.2.1.1
  have hn := x.2.1
  have h9 := l.2.1.2
  unfold m_X4_readFactor_b fcS
  rw [signC x, bd_some, isDigitC, bd_some]
  cases hd : dgt (sg ty n p) with
  | true =>
    rw [i01_t, if_neg one_ne, if_pos rfl, l.1.2.2.2, gd_pos hj]
    obtain ⟨w, g1, e1, c1, r1⟩ := num_l (ty := ty) (n := n) 5 0 p FU 0 g (by omega) (by unfold FU; omega) x
    unfold m_X4_readNumber
    rw [show m_X4_readNumber_4 FU 0 0 g = _ from e1, bd_some]
    cases hr1 : nmS ty n 5 0 p with
    | inl F =>
      rw [hr1] at r1
      obtain ⟨w2, g2, e2, x2, c2⟩ := constX (XF.of (l.pt c1) (by omega) (by omega) r1.1 r1.2) w
      rw [e2, bd_some]
      exact ⟨w2, g2, rfl, (pt_lw c1).trans (lo_lw c2), x2⟩
    | inr y =>
      obtain ⟨b, q⟩ := y
      rw [hr1] at r1
      obtain ⟨rw1, rx, rp, rd⟩ := r1
      simp only [] at rw1 rx rp rd
      have hq := rd hd (by omega)
      have hqn := rx.2.1
      obtain ⟨g2, e2, l2, c2, k2⟩ := constC (l.pt c1) (by omega) w
      rw [e2, bd_some]
      refine ⟨nI t, g2, rfl, (pt_lw c1).trans (lo_lw c2), (fun u => if u = t then some w else cst u), s, t + 1, t, rfl, rx.lo hj c2, ?_, ⟨⟨by omega, by omega⟩, fun u hu => if_neg (show ¬ u = t by omega), fun k hk => by rw [k2 k, c1.i (pt_j hj (j + 1) k (by omega))]⟩, ⟨show s + p ≤ s + q by omega, show t + 1 + p ≤ t + q by omega, hq⟩, fun e e2 _ => rfl, ?_⟩
      · rw [or0]; exact l2
      · rw [← rw1]
        exact RunE.num (by omega) h9 (by omega) (if_pos rfl)
  | false =>
    rw [i01_f, if_pos rfl, if_neg (show ¬ (false = true) by decide)]
    by_cases h91 : sg ty n p = 91
    · have hp : p < n := sg_lt (by rw [h91]; decide)
      rw [if_pos h91, if_pos h91]
      by_cases ho6 : o < 6
      · obtain ⟨g1, e1, x1, c1⟩ := stepC x hp
        obtain ⟨v, g2, e2, c2, r2⟩ := hr ho6 (p + 1) g1 cst s t m x1 (l.pt c1) (by omega) (by omega)
        rw [if_pos (show nI o < 6 from nI_lt (a := o) (b := 6) ho6 (by omega)), if_pos ho6, e1, bd_some, nI_1, e2, bd_some]
        cases hrs : srec (o + 1) (p + 1) with
        | inl F =>
          rw [hrs] at r2
          have r2' : XF j F g2 := r2
          rw [r2'.expect (by decide), bd_some, vsb_l]
          exact ⟨v, g2, rfl, (pt_lw c1).trans c2, r2'⟩
        | inr y =>
          obtain ⟨D, mD, q⟩ := y
          rw [hrs] at r2
          obtain ⟨cst1, s1, t1, rg, hv, x2, l2, gr2, ⟨b1, b2, b3⟩, dD, rD⟩ := r2
          simp only [] at x2 l2 b1 b2 b3 dD rD
          have hqn := x2.2.1
          obtain ⟨g3, e3, c3, r3⟩ := expectC x2 (k := 93) (by decide)
          rw [e3, bd_some, vsb_r]
          have hA := rD.1
          rcases r3 with ⟨h1, h2, h3⟩ | ⟨h1, h2⟩
          · rw [if_pos h1]
            refine ⟨v, g3, rfl, ((pt_lw c1).trans c2).trans (pt_lw c3), cst1, s1, t1, rg, hv, h3, l2.pt c3, ((Grow.pt hj c1).trans gr2).trans (Grow.pt hj c3), ⟨by simp only []; omega, by simp only []; omega, by simp only []; omega⟩, dD, rD.ext (fun k _ _ => c3.i (pt_j hj (j + 1) k (by omega))) (fun _ _ _ => rfl)⟩
          · rw [if_neg h1]
            exact ⟨v, g3, rfl, ((pt_lw c1).trans c2).trans (pt_lw c3), XF.of (l2.pt c3) (by omega) (by omega) h2 (flt_neg (k := 1) (by omega) (by omega) (by omega))⟩
      · obtain ⟨g1, e1, h1, c1⟩ := failC x 5
        rw [if_neg (show ¬ nI o < 6 from nI_nlt (a := o) (b := 6) (by omega) (by omega)), if_neg ho6, e1, bd_some]
        exact ⟨0, g1, rfl, pt_lw c1, XF.of (l.pt c1) (by omega) (by omega) h1 (flt_neg (k := 5) (by omega) (by omega) (by omega))⟩
    · rw [if_neg h91, if_neg h91, isWordC, bd_some]
      -- no letter
      have no : ¬ lix (sg ty n p) < 9 → ∃ v g1, m_X4_readFactor_b_93 rec (-1) g = some (v, g1) ∧ Ch (PLw j) g g1 ∧ OutV j ty n p cst s t m g (if lix (sg ty n p) < 9 then .inr (fun e => some (e (lix (sg ty n p))), (1 : Int32) <<< (nI (lix (sg ty n p)) &&& 31), p + 1) else .inl (flt 1 p)) v g1 := fun hl => by
        obtain ⟨g1, e1, h1, c1⟩ := failC x 1
        unfold m_X4_readFactor_b_93
        rw [if_neg (by decide), e1, bd_some, if_neg hl]
        exact ⟨0, g1, rfl, pt_lw c1, XF.of (l.pt c1) (by omega) (by omega) h1 (flt_neg (k := 1) (by omega) (by omega) (by omega))⟩
      cases hw : wrd (sg ty n p) with
      | false =>
        rw [i01_f, if_pos rfl]
        exact no (fun h => absurd (lix_w h) (of_decide_eq_false hw))
      | true =>
        rw [i01_t, if_neg one_ne, ixC (of_decide_eq_true hw), bd_some]
        by_cases hl : lix (sg ty n p) < 9
        · have hp : p < n := sg_lt (fun h => by rw [h] at hw; revert hw; decide)
          obtain ⟨g1, e1, x1, c1⟩ := stepC x hp
          have l1 := l.pt c1
          obtain ⟨g2, e2, l2, c2, k2⟩ := letterC l1 hl
          rw [if_pos hl, if_pos hl]
          unfold m_X4_readFactor_b_93
          rw [if_pos (nI_pos' (by omega)), e1, bd_some, l1.1.2.2.2, gd_pos hj, e2, bd_some]
          refine ⟨_, g2, rfl, (pt_lw c1).trans (lo_lw c2), cst, s, t, lix (sg ty n p), rfl, x1.lo hj c2, l2, ⟨⟨Nat.le_refl _, Nat.le_refl _⟩, fun _ _ => rfl, fun k hk => by rw [k2 k, c1.i (pt_j hj (j + 1) k (by omega))]⟩, ⟨by simp only []; omega, by simp only []; omega, by simp only []; omega⟩, fun e e2 he => ?_, RunE.ltr (by omega) h9 (by omega) hl⟩
          have := he (lix (sg ty n p)) hl (by simp only []; rw [tb_bit (by omega) (by omega)]; simp)
          simp only [this]
        · rw [if_neg hl]; exact no hl
end VC
