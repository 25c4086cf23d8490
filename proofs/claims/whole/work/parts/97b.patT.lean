theorem FU_s : ∃ a, FU = a + 1 := ⟨19999, rfl⟩
/-! TEXTS: the sign at a place, the class's head -/
def sg (ty : Nat → Int32) (n p : Nat) : Int32 := if p < n then ty p else -1
theorem sg_lt {ty : Nat → Int32} {n p : Nat} (h : ¬ sg ty n p = -1) : p < n := by
  unfold sg at h
  by_cases hp : p < n
  · exact hp
  · rw [if_neg hp] at h; exact absurd rfl h
def TxC (ty : Nat → Int32) (n p : Nat) (g : AHp) : Prop := (hI g 1 2 = nI p ∧ hI g 1 3 = nI n ∧ hI g 1 4 = 0) ∧ (p ≤ n ∧ n ≤ 200) ∧ ∀ i, i < n → hI g 2 i = ty i
abbrev Pt : Nat → Nat → Bool := fun k i => k == 1 && (i == 2 || i == 3 || i == 4)
def flt (k : Int32) (p : Nat) : Int32 := (-1000) * k - nI p
section TXT
variable {ty : Nat → Int32} {n p : Nat} {g : AHp}
theorem TxC.ch {P : Nat → Nat → Bool} {g1 : AHp} (x : TxC ty n p g) (c : Ch P g g1) (h1 : P 1 2 = false ∧ P 1 3 = false ∧ P 1 4 = false) (h2 : ∀ i, P 2 i = false) : TxC ty n p g1 := by
  unfold TxC at x ⊢
  rw [c.i h1.1, c.i h1.2.1, c.i h1.2.2, c.r h2]; exact x
theorem signC (x : TxC ty n p g) : m_X8_sign g = some (sg ty n p, g) := by
  obtain ⟨⟨x1, x2, x3⟩, ⟨x4, x5⟩, x6⟩ := x
  unfold m_X8_sign sg
  rw [if_pos x3, x1, x2, if_neg (nI_pos (by omega))]
  by_cases h : p < n
  · rw [if_neg (nI_ge h (by omega)), if_neg (show ¬ 220 ≤ nI p from nI_ge (a := p) (b := 220) (by omega) (by omega)), gd_pos (inb_nI (by omega) (by omega)), nI_clamp (by omega), if_pos h, x6 p h]
  · rw [if_pos (nI_le (by omega) (by omega)), if_neg h]
theorem stepC (x : TxC ty n p g) (h : p < n) : ∃ g1, m_X8_step g = some ((), g1) ∧ TxC ty n (p + 1) g1 ∧ Ch Pt g g1 := by
  have c0 : Ch Pt g (sI g 1 2 (nI (p + 1))) := Ch.rf.sI (by rfl)
  obtain ⟨⟨x1, x2, x3⟩, ⟨x4, x5⟩, x6⟩ := x
  refine ⟨sI g 1 2 (nI (p + 1)), ?_, ⟨⟨rfl, x2, x3⟩, ⟨by omega, x5⟩, x6⟩, c0⟩
  unfold m_X8_step
  rw [x1, x2, if_neg (nI_ge h (by omega)), lt_eq, nI_1]
theorem failC (x : TxC ty n p g) (k : Int32) : ∃ g1, m_X8_fail k g = some ((), g1) ∧ hI g1 1 4 = flt k p ∧ Ch Pt g g1 := by
  refine ⟨sI g 1 4 (flt k p), ?_, rfl, Ch.rf.sI (by rfl)⟩
  unfold m_X8_fail flt
  rw [if_pos x.1.2.2, lt_eq, x.1.1]
theorem signX {F : Int32} (x : hI g 1 4 = F) (hF : ¬ F = 0) : m_X8_sign g = some (-1, g) := by
  unfold m_X8_sign; rw [x, if_neg hF]
theorem failX {F : Int32} (x : hI g 1 4 = F) (hF : ¬ F = 0) (k : Int32) : m_X8_fail k g = some ((), g) := by
  unfold m_X8_fail; rw [x, if_neg hF]
theorem expectX {F : Int32} (x : hI g 1 4 = F) (hF : ¬ F = 0) {k : Int32} (hk : ¬ -1 = k) : m_X8_expect k g = some ((), g) := by
  unfold m_X8_expect
  rw [signX x hF, bd_some, if_neg hk, failX x hF, bd_some]
theorem takesX {F : Int32} (x : hI g 1 4 = F) (hF : ¬ F = 0) {k : Int32} (hk : ¬ -1 = k) : m_X8_takes k g = some (0, g) := by
  unfold m_X8_takes
  rw [signX x hF, bd_some, if_neg hk, if_pos rfl]
theorem expectC (x : TxC ty n p g) {k : Int32} (hk : ¬ k = -1) : ∃ g1, m_X8_expect k g = some ((), g1) ∧ Ch Pt g g1 ∧ ((sg ty n p = k ∧ p < n ∧ TxC ty n (p + 1) g1) ∨ (¬ sg ty n p = k ∧ hI g1 1 4 = flt 1 p)) := by
  unfold m_X8_expect
  rw [signC x, bd_some]
  by_cases h : sg ty n p = k
  · have hp : p < n := sg_lt (by rw [h]; exact hk)
    obtain ⟨g1, e1, x1, c1⟩ := stepC x hp
    rw [if_pos h, e1, bd_some]
    exact ⟨g1, rfl, c1, Or.inl ⟨h, hp, x1⟩⟩
  · obtain ⟨g1, e1, x1, c1⟩ := failC x 1
    rw [if_neg h, e1, bd_some]
    exact ⟨g1, rfl, c1, Or.inr ⟨h, x1⟩⟩
theorem takesC (x : TxC ty n p g) {k : Int32} (hk : ¬ k = -1) : ∃ g1, Ch Pt g g1 ∧ ((sg ty n p = k ∧ p < n ∧ TxC ty n (p + 1) g1 ∧ m_X8_takes k g = some (1, g1)) ∨ (¬ sg ty n p = k ∧ g1 = g ∧ m_X8_takes k g = some (0, g1))) := by
  unfold m_X8_takes
  rw [signC x, bd_some]
  by_cases h : sg ty n p = k
  · have hp : p < n := sg_lt (by rw [h]; exact hk)
    obtain ⟨g1, e1, x1, c1⟩ := stepC x hp
    rw [if_pos h, if_neg one_ne, e1, bd_some]
    exact ⟨g1, c1, Or.inl ⟨h, hp, x1, rfl⟩⟩
  · rw [if_neg h, if_pos rfl]
    exact ⟨g, Ch.rf, Or.inr ⟨h, rfl, rfl⟩⟩
theorem flt_toInt {k : Nat} (hk : k ≤ 5) (hp : p ≤ 220) : (flt (nI k) p).toInt = -(1000 * (k : Int)) - p := by
  have e : (-1000 : Int32) * nI k = -(nI (1000 * k)) := by
    have : ∀ j : Fin 6, (-1000 : Int32) * nI j.val = -(nI (1000 * j.val)) := by decide
    exact this ⟨k, by omega⟩
  have e2 : (-(nI (1000 * k))).toInt = -(1000 * (k : Int)) := by
    have : ∀ j : Fin 6, (-(nI (1000 * j.val))).toInt = -(1000 * (j.val : Int)) := by decide
    exact this ⟨k, by omega⟩
  unfold flt
  rw [e, Int32.toInt_sub, e2, nI_toInt (by omega)]
  simp [Int.bmod]; omega
theorem flt_ne {k : Nat} (hk : k ≤ 5) (hk1 : 1 ≤ k) (hp : p ≤ 220) : ¬ flt (nI k) p = 0 := by
  intro h
  have := flt_toInt hk hp
  rw [h] at this
  simp only [tIall] at this
  omega
theorem flt_neg {k : Nat} (hk : k ≤ 5) (hk1 : 1 ≤ k) (hp : p ≤ 220) : (flt (nI k) p).toInt < 0 := by
  rw [flt_toInt hk hp]; omega
theorem neg_ne {F : Int32} (h : F.toInt < 0) : ¬ F = 0 := by
  intro h2
  rw [h2] at h
  simp only [tIall] at h
  omega
end TXT
/-! what a pattern says: the lengths as bits, or a fault -/
abbrev RSp : Type := Int32 ⊕ (Int32 × Nat)
def rsb (r : RSp) (k : Int32 → Nat → RSp) : RSp := match r with
  | .inl F => .inl F
  | .inr x => k x.1 x.2
theorem rsb_l (F : Int32) (k : Int32 → Nat → RSp) : rsb (.inl F) k = .inl F := rfl
theorem rsb_r (b : Int32) (q : Nat) (k : Int32 → Nat → RSp) : rsb (.inr (b, q)) k = k b q := rfl
def wrd (s : Int32) : Bool := decide (97 ≤ s.toInt ∧ s.toInt ≤ 122)
def bgI (s : Int32) : Bool := wrd s || decide (s = 40) || decide (s = 91)
section SPEC
variable (ty : Nat → Int32) (n : Nat)
def tmS (b : Int32) (p : Nat) : Int32 × Nat := if sg ty n p = 43 then (plJ b 23, p + 1) else if 50 ≤ (sg ty n p).toInt ∧ (sg ty n p).toInt ≤ 57 then (rpJ b ((sg ty n p).toNatClampNeg - 49), p + 1) else (b, p)
def itS (rec : Nat → Nat → RSp) (o p : Nat) : RSp :=
  if wrd (sg ty n p) = true then .inr (tmS ty n 2 (p + 1))
  else if sg ty n p = 40 ∨ sg ty n p = 91 then
    (if o < 6 then rsb (rec (o + 1) (p + 1)) (fun b q => if sg ty n q = (if sg ty n p = 40 then 41 else 93) then .inr (tmS ty n (if sg ty n p = 91 then b ||| 1 else b) (q + 1)) else .inl (flt 1 q)) else .inl (flt 5 p))
  else .inl (flt 1 p)
def waS (rec : Nat → Nat → RSp) (o : Nat) : Nat → Int32 → Nat → RSp
  | 0, _, _ => .inl 0
  | f + 1, acc, p => if bgI (sg ty n p) = true then rsb (itS ty n rec o p) (fun b q => waS rec o f (jn acc b) q) else .inr (acc, p)
def wyS (rec : Nat → Nat → RSp) (o p : Nat) : RSp := rsb (itS ty n rec o p) (fun b q => waS ty n rec o 300 b q)
def wvS (rec : Nat → Nat → RSp) (o : Nat) : Nat → Int32 → Nat → RSp
  | 0, _, _ => .inl 0
  | f + 1, acc, p => if sg ty n p = 124 then rsb (wyS ty n rec o (p + 1)) (fun b q => wvS rec o f (acc ||| b) q) else .inr (acc, p)
def wwS (rec : Nat → Nat → RSp) (o p : Nat) : RSp := rsb (wyS ty n rec o p) (fun b q => wvS ty n rec o 300 b q)
def WS : Nat → Nat → Nat → RSp
  | 0, _, _ => .inl 0
  | f + 1, o, p => wwS ty n (WS f) o p
end SPEC
/-! the class -/
theorem isWordC (s : Int32) (h : AHp) : m_X4_isWord s h = some (if wrd s = true then 1 else 0, h) := by
  unfold m_X4_isWord wrd
  simp only [i32_lt, tIall, decide_eq_true_iff]
  repeat' split
  all_goals first | rfl | omega
theorem beginsItemC (s : Int32) (h : AHp) : m_X4_beginsItem s h = some (if bgI s = true then 1 else 0, h) := by
  unfold m_X4_beginsItem bgI
  rw [isWordC, bd_some]
  cases wrd s with
  | true => rw [i01_t, if_neg one_ne]; rfl
  | false =>
    rw [i01_f, if_pos rfl]
    by_cases h1 : s = 40
    · rw [if_pos h1, decide_eq_true h1]; rfl
    · rw [if_neg h1, decide_eq_false h1]
      by_cases h2 : s = 91
      · rw [if_pos h2, decide_eq_true h2]; rfl
      · rw [if_neg h2, decide_eq_false h2]; rfl
theorem times26 (b : Int32) (h : AHp) : ∀ (d i f : Nat), i + d = 24 → 1 ≤ i → d < f → m_X4_readTimes_26 f b (plJ b (i - 1)) (nI i) h = some (plJ b 23, h) := by
  intro d
  induction d with
  | zero =>
    intro i f hi h1 hf
    obtain ⟨f, rfl⟩ : ∃ a, f = a + 1 := ⟨f - 1, by omega⟩
    have : i = 24 := by omega
    subst this
    rw [m_X4_readTimes_26, if_pos (by decide)]
  | succ d ih =>
    intro i f hi h1 hf
    obtain ⟨f, rfl⟩ : ∃ a, f = a + 1 := ⟨f - 1, by omega⟩
    rw [m_X4_readTimes_26, if_neg (show ¬ 24 ≤ nI i from nI_ge (a := i) (b := 24) (by omega) (by omega)), joinedC, bd_some, lt_eq, lt_eq, nI_1]
    have := ih (i + 1) f (by omega) (by omega) (by omega)
    rw [show i + 1 - 1 = (i - 1) + 1 by omega] at this
    exact this
theorem times74 (b : Int32) (h : AHp) {c : Nat} (hc : c ≤ 57) : ∀ (d i f : Nat), i + d = c → 49 ≤ i → d < f → m_X4_readTimes_74 f b (nI c) (rpJ b (i - 49)) (nI i) h = some (rpJ b (c - 49), h) := by
  intro d
  induction d with
  | zero =>
    intro i f hi h1 hf
    obtain ⟨f, rfl⟩ : ∃ a, f = a + 1 := ⟨f - 1, by omega⟩
    have : i = c := by omega
    subst this
    rw [m_X4_readTimes_74, if_pos (nI_le (by omega) (by omega))]
  | succ d ih =>
    intro i f hi h1 hf
    obtain ⟨f, rfl⟩ : ∃ a, f = a + 1 := ⟨f - 1, by omega⟩
    rw [m_X4_readTimes_74, if_neg (nI_ge (by omega) (by omega)), joinedC, bd_some, lt_eq, nI_1]
    have := ih (i + 1) f (by omega) (by omega) (by omega)
    rw [show i + 1 - 49 = (i - 49) + 1 by omega] at this
    exact this
section PC1
variable {ty : Nat → Int32} {n p : Nat} {g : AHp}
theorem timesC (x : TxC ty n p g) (b : Int32) : ∃ g1, m_X4_readTimes b g = some ((tmS ty n b p).1, g1) ∧ TxC ty n (tmS ty n b p).2 g1 ∧ p ≤ (tmS ty n b p).2 ∧ Ch Pt g g1 := by
  unfold m_X4_readTimes tmS
  rw [signC x, bd_some]
  by_cases h : sg ty n p = 43
  · obtain ⟨g1, e1, x1, c1⟩ := stepC x (sg_lt (by rw [h]; decide))
    rw [if_pos h, if_pos h, e1, bd_some]
    exact ⟨g1, times26 b g1 23 1 FU (by omega) (by omega) (by unfold FU; omega), x1, by simp only []; omega, c1⟩
  · rw [if_neg h, if_neg h]
    by_cases h2 : 50 ≤ (sg ty n p).toInt ∧ (sg ty n p).toInt ≤ 57
    · obtain ⟨c, ec, hc1, hc2⟩ := nat_in (x := sg ty n p) (lo := 50) (hi := 57) h2
      obtain ⟨g1, e1, x1, c1⟩ := stepC x (sg_lt (by intro h3; rw [h3] at h2; simp only [tIall] at h2; omega))
      rw [if_neg (by rw [i32_lt]; simp only [tIall]; omega), if_neg (by rw [i32_lt]; simp only [tIall]; omega), if_pos h2, e1, bd_some, ec, nI_clamp (by omega)]
      exact ⟨g1, times74 b g1 hc2 (c - 49) 49 FU (by omega) (by omega) (by unfold FU; omega), x1, by simp only []; omega, c1⟩
    · rw [if_neg h2]
      refine ⟨g, ?_, x, Nat.le_refl _, Ch.rf⟩
      by_cases h3 : sg ty n p < 50
      · rw [if_pos h3]
      · rw [if_neg h3, if_pos]
        rw [i32_lt] at h3 ⊢
        simp only [tIall] at h3 ⊢
        omega
theorem timesX {F : Int32} (x : hI g 1 4 = F) (hF : ¬ F = 0) (b : Int32) : m_X4_readTimes b g = some (b, g) := by
  unfold m_X4_readTimes
  rw [signX x hF, bd_some, if_neg (by decide), if_pos (by decide)]
end PC1
/-- what a reading of the class came to -/
def OutC (ty : Nat → Int32) (n p : Nat) (r : RSp) (v : Int32) (g : AHp) : Prop := match r with
  | .inl F => hI g 1 4 = F ∧ F.toInt < 0
  | .inr x => v = x.1 ∧ TxC ty n x.2 g ∧ p < x.2
def RecC (ty : Nat → Int32) (n : Nat) (rec : Int32 → AHp → Option (Int32 × AHp)) (srec : Nat → Nat → RSp) (o : Nat) : Prop := ∀ p g, TxC ty n p g → ∃ v g1, rec (nI o) g = some (v, g1) ∧ Ch Pt g g1 ∧ OutC ty n p (srec o p) v g1
section PC2
variable {ty : Nat → Int32} {n : Nat} {rec : Int32 → AHp → Option (Int32 × AHp)} {srec : Nat → Nat → RSp} {o : Nat}
theorem itemC (ho : o ≤ 6) (hr : o < 6 → RecC ty n rec srec (o + 1)) {p : Nat} {g : AHp} (x : TxC ty n p g) : ∃ v g1, m_X4_readItem_b rec (nI o) g = some (v, g1) ∧ Ch Pt g g1 ∧ OutC ty n p (itS ty n srec o p) v g1 := by
  have hn := x.2.1
  unfold m_X4_readItem_b itS
  rw [signC x, bd_some, beginsItemC, bd_some]
  unfold bgI
  cases hw : wrd (sg ty n p) with
  | true =>
    have hp : p < n := sg_lt (fun h => by rw [h] at hw; revert hw; decide)
    obtain ⟨g1, e1, x1, c1⟩ := stepC x hp
    obtain ⟨g2, e2, x2, l2, c2⟩ := timesC x1 2
    rw [Bool.true_or, Bool.true_or, i01_t, if_neg one_ne, isWordC, bd_some, hw, i01_t, if_neg one_ne, e1, bd_some, e2, bd_some, if_pos rfl]
    exact ⟨_, g2, rfl, c1.trans c2, rfl, x2, by omega⟩
  | false =>
    rw [if_neg (show ¬ (false = true) by decide), Bool.false_or]
    by_cases hs : sg ty n p = 40 ∨ sg ty n p = 91
    · have hb : (decide (sg ty n p = 40) || decide (sg ty n p = 91)) = true := by
        rw [Bool.or_eq_true, decide_eq_true_iff, decide_eq_true_iff]; exact hs
      have hp : p < n := sg_lt (fun h => by rw [h] at hs; revert hs; decide)
      rw [hb, i01_t, if_neg one_ne, isWordC, bd_some, hw, i01_f, if_pos rfl, if_pos hs]
      by_cases ho6 : o < 6
      · rw [if_pos (show nI o < 6 from nI_lt (a := o) (b := 6) ho6 (by omega)), if_pos ho6]
        obtain ⟨g1, e1, x1, c1⟩ := stepC x hp
        obtain ⟨v, g2, e2, c2, r2⟩ := hr ho6 (p + 1) g1 x1
        rw [e1, bd_some, nI_1, e2, bd_some]
        -- behind the inner ways, with the sign that is due
        have key : ∀ k : Int32, ¬ k = -1 → (sg ty n p = 40 ∧ k = 41 ∨ sg ty n p = 91 ∧ k = 93) → ∃ v1 g3, m_X4_readItem_b_82 rec (sg ty n p) v k g2 = some (v1, g3) ∧ Ch Pt g g3 ∧ OutC ty n p (rsb (srec (o + 1) (p + 1)) (fun b q => if sg ty n q = k then .inr (tmS ty n (if sg ty n p = 91 then b ||| 1 else b) (q + 1)) else .inl (flt 1 q))) v1 g3 := by
          intro k hk hk2
          unfold m_X4_readItem_b_82
          cases hrs : srec (o + 1) (p + 1) with
          | inl F =>
            rw [hrs] at r2
            obtain ⟨r3, r4⟩ := r2
            rw [expectX r3 (neg_ne r4) (fun h => hk h.symm), bd_some, rsb_l, lt_eq, timesX r3 (neg_ne r4), timesX r3 (neg_ne r4), bd_some, bd_some]
            by_cases h91 : sg ty n p = 91
            · rw [if_pos h91]; exact ⟨_, g2, rfl, c1.trans c2, r3, r4⟩
            · rw [if_neg h91]; exact ⟨_, g2, rfl, c1.trans c2, r3, r4⟩
          | inr y =>
            obtain ⟨b, q⟩ := y
            rw [hrs] at r2
            obtain ⟨r3, r4, r5⟩ := r2
            simp only [] at r3 r4 r5
            have hq := r4.2.1
            obtain ⟨g3, e3, c3, r6⟩ := expectC r4 hk
            rw [e3, bd_some, rsb_r]
            rcases r6 with ⟨h1, h2, h3⟩ | ⟨h1, h2⟩
            · rw [if_pos h1, r3]
              by_cases h91 : sg ty n p = 91
              · obtain ⟨g4, e4, x4, l4, c4⟩ := timesC h3 (b ||| 1)
                rw [if_pos h91, if_pos h91, lt_eq, e4, bd_some]
                exact ⟨_, g4, rfl, ((c1.trans c2).trans c3).trans c4, rfl, x4, by omega⟩
              · obtain ⟨g4, e4, x4, l4, c4⟩ := timesC h3 b
                rw [if_neg h91, if_neg h91, e4, bd_some]
                exact ⟨_, g4, rfl, ((c1.trans c2).trans c3).trans c4, rfl, x4, by omega⟩
            · have hne : (flt 1 q).toInt < 0 := flt_neg (k := 1) (by omega) (by omega) (by omega)
              rw [if_neg h1, lt_eq, timesX h2 (neg_ne hne), timesX h2 (neg_ne hne), bd_some, bd_some]
              by_cases h91 : sg ty n p = 91
              · rw [if_pos h91]; exact ⟨_, g3, rfl, (c1.trans c2).trans c3, h2, hne⟩
              · rw [if_neg h91]; exact ⟨_, g3, rfl, (c1.trans c2).trans c3, h2, hne⟩
        by_cases h40 : sg ty n p = 40
        · have := key 41 (by decide) (Or.inl ⟨h40, rfl⟩)
          simp only [if_pos h40]
          exact this
        · have := key 93 (by decide) (Or.inr ⟨hs.resolve_left h40, rfl⟩)
          simp only [if_neg h40]
          exact this
      · rw [if_neg (show ¬ nI o < 6 from nI_nlt (a := o) (b := 6) (by omega) (by omega)), if_neg ho6]
        obtain ⟨g1, e1, x1, c1⟩ := failC x 5
        rw [e1, bd_some]
        exact ⟨_, g1, rfl, c1, x1, flt_neg (k := 5) (by omega) (by omega) (by omega)⟩
    · have hb : (decide (sg ty n p = 40) || decide (sg ty n p = 91)) = false := by
        rw [Bool.or_eq_false_iff, decide_eq_false_iff_not, decide_eq_false_iff_not]; exact not_or.mp hs
      obtain ⟨g1, e1, x1, c1⟩ := failC x 1
      rw [hb, i01_f, if_pos rfl, if_neg hs, e1, bd_some]
      exact ⟨_, g1, rfl, c1, x1, flt_neg (k := 1) (by omega) (by omega) (by omega)⟩
theorem wayLC (hn : n ≤ 60) (ho : o ≤ 6) (hr : o < 6 → RecC ty n rec srec (o + 1)) : ∀ (sf f i p : Nat) (acc : Int32) (g : AHp), TxC ty n p g → n - p < sf → n - p < f → i < p →
    ∃ v g1, m_X4_readWay_b_8 rec f (nI o) acc (nI i) g = some (v, g1) ∧ Ch Pt g g1 ∧ (match waS ty n srec o sf acc p with
      | .inl F => hI g1 1 4 = F ∧ F.toInt < 0
      | .inr y => v = y.1 ∧ TxC ty n y.2 g1 ∧ p ≤ y.2) := by
  intro sf
  induction sf with
  | zero => intro f i p acc g x h; omega
  | succ sf ih =>
    intro f i p acc g x hsf hf hi
    obtain ⟨f, rfl⟩ : ∃ a, f = a + 1 := ⟨f - 1, by omega⟩
    have hpn := x.2.1
    rw [m_X4_readWay_b_8, if_neg (show ¬ 60 ≤ nI i from nI_ge (a := i) (b := 60) (by omega) (by omega)), signC x, bd_some, beginsItemC, bd_some, waS]
    cases hb : bgI (sg ty n p) with
    | false =>
      rw [i01_f, if_pos rfl, if_neg (show ¬ (false = true) by decide)]
      exact ⟨acc, g, rfl, Ch.rf, rfl, x, Nat.le_refl _⟩
    | true =>
      rw [i01_t, if_neg one_ne, if_pos rfl]
      obtain ⟨v, g1, e1, c1, r1⟩ := itemC ho hr x
      rw [e1, bd_some, joinedC, bd_some, lt_eq, nI_1]
      cases hrs : itS ty n srec o p with
      | inl F =>
        rw [hrs] at r1
        obtain ⟨r3, r4⟩ := r1
        rw [rsb_l]
        by_cases h60 : i + 1 < 60
        · obtain ⟨f, rfl⟩ : ∃ a, f = a + 1 := ⟨f - 1, by have : p < n := sg_lt (fun h => by rw [h] at hb; revert hb; decide); omega⟩
          rw [m_X4_readWay_b_8, if_neg (show ¬ 60 ≤ nI (i + 1) from nI_ge (a := i + 1) (b := 60) (by omega) (by omega)), signX r3 (neg_ne r4), bd_some, beginsItemC, bd_some, show bgI (-1) = false by decide, i01_f, if_pos rfl]
          exact ⟨_, g1, rfl, c1, r3, r4⟩
        · obtain ⟨f, rfl⟩ : ∃ a, f = a + 1 := ⟨f - 1, by have : p < n := sg_lt (fun h => by rw [h] at hb; revert hb; decide); omega⟩
          rw [m_X4_readWay_b_8, if_pos (show 60 ≤ nI (i + 1) from nI_le (a := 60) (b := i + 1) (by omega) (by omega))]
          exact ⟨_, g1, rfl, c1, r3, r4⟩
      | inr y =>
        obtain ⟨b, q⟩ := y
        rw [hrs] at r1
        obtain ⟨r3, r4, r5⟩ := r1
        simp only [] at r3 r4 r5
        have hq := r4.2.1
        rw [rsb_r, r3]
        obtain ⟨v2, g2, e2, c2, r2⟩ := ih f (i + 1) q (jn acc b) g1 r4 (by omega) (by omega) (by omega)
        refine ⟨v2, g2, e2, c1.trans c2, ?_⟩
        cases hrs2 : waS ty n srec o sf (jn acc b) q with
        | inl F => rw [hrs2] at r2; exact r2
        | inr y => rw [hrs2] at r2; exact ⟨r2.1, r2.2.1, by have := r2.2.2; omega⟩
theorem wayC (hn : n ≤ 60) (ho : o ≤ 6) (hr : o < 6 → RecC ty n rec srec (o + 1)) {p : Nat} {g : AHp} (x : TxC ty n p g) : ∃ v g1, m_X4_readWay_b rec (nI o) g = some (v, g1) ∧ Ch Pt g g1 ∧ OutC ty n p (wyS ty n srec o p) v g1 := by
  unfold m_X4_readWay_b wyS
  obtain ⟨v, g1, e1, c1, r1⟩ := itemC ho hr x
  rw [e1, bd_some]
  cases hrs : itS ty n srec o p with
  | inl F =>
    rw [hrs] at r1
    obtain ⟨r3, r4⟩ := r1
    obtain ⟨fu, hfu⟩ := FU_s
    rw [rsb_l, hfu, m_X4_readWay_b_8, if_neg (by decide), signX r3 (neg_ne r4), bd_some, beginsItemC, bd_some, show bgI (-1) = false by decide, i01_f, if_pos rfl]
    exact ⟨_, g1, rfl, c1, r3, r4⟩
  | inr y =>
    obtain ⟨b, q⟩ := y
    rw [hrs] at r1
    obtain ⟨r3, r4, r5⟩ := r1
    simp only [] at r3 r4 r5
    rw [rsb_r, r3]
    obtain ⟨v2, g2, e2, c2, r2⟩ := wayLC hn ho hr 300 FU 0 q b g1 r4 (by omega) (by unfold FU; omega) (by omega)
    refine ⟨v2, g2, e2, c1.trans c2, ?_⟩
    cases hrs2 : waS ty n srec o 300 b q with
    | inl F => rw [hrs2] at r2; exact r2
    | inr y => rw [hrs2] at r2; exact ⟨r2.1, r2.2.1, by have := r2.2.2; omega⟩
theorem waysLC (hn : n ≤ 60) (ho : o ≤ 6) (hr : o < 6 → RecC ty n rec srec (o + 1)) : ∀ (sf f i p : Nat) (acc : Int32) (g : AHp), TxC ty n p g → n - p < sf → n - p + 1 < f → i < p →
    ∃ v g1, m_X4_readWays_b_8 rec f (nI o) acc (nI i) g = some (v, g1) ∧ Ch Pt g g1 ∧ (match wvS ty n srec o sf acc p with
      | .inl F => hI g1 1 4 = F ∧ F.toInt < 0
      | .inr y => v = y.1 ∧ TxC ty n y.2 g1 ∧ p ≤ y.2) := by
  intro sf
  induction sf with
  | zero => intro f i p acc g x h; omega
  | succ sf ih =>
    intro f i p acc g x hsf hf hi
    obtain ⟨f, rfl⟩ : ∃ a, f = a + 1 := ⟨f - 1, by omega⟩
    have hpn := x.2.1
    obtain ⟨g1, c1, r1⟩ := takesC x (k := 124) (by decide)
    rw [m_X4_readWays_b_8, if_neg (show ¬ 60 ≤ nI i from nI_ge (a := i) (b := 60) (by omega) (by omega)), wvS]
    rcases r1 with ⟨h1, h2, h3, e1⟩ | ⟨h1, h2, e1⟩
    · rw [e1, bd_some, if_neg one_ne, if_pos h1]
      obtain ⟨v, g2, e2, c2, r2⟩ := wayC hn ho hr h3
      rw [e2, bd_some, lt_eq, lt_eq, nI_1]
      obtain ⟨f, rfl⟩ : ∃ a, f = a + 1 := ⟨f - 1, by omega⟩
      cases hrs : wyS ty n srec o (p + 1) with
      | inl F =>
        rw [hrs] at r2
        obtain ⟨r3, r4⟩ := r2
        rw [rsb_l]
        by_cases h60 : i + 1 < 60
        · rw [m_X4_readWays_b_8, if_neg (show ¬ 60 ≤ nI (i + 1) from nI_ge (a := i + 1) (b := 60) (by omega) (by omega)), takesX r3 (neg_ne r4) (by decide), bd_some, if_pos rfl]
          exact ⟨_, g2, rfl, c1.trans c2, r3, r4⟩
        · rw [m_X4_readWays_b_8, if_pos (show 60 ≤ nI (i + 1) from nI_le (a := 60) (b := i + 1) (by omega) (by omega))]
          exact ⟨_, g2, rfl, c1.trans c2, r3, r4⟩
      | inr y =>
        obtain ⟨b, q⟩ := y
        rw [hrs] at r2
        obtain ⟨r3, r4, r5⟩ := r2
        simp only [] at r3 r4 r5
        have hq := r4.2.1
        rw [rsb_r, r3]
        obtain ⟨v2, g3, e3, c3, r6⟩ := ih (f + 1) (i + 1) q (acc ||| b) g2 r4 (by omega) (by omega) (by omega)
        refine ⟨v2, g3, e3, (c1.trans c2).trans c3, ?_⟩
        cases hrs2 : wvS ty n srec o sf (acc ||| b) q with
        | inl F => rw [hrs2] at r6; exact r6
        | inr y => rw [hrs2] at r6; exact ⟨r6.1, r6.2.1, by have := r6.2.2; omega⟩
    · subst h2
      rw [e1, bd_some, if_pos rfl, if_neg h1]
      exact ⟨acc, g1, rfl, c1, rfl, x, Nat.le_refl _⟩
theorem waysC (hn : n ≤ 60) (ho : o ≤ 6) (hr : o < 6 → RecC ty n rec srec (o + 1)) {p : Nat} {g : AHp} (x : TxC ty n p g) : ∃ v g1, m_X4_readWays_b rec (nI o) g = some (v, g1) ∧ Ch Pt g g1 ∧ OutC ty n p (wwS ty n srec o p) v g1 := by
  unfold m_X4_readWays_b wwS
  obtain ⟨v, g1, e1, c1, r1⟩ := wayC hn ho hr x
  rw [e1, bd_some]
  cases hrs : wyS ty n srec o p with
  | inl F =>
    rw [hrs] at r1
    obtain ⟨r3, r4⟩ := r1
    obtain ⟨fu, hfu⟩ := FU_s
    rw [rsb_l, hfu, m_X4_readWays_b_8, if_neg (by decide), takesX r3 (neg_ne r4) (by decide), bd_some, if_pos rfl]
    exact ⟨_, g1, rfl, c1, r3, r4⟩
  | inr y =>
    obtain ⟨b, q⟩ := y
    rw [hrs] at r1
    obtain ⟨r3, r4, r5⟩ := r1
    simp only [] at r3 r4 r5
    rw [rsb_r, r3]
    obtain ⟨v2, g2, e2, c2, r2⟩ := waysLC hn ho hr 300 FU 0 q b g1 r4 (by omega) (by unfold FU; omega) (by omega)
    refine ⟨v2, g2, e2, c1.trans c2, ?_⟩
    cases hrs2 : wvS ty n srec o 300 b q with
    | inl F => rw [hrs2] at r2; exact r2
    | inr y => rw [hrs2] at r2; exact ⟨r2.1, r2.2.1, by have := r2.2.2; omega⟩
end PC2
theorem readWaysC {ty : Nat → Int32} {n : Nat} (hn : n ≤ 60) : ∀ (f o : Nat), o ≤ 6 → 7 ≤ f + o → RecC ty n (m_X4_readWays f) (WS ty n f) o := by
  intro f
  induction f with
  | zero => intro o h1 h2; omega
  | succ f ih =>
    intro o h1 h2 p g x
    rw [m_X4_readWays, WS]
    exact waysC hn h1 (fun h => ih (o + 1) (by omega) (by omega)) x
