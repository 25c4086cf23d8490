/-! the reference reads a law -/
def RLx (ty : Nat → Int32) (n p cs st op : Nat) (g : AHp) : Prop := (hI g 70 4 = nI p ∧ hI g 70 5 = nI n ∧ hI g 70 6 = 0) ∧ (hI g 70 8 = nI cs ∧ hI g 70 10 = nI st ∧ hI g 70 9 = nI op) ∧ (p ≤ n ∧ n ≤ 200 ∧ cs + st ≤ p ∧ op ≤ 6) ∧ ∀ i, i < n → hI g 71 i &&& 255 = ty i
abbrev PLm : Nat → Nat → Bool := fun k i => (k == 70 && (i == 4 || i == 6 || i == 8 || i == 9 || i == 10 || i == 31)) || k == 88 || k == 89 || k == 90
abbrev PLn : Nat → Nat → Bool := fun k i => (k == 70 && (i == 4 || i == 6 || i == 8 || i == 9 || i == 10)) || k == 88 || k == 89 || k == 90
theorem pln_m {g g1 : AHp} (c : Ch PLn g g1) : Ch PLm g g1 := c.mono (fun k i hp => by
  simp only [Bool.or_eq_false_iff, Bool.and_eq_false_iff, beq_eq_false_iff_ne] at hp ⊢; omega)
/-- what was there stays -/
def KpP (P : Nat → Nat → Bool) (cs st : Nat) (g g1 : AHp) : Prop := Ch P g g1 ∧ (∀ k, k < cs → hI g1 88 k = hI g 88 k ∧ hI g1 89 k = hI g 89 k) ∧ ∀ k, k < st → hI g1 90 k = hI g 90 k
abbrev Kp : Nat → Nat → AHp → AHp → Prop := KpP PLm
abbrev Kn : Nat → Nat → AHp → AHp → Prop := KpP PLn
theorem KpP.m {cs st : Nat} {g g1 : AHp} (x : Kn cs st g g1) : Kp cs st g g1 := ⟨pln_m x.1, x.2⟩
theorem KpP.rf {P : Nat → Nat → Bool} {cs st : Nat} {g : AHp} : KpP P cs st g g := ⟨Ch.rf, fun _ _ => ⟨rfl, rfl⟩, fun _ _ => rfl⟩
theorem KpP.trans {P : Nat → Nat → Bool} {cs st cs2 st2 : Nat} {g g1 g2 : AHp} (x : KpP P cs st g g1) (y : KpP P cs2 st2 g1 g2) (h1 : cs ≤ cs2) (h2 : st ≤ st2) : KpP P cs st g g2 :=
  ⟨x.1.trans y.1, fun k hk => ⟨((y.2.1 k (by omega)).1).trans (x.2.1 k hk).1, ((y.2.1 k (by omega)).2).trans (x.2.1 k hk).2⟩, fun k hk => (y.2.2 k (by omega)).trans (x.2.2 k hk)⟩
theorem KpP.low {P : Nat → Nat → Bool} {cs st cs2 st2 : Nat} {g g1 : AHp} (x : KpP P cs st g g1) (h1 : cs2 ≤ cs) (h2 : st2 ≤ st) : KpP P cs2 st2 g g1 := ⟨x.1, fun k hk => x.2.1 k (by omega), fun k hk => x.2.2 k (by omega)⟩
/-- the codes of the law that is read -/
abbrev RnM (g : AHp) (a b : Nat) (D : Dmn) : Prop := RunM (hI g 88) (hI g 89) a b D
theorem RnM.kp {P : Nat → Nat → Bool} {g g1 : AHp} {a b cs st : Nat} {D : Dmn} (x : RnM g a b D) (k : KpP P cs st g g1) (h : b ≤ cs) : RnM g1 a b D := RunM.ext x (fun i _ u => k.2.1 i (by omega))
section RL
variable {ty : Nat → Int32} {n p cs st op : Nat} {g : AHp}
theorem hereL (x : RLx ty n p cs st op g) : m_X12_here g = some (sz ty n p, g) := by
  obtain ⟨⟨x1, x2, x3⟩, _, ⟨x5, x6, _⟩, x7⟩ := x
  unfold m_X12_here sz
  rw [x1, x2]
  by_cases h : p < n
  · rw [if_neg (nI_ge h (by omega)), gd_pos (inb_nI (by omega) (by omega)), nI_clamp (by omega), if_pos h, x7 p h]
  · rw [if_pos (nI_le (by omega) (by omega)), if_neg h]
theorem sz_sg {c : Int32} (h1 : ¬ c = -1) (h0 : ¬ c = 0) : sz ty n p = c ↔ sg ty n p = c := by
  unfold sz sg
  by_cases h : p < n
  · rw [if_pos h, if_pos h]
  · rw [if_neg h, if_neg h]
    exact ⟨fun e => absurd e.symm h0, fun e => absurd e.symm h1⟩
theorem sz_dgt : dgt (sz ty n p) = dgt (sg ty n p) := by
  by_cases h : p < n
  · rw [sg_sz h]
  · unfold sz sg
    rw [if_neg h, if_neg h]; decide
theorem sz_T : isT (sz ty n p) = isT (sg ty n p) := by
  by_cases h : p < n
  · rw [sg_sz h]
  · unfold sz sg
    rw [if_neg h, if_neg h]; decide
theorem sz_P : isP (sz ty n p) = isP (sg ty n p) := by
  by_cases h : p < n
  · rw [sg_sz h]
  · unfold sz sg
    rw [if_neg h, if_neg h]; decide
theorem sz_C : isC (sz ty n p) = isC (sg ty n p) := by
  by_cases h : p < n
  · rw [sg_sz h]
  · unfold sz sg
    rw [if_neg h, if_neg h]; decide
theorem sz_l : lix (sz ty n p) = lix (sg ty n p) := by
  by_cases h : p < n
  · rw [sg_sz h]
  · unfold sz sg
    rw [if_neg h, if_neg h]; decide
theorem digitM (x : RLx ty n p cs st op g) : m_X12_seesDigit g = some (if dgt (sg ty n p) = true then 1 else 0, g) := by
  unfold m_X12_seesDigit
  rw [hereL x, bd_some, liesI, bd_some, gd_pos (b2i_01 _), ← sz_dgt]
  unfold dgt
  by_cases h : 48 ≤ (sz ty n p).toInt ∧ (sz ty n p).toInt ≤ 57
  · rw [b2i_t (by exact h), if_pos (decide_eq_true h)]
  · rw [b2i_f (by exact h), if_neg (by rw [decide_eq_false h]; decide)]
theorem isTimesM (s : Int32) (h : AHp) : m_X12_isTimes s h = some (if isT s = true then 1 else 0, h) := by
  unfold m_X12_isTimes isT
  by_cases h1 : s = 42
  · rw [if_pos h1, decide_eq_true h1]; rfl
  rw [if_neg h1, decide_eq_false h1]
  by_cases h2 : s = 47
  · rw [if_pos h2, decide_eq_true h2]; rfl
  rw [if_neg h2, decide_eq_false h2]
  by_cases h3 : s = 37
  · rw [if_pos h3, decide_eq_true h3]; rfl
  rw [if_neg h3, decide_eq_false h3]; rfl
theorem isPlusM (s : Int32) (h : AHp) : m_X12_isPlus s h = some (if isP s = true then 1 else 0, h) := by
  unfold m_X12_isPlus isP
  by_cases h1 : s = 43
  · rw [if_pos h1, decide_eq_true h1]; rfl
  rw [if_neg h1, decide_eq_false h1]
  by_cases h2 : s = 45
  · rw [if_pos h2, decide_eq_true h2]; rfl
  rw [if_neg h2, decide_eq_false h2]; rfl
theorem isSignM (s : Int32) (h : AHp) : m_X12_isSign s h = some (if isC s = true then 1 else 0, h) := by
  unfold m_X12_isSign isC
  by_cases h1 : s = 60
  · rw [if_pos h1, decide_eq_true h1]; rfl
  rw [if_neg h1, decide_eq_false h1]
  by_cases h2 : s = 62
  · rw [if_pos h2, decide_eq_true h2]; rfl
  rw [if_neg h2, decide_eq_false h2]
  by_cases h3 : s = 61
  · rw [if_pos h3, decide_eq_true h3]; rfl
  rw [if_neg h3, decide_eq_false h3]; rfl
theorem isValueM (s : Int32) (h : AHp) : m_X12_isValue s h = some (if lix s < 9 then 1 else 0, h) := by
  unfold m_X12_isValue lix
  by_cases h0 : s = 108
  · rw [if_pos h0, if_pos h0]; rfl
  rw [if_neg h0, if_neg h0]
  by_cases h1 : s = 116
  · rw [if_pos h1, if_pos h1]; rfl
  rw [if_neg h1, if_neg h1]
  by_cases h2 : s = 115
  · rw [if_pos h2, if_pos h2]; rfl
  rw [if_neg h2, if_neg h2]
  by_cases h3 : s = 99
  · rw [if_pos h3, if_pos h3]; rfl
  rw [if_neg h3, if_neg h3]
  by_cases h4 : s = 97
  · rw [if_pos h4, if_pos h4]; rfl
  rw [if_neg h4, if_neg h4]
  by_cases h5 : s = 98
  · rw [if_pos h5, if_pos h5]; rfl
  rw [if_neg h5, if_neg h5]
  by_cases h6 : s = 114
  · rw [if_pos h6, if_pos h6]; rfl
  rw [if_neg h6, if_neg h6]
  by_cases h7 : s = 100
  · rw [if_pos h7, if_pos h7]; rfl
  rw [if_neg h7, if_neg h7]
  by_cases h8 : s = 107
  · rw [if_pos h8, if_pos h8]; rfl
  rw [if_neg h8, if_neg h8]; rfl
theorem topM (x : RLx ty n p cs st op g) : m_X12_top g = some (if 0 < st then hI g 90 (st - 1) else 0, g) := by
  have hb := x.2.2.1
  unfold m_X12_top
  rw [x.2.1.2.1]
  by_cases h : 0 < st
  · have e1 : nI st - 1 = nI (st - 1) := pk_sub (a := st) (b := 1) (by omega)
    rw [if_neg (nI_nle h (by omega)), e1, gd_pos (inb_nI (by omega) (by omega)), nI_clamp (by omega), if_pos h]
  · rw [if_pos (by rw [show st = 0 by omega]; decide), if_neg h]
/-- a code is written -/
theorem emitL (x : RLx ty n p cs st op g) (hc : cs < 200) (c w : Int32) : ∃ g1, m_X12_emit c w g = some ((), g1) ∧ hI g1 70 8 = nI (cs + 1) ∧ hI g1 88 cs = c ∧ hI g1 89 cs = w ∧ Ch (fun k i => (k == 70 && i == 8) || ((k == 88 || k == 89) && i == cs)) g g1 := by
  have gi : inb (nI cs) 200 := inb_nI hc (by omega)
  have ec : (nI cs).toNatClampNeg = cs := nI_clamp (by omega)
  refine ⟨sI (sI (sI g 88 cs c) 89 cs w) 70 8 (nI (cs + 1)), ?_, by rw [hI_sI, if_pos ⟨rfl, rfl⟩], by rw [hI_sI, if_neg (by omega), hI_sI, if_neg (by omega), hI_sI, if_pos ⟨rfl, rfl⟩], by rw [hI_sI, if_neg (by omega), hI_sI, if_pos ⟨rfl, rfl⟩], ((Ch.rf.sI (by simp)).sI (by simp)).sI (by simp)⟩
  unfold m_X12_emit
  rw [goodM x.1.2.2, bd_some, if_neg one_ne, x.2.1.1, gd_pos gi, ec, lt_eq, hI_sI, if_neg (by omega), x.2.1.1, gd_pos gi, ec, lt_eq, hI_sI, if_neg (by omega), hI_sI, if_neg (by omega), x.2.1.1, nI_1, lt_eq]
theorem emitX2 {F : Int32} (h : hI g 70 6 = F) (hF : ¬ F = 0) (c w : Int32) : m_X12_emit c w g = some ((), g) := by
  unfold m_X12_emit
  rw [badM h hF, bd_some, if_pos rfl]
/-- one operation from the stack to the codes -/
theorem popL (x : RLx ty n p cs (st + 1) op g) {c : Int32} (hc : hI g 90 st = c) : ∃ g1, (bd (m_X12_emit c 0 g) fun _ h4 => some ((), sI h4 70 10 ((hI h4 70 10) - 1))) = some ((), g1) ∧ RLx ty n p (cs + 1) st op g1 ∧ Kn cs (st + 1) g g1 ∧ hI g1 88 cs = c := by
  have hb := x.2.2.1
  obtain ⟨g1, e1, h8, h88, h89, c1⟩ := emitL x (by omega) c 0
  have h10 : hI g1 70 10 = nI (st + 1) := by rw [c1.i (by simp)]; exact x.2.1.2.1
  rw [e1, bd_some, h10, nI_pred]
  obtain ⟨⟨x1, x2, x3⟩, ⟨x4, x5, x6⟩, x7, x8⟩ := x
  refine ⟨sI g1 70 10 (nI st), rfl, ⟨⟨?_, ?_, ?_⟩, ⟨?_, rfl, ?_⟩, ⟨by omega, by omega, by omega, by omega⟩, fun i hi => ?_⟩, ⟨(c1.mono (fun k i hp => ?_)).sI (by simp), fun k hk => ⟨?_, ?_⟩, fun k hk => ?_⟩, ?_⟩
  · rw [hI_sI, if_neg (by omega), c1.i (by simp)]; exact x1
  · rw [hI_sI, if_neg (by omega), c1.i (by simp)]; exact x2
  · rw [hI_sI, if_neg (by omega), c1.i (by simp)]; exact x3
  · rw [hI_sI, if_neg (by omega)]; exact h8
  · rw [hI_sI, if_neg (by omega), c1.i (by simp)]; exact x6
  · rw [hI_sI, if_neg (by omega), c1.i (by simp)]; exact x8 i hi
  · simp only [Bool.or_eq_false_iff, Bool.and_eq_false_iff, beq_eq_false_iff_ne] at hp ⊢; omega
  · rw [hI_sI, if_neg (by omega), c1.i (by simp; omega)]
  · rw [hI_sI, if_neg (by omega), c1.i (by simp; omega)]
  · rw [hI_sI, if_neg (by omega), c1.i (by simp)]
  · rw [hI_sI, if_neg (by omega)]; exact h88
theorem putsL (x : RLx ty n p cs st op g) (hp : p < n) (c : Int32) : ∃ g1, m_X12_puts c g = some ((), g1) ∧ RLx ty n (p + 1) cs (st + 1) op g1 ∧ Kn cs st g g1 ∧ hI g1 90 st = c := by
  have hb := x.2.2.1
  obtain ⟨⟨x1, x2, x3⟩, ⟨x4, x5, x6⟩, x7, x8⟩ := x
  have cc : Ch (fun k i => (k == 90 && i == st) || (k == 70 && (i == 10 || i == 4))) g (sI (sI (sI g 90 st c) 70 10 (nI (st + 1))) 70 4 (nI (p + 1))) := ((Ch.rf.sI (by simp)).sI (by simp)).sI (by simp)
  refine ⟨sI (sI (sI g 90 st c) 70 10 (nI (st + 1))) 70 4 (nI (p + 1)), ?_, ⟨⟨rfl, ?_, ?_⟩, ⟨?_, ?_, ?_⟩, ⟨by omega, by omega, by omega, by omega⟩, fun i hi => ?_⟩, ⟨cc.mono (fun k i hp => ?_), fun k hk => ⟨cc.i (by simp), cc.i (by simp)⟩, fun k hk => cc.i (by simp; omega)⟩, ?_⟩
  · unfold m_X12_puts
    rw [x5, gd_pos (inb_nI (by omega) (by omega)), nI_clamp (by omega), lt_eq, hI_sI, if_neg (by omega), x5, nI_1, lt_eq, hI_sI, if_neg (by omega), hI_sI, if_neg (by omega), x1, nI_1, lt_eq]
  · rw [cc.i (by simp)]; exact x2
  · rw [cc.i (by simp)]; exact x3
  · rw [cc.i (by simp)]; exact x4
  · rw [hI_sI, if_neg (by omega), hI_sI, if_pos ⟨rfl, rfl⟩]
  · rw [cc.i (by simp)]; exact x6
  · rw [cc.i (by simp)]; exact x8 i hi
  · simp only [Bool.or_eq_false_iff, Bool.and_eq_false_iff, beq_eq_false_iff_ne] at hp ⊢; omega
  · rw [hI_sI, if_neg (by omega), hI_sI, if_neg (by omega), hI_sI, if_pos ⟨rfl, rfl⟩]
theorem opensL (x : RLx ty n p cs st op g) (hp : p < n) (ho : op < 6) : ∃ g1, m_X12_opens g = some ((), g1) ∧ RLx ty n (p + 1) cs (st + 1) (op + 1) g1 ∧ Kn cs st g g1 ∧ hI g1 90 st = sg ty n p := by
  have hb := x.2.2.1
  have x0 : RLx ty n p cs st (op + 1) (sI g 70 9 (nI (op + 1))) := by
    obtain ⟨⟨x1, x2, x3⟩, ⟨x4, x5, x6⟩, x7, x8⟩ := x
    exact ⟨⟨x1, x2, x3⟩, ⟨x4, x5, rfl⟩, ⟨by omega, by omega, by omega, by omega⟩, x8⟩
  obtain ⟨g1, e1, r1, k1, h1⟩ := putsL x0 hp (sz ty n p)
  have k0 : Kn cs st g (sI g 70 9 (nI (op + 1))) := ⟨Ch.rf.sI (by simp), fun k _ => ⟨rfl, rfl⟩, fun k _ => rfl⟩
  refine ⟨g1, ?_, r1, k0.trans k1 (Nat.le_refl _) (Nat.le_refl _), by rw [h1, sg_sz hp]⟩
  unfold m_X12_opens m_X12_opens_18
  rw [x.2.1.2.2, if_neg (show ¬ nI op = 6 by rw [show (6 : Int32) = nI 6 from rfl, nI_eq (by omega) (by omega)]; omega), lt_eq, nI_1, hereL x0, bd_some, e1, bd_some]
/-- one bracket too many -/
theorem opensF (x : RLx ty n p cs st 6 g) (hp : p < n) : ∃ g1, m_X12_opens g = some ((), g1) ∧ hI g1 70 6 = flt 5 p ∧ Ch PLm g g1 := by
  have hb := x.2.2.1
  have e1 : hI (sI g 70 6 (flt 5 p)) 70 9 = nI 6 := x.2.1.2.2
  refine ⟨sI (sI (sI (sI (sI g 70 6 (flt 5 p)) 70 9 (nI 7)) 90 st (sz ty n p)) 70 10 (nI (st + 1))) 70 4 (nI (p + 1)), ?_, rfl, ((((Ch.rf.sI (by simp)).sI (by simp)).sI (by simp)).sI (by simp)).sI (by simp)⟩
  unfold m_X12_opens m_X12_opens_18
  rw [x.2.1.2.2, if_pos (by rfl), x.1.1, wrongsM x.1.2.2, bd_some, lt_eq, e1, show nI 6 + 1 = nI 7 from nI_1 6]
  have eh : m_X12_here (sI (sI g 70 6 (flt 5 p)) 70 9 (nI 7)) = some (sz ty n p, sI (sI g 70 6 (flt 5 p)) 70 9 (nI 7)) := by
    have a4 : hI (sI (sI g 70 6 (flt 5 p)) 70 9 (nI 7)) 70 4 = nI p := x.1.1
    have a5 : hI (sI (sI g 70 6 (flt 5 p)) 70 9 (nI 7)) 70 5 = nI n := x.1.2.1
    have a71 : hI (sI (sI g 70 6 (flt 5 p)) 70 9 (nI 7)) 71 p = hI g 71 p := by rw [hI_sI, if_neg (by omega), hI_sI, if_neg (by omega)]
    unfold m_X12_here sz
    rw [a4, a5, if_neg (nI_ge hp (by omega)), gd_pos (inb_nI (by omega) (by omega)), nI_clamp (by omega), if_pos hp, a71, x.2.2.2 p hp]
  rw [eh, bd_some]
  unfold m_X12_puts
  have e10 : hI (sI (sI g 70 6 (flt 5 p)) 70 9 (nI 7)) 70 10 = nI st := x.2.1.2.1
  have e4 : hI g 70 4 = nI p := x.1.1
  rw [e10, gd_pos (inb_nI (by omega) (by omega)), nI_clamp (by omega), lt_eq, hI_sI, if_neg (by omega), e10, nI_1, lt_eq, hI_sI, if_neg (by omega), hI_sI, if_neg (by omega), hI_sI, if_neg (by omega), hI_sI, if_neg (by omega), e4, nI_1, lt_eq, bd_some]
end RL
