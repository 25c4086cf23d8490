/-! THE STATE that both keep, but for the laws and the memo -/
def BT (h : AHp) : Prop := hI h 70 1 = hI h 1 1 ∧ 0 ≤ (hI h 1 1).toInt ∧ (hI h 1 1).toInt ≤ 220 ∧ ∀ i : Nat, (i : Int) < (hI h 1 1).toInt → hI h 2 i = hI h 71 i &&& 255
def BS (h : AHp) : Prop := ∀ i, i < 12 → hI h 72 i = hI h 4 i ∧ hI h 4 i &&& 33554430 = hI h 4 i
def BC (h : AHp) : Prop := ∀ i, i < 6 → hI h 91 i = hI h 5 i ∧ 0 ≤ (hI h 5 i).toInt ∧ (hI h 5 i).toInt ≤ 3
def sumW (f : Nat → Int32) : Nat → Int32
  | 0 => 0
  | n + 1 => sumW f n + f n
/-- a talk: the class's cells c.., its object o; the reference's cells m.. and the field fm of its object -/
def BTk (h : AHp) (o c fm m : Nat) : Prop := hI h 70 fm = hI h o 3 ∧ 0 ≤ (hI h o 3).toInt ∧ (hI h o 3).toInt ≤ 200 ∧ hI h o 4 = sumW (hI h (c + 2)) (hI h o 3).toNatClampNeg ∧
  ∀ i : Nat, (i : Int) < (hI h o 3).toInt → (hI h m i = hI h c i ∧ 0 ≤ (hI h c i).toInt ∧ (hI h c i).toInt ≤ 5) ∧ (hI h (m + 1) i = hI h (c + 1) i ∧ 0 ≤ (hI h (c + 1) i).toInt ∧ (hI h (c + 1) i).toInt ≤ 11) ∧ (hI h (m + 2) i = hI h (c + 2) i ∧ 1 ≤ (hI h (c + 2) i).toInt ∧ (hI h (c + 2) i).toInt ≤ 24)
def BX (h : AHp) (o i m : Nat) : Prop := hI h 70 m = hI h o i ∧ 0 ≤ (hI h o i).toInt ∧ (hI h o i).toInt ≤ 65535
def BK (h : AHp) : Prop := hI h 70 63 = hI h 0 13 ∧ (hI h 0 13 = 0 ∨ (hI h 0 13 = 1 ∧ BTk h 46 47 64 114 ∧ BX h 0 12 65 ∧ ∀ i, i < 6 → hI h 117 i = hI h 50 i ∧ 0 ≤ (hI h 50 i).toInt ∧ (hI h 50 i).toInt ≤ 3))
def BI (h : AHp) : Prop := BT h ∧ BS h ∧ BC h ∧ BTk h 42 43 3 94 ∧ BX h 0 11 2 ∧ BK h
theorem Ch.i {P : Nat → Nat → Bool} {h h1 : AHp} (c : Ch P h h1) {k i : Nat} (hp : P k i = false) : hI h1 k i = hI h k i := (c k i hp).1
theorem Ch.r {P : Nat → Nat → Bool} {h h1 : AHp} (c : Ch P h h1) {k : Nat} (hp : ∀ i, P k i = false) : hI h1 k = hI h k := funext fun i => (c k i (hp i)).1
section KEEP
variable {P : Nat → Nat → Bool} {h h1 : AHp}
theorem BT.ch (hB : BT h) (c : Ch P h h1) (p1 : P 70 1 = false) (p2 : P 1 1 = false) (p3 : ∀ i, P 2 i = false) (p4 : ∀ i, P 71 i = false) : BT h1 := by
  unfold BT at hB ⊢
  rw [c.i p1, c.i p2, c.r p3, c.r p4]; exact hB
theorem BS.ch (hB : BS h) (c : Ch P h h1) (p1 : ∀ i, P 72 i = false) (p2 : ∀ i, P 4 i = false) : BS h1 := by
  unfold BS at hB ⊢
  rw [c.r p1, c.r p2]; exact hB
theorem BC.ch (hB : BC h) (c : Ch P h h1) (p1 : ∀ i, P 91 i = false) (p2 : ∀ i, P 5 i = false) : BC h1 := by
  unfold BC at hB ⊢
  rw [c.r p1, c.r p2]; exact hB
theorem BTk.ch {o a fm m : Nat} (hB : BTk h o a fm m) (c : Ch P h h1) (p0 : P 70 fm = false ∧ P o 3 = false ∧ P o 4 = false) (p1 : ∀ i, P a i = false) (p2 : ∀ i, P (a + 1) i = false) (p3 : ∀ i, P (a + 2) i = false) (p4 : ∀ i, P m i = false) (p5 : ∀ i, P (m + 1) i = false) (p6 : ∀ i, P (m + 2) i = false) : BTk h1 o a fm m := by
  unfold BTk at hB ⊢
  rw [c.i p0.1, c.i p0.2.1, c.i p0.2.2, c.r p1, c.r p2, c.r p3, c.r p4, c.r p5, c.r p6]; exact hB
theorem BX.ch {o i m : Nat} (hB : BX h o i m) (c : Ch P h h1) (p0 : P 70 m = false ∧ P o i = false) : BX h1 o i m := by
  unfold BX at hB ⊢
  rw [c.i p0.1, c.i p0.2]; exact hB
theorem BK.ch (hB : BK h) (c : Ch P h h1) (p0 : P 70 63 = false ∧ P 0 13 = false ∧ P 70 64 = false ∧ P 46 3 = false ∧ P 46 4 = false ∧ P 70 65 = false ∧ P 0 12 = false) (p1 : ∀ i, P 47 i = false ∧ P 48 i = false ∧ P 49 i = false ∧ P 114 i = false ∧ P 115 i = false ∧ P 116 i = false ∧ P 117 i = false ∧ P 50 i = false) : BK h1 := by
  obtain ⟨q1, q2, q3, q4, q5, q6, q7⟩ := p0
  unfold BK at hB ⊢
  rw [c.i q1, c.i q2, c.r (k := 117) (fun i => (p1 i).2.2.2.2.2.2.1), c.r (k := 50) (fun i => (p1 i).2.2.2.2.2.2.2)]
  refine ⟨hB.1, hB.2.imp id (fun z => ⟨z.1, ?_, ?_, z.2.2.2⟩)⟩
  · exact z.2.1.ch c ⟨q3, q4, q5⟩ (fun i => (p1 i).1) (fun i => (p1 i).2.1) (fun i => (p1 i).2.2.1) (fun i => (p1 i).2.2.2.1) (fun i => (p1 i).2.2.2.2.1) (fun i => (p1 i).2.2.2.2.2.1)
  · exact z.2.2.1.ch c ⟨q6, q7⟩
end KEEP
def rf3 : True := trivial
/-- what a sim says -/
def SimB {r : Type} (P : Nat → Nat → Bool) (h : AHp) (c m : AHp → Option (r × AHp)) : Prop := ∃ (x : r) (h1 h2 : AHp), c h = some (x, h1) ∧ m h1 = some (x, h2) ∧ BI h2 ∧ Ch P h h2
theorem SimB.same {r : Type} {P : Nat → Nat → Bool} {h : AHp} {c m : AHp → Option (r × AHp)} (hB : BI h) (x : r) (e1 : c h = some (x, h)) (e2 : m h = some (x, h)) : SimB P h c m := ⟨x, h, h, e1, e2, hB, Ch.rf⟩
theorem sim_seed {h : AHp} (x : Int32) (hB : BI h) : SimB (fun k i => (k == 0 && i == 11) || (k == 70 && i == 2)) h (m_X11_seed x) (m_X12_seed x) := by
  by_cases hx : 0 ≤ x.toInt ∧ x.toInt ≤ 65535
  · have c : Ch (fun k i => (k == 0 && i == 11) || (k == 70 && i == 2)) h (sI (sI h 0 11 x) 70 2 x) := (Ch.rf.sI rfl).sI rfl
    refine ⟨1, sI h 0 11 x, sI (sI h 0 11 x) 70 2 x, ?_, ?_, ?_, c⟩
    · unfold m_X11_seed
      simp only [i32_lt, tIall]
      rw [if_neg (by omega), if_pos (by omega)]; rfl
    · unfold m_X12_seed
      rw [liesI, bd_some, b2i_t (by exact hx), if_neg one_ne]; rfl
    · obtain ⟨a1, a2, a3, a4, a5, a6⟩ := hB
      refine ⟨a1.ch c rfl rfl (fun _ => rfl) (fun _ => rfl), a2.ch c (fun _ => rfl) (fun _ => rfl), a3.ch c (fun _ => rfl) (fun _ => rfl), a4.ch c ⟨rfl, rfl, rfl⟩ (fun _ => rfl) (fun _ => rfl) (fun _ => rfl) (fun _ => rfl) (fun _ => rfl) (fun _ => rfl), ⟨rfl, hx⟩, a6.ch c ⟨rfl, rfl, rfl, rfl, rfl, rfl, rfl⟩ (fun _ => ⟨rfl, rfl, rfl, rfl, rfl, rfl, rfl, rfl⟩)⟩
  · refine SimB.same hB 0 ?_ ?_
    · unfold m_X11_seed
      simp only [i32_lt, tIall]
      repeat' split
      all_goals first | rfl | omega
    · unfold m_X12_seed
      rw [liesI, bd_some, b2i_f (by exact hx), if_pos rfl]
theorem clamp_lt {x : Int32} {n : Nat} (h0 : 0 ≤ x.toInt) (h1 : x.toInt < n) : x.toNatClampNeg < n := by rw [clamp_toNat]; omega
theorem sizesOfC (x : Int32) (h : AHp) : m_X9_sizesOf x h = some (if 0 ≤ x.toInt ∧ x.toInt ≤ 11 then hI h 4 x.toNatClampNeg else 0, h) := by
  unfold m_X9_sizesOf
  rw [isThingC, bd_some]
  by_cases hx : 0 ≤ x.toInt ∧ x.toInt ≤ 11
  · rw [b2i_t hx, if_neg one_ne, gd_pos (inb_iff.mpr (by omega)), if_pos hx]
  · rw [b2i_f hx, if_pos rfl, if_neg hx]
theorem sim_lengths {h : AHp} (x : Int32) (hB : BI h) : SimB (fun _ _ => false) h (m_X11_lengths x) (m_X12_lengths x) := by
  by_cases hx : 0 ≤ x.toInt ∧ x.toInt ≤ 11
  · refine SimB.same hB (hI h 4 x.toNatClampNeg) ?_ ?_
    · unfold m_X11_lengths
      rw [isThingC, bd_some, b2i_t hx, if_neg one_ne, sizesOfC, bd_some, if_pos hx]
    · unfold m_X12_lengths
      rw [isThingM, bd_some, b2i_t hx, if_neg one_ne, gd_pos (inb_iff.mpr (by omega)), (hB.2.1 x.toNatClampNeg (clamp_lt hx.1 (by omega))).1]
  · refine SimB.same hB (-1) ?_ ?_
    · unfold m_X11_lengths
      rw [isThingC, bd_some, b2i_f hx, if_pos rfl]
    · unfold m_X12_lengths
      rw [isThingM, bd_some, b2i_f hx, if_pos rfl]
theorem setColourC (x v : Int32) (h : AHp) (hx : 0 ≤ x.toInt ∧ x.toInt ≤ 5) : m_X9_setColour x v h = some ((), sI h 5 x.toNatClampNeg v) := by
  unfold m_X9_setColour
  rw [isSpeakerC, bd_some, b2i_t hx, if_neg one_ne, gd_pos (inb_iff.mpr (by omega))]; rfl
theorem sim_colour {h : AHp} (x v : Int32) (hB : BI h) : SimB (fun k _ => k == 5 || k == 91) h (m_X11_colour x v) (m_X12_colour x v) := by
  by_cases hx : 0 ≤ x.toInt ∧ x.toInt ≤ 5
  · by_cases hv : 0 ≤ v.toInt ∧ v.toInt ≤ 3
    · have c : Ch (fun k _ => k == 5 || k == 91) h (sI (sI h 5 x.toNatClampNeg v) 91 x.toNatClampNeg v) := (Ch.rf.sI rfl).sI rfl
      refine ⟨1, sI h 5 x.toNatClampNeg v, _, ?_, ?_, ?_, c⟩
      · unfold m_X11_colour
        simp only [i32_lt, tIall]
        rw [isSpeakerC, bd_some, b2i_t hx, if_neg one_ne, if_neg (by omega), if_pos (by omega), setColourC _ _ _ hx]; rfl
      · unfold m_X12_colour
        rw [isSpeakerM, bd_some, b2i_t hx, if_neg one_ne, liesI, bd_some, b2i_t (by exact hv), if_neg one_ne, gd_pos (inb_iff.mpr (by omega))]; rfl
      · obtain ⟨a1, a2, a3, a4, a5, a6⟩ := hB
        refine ⟨a1.ch c rfl rfl (fun _ => rfl) (fun _ => rfl), a2.ch c (fun _ => rfl) (fun _ => rfl), ?_, a4.ch c ⟨rfl, rfl, rfl⟩ (fun _ => rfl) (fun _ => rfl) (fun _ => rfl) (fun _ => rfl) (fun _ => rfl) (fun _ => rfl), a5.ch c ⟨rfl, rfl⟩, a6.ch c ⟨rfl, rfl, rfl, rfl, rfl, rfl, rfl⟩ (fun _ => ⟨rfl, rfl, rfl, rfl, rfl, rfl, rfl, rfl⟩)⟩
        intro i hi
        have := a3 i hi
        simp only [hI_sI]
        by_cases hxi : i = x.toNatClampNeg
        · simp [hxi]; exact hv
        · simp [hxi]; exact this
    · refine SimB.same hB 0 ?_ ?_
      · unfold m_X11_colour
        simp only [i32_lt, tIall]
        rw [isSpeakerC, bd_some, b2i_t hx, if_neg one_ne]
        repeat' split
        all_goals first | rfl | omega
      · unfold m_X12_colour
        rw [isSpeakerM, bd_some, b2i_t hx, if_neg one_ne, liesI, bd_some, b2i_f (by exact hv), if_pos rfl]
  · refine SimB.same hB 0 ?_ ?_
    · unfold m_X11_colour
      rw [isSpeakerC, bd_some, b2i_f hx, if_pos rfl]
    · unfold m_X12_colour
      rw [isSpeakerM, bd_some, b2i_f hx, if_pos rfl]
