section BGN
variable {E : En} {T W : Int32} {kA kB kS kL kK : Bool}
theorem b114_f (f : Nat) (g : AHp) : m_X10_begin_114 (f + 1) (nI 175) g = m_X10_begin_114 1 (nI 175) g := by
  rw [m_X10_begin_114, if_pos (by decide), m_X10_begin_114, if_pos (by decide)]
theorem bg_clear : ∀ (d t f : Nat) (g : AHp), t + d = 175 → d < f → ∃ g1, m_X10_begin_114 f (nI t) g = m_X10_begin_114 1 (nI 175) g1 ∧ Ch P46 g g1 ∧ ∀ n, n < 175 → (n < t → hI g 64 n = 0 ∧ hI g 66 n = 0) → hI g1 64 n = 0 ∧ hI g1 66 n = 0 := by
  intro d
  induction d with
  | zero =>
    intro t f g ht hf
    obtain ⟨f, rfl⟩ : ∃ a, f = a + 1 := ⟨f - 1, by omega⟩
    have : t = 175 := by omega
    subst this
    exact ⟨g, b114_f f g, Ch.rf, fun n hn h => h hn⟩
  | succ d ih =>
    intro t f g ht hf
    obtain ⟨f, rfl⟩ : ∃ a, f = a + 1 := ⟨f - 1, by omega⟩
    have hin : inb (nI t) 175 := inb_nI (by omega) (by omega)
    have ec : (nI t).toNatClampNeg = t := nI_clamp (by omega)
    rw [m_X10_begin_114, if_neg (show ¬ 175 ≤ nI t from nI_ge (a := t) (b := 175) (by omega) (by omega))]
    simp only [gd_pos hin, ec, lt_eq, nI_1]
    obtain ⟨g1, e1, c1, r1⟩ := ih (t + 1) f (sI (sI g 64 t 0) 66 t 0) (by omega) (by omega)
    refine ⟨g1, e1, ((Ch.rf.sI rfl).sI rfl).trans c1, fun n hn h => r1 n hn (fun h2 => ?_)⟩
    rw [hI_sI, if_neg (fun h => absurd h.1 (by decide)), hI_sI, hI_sI]
    by_cases e : n = t
    · rw [if_pos ⟨rfl, e⟩, if_pos ⟨rfl, e⟩]; exact ⟨rfl, rfl⟩
    · rw [if_neg (fun h => e h.2), if_neg (fun h => e h.2), hI_sI, if_neg (fun h => absurd h.1 (by decide))]; exact h (by omega)
theorem bg_set {g : AHp} (x : CX E g) (wx : WtX T W kA kB kS kL kK g) {a0 b0 q0 : Nat} (ha : E.a = nI a0) (hb : E.b = nI b0) (hq : E.r + 1 = nI q0) (ha2 : a0 ≤ 24) (hb2 : b0 ≤ 24) (hq2 : q0 ≤ 6) :
    ∃ g1, m_X10_begin_114 1 (nI 175) g = some ((), g1) ∧ Ch P46 g g1 ∧ ∀ n, n < 175 → hI g1 64 n = (if n = 25 * (if kL = true then q0 else 0) + (if kB = true then b0 else 0) then (if kA = true then (1 : Int32) <<< (nI a0 &&& 31) else 1) else hI g 64 n) ∧ hI g1 66 n = (if n = 25 * (if kL = true then q0 else 0) + (if kB = true then b0 else 0) then (if kA = true then (1 : Int32) <<< (nI a0 &&& 31) else 1) else hI g 66 n) := by
  have hlt : 25 * (if kL = true then q0 else 0) + (if kB = true then b0 else 0) < 175 := by
    have h1 : (if kL = true then q0 else 0) ≤ 6 := by split <;> omega
    have h2 : (if kB = true then b0 else 0) ≤ 24 := by split <;> omega
    omega
  have key : ∀ n0, n0 < 175 → ∀ w : Int32, ∃ g1, m_X10_begin_212 (nI n0) (nI n0) w g = some ((), g1) ∧ Ch P46 g g1 ∧ ∀ n, n < 175 → hI g1 64 n = (if n = n0 then w else hI g 64 n) ∧ hI g1 66 n = (if n = n0 then w else hI g 66 n) := by
    intro n0 h0 w
    have hin : inb (nI n0) 175 := inb_nI (by omega) (by omega)
    have ec : (nI n0).toNatClampNeg = n0 := nI_clamp (by omega)
    unfold m_X10_begin_212
    simp only [gd_pos hin, ec, lt_eq]
    refine ⟨_, rfl, (Ch.rf.sI rfl).sI rfl, fun n hn => ?_⟩
    rw [hI_sI, if_neg (fun h => absurd h.1 (by decide)), hI_sI, hI_sI]
    by_cases e : n = n0
    · rw [if_pos ⟨rfl, e⟩, if_pos e, if_pos ⟨rfl, e⟩, if_pos e, hI_sI, if_pos ⟨rfl, rfl⟩]; exact ⟨rfl, rfl⟩
    · rw [if_neg (fun h => e h.2), if_neg e, if_neg (fun h => e h.2), if_neg e, hI_sI, if_neg (fun h => absurd h.1 (by decide))]; exact ⟨rfl, rfl⟩
  rw [m_X10_begin_114, if_pos (by decide), x.spkA, bd_some, x.spanB, bd_some, hb, rowOfC wx hq, bd_some]
  generalize 25 * (if kL = true then q0 else 0) + (if kB = true then b0 else 0) = n0 at hlt
  rw [if_neg (show ¬ nI n0 < 0 by rw [i32_lt, nI_toInt (by omega)]; simp only [tIall]; omega), if_neg (show ¬ 175 ≤ nI n0 from nI_ge (a := n0) (b := 175) (by omega) (by omega)), wx.2.1.1]
  cases hk : kA with
  | false => rw [i01_f, if_pos rfl]; exact key n0 hlt 1
  | true => rw [i01_t, if_neg one_ne, x.spanA, bd_some, ha]; exact key n0 hlt _
theorem fl_if {α : Type} (L m : Int32) (p q : α) : (if L &&& m = 0 then p else q) = (if fl L m = true then q else p) := by
  by_cases h : L &&& m = 0
  · rw [if_pos h, fl_f h, if_neg (by decide)]
  · rw [if_neg h, fl_n h, if_pos rfl]
theorem b01_ok (b : Bool) : (if b = true then (1 : Int32) else 0) = 0 ∨ (if b = true then (1 : Int32) else 0) = 1 := by cases b <;> decide
theorem b91 (L : Int32) (g : AHp) (k : Bool) : m_X10_begin_91 L (if k = true then 1 else 0) g = m_X10_begin_114 FU 0 (sI (sI g 63 9 (if k = true then 1 else 0)) 63 10 (if fl L 256 = true then 1 else 0)) := by
  unfold m_X10_begin_91
  rw [gd_pos (b01_ok k), lt_eq, lt_eq, lt_eq, fl_if]
  cases fl L 256
  · rw [if_neg (show ¬ (false = true) by decide), i01_f]
  · rw [if_pos (show true = true from rfl), i01_t]
theorem b74 (L : Int32) (g : AHp) (k : Bool) : m_X10_begin_74 L (if k = true then 1 else 0) g = m_X10_begin_91 L (if fl L 192 = true then 1 else 0) (sI g 63 8 (if k = true then 1 else 0)) := by
  unfold m_X10_begin_74
  rw [gd_pos (b01_ok k), lt_eq, fl_if]
  cases fl L 192
  · rw [if_neg (show ¬ (false = true) by decide), i01_f]
  · rw [if_pos (show true = true from rfl), i01_t]
theorem b58 (L : Int32) (g : AHp) (k : Bool) : m_X10_begin_58 L (if k = true then 1 else 0) g = m_X10_begin_74 L (if fl L 12 = true then 1 else 0) (sI g 63 6 (if k = true then 1 else 0)) := by
  unfold m_X10_begin_58
  rw [gd_pos (b01_ok k), lt_eq, fl_if]
  cases fl L 12
  · rw [if_neg (show ¬ (false = true) by decide), i01_f]
  · rw [if_pos (show true = true from rfl), i01_t]
theorem b35 (L : Int32) (g : AHp) (k : Bool) : m_X10_begin_35 L (if k = true then 1 else 0) g = m_X10_begin_58 L (if (k || fl L 16) = true then 1 else 0) (sI g 63 7 (if k = true then 1 else 0)) := by
  unfold m_X10_begin_35
  rw [gd_pos (b01_ok k), lt_eq, sI_same, fl_if]
  cases k
  · rw [i01_f, if_pos rfl, Bool.false_or]
    cases fl L 16
    · rw [if_neg (show ¬ (false = true) by decide), i01_f]
    · rw [if_pos (show true = true from rfl), i01_t]
  · rw [i01_t, if_neg one_ne, Bool.true_or, i01_t]
abbrev P3 : Nat → Nat → Bool := fun k _ => k == 63 || k == 64 || k == 66
/-- the one place at which it begins -/
def St1 (kA kB kL : Bool) (a0 b0 q0 : Nat) (a b q : Nat) : Prop := a = (if kA = true then a0 else 0) ∧ b = (if kB = true then b0 else 0) ∧ q = (if kL = true then q0 else 0)
theorem beginC {g : AHp} (x : CX E g) (hcol : ∀ i, i < 6 → 0 ≤ (E.col i).toInt ∧ (E.col i).toInt ≤ 3) (sp : Int32) (hw : hI g 63 5 = W) {a0 b0 q0 : Nat} (ha : E.a = nI a0) (hb : E.b = nI b0) (hq : E.r + 1 = nI q0) (ha2 : a0 ≤ 24) (hb2 : b0 ≤ 24) (hq2 : q0 ≤ 6) :
    ∃ T g1, m_X10_begin sp g = some ((), g1) ∧ Ch P3 g g1 ∧ CX E g1 ∧ DF E (fl (E.msk 1) 68) (fl (E.msk 1) 136) sp T ∧
      WtX T W (fl (E.msk 1) 32 || fl (E.msk 1) 16) (fl (E.msk 1) 32) (fl (E.msk 1) 12) (fl (E.msk 1) 192) (fl (E.msk 1) 256) g1 ∧
      CS 64 g1 = St1 (fl (E.msk 1) 32 || fl (E.msk 1) 16) (fl (E.msk 1) 32) (fl (E.msk 1) 192) a0 b0 q0 ∧ CS 66 g1 = St1 (fl (E.msk 1) 32 || fl (E.msk 1) 16) (fl (E.msk 1) 32) (fl (E.msk 1) 192) a0 b0 q0 := by
  obtain ⟨T, eT, hT⟩ := x.diff hcol sp (E.msk 1)
  unfold m_X10_begin
  rw [x.asks, bd_some, eT, bd_some, lt_eq, fl_if]
  generalize hL : E.msk 1 = L
  rw [hL] at hT
  have e0 : (if fl L 32 = true then m_X10_begin_35 L 1 (sI g 63 4 T) else m_X10_begin_35 L 0 (sI g 63 4 T)) = m_X10_begin_35 L (if fl L 32 = true then 1 else 0) (sI g 63 4 T) := by
    cases fl L 32
    · rw [if_neg (show ¬ (false = true) by decide), i01_f]
    · rw [if_pos (show true = true from rfl), i01_t]
  rw [e0, b35, b58, b74, b91]
  generalize hkA : (fl L 32 || fl L 16) = kA
  generalize fl L 32 = kB
  generalize fl L 12 = kS
  generalize fl L 192 = kL
  generalize fl L 256 = kK
  have c0 : Ch P3 g (sI (sI (sI (sI (sI (sI g 63 4 T) 63 7 (if kB = true then 1 else 0)) 63 6 (if kA = true then 1 else 0)) 63 8 (if kS = true then 1 else 0)) 63 9 (if kL = true then 1 else 0)) 63 10 (if kK = true then 1 else 0)) := (((((Ch.rf.sI rfl).sI rfl).sI rfl).sI rfl).sI rfl).sI rfl
  have w0 : WtX T W kA kB kS kL kK (sI (sI (sI (sI (sI (sI g 63 4 T) 63 7 (if kB = true then 1 else 0)) 63 6 (if kA = true then 1 else 0)) 63 8 (if kS = true then 1 else 0)) 63 9 (if kL = true then 1 else 0)) 63 10 (if kK = true then 1 else 0)) := by
    unfold WtX
    simp only [hI_sI, Nat.reduceEqDiff, true_and, and_false, and_true, reduceIte, and_self]
    exact hw
  generalize sI (sI (sI (sI (sI (sI g 63 4 T) 63 7 (if kB = true then 1 else 0)) 63 6 (if kA = true then 1 else 0)) 63 8 (if kS = true then 1 else 0)) 63 9 (if kL = true then 1 else 0)) 63 10 (if kK = true then 1 else 0) = g0 at c0 w0
  have p3o : ∀ k i, PO k i = false → P3 k i = false := fun k i hp => by
    simp only [Bool.or_eq_false_iff, Bool.and_eq_false_iff, beq_eq_false_iff_ne, ble_f] at hp ⊢; omega
  have x0 : CX E g0 := x.po (c0.mono p3o)
  obtain ⟨g1, e1, c1, r1⟩ := bg_clear 175 0 FU g0 (by omega) (by unfold FU; omega)
  have x1 : CX E g1 := x0.p46 c1
  have w1 : WtX T W kA kB kS kL kK g1 := w0.ch c1 (fun i => rfl)
  obtain ⟨g2, e2, c2, r2⟩ := bg_set x1 w1 ha hb hq ha2 hb2 hq2
  have c46 : Ch P46 g0 g2 := c1.trans c2
  have hset : ∀ c, c = 64 ∨ c = 66 → CS c g2 = St1 kA kB kL a0 b0 q0 := by
    intro c hc
    have hr : ∀ n, n < 175 → hI g2 c n = (if n = 25 * (if kL = true then q0 else 0) + (if kB = true then b0 else 0) then (if kA = true then (1 : Int32) <<< (nI a0 &&& 31) else 1) else 0) := fun n hn => by
      obtain ⟨z1, z2⟩ := r1 n hn (fun h => by omega)
      obtain ⟨y1, y2⟩ := r2 n hn
      rw [z1] at y1; rw [z2] at y2
      rcases hc with rfl | rfl
      · exact y1
      · exact y2
    have hwb : ∀ a, a < 25 → (tb (if kA = true then (1 : Int32) <<< (nI a0 &&& 31) else 1) a = true ↔ a = (if kA = true then a0 else 0)) := fun a ha => by
      cases kA
      · rw [if_neg (by decide), if_neg (by decide), tb_one, decide_eq_true_iff]
      · rw [if_pos rfl, if_pos rfl, tb_bit (by omega) (by omega), decide_eq_true_iff]
    have h1 : (if kL = true then q0 else 0) ≤ 6 := by split <;> omega
    have h2 : (if kB = true then b0 else 0) ≤ 24 := by split <;> omega
    have h3 : (if kA = true then a0 else 0) ≤ 24 := by split <;> omega
    funext a b q
    apply propext
    unfold CS St1
    constructor
    · rintro ⟨ha, hb, hq, hbit⟩
      rw [hr _ (by omega)] at hbit
      by_cases e : 25 * q + b = 25 * (if kL = true then q0 else 0) + (if kB = true then b0 else 0)
      · rw [if_pos e] at hbit
        exact ⟨(hwb a ha).mp hbit, by omega, by omega⟩
      · rw [if_neg e, tb_zero] at hbit; cases hbit
    · rintro ⟨ea, eb, eq⟩
      refine ⟨by omega, by omega, by omega, ?_⟩
      rw [hr _ (by omega), if_pos (by rw [eb, eq])]
      exact (hwb a (by omega)).mpr ea
  refine ⟨T, g2, ?_, c0.trans (c46.mono (fun k i hp => by simp only [Bool.or_eq_false_iff] at hp ⊢; exact ⟨hp.1.2, hp.2⟩)), x1.p46 c2, hT, w1.ch c2 (fun i => rfl), hset 64 (Or.inl rfl), hset 66 (Or.inr rfl)⟩
  rw [show m_X10_begin_114 FU 0 g0 = m_X10_begin_114 1 (nI 175) g1 from e1]
  exact e2
end BGN
