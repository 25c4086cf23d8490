/-! waited: the class's loops -/
def WtX (T W : Int32) (kA kB kS kL kK : Bool) (g : AHp) : Prop := (hI g 63 4 = T ∧ hI g 63 5 = W) ∧ (hI g 63 6 = (if kA = true then 1 else 0) ∧ hI g 63 7 = (if kB = true then 1 else 0)) ∧ hI g 63 8 = (if kS = true then 1 else 0) ∧ hI g 63 9 = (if kL = true then 1 else 0) ∧ hI g 63 10 = (if kK = true then 1 else 0)
theorem WtX.ch {T W : Int32} {kA kB kS kL kK : Bool} {P : Nat → Nat → Bool} {h g : AHp} (x : WtX T W kA kB kS kL kK h) (c : Ch P h g) (hp : ∀ i, P 63 i = false) : WtX T W kA kB kS kL kK g := by
  unfold WtX at x ⊢
  rw [c.i (hp 4), c.i (hp 5), c.i (hp 6), c.i (hp 7), c.i (hp 8), c.i (hp 9), c.i (hp 10)]; exact x
def wq (E : En) (i a b q s l : Nat) : Bool := E.anyOk (nI s) 4095 (nI a) (nI b) (nI q - 1) (nI (E.m + i)) l
theorem q_int {q : Nat} (hq : q < 7) : (nI q - 1).toInt = (q : Int) - 1 := nI_sub_toInt (m := q) (c := 1) (by omega) (by omega)
theorem s_int {s : Nat} (hs : s < 6) : 0 ≤ (nI s).toInt ∧ (nI s).toInt ≤ 5 := by rw [nI_toInt (by omega)]; omega
theorem standAtC {E : En} {g : AHp} (x : CX E g) {q b a i : Nat} (hq : q < 7) (hb : b < 25) : ∃ g1, m_X10_standAt (nI (25 * q + b)) (nI a) (nI (E.m + i)) g = some ((), g1) ∧ Ch PC g g1 ∧ CX E g1 ∧ StC g1 (nI a) (nI b) (nI q - 1) (nI (E.m + i)) := by
  obtain ⟨e1, c1, x1, s1⟩ := x.stand (nI a) (nI b) (nI q - 1) (nI (E.m + i))
  refine ⟨_, ?_, c1, x1, s1⟩
  unfold m_X10_standAt
  rw [pair_mod (by omega) (by omega), pair_div (by omega) (by omega), e1, bd_some]
/-- whether one of the speakers that are tried may say it -/
theorem anyMay_l {E : En} {T W : Int32} {kA kB kS kL kK : Bool} {a b q i l : Nat} (hq : q < 7) (hl : 1 ≤ l ∧ l ≤ 24) (hW : W = (1 : Int32) <<< (nI l &&& 31))
    (hS : kS = false → ∀ s s2, s < 6 → s2 < 6 → wq E i a b q s l = wq E i a b q s2 l) :
    ∀ (d t f : Nat) (g : AHp), t + d = 6 → d < f → CX E g → WtX T W kA kB kS kL kK g → StC g (nI a) (nI b) (nI q - 1) (nI (E.m + i)) →
    (∀ s, s < t → tb T s = true → wq E i a b q s l = false) →
    ∃ g1, m_X10_anyMay_2 f (nI t) g = some (if anyT (fun s => tb T s && wq E i a b q s l) 6 = true then 1 else 0, g1) ∧ Ch PCl g g1 ∧ CX E g1 := by
  have hWb : ∀ j, j < 32 → tb W j = decide (j = l) := fun j hj => by rw [hW, tb_bit (by omega) hj]
  intro d
  induction d with
  | zero =>
    intro t f g ht hf x wx st hno
    obtain ⟨f, rfl⟩ : ∃ a, f = a + 1 := ⟨f - 1, by omega⟩
    have : t = 6 := by omega
    subst this
    rw [m_X10_anyMay_2, if_pos (by decide)]
    refine ⟨g, ?_, Ch.rf, x⟩
    rw [if_neg]
    rw [anyT_iff]
    rintro ⟨s, hs, hb⟩
    rw [Bool.and_eq_true] at hb
    rw [hno s hs hb.1] at hb
    cases hb.2
  | succ d ih =>
    intro t f g ht hf x wx st hno
    obtain ⟨f, rfl⟩ : ∃ a, f = a + 1 := ⟨f - 1, by omega⟩
    rw [m_X10_anyMay_2, if_neg (show ¬ 6 ≤ nI t from nI_ge (a := t) (b := 6) (by omega) (by omega)), wx.1.1]
    cases hT : tb T t with
    | false =>
      rw [if_pos ((hasC (by omega)).mpr hT), lt_eq, nI_1]
      refine ih (t + 1) f g (by omega) (by omega) x wx st (fun s hs hb => ?_)
      by_cases e : s = t
      · rw [e, hT] at hb; cases hb
      · exact hno s (by omega) hb
    | true =>
      rw [if_neg (fun z => by rw [(hasC (by omega)).mp z] at hT; cases hT), wx.1.2]
      have hq1 := q_int hq
      obtain ⟨y, g1, e1, c1, x1, s1, q1⟩ := x.any (things := 4095) st (s_int (s := t) (by omega)) (by rw [hq1]; omega) (L := W) (fun j hj hb => by rw [hWb j hj, decide_eq_true_iff] at hb; omega)
      have w1 : WtX T W kA kB kS kL kK g1 := wx.ch c1 (fun i => rfl)
      rw [e1, bd_some]
      have hy : y = 0 ↔ wq E i a b q t l = false := by
        constructor
        · intro h0
          have := q1 l (by omega)
          rw [h0, tb_zero, hWb l (by omega), decide_eq_true rfl, Bool.true_and] at this
          exact this.symm
        · intro h0
          apply tb_ext
          intro j hj
          rw [q1 j hj, hWb j hj, tb_zero]
          by_cases e : j = l
          · rw [e, decide_eq_true rfl, Bool.true_and]; exact h0
          · rw [decide_eq_false e, Bool.false_and]
      by_cases h0 : y = 0
      · rw [if_pos h0, w1.2.2.1]
        have hf0 := hy.mp h0
        cases hk : kS with
        | false =>
          rw [i01_f, if_pos rfl]
          refine ⟨g1, ?_, c1, x1⟩
          rw [if_neg]
          rw [anyT_iff]
          rintro ⟨s, hs, hb⟩
          rw [Bool.and_eq_true, hS hk s t hs (by omega), hf0] at hb
          cases hb.2
        | true =>
          rw [i01_t, if_neg one_ne, lt_eq, nI_1]
          obtain ⟨g2, e2, c2, x2⟩ := ih (t + 1) f g1 (by omega) (by omega) x1 w1 s1 (fun s hs hb => by
            by_cases e : s = t
            · rw [e]; exact hf0
            · exact hno s (by omega) hb)
          exact ⟨g2, e2, c1.trans c2, x2⟩
      · rw [if_neg h0]
        refine ⟨g1, ?_, c1, x1⟩
        rw [if_pos]
        rw [anyT_iff]
        refine ⟨t, by omega, ?_⟩
        rw [hT, Bool.true_and]
        cases hqv : wq E i a b q t l with
        | true => rfl
        | false => exact absurd (hy.mpr hqv) h0
