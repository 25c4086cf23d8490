def CS (c : Nat) (g : AHp) (a b q : Nat) : Prop := a < 25 ∧ b < 25 ∧ q < 7 ∧ tb (hI g c (25 * q + b)) a = true
theorem pcl_pc {g g1 : AHp} (c : Ch PCl g g1) : Ch PC g g1 := PCl_PC c
section SM
variable {E : En} {T W : Int32} {kA kB kS kL kK : Bool} {i l : Nat}
theorem sm_in (hi : i ≤ 5) (hl : 1 ≤ l ∧ l ≤ 24) (hW : W = (1 : Int32) <<< (nI l &&& 31))
    (hS : kS = false → ∀ a b q s s2, s < 6 → s2 < 6 → wq E i a b q s l = wq E i a b q s2 l) {b q : Nat} (hb : b < 25) (hq : q < 7) (k2 : Int32 → Int32 → AHp → Option (Int32 × AHp)) :
    ∀ (d t f : Nat) (g : AHp), t + d = 25 → d < f → CX E g → WtX T W kA kB kS kL kK g →
    (∀ a, a < t → tb (hI g 64 (25 * q + b)) a = true → anyT (fun s => tb T s && wq E i a b q s l) 6 = false) →
    ∃ g1, Ch PC g g1 ∧ CX E g1 ∧
      ((m_X10_somebodyMay_11 k2 f (nI (E.m + i)) (nI (25 * q + b)) (nI t) g = some (1, g1) ∧ ∃ a, a < 25 ∧ tb (hI g 64 (25 * q + b)) a = true ∧ anyT (fun s => tb T s && wq E i a b q s l) 6 = true) ∨
       (m_X10_somebodyMay_11 k2 f (nI (E.m + i)) (nI (25 * q + b)) (nI t) g = k2 (nI (E.m + i)) (nI (25 * q + b + 1)) g1 ∧ ∀ a, a < 25 → tb (hI g 64 (25 * q + b)) a = true → anyT (fun s => tb T s && wq E i a b q s l) 6 = false)) := by
  intro d
  induction d with
  | zero =>
    intro t f g ht hf x wx hno
    obtain ⟨f, rfl⟩ : ∃ a, f = a + 1 := ⟨f - 1, by omega⟩
    have : t = 25 := by omega
    subst this
    rw [m_X10_somebodyMay_11, if_pos (by decide), lt_eq, nI_1]
    exact ⟨g, Ch.rf, x, Or.inr ⟨rfl, hno⟩⟩
  | succ d ih =>
    intro t f g ht hf x wx hno
    obtain ⟨f, rfl⟩ : ∃ a, f = a + 1 := ⟨f - 1, by omega⟩
    have ec : (nI (25 * q + b)).toNatClampNeg = 25 * q + b := nI_clamp (by omega)
    have hin : inb (nI (25 * q + b)) 175 := inb_nI (by omega) (by omega)
    rw [m_X10_somebodyMay_11, if_neg (show ¬ 25 ≤ nI t from nI_ge (a := t) (b := 25) (by omega) (by omega)), gd_pos hin, gd_pos hin, ec]
    by_cases h0 : hI g 64 (25 * q + b) = 0
    · rw [if_pos h0, lt_eq, nI_1]
      exact ⟨g, Ch.rf, x, Or.inr ⟨rfl, fun a ha hb => by rw [h0, tb_zero] at hb; cases hb⟩⟩
    · rw [if_neg h0]
      cases hbt : tb (hI g 64 (25 * q + b)) t with
      | false =>
        rw [if_pos ((hasC (by omega)).mpr hbt), lt_eq, nI_1]
        refine ih (t + 1) f g (by omega) (by omega) x wx (fun a ha hb2 => ?_)
        by_cases e : a = t
        · rw [e, hbt] at hb2; cases hb2
        · exact hno a (by omega) hb2
      | true =>
        rw [if_neg (fun z => by rw [(hasC (by omega)).mp z] at hbt; cases hbt)]
        obtain ⟨g1, e1, c1, x1, s1⟩ := standAtC x (q := q) (b := b) (a := t) (i := i) hq hb
        rw [e1, bd_some]
        obtain ⟨g2, e2, c2, x2⟩ := anyMay_l (E := E) (T := T) (W := W) (kA := kA) (kB := kB) (kS := kS) (kL := kL) (kK := kK) (a := t) (b := b) (q := q) (i := i) (l := l) hq hl hW (fun h s s2 => hS h t b q s s2) 6 0 FU g1 (by omega) (by unfold FU; omega) x1 (wx.ch c1 (fun i => rfl)) s1 (fun s hs => by omega)
        have c12 : Ch PC g g2 := c1.trans (PCl_PC c2)
        have em : m_X10_anyMay g1 = some (if anyT (fun s => tb T s && wq E i t b q s l) 6 = true then 1 else 0, g2) := e2
        rw [em, bd_some]
        cases hany : anyT (fun s => tb T s && wq E i t b q s l) 6 with
        | true =>
          rw [i01_t, if_neg one_ne]
          exact ⟨g2, c12, x2, Or.inl ⟨rfl, t, by omega, hbt, hany⟩⟩
        | false =>
          rw [i01_f, if_pos rfl, lt_eq, nI_1]
          have e64 : hI g2 64 (25 * q + b) = hI g 64 (25 * q + b) := c12.i (k := 64) (i := 25 * q + b) rfl
          obtain ⟨g3, c3, x3, r3⟩ := ih (t + 1) f g2 (by omega) (by omega) x2 (wx.ch c12 (fun i => rfl)) (fun a ha hb2 => by
            rw [e64] at hb2
            by_cases e : a = t
            · rw [e]; exact hany
            · exact hno a (by omega) hb2)
          rw [e64] at r3
          exact ⟨g3, c12.trans c3, x3, r3⟩
theorem sm_out (hi : i ≤ 5) (hl : 1 ≤ l ∧ l ≤ 24) (hW : W = (1 : Int32) <<< (nI l &&& 31))
    (hS : kS = false → ∀ a b q s s2, s < 6 → s2 < 6 → wq E i a b q s l = wq E i a b q s2 l) :
    ∀ (d t f : Nat) (g : AHp), t + d = 175 → d < f → CX E g → WtX T W kA kB kS kL kK g →
    (∀ n, n < t → ∀ a, a < 25 → tb (hI g 64 n) a = true → anyT (fun s => tb T s && wq E i a (n % 25) (n / 25) s l) 6 = false) →
    ∃ g1, Ch PC g g1 ∧ CX E g1 ∧
      ((m_X10_somebodyMay_2 f (nI (E.m + i)) (nI t) g = some (1, g1) ∧ ∃ n, n < 175 ∧ ∃ a, a < 25 ∧ tb (hI g 64 n) a = true ∧ anyT (fun s => tb T s && wq E i a (n % 25) (n / 25) s l) 6 = true) ∨
       (m_X10_somebodyMay_2 f (nI (E.m + i)) (nI t) g = some (0, g1) ∧ ∀ n, n < 175 → ∀ a, a < 25 → tb (hI g 64 n) a = true → anyT (fun s => tb T s && wq E i a (n % 25) (n / 25) s l) 6 = false)) := by
  intro d
  induction d with
  | zero =>
    intro t f g ht hf x wx hno
    obtain ⟨f, rfl⟩ : ∃ a, f = a + 1 := ⟨f - 1, by omega⟩
    have : t = 175 := by omega
    subst this
    rw [m_X10_somebodyMay_2, if_pos (by decide)]
    exact ⟨g, Ch.rf, x, Or.inr ⟨rfl, hno⟩⟩
  | succ d ih =>
    intro t f g ht hf x wx hno
    obtain ⟨f, rfl⟩ : ∃ a, f = a + 1 := ⟨f - 1, by omega⟩
    rw [m_X10_somebodyMay_2, if_neg (show ¬ 175 ≤ nI t from nI_ge (a := t) (b := 175) (by omega) (by omega))]
    have et : 25 * (t / 25) + t % 25 = t := by omega
    obtain ⟨g1, c1, x1, r1⟩ := sm_in (E := E) (T := T) (W := W) (kA := kA) (kB := kB) (kS := kS) (kL := kL) (kK := kK) hi hl hW hS (b := t % 25) (q := t / 25) (by omega) (by omega) (m_X10_somebodyMay_2 f) 25 0 FU g (by omega) (by unfold FU; omega) x wx (fun a ha => by omega)
    rw [et] at r1
    rcases r1 with ⟨e1, a, ha, hb, hy⟩ | ⟨e1, hn⟩
    · exact ⟨g1, c1, x1, Or.inl ⟨e1, t, by omega, a, ha, hb, hy⟩⟩
    · have e64 : ∀ n, hI g1 64 n = hI g 64 n := fun n => c1.i (k := 64) (i := n) rfl
      obtain ⟨g2, c2, x2, r2⟩ := ih (t + 1) f g1 (by omega) (by omega) x1 (wx.ch c1 (fun i => rfl)) (fun n hn2 a ha hb => by
        rw [e64] at hb
        by_cases e : n = t
        · rw [e]; rw [e] at hb; exact hn a ha hb
        · exact hno n (by omega) a ha hb)
      simp only [e64] at r2
      refine ⟨g2, c1.trans c2, x2, ?_⟩
      rw [show m_X10_somebodyMay_11 (m_X10_somebodyMay_2 f) FU (nI (E.m + i)) (nI t) 0 g = m_X10_somebodyMay_2 f (nI (E.m + i)) (nI (t + 1)) g1 from e1]
      exact r2
theorem somebodyC (hi : i ≤ 5) (hl : 1 ≤ l ∧ l ≤ 24) (hW : W = (1 : Int32) <<< (nI l &&& 31))
    (hS : kS = false → ∀ a b q s s2, s < 6 → s2 < 6 → wq E i a b q s l = wq E i a b q s2 l) {g : AHp} (x : CX E g) (wx : WtX T W kA kB kS kL kK g) :
    ∃ v g1, m_X10_somebodyMay (nI (E.m + i)) g = some (v, g1) ∧ Ch PC g g1 ∧ CX E g1 ∧
      ((v = 1 ∧ wOk (fun s => tb T s = true) (fun a b q s z => wq E i a b q s z = true) l (CS 64 g)) ∨ (v = 0 ∧ ¬ wOk (fun s => tb T s = true) (fun a b q s z => wq E i a b q s z = true) l (CS 64 g))) := by
  obtain ⟨g1, c1, x1, r1⟩ := sm_out (E := E) (T := T) (W := W) (kA := kA) (kB := kB) (kS := kS) (kL := kL) (kK := kK) hi hl hW hS 175 0 FU g (by omega) (by unfold FU; omega) x wx (fun n hn => by omega)
  rcases r1 with ⟨e1, n, hn, a, ha, hb, hy⟩ | ⟨e1, hn⟩
  · refine ⟨1, g1, e1, c1, x1, Or.inl ⟨rfl, ?_⟩⟩
    rw [anyT_iff] at hy
    obtain ⟨s, hs, hy⟩ := hy
    rw [Bool.and_eq_true] at hy
    exact ⟨a, n % 25, n / 25, s, ⟨ha, by omega, by omega, by rw [show 25 * (n / 25) + n % 25 = n by omega]; exact hb⟩, hs, hy.1, hy.2⟩
  · refine ⟨0, g1, e1, c1, x1, Or.inr ⟨rfl, ?_⟩⟩
    rintro ⟨a, b, q, s, ⟨ha, hb, hq, hbit⟩, hs, hT, hy⟩
    have h := hn (25 * q + b) (by omega) a ha hbit
    rw [show (25 * q + b) % 25 = b by omega, show (25 * q + b) / 25 = q by omega] at h
    have h2 : anyT (fun s => tb T s && wq E i a b q s l) 6 = true := (anyT_iff 6).mpr ⟨s, hs, by rw [Bool.and_eq_true]; exact ⟨hT, hy⟩⟩
    rw [h] at h2; cases h2
end SM
