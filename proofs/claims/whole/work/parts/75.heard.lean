/-! heard -/
def hs (c : Nat → Bool) : Nat → Int32
  | 0 => 0
  | t + 1 => if c t = true then hs c t ||| ((1 : Int32) <<< (nI t &&& 31)) else hs c t
def hcnd (E : En) (s l a b r k : Int32) (t : Nat) : Bool := isLn l && tb (E.siz t) l.toNatClampNeg && E.ok 1 s (nI t) a b r k l.toNatClampNeg
theorem hs_bits (c : Nat → Bool) : ∀ (n k : Nat), n ≤ 12 → k < 32 → tb (hs c n) k = (decide (k < n) && c k)
  | 0, k, _, _ => by rw [hs, tb_zero]; simp
  | n + 1, k, h1, h2 => by
    rw [hs]
    by_cases hk : k = n
    · subst hk
      cases hc : c k with
      | true => rw [if_pos rfl, tb_or, tb_bit h2 h2]; simp
      | false => rw [if_neg (by simp), hs_bits c k k (by omega) h2]; simp
    · cases hc : c n with
      | true => rw [if_pos rfl, tb_or, tb_bit (by omega) h2, hs_bits c n k (by omega) h2, decide_eq_false hk, Bool.or_false, show decide (k < n + 1) = decide (k < n) from decide_eq_decide.mpr (by omega)]
      | false => rw [if_neg (by simp), hs_bits c n k (by omega) h2, show decide (k < n + 1) = decide (k < n) from decide_eq_decide.mpr (by omega)]
theorem cntF_le {x : Int32} : ∀ (d l : Nat), l + d ≤ 32 → cntF x l ≤ d + cntF x (l + d)
  | 0, l, _ => by simp
  | d + 1, l, h => by
    have := cntF_le (x := x) d (l + 1) (by omega)
    rw [cntF_step x (by omega), show l + (d + 1) = l + 1 + d by omega]
    split <;> omega
theorem pc_hs (c : Nat → Bool) : pcI (hs c 12) ≤ 12 := by
  have h1 := cntF_le (x := hs c 12) 12 0 (by omega)
  rw [Nat.zero_add, cntF_zero (x := hs c 12) 20 12 (by omega) (fun k h2 h3 => by rw [hs_bits c 12 k (by omega) h3, decide_eq_false (by omega)]; rfl), cntF_all] at h1
  omega
theorem thingsInC {E : En} {s l a b r k : Int32} (hsp : 0 ≤ s.toInt ∧ s.toInt ≤ 5) (hr : -1 ≤ r.toInt ∧ r.toInt ≤ 5) : ∀ (d t f : Nat) (g : AHp), t + d = 12 → d < f → CX E g → StC g a b r k → ∃ g1, m_X9_thingsIn_5 f s l (hs (hcnd E s l a b r k) t) (nI t) g = some (hs (hcnd E s l a b r k) 12, g1) ∧ Ch PC g g1 ∧ CX E g1 := by
  intro d
  induction d with
  | zero =>
    intro t f g ht hf x st
    obtain ⟨f, rfl⟩ : ∃ a, f = a + 1 := ⟨f - 1, by omega⟩
    have : t = 12 := by omega
    subst this
    exact ⟨g, by rw [m_X9_thingsIn_5, if_pos (by decide)], Ch.rf, x⟩
  | succ d ih =>
    intro t f g ht hf x st
    obtain ⟨f, rfl⟩ : ∃ a, f = a + 1 := ⟨f - 1, by omega⟩
    have htt : 0 ≤ (nI t).toInt ∧ (nI t).toInt ≤ 11 := by rw [nI_toInt (by omega)]; omega
    have ect : (nI t).toNatClampNeg = t := nI_clamp (by omega)
    obtain ⟨z, y, g1, e1, e2, c1, x1, s1, qz, qy⟩ := x.one st 1 l hsp htt hr
    rw [ect] at qz qy
    rw [m_X9_thingsIn_5, if_neg (show ¬ 12 ≤ nI t from nI_ge (a := t) (b := 12) (by omega) (by omega)), e1, bd_some]
    have hst : hs (hcnd E s l a b r k) (t + 1) = if hcnd E s l a b r k t = true then hs (hcnd E s l a b r k) t ||| ((1 : Int32) <<< (nI t &&& 31)) else hs (hcnd E s l a b r k) t := rfl
    by_cases hz : z = 0
    · have hc : hcnd E s l a b r k t = false := by unfold hcnd; rw [qz.mp hz]; rfl
      rw [if_pos hz, lt_eq, nI_1]
      rw [hc, if_neg (by simp)] at hst
      rw [← hst]
      exact ih (t + 1) f g (by omega) (by omega) x st
    · rw [if_neg hz, e2, bd_some]
      by_cases hy : y = 0
      · have hc : hcnd E s l a b r k t = false := qy.mp hy
        rw [if_pos hy, lt_eq, nI_1]
        rw [hc, if_neg (by simp)] at hst
        rw [← hst]
        obtain ⟨g2, e3, c3, x3⟩ := ih (t + 1) f g1 (by omega) (by omega) x1 s1
        exact ⟨g2, e3, (PCl_PC c1).trans c3, x3⟩
      · have hc : hcnd E s l a b r k t = true := by
          cases hq : hcnd E s l a b r k t with
          | true => rfl
          | false => exact absurd (qy.mpr hq) hy
        rw [if_neg hy, lt_eq, lt_eq, nI_1]
        rw [hc, if_pos rfl] at hst
        rw [← hst]
        obtain ⟨g2, e3, c3, x3⟩ := ih (t + 1) f g1 (by omega) (by omega) x1 s1
        exact ⟨g2, e3, (PCl_PC c1).trans c3, x3⟩
section HEARD
variable (E : En)
def hA (i : Nat) : Int32 := if i = 0 then E.a else E.ty (2 * (i - 1) + 1)
def hB (i : Nat) : Int32 := if i = 0 then E.b else hA E (i - 1)
def hR (i : Nat) : Int32 := if i = 0 then E.r else E.ty (2 * (i - 1))
def ys (i : Nat) : Int32 := hs (hcnd E (E.ty (2 * i)) (E.ty (2 * i + 1)) (hA E i) (hB E i) (hR E i) (nI (E.m + i))) 12
def RW : Nat → Nat
  | 0 => 1
  | i + 1 => RW i * pcI (ys E i)
end HEARD
theorem RW_le (E : En) : ∀ i, RW E i ≤ 12 ^ i
  | 0 => by simp [RW]
  | i + 1 => by rw [RW, Nat.pow_succ]; exact Nat.mul_le_mul (RW_le E i) (pc_hs _)
theorem RW_le8 (E : En) {i : Nat} (hi : i ≤ 8) : RW E i ≤ 429981696 := Nat.le_trans (RW_le E i) (Nat.le_trans (Nat.pow_le_pow_right (by omega) hi) (by decide))
theorem RW_zero (E : En) : ∀ d i, RW E i = 0 → RW E (i + d) = 0
  | 0, i, h => h
  | d + 1, i, h => by rw [show i + (d + 1) = (i + d) + 1 by omega, RW, RW_zero E d i h, Nat.zero_mul]
theorem RW_pos (E : En) (d i : Nat) (h : RW E (i + d + 1) ≠ 0) : pcI (ys E i) ≠ 0 := by
  intro z
  have h1 : RW E (i + 1) = 0 := by
    show RW E i * pcI (ys E i) = 0
    rw [z, Nat.mul_zero]
  have h2 := RW_zero E d (i + 1) h1
  rw [show i + 1 + d = i + d + 1 by omega] at h2
  exact h h2
def lI (n : Nat) : Int64 := Int64.ofNat n
theorem lI_toInt {n : Nat} (h : n < 2 ^ 63) : (lI n).toInt = n := Int64.toInt_ofNat_of_lt h
theorem lI_mul {a b : Nat} (hb : b < 2 ^ 31) (h : a * b < 2 ^ 63) (ha : a < 2 ^ 63) : lI a * (nI b).toInt64 = lI (a * b) := by
  rw [← Int64.toInt_inj, Int64.toInt_mul, i32_64, nI_toInt hb, lI_toInt ha, lI_toInt h, ← Int.natCast_mul]
  rw [Int.bmod_eq_of_le] <;> omega
theorem lgc_eq (x y : Int64) : lg_cmp x y = 0 ↔ x.toInt = y.toInt := by
  constructor
  · intro h
    have h1 : ¬ x.toInt < y.toInt := fun z => by have := (lgc_lt x y).mpr z; rw [h] at this; exact absurd this (by decide)
    have h2 : ¬ y.toInt < x.toInt := fun z => by have := (lgc_gt x y).mpr z; rw [h] at this; exact absurd this (by decide)
    omega
  · intro h
    rw [i64_eq.mpr h]; exact lg_cmp_self y
theorem lgc_le (x y : Int64) : lg_cmp x y ≤ 0 ↔ x.toInt ≤ y.toInt := by
  have h := lgc_gt x y
  rw [i32_lt] at h
  rw [i32_le]
  simp only [tIall] at h ⊢
  constructor
  · intro q; by_cases hc : x.toInt ≤ y.toInt
    · exact hc
    · have := h.mpr (by omega); omega
  · intro q; by_cases hc : (lg_cmp x y).toInt ≤ 0
    · exact hc
    · have := h.mp (by omega); omega
theorem lI_eq0 {n : Nat} (h : n < 2 ^ 63) : lg_cmp (lI n) 0 = 0 ↔ n = 0 := by
  rw [lgc_eq, lI_toInt h, show (0 : Int64).toInt = 0 from rfl]; omega
theorem lI_le0 {n : Nat} (h : n < 2 ^ 63) : lg_cmp (lI n) 0 ≤ 0 ↔ n = 0 := by
  rw [lgc_le, lI_toInt h, show (0 : Int64).toInt = 0 from rfl]; omega
/-- what is answered: w is the place (J) or 10 more, or -1 -/
def hAns (E : En) (n J : Nat) (w : Int32) : Int64 := if w = -1 then lI (RW E n) else if w < 10 then (if RW E n = 0 then -2 else (nI (nthB (ys E J) 25 0 0)).toInt64) else (if RW E n = 0 then 0 else (ys E J).toInt64)
def hAs (E : En) (J : Nat) (w : Int32) (i : Nat) : Int32 := if w ≠ -1 ∧ J < i then ys E J else 0
theorem ys25 (E : En) (J : Nat) : ∀ k, 25 ≤ k → k < 32 → tb (ys E J) k = false := fun k h1 h2 => by
  unfold ys; rw [hs_bits _ 12 k (by omega) h2, decide_eq_false (by omega)]; rfl
theorem heard184 {E : En} {n J : Nat} {w : Int32} (hn : n ≤ 8) (hJ : w ≠ -1 → J < n) (g : AHp) : m_X11_heardAnswer_184 w (lI (RW E n)) (hAs E J w n) g = some (hAns E n J w, g) := by
  have h8 := RW_le8 E hn
  unfold m_X11_heardAnswer_184 hAns
  by_cases h1 : w = -1
  · rw [if_pos h1, if_pos h1]
  rw [if_neg h1, if_neg h1]
  have has : hAs E J w n = ys E J := if_pos ⟨h1, hJ h1⟩
  rw [has]
  by_cases h0 : RW E n = 0
  · simp only [if_pos ((lI_eq0 (n := RW E n) (by omega)).mpr h0), if_pos h0]
    split <;> rfl
  · simp only [if_neg (fun z => h0 ((lI_eq0 (n := RW E n) (by omega)).mp z)), if_neg h0]
    have hp := RW_pos E (n - 1 - J) J (by have := hJ h1; rw [show J + (n - 1 - J) + 1 = n by omega]; exact h0)
    have e := placeC (ys25 E J) g 25 0 0 FU (by omega) (by omega) (by rw [cntF_all]; omega) (by unfold FU; omega)
    unfold m_X11_placeOfBit
    rw [show m_X11_placeOfBit_4 FU (ys E J) 0 0 g = _ from e, bd_some]
    split <;> rfl
theorem heard184_0 {E : En} {n J : Nat} {w x : Int32} (h0 : RW E n = 0) (g : AHp) : m_X11_heardAnswer_184 w (lI 0) x g = some (hAns E n J w, g) := by
  unfold m_X11_heardAnswer_184 hAns
  rw [h0]
  simp only [if_pos ((lI_eq0 (n := 0) (by omega)).mpr rfl), if_true]
  repeat' split
  all_goals rfl
theorem hA_succ (E : En) (i : Nat) : hA E (i + 1) = E.ty (2 * i + 1) := by unfold hA; rw [if_neg (by omega), show i + 1 - 1 = i by omega]
theorem hB_succ (E : En) (i : Nat) : hB E (i + 1) = hA E i := by unfold hB; rw [if_neg (by omega), show i + 1 - 1 = i by omega]
theorem hR_succ (E : En) (i : Nat) : hR E (i + 1) = E.ty (2 * i) := by unfold hR; rw [if_neg (by omega), show i + 1 - 1 = i by omega]
theorem heardC {E : En} {n J : Nat} {w : Int32} (hn : n ≤ 8) (hc2 : 2 * n ≤ E.c) (hw : w = -1 ∨ (J < n ∧ (w = nI J ∨ w = nI (10 + J)))) (hg : ∀ i, i < n → (isSp (E.ty (2 * i)) && isLn (E.ty (2 * i + 1))) = true) : ∀ (d i f : Nat) (g : AHp), i + d = n → d < f → CX E g → ∃ g1, m_X11_heardAnswer_62 f (nI n) w (lI (RW E i)) (hAs E J w i) (hA E i) (hB E i) (hR E i) (nI i) g = some (hAns E n J w, g1) ∧ Ch PC g g1 ∧ CX E g1 := by
  have hc := E.hc
  have hm := E.hm
  have hJ : w ≠ -1 → J < n := fun z => by rcases hw with h | h; exact absurd h z; exact h.1
  have hrb : ∀ i, i ≤ n → -1 ≤ (hR E i).toInt ∧ (hR E i).toInt ≤ 5 := fun i hi => by
    unfold hR; split
    · exact E.hr
    · have := hg (i - 1) (by omega)
      rw [Bool.and_eq_true] at this
      have := of_decide_eq_true this.1
      omega
  intro d
  induction d with
  | zero =>
    intro i f g hi hf x
    obtain ⟨f, rfl⟩ : ∃ a, f = a + 1 := ⟨f - 1, by omega⟩
    have : i = n := by omega
    subst this
    exact ⟨g, by rw [m_X11_heardAnswer_62, if_pos (nI_le (Nat.le_refl _) (by omega)), heard184 hn hJ], Ch.rf, x⟩
  | succ d ih =>
    intro i f g hi hf x
    obtain ⟨f, rfl⟩ : ∃ a, f = a + 1 := ⟨f - 1, by omega⟩
    have h8 := RW_le8 E (show i ≤ 8 by omega)
    rw [m_X11_heardAnswer_62, if_neg (nI_ge (by omega) (by omega))]
    by_cases h0 : RW E i = 0
    · refine ⟨g, ?_, Ch.rf, x⟩
      rw [if_pos ((lI_le0 (by omega)).mpr h0), h0, heard184_0 (n := n) (J := J)]
      have := RW_zero E (d + 1) i h0
      rw [hi] at this; exact this
    rw [if_neg (fun z => h0 ((lI_le0 (by omega)).mp z))]
    have hgi := hg i (by omega)
    rw [Bool.and_eq_true] at hgi
    have hsp := of_decide_eq_true hgi.1
    obtain ⟨es, cs, xs, ss⟩ := x.stand (hA E i) (hB E i) (hR E i) (nI (E.m + i))
    obtain ⟨g1, e1, c1, x1⟩ := thingsInC (l := E.ty (2 * i + 1)) hsp (hrb i (by omega)) 12 0 FU _ (by omega) (by unfold FU; omega) xs ss
    have e1' : m_X9_thingsIn (E.ty (2 * i)) (E.ty (2 * i + 1)) (stH g (hA E i) (hB E i) (hR E i) (nI (E.m + i))) = some (ys E i, g1) := e1
    rw [show (2 : Int32) * nI i = nI (2 * i) from pk_mul 2 i, x.byte (by omega), bd_some, nI_1, x.byte (by omega), bd_some, x.1, nI_add, es, bd_some, e1', bd_some, bitCountC, bd_some]
    have hpc : pcI (ys E i) ≤ 12 := pc_hs _
    have hmul : RW E i * pcI (ys E i) ≤ 429981696 * 12 := Nat.mul_le_mul h8 hpc
    rw [lt_eq, lI_mul (by omega) (by omega) (by omega), show RW E i * pcI (ys E i) = RW E (i + 1) from rfl]
    obtain ⟨g2, e2, c2, x2⟩ := ih (i + 1) f g1 (by omega) (by omega) x1
    rw [hA_succ, hB_succ, hR_succ] at e2
    have cc := (cs.trans c1).trans c2
    by_cases hq1 : w = nI i
    · have hJi : J = i := by
        rcases hw with h | ⟨h1, h | h⟩
        · rw [h] at hq1; exact absurd hq1.symm (nI_ne_m1 (by omega))
        · rw [h, i32_eq, nI_toInt (by omega), nI_toInt (by omega)] at hq1; omega
        · rw [h, i32_eq, nI_toInt (by omega), nI_toInt (by omega)] at hq1; omega
      have has : hAs E J w (i + 1) = ys E i := by unfold hAs; rw [if_pos ⟨by rw [hq1]; exact nI_ne_m1 (by omega), by omega⟩, hJi]
      rw [has] at e2
      refine ⟨g2, ?_, cc, x2⟩
      rw [if_pos hq1, lt_eq, nI_1, e2]
    · rw [if_neg hq1, show (10 : Int32) + nI i = nI (10 + i) from nI_add 10 i]
      by_cases hq2 : w = nI (10 + i)
      · have hJi : J = i := by
          rcases hw with h | ⟨h1, h | h⟩
          · rw [h] at hq2; exact absurd hq2.symm (nI_ne_m1 (by omega))
          · rw [h, i32_eq, nI_toInt (by omega), nI_toInt (by omega)] at hq2; omega
          · rw [h, i32_eq, nI_toInt (by omega), nI_toInt (by omega)] at hq2; omega
        have has : hAs E J w (i + 1) = ys E i := by unfold hAs; rw [if_pos ⟨by rw [hq2]; exact nI_ne_m1 (by omega), by omega⟩, hJi]
        rw [has] at e2
        refine ⟨g2, ?_, cc, x2⟩
        rw [if_pos hq2, lt_eq, nI_1, e2]
      · have has : hAs E J w (i + 1) = hAs E J w i := by
          unfold hAs
          by_cases hw1 : w = -1
          · rw [if_neg (fun z => z.1 hw1), if_neg (fun z => z.1 hw1)]
          · have hJi : J ≠ i := fun z => by
              rcases hw with h | ⟨h1, h | h⟩
              · exact hw1 h
              · exact hq1 (by rw [h, z])
              · exact hq2 (by rw [h, z])
            by_cases hlt : J < i
            · rw [if_pos ⟨hw1, by omega⟩, if_pos ⟨hw1, hlt⟩]
            · rw [if_neg (fun z => by omega), if_neg (fun z => by omega)]
        rw [has] at e2
        refine ⟨g2, ?_, cc, x2⟩
        rw [if_neg hq2, lt_eq, nI_1, e2]
