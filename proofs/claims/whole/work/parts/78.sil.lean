/-! silenced: the class -/
def anyT (p : Nat → Bool) : Nat → Bool
  | 0 => false
  | n + 1 => anyT p n || p n
theorem anyT_iff {p : Nat → Bool} : ∀ n, anyT p n = true ↔ ∃ t, t < n ∧ p t = true
  | 0 => by simp [anyT]
  | n + 1 => by
    rw [anyT, Bool.or_eq_true, anyT_iff n]
    constructor
    · rintro (⟨t, h1, h2⟩ | h)
      · exact ⟨t, by omega, h2⟩
      · exact ⟨n, by omega, h⟩
    · rintro ⟨t, h1, h2⟩
      by_cases ht : t = n
      · subst ht; exact Or.inr h2
      · exact Or.inl ⟨t, by omega, h2⟩
theorem anyT_congr {p q : Nat → Bool} : ∀ n, (∀ t, t < n → p t = q t) → anyT p n = anyT q n
  | 0, _ => rfl
  | n + 1, h => by rw [anyT, anyT, anyT_congr n (fun t ht => h t (by omega)), h n (by omega)]
theorem anyT_and {p : Nat → Bool} (b : Bool) : ∀ n, anyT (fun t => p t && b) n = (anyT p n && b)
  | 0 => by simp [anyT]
  | n + 1 => by rw [anyT, anyT, anyT_and b n]; cases b <;> simp
def En.anyOk (E : En) (s things a b r k : Int32) (j : Nat) : Bool := anyT (fun t => tb things t && tb (E.siz t) j && E.ok 1 s (nI t) a b r k j) 12
theorem mo_t {col : Nat → Int32} {s t t2 a b r k l : Int32} {i : Nat} (hi : i ≠ 1) : mo col s t a b r k l i = mo col s t2 a b r k l i := by
  rcases i with _ | _ | _ | _ | _ | _ | _ | _ | i
  · rfl
  · exact absurd rfl hi
  all_goals rfl
theorem msk1 (E : En) : E.msk 1 = maskB E.cl0 := by
  unfold En.msk
  rw [if_pos (by rfl), if_neg (by decide), or0]
theorem letsAny_l {E : En} {s a b r k things L : Int32} (hs : 0 ≤ s.toInt ∧ s.toInt ≤ 5) (hr : -1 ≤ r.toInt ∧ r.toInt ≤ 5) (hL : ∀ j, j < 32 → tb L j = true → 1 ≤ j ∧ j ≤ 24) {fl : Bool} (hfl : fl = tb (E.msk 1) 1) : ∀ (d t f : Nat) (x5 : Int32) (g : AHp), t + d = 12 → d < f → CX E g → StC g a b r k → (∀ j, j < 32 → tb x5 j = (tb L j && anyT (fun t => tb things t && tb (E.siz t) j && (!fl || E.ok 1 s (nI t) a b r k j)) t)) →
    ∃ y g1, m_X9_letsAny_25 f s things L (if fl = true then 1 else 0) x5 (nI t) g = some (y, g1) ∧ Ch PCl g g1 ∧ CX E g1 ∧ StC g1 a b r k ∧ ∀ j, j < 32 → tb y j = (tb L j && E.anyOk s things a b r k j) := by
  intro d
  induction d with
  | zero =>
    intro t f x5 g ht hf x st hx5
    obtain ⟨f, rfl⟩ : ∃ a, f = a + 1 := ⟨f - 1, by omega⟩
    have : t = 12 := by omega
    subst this
    rw [m_X9_letsAny_25, if_pos (by decide)]
    cases hq : fl with
    | true =>
      rw [i01_t, if_neg one_ne]
      refine ⟨x5, g, rfl, Ch.rf, x, st, fun j hj => ?_⟩
      rw [hx5 j hj, hq]; unfold En.anyOk; simp
    | false =>
      rw [i01_f, if_pos rfl]
      have key : ∀ j, E.anyOk s things a b r k j = (anyT (fun t => tb things t && tb (E.siz t) j && (!fl || E.ok 1 s (nI t) a b r k j)) 12 && E.ok 1 s 0 a b r k j) := fun j => by
        unfold En.anyOk
        rw [← anyT_and]
        refine anyT_congr 12 (fun t ht => ?_)
        rw [hq, Bool.not_false, Bool.true_or, Bool.and_true]
        rw [show E.ok 1 s (nI t) a b r k j = E.ok 1 s 0 a b r k j from x.dep (fun i hi hb => mo_t (fun h1 => by rw [h1, ← hfl, hq] at hb; cases hb))]
      by_cases h0 : x5 = 0
      · rw [if_pos h0]
        refine ⟨x5, g, rfl, Ch.rf, x, st, fun j hj => ?_⟩
        rw [key j, ← Bool.and_assoc, ← hx5 j hj, h0, tb_zero]; rfl
      · rw [if_neg h0]
        obtain ⟨y, g1, e1, c1, x1, s1, q1⟩ := x.ask st 1 0 hs hr x5 (fun j hj hb => hL j hj (by rw [hx5 j hj] at hb; simp only [Bool.and_eq_true] at hb; exact hb.1))
        rw [e1, bd_some]
        refine ⟨y, g1, rfl, c1, x1, s1, fun j hj => ?_⟩
        rw [q1 j hj, hx5 j hj, key j, Bool.and_assoc]
  | succ d ih =>
    intro t f x5 g ht hf x st hx5
    obtain ⟨f, rfl⟩ : ∃ a, f = a + 1 := ⟨f - 1, by omega⟩
    rw [m_X9_letsAny_25, if_neg (show ¬ 12 ≤ nI t from nI_ge (a := t) (b := 12) (by omega) (by omega))]
    cases hth : tb things t with
    | false =>
      rw [if_pos ((hasC (by omega)).mpr hth), lt_eq, nI_1]
      exact ih (t + 1) f x5 g (by omega) (by omega) x st (fun j hj => by rw [hx5 j hj, anyT, hth]; simp)
    | true =>
      have ect : (nI t).toNatClampNeg = t := nI_clamp (by omega)
      rw [if_neg (fun z => by rw [(hasC (by omega)).mp z] at hth; cases hth), gd_pos (inb_nI (by omega) (by omega)), ect, x.2.2.2.1.2, lt_eq]
      have hv5 : ∀ j, j < 32 → tb (((E.siz t) &&& L) &&& (x5 ^^^ (-1))) j = (tb (E.siz t) j && tb L j && !tb x5 j) := fun j hj => by
        rw [tb_and, tb_and, tb_xor, tb_m1 hj, Bool.xor_true]
      generalize ((E.siz t) &&& L) &&& (x5 ^^^ (-1)) = v5 at hv5
      cases hq : fl with
      | false =>
        rw [i01_f, if_pos rfl, lt_eq, lt_eq, nI_1]
        have := ih (t + 1) f (x5 ||| v5) g (by omega) (by omega) x st (fun j hj => by
          rw [tb_or, hv5 j hj, anyT, Bool.and_or_distrib_left, ← hx5 j hj, hth, hq]
          cases tb x5 j <;> cases tb L j <;> cases tb (E.siz t) j <;> rfl)
        rw [hq, i01_f] at this
        exact this
      | true =>
        rw [i01_t, if_neg one_ne]
        by_cases h0 : v5 = 0
        · rw [if_pos h0, lt_eq, lt_eq, nI_1]
          have := ih (t + 1) f (x5 ||| v5) g (by omega) (by omega) x st (fun j hj => by
            have hz := hv5 j hj
            rw [h0, tb_zero] at hz
            rw [tb_or, h0, tb_zero, anyT, Bool.and_or_distrib_left, ← hx5 j hj, hth, hq]
            revert hz
            cases tb x5 j <;> cases tb L j <;> cases tb (E.siz t) j <;> simp)
          rw [hq, i01_t] at this
          exact this
        · rw [if_neg h0]
          obtain ⟨y, g1, e1, c1, x1, s1, q1⟩ := x.ask st 1 (nI t) hs hr v5 (fun j hj hb => hL j hj (by rw [hv5 j hj] at hb; simp only [Bool.and_eq_true] at hb; exact hb.1.2))
          rw [e1, bd_some, lt_eq, lt_eq, nI_1]
          obtain ⟨y2, g2, e2, c2, x2, s2, q2⟩ := ih (t + 1) f (x5 ||| y) g1 (by omega) (by omega) x1 s1 (fun j hj => by
            rw [tb_or, q1 j hj, hv5 j hj, anyT, Bool.and_or_distrib_left, ← hx5 j hj, hth, hq]
            cases tb x5 j <;> cases tb L j <;> cases tb (E.siz t) j <;> simp)
          rw [hq, i01_t] at e2
          exact ⟨y2, g2, e2, c1.trans c2, x2, s2, q2⟩
theorem CX.any {E : En} {g : AHp} {s a b r k things L : Int32} (x : CX E g) (st : StC g a b r k) (hs : 0 ≤ s.toInt ∧ s.toInt ≤ 5) (hr : -1 ≤ r.toInt ∧ r.toInt ≤ 5) (hL : ∀ j, j < 32 → tb L j = true → 1 ≤ j ∧ j ≤ 24) :
    ∃ y g1, m_X9_letsAny s things L g = some (y, g1) ∧ Ch PCl g g1 ∧ CX E g1 ∧ StC g1 a b r k ∧ ∀ j, j < 32 → tb y j = (tb L j && E.anyOk s things a b r k j) := by
  have l0 := x.2.2.2.2.1.1
  unfold m_X9_letsAny
  rw [gd_pos l0.1, l0.2.2.2.1, ← msk1]
  have h := letsAny_l (E := E) (things := things) hs hr hL rfl 12 0 FU 0 g (by omega) (by unfold FU; omega) x st (fun j hj => by rw [tb_zero, anyT, Bool.and_false])
  cases hq : tb (E.msk 1) 1 with
  | false =>
    rw [hq, i01_f] at h
    rw [if_pos ((tb_second _).mpr hq)]; exact h
  | true =>
    rw [hq, i01_t] at h
    rw [if_neg (fun z => by rw [(tb_second _).mp z] at hq; cases hq)]; exact h
/-! the best of some values, turned -/
def tri (v : Int32) : Prop := v = -1 ∨ v = 0 ∨ v = 1
def IsB (p : Nat → Bool) (v : Nat → Int32) (R : Int32) : Prop := -1 ≤ R.toInt ∧ (R = -1 ∨ ∃ l, 1 ≤ l ∧ l ≤ 24 ∧ p l = true ∧ R = -(v l)) ∧ ∀ l, 1 ≤ l → l ≤ 24 → p l = true → (-(v l)).toInt ≤ R.toInt
theorem IsB.uniq {p : Nat → Bool} {v : Nat → Int32} {R S : Int32} (x : IsB p v R) (y : IsB p v S) : R = S := by
  rw [i32_eq]
  obtain ⟨x1, x2, x3⟩ := x
  obtain ⟨y1, y2, y3⟩ := y
  have h1 : R.toInt ≤ S.toInt := by
    rcases x2 with h | ⟨l, a1, a2, a3, a4⟩
    · rw [h]; exact y1
    · rw [a4]; exact y3 l a1 a2 a3
  have h2 : S.toInt ≤ R.toInt := by
    rcases y2 with h | ⟨l, a1, a2, a3, a4⟩
    · rw [h]; exact x1
    · rw [a4]; exact x3 l a1 a2 a3
  omega
def bst (p : Nat → Bool) (v : Nat → Int32) : Nat → Int32
  | 0 => -1
  | l + 1 => if p (l + 1) = true then (if bst p v l < -(v (l + 1)) then -(v (l + 1)) else bst p v l) else bst p v l
theorem bst_ge (p : Nat → Bool) (v : Nat → Int32) : ∀ n, -1 ≤ (bst p v n).toInt
  | 0 => by show -1 ≤ (-1 : Int32).toInt; decide
  | n + 1 => by
    have := bst_ge p v n
    rw [bst]; split
    · split
      · rename_i h; rw [i32_lt] at h; omega
      · exact this
    · exact this
theorem bst_mono (p : Nat → Bool) (v : Nat → Int32) : ∀ n, (bst p v n).toInt ≤ (bst p v (n + 1)).toInt := fun n => by
  rw [bst]; split
  · split
    · rename_i h; rw [i32_lt] at h; omega
    · exact Int.le_refl _
  · exact Int.le_refl _
theorem bst_up (p : Nat → Bool) (v : Nat → Int32) : ∀ n l, 1 ≤ l → l ≤ n → p l = true → (-(v l)).toInt ≤ (bst p v n).toInt
  | 0, l, h1, h2, _ => by omega
  | n + 1, l, h1, h2, hp => by
    by_cases hl : l = n + 1
    · subst hl
      rw [bst, if_pos hp]
      split
      · exact Int.le_refl _
      · rename_i h; rw [i32_lt] at h; omega
    · exact Int.le_trans (bst_up p v n l h1 (by omega) hp) (bst_mono p v n)
theorem bst_ex (p : Nat → Bool) (v : Nat → Int32) : ∀ n, bst p v n = -1 ∨ ∃ l, 1 ≤ l ∧ l ≤ n ∧ p l = true ∧ bst p v n = -(v l)
  | 0 => Or.inl rfl
  | n + 1 => by
    have h := bst_ex p v n
    rw [bst]
    by_cases hp : p (n + 1) = true
    · rw [if_pos hp]
      by_cases hq : bst p v n < -(v (n + 1))
      · rw [if_pos hq]; exact Or.inr ⟨n + 1, by omega, by omega, hp, rfl⟩
      · rw [if_neg hq]
        rcases h with h | ⟨l, a1, a2, a3⟩
        · exact Or.inl h
        · exact Or.inr ⟨l, a1, by omega, a3⟩
    · rw [if_neg hp]
      rcases h with h | ⟨l, a1, a2, a3⟩
      · exact Or.inl h
      · exact Or.inr ⟨l, a1, by omega, a3⟩
theorem bst_isB (p : Nat → Bool) (v : Nat → Int32) : IsB p v (bst p v 24) := ⟨bst_ge p v 24, bst_ex p v 24, fun l h1 h2 hp => bst_up p v 24 l h1 h2 hp⟩
theorem tri_neg {v : Int32} (h : tri v) : tri (-v) := by rcases h with rfl | rfl | rfl <;> unfold tri <;> decide
theorem bst_tri {p : Nat → Bool} {v : Nat → Int32} (hv : ∀ l, tri (v l)) (n : Nat) : tri (bst p v n) := by
  rcases bst_ex p v n with h | ⟨l, _, _, _, h⟩
  · rw [h]; exact Or.inl rfl
  · rw [h]; exact tri_neg (hv l)
theorem tri_b {v : Int32} (h : tri v) : -1 ≤ v.toInt ∧ v.toInt ≤ 1 := by rcases h with rfl | rfl | rfl <;> decide
theorem bst_top {p : Nat → Bool} {v : Nat → Int32} (hv : ∀ l, tri (v l)) : ∀ d n, 1 ≤ (bst p v n).toInt → bst p v (n + d) = bst p v n
  | 0, n, _ => rfl
  | d + 1, n, h => by
    have h1 := tri_b (bst_tri (p := p) hv (n + d))
    have h2 := tri_b (tri_neg (hv (n + d + 1)))
    have e := bst_top hv d n h
    rw [show n + (d + 1) = (n + d) + 1 by omega, bst, e]
    rw [e] at h1
    split
    · rw [if_neg (by rw [i32_lt]; omega)]
    · rfl
theorem bst_congr {p q : Nat → Bool} {v w : Nat → Int32} : ∀ n, (∀ l, 1 ≤ l → l ≤ n → p l = q l) → (∀ l, 1 ≤ l → l ≤ n → q l = true → v l = w l) → bst p v n = bst q w n
  | 0, _, _ => rfl
  | n + 1, h1, h2 => by
    rw [bst, bst, bst_congr n (fun l a b => h1 l a (by omega)) (fun l a b c => h2 l a (by omega) c), h1 (n + 1) (by omega) (by omega)]
    by_cases hq : q (n + 1) = true
    · rw [if_pos hq, if_pos hq, h2 (n + 1) (by omega) (by omega) hq]
    · rw [if_neg hq, if_neg hq]
/-- what comes out from place i on -/
def sv (F : Nat → Nat → Nat → Nat → Bool) : Nat → Nat → Nat → Nat → Int32
  | 0, _, _, _ => 0
  | d + 1, i, a, b => bst (F i a b) (fun l => sv F d (i + 1) l a) 24
theorem sv_tri (F : Nat → Nat → Nat → Nat → Bool) : ∀ d i a b, tri (sv F d i a b)
  | 0, _, _, _ => Or.inr (Or.inl rfl)
  | d + 1, i, a, b => bst_tri (fun l => sv_tri F d (i + 1) l a) 24
theorem sv_dep {F : Nat → Nat → Nat → Nat → Bool} {pa pb : Prop} (hF : ∀ i a b a2 b2 l, (pa → a = a2) → (pb → b = b2) → F i a b l = F i a2 b2 l) : ∀ d i a b a2 b2, (pa ∨ pb → a = a2) → (pb → b = b2) → sv F d i a b = sv F d i a2 b2
  | 0, _, _, _, _, _, _, _ => rfl
  | d + 1, i, a, b, a2, b2, h1, h2 => by
    rw [sv, sv]
    exact bst_congr 24 (fun l _ _ => hF i a b a2 b2 l (fun z => h1 (Or.inl z)) h2) (fun l _ _ _ => sv_dep hF d (i + 1) l a l a2 (fun _ => rfl) (fun z => h1 (Or.inr z)))
