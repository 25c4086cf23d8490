/-! any talk: what is known to be good; the search -/
section BRK
variable {E : En} {A : APar} {c : Nat}
def GD (E : En) (A : APar) (g : AHp) : Prop := ∀ L, L < 5 → ∃ k, k ≤ 8 ∧ hI g 59 L = nI k ∧ ∀ i, i < k → ∃ S, fr (FA E A) A.K (A.n - L) L S = none ∧ ∀ b, b ≤ 24 → ∀ j, j < 32 → tb (hI g 58 ((L * 8 + i) * 25 + b)) j = imgA E S j b
theorem GD.ch {P : Nat → Nat → Bool} {h g : AHp} (x : GD E A h) (ch : Ch P h g) (hp : ∀ i, P 58 i = false ∧ P 59 i = false) : GD E A g := by
  unfold GD at x ⊢
  rw [ch.r (k := 58) (fun i => (hp i).1), ch.r (k := 59) (fun i => (hp i).2)]; exact x
theorem sub0 (x y : Int32) : (x &&& (y ^^^ (-1)) = 0) ↔ ∀ j, j < 32 → tb x j = true → tb y j = true := by
  rw [tb_eq0]
  constructor
  · intro h j hj hx
    have := h j hj
    rw [tb_and, tb_xor, tb_m1 hj, hx, Bool.true_and, Bool.xor_true] at this
    simpa using this
  · intro h j hj
    rw [tb_and, tb_xor, tb_m1 hj, Bool.xor_true]
    cases hx : tb x j with
    | false => rfl
    | true => rw [h j hj hx]; rfl
theorem known23 {lv i : Nat} {g : AHp} (hlv : lv < 5) (hi : i < 8) (k2 : Int32 → Int32 → AHp → Option (Int32 × AHp)) : ∀ (d b f : Nat), b + d = 25 → d < f → (∀ u, u < b → ∀ j, j < 32 → tb (hI g 58 ((lv * 8 + i) * 25 + u)) j = true → tb (hI g 57 (lv * 25 + u)) j = true) →
    (m_X0_isKnownGood_23 k2 f (nI lv) (nI i) 1 (nI b) g = some (1, g) ∧ ∀ u, u ≤ 24 → ∀ j, j < 32 → tb (hI g 58 ((lv * 8 + i) * 25 + u)) j = true → tb (hI g 57 (lv * 25 + u)) j = true) ∨ m_X0_isKnownGood_23 k2 f (nI lv) (nI i) 1 (nI b) g = k2 (nI lv) (nI (i + 1)) g := by
  intro d
  induction d with
  | zero =>
    intro b f hb hf hq
    obtain ⟨f, rfl⟩ : ∃ a, f = a + 1 := ⟨f - 1, by omega⟩
    have : b = 25 := by omega
    subst this
    left
    exact ⟨by rw [m_X0_isKnownGood_23, if_pos (by decide), if_neg one_ne], fun u hu => hq u (by omega)⟩
  | succ d ih =>
    intro b f hb hf hq
    obtain ⟨f, rfl⟩ : ∃ a, f = a + 1 := ⟨f - 1, by omega⟩
    have e1 : (((nI lv * 8) + nI i) * 25) + nI b = nI ((lv * 8 + i) * 25 + b) := by
      rw [show nI lv * 8 = nI (lv * 8) from pk_mul lv 8, nI_add, show nI (lv * 8 + i) * 25 = nI ((lv * 8 + i) * 25) from pk_mul _ 25, nI_add]
    have e2 : (nI lv * 25) + nI b = nI (lv * 25 + b) := by rw [show nI lv * 25 = nI (lv * 25) from pk_mul lv 25, nI_add]
    rw [m_X0_isKnownGood_23, if_neg (show ¬ 25 ≤ nI b from nI_ge (a := b) (b := 25) (by omega) (by omega)), if_neg one_ne]
    simp only [e1, e2, lt_eq, nI_1]
    rw [if_neg (show ¬ 1000 ≤ nI ((lv * 8 + i) * 25 + b) from nI_ge (a := (lv * 8 + i) * 25 + b) (b := 1000) (by omega) (by omega))]
    simp only [gd_pos (inb_nI (n := (lv * 8 + i) * 25 + b) (N := 1000) (by omega) (by omega)), gd_pos (inb_nI (n := lv * 25 + b) (N := 150) (by omega) (by omega)), nI_clamp (n := (lv * 8 + i) * 25 + b) (show (lv * 8 + i) * 25 + b < 2 ^ 31 by omega), nI_clamp (n := lv * 25 + b) (show lv * 25 + b < 2 ^ 31 by omega)]
    by_cases hs : (hI g 58 ((lv * 8 + i) * 25 + b)) &&& ((hI g 57 (lv * 25 + b)) ^^^ (-1)) = 0
    · rw [if_pos hs]
      exact ih (b + 1) f (by omega) (by omega) (fun u hu => by
        by_cases h : u = b
        · rw [h]; exact (sub0 _ _).mp hs
        · exact hq u (by omega))
    · rw [if_neg hs]
      right
      obtain ⟨f, rfl⟩ : ∃ a, f = a + 1 := ⟨f - 1, by omega⟩
      rw [m_X0_isKnownGood_23]
      by_cases h25 : (25 : Int32) ≤ nI (b + 1)
      · rw [if_pos h25, if_pos rfl, lt_eq, nI_1]
      · rw [if_neg h25, if_pos rfl, if_pos rfl, lt_eq, nI_1]
theorem knownC {lv : Nat} {g : AHp} {S : Nat → Nat → Bool} (hlv : lv < A.n) (x : CX E g) (ri : RI E g lv S) (gd0 : GD E A g) : ∃ v, m_X0_isKnownGood (nI lv) g = some (v, g) ∧ (v = 0 ∨ (v = 1 ∧ fr (FA E A) A.K (A.n - lv) lv S = none)) := by
  have hn := A.hn
  obtain ⟨k, hk, e59, hgood⟩ := gd0 lv (by omega)
  have loop : ∀ (d i f : Nat), i + d = k → d < f → ∃ v, m_X0_isKnownGood_2 f (nI lv) (nI i) g = some (v, g) ∧ (v = 0 ∨ (v = 1 ∧ fr (FA E A) A.K (A.n - lv) lv S = none)) := by
    intro d
    induction d with
    | zero =>
      intro i f hi hf
      obtain ⟨f, rfl⟩ : ∃ a, f = a + 1 := ⟨f - 1, by omega⟩
      refine ⟨0, ?_, Or.inl rfl⟩
      rw [m_X0_isKnownGood_2, gd_pos (inb_nI (n := lv) (N := 5) (by omega) (by omega)), nI_clamp (by omega), e59, if_pos (nI_le (by omega) (by omega))]
    | succ d ih =>
      intro i f hi hf
      obtain ⟨f, rfl⟩ : ∃ a, f = a + 1 := ⟨f - 1, by omega⟩
      rw [m_X0_isKnownGood_2, gd_pos (inb_nI (n := lv) (N := 5) (by omega) (by omega)), nI_clamp (by omega), e59, if_neg (nI_ge (by omega) (by omega)), if_neg (show ¬ 8 ≤ nI i from nI_ge (a := i) (b := 8) (by omega) (by omega))]
      rcases known23 (g := g) (show lv < 5 by omega) (show i < 8 by omega) (m_X0_isKnownGood_2 f) 25 0 FU (by omega) (by unfold FU; omega) (fun u hu => by omega) with ⟨h1, h2⟩ | h1
      · refine ⟨1, h1, Or.inr ⟨rfl, ?_⟩⟩
        obtain ⟨T, hT, hbT⟩ := hgood i (by omega)
        refine fr_mono (ka := ka E) (kb := kb E) A.hK.1 (fun i q a b a2 b2 l u1 u2 => FA_dep x i q a b a2 b2 l u1 u2) (fun a a2 h => kab h) (A.n - lv) lv T S (fun a b ha hb hs => ?_) hT
        have hj : ka E a < 32 := by have := ka_le (E := E) ha; omega
        have t1 : tb (hI g 58 ((lv * 8 + i) * 25 + kb E b)) (ka E a) = true := by
          rw [hbT _ (kb_le hb) _ hj]; exact imgA_iff.mpr ⟨a, b, ha, hb, hs, rfl, rfl⟩
        have t2 := h2 _ (kb_le hb) _ hj t1
        rw [ri _ (kb_le hb) _ hj] at t2
        obtain ⟨a2, b2, u1, u2, u3, u4, u5⟩ := imgA_iff.mp t2
        exact ⟨a2, b2, u1, u2, u3, u4, u5⟩
      · rw [show m_X0_isKnownGood_23 (m_X0_isKnownGood_2 f) FU (nI lv) (nI i) 1 0 g = _ from h1]
        exact ih (i + 1) f (by omega) (by omega)
  exact loop k 0 FU (by omega) (by unfold FU; omega)
theorem rememberC {lv : Nat} {g : AHp} {S : Nat → Nat → Bool} (hlv : lv < A.n) (ri : RI E g lv S) (gd0 : GD E A g) (hS : fr (FA E A) A.K (A.n - lv) lv S = none) : ∃ g1, m_X0_rememberGood (nI lv) g = some ((), g1) ∧ GD E A g1 ∧ Ch (fun k _ => k == 58 || k == 59) g g1 := by
  have hn := A.hn
  obtain ⟨k, hk, e59, hgood⟩ := gd0 lv (by omega)
  have e1 : ((nI lv * 8) + nI k) * 25 = nI ((lv * 8 + k) * 25) := by
    rw [show nI lv * 8 = nI (lv * 8) from pk_mul lv 8, nI_add, show nI (lv * 8 + k) * 25 = nI ((lv * 8 + k) * 25) from pk_mul _ 25]
  have e2 : nI lv * 25 = nI (lv * 25) := pk_mul lv 25
  unfold m_X0_rememberGood
  simp only [gd_pos (inb_nI (n := lv) (N := 5) (by omega) (by omega)), nI_clamp (n := lv) (show lv < 2 ^ 31 by omega), e59, e1, e2, lt_eq]
  by_cases h8 : k = 8
  · refine ⟨g, ?_, gd0, Ch.rf⟩
    rw [if_pos (show 8 ≤ nI k from by rw [h8]; decide)]
  rw [if_neg (show ¬ 8 ≤ nI k from nI_ge (a := k) (b := 8) (by omega) (by omega)), show nI ((lv * 8 + k) * 25) + 25 = nI ((lv * 8 + k) * 25 + 25) from nI_add _ 25, if_neg (show ¬ 1000 < nI ((lv * 8 + k) * 25 + 25) from nI_nlt (a := 1000) (b := (lv * 8 + k) * 25 + 25) (by omega) (by omega))]
  rw [gd_pos (by
    rw [nI_clamp (n := lv * 25) (by omega), nI_clamp (n := (lv * 8 + k) * 25) (by omega), show (25 : Int32).toNatClampNeg = 25 from rfl]
    exact ⟨nI_pos (by omega), nI_pos (by omega), by decide, by omega, by omega⟩)]
  rw [nI_clamp (n := lv * 25) (by omega), nI_clamp (n := (lv * 8 + k) * 25) (by omega), show (25 : Int32).toNatClampNeg = 25 from rfl]
  have e59b : hI (sR g 58 (va_cpy (hI g 57) (hI g 58) (lv * 25) ((lv * 8 + k) * 25) 25)) 59 lv = nI k := by rw [hI_sR, if_neg (by omega), e59]
  rw [e59b, nI_1]
  refine ⟨_, rfl, fun L hL => ?_, (Ch.rf.sR (fun _ => rfl)).sI rfl⟩
  have o58 : ∀ z, (z < (lv * 8 + k) * 25 ∨ (lv * 8 + k) * 25 + 25 ≤ z) → hI (sI (sR g 58 (va_cpy (hI g 57) (hI g 58) (lv * 25) ((lv * 8 + k) * 25) 25)) 59 lv (nI (k + 1))) 58 z = hI g 58 z := fun z hz => by
    rw [hI_sI, if_neg (by omega), hI_sR, if_pos rfl]; unfold va_cpy; rw [if_neg (by omega)]
  by_cases hLl : L = lv
  · subst hLl
    refine ⟨k + 1, by omega, sI_same _ _ _ _, fun i hi => ?_⟩
    by_cases hik : i = k
    · subst hik
      refine ⟨S, hS, fun b hb j hj => ?_⟩
      rw [hI_sI, if_neg (by omega), hI_sR, if_pos rfl]
      unfold va_cpy
      rw [if_pos (by omega), show L * 25 + ((L * 8 + i) * 25 + b - (L * 8 + i) * 25) = L * 25 + b by omega]
      exact ri b hb j hj
    · obtain ⟨T, hT, hbT⟩ := hgood i (by omega)
      exact ⟨T, hT, fun b hb j hj => by rw [o58 _ (by omega)]; exact hbT b hb j hj⟩
  · obtain ⟨k2, hk2, e592, hg2⟩ := gd0 L hL
    refine ⟨k2, hk2, by rw [hI_sI, if_neg (by omega), hI_sR, if_neg (by omega), e592], fun i hi => ?_⟩
    obtain ⟨T, hT, hbT⟩ := hg2 i hi
    exact ⟨T, hT, fun b hb j hj => by rw [o58 _ (by omega)]; exact hbT b hb j hj⟩
theorem fillC {lv : Nat} : ∀ (d i f : Nat) (g : AHp), i + d = A.n → d < f → AX E A g → ∃ g1, m_X0_fillBehind_4 f (nI i) g = some ((), g1) ∧ (∀ j, i ≤ j → j < A.n → hI g1 60 j = nI (A.kd 0)) ∧ (∀ j, j < i → hI g1 60 j = hI g 60 j) ∧ Ch (fun k z => k == 60 && Nat.ble i z) g g1 := by
  have hn := A.hn
  intro d
  induction d with
  | zero =>
    intro i f g hi hf ax
    obtain ⟨f, rfl⟩ : ∃ a, f = a + 1 := ⟨f - 1, by omega⟩
    exact ⟨g, by rw [m_X0_fillBehind_4, ax.1.2.1, if_pos (nI_le (by omega) (by omega))], fun j h1 h2 => by omega, fun _ _ => rfl, Ch.rf⟩
  | succ d ih =>
    intro i f g hi hf ax
    obtain ⟨f, rfl⟩ : ∃ a, f = a + 1 := ⟨f - 1, by omega⟩
    rw [m_X0_fillBehind_4, ax.1.2.1, if_neg (nI_ge (by omega) (by omega)), if_neg (show ¬ 5 ≤ nI i from nI_ge (a := i) (b := 5) (by omega) (by omega)), gd_pos (inb_nI (by omega) (by omega)), nI_clamp (by omega), show (0 : Int32).toNatClampNeg = 0 from rfl, ax.2 0 (by have := A.hK; omega), lt_eq, lt_eq, nI_1]
    have cw : Ch (fun k z => k == 60 && Nat.ble i z) g (sI g 60 i (nI (A.kd 0))) := Ch.rf.sI (by
      rw [Nat.ble_eq_true_of_le (Nat.le_refl i)]; rfl)
    obtain ⟨g1, e1, q1, q2, c1⟩ := ih (i + 1) f (sI g 60 i (nI (A.kd 0))) (by omega) (by omega) (ax.ch cw (fun _ => ⟨rfl, rfl⟩))
    refine ⟨g1, e1, fun j h1 h2 => ?_, fun j h1 => ?_, cw.trans (c1.mono (fun k z hp => by
      simp only [Bool.and_eq_false_iff] at hp ⊢
      rcases hp with h | h
      · exact Or.inl h
      · exact Or.inr (ble_f.mpr (by have := ble_f.mp h; omega))))⟩
    · by_cases hj : j = i
      · rw [hj, q2 i (by omega), sI_same]
      · exact q1 j (by omega) h2
    · rw [q2 j (by omega), hI_sI, if_neg (by omega)]
abbrev PVb0 (lv : Nat) : Nat → Nat → Bool := fun k i => PC k i || k == 32 || k == 58 || k == 59 || (k == 57 && Nat.ble ((lv + 1) * 25) i) || (k == 60 && Nat.ble lv i)
theorem ble_mono {a b i : Nat} (h : a ≤ b) (hp : Nat.ble a i = false) : Nat.ble b i = false := ble_f.mpr (Nat.lt_of_lt_of_le (ble_f.mp hp) h)
theorem PVb_up {lv k i : Nat} (hp : PVb0 lv k i = false) : PVb0 (lv + 1) k i = false := by
  simp only [Bool.or_eq_false_iff, Bool.and_eq_false_iff] at hp ⊢
  refine ⟨⟨hp.1.1, ?_⟩, ?_⟩
  · rcases hp.1.2 with h | h
    · exact Or.inl h
    · exact Or.inr (ble_mono (Nat.mul_le_mul_right 25 (Nat.le_succ _)) h)
  · rcases hp.2 with h | h
    · exact Or.inl h
    · exact Or.inr (ble_mono (Nat.le_succ _) h)
theorem P60_b {lv k i : Nat} (hp : PVb0 lv k i = false) : (k == 60 && Nat.ble (lv + 1) i) = false := by
  simp only [Bool.or_eq_false_iff, Bool.and_eq_false_iff] at hp ⊢
  rcases hp.2 with h | h
  · exact Or.inl h
  · exact Or.inr (ble_mono (Nat.le_succ _) h)
/-- what a search below a level may change -/
abbrev PVb (lv : Nat) : Nat → Nat → Bool := fun k i => PC k i || k == 32 || k == 58 || k == 59 || (k == 57 && Nat.ble ((lv + 1) * 25) i) || (k == 60 && Nat.ble lv i)
theorem pvr_pvb {lv : Nat} {h g : AHp} (c : Ch (PVr lv) h g) : Ch (PVb lv) h g := c.mono (fun k i hp => by
  simp only [Bool.or_eq_false_iff] at hp ⊢; exact ⟨hp.1.1.1.1, hp.1.2⟩)
theorem breaksC : ∀ (d lv f : Nat) (S : Nat → Nat → Bool) (g : AHp), lv + d = A.n → d < f → CX E g → AX E A g → MG g c (GA E A) → (lv < A.n → RI E g lv S) → GD E A g →
    ∃ g1, m_X0_breaks f (nI lv) g = some (if (fr (FA E A) A.K d lv S).isSome = true then 1 else 0, g1) ∧ CX E g1 ∧ AX E A g1 ∧ MG g1 c (GA E A) ∧ GD E A g1 ∧ (∀ r, fr (FA E A) A.K d lv S = some r → ∀ j, j < d → hI g1 60 (lv + j) = nI (A.kd (r / A.K ^ (d - 1 - j) % A.K))) ∧ Ch (PVb lv) g g1 := by
  have hn := A.hn
  have hK := A.hK
  intro d
  induction d with
  | zero =>
    intro lv f S g hl hf x ax mg ri gd0
    obtain ⟨f, rfl⟩ : ∃ a, f = a + 1 := ⟨f - 1, by omega⟩
    refine ⟨g, ?_, x, ax, mg, gd0, fun r h => (by cases h), Ch.rf⟩
    rw [m_X0_breaks]; unfold m_X0_breaks_b
    rw [if_neg (nI_pos (by omega)), ax.1.2.1, if_pos (nI_le (by omega) (by omega))]; rfl
  | succ d ih =>
    intro lv f S g hl hf x ax mg ri0 gd0
    obtain ⟨f, rfl⟩ : ∃ a, f = a + 1 := ⟨f - 1, by omega⟩
    have ri := ri0 (by omega)
    obtain ⟨v, ev, hv⟩ := knownC (A := A) (show lv < A.n by omega) x ri gd0
    rw [m_X0_breaks]; unfold m_X0_breaks_b
    rw [if_neg (nI_pos (by omega)), ax.1.2.1, if_neg (nI_ge (by omega) (by omega)), ev, bd_some]
    rw [show A.n - lv = d + 1 by omega] at hv
    rcases hv with rfl | ⟨rfl, hnone⟩
    rotate_left
    · refine ⟨g, ?_, x, ax, mg, gd0, (fun r h => by rw [hnone] at h; cases h), Ch.rf⟩
      rw [if_neg one_ne, hnone]; rfl
    rw [if_pos rfl]
    /- the loop over kinds -/
    have loop : ∀ (e q f2 : Nat) (g2 : AHp), q + e = A.K → e < f2 → CX E g2 → AX E A g2 → MG g2 c (GA E A) → RI E g2 lv S → GD E A g2 → (∀ u, u < q → (if anyA (FA E A) lv u S = true then (fr (FA E A) A.K d (lv + 1) (nxtA (FA E A) lv u S)).map (fun r => u * A.K ^ d + r) else some (u * A.K ^ d)) = none) →
        ∃ g1, m_X0_breaks_b_24 (m_X0_breaks f) f2 (nI lv) (nI q) g2 = some (if (fr (FA E A) A.K (d + 1) lv S).isSome = true then 1 else 0, g1) ∧ CX E g1 ∧ AX E A g1 ∧ MG g1 c (GA E A) ∧ GD E A g1 ∧ (∀ r, fr (FA E A) A.K (d + 1) lv S = some r → ∀ j, j < d + 1 → hI g1 60 (lv + j) = nI (A.kd (r / A.K ^ (d + 1 - 1 - j) % A.K))) ∧ Ch (PVb lv) g2 g1 := by
      have found : ∀ q r, q < A.K → (∀ u, u < q → (if anyA (FA E A) lv u S = true then (fr (FA E A) A.K d (lv + 1) (nxtA (FA E A) lv u S)).map (fun r => u * A.K ^ d + r) else some (u * A.K ^ d)) = none) → (if anyA (FA E A) lv q S = true then (fr (FA E A) A.K d (lv + 1) (nxtA (FA E A) lv q S)).map (fun r => q * A.K ^ d + r) else some (q * A.K ^ d)) = some r → fr (FA E A) A.K (d + 1) lv S = some r := by
        intro q r hq hlow hs
        cases hfr : fr (FA E A) A.K (d + 1) lv S with
        | none =>
          have := (frS_none A.K 0).mp hfr q (Nat.zero_le _) (by omega)
          rw [hs] at this; cases this
        | some r2 =>
          obtain ⟨u, h1, h2, h3, h4⟩ := frS_some A.K 0 r2 hfr
          have hu : u = q := by
            rcases Nat.lt_trichotomy u q with h | h | h
            · have := hlow u h; rw [this] at h3; cases h3
            · exact h
            · have := h4 q (Nat.zero_le _) h; rw [hs] at this; cases this
          subst hu
          rw [hs] at h3; rw [← h3]
      intro e
      induction e with
      | zero =>
        intro q f2 g2 hq hf2 x2 ax2 mg2 ri2 gd2 hlow
        obtain ⟨f2, rfl⟩ : ∃ a, f2 = a + 1 := ⟨f2 - 1, by omega⟩
        have hnone : fr (FA E A) A.K (d + 1) lv S = none := (frS_none A.K 0).mpr (fun u _ h2 => hlow u (by omega))
        obtain ⟨g3, e3, gd3, c3⟩ := rememberC (A := A) (show lv < A.n by omega) ri2 gd2 (by rw [show A.n - lv = d + 1 by omega]; exact hnone)
        refine ⟨g3, ?_, x2.po (c3.mono (fun k i hp => by simp only [Bool.or_eq_false_iff, Bool.and_eq_false_iff, beq_eq_false_iff_ne, ble_f] at hp ⊢; omega)), ax2.ch c3 (fun _ => ⟨rfl, rfl⟩), mg2.ch c3 rfl (fun _ => rfl), gd3, (fun r h => by rw [hnone] at h; cases h), c3.mono (fun k i hp => ?_)⟩
        · rw [m_X0_breaks_b_24, ax2.1.1, if_pos (nI_le (by omega) (by omega)), e3, bd_some, hnone]; rfl
        · simp only [Bool.or_eq_false_iff] at hp ⊢; exact ⟨hp.1.1.1.2, hp.1.1.2⟩
      | succ e ihe =>
        intro q f2 g2 hq hf2 x2 ax2 mg2 ri2 gd2 hlow
        obtain ⟨f2, rfl⟩ : ∃ a, f2 = a + 1 := ⟨f2 - 1, by omega⟩
        have cw : Ch (PVb lv) g2 (sI g2 60 lv (nI (A.kd q))) := Ch.rf.sI (by
          simp only [Bool.or_eq_true, Bool.and_eq_true, beq_self_eq_true, true_and]
          exact Or.inr (Nat.ble_eq_true_of_le (Nat.le_refl _)))
        have cw60 : Ch (fun k _ => k == 60) g2 (sI g2 60 lv (nI (A.kd q))) := Ch.rf.sI rfl
        have x3 : CX E (sI g2 60 lv (nI (A.kd q))) := x2.po (Ch.rf.sI rfl)
        have ax3 := ax2.ch cw60 (fun _ => ⟨rfl, rfl⟩)
        have ri3 : RI E (sI g2 60 lv (nI (A.kd q))) lv S := fun b hb j hj => by rw [cw60.i rfl]; exact ri2 b hb j hj
        obtain ⟨g4, e4, x4, ax4, mg4, ri4, c4⟩ := advanceC (A := A) (q := q) (show lv < A.n by omega) (by omega) x3 ax3 (mg2.ch cw60 rfl (fun _ => rfl)) ri3
        have gd4 := (gd2.ch cw60 (fun _ => ⟨rfl, rfl⟩)).ch c4 (fun _ => ⟨rfl, rfl⟩)
        have row4 : hI g4 60 lv = nI (A.kd q) := by rw [c4.i rfl, sI_same]
        have c24 := cw.trans (pvr_pvb c4)
        rw [m_X0_breaks_b_24, ax2.1.1, if_neg (nI_ge (by omega) (by omega)), if_neg (show ¬ 4 ≤ nI q from nI_ge (a := q) (b := 4) (by omega) (by omega))]
        simp only [gd_pos (inb_nI (n := q) (N := 4) (by omega) (by omega)), gd_pos (inb_nI (n := lv) (N := 5) (by omega) (by omega)), nI_clamp (n := q) (show q < 2 ^ 31 by omega), nI_clamp (n := lv) (show lv < 2 ^ 31 by omega), lt_eq, nI_1]
        rw [ax2.2 q (by omega), e4, bd_some]
        cases hany : anyA (FA E A) lv q S with
        | false =>
          have hfr := found q (q * A.K ^ d) (by omega) hlow (by rw [if_neg (by rw [hany]; simp)])
          obtain ⟨g5, e5, q5, o5, c5⟩ := fillC (A := A) (lv := lv) d (lv + 1) FU g4 (by omega) (by unfold FU; omega) ax4
          have c5' : Ch PO g4 g5 := c5.mono (fun k i hp => by simp only [Bool.or_eq_false_iff, Bool.and_eq_false_iff, beq_eq_false_iff_ne, ble_f] at hp ⊢; omega)
          have c5b : Ch (PVb lv) g4 g5 := c5.mono (fun k i hp => P60_b hp)
          refine ⟨g5, ?_, x4.po c5', ax4.ch c5 (fun _ => ⟨rfl, rfl⟩), mg4.ch c5 rfl (fun _ => rfl), gd4.ch c5 (fun _ => ⟨rfl, rfl⟩), fun r h j hj => ?_, c24.trans c5b⟩
          · rw [i01_f, if_pos rfl]
            unfold m_X0_fillBehind
            rw [nI_1, lt_eq]
            rw [e5, bd_some, hfr]; rfl
          · rw [hfr] at h; cases h
            by_cases hj0 : j = 0
            · subst hj0
              rw [Nat.add_zero, o5 lv (by omega), row4]
              rw [show d + 1 - 1 - 0 = d by omega]
              have := dig_top hK.1 (d := d) (q := q) (r := 0) (by omega) (Nat.pow_pos hK.1)
              rw [Nat.add_zero] at this; rw [this]
            · rw [q5 (lv + j) (by omega) (by omega)]
              have := dig_low hK.1 (d := d) (e := d + 1 - 1 - j) (q := q) (r := 0) (by omega)
              rw [Nat.add_zero] at this
              rw [this, Nat.zero_div, Nat.zero_mod]
        | true =>
          obtain ⟨g5, e5, x5, ax5, mg5, gd5, row5, c5⟩ := ih (lv + 1) f (nxtA (FA E A) lv q S) g4 (by omega) (by omega) x4 ax4 mg4 ri4 gd4
          have c5b : Ch (PVb lv) g4 g5 := c5.mono (fun k i hp => PVb_up hp)
          have row5lv : hI g5 60 lv = nI (A.kd q) := by
            rw [c5.i (k := 60) (i := lv) (show Nat.ble (lv + 1) lv = false from ble_f.mpr (Nat.lt_succ_self _)), row4]
          have ri5 : RI E g5 lv S := fun b hb j hj => by
            have h1 : Nat.ble ((lv + 1 + 1) * 25) (lv * 25 + b) = false := ble_f.mpr (by omega)
            have h2 : Nat.ble ((lv + 1) * 25) (lv * 25 + b) = false := ble_f.mpr (by omega)
            rw [c5.i (k := 57) (i := lv * 25 + b) (show (Nat.ble ((lv + 1 + 1) * 25) (lv * 25 + b) || false) = false by rw [h1]; rfl), c4.i (k := 57) (i := lv * 25 + b) (show Nat.ble ((lv + 1) * 25) (lv * 25 + b) = false from h2)]
            exact ri3 b hb j hj
          rw [i01_t, if_neg one_ne, e5, bd_some]
          cases hfd : fr (FA E A) A.K d (lv + 1) (nxtA (FA E A) lv q S) with
          | none =>
            rw [show (none : Option Nat).isSome = false from rfl, i01_f, if_pos rfl]
            obtain ⟨g6, e6, x6, ax6, mg6, gd6, row6, c6⟩ := ihe (q + 1) f2 g5 (by omega) (by omega) x5 ax5 mg5 ri5 gd5 (fun u hu => by
              by_cases huq : u = q
              · subst huq; rw [if_pos hany, hfd]; rfl
              · exact hlow u (by omega))
            exact ⟨g6, e6, x6, ax6, mg6, gd6, row6, (c24.trans c5b).trans c6⟩
          | some r =>
            have hrl := fr_lt hK.1 d (lv + 1) _ r hfd
            have hfr := found q (q * A.K ^ d + r) (by omega) hlow (by rw [if_pos hany, hfd]; rfl)
            rw [show (some r : Option Nat).isSome = true from rfl, i01_t, if_neg one_ne]
            refine ⟨g5, by rw [hfr]; rfl, x5, ax5, mg5, gd5, fun r2 h j hj => ?_, c24.trans c5b⟩
            rw [hfr] at h; cases h
            by_cases hj0 : j = 0
            · subst hj0
              rw [Nat.add_zero, row5lv, show d + 1 - 1 - 0 = d by omega, dig_top hK.1 (by omega) hrl]
            · have := row5 r hfd (j - 1) (by omega)
              rw [show lv + 1 + (j - 1) = lv + j by omega] at this
              rw [this, dig_low hK.1 (by omega), show d - 1 - (j - 1) = d + 1 - 1 - j by omega]
    obtain ⟨g1, e1, x1, ax1, mg1, gd1, row1, c1⟩ := loop A.K 0 FU g (by omega) (by unfold FU; omega) x ax mg ri gd0 (fun u hu => by omega)
    exact ⟨g1, e1, x1, ax1, mg1, gd1, row1, c1⟩
end BRK
