/-! silenced: the reference -/
theorem standsBehindM {E : En} {g : AHp} (x : RX E g) {i : Nat} (hi : i ≤ 12) (a b : Int32) : ∃ g1, m_X12_standsBehind (nI i) a b g = some ((), g1) ∧ Ch PSt g g1 ∧ RX E g1 ∧ StM g1 a b (if i = 0 then E.r else hI g 97 (i - 1)) (nI (E.m + i)) := by
  have hm := E.hm
  unfold m_X12_standsBehind
  simp only [lt_eq, hI_sI, Nat.reduceEqDiff, false_and, and_false, true_and, and_true, reduceIte]
  rw [x.1, nI_add]
  by_cases h0 : i = 0
  · subst h0
    rw [if_pos (show nI 0 ≤ 0 from by decide)]
    by_cases hm0 : E.m = 0
    · rw [if_pos (by rw [hm0]; decide)]
      have c : Ch PSt g (sI (sI (sI (sI g 70 39 (nI (E.m + 0))) 70 36 a) 70 37 b) 70 38 (-1)) := (((Ch.rf.sI rfl).sI rfl).sI rfl).sI rfl
      refine ⟨_, rfl, c, x.pmo (pst_pmo c), rfl, rfl, ?_, rfl⟩
      have hr := x.2.2.2.2.2.2
      unfold spkR at hr
      rw [if_neg (by omega)] at hr
      rw [if_pos rfl, ← hr]; rfl
    · rw [if_neg (nI_nle (by omega) (by omega)), show nI E.m - 1 = nI (E.m - 1) from pk_sub (a := E.m) (b := 1) (by omega), gd_pos (inb_nI (by omega) (by omega)), nI_clamp (by omega)]
      have c : Ch PSt g (sI (sI (sI (sI g 70 39 (nI (E.m + 0))) 70 36 a) 70 37 b) 70 38 (hI g 94 (E.m - 1))) := (((Ch.rf.sI rfl).sI rfl).sI rfl).sI rfl
      refine ⟨_, rfl, c, x.pmo (pst_pmo c), rfl, rfl, ?_, rfl⟩
      have hr := x.2.2.2.2.2.2
      unfold spkR at hr
      rw [if_pos (by omega)] at hr
      rw [if_pos rfl, ← hr]; rfl
  · rw [if_neg (nI_nle (by omega) (by omega)), show nI i - 1 = nI (i - 1) from pk_sub (a := i) (b := 1) (by omega), gd_pos (inb_nI (by omega) (by omega)), nI_clamp (by omega)]
    have c : Ch PSt g (sI (sI (sI (sI g 70 39 (nI (E.m + i))) 70 36 a) 70 37 b) 70 38 (hI g 97 (i - 1))) := (((Ch.rf.sI rfl).sI rfl).sI rfl).sI rfl
    exact ⟨_, rfl, c, x.pmo (pst_pmo c), rfl, rfl, by rw [if_neg h0]; rfl, rfl⟩
theorem startPairM {E : En} {g : AHp} (x : RX E g) {an bn : Nat} (ea : E.a = nI an) (eb : E.b = nI bn) : m_X12_startPair g = some (nI (25 * an + bn), g) := by
  unfold m_X12_startPair
  rw [x.lenAM, bd_some, x.lenBM, bd_some, ea, eb, show (25 : Int32) * nI an = nI (25 * an) from pk_mul 25 an, nI_add]
theorem pair_div {a b : Nat} (ha : a ≤ 24) (hb : b ≤ 24) : nI (25 * a + b) / 25 = nI a := by
  have := pk_div (a := 25 * a + b) (d := 25) (by omega) (by omega) (by omega)
  rw [show (25 * a + b) / 25 = a by omega] at this; exact this
theorem pair_mod {a b : Nat} (ha : a ≤ 24) (hb : b ≤ 24) : nI (25 * a + b) - nI (25 * a + b) / 25 * 25 = nI b := by
  have := pk_rem (a := 25 * a + b) (d := 25) (by omega) (by omega) (by omega)
  rw [show (25 * a + b) % 25 = b by omega] at this; exact this
theorem pairBehindM {a b l : Nat} (ha : a ≤ 24) (hb : b ≤ 24) (g : AHp) : m_X12_pairBehind (nI (25 * a + b)) (nI l) g = some (nI (25 * l + a), g) := by
  unfold m_X12_pairBehind
  rw [pair_div ha hb, show (25 : Int32) * nI l = nI (25 * l) from pk_mul 25 l, nI_add]
theorem better (x y : Int32) (g : AHp) : m_X12_betterOf x y g = some (if x < y then y else x, g) := by
  unfold m_X12_betterOf
  by_cases h : x < y
  · rw [if_pos (by rw [i32_lt] at h; rw [i32_le]; omega), if_pos h]
  · rw [if_neg h]
    by_cases h2 : x ≤ y
    · rw [if_pos h2, show y = x from by rw [i32_eq]; rw [i32_lt] at h; rw [i32_le] at h2; omega]
    · rw [if_neg h2]
/-- the best so far, of lengths below l of thing t and all lengths of things below t -/
theorem comesOut52 {i a b t : Nat} {y : Int32} (s ths : Int32) (ha : a ≤ 24) (hb : b ≤ 24) (hi : i ≤ 5) (k19 : Int32 → Int32 → Int32 → Int32 → Int32 → Int32 → AHp → Option (Int32 × AHp)) (g : AHp) : ∀ (d l f : Nat) (best : Int32), l + d = 25 → 1 ≤ l → d < f → ∃ R, m_X12_comesOut_52 k19 f (nI i) (nI (25 * a + b)) s ths best (nI t) y (nI l) g = k19 (nI i) (nI (25 * a + b)) s ths R (nI (t + 1)) g ∧ best.toInt ≤ R.toInt ∧ (R = best ∨ ∃ j, l ≤ j ∧ j ≤ 24 ∧ tb y j = true ∧ R = -(hI g 108 (625 * (i + 1) + (25 * j + a)))) ∧ ∀ j, l ≤ j → j ≤ 24 → tb y j = true → (-(hI g 108 (625 * (i + 1) + (25 * j + a)))).toInt ≤ R.toInt := by
  intro d
  induction d with
  | zero =>
    intro l f best hl h1 hf
    obtain ⟨f, rfl⟩ : ∃ a, f = a + 1 := ⟨f - 1, by omega⟩
    have : l = 25 := by omega
    subst this
    exact ⟨best, by rw [m_X12_comesOut_52, if_pos (by decide), lt_eq, nI_1], Int.le_refl _, Or.inl rfl, fun j h1 h2 _ => by omega⟩
  | succ d ih =>
    intro l f best hl h1 hf
    obtain ⟨f, rfl⟩ : ∃ a, f = a + 1 := ⟨f - 1, by omega⟩
    rw [m_X12_comesOut_52, if_neg (show ¬ 24 < nI l from nI_nlt (a := 24) (b := l) (by omega) (by omega)), hasM _ (by omega), bd_some]
    cases hy : tb y l with
    | false =>
      rw [i01_f, if_pos rfl, lt_eq, nI_1]
      obtain ⟨R, e1, q0, q1, q2⟩ := ih (l + 1) f best (by omega) (by omega) (by omega)
      refine ⟨R, e1, q0, ?_, fun j h1 h2 h3 => ?_⟩
      · rcases q1 with h | ⟨j, a1, a2⟩
        · exact Or.inl h
        · exact Or.inr ⟨j, by omega, a2⟩
      · by_cases hj : j = l
        · rw [hj, hy] at h3; cases h3
        · exact q2 j (by omega) h2 h3
    | true =>
      rw [i01_t, if_neg one_ne, pairBehindM ha hb, bd_some, nI_1, show (625 : Int32) * nI (i + 1) = nI (625 * (i + 1)) from pk_mul 625 (i + 1), nI_add, gd_pos (inb_nI (by omega) (by omega)), nI_clamp (by omega), better, bd_some, lt_eq, nI_1]
      obtain ⟨R, e1, q0, q1, q2⟩ := ih (l + 1) f (if best < -(hI g 108 (625 * (i + 1) + (25 * l + a))) then -(hI g 108 (625 * (i + 1) + (25 * l + a))) else best) (by omega) (by omega) (by omega)
      refine ⟨R, e1, ?_, ?_, fun j h1 h2 h3 => ?_⟩
      · by_cases h : best < -(hI g 108 (625 * (i + 1) + (25 * l + a)))
        · rw [if_pos h] at q0; rw [i32_lt] at h; omega
        · rw [if_neg h] at q0; exact q0
      · rcases q1 with h | ⟨j, a1, a2⟩
        · by_cases h4 : best < -(hI g 108 (625 * (i + 1) + (25 * l + a)))
          · rw [if_pos h4] at h; exact Or.inr ⟨l, by omega, by omega, hy, h⟩
          · rw [if_neg h4] at h; exact Or.inl h
        · exact Or.inr ⟨j, by omega, a2⟩
      · by_cases hj : j = l
        · subst hj
          by_cases h4 : best < -(hI g 108 (625 * (i + 1) + (25 * j + a)))
          · rw [if_pos h4] at q0; exact q0
          · rw [if_neg h4] at q0; rw [i32_lt] at h4; omega
        · exact q2 j (by omega) h2 h3
theorem comesOut19 {E : En} {i a b : Nat} {s ths r : Int32} (ha : a ≤ 24) (hb : b ≤ 24) (hi : i ≤ 5) (hs : 0 ≤ s.toInt ∧ s.toInt ≤ 5) (hr : -1 ≤ r.toInt ∧ r.toInt ≤ 5) : ∀ (d t f : Nat) (best : Int32) (g : AHp), t + d = 12 → d < f → RX E g → StM g (nI a) (nI b) r (nI (E.m + i)) → ∃ R g1, m_X12_comesOut_19 f (nI i) (nI (25 * a + b)) s ths best (nI t) g = some (R, g1) ∧ Ch PWs g g1 ∧ best.toInt ≤ R.toInt ∧
      (R = best ∨ ∃ j, 1 ≤ j ∧ j ≤ 24 ∧ (∃ u, t ≤ u ∧ u < 12 ∧ (tb ths u && tb (E.siz u) j && E.ok 1 s (nI u) (nI a) (nI b) r (nI (E.m + i)) j) = true) ∧ R = -(hI g 108 (625 * (i + 1) + (25 * j + a)))) ∧
      ∀ j u, 1 ≤ j → j ≤ 24 → t ≤ u → u < 12 → (tb ths u && tb (E.siz u) j && E.ok 1 s (nI u) (nI a) (nI b) r (nI (E.m + i)) j) = true → (-(hI g 108 (625 * (i + 1) + (25 * j + a)))).toInt ≤ R.toInt := by
  intro d
  induction d with
  | zero =>
    intro t f best g ht hf x st
    obtain ⟨f, rfl⟩ : ∃ a, f = a + 1 := ⟨f - 1, by omega⟩
    have : t = 12 := by omega
    subst this
    exact ⟨best, g, by rw [m_X12_comesOut_19, if_pos (by decide)], Ch.rf, Int.le_refl _, Or.inl rfl, fun j u _ _ h3 h4 _ => by omega⟩
  | succ d ih =>
    intro t f best g ht hf x st
    obtain ⟨f, rfl⟩ : ∃ a, f = a + 1 := ⟨f - 1, by omega⟩
    rw [m_X12_comesOut_19, if_neg (show ¬ 12 ≤ nI t from nI_ge (a := t) (b := 12) (by omega) (by omega)), hasM _ (by omega), bd_some]
    cases hth : tb ths t with
    | false =>
      rw [i01_f, if_pos rfl, lt_eq, nI_1]
      obtain ⟨R, g1, e1, c1, q0, q1, q2⟩ := ih (t + 1) f best g (by omega) (by omega) x st
      refine ⟨R, g1, e1, c1, q0, ?_, fun j u h1 h2 h3 h4 h5 => ?_⟩
      · rcases q1 with h | ⟨j, a1, a2, ⟨u, b1, b2⟩, a3⟩
        · exact Or.inl h
        · exact Or.inr ⟨j, a1, a2, ⟨u, by omega, b2⟩, a3⟩
      · by_cases hu : u = t
        · rw [hu, hth] at h5; simp at h5
        · exact q2 j u h1 h2 (by omega) h4 h5
    | true =>
      have htt : 0 ≤ (nI t).toInt ∧ (nI t).toInt ≤ 11 := by rw [nI_toInt (by omega)]; omega
      have ect : (nI t).toNatClampNeg = t := nI_clamp (by omega)
      obtain ⟨y, g1, e1, c1, x1, s1, q1⟩ := x.ask st 1 hs htt hr
      rw [ect] at q1
      have e108 : ∀ z, hI g1 108 z = hI g 108 z := fun z => c1.i rfl
      rw [i01_t, if_neg one_ne, e1, bd_some]
      obtain ⟨R1, e2, p0, p1, p2⟩ := comesOut52 (t := t) (y := y) s ths ha hb hi (m_X12_comesOut_19 f) g1 24 1 FU best (by omega) (by omega) (by unfold FU; omega)
      rw [show m_X12_comesOut_52 (m_X12_comesOut_19 f) FU (nI i) (nI (25 * a + b)) s ths best (nI t) y 1 g1 = _ from e2]
      obtain ⟨R, g2, e3, c3, q0, q3, q4⟩ := ih (t + 1) f R1 g1 (by omega) (by omega) x1 s1
      refine ⟨R, g2, e3, c1.trans c3, by omega, ?_, fun j u h1 h2 h3 h4 h5 => ?_⟩
      · rcases q3 with h | ⟨j, a1, a2, ⟨u, b1, b2⟩, a3⟩
        · rw [h]
          rcases p1 with h | ⟨j, a1, a2, a3, a4⟩
          · exact Or.inl h
          · rw [q1 j (by omega)] at a3
            exact Or.inr ⟨j, a1, a2, ⟨t, by omega, by omega, by rw [hth, Bool.true_and]; exact a3⟩, by rw [a4, e108]⟩
        · exact Or.inr ⟨j, a1, a2, ⟨u, by omega, b2⟩, by rw [a3, e108]⟩
      · by_cases hu : u = t
        · subst hu
          rw [hth, Bool.true_and] at h5
          have := p2 j h1 h2 (by rw [q1 j (by omega)]; exact h5)
          rw [e108] at this; omega
        · have := q4 j u h1 h2 (by omega) h4 h5
          rw [e108] at this; exact this
theorem comesOutM {E : En} {i a b : Nat} {s ths r : Int32} {g : AHp} (ha : a ≤ 24) (hb : b ≤ 24) (hi : i ≤ 5) (hs : 0 ≤ s.toInt ∧ s.toInt ≤ 5) (hr : -1 ≤ r.toInt ∧ r.toInt ≤ 5) (x : RX E g) (er : (if i = 0 then E.r else hI g 97 (i - 1)) = r) : ∃ R g1, m_X12_comesOut (nI i) (nI (25 * a + b)) s ths g = some (R, g1) ∧ Ch PMo g g1 ∧ IsB (E.anyOk s ths (nI a) (nI b) r (nI (E.m + i))) (fun l => hI g 108 (625 * (i + 1) + (25 * l + a))) R := by
  obtain ⟨g0, e0, c0, x0, s0⟩ := standsBehindM x (show i ≤ 12 by omega) (nI a) (nI b)
  rw [er] at s0
  obtain ⟨R, g1, e1, c1, q0, q1, q2⟩ := comesOut19 (ths := ths) ha hb hi hs hr 12 0 FU (-1) g0 (by omega) (by unfold FU; omega) x0 s0
  have e108 : ∀ z, hI g0 108 z = hI g 108 z := fun z => c0.i rfl
  refine ⟨R, g1, ?_, (pst_pmo c0).trans (pws_pmo c1), q0, ?_, fun l h1 h2 h3 => ?_⟩
  · unfold m_X12_comesOut
    rw [pair_mod ha hb, pair_div ha hb, e0, bd_some]
    exact e1
  · rcases q1 with h | ⟨j, a1, a2, ⟨u, b1, b2, b3⟩, a3⟩
    · exact Or.inl h
    · exact Or.inr ⟨j, a1, a2, (anyT_iff 12).mpr ⟨u, b2, b3⟩, by rw [a3, e108]⟩
  · obtain ⟨u, b2, b3⟩ := (anyT_iff 12).mp h3
    have := q2 l u h1 h2 (by omega) b2 b3
    rw [e108] at this; exact this
