theorem allSizes_l {E : En} : ∀ (d t f : Nat) (x1 : Int32) (g : AHp), t + d = 12 → d < f → CX E g → (∀ j, j < 32 → tb x1 j = anyT (fun t => tb (E.siz t) j) t) →
    ∃ y, m_X9_allSizes_4 f x1 (nI t) g = some (y, g) ∧ ∀ j, j < 32 → tb y j = anyT (fun t => tb (E.siz t) j) 12 := by
  intro d
  induction d with
  | zero =>
    intro t f x1 g ht hf x hx
    obtain ⟨f, rfl⟩ : ∃ a, f = a + 1 := ⟨f - 1, by omega⟩
    have : t = 12 := by omega
    subst this
    rw [m_X9_allSizes_4, if_pos (by decide)]
    exact ⟨x1, rfl, hx⟩
  | succ d ih =>
    intro t f x1 g ht hf x hx
    obtain ⟨f, rfl⟩ : ∃ a, f = a + 1 := ⟨f - 1, by omega⟩
    rw [m_X9_allSizes_4, if_neg (show ¬ 12 ≤ nI t from nI_ge (a := t) (b := 12) (by omega) (by omega)), gd_pos (inb_nI (by omega) (by omega)), nI_clamp (by omega), x.2.2.2.1.2, lt_eq, lt_eq, nI_1]
    exact ih (t + 1) f _ g (by omega) (by omega) x (fun j hj => by rw [tb_or, hx j hj]; rfl)
theorem CX.sizes {E : En} {g : AHp} (x : CX E g) : ∃ y, m_X9_allSizes g = some (y, g) ∧ ∀ j, j < 32 → tb y j = anyT (fun t => tb (E.siz t) j) 12 :=
  allSizes_l 12 0 FU 0 g (by omega) (by unfold FU; omega) x (fun j hj => by rw [tb_zero]; rfl)

/-- the kind of a speaker -/
def kdOf (E : En) (c : Bool) (s : Nat) : Nat := if c = true then (E.col s).toNatClampNeg else 0
/-- the first of each kind -/
def DF (E : En) (w c : Bool) (sp y : Int32) : Prop := (∀ j, j < 6 → tb y j = true → tb sp j = true) ∧ ∀ j, j < 6 → tb sp j = true → ∃ i, i < 6 ∧ tb y i = true ∧ (w = true → j = i) ∧ (c = true → E.col j = E.col i)
theorem diff_l {E : En} {w c : Bool} {sp : Int32} (hcol : ∀ i, i < 6 → 0 ≤ (E.col i).toInt ∧ (E.col i).toInt ≤ 3) : ∀ (d t f : Nat) (x5 x6 : Int32) (g : AHp), t + d = 6 → d < f → CX E g →
    (∀ j, j < 6 → tb x5 j = true → j < t ∧ tb sp j = true) →
    (∀ j, j < t → tb sp j = true → ∃ i, i < 6 ∧ tb x5 i = true ∧ (w = true → j = i) ∧ kdOf E c j = kdOf E c i) →
    (∀ n, n < 32 → tb x6 n = true → ∃ i, i < 6 ∧ tb x5 i = true ∧ kdOf E c i = n) →
    ∃ y, m_X9_differing_37 f sp (if w = true then 1 else 0) (if c = true then 1 else 0) x5 x6 (nI t) g = some (y, g) ∧ DF E w c sp y := by
  have hkd : ∀ i, i < 6 → kdOf E c i < 32 := fun i hi => by
    unfold kdOf
    split
    · exact clamp_lt (hcol i hi).1 (by have := (hcol i hi).2; omega)
    · omega
  have hck : ∀ i j, i < 6 → j < 6 → kdOf E c i = kdOf E c j → c = true → E.col i = E.col j := fun i j hi hj he hc => by
    unfold kdOf at he
    rw [if_pos hc, if_pos hc, clamp_toNat, clamp_toNat] at he
    have h1 := hcol i hi
    have h2 := hcol j hj
    exact Int32.toInt.inj (by omega)
  intro d
  induction d with
  | zero =>
    intro t f x5 x6 g ht hf x h1 h2 h3
    obtain ⟨f, rfl⟩ : ∃ a, f = a + 1 := ⟨f - 1, by omega⟩
    have : t = 6 := by omega
    subst this
    rw [m_X9_differing_37, if_pos (by decide)]
    refine ⟨x5, rfl, fun j hj hb => (h1 j hj hb).2, fun j hj hb => ?_⟩
    obtain ⟨i, hi, hb2, hw, hk⟩ := h2 j hj hb
    exact ⟨i, hi, hb2, hw, fun hc => hck j i hj hi hk hc⟩
  | succ d ih =>
    intro t f x5 x6 g ht hf x h1 h2 h3
    obtain ⟨f, rfl⟩ : ∃ a, f = a + 1 := ⟨f - 1, by omega⟩
    have hred : ∃ kk : Nat, kk = kdOf E c t ∧ m_X9_differing_37 (f + 1) sp (if w = true then 1 else 0) (if c = true then 1 else 0) x5 x6 (nI t) g = m_X9_differing_61 (m_X9_differing_37 f) sp (if w = true then 1 else 0) (if c = true then 1 else 0) x5 x6 (nI t) 1 (nI kk) g := by
      refine ⟨kdOf E c t, rfl, ?_⟩
      rw [m_X9_differing_37, if_neg (show ¬ 6 ≤ nI t from nI_ge (a := t) (b := 6) (by omega) (by omega))]
      cases hc : c with
      | false =>
        rw [i01_f, if_pos rfl]
        rfl
      | true =>
        rw [i01_t, if_neg one_ne, gd_pos (inb_nI (by omega) (by omega)), nI_clamp (by omega), x.2.2.2.1.1]
        have : nI (kdOf E true t) = E.col t := by
          have h := hcol t (by omega)
          apply Int32.toInt.inj
          unfold kdOf
          rw [if_pos rfl, clamp_toNat, nI_toInt (by omega)]
          omega
        rw [this]
    obtain ⟨kk, hkk, hred⟩ := hred
    have hk32 : kk < 32 := by rw [hkk]; exact hkd t (by omega)
    rw [hred]
    unfold m_X9_differing_61
    rw [lt_eq]
    cases hsp : tb sp t with
    | false =>
      rw [if_pos ((hasC (by omega)).mpr hsp), lt_eq, nI_1]
      refine ih (t + 1) f x5 x6 g (by omega) (by omega) x (fun j hj hb => ⟨by have := (h1 j hj hb).1; omega, (h1 j hj hb).2⟩) (fun j hj hb => ?_) h3
      by_cases hjt : j = t
      · rw [hjt, hsp] at hb; cases hb
      · exact h2 j (by omega) hb
    | true =>
      rw [if_neg (fun z => by rw [(hasC (by omega)).mp z] at hsp; cases hsp)]
      have hadd : ∃ y, m_X9_differing_85 (m_X9_differing_37 f) sp (if w = true then 1 else 0) (if c = true then 1 else 0) x5 x6 (nI t) ((1 : Int32) <<< (nI kk &&& 31)) g = some (y, g) ∧ DF E w c sp y := by
        unfold m_X9_differing_85
        rw [lt_eq, lt_eq, lt_eq, nI_1]
        refine ih (t + 1) f _ _ g (by omega) (by omega) x (fun j hj hb => ?_) (fun j hj hb => ?_) (fun n hn hb => ?_)
        · rw [tb_or, tb_bit (by omega) (by omega), Bool.or_eq_true, decide_eq_true_iff] at hb
          rcases hb with hb | hb
          · exact ⟨by have := (h1 j hj hb).1; omega, (h1 j hj hb).2⟩
          · exact ⟨by omega, by rw [hb]; exact hsp⟩
        · by_cases hjt : j = t
          · exact ⟨t, by omega, by rw [tb_or, tb_bit (by omega) (by omega)]; simp, fun _ => hjt, by rw [hjt]⟩
          · obtain ⟨i, hi, hb2, hw, hk⟩ := h2 j (by omega) hb
            exact ⟨i, hi, by rw [tb_or, hb2]; rfl, hw, hk⟩
        · rw [tb_or, tb_bit hk32 hn, Bool.or_eq_true, decide_eq_true_iff] at hb
          rcases hb with hb | hb
          · obtain ⟨i, hi, hb2, hk⟩ := h3 n hn hb
            exact ⟨i, hi, by rw [tb_or, hb2]; rfl, hk⟩
          · exact ⟨t, by omega, by rw [tb_or, tb_bit (by omega) (by omega)]; simp, by rw [hb, hkk]⟩
      cases hw : w with
      | true =>
        rw [hw] at hadd
        rw [i01_t, if_neg one_ne]
        rw [i01_t] at hadd
        exact hadd
      | false =>
        rw [hw] at hadd
        rw [i01_f, if_pos rfl]
        rw [i01_f] at hadd
        by_cases hs : x6 &&& ((1 : Int32) <<< (nI kk &&& 31)) = 0
        · rw [if_pos hs]; exact hadd
        · rw [if_neg hs, lt_eq, nI_1]
          have hb6 : tb x6 kk = true := by
            cases hq : tb x6 kk with
            | true => rfl
            | false => exact absurd ((one_bit0 x6 hk32).mpr hq) hs
          have := ih (t + 1) f x5 x6 g (by omega) (by omega) x (fun j hj hb => ⟨by have := (h1 j hj hb).1; omega, (h1 j hj hb).2⟩) (fun j hj hb => ?_) h3
          · rw [hw, i01_f] at this
            exact this
          · by_cases hjt : j = t
            · obtain ⟨i, hi, hb2, hk⟩ := h3 kk hk32 hb6
              exact ⟨i, hi, hb2, (fun h => by rw [hw] at h; cases h), by rw [hjt, hk, hkk]⟩
            · exact h2 j (by omega) hb
theorem CX.diff {E : En} {g : AHp} (x : CX E g) (hcol : ∀ i, i < 6 → 0 ≤ (E.col i).toInt ∧ (E.col i).toInt ≤ 3) (sp L : Int32) : ∃ y, m_X9_differing sp L g = some (y, g) ∧ DF E (!decide (L &&& 68 = 0)) (!decide (L &&& 136 = 0)) sp y := by
  have key : ∀ w c : Bool, ∃ y, m_X9_differing_37 FU sp (if w = true then 1 else 0) (if c = true then 1 else 0) 0 0 0 g = some (y, g) ∧ DF E w c sp y := fun w c =>
    diff_l hcol 6 0 FU 0 0 g (by omega) (by unfold FU; omega) x (fun j hj hb => by rw [tb_zero] at hb; cases hb) (fun j hj => by omega) (fun n hn hb => by rw [tb_zero] at hb; cases hb)
  unfold m_X9_differing
  by_cases h1 : L &&& 68 = 0 <;> by_cases h2 : L &&& 136 = 0
  · rw [if_pos h1, if_pos h2, decide_eq_true h1, decide_eq_true h2]; exact key false false
  · rw [if_pos h1, if_neg h2, decide_eq_true h1, decide_eq_false h2]; exact key false true
  · rw [if_neg h1, if_pos h2, decide_eq_false h1, decide_eq_true h2]; exact key true false
  · rw [if_neg h1, if_neg h2, decide_eq_false h1, decide_eq_false h2]; exact key true true
