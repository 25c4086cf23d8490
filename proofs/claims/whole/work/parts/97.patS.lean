/-! PATTERNS: rows of lengths joined -/
def JB (a b : Int32) (n : Nat) : Prop := n ≤ 24 ∧ ∃ k, k ≤ n ∧ tb b k = true ∧ tb a (n - k) = true
theorem lits31 : ∀ j, j < 32 → tb 33554431 j = decide (j ≤ 24) := by decide
theorem joined_l (a b : Int32) (h : AHp) : ∀ (d i f : Nat) (v : Int32), i + d = 25 → d < f → ∃ y, m_X4_joined_4 f a b v (nI i) h = some (y, h) ∧ ∀ n, n < 32 → (tb y n = true ↔ n ≤ 24 ∧ (tb v n = true ∨ ∃ k, i ≤ k ∧ k ≤ n ∧ tb b k = true ∧ tb a (n - k) = true)) := by
  intro d
  induction d with
  | zero =>
    intro i f v hi hf
    obtain ⟨f, rfl⟩ : ∃ a, f = a + 1 := ⟨f - 1, by omega⟩
    have : i = 25 := by omega
    subst this
    rw [m_X4_joined_4, if_pos (by decide)]
    refine ⟨_, rfl, fun n hn => ?_⟩
    rw [tb_and, lits31 n hn, Bool.and_eq_true, decide_eq_true_iff]
    constructor
    · rintro ⟨h1, h2⟩; exact ⟨h2, Or.inl h1⟩
    · rintro ⟨h2, h1 | ⟨k, h1, h3, _⟩⟩
      · exact ⟨h1, h2⟩
      · omega
  | succ d ih =>
    intro i f v hi hf
    obtain ⟨f, rfl⟩ : ∃ a, f = a + 1 := ⟨f - 1, by omega⟩
    rw [m_X4_joined_4, if_neg (show ¬ 25 ≤ nI i from nI_ge (a := i) (b := 25) (by omega) (by omega)), has_iff b (by omega)]
    simp only [lt_eq, nI_1]
    cases hb : tb b i with
    | false =>
      rw [i01_f, if_pos rfl]
      obtain ⟨y, e, r⟩ := ih (i + 1) f v (by omega) (by omega)
      refine ⟨y, e, fun n hn => (r n hn).trans ?_⟩
      refine and_congr Iff.rfl (or_congr Iff.rfl ⟨?_, ?_⟩)
      · rintro ⟨k, h1, h2⟩; exact ⟨k, by omega, h2⟩
      · rintro ⟨k, h1, h2, h3, h4⟩
        have : k ≠ i := by rintro rfl; rw [hb] at h3; cases h3
        exact ⟨k, by omega, h2, h3, h4⟩
    | true =>
      rw [i01_t, if_neg one_ne]
      obtain ⟨y, e, r⟩ := ih (i + 1) f (v ||| (a <<< (nI i &&& 31))) (by omega) (by omega)
      refine ⟨y, e, fun n hn => (r n hn).trans ?_⟩
      rw [tb_or, tb_shl a (by omega), Bool.or_eq_true, decide_eq_true hn, Bool.true_and, Bool.and_eq_true, Bool.not_eq_true', decide_eq_false_iff_not, or_assoc]
      refine and_congr Iff.rfl (or_congr Iff.rfl ⟨?_, ?_⟩)
      · rintro (⟨h1, h2⟩ | ⟨k, h1, h2⟩)
        · exact ⟨i, by omega, by omega, hb, h2⟩
        · exact ⟨k, by omega, h2⟩
      · rintro ⟨k, h1, h2, h3, h4⟩
        by_cases e : k = i
        · subst e; exact Or.inl ⟨by omega, h4⟩
        · exact Or.inr ⟨k, by omega, h2, h3, h4⟩
def jn (a b : Int32) : Int32 := ((m_X4_joined a b hE0).map Prod.fst).getD 0
theorem jn_tb (a b : Int32) {n : Nat} (hn : n < 32) : tb (jn a b) n = true ↔ JB a b n := by
  obtain ⟨y, e, r⟩ := joined_l a b hE0 25 0 FU 0 (by omega) (by unfold FU; omega)
  unfold jn m_X4_joined
  rw [show m_X4_joined_4 FU a b 0 0 hE0 = _ from e, Option.map_some, Option.getD_some, r n hn]
  unfold JB
  refine and_congr Iff.rfl ⟨?_, ?_⟩
  · rintro (h1 | ⟨k, _, h2⟩)
    · rw [tb_zero] at h1; cases h1
    · exact ⟨k, h2⟩
  · rintro ⟨k, h2⟩; exact Or.inr ⟨k, by omega, h2⟩
theorem tb_eqi {x y : Int32} (h : ∀ k, k < 32 → (tb x k = true ↔ tb y k = true)) : x = y := tb_ext (fun k hk => Bool.eq_iff_iff.mpr (h k hk))
theorem joinedC (a b : Int32) (h : AHp) : m_X4_joined a b h = some (jn a b, h) := by
  obtain ⟨y, e, r⟩ := joined_l a b h 25 0 FU 0 (by omega) (by unfold FU; omega)
  unfold m_X4_joined
  rw [show m_X4_joined_4 FU a b 0 0 h = _ from e]
  have : y = jn a b := tb_eqi (fun n hn => by
    rw [r n hn, jn_tb a b hn]
    unfold JB
    refine and_congr Iff.rfl ⟨?_, ?_⟩
    · rintro (h1 | ⟨k, _, h2⟩)
      · rw [tb_zero] at h1; cases h1
      · exact ⟨k, h2⟩
    · rintro ⟨k, h2⟩; exact Or.inr ⟨k, by omega, h2⟩)
  rw [this]
theorem behind_l (a b : Int32) (h : AHp) : ∀ (d i f : Nat) (v : Int32), i + d = 25 → d < f → ∃ y, m_X12_behind_4 f a b v (nI i) h = some (y, h) ∧ ∀ n, n < 32 → (tb y n = true ↔ n ≤ 24 ∧ (tb v n = true ∨ ∃ k, i ≤ k ∧ k ≤ n ∧ tb a k = true ∧ tb b (n - k) = true)) := by
  intro d
  induction d with
  | zero =>
    intro i f v hi hf
    obtain ⟨f, rfl⟩ : ∃ a, f = a + 1 := ⟨f - 1, by omega⟩
    have : i = 25 := by omega
    subst this
    rw [m_X12_behind_4, if_pos (by decide)]
    refine ⟨_, rfl, fun n hn => ?_⟩
    rw [tb_and, lits31 n hn, Bool.and_eq_true, decide_eq_true_iff]
    constructor
    · rintro ⟨h1, h2⟩; exact ⟨h2, Or.inl h1⟩
    · rintro ⟨h2, h1 | ⟨k, h1, h3, _⟩⟩
      · exact ⟨h1, h2⟩
      · omega
  | succ d ih =>
    intro i f v hi hf
    obtain ⟨f, rfl⟩ : ∃ a, f = a + 1 := ⟨f - 1, by omega⟩
    rw [m_X12_behind_4, if_neg (show ¬ 24 < nI i from nI_nlt (a := 24) (b := i) (by omega) (by omega)), hasM a (by omega), bd_some]
    simp only [lt_eq, nI_1]
    cases hb : tb a i with
    | false =>
      rw [i01_f, if_pos rfl]
      obtain ⟨y, e, r⟩ := ih (i + 1) f v (by omega) (by omega)
      refine ⟨y, e, fun n hn => (r n hn).trans ?_⟩
      refine and_congr Iff.rfl (or_congr Iff.rfl ⟨?_, ?_⟩)
      · rintro ⟨k, h1, h2⟩; exact ⟨k, by omega, h2⟩
      · rintro ⟨k, h1, h2, h3, h4⟩
        have : k ≠ i := by rintro rfl; rw [hb] at h3; cases h3
        exact ⟨k, by omega, h2, h3, h4⟩
    | true =>
      rw [i01_t, if_neg one_ne]
      obtain ⟨y, e, r⟩ := ih (i + 1) f (v ||| (b <<< (nI i &&& 31))) (by omega) (by omega)
      refine ⟨y, e, fun n hn => (r n hn).trans ?_⟩
      rw [tb_or, tb_shl b (by omega), Bool.or_eq_true, decide_eq_true hn, Bool.true_and, Bool.and_eq_true, Bool.not_eq_true', decide_eq_false_iff_not, or_assoc]
      refine and_congr Iff.rfl (or_congr Iff.rfl ⟨?_, ?_⟩)
      · rintro (⟨h1, h2⟩ | ⟨k, h1, h2⟩)
        · exact ⟨i, by omega, by omega, hb, h2⟩
        · exact ⟨k, by omega, h2⟩
      · rintro ⟨k, h1, h2, h3, h4⟩
        by_cases e : k = i
        · subst e; exact Or.inl ⟨by omega, h4⟩
        · exact Or.inr ⟨k, by omega, h2, h3, h4⟩
theorem behindM (a b : Int32) (h : AHp) : m_X12_behind a b h = some (jn a b, h) := by
  obtain ⟨y, e, r⟩ := behind_l a b h 25 0 FU 0 (by omega) (by unfold FU; omega)
  unfold m_X12_behind
  rw [show m_X12_behind_4 FU a b 0 0 h = _ from e]
  have : y = jn a b := tb_eqi (fun n hn => by
    rw [r n hn, jn_tb a b hn]
    unfold JB
    refine and_congr Iff.rfl ⟨?_, ?_⟩
    · rintro (h1 | ⟨k, _, h2, h3, h4⟩)
      · rw [tb_zero] at h1; cases h1
      · exact ⟨n - k, by omega, h4, by rw [show n - (n - k) = k by omega]; exact h3⟩
    · rintro ⟨k, h2, h3, h4⟩
      exact Or.inr ⟨n - k, by omega, by omega, h4, by rw [show n - (n - k) = k by omega]; exact h3⟩)
  rw [this]
/-- only lengths up to 24 -/
def msk24 (b : Int32) : Prop := ∀ k, k < 32 → tb b k = true → k ≤ 24
theorem jn_msk (a b : Int32) : msk24 (jn a b) := fun k hk h => ((jn_tb a b hk).mp h).1
theorem or_msk {a b : Int32} (ha : msk24 a) (hb : msk24 b) : msk24 (a ||| b) := fun k hk h => by
  rw [tb_or, Bool.or_eq_true] at h
  exact h.elim (ha k hk) (hb k hk)
theorem jn_one {b : Int32} (hb : msk24 b) : jn 1 b = b := tb_eqi (fun n hn => by
  rw [jn_tb 1 b hn]
  constructor
  · rintro ⟨h1, k, h2, h3, h4⟩
    rw [tb_one, decide_eq_true_iff] at h4
    rw [show n = k by omega]; exact h3
  · intro h
    exact ⟨hb n hn h, n, Nat.le_refl _, h, by rw [Nat.sub_self, tb_one]; rfl⟩)
def rpJ (b : Int32) : Nat → Int32
  | 0 => b
  | k + 1 => jn (rpJ b k) b
def plJ (b : Int32) : Nat → Int32
  | 0 => b
  | k + 1 => plJ b k ||| jn (plJ b k) b
theorem rpJ_msk {b : Int32} (hb : msk24 b) : ∀ k, msk24 (rpJ b k)
  | 0 => hb
  | k + 1 => jn_msk _ _
theorem plJ_msk {b : Int32} (hb : msk24 b) : ∀ k, msk24 (plJ b k)
  | 0 => hb
  | k + 1 => or_msk (plJ_msk hb k) (jn_msk _ _)
def RpS (b : Int32) : Nat → Nat → Prop
  | 0, n => n = 0
  | j + 1, n => ∃ m k, RpS b j m ∧ tb b k = true ∧ n = m + k
theorem RpS_drop (b : Int32) : ∀ j n, RpS b (j + 1) n → n ≤ j → RpS b j n := by
  intro j
  induction j with
  | zero => intro n _ h; show n = 0; omega
  | succ j ih =>
    rintro n ⟨m, k, h1, h2, h3⟩ hn
    by_cases h0 : k = 0
    · rw [show n = m by omega]; exact h1
    · exact ⟨m, k, ih m h1 (by omega), h2, h3⟩
theorem plJ_iff {b : Int32} (hb : msk24 b) : ∀ i n, n < 32 → (tb (plJ b i) n = true ↔ n ≤ 24 ∧ ∃ j, j ≤ i ∧ RpS b (j + 1) n) := by
  intro i
  induction i with
  | zero =>
    intro n hn
    constructor
    · intro h
      exact ⟨hb n hn h, 0, Nat.le_refl _, 0, n, rfl, h, by omega⟩
    · rintro ⟨h1, j, hj, h2⟩
      have : j = 0 := by omega
      subst this
      obtain ⟨m, k, h3, h4, h5⟩ := h2
      have : m = 0 := h3
      rw [show n = k by omega]; exact h4
  | succ i ih =>
    intro n hn
    show tb (plJ b i ||| jn (plJ b i) b) n = true ↔ _
    rw [tb_or, Bool.or_eq_true, ih n hn, jn_tb _ _ hn]
    constructor
    · rintro (⟨h1, j, h2, h3⟩ | ⟨h1, k, h2, h3, h4⟩)
      · exact ⟨h1, j, by omega, h3⟩
      · obtain ⟨_, j, h5, h6⟩ := (ih (n - k) (by omega)).mp h4
        exact ⟨h1, j + 1, by omega, n - k, k, h6, h3, by omega⟩
    · rintro ⟨h1, j, h2, h3⟩
      by_cases hj : j ≤ i
      · exact Or.inl ⟨h1, j, hj, h3⟩
      · obtain ⟨j', rfl⟩ : ∃ a, j = a + 1 := ⟨j - 1, by omega⟩
        obtain ⟨m, k, h4, h5, h6⟩ := h3
        refine Or.inr ⟨h1, k, by omega, h5, ?_⟩
        rw [show n - k = m by omega]
        exact (ih m (by omega)).mpr ⟨by omega, j', by omega, h4⟩
theorem plJ_24 {b : Int32} (hb : msk24 b) : plJ b 24 = plJ b 23 := tb_eqi (fun n hn => by
  rw [plJ_iff hb 24 n hn, plJ_iff hb 23 n hn]
  refine and_congr_right (fun h => ⟨?_, ?_⟩)
  · rintro ⟨j, h1, h2⟩
    by_cases hj : j ≤ 23
    · exact ⟨j, hj, h2⟩
    · have : j = 24 := by omega
      subst this
      exact ⟨23, by omega, RpS_drop b 24 n h2 (by omega)⟩
  · rintro ⟨j, h1, h2⟩
    exact ⟨j, by omega, h2⟩)
