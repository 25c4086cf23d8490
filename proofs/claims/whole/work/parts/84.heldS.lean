/-! held and coded: fewest words, by a spec -/
def bw (p : Nat → Bool) (v : Nat → Option Nat) : Nat → Option (Nat × Nat)
  | 0 => none
  | l + 1 => match (if p (l + 1) = true then v (l + 1) else none) with
    | none => bw p v l
    | some r => match bw p v l with
      | none => some (l + 1 + r, l + 1)
      | some (w, j) => if l + 1 + r < w then some (l + 1 + r, l + 1) else some (w, j)
theorem bw_none {p : Nat → Bool} {v : Nat → Option Nat} : ∀ n, bw p v n = none ↔ ∀ l, 1 ≤ l → l ≤ n → p l = true → v l = none
  | 0 => by simp [bw]; omega
  | n + 1 => by
    rw [bw]
    have ih := bw_none (p := p) (v := v) n
    by_cases hp : p (n + 1) = true
    · rw [if_pos hp]
      cases hv : v (n + 1) with
      | none =>
        simp only []
        rw [ih]
        constructor
        · intro h l h1 h2 h3
          by_cases hl : l = n + 1
          · subst hl; exact hv
          · exact h l h1 (by omega) h3
        · intro h l h1 h2 h3; exact h l h1 (by omega) h3
      | some r =>
        simp only []
        constructor
        · intro h
          cases hb : bw p v n with
          | none => rw [hb] at h; cases h
          | some wj => rw [hb] at h; obtain ⟨w, j⟩ := wj; simp only [] at h; split at h <;> cases h
        · intro h; have := h (n + 1) (by omega) (by omega) hp; rw [hv] at this; cases this
    · rw [if_neg hp]
      simp only []
      rw [ih]
      constructor
      · intro h l h1 h2 h3
        by_cases hl : l = n + 1
        · subst hl; exact absurd h3 hp
        · exact h l h1 (by omega) h3
      · intro h l h1 h2 h3; exact h l h1 (by omega) h3
/-- the best is one of them, and the first of the least -/
theorem bw_some {p : Nat → Bool} {v : Nat → Option Nat} : ∀ n w j, bw p v n = some (w, j) → (1 ≤ j ∧ j ≤ n ∧ p j = true ∧ ∃ r, v j = some r ∧ w = j + r) ∧ ∀ l r, 1 ≤ l → l ≤ n → p l = true → v l = some r → w ≤ l + r ∧ (l < j → w < l + r)
  | 0, w, j, h => by cases h
  | n + 1, w, j, h => by
    have ih := bw_some (p := p) (v := v) n
    rw [bw] at h
    by_cases hp : p (n + 1) = true
    · rw [if_pos hp] at h
      cases hv : v (n + 1) with
      | none =>
        rw [hv] at h
        simp only [] at h
        obtain ⟨⟨a1, a2, a3⟩, b⟩ := ih w j h
        refine ⟨⟨a1, by omega, a3⟩, fun l r h1 h2 h3 h4 => ?_⟩
        by_cases hl : l = n + 1
        · subst hl; rw [hv] at h4; cases h4
        · exact b l r h1 (by omega) h3 h4
      | some r0 =>
        rw [hv] at h
        simp only [] at h
        cases hb : bw p v n with
        | none =>
          rw [hb] at h
          simp only [Option.some.injEq, Prod.mk.injEq] at h
          obtain ⟨rfl, rfl⟩ := h
          refine ⟨⟨by omega, by omega, hp, r0, hv, rfl⟩, fun l r h1 h2 h3 h4 => ?_⟩
          by_cases hl : l = n + 1
          · subst hl; rw [hv] at h4; cases h4; omega
          · have := (bw_none n).mp hb l h1 (by omega) h3; rw [h4] at this; cases this
        | some wj =>
          obtain ⟨w1, j1⟩ := wj
          rw [hb] at h
          simp only [] at h
          obtain ⟨⟨a1, a2, a3⟩, b⟩ := ih w1 j1 hb
          by_cases hlt : n + 1 + r0 < w1
          · rw [if_pos hlt] at h
            simp only [Option.some.injEq, Prod.mk.injEq] at h
            obtain ⟨rfl, rfl⟩ := h
            refine ⟨⟨by omega, by omega, hp, r0, hv, rfl⟩, fun l r h1 h2 h3 h4 => ?_⟩
            by_cases hl : l = n + 1
            · subst hl; rw [hv] at h4; cases h4; omega
            · have := b l r h1 (by omega) h3 h4; omega
          · rw [if_neg hlt] at h
            simp only [Option.some.injEq, Prod.mk.injEq] at h
            obtain ⟨rfl, rfl⟩ := h
            refine ⟨⟨a1, by omega, a3⟩, fun l r h1 h2 h3 h4 => ?_⟩
            by_cases hl : l = n + 1
            · subst hl; rw [hv] at h4; cases h4; omega
            · exact b l r h1 (by omega) h3 h4
    · rw [if_neg hp] at h
      simp only [] at h
      obtain ⟨⟨a1, a2, a3⟩, b⟩ := ih w j h
      refine ⟨⟨a1, by omega, a3⟩, fun l r h1 h2 h3 h4 => ?_⟩
      by_cases hl : l = n + 1
      · subst hl; exact absurd h3 hp
      · exact b l r h1 (by omega) h3 h4
/-- nothing better behind -/
theorem bw_stop {p : Nat → Bool} {v : Nat → Option Nat} {n w j : Nat} (h : bw p v n = some (w, j)) : ∀ d, (∀ l r, n < l → l ≤ n + d → p l = true → v l = some r → w ≤ l + r) → bw p v (n + d) = some (w, j)
  | 0, _ => h
  | d + 1, hq => by
    have ih := bw_stop h d (fun l r h1 h2 h3 h4 => hq l r h1 (by omega) h3 h4)
    rw [show n + (d + 1) = (n + d) + 1 by omega, bw]
    by_cases hp : p (n + d + 1) = true
    · rw [if_pos hp]
      cases hv : v (n + d + 1) with
      | none => simp only []; exact ih
      | some r =>
        simp only []
        rw [ih]
        simp only []
        have := hq (n + d + 1) r (by omega) (by omega) hp hv
        rw [if_neg (by omega)]
    · rw [if_neg hp]; simp only []; exact ih
theorem bw_congr {p q : Nat → Bool} {v w : Nat → Option Nat} : ∀ n, (∀ l, 1 ≤ l → l ≤ n → p l = q l) → (∀ l, 1 ≤ l → l ≤ n → q l = true → v l = w l) → bw p v n = bw q w n
  | 0, _, _ => rfl
  | n + 1, h1, h2 => by
    rw [bw, bw, bw_congr n (fun l a b => h1 l a (by omega)) (fun l a b c => h2 l a (by omega) c), h1 (n + 1) (by omega) (by omega)]
    by_cases hq : q (n + 1) = true
    · rw [if_pos hq, if_pos hq, h2 (n + 1) (by omega) (by omega) hq]
    · rw [if_neg hq, if_neg hq]
def mxD (p : Nat → Bool) (v : Nat → Nat) (base : Nat) : Nat → Nat
  | 0 => base
  | l + 1 => if p (l + 1) = true then max (mxD p v base l) (v (l + 1)) else mxD p v base l
theorem mxD_le {p : Nat → Bool} {v : Nat → Nat} {base X : Nat} : ∀ n, mxD p v base n ≤ X ↔ (base ≤ X ∧ ∀ l, 1 ≤ l → l ≤ n → p l = true → v l ≤ X)
  | 0 => by simp [mxD]; intro _ l h1 h2; omega
  | n + 1 => by
    rw [mxD]
    have ih := mxD_le (p := p) (v := v) (base := base) (X := X) n
    by_cases hp : p (n + 1) = true
    · rw [if_pos hp, Nat.max_le, ih]
      constructor
      · rintro ⟨⟨h1, h2⟩, h3⟩
        refine ⟨h1, fun l a b c => ?_⟩
        by_cases hl : l = n + 1
        · subst hl; exact h3
        · exact h2 l a (by omega) c
      · rintro ⟨h1, h2⟩
        exact ⟨⟨h1, fun l a b c => h2 l a (by omega) c⟩, h2 (n + 1) (by omega) (by omega) hp⟩
    · rw [if_neg hp, ih]
      constructor
      · rintro ⟨h1, h2⟩
        refine ⟨h1, fun l a b c => ?_⟩
        by_cases hl : l = n + 1
        · subst hl; exact absurd c hp
        · exact h2 l a (by omega) c
      · rintro ⟨h1, h2⟩
        exact ⟨h1, fun l a b c => h2 l a (by omega) c⟩
theorem mxD_ex {p : Nat → Bool} {v : Nat → Nat} {base : Nat} : ∀ n, mxD p v base n = base ∨ ∃ l, 1 ≤ l ∧ l ≤ n ∧ p l = true ∧ mxD p v base n = v l
  | 0 => Or.inl rfl
  | n + 1 => by
    have ih := mxD_ex (p := p) (v := v) (base := base) n
    rw [mxD]
    by_cases hp : p (n + 1) = true
    · rw [if_pos hp]
      rcases Nat.le_total (mxD p v base n) (v (n + 1)) with h | h
      · rw [Nat.max_eq_right h]; exact Or.inr ⟨n + 1, by omega, by omega, hp, rfl⟩
      · rw [Nat.max_eq_left h]
        rcases ih with h | ⟨l, a, b, c⟩
        · exact Or.inl h
        · exact Or.inr ⟨l, a, by omega, c⟩
    · rw [if_neg hp]
      rcases ih with h | ⟨l, a, b, c⟩
      · exact Or.inl h
      · exact Or.inr ⟨l, a, by omega, c⟩
section HELD
variable (F : Nat → Nat → Nat → Nat → Bool)
def wd : Nat → Nat → Nat → Nat → Option Nat
  | 0, _, _, _ => some 0
  | d + 1, i, a, b => (bw (F i a b) (fun l => wd d (i + 1) l a) 24).map Prod.fst
def bo (d i a b : Nat) : Option (Nat × Nat) := bw (F i a b) (fun l => wd F d (i + 1) l a) 24
def dr : Nat → Nat → Nat → Nat → Nat
  | 0, i, _, _ => i
  | d + 1, i, a, b => mxD (F i a b) (fun l => dr d (i + 1) l a) i 24
end HELD
section HELD2
variable {F : Nat → Nat → Nat → Nat → Bool}
theorem wd_bo (d i a b : Nat) : wd F (d + 1) i a b = (bo F d i a b).map Prod.fst := rfl
theorem wd_le : ∀ d i a b w, wd F d i a b = some w → w ≤ 24 * d
  | 0, i, a, b, w, h => by cases h; omega
  | d + 1, i, a, b, w, h => by
    rw [wd_bo] at h
    cases hb : bo F d i a b with
    | none => rw [hb] at h; cases h
    | some wj =>
      obtain ⟨w1, j⟩ := wj
      rw [hb] at h; cases h
      obtain ⟨⟨a1, a2, a3, r, a4, a5⟩, -⟩ := bw_some 24 _ j hb
      have := wd_le d (i + 1) j a r a4
      show w1 ≤ _
      omega
theorem dr_ge : ∀ d i a b, i ≤ dr F d i a b
  | 0, i, a, b => Nat.le_refl _
  | d + 1, i, a, b => ((mxD_le 24).mp (Nat.le_refl _)).1
theorem dr_step {d i a b l : Nat} (h1 : 1 ≤ l) (h2 : l ≤ 24) (hF : F i a b l = true) : dr F d (i + 1) l a ≤ dr F (d + 1) i a b := ((mxD_le 24).mp (Nat.le_refl (dr F (d + 1) i a b))).2 l h1 h2 hF
theorem dr_le : ∀ d i a b, dr F d i a b ≤ i + d
  | 0, i, a, b => Nat.le_refl _
  | d + 1, i, a, b => (mxD_le 24).mpr ⟨by omega, fun l _ _ _ => by have := dr_le d (i + 1) l a; show dr F d (i + 1) l a ≤ _; omega⟩
theorem wd_dr : ∀ d i a b, (wd F d i a b ≠ none) ↔ dr F d i a b = i + d
  | 0, i, a, b => by simp [wd, dr]
  | d + 1, i, a, b => by
    have hle := dr_le (F := F) (d + 1) i a b
    constructor
    · intro h
      rw [wd_bo] at h
      cases hb : bo F d i a b with
      | none => rw [hb] at h; exact absurd rfl h
      | some wj =>
        obtain ⟨w1, j⟩ := wj
        obtain ⟨⟨a1, a2, a3, r, a4, a5⟩, -⟩ := bw_some 24 _ j hb
        have e := (wd_dr d (i + 1) j a).mp (by rw [show wd F d (i + 1) j a = some r from a4]; simp)
        have := dr_step (d := d) a1 a2 a3
        omega
    · intro h hn
      rw [wd_bo] at hn
      have hb : bo F d i a b = none := by
        cases hb : bo F d i a b with
        | none => rfl
        | some wj => rw [hb] at hn; cases hn
      have hall := (bw_none 24).mp hb
      rcases mxD_ex (p := F i a b) (v := fun l => dr F d (i + 1) l a) (base := i) 24 with hq | ⟨l, b1, b2, b3, b4⟩
      · rw [show mxD (F i a b) (fun l => dr F d (i + 1) l a) i 24 = dr F (d + 1) i a b from rfl] at hq; omega
      · rw [show mxD (F i a b) (fun l => dr F d (i + 1) l a) i 24 = dr F (d + 1) i a b from rfl] at b4
        exact ((wd_dr d (i + 1) l a).mpr (by omega)) (hall l b1 b2 b3)
theorem wd_dep {pa pb : Prop} (hF : ∀ i a b a2 b2 l, (pa → a = a2) → (pb → b = b2) → F i a b l = F i a2 b2 l) : ∀ d i a b a2 b2, (pa ∨ pb → a = a2) → (pb → b = b2) → wd F d i a b = wd F d i a2 b2
  | 0, _, _, _, _, _, _, _ => rfl
  | d + 1, i, a, b, a2, b2, h1, h2 => by
    rw [wd, wd]
    rw [bw_congr 24 (fun l _ _ => hF i a b a2 b2 l (fun z => h1 (Or.inl z)) h2) (fun l _ _ _ => wd_dep hF d (i + 1) l a l a2 (fun _ => rfl) (fun z => h1 (Or.inr z)))]
theorem bo_dep {pa pb : Prop} (hF : ∀ i a b a2 b2 l, (pa → a = a2) → (pb → b = b2) → F i a b l = F i a2 b2 l) (d i a b a2 b2 : Nat) (h1 : pa ∨ pb → a = a2) (h2 : pb → b = b2) : bo F d i a b = bo F d i a2 b2 :=
  bw_congr 24 (fun l _ _ => hF i a b a2 b2 l (fun z => h1 (Or.inl z)) h2) (fun l _ _ _ => wd_dep hF d (i + 1) l a l a2 (fun _ => rfl) (fun z => h1 (Or.inr z)))
theorem mxD_congr {p q : Nat → Bool} {v w : Nat → Nat} {base : Nat} : ∀ n, (∀ l, 1 ≤ l → l ≤ n → p l = q l) → (∀ l, 1 ≤ l → l ≤ n → q l = true → v l = w l) → mxD p v base n = mxD q w base n
  | 0, _, _ => rfl
  | n + 1, h1, h2 => by
    rw [mxD, mxD, mxD_congr n (fun l a b => h1 l a (by omega)) (fun l a b c => h2 l a (by omega) c), h1 (n + 1) (by omega) (by omega)]
    by_cases hq : q (n + 1) = true
    · rw [if_pos hq, if_pos hq, h2 (n + 1) (by omega) (by omega) hq]
    · rw [if_neg hq, if_neg hq]
theorem dr_dep {pa pb : Prop} (hF : ∀ i a b a2 b2 l, (pa → a = a2) → (pb → b = b2) → F i a b l = F i a2 b2 l) : ∀ d i a b a2 b2, (pa ∨ pb → a = a2) → (pb → b = b2) → dr F d i a b = dr F d i a2 b2
  | 0, _, _, _, _, _, _, _ => rfl
  | d + 1, i, a, b, a2, b2, h1, h2 => by
    rw [dr, dr]
    exact mxD_congr 24 (fun l _ _ => hF i a b a2 b2 l (fun z => h1 (Or.inl z)) h2) (fun l _ _ _ => dr_dep hF d (i + 1) l a l a2 (fun _ => rfl) (fun z => h1 (Or.inr z)))
/-- what can be reached from a start -/
def RS (F : Nat → Nat → Nat → Nat → Bool) (an bn : Nat) : Nat → Nat → Nat → Prop
  | 0, a, b => a = an ∧ b = bn
  | i + 1, l, a => (1 ≤ l ∧ l ≤ 24) ∧ ∃ b, b ≤ 24 ∧ RS F an bn i a b ∧ F i a b l = true
theorem RS_dr {an bn n : Nat} : ∀ i a b, i ≤ n → RS F an bn i a b → dr F (n - i) i a b ≤ dr F n 0 an bn
  | 0, a, b, _, h => by obtain ⟨rfl, rfl⟩ := h; exact Nat.le_refl _
  | i + 1, l, a, hi, h => by
    obtain ⟨h1, b, hb, h2, h3⟩ := h
    have := RS_dr (n := n) i a b (by omega) h2
    have hs := dr_step (F := F) (d := n - (i + 1)) h1.1 h1.2 h3
    rw [show n - i = (n - (i + 1)) + 1 by omega] at this
    omega
theorem dr_RS {an bn : Nat} : ∀ d i a b, a ≤ 24 → b ≤ 24 → RS F an bn i a b → ∃ a2 b2, a2 ≤ 24 ∧ b2 ≤ 24 ∧ RS F an bn (dr F d i a b) a2 b2
  | 0, i, a, b, h1, h2, h => ⟨a, b, h1, h2, h⟩
  | d + 1, i, a, b, h1, h2, h => by
    rcases mxD_ex (p := F i a b) (v := fun l => dr F d (i + 1) l a) (base := i) 24 with hq | ⟨l, b1, b2, b3, b4⟩
    · rw [dr, hq]; exact ⟨a, b, h1, h2, h⟩
    · rw [dr, b4]
      exact dr_RS d (i + 1) l a b2 h1 ⟨⟨b1, b2⟩, b, h2, h, b3⟩
theorem RS_b {an bn : Nat} (ha : an ≤ 24) (hb : bn ≤ 24) : ∀ i a b, RS F an bn i a b → a ≤ 24 ∧ b ≤ 24
  | 0, a, b, h => by obtain ⟨rfl, rfl⟩ := h; exact ⟨ha, hb⟩
  | i + 1, l, a, h => by
    obtain ⟨h1, b, h2, h3, h4⟩ := h
    exact ⟨h1.2, (RS_b ha hb i a b h3).1⟩
end HELD2
