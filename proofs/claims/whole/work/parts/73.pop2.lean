/-! how many bits: the reference; the bit with so many below it -/
theorem pc_low : ∀ (k n : Nat), 0 < n → n < 2 ^ k → pcN k (n &&& (n - 1)) + 1 = pcN k n
  | 0, n, h0, h1 => by simp at h1; omega
  | k + 1, n, h0, h1 => by
    have hd : (n &&& (n - 1)) / 2 = n / 2 &&& (n - 1) / 2 := Nat.and_div_two_pow (n := 1)
    have hm : (n &&& (n - 1)) % 2 = 0 := by
      have := Nat.and_mod_two_pow (a := n) (b := n - 1) (n := 1)
      rw [Nat.pow_one] at this
      rw [this]
      rcases Nat.mod_two_eq_zero_or_one n with h | h
      · rw [h, Nat.zero_and]
      · rw [show (n - 1) % 2 = 0 by omega, Nat.and_zero]
    rw [pcN, pcN, hd, hm]
    rcases Nat.mod_two_eq_zero_or_one n with h | h
    · rw [show (n - 1) / 2 = n / 2 - 1 by omega, h]
      have := pc_low k (n / 2) (by omega) (by rw [Nat.pow_succ] at h1; omega)
      omega
    · rw [show (n - 1) / 2 = n / 2 by omega, Nat.and_self, h]; omega
theorem nI1_bv : (1 : Int32).toBitVec.toNat = 1 := by decide
theorem pcI_zero : pcI 0 = 0 := by decide
theorem pcI_pos {x : Int32} (h : x ≠ 0) : pcI (x &&& (x - 1)) + 1 = pcI x := by
  have hn : 0 < x.toBitVec.toNat := by
    rcases Nat.eq_zero_or_pos x.toBitVec.toNat with h0 | h0
    · exact absurd (bv_nat x 0 (by rw [h0]; rfl)) h
    · exact h0
  unfold pcI
  rw [nat_and32, nat_sub32 _ _ (by rw [nI1_bv]; omega), nI1_bv]
  exact pc_low 32 _ hn x.toBitVec.isLt
theorem pcI_eq0 (x : Int32) : pcI x = 0 ↔ x = 0 := by
  constructor
  · intro h
    rcases Decidable.em (x = 0) with h0 | h0
    · exact h0
    · have := pcI_pos h0; omega
  · rintro rfl; exact pcI_zero
theorem sizeOf_l (h : AHp) : ∀ (p f c : Nat) (x : Int32), pcI x = p → p < f → m_X12_sizeOf_4 f (nI c) x h = some (nI (c + p), h) := by
  intro p
  induction p with
  | zero =>
    intro f c x hp hf
    obtain ⟨f, rfl⟩ : ∃ a, f = a + 1 := ⟨f - 1, by omega⟩
    rw [m_X12_sizeOf_4, if_pos ((pcI_eq0 x).mp hp)]; rfl
  | succ p ih =>
    intro f c x hp hf
    obtain ⟨f, rfl⟩ : ∃ a, f = a + 1 := ⟨f - 1, by omega⟩
    have hx : x ≠ 0 := fun z => by rw [(pcI_eq0 x).mpr z] at hp; omega
    have := pcI_pos hx
    rw [m_X12_sizeOf_4, if_neg hx, lt_eq, lt_eq, nI_1, ih f (c + 1) _ (by omega) (by omega), show c + 1 + p = c + (p + 1) by omega]
theorem pcI_le (x : Int32) : pcI x ≤ 32 := pcN_le 32 _
theorem sizeOfM (x : Int32) (h : AHp) : m_X12_sizeOf x h = some (nI (pcI x), h) := by
  have := pcI_le x
  have e := sizeOf_l h (pcI x) FU 0 x rfl (by unfold FU; omega)
  rw [Nat.zero_add] at e
  exact e
def cntF (x : Int32) (l : Nat) : Nat := pcN (32 - l) (x.toBitVec.toNat / 2 ^ l)
theorem tb_nat (x : Int32) (l : Nat) : tb x l = decide (x.toBitVec.toNat / 2 ^ l % 2 = 1) := by
  unfold tb
  show x.toBitVec.toNat.testBit l = _
  rw [Nat.testBit_eq_decide_div_mod_eq]
theorem cntF_step (x : Int32) {l : Nat} (hl : l < 32) : cntF x l = (if tb x l = true then 1 else 0) + cntF x (l + 1) := by
  unfold cntF
  rw [show 32 - l = (32 - (l + 1)) + 1 by omega, pcN, Nat.div_div_eq_div_mul, ← Nat.pow_succ, tb_nat]
  rcases Nat.mod_two_eq_zero_or_one (x.toBitVec.toNat / 2 ^ l) with h | h
  · rw [h]; simp
  · rw [h]; simp
theorem cntF_zero {x : Int32} : ∀ (d l : Nat), l + d = 32 → (∀ k, l ≤ k → k < 32 → tb x k = false) → cntF x l = 0
  | 0, l, h, _ => by unfold cntF; rw [show 32 - l = 0 by omega]; rfl
  | d + 1, l, h, hq => by
    rw [cntF_step x (by omega), hq l (Nat.le_refl _) (by omega), cntF_zero d (l + 1) (by omega) (fun k h1 h2 => hq k (by omega) h2)]
    rfl
theorem cntF_all (x : Int32) : cntF x 0 = pcI x := by unfold cntF pcI; simp
/-- the place of the bit that has so many below it, from l on -/
def nthB (x : Int32) : Nat → Nat → Nat → Nat
  | 0, l, _ => l
  | d + 1, l, left => if tb x l = true then (if left = 0 then l else nthB x d (l + 1) (left - 1)) else nthB x d (l + 1) left
theorem nthB_spec {x : Int32} (hb : ∀ k, 25 ≤ k → k < 32 → tb x k = false) : ∀ (d l left : Nat), l + d = 25 → left < cntF x l → l ≤ nthB x d l left ∧ nthB x d l left ≤ 24 ∧ tb x (nthB x d l left) = true
  | 0, l, left, h, hc => by
    rw [cntF_zero 7 l (by omega) (fun k h1 h2 => hb k (by omega) h2)] at hc; omega
  | d + 1, l, left, h, hc => by
    rw [cntF_step x (by omega)] at hc
    rw [nthB]
    cases ht : tb x l with
    | false =>
      rw [ht, if_neg (by simp), Nat.zero_add] at hc
      rw [if_neg (by simp)]
      have := nthB_spec hb d (l + 1) left (by omega) hc
      exact ⟨by omega, this.2⟩
    | true =>
      rw [if_pos rfl]
      by_cases h0 : left = 0
      · rw [if_pos h0]; exact ⟨Nat.le_refl _, by omega, ht⟩
      · rw [if_neg h0]
        rw [ht, if_pos rfl] at hc
        have := nthB_spec hb d (l + 1) (left - 1) (by omega) (by omega)
        exact ⟨by omega, this.2⟩
theorem hasC {x : Int32} {l : Nat} (hl : l < 32) : (((x >>> (nI l &&& 31)) &&& 1) = 0) ↔ tb x l = false := by
  rw [has_iff x hl, b01]
theorem nI_dec {n : Nat} (h : n ≠ 0) : nI n + (-1) = nI (n - 1) := by
  obtain ⟨k, rfl⟩ : ∃ k, n = k + 1 := ⟨n - 1, by omega⟩
  rw [← nI_1 k, Int32.add_assoc, show (1 : Int32) + (-1) = 0 from rfl, Int32.add_zero]; rfl
theorem nI_zero_iff {n : Nat} (h : n < 2147483648) : nI n = 0 ↔ n = 0 := by
  rw [i32_eq, nI_toInt h]; simp only [tIall]; omega
theorem placeC {x : Int32} (hb : ∀ k, 25 ≤ k → k < 32 → tb x k = false) (h : AHp) : ∀ (d l left f : Nat), l + d = 25 → left ≤ 32 → left < cntF x l → d < f → m_X11_placeOfBit_4 f x (nI left) (nI l) h = some (nI (nthB x d l left), h)
  | 0, l, left, f, hl, h32, hc, hf => by
    rw [cntF_zero 7 l (by omega) (fun k h1 h2 => hb k (by omega) h2)] at hc; omega
  | d + 1, l, left, f, hl, h32, hc, hf => by
    obtain ⟨f, rfl⟩ : ∃ a, f = a + 1 := ⟨f - 1, by omega⟩
    rw [cntF_step x (by omega)] at hc
    rw [m_X11_placeOfBit_4, if_neg (show ¬ 25 ≤ nI l from nI_ge (a := l) (b := 25) (by omega) (by omega)), nthB]
    cases ht : tb x l with
    | false =>
      rw [ht, if_neg (by simp), Nat.zero_add] at hc
      rw [if_pos ((hasC (by omega)).mpr ht), lt_eq, nI_1, placeC hb h d (l + 1) left f (by omega) h32 hc (by omega), if_neg (by simp)]
    | true =>
      rw [if_neg (fun z => by rw [(hasC (by omega)).mp z] at ht; cases ht), if_pos rfl]
      by_cases h0 : left = 0
      · rw [if_pos ((nI_zero_iff (by omega)).mpr h0), if_pos h0]
      · rw [ht, if_pos rfl] at hc
        rw [if_neg (fun z => h0 ((nI_zero_iff (by omega)).mp z)), if_neg h0, lt_eq, lt_eq, nI_1, nI_dec h0, placeC hb h d (l + 1) (left - 1) f (by omega) (by omega) (by omega) (by omega)]
theorem draw119 {x : Int32} (hb : ∀ k, 25 ≤ k → k < 32 → tb x k = false) (k18 : Int32 → Int32 → Int32 → AHp → Option (Int32 × AHp)) (x1 x2 x3 x4 x5 : Int32) (h : AHp) : ∀ (d l left f : Nat), l + d = 25 → left ≤ 32 → left < cntF x l → d < f → m_X12_draw_119 k18 f x1 x2 x3 x4 x5 x (nI left) (nI l) h = bd (m_X12_isSaid x4 x5 (nI (nthB x d l left)) h) (fun r9 h10 => k18 x1 (x2 + 1) (x3 + 1) h10)
  | 0, l, left, f, hl, h32, hc, hf => by
    rw [cntF_zero 7 l (by omega) (fun k h1 h2 => hb k (by omega) h2)] at hc; omega
  | d + 1, l, left, f, hl, h32, hc, hf => by
    obtain ⟨f, rfl⟩ : ∃ a, f = a + 1 := ⟨f - 1, by omega⟩
    rw [cntF_step x (by omega)] at hc
    rw [m_X12_draw_119, hasM x (by omega), bd_some, hasM x (by omega), nthB]
    have z0 : ∀ y : Int32, y - 0 = y := fun y => by simp
    cases ht : tb x l with
    | false =>
      rw [ht, if_neg (by simp), Nat.zero_add] at hc
      simp only [bd_some, if_neg (show ¬ (false = true) by simp), if_true, lt_eq, nI_1, z0]
      exact draw119 hb k18 x1 x2 x3 x4 x5 h d (l + 1) left f (by omega) h32 hc (by omega)
    | true =>
      simp only [if_pos, if_neg one_ne, bd_some, lt_eq]
      by_cases h0 : left = 0
      · rw [if_pos (by subst h0; decide), if_pos h0]
      · rw [ht, if_pos rfl] at hc
        rw [if_neg (by rw [i32_le, nI_toInt (by omega)]; simp only [tIall]; omega), if_neg h0, nI_1]
        rw [show nI left - 1 = nI (left - 1) from by rw [← nI_dec h0, Int32.sub_eq_add_neg]]
        exact draw119 hb k18 x1 x2 x3 x4 x5 h d (l + 1) (left - 1) f (by omega) (by omega) (by omega) (by omega)
