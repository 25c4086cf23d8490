/-! any talk: the first row of things that cannot be held, by a spec -/
section ANYS
variable (F : Nat → Nat → Nat → Nat → Nat → Bool) (K : Nat)
def anyA (i q : Nat) (S : Nat → Nat → Bool) : Bool := anyT (fun a => anyT (fun b => S a b && anyT (fun l => F i q a b l) 25) 25) 25
def nxtA (i q : Nat) (S : Nat → Nat → Bool) : Nat → Nat → Bool := fun l a => decide (l ≤ 24) && decide (a ≤ 24) && anyT (fun b => S a b && F i q a b l) 25
def frS (step : Nat → Option Nat) : Nat → Nat → Option Nat
  | 0, _ => none
  | e + 1, q => match step q with
    | some r => some r
    | none => frS step e (q + 1)
def fr : Nat → Nat → (Nat → Nat → Bool) → Option Nat
  | 0, _, _ => none
  | d + 1, i, S => frS (fun q => if anyA F i q S = true then (fr d (i + 1) (nxtA F i q S)).map (fun r => q * K ^ d + r) else some (q * K ^ d)) K 0
/-- whether the row of a number can be held -/
def hsR : Nat → Nat → (Nat → Nat → Bool) → Nat → Bool
  | 0, _, _, _ => true
  | d + 1, i, S, r => anyA F i (r / K ^ d % K) S && hsR d (i + 1) (nxtA F i (r / K ^ d % K) S) r
end ANYS
theorem anyA_iff {F : Nat → Nat → Nat → Nat → Nat → Bool} {i q : Nat} {S : Nat → Nat → Bool} : anyA F i q S = true ↔ ∃ a b l, a ≤ 24 ∧ b ≤ 24 ∧ l ≤ 24 ∧ S a b = true ∧ F i q a b l = true := by
  unfold anyA
  rw [anyT_iff]
  constructor
  · rintro ⟨a, h1, h2⟩
    obtain ⟨b, h3, h4⟩ := (anyT_iff 25).mp h2
    rw [Bool.and_eq_true] at h4
    obtain ⟨l, h5, h6⟩ := (anyT_iff 25).mp h4.2
    exact ⟨a, b, l, by omega, by omega, by omega, h4.1, h6⟩
  · rintro ⟨a, b, l, h1, h2, h3, h4, h5⟩
    exact ⟨a, by omega, (anyT_iff 25).mpr ⟨b, by omega, by rw [Bool.and_eq_true]; exact ⟨h4, (anyT_iff 25).mpr ⟨l, by omega, h5⟩⟩⟩⟩
theorem nxtA_iff {F : Nat → Nat → Nat → Nat → Nat → Bool} {i q l a : Nat} {S : Nat → Nat → Bool} : nxtA F i q S l a = true ↔ l ≤ 24 ∧ a ≤ 24 ∧ ∃ b, b ≤ 24 ∧ S a b = true ∧ F i q a b l = true := by
  unfold nxtA
  rw [Bool.and_eq_true, Bool.and_eq_true, decide_eq_true_eq, decide_eq_true_eq, anyT_iff]
  constructor
  · rintro ⟨⟨h1, h2⟩, b, h3, h4⟩
    rw [Bool.and_eq_true] at h4
    exact ⟨h1, h2, b, by omega, h4⟩
  · rintro ⟨h1, h2, b, h3, h4⟩
    exact ⟨⟨h1, h2⟩, b, by omega, by rw [Bool.and_eq_true]; exact h4⟩
theorem frS_none {step : Nat → Option Nat} : ∀ e q, frS step e q = none ↔ ∀ u, q ≤ u → u < q + e → step u = none
  | 0, q => by simp [frS]; intro u h1 h2; omega
  | e + 1, q => by
    rw [frS]
    cases h : step q with
    | some r =>
      simp only []
      constructor
      · intro h2; cases h2
      · intro h2; have := h2 q (Nat.le_refl _) (by omega); rw [h] at this; cases this
    | none =>
      simp only []
      rw [frS_none e (q + 1)]
      constructor
      · intro h2 u h3 h4
        by_cases hu : u = q
        · rw [hu]; exact h
        · exact h2 u (by omega) (by omega)
      · intro h2 u h3 h4; exact h2 u (by omega) (by omega)
theorem frS_some {step : Nat → Option Nat} : ∀ e q r, frS step e q = some r → ∃ u, q ≤ u ∧ u < q + e ∧ step u = some r ∧ ∀ w, q ≤ w → w < u → step w = none
  | 0, q, r, h => by cases h
  | e + 1, q, r, h => by
    rw [frS] at h
    cases hs : step q with
    | some r2 =>
      rw [hs] at h; simp only [] at h; cases h
      exact ⟨q, Nat.le_refl _, by omega, hs, fun w h1 h2 => by omega⟩
    | none =>
      rw [hs] at h; simp only [] at h
      obtain ⟨u, h1, h2, h3, h4⟩ := frS_some e (q + 1) r h
      exact ⟨u, by omega, by omega, h3, fun w h5 h6 => by
        by_cases hw : w = q
        · rw [hw]; exact hs
        · exact h4 w (by omega) h6⟩
section ANY2
variable {F : Nat → Nat → Nat → Nat → Nat → Bool} {K : Nat}
theorem hsR_mod (hK : 1 ≤ K) : ∀ d i S q r, r < K ^ d → hsR F K d i S (q * K ^ d + r) = hsR F K d i S r := by
  have gen : ∀ d e i S x y, d ≤ e → hsR F K d i S (x * K ^ e + y) = hsR F K d i S y := by
    intro d
    induction d with
    | zero => intros; rfl
    | succ d ih =>
      intro e i S x y hde
      rw [hsR, hsR]
      have hp : 0 < K ^ d := Nat.pow_pos hK
      have e1 : (x * K ^ e + y) / K ^ d % K = y / K ^ d % K := by
        obtain ⟨f, rfl⟩ : ∃ f, e = d + 1 + f := ⟨e - (d + 1), by omega⟩
        rw [show x * K ^ (d + 1 + f) + y = K ^ d * (K * (x * K ^ f)) + y by rw [Nat.pow_add, Nat.pow_succ]; simp only [Nat.mul_comm, Nat.mul_left_comm, Nat.mul_assoc], Nat.mul_add_div hp, Nat.mul_add_mod]
      rw [e1, ih e (i + 1) _ x y (by omega)]
  intro d i S q r _
  exact gen d d i S q r (Nat.le_refl _)
theorem dig_top (hK : 1 ≤ K) {d q r : Nat} (hq : q < K) (hr : r < K ^ d) : (q * K ^ d + r) / K ^ d % K = q := by
  have hp : 0 < K ^ d := Nat.pow_pos hK
  rw [Nat.mul_comm, Nat.mul_add_div hp, Nat.div_eq_of_lt hr, Nat.add_zero, Nat.mod_eq_of_lt hq]
theorem dig_low (hK : 1 ≤ K) {d e q r : Nat} (he : e < d) : (q * K ^ d + r) / K ^ e % K = r / K ^ e % K := by
  have hp : 0 < K ^ e := Nat.pow_pos hK
  obtain ⟨f, rfl⟩ : ∃ f, d = e + 1 + f := ⟨d - (e + 1), by omega⟩
  rw [show q * K ^ (e + 1 + f) + r = K ^ e * (K * (q * K ^ f)) + r by rw [Nat.pow_add, Nat.pow_succ]; simp only [Nat.mul_comm, Nat.mul_left_comm, Nat.mul_assoc], Nat.mul_add_div hp, Nat.mul_add_mod]
theorem fr_lt (hK : 1 ≤ K) : ∀ d i S r, fr F K d i S = some r → r < K ^ d
  | 0, i, S, r, h => by cases h
  | d + 1, i, S, r, h => by
    obtain ⟨q, h1, h2, h3, h4⟩ := frS_some K 0 r h
    have hp : 0 < K ^ d := Nat.pow_pos hK
    have hq : q * K ^ d + K ^ d ≤ K ^ (d + 1) := by
      rw [Nat.pow_succ, ← Nat.succ_mul, Nat.mul_comm (K ^ d) K]
      exact Nat.mul_le_mul_right _ (by omega)
    by_cases ha : anyA F i q S = true
    · rw [if_pos ha] at h3
      cases hf : fr F K d (i + 1) (nxtA F i q S) with
      | none => rw [hf] at h3; cases h3
      | some r2 =>
        rw [hf] at h3; cases h3
        have := fr_lt hK d (i + 1) _ r2 hf
        show q * K ^ d + r2 < _
        omega
    · rw [if_neg ha] at h3; cases h3; omega
/-- the first row that cannot be held -/
theorem fr_spec (hK : 1 ≤ K) : ∀ d i S, (fr F K d i S = none → ∀ r, r < K ^ d → hsR F K d i S r = true) ∧ (∀ r, fr F K d i S = some r → hsR F K d i S r = false ∧ ∀ r2, r2 < r → hsR F K d i S r2 = true)
  | 0, i, S => ⟨fun _ r _ => rfl, fun r h => by cases h⟩
  | d + 1, i, S => by
    have ih := fun q => fr_spec hK d (i + 1) (nxtA F i q S)
    have hp : 0 < K ^ d := Nat.pow_pos hK
    have split : ∀ r, r < K ^ (d + 1) → r / K ^ d < K ∧ r % K ^ d < K ^ d ∧ r = (r / K ^ d) * K ^ d + r % K ^ d := fun r hr => by
      refine ⟨?_, Nat.mod_lt _ hp, ?_⟩
      · rw [Nat.div_lt_iff_lt_mul hp, Nat.mul_comm, ← Nat.pow_succ]; exact hr
      · rw [Nat.mul_comm]; exact (Nat.div_add_mod r (K ^ d)).symm
    have hh : ∀ q r, q < K → r < K ^ d → hsR F K (d + 1) i S (q * K ^ d + r) = (anyA F i q S && hsR F K d (i + 1) (nxtA F i q S) r) := fun q r h1 h2 => by
      rw [hsR, dig_top hK h1 h2, hsR_mod hK d (i + 1) _ q r h2]
    have stepnone : ∀ q, q < K → (if anyA F i q S = true then (fr F K d (i + 1) (nxtA F i q S)).map (fun r => q * K ^ d + r) else some (q * K ^ d)) = none → ∀ r, r < K ^ d → hsR F K (d + 1) i S (q * K ^ d + r) = true := fun q hq hs r hr => by
      by_cases ha : anyA F i q S = true
      · rw [if_pos ha] at hs
        have hf : fr F K d (i + 1) (nxtA F i q S) = none := by
          cases hf : fr F K d (i + 1) (nxtA F i q S) with
          | none => rfl
          | some r2 => rw [hf] at hs; cases hs
        rw [hh q r hq hr, ha, (ih q).1 hf r hr]; rfl
      · rw [if_neg ha] at hs; cases hs
    constructor
    · intro h r hr
      obtain ⟨h1, h2, h3⟩ := split r hr
      rw [h3]
      exact stepnone _ h1 ((frS_none K 0).mp h _ (Nat.zero_le _) (by rw [Nat.zero_add]; exact h1)) _ h2
    · intro r h
      obtain ⟨q, h1, h2, h3, h4⟩ := frS_some K 0 r h
      have small : ∀ r2, r2 < q * K ^ d → hsR F K (d + 1) i S r2 = true := fun r2 hr2 => by
        have hq2 : r2 / K ^ d < q := by rw [Nat.div_lt_iff_lt_mul hp]; exact hr2
        have e : r2 = (r2 / K ^ d) * K ^ d + r2 % K ^ d := by rw [Nat.mul_comm]; exact (Nat.div_add_mod r2 (K ^ d)).symm
        rw [e]
        exact stepnone _ (Nat.lt_trans hq2 (by omega)) (h4 _ (Nat.zero_le _) hq2) _ (Nat.mod_lt _ hp)
      by_cases ha : anyA F i q S = true
      · rw [if_pos ha] at h3
        cases hf : fr F K d (i + 1) (nxtA F i q S) with
        | none => rw [hf] at h3; cases h3
        | some r3 =>
          rw [hf] at h3; cases h3
          have hlt := fr_lt hK d (i + 1) _ r3 hf
          obtain ⟨u1, u2⟩ := (ih q).2 r3 hf
          refine ⟨by show hsR F K (d + 1) i S (q * K ^ d + r3) = false; rw [hh q r3 (by omega) hlt, u1, Bool.and_false], fun r2 hr2 => ?_⟩
          by_cases hs : r2 < q * K ^ d
          · exact small r2 hs
          · have hr2' : r2 < q * K ^ d + r3 := hr2
            rw [show r2 = q * K ^ d + (r2 - q * K ^ d) by omega, hh q _ (by omega) (by omega), ha, u2 _ (by omega)]; rfl
      · rw [if_neg ha] at h3; cases h3
        refine ⟨?_, small⟩
        have := hh q 0 (by omega) hp
        refine Eq.trans this ?_
        simp only [Bool.not_eq_true] at ha; rw [ha]; rfl
/-- more pairs (up to what is not told apart): still held -/
theorem fr_mono {ka kb : Nat → Nat} (hK : 1 ≤ K) (hF : ∀ i q a b a2 b2 l, ka a = ka a2 → kb b = kb b2 → F i q a b l = F i q a2 b2 l) (hab : ∀ a a2, ka a = ka a2 → kb a = kb a2) : ∀ d i (S T : Nat → Nat → Bool), (∀ a b, a ≤ 24 → b ≤ 24 → S a b = true → ∃ a2 b2, a2 ≤ 24 ∧ b2 ≤ 24 ∧ T a2 b2 = true ∧ ka a2 = ka a ∧ kb b2 = kb b) → fr F K d i S = none → fr F K d i T = none
  | 0, _, _, _, _, _ => rfl
  | d + 1, i, S, T, hST, h => by
    refine (frS_none K 0).mpr (fun q h1 h2 => ?_)
    have hq := (frS_none K 0).mp h q h1 h2
    by_cases ha : anyA F i q S = true
    · rw [if_pos ha] at hq
      have haT : anyA F i q T = true := by
        obtain ⟨a, b, l, u1, u2, u3, u4, u5⟩ := anyA_iff.mp ha
        obtain ⟨a2, b2, w1, w2, w3, w4, w5⟩ := hST a b u1 u2 u4
        exact anyA_iff.mpr ⟨a2, b2, l, w1, w2, u3, w3, by rw [hF i q a2 b2 a b l w4 w5]; exact u5⟩
      rw [if_pos haT]
      have hf : fr F K d (i + 1) (nxtA F i q S) = none := by
        cases hf : fr F K d (i + 1) (nxtA F i q S) with
        | none => rfl
        | some r2 => rw [hf] at hq; cases hq
      rw [fr_mono hK hF hab d (i + 1) (nxtA F i q S) (nxtA F i q T) (fun l a u1 u2 u3 => by
        obtain ⟨_, _, b, w1, w2, w3⟩ := nxtA_iff.mp u3
        obtain ⟨a2, b2, x1, x2, x3, x4, x5⟩ := hST a b u2 w1 w2
        exact ⟨l, a2, u1, x1, nxtA_iff.mpr ⟨u1, x1, b2, x2, x3, by rw [hF i q a2 b2 a b l x4 x5]; exact w3⟩, rfl, hab _ _ x4⟩) hf]
      rfl
    · rw [if_neg ha] at hq; cases hq
end ANY2
