/-! rounds: a spec -/
section RND
variable (F : Nat → Nat → Nat → Nat → Bool)
def ext (r0 r1 : Nat) : Nat → Nat → Nat → Nat → Bool
  | 0, _, a, b => F 0 a b r0 && F 1 r0 a r1
  | d + 1, i, a, b => anyT (fun l => F (i % 2) a b l && ext r0 r1 d (i + 1) l a) 25
def fxS (step : Nat → Option (List Nat)) : Nat → Nat → Option (List Nat)
  | 0, _ => none
  | e + 1, l => match step l with
    | some r => some r
    | none => fxS step e (l + 1)
def fx (r0 r1 : Nat) : Nat → Nat → Nat → Nat → Option (List Nat)
  | 0, _, a, b => if (F 0 a b r0 && F 1 r0 a r1) = true then some [] else none
  | d + 1, i, a, b => fxS (fun l => if F (i % 2) a b l = true then (fx r0 r1 d (i + 1) l a).map (fun r => l :: r) else none) 24 1
/-- steps of speakers and lengths -/
def pth : Nat → Nat → Nat → Nat → Nat → Nat → Nat → Prop
  | 0, s, a, b, s2, a2, b2 => s = s2 ∧ a = a2 ∧ b = b2
  | k + 1, s, a, b, s2, a2, b2 => ∃ l, F s a b l = true ∧ pth k (1 - s) l a s2 a2 b2
def OnC (s a b : Nat) : Prop := ∃ k, pth F (k + 2) s a b s a b
end RND
section RND2
variable {F : Nat → Nat → Nat → Nat → Bool}
theorem fxS_none {step : Nat → Option (List Nat)} : ∀ e q, fxS step e q = none ↔ ∀ u, q ≤ u → u < q + e → step u = none
  | 0, q => by simp [fxS]; intro u h1 h2; omega
  | e + 1, q => by
    rw [fxS]
    cases h : step q with
    | some r =>
      simp only []
      constructor
      · intro h2; cases h2
      · intro h2; have := h2 q (Nat.le_refl _) (by omega); rw [h] at this; cases this
    | none =>
      simp only []
      rw [fxS_none e (q + 1)]
      constructor
      · intro h2 u h3 h4
        by_cases hu : u = q
        · rw [hu]; exact h
        · exact h2 u (by omega) (by omega)
      · intro h2 u h3 h4; exact h2 u (by omega) (by omega)
theorem fx_ext {r0 r1 : Nat} (hF : ∀ s a b l, l < 32 → F s a b l = true → 1 ≤ l ∧ l ≤ 24) : ∀ d i a b, fx F r0 r1 d i a b = none ↔ ext F r0 r1 d i a b = false
  | 0, i, a, b => by
    rw [fx, ext]
    cases (F 0 a b r0 && F 1 r0 a r1) <;> simp
  | d + 1, i, a, b => by
    rw [fx, fxS_none, ext]
    have ih := fx_ext hF (r0 := r0) (r1 := r1) d (i + 1)
    constructor
    · intro h
      cases hq : anyT (fun l => F (i % 2) a b l && ext F r0 r1 d (i + 1) l a) 25 with
      | false => rfl
      | true =>
        obtain ⟨l, h1, h2⟩ := (anyT_iff 25).mp hq
        rw [Bool.and_eq_true] at h2
        have hl := hF _ a b l (by omega) h2.1
        have := h l hl.1 (by omega)
        rw [if_pos h2.1] at this
        have h3 : fx F r0 r1 d (i + 1) l a = none := by
          cases hx : fx F r0 r1 d (i + 1) l a with
          | none => rfl
          | some r => rw [hx] at this; cases this
        rw [ih] at h3; rw [h3] at h2; exact absurd h2.2 (by simp)
    · intro h u h1 h2
      by_cases hFu : F (i % 2) a b u = true
      · rw [if_pos hFu]
        have h3 : fx F r0 r1 d (i + 1) u a = none := by
          rw [ih]
          cases hx : ext F r0 r1 d (i + 1) u a with
          | false => rfl
          | true =>
            have : anyT (fun l => F (i % 2) a b l && ext F r0 r1 d (i + 1) l a) 25 = true := (anyT_iff 25).mpr ⟨u, by omega, by rw [hFu, hx]; rfl⟩
            rw [h] at this; cases this
        rw [h3]; rfl
      · rw [if_neg hFu]
theorem pth_snoc : ∀ k s a b s2 a2 b2 l, pth F k s a b s2 a2 b2 → F s2 a2 b2 l = true → pth F (k + 1) s a b (1 - s2) l a2
  | 0, s, a, b, s2, a2, b2, l, h1, h2 => by
    obtain ⟨e1, e2, e3⟩ := h1
    subst e1 e2 e3
    exact ⟨l, h2, rfl, rfl, rfl⟩
  | k + 1, s, a, b, s2, a2, b2, l, ⟨u, h1, h2⟩, h3 => ⟨u, h1, pth_snoc k (1 - s) u a s2 a2 b2 l h2 h3⟩
theorem pth_last : ∀ k s a b s2 a2 b2, pth F (k + 1) s a b s2 a2 b2 → ∃ s3 a3 b3, pth F k s a b s3 a3 b3 ∧ F s3 a3 b3 a2 = true ∧ s2 = 1 - s3 ∧ b2 = a3
  | 0, s, a, b, s2, a2, b2, ⟨l, h1, h2, h3, h4⟩ => ⟨s, a, b, ⟨rfl, rfl, rfl⟩, by rw [← h3]; exact h1, h2.symm, h4.symm⟩
  | k + 1, s, a, b, s2, a2, b2, ⟨l, h1, h2⟩ => by
    obtain ⟨s3, a3, b3, u1, u2, u3, u4⟩ := pth_last k (1 - s) l a s2 a2 b2 h2
    exact ⟨s3, a3, b3, ⟨l, h1, u1⟩, u2, u3, u4⟩
theorem OnC.next {s a b : Nat} (h : OnC F s a b) : ∃ l, F s a b l = true ∧ OnC F (1 - s) l a := by
  obtain ⟨k, l, h1, h2⟩ := h
  exact ⟨l, h1, k, pth_snoc (k + 1) (1 - s) l a s a b l h2 h1⟩
theorem pth_le : ∀ k s a b s2 a2 b2, s ≤ 1 → pth F k s a b s2 a2 b2 → s2 ≤ 1
  | 0, s, a, b, s2, a2, b2, hs, h => by have := h.1; omega
  | k + 1, s, a, b, s2, a2, b2, hs, ⟨l, h1, h2⟩ => pth_le k (1 - s) l a s2 a2 b2 (by omega) h2
theorem OnC.prev {s a b : Nat} (hs : s ≤ 1) (h : OnC F s a b) : ∃ s3 c, s3 ≤ 1 ∧ F s3 b c a = true ∧ s = 1 - s3 ∧ OnC F s3 b c := by
  obtain ⟨k, h⟩ := h
  obtain ⟨s3, a3, b3, u1, u2, u3, u4⟩ := pth_last (k + 1) s a b s a b h
  subst u4
  refine ⟨s3, b3, pth_le _ _ _ _ _ _ _ hs u1, u2, u3, k, ?_⟩
  refine ⟨a, u2, ?_⟩
  rw [← u3]; exact u1
theorem OnC.lens {s a b : Nat} (hF : ∀ s a b l, l < 32 → F s a b l = true → 1 ≤ l ∧ l ≤ 24) (hG : ∀ s a b l, F s a b l = true → l < 32) (hs : s ≤ 1) (h : OnC F s a b) : (1 ≤ a ∧ a ≤ 24) ∧ (1 ≤ b ∧ b ≤ 24) := by
  obtain ⟨s3, c, h0, h1, h2, h3⟩ := h.prev hs
  obtain ⟨s4, e, h00, h4, h5, h6⟩ := h3.prev h0
  exact ⟨hF _ _ _ _ (hG _ _ _ _ h1) h1, hF _ _ _ _ (hG _ _ _ _ h4) h4⟩
/-- a row that can be led round lies on a circle -/
theorem ext_pth {r0 r1 : Nat} : ∀ d i a b, (i + d) % 2 = 0 → ext F r0 r1 d i a b = true → pth F (d + 2) (i % 2) a b 0 r1 r0
  | 0, i, a, b, hp, h => by
    rw [ext, Bool.and_eq_true] at h
    rw [show i % 2 = 0 by omega]
    exact ⟨r0, h.1, r1, h.2, rfl, rfl, rfl⟩
  | d + 1, i, a, b, hp, h => by
    rw [ext] at h
    obtain ⟨l, h1, h2⟩ := (anyT_iff 25).mp h
    rw [Bool.and_eq_true] at h2
    have := ext_pth d (i + 1) l a (by omega) h2.2
    rw [show (i + 1) % 2 = 1 - i % 2 by omega] at this
    exact ⟨l, h2.1, this⟩
theorem pth_app : ∀ k j s a b s2 a2 b2 s3 a3 b3, pth F k s a b s2 a2 b2 → pth F j s2 a2 b2 s3 a3 b3 → pth F (k + j) s a b s3 a3 b3
  | 0, j, s, a, b, s2, a2, b2, s3, a3, b3, h1, h => by
    obtain ⟨e1, e2, e3⟩ := h1
    subst e1 e2 e3
    rw [Nat.zero_add]; exact h
  | k + 1, j, s, a, b, s2, a2, b2, s3, a3, b3, ⟨l, h1, h2⟩, h => by
    rw [show k + 1 + j = (k + j) + 1 by omega]
    exact ⟨l, h1, pth_app k j (1 - s) l a s2 a2 b2 s3 a3 b3 h2 h⟩
theorem ext_on {r0 r1 p d i a b : Nat} (hp : (i + d) % 2 = 0) (pre : pth F p 0 r1 r0 (i % 2) a b) (h : ext F r0 r1 d i a b = true) : OnC F (i % 2) a b := by
  have h1 := ext_pth d i a b hp h
  have h2 := pth_app (d + 2) p _ _ _ _ _ _ _ _ _ h1 pre
  exact ⟨d + p, by rw [show d + p + 2 = d + 2 + p by omega]; exact h2⟩
end RND2
