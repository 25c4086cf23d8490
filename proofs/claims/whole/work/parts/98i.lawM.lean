/-! the reference's codes -/
theorem lix_key {c : Int32} (h : lix c < 9) : c = 108 ∨ c = 116 ∨ c = 115 ∨ c = 99 ∨ c = 97 ∨ c = 98 ∨ c = 114 ∨ c = 100 ∨ c = 107 := by
  by_cases h0 : c = 108
  · exact Or.inl h0
  by_cases h1 : c = 116
  · exact Or.inr (Or.inl h1)
  by_cases h2 : c = 115
  · exact Or.inr (Or.inr (Or.inl h2))
  by_cases h3 : c = 99
  · exact Or.inr (Or.inr (Or.inr (Or.inl h3)))
  by_cases h4 : c = 97
  · exact Or.inr (Or.inr (Or.inr (Or.inr (Or.inl h4))))
  by_cases h5 : c = 98
  · exact Or.inr (Or.inr (Or.inr (Or.inr (Or.inr (Or.inl h5)))))
  by_cases h6 : c = 114
  · exact Or.inr (Or.inr (Or.inr (Or.inr (Or.inr (Or.inr (Or.inl h6))))))
  by_cases h7 : c = 100
  · exact Or.inr (Or.inr (Or.inr (Or.inr (Or.inr (Or.inr (Or.inr (Or.inl h7)))))))
  by_cases h8 : c = 107
  · exact Or.inr (Or.inr (Or.inr (Or.inr (Or.inr (Or.inr (Or.inr (Or.inr h8)))))))
  unfold lix at h
  rw [if_neg h0, if_neg h1, if_neg h2, if_neg h3, if_neg h4, if_neg h5, if_neg h6, if_neg h7, if_neg h8] at h
  omega
theorem valueM {c : Int32} (hc : lix c < 9) {g : AHp} (hk : okM g) : m_X12_valueOf c g = some (momM g (lix c), g) := by
  rcases lix_key hc with rfl | rfl | rfl | rfl | rfl | rfl | rfl | rfl | rfl
  · unfold m_X12_valueOf
    rw [if_neg (by decide), if_neg (by decide), if_neg (by decide), if_neg (by decide), if_neg (by decide), if_neg (by decide), if_neg (by decide), if_neg (by decide), if_neg (by decide), if_neg (by decide), if_neg (by decide), if_pos rfl]
    rfl
  · unfold m_X12_valueOf
    rw [if_neg (by decide), if_neg (by decide), if_neg (by decide), if_neg (by decide), if_neg (by decide), if_neg (by decide), if_neg (by decide), if_neg (by decide), if_neg (by decide), if_neg (by decide), if_neg (by decide), if_neg (by decide), if_neg (by decide), if_neg (by decide), if_neg (by decide), if_neg (by decide), if_neg (by decide), if_neg (by decide), if_neg (by decide), if_pos rfl]
    rfl
  · unfold m_X12_valueOf
    rw [if_neg (by decide), if_neg (by decide), if_neg (by decide), if_neg (by decide), if_neg (by decide), if_neg (by decide), if_neg (by decide), if_neg (by decide), if_neg (by decide), if_neg (by decide), if_neg (by decide), if_neg (by decide), if_neg (by decide), if_neg (by decide), if_neg (by decide), if_neg (by decide), if_neg (by decide), if_neg (by decide), if_pos rfl]
    rfl
  · unfold m_X12_valueOf
    rw [if_neg (by decide), if_neg (by decide), if_pos rfl]
    rw [gd_pos (inb_iff.mpr (by have := hk.1; omega))]
    rfl
  · unfold m_X12_valueOf
    rw [if_pos rfl]
    rfl
  · unfold m_X12_valueOf
    rw [if_neg (by decide), if_pos rfl]
    rfl
  · unfold m_X12_valueOf
    rw [if_neg (by decide), if_neg (by decide), if_neg (by decide), if_neg (by decide), if_neg (by decide), if_neg (by decide), if_neg (by decide), if_neg (by decide), if_neg (by decide), if_neg (by decide), if_neg (by decide), if_neg (by decide), if_neg (by decide), if_neg (by decide), if_neg (by decide), if_neg (by decide), if_neg (by decide), if_pos rfl]
    rw [show momM g (lix 114) = (if 0 ≤ hI g 70 38 then hI g 70 38 else 0) from rfl]
    by_cases h0 : 0 ≤ hI g 70 38
    · rw [if_pos h0, if_pos h0]
    · rw [if_neg h0, if_neg h0]
  · unfold m_X12_valueOf
    rw [if_neg (by decide), if_neg (by decide), if_neg (by decide), if_pos rfl]
    rw [show momM g (lix 100) = (if 0 ≤ hI g 70 38 then hI g 91 (hI g 70 38).toNatClampNeg else 0) from rfl]
    by_cases h0 : 0 ≤ hI g 70 38
    · have h1 : 0 ≤ (hI g 70 38).toInt := by rw [i32_le] at h0; simp only [tIall] at h0; exact h0
      rw [if_pos h0, if_pos h0, gd_pos (inb_iff.mpr (by have := hk.2; omega))]
    · rw [if_neg h0, if_neg h0]
  · unfold m_X12_valueOf
    rw [if_neg (by decide), if_neg (by decide), if_neg (by decide), if_neg (by decide), if_neg (by decide), if_neg (by decide), if_neg (by decide), if_neg (by decide), if_neg (by decide), if_neg (by decide), if_pos rfl]
    rfl
def opO (c x y : Int32) : Option Int32 := if isC c = true then some (cmO c x y) else arO c x y
def isOp (c : Int32) : Prop := isT c = true ∨ isP c = true ∨ isC c = true
theorem isOp_key {c : Int32} (h : isOp c) : c = 37 ∨ c = 42 ∨ c = 43 ∨ c = 45 ∨ c = 47 ∨ c = 60 ∨ c = 62 ∨ c = 61 := by
  unfold isOp isT isP isC at h
  simp only [Bool.or_eq_true, decide_eq_true_iff] at h
  rcases h with ((h | h) | h) | (h | h) | ((h | h) | h)
  · exact Or.inr (Or.inl h)
  · exact Or.inr (Or.inr (Or.inr (Or.inr (Or.inl h))))
  · exact Or.inl h
  · exact Or.inr (Or.inr (Or.inl h))
  · exact Or.inr (Or.inr (Or.inr (Or.inl h)))
  · exact Or.inr (Or.inr (Or.inr (Or.inr (Or.inr (Or.inl h)))))
  · exact Or.inr (Or.inr (Or.inr (Or.inr (Or.inr (Or.inr (Or.inl h))))))
  · exact Or.inr (Or.inr (Or.inr (Or.inr (Or.inr (Or.inr (Or.inr h))))))
theorem arO_42 (x y : Int32) : arO 42 x y = some (x * y) := rfl
theorem arO_43 (x y : Int32) : arO 43 x y = some (x + y) := rfl
theorem arO_45 (x y : Int32) : arO 45 x y = some (x - y) := rfl
theorem workedM {c : Int32} (hc : isOp c) (x y : Int32) : ∃ w, (∀ h, m_X12_worked c x y h = some (w, h)) ∧ ∀ v, opO c x y = some v → w = v := by
  rcases isOp_key hc with rfl | rfl | rfl | rfl | rfl | rfl | rfl | rfl
  · by_cases h0 : y = 0
    · refine ⟨0, fun h => ?_, fun v hv => ?_⟩
      · unfold m_X12_worked; rw [if_pos rfl, if_pos h0]
      · have e : arO 37 x y = some v := hv
        rw [arO_37, if_pos h0] at e; cases e
    · refine ⟨x - x / y * y, fun h => ?_, fun v hv => ?_⟩
      · unfold m_X12_worked; rw [if_pos rfl, if_neg h0, gd_pos h0]
      · have e : arO 37 x y = some v := hv
        rw [arO_37, if_neg h0] at e; exact Option.some.inj e
  · exact ⟨x * y, fun h => by unfold m_X12_worked; rw [if_neg (by decide), if_pos rfl], fun v hv => Option.some.inj (show some (x * y) = some v from hv)⟩
  · exact ⟨x + y, fun h => by unfold m_X12_worked; rw [if_neg (by decide), if_neg (by decide), if_pos rfl], fun v hv => Option.some.inj (show some (x + y) = some v from hv)⟩
  · exact ⟨x - y, fun h => by unfold m_X12_worked; rw [if_neg (by decide), if_neg (by decide), if_neg (by decide), if_pos rfl], fun v hv => Option.some.inj (show some (x - y) = some v from hv)⟩
  · by_cases h0 : y = 0
    · refine ⟨0, fun h => ?_, fun v hv => ?_⟩
      · unfold m_X12_worked; rw [if_neg (by decide), if_neg (by decide), if_neg (by decide), if_neg (by decide), if_pos rfl, if_pos h0]
      · have e : arO 47 x y = some v := hv
        rw [arO_47, if_pos h0] at e; cases e
    · refine ⟨x / y, fun h => ?_, fun v hv => ?_⟩
      · unfold m_X12_worked; rw [if_neg (by decide), if_neg (by decide), if_neg (by decide), if_neg (by decide), if_pos rfl, if_neg h0, gd_pos h0]
      · have e : arO 47 x y = some v := hv
        rw [arO_47, if_neg h0] at e; exact Option.some.inj e
  · refine ⟨cmO 60 x y, fun h => ?_, fun v hv => Option.some.inj (show some (cmO 60 x y) = some v from hv)⟩
    unfold m_X12_worked
    rw [cmO_60, if_neg (show ¬ ((60 : Int32) = 37) by decide), if_neg (show ¬ ((60 : Int32) = 42) by decide), if_neg (show ¬ ((60 : Int32) = 43) by decide), if_neg (show ¬ ((60 : Int32) = 45) by decide), if_neg (show ¬ ((60 : Int32) = 47) by decide), if_pos (show (60 : Int32) = 60 from rfl)]
    by_cases h1 : y ≤ x
    · rw [if_pos h1, if_pos h1]
    · rw [if_neg h1, if_neg h1]
  · refine ⟨cmO 62 x y, fun h => ?_, fun v hv => Option.some.inj (show some (cmO 62 x y) = some v from hv)⟩
    unfold m_X12_worked
    rw [cmO_62, if_neg (show ¬ ((62 : Int32) = 37) by decide), if_neg (show ¬ ((62 : Int32) = 42) by decide), if_neg (show ¬ ((62 : Int32) = 43) by decide), if_neg (show ¬ ((62 : Int32) = 45) by decide), if_neg (show ¬ ((62 : Int32) = 47) by decide), if_neg (show ¬ ((62 : Int32) = 60) by decide), if_pos (show (62 : Int32) = 62 from rfl)]
    by_cases h1 : x ≤ y
    · rw [if_pos h1, if_pos h1]
    · rw [if_neg h1, if_neg h1]
  · refine ⟨cmO 61 x y, fun h => ?_, fun v hv => Option.some.inj (show some (cmO 61 x y) = some v from hv)⟩
    unfold m_X12_worked
    rw [cmO_61, if_neg (show ¬ ((61 : Int32) = 37) by decide), if_neg (show ¬ ((61 : Int32) = 42) by decide), if_neg (show ¬ ((61 : Int32) = 43) by decide), if_neg (show ¬ ((61 : Int32) = 45) by decide), if_neg (show ¬ ((61 : Int32) = 47) by decide), if_neg (show ¬ ((61 : Int32) = 60) by decide), if_neg (show ¬ ((61 : Int32) = 62) by decide)]
    by_cases h1 : x = y
    · rw [if_pos h1, if_pos h1]
    · rw [if_neg h1, if_neg h1]
abbrev PWn (N : Nat) : Nat → Nat → Bool := fun k i => (k == 92 || k == 93) && i == N
theorem pwn_pw {N : Nat} {g g1 : AHp} (c : Ch (PWn N) g g1) : Ch PW g g1 := c.mono (fun k i hp => by
  simp only [Bool.or_eq_false_iff, Bool.and_eq_false_iff, beq_eq_false_iff_ne] at hp ⊢; omega)
/-- what an operation leaves of two: refused, or a value -/
def flO (c : Int32) (fA fB x y : Int32) : Option Int32 := if fA = 0 ∧ fB = 0 then opO c x y else none
theorem doesM {c : Int32} (hc : isOp c) {N : Nat} (hN : N + 1 < 240) (g : AHp) : ∃ g1, m_X12_does c (nI N) g = some ((), g1) ∧ Ch (PWn N) g g1 ∧ (flO c (hI g 93 N) (hI g 93 (N + 1)) (hI g 92 N) (hI g 92 (N + 1)) = none → hI g1 93 N = 1) ∧ ∀ v, flO c (hI g 93 N) (hI g 93 (N + 1)) (hI g 92 N) (hI g 92 (N + 1)) = some v → hI g1 93 N = 0 ∧ hI g1 92 N = v := by
  have gi : inb (nI N) 240 := inb_nI (by omega) (by omega)
  have gi1 : inb (nI (N + 1)) 240 := inb_nI (by omega) (by omega)
  have ec : (nI N).toNatClampNeg = N := nI_clamp (by omega)
  have ec1 : (nI (N + 1)).toNatClampNeg = N + 1 := nI_clamp (by omega)
  obtain ⟨w, hw, hw2⟩ := workedM hc (hI g 92 N) (hI g 92 (N + 1))
  have d120 : ∀ s2 : Int32, (s2 = 0 ∨ s2 = 1) → m_X12_does_120 c (nI N) (nI (N + 1)) (nI N) s2 g = some ((), sI (sI g 93 N s2) 92 N w) := fun s2 h2 => by
    unfold m_X12_does_120
    have e1 : hI (sI g 93 N s2) 92 N = hI g 92 N := by rw [hI_sI, if_neg (by omega)]
    have e2 : hI (sI g 93 N s2) 92 (N + 1) = hI g 92 (N + 1) := by rw [hI_sI, if_neg (by omega)]
    simp only [gd_pos gi, gd_pos gi1, ec, ec1, nar_b h2, lt_eq]
    rw [e1, e2, hw, bd_some]
  have c38 : ¬ c = 38 := by rintro rfl; rcases isOp_key hc with h | h | h | h | h | h | h | h <;> revert h <;> decide
  have c124 : ¬ c = 124 := by rintro rfl; rcases isOp_key hc with h | h | h | h | h | h | h | h <;> revert h <;> decide
  have fin : ∀ s2 : Int32, m_X12_does c (nI N) g = m_X12_does_120 c (nI N) (nI (N + 1)) (nI N) s2 g → ((s2 = 1 ∧ flO c (hI g 93 N) (hI g 93 (N + 1)) (hI g 92 N) (hI g 92 (N + 1)) = none) ∨ (s2 = 0 ∧ ∃ v, flO c (hI g 93 N) (hI g 93 (N + 1)) (hI g 92 N) (hI g 92 (N + 1)) = some v ∧ w = v)) → ∃ g1, m_X12_does c (nI N) g = some ((), g1) ∧ Ch (PWn N) g g1 ∧ (flO c (hI g 93 N) (hI g 93 (N + 1)) (hI g 92 N) (hI g 92 (N + 1)) = none → hI g1 93 N = 1) ∧ ∀ v, flO c (hI g 93 N) (hI g 93 (N + 1)) (hI g 92 N) (hI g 92 (N + 1)) = some v → hI g1 93 N = 0 ∧ hI g1 92 N = v := by
    intro s2 he hs
    have a93 : hI (sI (sI g 93 N s2) 92 N w) 93 N = s2 := by rw [hI_sI, if_neg (by omega), hI_sI, if_pos ⟨rfl, rfl⟩]
    have a92 : hI (sI (sI g 93 N s2) 92 N w) 92 N = w := by rw [hI_sI, if_pos ⟨rfl, rfl⟩]
    rcases hs with ⟨h1, h2⟩ | ⟨h1, v, h2, h3⟩
    · refine ⟨_, by rw [he, d120 s2 (Or.inr h1)], (Ch.rf.sI (by simp)).sI (by simp), fun _ => by rw [a93, h1], fun v hv => ?_⟩
      rw [h2] at hv; cases hv
    · refine ⟨_, by rw [he, d120 s2 (Or.inl h1)], (Ch.rf.sI (by simp)).sI (by simp), fun hn => ?_, fun u hu => ?_⟩
      · rw [h2] at hn; cases hn
      · rw [h2] at hu
        exact ⟨by rw [a93, h1], by rw [a92, h3]; exact Option.some.inj hu⟩
  have d0 : m_X12_does c (nI N) g = (if hI g 93 N = 0 then (if hI g 93 (N + 1) = 0 then (if c = 47 then (if hI g 92 (N + 1) = 0 then m_X12_does_120 c (nI N) (nI (N + 1)) (nI N) 1 g else m_X12_does_120 c (nI N) (nI (N + 1)) (nI N) 0 g) else if c = 37 then (if hI g 92 (N + 1) = 0 then m_X12_does_120 c (nI N) (nI (N + 1)) (nI N) 1 g else m_X12_does_120 c (nI N) (nI (N + 1)) (nI N) 0 g) else m_X12_does_120 c (nI N) (nI (N + 1)) (nI N) 0 g) else m_X12_does_120 c (nI N) (nI (N + 1)) (nI N) 1 g) else m_X12_does_120 c (nI N) (nI (N + 1)) (nI N) 1 g) := by
    unfold m_X12_does
    rw [lt_eq, nI_1, if_neg c38, if_neg c124, gd_pos gi]
    simp only [gd_pos gi1, ec, ec1]
  by_cases fA : hI g 93 N = 0
  rotate_left
  · rw [if_neg fA] at d0
    exact fin 1 d0 (Or.inl ⟨rfl, by unfold flO; rw [if_neg (fun h => fA h.1)]⟩)
  rw [if_pos fA] at d0
  by_cases fB : hI g 93 (N + 1) = 0
  rotate_left
  · rw [if_neg fB] at d0
    exact fin 1 d0 (Or.inl ⟨rfl, by unfold flO; rw [if_neg (fun h => fB h.2)]⟩)
  rw [if_pos fB] at d0
  have hfl : flO c (hI g 93 N) (hI g 93 (N + 1)) (hI g 92 N) (hI g 92 (N + 1)) = opO c (hI g 92 N) (hI g 92 (N + 1)) := by unfold flO; rw [if_pos ⟨fA, fB⟩]
  have okv : ∀ v, opO c (hI g 92 N) (hI g 92 (N + 1)) = some v → m_X12_does c (nI N) g = m_X12_does_120 c (nI N) (nI (N + 1)) (nI N) 0 g → _ := fun v hv he => fin 0 he (Or.inr ⟨rfl, v, by rw [hfl, hv], hw2 v hv⟩)
  by_cases h47 : c = 47
  · rw [if_pos h47] at d0
    by_cases h0 : hI g 92 (N + 1) = 0
    · rw [if_pos h0] at d0
      refine fin 1 d0 (Or.inl ⟨rfl, ?_⟩)
      rw [hfl, h47]
      show arO 47 _ _ = none
      rw [arO_47, if_pos h0]
    · rw [if_neg h0] at d0
      refine okv (hI g 92 N / hI g 92 (N + 1)) ?_ d0
      rw [h47]
      show arO 47 _ _ = _
      rw [arO_47, if_neg h0]
  rw [if_neg h47] at d0
  by_cases h37 : c = 37
  · rw [if_pos h37] at d0
    by_cases h0 : hI g 92 (N + 1) = 0
    · rw [if_pos h0] at d0
      refine fin 1 d0 (Or.inl ⟨rfl, ?_⟩)
      rw [hfl, h37]
      show arO 37 _ _ = none
      rw [arO_37, if_pos h0]
    · rw [if_neg h0] at d0
      refine okv (hI g 92 N - hI g 92 N / hI g 92 (N + 1) * hI g 92 (N + 1)) ?_ d0
      rw [h37]
      show arO 37 _ _ = _
      rw [arO_37, if_neg h0]
  rw [if_neg h37] at d0
  rcases isOp_key hc with h | h | h | h | h | h | h | h
  · exact absurd h h37
  · exact okv (hI g 92 N * hI g 92 (N + 1)) (by rw [h]; rfl) d0
  · exact okv (hI g 92 N + hI g 92 (N + 1)) (by rw [h]; rfl) d0
  · exact okv (hI g 92 N - hI g 92 (N + 1)) (by rw [h]; rfl) d0
  · exact absurd h h47
  · exact okv (cmO 60 (hI g 92 N) (hI g 92 (N + 1))) (by rw [h]; rfl) d0
  · exact okv (cmO 62 (hI g 92 N) (hI g 92 (N + 1))) (by rw [h]; rfl) d0
  · exact okv (cmO 61 (hI g 92 N) (hI g 92 (N + 1))) (by rw [h]; rfl) d0
