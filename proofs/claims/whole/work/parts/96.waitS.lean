/-- What is asked of a place of a talk: when two places are alike. -/
def wSim (kA kB kL : Bool) (sE : Nat → Nat → Prop) (a b q a' b' q' : Nat) : Prop :=
  (kA = true → a = a') ∧ (kB = true → b = b') ∧ (kL = true → sE q q')

def wOk (Sp : Nat → Prop) (Q : Nat → Nat → Nat → Nat → Nat → Prop) (l : Nat) (F : Nat → Nat → Nat → Prop) : Prop :=
  ∃ a b q s, F a b q ∧ s < 6 ∧ Sp s ∧ Q a b q s l

def wNx (Sp : Nat → Prop) (Q : Nat → Nat → Nat → Nat → Nat → Prop) (F : Nat → Nat → Nat → Prop) : Nat → Nat → Nat → Prop :=
  fun a b q => ∃ s b0 q0, q = s + 1 ∧ s < 6 ∧ Sp s ∧ 1 ≤ a ∧ a ≤ 24 ∧ F b b0 q0 ∧ Q b b0 q0 s a

/-- What the reference answers, level by level. -/
def WR (Sp : Nat → Prop) (Q : Nat → Nat → Nat → Nat → Nat → Nat → Prop) (l : Nat) : Nat → Nat → (Nat → Nat → Nat → Prop) → Int → Prop
  | 0, _, _, v => v = -2
  | n + 1, i, F, v => (wOk Sp (Q i) l F ∧ v = (i : Int)) ∨ (¬ wOk Sp (Q i) l F ∧ WR Sp Q l n (i + 1) (wNx Sp (Q i) F) v)

def wNxC (kA kB kL : Bool) (T : Nat → Prop) (Q : Nat → Nat → Nat → Nat → Nat → Prop) (l : Nat) (C : Nat → Nat → Nat → Prop) : Nat → Nat → Nat → Prop :=
  fun a b q => ∃ s a0 b0 q0 l', s < 6 ∧ T s ∧ C a0 b0 q0 ∧ 1 ≤ l' ∧ l' ≤ 24 ∧ l' ≠ l ∧ Q a0 b0 q0 s l' ∧
    a = (if kA = true then l' else 0) ∧ b = (if kB = true then a0 else 0) ∧ q = (if kL = true then s + 1 else 0)

/-- What the class answers, level by level: C the places now, S all that were. -/
def WC (kA kB kL kK : Bool) (T : Nat → Prop) (Q : Nat → Nat → Nat → Nat → Nat → Nat → Prop) (l : Nat) : Nat → Nat → (Nat → Nat → Nat → Prop) → (Nat → Nat → Nat → Prop) → Int → Prop
  | 0, _, _, _, v => v = -2
  | n + 1, i, C, S, v => (wOk T (Q i) l C ∧ v = (i : Int)) ∨
      (¬ wOk T (Q i) l C ∧ WC kA kB kL kK T Q l n (i + 1)
        (fun a b q => wNxC kA kB kL T (Q i) l C a b q ∧ (kK = false → ¬ S a b q))
        (fun a b q => S a b q ∨ wNxC kA kB kL T (Q i) l C a b q) v)

theorem wait_same (kA kB kL kK : Bool) (Sp T : Nat → Prop) (Q : Nat → Nat → Nat → Nat → Nat → Nat → Prop) (l : Nat) (sE : Nat → Nat → Prop)
    (hBA : kB = true → kA = true) (hrf : ∀ q, sE q q)
    (hT : ∀ s, s < 6 → Sp s → ∃ s', s' < 6 ∧ T s' ∧ sE (s + 1) (s' + 1)) (hT' : ∀ s, s < 6 → T s → Sp s)
    (hQ : ∀ i a b q a' b' q' s s' z, s < 6 → s' < 6 → wSim kA kB kL sE a b q a' b' q' → sE (s + 1) (s' + 1) → (Q i a b q s z ↔ Q i a' b' q' s' z))
    (hK : kK = false → ∀ i j a b q s z, s < 6 → Q i a b q s z → Q j a b q s z) :
    ∀ n i (F C S : Nat → Nat → Nat → Prop) v w,
      (∀ a b q, C a b q → ∃ a' b' q', F a' b' q' ∧ wSim kA kB kL sE a' b' q' a b q) →
      (∀ a b q, F a b q → ∃ a' b' q', (C a' b' q' ∨ (kK = false ∧ S a' b' q')) ∧ wSim kA kB kL sE a b q a' b' q') →
      (kK = false → ∀ a b q, C a b q → S a b q) →
      (kK = false → ∀ a b q, S a b q → C a b q ∨ ((∀ s, s < 6 → T s → ¬ Q i a b q s l) ∧
        ∀ s l', s < 6 → T s → 1 ≤ l' → l' ≤ 24 → l' ≠ l → Q i a b q s l' →
          S (if kA = true then l' else 0) (if kB = true then a else 0) (if kL = true then s + 1 else 0))) →
      WR Sp Q l n i F v → WC kA kB kL kK T Q l n i C S w → v = w := by
  intro n
  induction n with
  | zero => intro i F C S v w _ _ _ _ hr hc; exact hr.trans hc.symm
  | succ n ih =>
    intro i F C S v w h1 h2 h3 h4 hr hc
    have hok : wOk Sp (Q i) l F ↔ wOk T (Q i) l C := by
      constructor
      · rintro ⟨a, b, q, s, hf, hs, hsp, hq⟩
        obtain ⟨a', b', q', hcs, hsim⟩ := h2 a b q hf
        obtain ⟨s', hs', hts, he⟩ := hT s hs hsp
        have hq' := (hQ i a b q a' b' q' s s' l hs hs' hsim he).mp hq
        rcases hcs with hcc | ⟨hk, hss⟩
        · exact ⟨a', b', q', s', hcc, hs', hts, hq'⟩
        · rcases h4 hk a' b' q' hss with hcc | ⟨hno, _⟩
          · exact ⟨a', b', q', s', hcc, hs', hts, hq'⟩
          · exact absurd hq' (hno s' hs' hts)
      · rintro ⟨a, b, q, s, hc', hs, hts, hq⟩
        obtain ⟨a', b', q', hf, hsim⟩ := h1 a b q hc'
        exact ⟨a', b', q', s, hf, hs, hT' s hs hts, (hQ i a' b' q' a b q s s l hs hs hsim (hrf _)).mpr hq⟩
    rcases hr with ⟨ho, hv⟩ | ⟨hno, hr⟩
    · rcases hc with ⟨_, hw⟩ | ⟨hnc, _⟩
      · rw [hv, hw]
      · exact absurd (hok.mp ho) hnc
    · rcases hc with ⟨hoc, _⟩ | ⟨hnc, hc⟩
      · exact absurd (hok.mpr hoc) hno
      · refine ih (i + 1) _ _ _ v w ?_ ?_ ?_ ?_ hr hc
        · rintro a b q ⟨⟨s, a0, b0, q0, l', hs, hts, hc0, g1, g2, g3, hq, ea, eb, eq⟩, _⟩
          obtain ⟨a', b', q', hf, hsim⟩ := h1 a0 b0 q0 hc0
          refine ⟨l', a', s + 1, ⟨s, b', q', rfl, hs, hT' s hs hts, g1, g2, hf, (hQ i a' b' q' a0 b0 q0 s s l' hs hs hsim (hrf _)).mpr hq⟩, ?_, ?_, ?_⟩
          · intro hk; rw [ea, if_pos hk]
          · intro hk; rw [eb, if_pos hk]; exact hsim.1 (hBA hk)
          · intro hk; rw [eq, if_pos hk]; exact hrf _
        · rintro a b q ⟨s, b0, q0, eq, hs, hsp, g1, g2, hf, hq⟩
          obtain ⟨a', b', q', hcs, hsim⟩ := h2 b b0 q0 hf
          obtain ⟨s', hs', hts, he⟩ := hT s hs hsp
          have hq' := (hQ i b b0 q0 a' b' q' s s' a hs hs' hsim he).mp hq
          have hal : a ≠ l := by
            intro e
            subst e
            exact hno ⟨b, b0, q0, s, hf, hs, hsp, hq⟩
          refine ⟨(if kA = true then a else 0), (if kB = true then a' else 0), (if kL = true then s' + 1 else 0), ?_, ?_, ?_, ?_⟩
          · rcases hcs with hcc | ⟨hk, hss⟩
            · have hn : wNxC kA kB kL T (Q i) l C (if kA = true then a else 0) (if kB = true then a' else 0) (if kL = true then s' + 1 else 0) :=
                ⟨s', a', b', q', a, hs', hts, hcc, g1, g2, hal, hq', rfl, rfl, rfl⟩
              cases hkk : kK with
              | true => exact Or.inl ⟨hn, fun h => by cases h⟩
              | false => exact Or.inr ⟨rfl, Or.inr hn⟩
            · rcases h4 hk a' b' q' hss with hcc | ⟨_, hsu⟩
              · exact Or.inr ⟨hk, Or.inr ⟨s', a', b', q', a, hs', hts, hcc, g1, g2, hal, hq', rfl, rfl, rfl⟩⟩
              · exact Or.inr ⟨hk, Or.inl (hsu s' a hs' hts g1 g2 hal hq')⟩
          · intro hk; rw [if_pos hk]
          · intro hk; rw [if_pos hk]; exact hsim.1 (hBA hk)
          · intro hk; rw [if_pos hk, eq]; exact he
        · rintro hk a b q ⟨hn, _⟩
          exact Or.inr hn
        · intro hk a b q hs
          by_cases hS : S a b q
          · refine Or.inr ⟨?_, ?_⟩
            · intro s hs6 hts hq
              rcases h4 hk a b q hS with hcc | ⟨hn, _⟩
              · exact hnc ⟨a, b, q, s, hcc, hs6, hts, hK hk _ _ _ _ _ _ _ hs6 hq⟩
              · exact hn s hs6 hts (hK hk _ _ _ _ _ _ _ hs6 hq)
            · intro s l' hs6 hts g1 g2 g3 hq
              rcases h4 hk a b q hS with hcc | ⟨_, hn⟩
              · exact Or.inr ⟨s, a, b, q, l', hs6, hts, hcc, g1, g2, g3, hK hk _ _ _ _ _ _ _ hs6 hq, rfl, rfl, rfl⟩
              · exact Or.inl (hn s l' hs6 hts g1 g2 g3 (hK hk _ _ _ _ _ _ _ hs6 hq))
          · rcases hs with hs | hs
            · exact absurd hs hS
            · exact Or.inl ⟨hs, fun _ => hS⟩

/-- Where nobody stands, nothing comes of it. -/
theorem WC_nil (kA kB kL kK : Bool) (T : Nat → Prop) (Q : Nat → Nat → Nat → Nat → Nat → Nat → Prop) (l : Nat) :
    ∀ n i (C S : Nat → Nat → Nat → Prop), (∀ a b q, ¬ C a b q) → WC kA kB kL kK T Q l n i C S (-2) := by
  intro n
  induction n with
  | zero => intro i C S _; exact rfl
  | succ n ih =>
    intro i C S hC
    refine Or.inr ⟨?_, ih (i + 1) _ _ ?_⟩
    · rintro ⟨a, b, q, s, hc, _⟩; exact hC a b q hc
    · rintro a b q ⟨⟨s, a0, b0, q0, l', _, _, hc, _⟩, _⟩; exact hC a0 b0 q0 hc
