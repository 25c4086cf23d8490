/-- sums go on in the text -/
def VLt (ty : Nat → Int32) (n : Nat) (srec : Nat → Nat → VSp) : Prop := ∀ o p y, srec o p = .inr y → p < y.2.2
theorem nmS_le (ty : Nat → Int32) (n : Nat) : ∀ k v p y, nmS ty n k v p = .inr y → p ≤ y.2 ∧ (1 ≤ k → dgt (sg ty n p) = true → p < y.2) := by
  intro k
  induction k with
  | zero =>
    intro v p y h
    rw [nmS] at h
    by_cases hd : dgt (sg ty n p) = true
    · rw [if_pos hd] at h; cases h
    · rw [if_neg hd] at h
      have h2 := Sum.inr.inj h
      rw [← h2]
      exact ⟨Nat.le_refl _, fun h => by omega⟩
  | succ k ih =>
    intro v p y h
    rw [nmS] at h
    by_cases hd : dgt (sg ty n p) = true
    · rw [if_pos hd] at h
      have := (ih _ _ y h).1
      exact ⟨by omega, fun _ _ => by omega⟩
    · rw [if_neg hd] at h
      have h2 := Sum.inr.inj h
      rw [← h2]
      exact ⟨Nat.le_refl _, fun _ h => absurd h hd⟩
section LTS
variable {ty : Nat → Int32} {n : Nat} {srec : Nat → Nat → VSp}
theorem fcS_lt (hs : VLt ty n srec) : VLt ty n (fcS ty n srec) := by
  intro o p y h
  unfold fcS at h
  by_cases hd : dgt (sg ty n p) = true
  · rw [if_pos hd] at h
    cases hr : nmS ty n 5 0 p with
    | inl F => rw [hr] at h; cases h
    | inr z =>
      rw [hr] at h
      have h2 := Sum.inr.inj h
      have h3 := (nmS_le ty n 5 0 p z hr).2 (by omega) hd
      rw [← h2]; exact h3
  · rw [if_neg hd] at h
    by_cases h91 : sg ty n p = 91
    · rw [if_pos h91] at h
      by_cases ho : o < 6
      · rw [if_pos ho] at h
        cases hr : srec (o + 1) (p + 1) with
        | inl F => rw [hr, vsb_l] at h; cases h
        | inr z =>
          obtain ⟨D, m, q⟩ := z
          rw [hr, vsb_r] at h
          have h4 := hs _ _ _ hr
          simp only [] at h4
          by_cases h93 : sg ty n q = 93
          · rw [if_pos h93] at h
            have h2 := Sum.inr.inj h
            rw [← h2]; simp only []; omega
          · rw [if_neg h93] at h; cases h
      · rw [if_neg ho] at h; cases h
    · rw [if_neg h91] at h
      by_cases hl : lix (sg ty n p) < 9
      · rw [if_pos hl] at h
        have h2 := Sum.inr.inj h
        rw [← h2]; simp only []; omega
      · rw [if_neg hl] at h; cases h
theorem trL_le (hs : VLt ty n srec) (o : Nat) : ∀ sf A m p y, trL ty n srec o sf A m p = .inr y → p ≤ y.2.2 := by
  intro sf
  induction sf with
  | zero => intro A m p y h; rw [trL] at h; cases h
  | succ sf ih =>
    intro A m p y h
    rw [trL] at h
    by_cases hT : isT (sg ty n p) = true
    · rw [if_pos hT] at h
      cases hr : fcS ty n srec o (p + 1) with
      | inl F => rw [hr, vsb_l] at h; cases h
      | inr z =>
        obtain ⟨D, m', q⟩ := z
        rw [hr, vsb_r] at h
        have h1 := fcS_lt hs _ _ _ hr
        have h2 := ih _ _ _ _ h
        simp only [] at h1
        omega
    · rw [if_neg hT] at h
      have h2 := Sum.inr.inj h
      rw [← h2]; exact Nat.le_refl _
theorem trS_lt (hs : VLt ty n srec) : VLt ty n (trS ty n srec) := by
  intro o p y h
  unfold trS at h
  cases hr : fcS ty n srec o p with
  | inl F => rw [hr, vsb_l] at h; cases h
  | inr z =>
    obtain ⟨D, m', q⟩ := z
    rw [hr, vsb_r] at h
    have h1 := fcS_lt hs _ _ _ hr
    have h2 := trL_le hs o _ _ _ _ _ h
    simp only [] at h1
    omega
theorem smL_le (hs : VLt ty n srec) (o : Nat) : ∀ sf A m p y, smL ty n srec o sf A m p = .inr y → p ≤ y.2.2 := by
  intro sf
  induction sf with
  | zero => intro A m p y h; rw [smL] at h; cases h
  | succ sf ih =>
    intro A m p y h
    rw [smL] at h
    by_cases hT : isP (sg ty n p) = true
    · rw [if_pos hT] at h
      cases hr : trS ty n srec o (p + 1) with
      | inl F => rw [hr, vsb_l] at h; cases h
      | inr z =>
        obtain ⟨D, m', q⟩ := z
        rw [hr, vsb_r] at h
        have h1 := trS_lt hs _ _ _ hr
        have h2 := ih _ _ _ _ h
        simp only [] at h1
        omega
    · rw [if_neg hT] at h
      have h2 := Sum.inr.inj h
      rw [← h2]; exact Nat.le_refl _
theorem smS_lt (hs : VLt ty n srec) : VLt ty n (smS ty n srec) := by
  intro o p y h
  unfold smS at h
  cases hr : trS ty n srec o p with
  | inl F => rw [hr, vsb_l] at h; cases h
  | inr z =>
    obtain ⟨D, m', q⟩ := z
    rw [hr, vsb_r] at h
    have h1 := trS_lt hs _ _ _ hr
    have h2 := smL_le hs o _ _ _ _ _ h
    simp only [] at h1
    omega
end LTS
theorem SMs_V (ty : Nat → Int32) (n : Nat) : ∀ k, VLt ty n (SMs ty n k) := by
  intro k
  induction k with
  | zero => intro o p y h; rw [SMs] at h; cases h
  | succ k ih =>
    have : SMs ty n (k + 1) = smS ty n (SMs ty n k) := by
      funext a b; rw [SMs]
    rw [this]
    exact smS_lt ih
theorem SMs_lt {ty : Nat → Int32} {n o p q q2 : Nat} {A B : Dmn} {m m2 : Int32} (h1 : SMs ty n 10 o p = .inr (A, m, q)) (h2 : SMs ty n 10 o (q + 1) = .inr (B, m2, q2)) : p < q2 := by
  have a1 := SMs_V ty n 10 o p _ h1
  have a2 := SMs_V ty n 10 o (q + 1) _ h2
  simp only [] at a1 a2
  omega
def OutPc (ty : Nat → Int32) (n p cs st o0 k f ff : Nat) (g : AHp) (r : VSp) : Prop := match r with
  | .inl F => ∃ g1, PDq f ff g = some ((), g1) ∧ (hI g1 70 6 = F ∧ F.toInt < 0) ∧ Ch PLk g g1
  | .inr y => bD y.1 ∧ p < y.2.2 ∧ ((sg ty n y.2.2 = 93 ∧ ∃ g1, PDq f ff g = some ((), g1) ∧ (hI g1 70 6 = flt 1 y.2.2 ∧ (flt 1 y.2.2).toInt < 0) ∧ Ch PLk g g1) ∨ ∃ f' cs1 g1, PDq f ff g = GBm f' g1 ∧ n - y.2.2 + 1 < f' ∧ RLx ty n y.2.2 cs1 st o0 g1 ∧ RnM g1 cs cs1 (nots k y.1) ∧ Kk cs st g g1 ∧ hI g1 70 30 = 0)
def RecP (ty : Nat → Int32) (n : Nat) (srec : Nat → Nat → VSp) (o : Nat) : Prop := ∀ (p : Nat) (g : AHp) (f ff cs st k o0 : Nat), o = o0 + k → RLx ty n p cs (st + k) o g → (∀ i, i < k → hI g 90 (st + i) = 33) → tpB st g → hI g 70 30 = 0 → n - p + 1 < f → n - p < ff → OutPc ty n p cs st o0 k f ff g (srec o p)
def OutPt (ty : Nat → Int32) (n p cs st o : Nat) (X : Option (Unit × AHp)) (g : AHp) (r : VSp) : Prop := match r with
  | .inl F => ∃ g1, X = some ((), g1) ∧ (hI g1 70 6 = F ∧ F.toInt < 0) ∧ Ch PLk g g1
  | .inr y => bD y.1 ∧ p ≤ y.2.2 ∧ ((sg ty n y.2.2 = 93 ∧ ∃ g1, X = some ((), g1) ∧ (hI g1 70 6 = flt 1 y.2.2 ∧ (flt 1 y.2.2).toInt < 0) ∧ Ch PLk g g1) ∨ ∃ f' g1, X = GBm f' g1 ∧ n - y.2.2 + 1 < f' ∧ JTm ty n y.2.2 st o cs y.1 g1 ∧ Kk cs st g g1 ∧ hI g1 70 30 = 0 ∧ ¬ sg ty n y.2.2 = 38)
def OutCd (ty : Nat → Int32) (n p cs st o : Nat) (X : Option (Unit × AHp)) (g : AHp) (r : VSp) : Prop := match r with
  | .inl F => ∃ g1, X = some ((), g1) ∧ (hI g1 70 6 = F ∧ F.toInt < 0) ∧ Ch PLk g g1
  | .inr y => bD y.1 ∧ p ≤ y.2.2 ∧ ((sg ty n y.2.2 = 93 ∧ ∃ g1, X = some ((), g1) ∧ (hI g1 70 6 = flt 1 y.2.2 ∧ (flt 1 y.2.2).toInt < 0) ∧ Ch PLk g g1) ∨ ∃ f' g1, X = GBm f' g1 ∧ n - y.2.2 + 1 < f' ∧ JSm ty n y.2.2 st o cs y.1 g1 ∧ Kk cs st g g1 ∧ hI g1 70 30 = 0 ∧ ¬ sg ty n y.2.2 = 38 ∧ ¬ sg ty n y.2.2 = 124)
def tp2 (st : Nat) (g : AHp) : Prop := 1 ≤ st ∧ (hI g 90 (st - 1) = 40 ∨ hI g 90 (st - 1) = 124)
def tp1 (st : Nat) (g : AHp) : Prop := 1 ≤ st ∧ hI g 90 (st - 1) = 40
section PM
variable {ty : Nat → Int32} {n : Nat} {srec : Nat → Nat → VSp} {o : Nat}
theorem KpP.tb {Q : Nat → Nat → Bool} {st cs2 st2 : Nat} {g g1 : AHp} (k : KpP Q cs2 st2 g g1) (h : tpB st g) (hs : st ≤ st2) : tpB st g1 := by
  have := h.1
  unfold tpB at h ⊢
  rw [k.2.2 (st - 1) (by omega)]; exact h
theorem KpP.t2 {Q : Nat → Nat → Bool} {st cs2 st2 : Nat} {g g1 : AHp} (k : KpP Q cs2 st2 g g1) (h : tp2 st g) (hs : st ≤ st2) : tp2 st g1 := by
  have := h.1
  unfold tp2 at h ⊢
  rw [k.2.2 (st - 1) (by omega)]; exact h
theorem KpP.t1 {Q : Nat → Nat → Bool} {st cs2 st2 : Nat} {g g1 : AHp} (k : KpP Q cs2 st2 g g1) (h : tp1 st g) (hs : st ≤ st2) : tp1 st g1 := by
  have := h.1
  unfold tp1 at h ⊢
  rw [k.2.2 (st - 1) (by omega)]; exact h
theorem tp2.b {st : Nat} {g : AHp} (h : tp2 st g) : tpB st g := ⟨h.1, h.2.elim Or.inl (fun h => Or.inr (Or.inr h))⟩
theorem tp1.b2 {st : Nat} {g : AHp} (h : tp1 st g) : tp2 st g := ⟨h.1, Or.inl h.2⟩
theorem tp2.nb {st : Nat} {g : AHp} (h : tp2 st g) : 0 < st → ¬ hI g 90 (st - 1) = 38 := fun _ => by
  rcases h.2 with h | h <;> rw [h] <;> decide
theorem tp1.nb {st : Nat} {g : AHp} (h : tp1 st g) : 0 < st → ¬ hI g 90 (st - 1) = 38 ∧ ¬ hI g 90 (st - 1) = 124 := fun _ => by
  rw [h.2]; decide
theorem partLM (hr : RecP ty n srec o) : ∀ (sf f p st a : Nat) (A : Dmn) (mA : Int32) (g : AHp), JTm ty n p st o a A g → tp2 st g → bD A → hI g 70 30 = 0 → n - p < sf → n - p + 1 < f → OutPt ty n p a st o (GBm f g) g (paL ty n srec o sf A mA p) := by
  intro sf
  induction sf with
  | zero => intro f p st a A mA g _ _ _ _ h; omega
  | succ sf ih =>
    intro f p st a A mA g t htp hbA h30 hsf hf
    rw [paL]
    by_cases hc : sg ty n p = 38
    rotate_left
    · rw [if_neg hc]
      exact ⟨hbA, Nat.le_refl _, Or.inr ⟨f, g, rfl, hf, t, KpP.rf, h30, hc⟩⟩
    have hp : p < n := sg_lt (by rw [hc]; decide)
    rw [if_pos hc]
    obtain ⟨f, rfl⟩ : ∃ q, f = q + 1 := ⟨f - 1, by omega⟩
    obtain ⟨cs, g1, e1, x1, r1, k1⟩ := joins0M t htp.nb
    obtain ⟨g2, e2, x2, k2, h2, b2⟩ := gb_op (f := f) hp (Or.inl t) rfl (Or.inl hc) (by rw [hc]; exact e1) x1 k1 h30
    rw [hc] at h2
    have hst := r1.1
    have hb := x2.2.2.1
    have k12 : Kk a st g g2 := (KpP.nk k1).trans (KpP.nk k2) (by omega) (Nat.le_refl _)
    have htp2 : tpB (st + 1) g2 := ⟨by omega, by rw [show st + 1 - 1 = st by omega, h2]; exact Or.inr (Or.inl rfl)⟩
    have O := hr (p + 1) g2 f FU cs (st + 1) 0 o rfl x2 (fun i hi => by omega) htp2 b2 (by omega) (by unfold FU; omega)
    cases hrs : srec o (p + 1) with
    | inl F =>
      rw [hrs] at O
      obtain ⟨g3, e3, q3, c3⟩ := O
      rw [vsb_l]
      exact ⟨g3, by rw [e2, e3], q3, k12.1.trans c3⟩
    | inr y =>
      obtain ⟨B, m2, q⟩ := y
      rw [hrs] at O
      obtain ⟨hbB, lq, O⟩ := O
      simp only [] at hbB lq O
      rw [vsb_r]
      rcases O with ⟨h93, g3, e3, q3, c3⟩ | ⟨f', cs3, g3, e3, hf3, xq, r3, k3, b3⟩
      · -- a bracket that closes nothing: nothing more is read
        obtain ⟨sf, rfl⟩ : ∃ z, sf = z + 1 := ⟨sf - 1, by omega⟩
        rw [paL, if_neg (by rw [h93]; decide)]
        exact ⟨jD_b hbA hbB, by simp only []; omega, Or.inl ⟨h93, g3, by rw [e2, e3], q3, k12.1.trans c3⟩⟩
      · have kall : Kk a st g g3 := k12.trans k3 (by omega) (by omega)
        have t4 : JTm ty n q st o a (jD 0 A B) g3 := Or.inr ⟨cs3, cs, A, B, xq, by rw [k3.2.2 st (by omega)]; exact h2, (r1.kp k2 (Nat.le_refl _)).kp k3 (Nat.le_refl _), r3, hbA, rfl⟩
        have hqn := xq.2.2.1
        have O2 := ih f' q st a (jD 0 A B) (mA ||| m2) g3 t4 (kall.t2 htp (Nat.le_refl _)) (jD_b hbA hbB) b3 (by omega) hf3
        cases hr2 : paL ty n srec o sf (jD 0 A B) (mA ||| m2) q with
        | inl F =>
          rw [hr2] at O2
          obtain ⟨g4, e4, q4, c4⟩ := O2
          exact ⟨g4, by rw [e2, e3, e4], q4, kall.1.trans c4⟩
        | inr z =>
          rw [hr2] at O2
          obtain ⟨hbz, lz, O2⟩ := O2
          refine ⟨hbz, by omega, ?_⟩
          rcases O2 with ⟨h93, g4, e4, q4, c4⟩ | ⟨f4, g4, e4, hf4, t5, k4, b4, n4⟩
          · exact Or.inl ⟨h93, g4, by rw [e2, e3, e4], q4, kall.1.trans c4⟩
          · exact Or.inr ⟨f4, g4, by rw [e2, e3, e4], hf4, t5, kall.trans k4 (Nat.le_refl _) (Nat.le_refl _), b4, n4⟩
theorem partMM (hr : RecP ty n srec o) {p cs st f ff : Nat} {g : AHp} (x : RLx ty n p cs st o g) (htp : tp2 st g) (h30 : hI g 70 30 = 0) (hf : n - p + 1 < f) (hff : n - p < ff) : OutPt ty n p cs st o (PDq f ff g) g (paS ty n srec o p) ∧ ∀ y, paS ty n srec o p = .inr y → p < y.2.2 := by
  have hpn := x.2.2.1
  unfold paS
  have O := hr p g f ff cs st 0 o rfl x (fun i hi => by omega) htp.b h30 hf hff
  cases hrs : srec o p with
  | inl F => rw [hrs] at O; rw [vsb_l]; exact ⟨O, fun y h => by cases h⟩
  | inr y =>
    obtain ⟨B, m2, q⟩ := y
    rw [hrs] at O
    obtain ⟨hbB, lq, O⟩ := O
    simp only [] at hbB lq O
    rw [vsb_r]
    rcases O with ⟨h93, g3, e3, q3, c3⟩ | ⟨f', cs3, g3, e3, hf3, xq, r3, k3, b3⟩
    · rw [show (300 : Nat) = 299 + 1 from rfl, paL, if_neg (by rw [h93]; decide)]
      exact ⟨⟨hbB, by simp only []; omega, Or.inl ⟨h93, g3, e3, q3, c3⟩⟩, fun y h => by cases h; simp only []; omega⟩
    · 
      have t4 : JTm ty n q st o cs B g3 := Or.inl ⟨cs3, xq, r3⟩
      have hqn := xq.2.2.1
      have O2 := partLM hr 300 f' q st cs B m2 g3 t4 (k3.t2 htp (Nat.le_refl _)) hbB b3 (by omega) hf3
      cases hr2 : paL ty n srec o 300 B m2 q with
      | inl F =>
        rw [hr2] at O2
        obtain ⟨g4, e4, q4, c4⟩ := O2
        exact ⟨⟨g4, by rw [e3, e4], q4, k3.1.trans c4⟩, fun y h => by cases h⟩
      | inr z =>
        rw [hr2] at O2
        obtain ⟨hbz, lz, O2⟩ := O2
        refine ⟨⟨hbz, by omega, ?_⟩, fun y h => by cases h; omega⟩
        rcases O2 with ⟨h93, g4, e4, q4, c4⟩ | ⟨f4, g4, e4, hf4, t5, k4, b4, n4⟩
        · exact Or.inl ⟨h93, g4, by rw [e3, e4], q4, k3.1.trans c4⟩
        · exact Or.inr ⟨f4, g4, by rw [e3, e4], hf4, t5, k3.trans k4 (Nat.le_refl _) (Nat.le_refl _), b4, n4⟩
theorem condLM (hr : RecP ty n srec o) : ∀ (sf f p st a : Nat) (A : Dmn) (mA : Int32) (g : AHp), JSm ty n p st o a A g → tp1 st g → bD A → hI g 70 30 = 0 → ¬ sg ty n p = 38 → n - p < sf → n - p + 1 < f → OutCd ty n p a st o (GBm f g) g (cdL ty n srec o sf A mA p) := by
  intro sf
  induction sf with
  | zero => intro f p st a A mA g _ _ _ _ h38 h; omega
  | succ sf ih =>
    intro f p st a A mA g t htp hbA h30 h38 hsf hf
    rw [cdL]
    by_cases hc : sg ty n p = 124
    rotate_left
    · rw [if_neg hc]
      exact ⟨hbA, Nat.le_refl _, Or.inr ⟨f, g, rfl, hf, t, KpP.rf, h30, ⟨h38, hc⟩⟩⟩
    have hp : p < n := sg_lt (by rw [hc]; decide)
    rw [if_pos hc]
    obtain ⟨f, rfl⟩ : ∃ q, f = q + 1 := ⟨f - 1, by omega⟩
    obtain ⟨cs, g1, e1, x1, r1, k1⟩ := joins1M t htp.nb
    obtain ⟨g2, e2, x2, k2, h2, b2⟩ := gb_op (f := f) hp t rfl (Or.inr hc) (by rw [hc]; exact e1) x1 k1 h30
    rw [hc] at h2
    have hst := r1.1
    have hb := x2.2.2.1
    have k12 : Kk a st g g2 := (KpP.nk k1).trans (KpP.nk k2) (by omega) (Nat.le_refl _)
    have htp2 : tp2 (st + 1) g2 := ⟨by omega, by rw [show st + 1 - 1 = st by omega, h2]; exact Or.inr rfl⟩
    obtain ⟨O, hlt⟩ := partMM hr (f := f) (ff := FU) x2 htp2 b2 (by omega) (by unfold FU; omega)
    cases hrs : paS ty n srec o (p + 1) with
    | inl F =>
      rw [hrs] at O
      obtain ⟨g3, e3, q3, c3⟩ := O
      rw [vsb_l]
      exact ⟨g3, by rw [e2, e3], q3, k12.1.trans c3⟩
    | inr y =>
      have hpq := hlt y hrs
      obtain ⟨B, m2, q⟩ := y
      rw [hrs] at O
      obtain ⟨hbB, lq, O⟩ := O
      simp only [] at hbB lq O hpq
      rw [vsb_r]
      rcases O with ⟨h93, g3, e3, q3, c3⟩ | ⟨f', g3, e3, hf3, t3, k3, b3, n3⟩
      · -- a bracket that closes nothing: nothing more is read
        obtain ⟨sf, rfl⟩ : ∃ z, sf = z + 1 := ⟨sf - 1, by omega⟩
        rw [cdL, if_neg (by rw [h93]; decide)]
        exact ⟨jD_b hbA hbB, by simp only []; omega, Or.inl ⟨h93, g3, by rw [e2, e3], q3, k12.1.trans c3⟩⟩
      · have kall : Kk a st g g3 := k12.trans k3 (by omega) (by omega)
        have t4 : JSm ty n q st o a (jD 1 A B) g3 := Or.inr ⟨cs, A, B, by rw [k3.2.2 st (by omega)]; exact h2, (r1.kp k2 (Nat.le_refl _)).kp k3 (Nat.le_refl _), t3, hbA, rfl⟩
        obtain ⟨_, _, xq, -, -⟩ := t4.rl
        have hqn := xq.2.2.1
        have O2 := ih f' q st a (jD 1 A B) (mA ||| m2) g3 t4 (kall.t1 htp (Nat.le_refl _)) (jD_b hbA hbB) b3 n3 (by omega) hf3
        cases hr2 : cdL ty n srec o sf (jD 1 A B) (mA ||| m2) q with
        | inl F =>
          rw [hr2] at O2
          obtain ⟨g4, e4, q4, c4⟩ := O2
          exact ⟨g4, by rw [e2, e3, e4], q4, kall.1.trans c4⟩
        | inr z =>
          rw [hr2] at O2
          obtain ⟨hbz, lz, O2⟩ := O2
          refine ⟨hbz, by omega, ?_⟩
          rcases O2 with ⟨h93, g4, e4, q4, c4⟩ | ⟨f4, g4, e4, hf4, t5, k4, b4, n4⟩
          · exact Or.inl ⟨h93, g4, by rw [e2, e3, e4], q4, kall.1.trans c4⟩
          · exact Or.inr ⟨f4, g4, by rw [e2, e3, e4], hf4, t5, kall.trans k4 (Nat.le_refl _) (Nat.le_refl _), b4, n4⟩
theorem condMM (hr : RecP ty n srec o) {p cs st f ff : Nat} {g : AHp} (x : RLx ty n p cs st o g) (htp : tp1 st g) (h30 : hI g 70 30 = 0) (hf : n - p + 1 < f) (hff : n - p < ff) : OutCd ty n p cs st o (PDq f ff g) g (cdS ty n srec o p) ∧ ∀ y, cdS ty n srec o p = .inr y → p < y.2.2 := by
  have hpn := x.2.2.1
  unfold cdS
  obtain ⟨O, hlt⟩ := partMM hr (f := f) (ff := ff) x htp.b2 h30 hf hff
  cases hrs : paS ty n srec o p with
  | inl F => rw [hrs] at O; rw [vsb_l]; exact ⟨O, fun y h => by cases h⟩
  | inr y =>
    have hpq := hlt y hrs
    obtain ⟨B, m2, q⟩ := y
    rw [hrs] at O
    obtain ⟨hbB, lq, O⟩ := O
    simp only [] at hbB lq O hpq
    rw [vsb_r]
    rcases O with ⟨h93, g3, e3, q3, c3⟩ | ⟨f', g3, e3, hf3, t3, k3, b3, n3⟩
    · rw [show (300 : Nat) = 299 + 1 from rfl, cdL, if_neg (by rw [h93]; decide)]
      exact ⟨⟨hbB, by simp only []; omega, Or.inl ⟨h93, g3, e3, q3, c3⟩⟩, fun y h => by cases h; simp only []; omega⟩
    · 
      have t4 : JSm ty n q st o cs B g3 := Or.inl t3
      obtain ⟨_, _, xq, -, -⟩ := t4.rl
      have hqn := xq.2.2.1
      have O2 := condLM hr 300 f' q st cs B m2 g3 t4 (k3.t1 htp (Nat.le_refl _)) hbB b3 n3 (by omega) hf3
      cases hr2 : cdL ty n srec o 300 B m2 q with
      | inl F =>
        rw [hr2] at O2
        obtain ⟨g4, e4, q4, c4⟩ := O2
        exact ⟨⟨g4, by rw [e3, e4], q4, k3.1.trans c4⟩, fun y h => by cases h⟩
      | inr z =>
        rw [hr2] at O2
        obtain ⟨hbz, lz, O2⟩ := O2
        refine ⟨⟨hbz, by omega, ?_⟩, fun y h => by cases h; omega⟩
        rcases O2 with ⟨h93, g4, e4, q4, c4⟩ | ⟨f4, g4, e4, hf4, t5, k4, b4, n4⟩
        · exact Or.inl ⟨h93, g4, by rw [e3, e4], q4, k3.1.trans c4⟩
        · exact Or.inr ⟨f4, g4, by rw [e3, e4], hf4, t5, k3.trans k4 (Nat.le_refl _) (Nat.le_refl _), b4, n4⟩
theorem popL2 {p cs st op : Nat} {g : AHp} (x : RLx ty n p cs (st + 1) op g) {c : Int32} (hc : hI g 90 st = c) : ∃ g2 g1, m_X12_emit c 0 g = some ((), g2) ∧ sI g2 70 10 ((hI g2 70 10) - 1) = g1 ∧ RLx ty n p (cs + 1) st op g1 ∧ Kn cs (st + 1) g g1 ∧ hI g1 88 cs = c := by
  have hb := x.2.2.1
  obtain ⟨g1, e1, r1, k1, h1⟩ := popL x hc
  obtain ⟨g2, e2, -⟩ := emitL x (by omega) c 0
  rw [e2, bd_some] at e1
  have := congrArg (fun o => match o with | some y => y.2 | none => g) e1
  simp only [] at this
  exact ⟨g2, g1, e2, this, r1, k1, h1⟩
theorem isC_np {c : Int32} (h : isC c = true) : (isT c = false ∧ isP c = false) ∧ ¬ c = 91 := by
  unfold isC at h
  simp only [Bool.or_eq_true, decide_eq_true_iff] at h
  rcases h with (h | h) | h <;> rw [h] <;> decide
theorem pieceMM (ho : o ≤ 6) (hr : o < 6 → RecP ty n srec (o + 1)) : RecP ty n (pcS ty n srec) o := by
  intro p g f ff cs st k o0 hok x h33 htp h30 hf hff
  have hb := x.2.2.1
  have hst1 := htp.1
  obtain ⟨ff, rfl⟩ : ∃ q, ff = q + 1 := ⟨ff - 1, by omega⟩
  have z33 : sz ty n p = 33 ↔ sg ty n p = 33 := sz_sg (by decide) (by decide)
  have z40 : sz ty n p = 40 ↔ sg ty n p = 40 := sz_sg (by decide) (by decide)
  unfold pcS
  by_cases hbr : sg ty n p = 33 ∨ sg ty n p = 40
  · have hp : p < n := sg_lt (fun h => by rw [h] at hbr; revert hbr; decide)
    have hgo : m_X12_pieceOfC_0 (ff + 1) g = bd (m_X12_opens g) fun _ h31 => m_X12_pieceOfC_0 ff h31 := by
      rw [m_X12_pieceOfC_0, goodM x.1.2.2, bd_some, if_neg one_ne, hereL x, bd_some]
      by_cases h : sg ty n p = 33
      · rw [if_pos (z33.mpr h)]
      · rw [if_neg (fun z => h (z33.mp z)), hereL x, bd_some, if_pos (z40.mpr (hbr.resolve_left h))]
    rw [if_pos hbr]
    by_cases ho6 : o < 6
    rotate_left
    · rw [if_neg ho6]
      have ho' : o = 6 := by omega
      rw [ho'] at x
      obtain ⟨g1, e1, h1, c1⟩ := opensF x hp
      have hng : (flt 5 p).toInt < 0 := flt_neg (k := 5) (by omega) (by omega) (by omega)
      obtain ⟨ff, rfl⟩ : ∃ q, ff = q + 1 := ⟨ff - 1, by omega⟩
      refine ⟨g1, pd_bad ?_ h1 hng (by omega), ⟨h1, hng⟩, plm_k c1⟩
      rw [hgo, e1, bd_some, m_X12_pieceOfC_0, badM h1 (neg_ne hng), bd_some, if_pos rfl, badM h1 (neg_ne hng), bd_some, if_pos rfl]
      unfold m_X12_pieceOfC_43
      rw [badM h1 (neg_ne hng), bd_some, if_pos rfl]
    rw [if_pos ho6]
    obtain ⟨g1, e1, x1, k1, s1⟩ := opensL x hp ho6
    have hPD : PDq f (ff + 1) g = PDq f ff g1 := by
      unfold PDq
      rw [hgo, e1, bd_some]
    have b1 : hI g1 70 30 = 0 := by rw [k1.1.i (by simp)]; exact h30
    by_cases hn : sg ty n p = 33
    · rw [if_pos hn]
      have O := hr ho6 (p + 1) g1 f ff cs st (k + 1) o0 (by omega) x1 (fun i hi => by
        by_cases e : i = k
        · rw [e, s1, hn]
        · rw [k1.2.2 (st + i) (by omega)]; exact h33 i (by omega)) (k1.tb htp (by omega)) b1 (by omega) (by omega)
      cases hrs : srec (o + 1) (p + 1) with
      | inl F =>
        rw [hrs] at O
        obtain ⟨g3, e3, q3, c3⟩ := O
        rw [vsb_l]
        exact ⟨g3, by rw [hPD, e3], q3, (KpP.nk k1).1.trans c3⟩
      | inr y =>
        obtain ⟨A, mA, q⟩ := y
        rw [hrs] at O
        obtain ⟨hbA, lq, O⟩ := O
        simp only [] at hbA lq O
        rw [vsb_r]
        refine ⟨ntD_b hbA, by simp only []; omega, ?_⟩
        rcases O with ⟨h93, g3, e3, q3, c3⟩ | ⟨f', cs3, g3, e3, hf3, x3, r3, k3, b3⟩
        · exact Or.inl ⟨h93, g3, by rw [hPD, e3], q3, (KpP.nk k1).1.trans c3⟩
        · exact Or.inr ⟨f', cs3, g3, by rw [hPD, e3], hf3, x3, r3, ((KpP.nk k1).low (Nat.le_refl _) (by omega)).trans k3 (Nat.le_refl _) (Nat.le_refl _), b3⟩
    · rw [if_neg hn]
      have h40 := hbr.resolve_left hn
      rw [h40] at s1
      have htp1 : tp1 (st + k + 1) g1 := ⟨by omega, by rw [show st + k + 1 - 1 = st + k by omega, s1]⟩
      obtain ⟨O, hlt⟩ := condMM (hr ho6) (f := f) (ff := ff) x1 htp1 b1 (by omega) (by omega)
      cases hrs : cdS ty n srec (o + 1) (p + 1) with
      | inl F =>
        rw [hrs] at O
        obtain ⟨g3, e3, q3, c3⟩ := O
        rw [vsb_l]
        exact ⟨g3, by rw [hPD, e3], q3, (KpP.nk k1).1.trans c3⟩
      | inr y =>
        have hpq := hlt y hrs
        obtain ⟨A, mA, q⟩ := y
        rw [hrs] at O
        obtain ⟨hbA, lq, O⟩ := O
        simp only [] at hbA lq O hpq
        rw [vsb_r]
        rcases O with ⟨h93, g3, e3, q3, c3⟩ | ⟨f', g3, e3, hf3, t3, k3, b3, n38, n124⟩
        · rw [if_neg (by rw [h93]; decide)]
          exact ⟨g3, by rw [hPD, e3], q3, (KpP.nk k1).1.trans c3⟩
        obtain ⟨cs0, st0, x0, hst0, hcs0⟩ := t3.rl
        have hqn := x0.2.2.1
        obtain ⟨f', rfl⟩ : ∃ z, f' = z + 1 := ⟨f' - 1, by omega⟩
        have kall := ((KpP.nk k1).trans (k3.low (Nat.le_refl _) (by omega)) (Nat.le_refl _) (Nat.le_refl _) : Kk cs (st + k) g g3)
        by_cases h41 : sg ty n q = 41
        · have hq : q < n := sg_lt (by rw [h41]; decide)
          have hsz : sz ty n q = 41 := by rw [sg_sz hq, h41]
          obtain ⟨cs4, g4, e4, x4, r4, k4⟩ := joins1M t3 (fun h0 => by
            have h := (k3.t1 htp1 (Nat.le_refl _)).2
            rw [h]; decide)
          have hst4 := r4.1
          have hb4 := x4.2.2.1
          have x5 : RLx ty n (q + 1) cs4 (st + k) (o0 + k) (sI (sI (sI (sI g4 70 10 (nI (st + k))) 70 9 (nI (o0 + k))) 70 4 (nI (q + 1))) 70 30 0) := by
            obtain ⟨⟨y1, y2, y3⟩, ⟨y4, y5, y6⟩, y7, y8⟩ := x4
            exact ⟨⟨rfl, y2, y3⟩, ⟨y4, rfl, rfl⟩, ⟨by omega, by omega, by omega, by omega⟩, y8⟩
          have k5 : Kk cs4 (st + k + 1) g4 (sI (sI (sI (sI g4 70 10 (nI (st + k))) 70 9 (nI (o0 + k))) 70 4 (nI (q + 1))) 70 30 0) := ⟨(((Ch.rf.sI (by simp)).sI (by simp)).sI (by simp)).sI (by simp), fun u _ => ⟨rfl, rfl⟩, fun u _ => rfl⟩
          have k45 : Kk cs (st + k) g (sI (sI (sI (sI g4 70 10 (nI (st + k))) 70 9 (nI (o0 + k))) 70 4 (nI (q + 1))) 70 30 0) := (kall.trans ((KpP.nk k4).low (Nat.le_refl _) (by omega)) (Nat.le_refl _) (Nat.le_refl _)).trans (k5.low (Nat.le_refl _) (by omega)) (by omega) (Nat.le_refl _)
          have b5 : hI (sI (sI (sI (sI g4 70 10 (nI (st + k))) 70 9 (nI (o0 + k))) 70 4 (nI (q + 1))) 70 30 0) 70 30 = 0 := rfl
          have r5 : RnM (sI (sI (sI (sI g4 70 10 (nI (st + k))) 70 9 (nI (o0 + k))) 70 4 (nI (q + 1))) 70 30 0) cs cs4 A := r4
          have hgb : m_X12_goesBehind g3 = bd (m_X12_ends (sI (sI (sI (sI g4 70 10 (nI (st + k))) 70 9 (nI (o0 + k))) 70 4 (nI (q + 1))) 70 30 0)) fun _ h18 => some (0, h18) := by
            have a10 : hI g4 70 10 = nI (st + k + 1) := x4.2.1.2.1
            have a9 : hI (sI g4 70 10 (nI (st + k))) 70 9 = nI (o0 + k + 1) := by
              rw [hI_sI, if_neg (by omega), x4.2.1.2.2, hok]
            have a4 : hI (sI (sI g4 70 10 (nI (st + k))) 70 9 (nI (o0 + k))) 70 4 = nI q := x4.1.1
            have a10' : hI (sI (sI (sI g4 70 10 (nI (st + k))) 70 9 (nI (o0 + k))) 70 4 (nI (q + 1))) 70 10 = nI (st + k) := rfl
            unfold m_X12_goesBehind
            rw [hereL x0, bd_some, hsz, if_neg (by decide), if_neg (by decide), if_pos rfl, e4, bd_some, a10, nI_pred, lt_eq, a9, nI_pred, lt_eq, a4, nI_1, lt_eq, a10', if_neg (nI_ne0 (by omega) (by omega)), lt_eq, if_pos b5]
          generalize sI (sI (sI (sI g4 70 10 (nI (st + k))) 70 9 (nI (o0 + k))) 70 4 (nI (q + 1))) 70 30 0 = g5 at x5 k45 b5 r5 hgb
          obtain ⟨cs6, g6, e6, x6, r6, k6⟩ := endsM2 (k := k) (st := st) (op := o0) x5 (fun i hi => by rw [k45.2.2 (st + i) (by omega)]; exact h33 i hi) (fun h0 => by
            have h := (k45.tb htp (by omega)).2
            rcases h with h | h | h <;> rw [h] <;> decide) r5
          have hst6 := r6.1
          have b6 : hI g6 70 30 = 0 := by rw [k6.1.i (by simp)]; exact b5
          rw [if_pos h41]
          refine ⟨hbA, by simp only []; omega, Or.inr ⟨f', cs6, g6, ?_, by simp only []; omega, x6, r6, (k45.low (Nat.le_refl _) (by omega)).trans (KpP.nk k6) (by omega) (Nat.le_refl _), b6⟩⟩
          rw [hPD, e3]
          unfold GBm
          rw [hgb, e6, bd_some, bd_some, c37_zero x6 b6]
        · rw [if_neg h41]
          have hng : (flt 1 q).toInt < 0 := flt_neg (k := 1) (by omega) (by omega) (by omega)
          refine ⟨sI g3 70 6 (flt 1 q), ?_, ⟨rfl, hng⟩, kall.1.sI (by simp)⟩
          rw [hPD, e3]
          unfold GBm m_X12_goesBehind
          rw [hereL x0, bd_some, if_neg (fun z => n38 ((sz_sg (by decide) (by decide)).mp z)), if_neg (fun z => n124 ((sz_sg (by decide) (by decide)).mp z)), if_neg (fun z => h41 ((sz_sg (by decide) (by decide)).mp z)), x0.1.1, wrongsM x0.1.2.2, bd_some, bd_some, c37_bad (F := flt 1 q) (by rw [hI_sI, if_pos ⟨rfl, rfl⟩]) (neg_ne hng)]
  · rw [if_neg hbr]
    have hbr2 := not_or.mp hbr
    have hgo : m_X12_pieceOfC_0 (ff + 1) g = bd (m_X12_value g) fun _ h37 => m_X12_pieceOfC_43 h37 := by
      rw [m_X12_pieceOfC_0, goodM x.1.2.2, bd_some, if_neg one_ne, hereL x, bd_some, if_neg (fun z => hbr2.1 (z33.mp z)), hereL x, bd_some, if_neg (fun z => hbr2.2 (z40.mp z)), goodM x.1.2.2, bd_some, if_neg one_ne]
    have htop : hI g 90 (st + k - 1) = 33 ∨ hI g 90 (st + k - 1) = 40 ∨ hI g 90 (st + k - 1) = 38 ∨ hI g 90 (st + k - 1) = 124 := by
      by_cases hk : k = 0
      · rw [hk]; exact Or.inr htp.2
      · left
        have := h33 (k - 1) (by omega)
        rw [show st + (k - 1) = st + k - 1 by omega] at this; exact this
    have hnb : NbP (st + k) g := fun _ => by
      rcases htop with h | h | h | h <;> rw [h] <;> decide
    have hnb2 : 0 < st + k → ¬ hI g 90 (st + k - 1) = 91 := fun _ => by
      rcases htop with h | h | h | h <;> rw [h] <;> decide
    have V1 := valueMM ho x hnb hnb2
    -- a fault ahead of the sign
    have bad43 : ∀ (F : Int32) (g1 : AHp), m_X12_value g = some ((), g1) → hI g1 70 6 = F → F.toInt < 0 → Ch PLm g g1 → ∃ g2, PDq f (ff + 1) g = some ((), g2) ∧ (hI g2 70 6 = F ∧ F.toInt < 0) ∧ Ch PLk g g2 := fun F g1 e1 q1 q2 c1 => by
      refine ⟨g1, pd_bad ?_ q1 q2 (by omega), ⟨q1, q2⟩, plm_k c1⟩
      rw [hgo, e1, bd_some]
      unfold m_X12_pieceOfC_43
      rw [badM q1 (neg_ne q2), bd_some, if_pos rfl]
    cases hrs : SMs ty n 10 o p with
    | inl F =>
      rw [hrs] at V1
      obtain ⟨g1, e1, q1, c1⟩ := V1
      rw [vsb_l]
      exact bad43 F g1 e1 q1.1 q1.2 c1
    | inr y =>
      obtain ⟨A, mA, q⟩ := y
      rw [hrs] at V1
      obtain ⟨g1, e1, c1, V1⟩ := V1
      simp only [] at V1
      rw [vsb_r]
      rcases V1 with ⟨h93, q1, q2⟩ | ⟨h93, cs1, x1, r1, k1⟩
      · rw [if_neg (by rw [h93]; decide)]
        exact bad43 _ g1 e1 q1 q2 c1
      have hqn := x1.2.2.1
      have hst1' := r1.1
      cases hC : isC (sg ty n q) with
      | false =>
        rw [if_neg (show ¬ (false = true) by decide)]
        have hng : (flt 1 q).toInt < 0 := flt_neg (k := 1) (by omega) (by omega) (by omega)
        refine ⟨sI g1 70 6 (flt 1 q), pd_bad ?_ rfl hng (by omega), ⟨rfl, hng⟩, (plm_k c1).sI (by simp)⟩
        rw [hgo, e1, bd_some]
        unfold m_X12_pieceOfC_43
        rw [goodM x1.1.2.2, bd_some, if_neg one_ne, hereL x1, bd_some, isSignM, bd_some, sz_C, hC, i01_f, if_pos rfl, x1.1.1, wrongsM x1.1.2.2, bd_some]
      | true =>
        have hq : q < n := sg_lt (fun h => by rw [h] at hC; revert hC; decide)
        rw [if_pos rfl]
        obtain ⟨g2, e2, x2, k2, s2⟩ := putsL x1 hq (sg ty n q)
        have hnc := isC_np hC
        have V2 := valueMM ho x2 (fun _ => by rw [show st + k + 1 - 1 = st + k by omega, s2]; exact hnc.1) (fun _ => by rw [show st + k + 1 - 1 = st + k by omega, s2]; exact hnc.2)
        have h43 : m_X12_pieceOfC_0 (ff + 1) g = bd (m_X12_value g2) fun _ h10 => bd (m_X12_isGood h10) fun r11 h12 => (if r11 = 0 then (some ((), h12)) else (bd (m_X12_top h12) fun r13 h14 => (bd (m_X12_emit r13 0 h14) fun r15 h16 => (lt (sI h16 70 10 ((hI h16 70 10) - 1)) fun h17 => (bd (m_X12_ends h17) fun r18 h19 => (some ((), h19))))))) := by
          rw [hgo, e1, bd_some]
          unfold m_X12_pieceOfC_43
          rw [goodM x1.1.2.2, bd_some, if_neg one_ne, hereL x1, bd_some, isSignM, bd_some, sz_C, hC, i01_t, if_neg one_ne, sg_sz hq, e2, bd_some]
        have bad2 : ∀ (F : Int32) (g3 : AHp), m_X12_value g2 = some ((), g3) → hI g3 70 6 = F → F.toInt < 0 → Ch PLm g2 g3 → ∃ g4, PDq f (ff + 1) g = some ((), g4) ∧ (hI g4 70 6 = F ∧ F.toInt < 0) ∧ Ch PLk g g4 := fun F g3 e3 q1 q2 c3 => by
          refine ⟨g3, pd_bad ?_ q1 q2 (by omega), ⟨q1, q2⟩, plm_k ((c1.trans (pln_m k2.1)).trans c3)⟩
          rw [h43, e3, bd_some, badM q1 (neg_ne q2), bd_some, if_pos rfl]
        cases hrs2 : SMs ty n 10 o (q + 1) with
        | inl F =>
          rw [hrs2] at V2
          obtain ⟨g3, e3, q3, c3⟩ := V2
          rw [vsb_l]
          exact bad2 F g3 e3 q3.1 q3.2 c3
        | inr y =>
          obtain ⟨B, m2, q2⟩ := y
          rw [hrs2] at V2
          obtain ⟨g3, e3, c3, V2⟩ := V2
          simp only [] at V2
          rw [vsb_r]
          have hlt2 : p < q2 := by
            rcases V2 with ⟨h93', _, _⟩ | ⟨_, cs3, x3, _⟩
            · exact SMs_lt hrs hrs2
            · exact SMs_lt hrs hrs2
          refine ⟨cmD_b _ _ _, hlt2, ?_⟩
          rcases V2 with ⟨h93', u1, u2⟩ | ⟨h93', cs3, x3, r3, k3⟩
          · obtain ⟨g4, e4, q4, c4⟩ := bad2 _ g3 e3 u1 u2 c3
            exact Or.inl ⟨h93', g4, e4, q4, c4⟩
          have hq2n := x3.2.2.1
          have hst3 := r3.1
          have s3 : hI g3 90 (st + k) = sg ty n q := by rw [k3.2.2 (st + k) (by omega)]; exact s2
          obtain ⟨g4, g5, e4, e5, x5, k5, h5⟩ := popL2 x3 s3
          have hop : isOp (sg ty n q) := Or.inr (Or.inr hC)
          have r5 : RnM g5 cs (cs3 + 1) (cmD (sg ty n q) A B) := by
            have := RunM.op (cd := hI g5 88) (ar := hI g5 89) hop (((r1.kp k2 (Nat.le_refl _)).kp k3 (Nat.le_refl _)).kp k5 (by omega)) (r3.kp k5 (Nat.le_refl _)) (by omega) h5
            unfold opD at this
            rw [if_pos hC] at this
            exact this
          have k05 : Kk cs (st + k) g g5 := ((KpP.k k1).trans (KpP.nk k2) (by omega) (Nat.le_refl _)).trans ((KpP.k (k3.low (Nat.le_refl _) (by omega))).trans ((KpP.nk k5).low (Nat.le_refl _) (by omega)) (by omega) (Nat.le_refl _)) (by omega) (Nat.le_refl _)
          have b5 : hI g5 70 30 = 0 := by
            rw [k5.1.i (by simp), c3.i (by simp), k2.1.i (by simp), c1.i (by simp)]; exact h30
          rw [hok] at x5
          obtain ⟨cs6, g6, e6, x6, r6, k6⟩ := endsM2 (k := k) (st := st) (op := o0) x5 (fun i hi => by rw [k05.2.2 (st + i) (by omega)]; exact h33 i hi) (fun h0 => by
            have h := (k05.tb htp (by omega)).2
            rcases h with h | h | h <;> rw [h] <;> decide) r5
          have b6 : hI g6 70 30 = 0 := by rw [k6.1.i (by simp)]; exact b5
          have et : m_X12_top g3 = some (sg ty n q, g3) := by rw [topM x3, if_pos (by omega), show st + k + 1 - 1 = st + k by omega, s3]
          refine Or.inr ⟨f, cs6, g6, ?_, by simp only []; omega, x6, r6, (k05.low (Nat.le_refl _) (by omega)).trans (KpP.nk k6) (by omega) (Nat.le_refl _), b6⟩
          unfold PDq
          rw [h43, e3, bd_some, goodM x3.1.2.2, bd_some, if_neg one_ne, et, bd_some, e4, bd_some, lt_eq, e5, e6, bd_some, bd_some, goodM x6.1.2.2, bd_some, if_neg one_ne]
end PM
theorem PCs_M {ty : Nat → Int32} {n : Nat} : ∀ (k o : Nat), o ≤ 6 → 7 ≤ k + o → RecP ty n (PCs ty n k) o := by
  intro k
  induction k with
  | zero => intro o h1 h2; omega
  | succ k ih =>
    intro o h1 h2
    have : PCs ty n (k + 1) = pcS ty n (PCs ty n k) := by
      funext a b; rw [PCs]
    rw [this]
    exact pieceMM h1 (fun h => ih (o + 1) (by omega) (by omega))
