/-! sums: the reference -/
/-- a factor is read; what follows it is looked at -/
abbrev AFm (f : Nat) (h : AHp) : Option (Unit × AHp) := m_X12_value_29 (m_X12_value_7 f) h
/-- a factor is due -/
abbrev FAm (f ff : Nat) (h : AHp) : Option (Unit × AHp) := bd (m_X12_factor_0 ff h) fun _ h15 => AFm f h15
/-- the operations are done; the sign that stands there is none of them -/
def stE (c : Int32) (h14 : AHp) : Option (Int32 × AHp) := (if c = 93 then (bd (m_X12_top h14) fun r15 h16 => (if r15 = 91 then (lt (sI h16 70 10 ((hI h16 70 10) - 1)) fun h17 => (lt (sI h17 70 9 ((hI h17 70 9) - 1)) fun h18 => (lt (sI h18 70 4 ((hI h18 70 4) + 1)) fun h19 => (lt (sI h19 70 31 1) fun h20 => (some (1, h20)))))) else (bd (m_X12_wrongs 1 (hI h16 70 4) h16) fun r21 h22 => (some (0, h22))))) else (some (0, h14)))
abbrev SEm (f : Nat) (c : Int32) (h : AHp) : Option (Unit × AHp) := bd (stE c h) fun r4 h5 => (if r4 = 0 then (m_X12_value_7 f 0 h5) else (m_X12_value_7 f 1 h5))
section VM
variable {ty : Nat → Int32} {n : Nat}
/-- a fault ends the value -/
theorem af_bad {F : Int32} {g : AHp} (h : hI g 70 6 = F) (hF : ¬ F = 0) (f : Nat) : ∃ g1, AFm (f + 1) g = some ((), g1) ∧ hI g1 70 6 = F ∧ Ch PLm g g1 := by
  have h2 : hI (sI g 70 31 0) 70 6 = F := h
  refine ⟨sI g 70 31 0, ?_, h2, Ch.rf.sI (by simp)⟩
  unfold AFm m_X12_value_29
  rw [lt_eq, badM h2 hF, bd_some, if_pos rfl, m_X12_value_7, if_pos rfl]
  unfold m_X12_value_57
  rw [badM h2 hF, bd_some, if_pos rfl]
theorem pop_sums {p cs st op f : Nat} {g : AHp} {c x1 : Int32} (x : RLx ty n p cs (st + 1) op g) (hc : hI g 90 st = c) (hT : isT c = true ∨ (isT c = false ∧ isP c = true ∧ ¬ x1 = 0)) : ∃ g1, m_X12_sums_0 (f + 1) x1 g = m_X12_sums_0 f x1 g1 ∧ RLx ty n p (cs + 1) st op g1 ∧ Kn cs (st + 1) g g1 ∧ hI g1 88 cs = c := by
  have et : m_X12_top g = some (c, g) := by
    rw [topM x, if_pos (by omega), show st + 1 - 1 = st by omega, hc]
  obtain ⟨g1, e1, r1, k1, h1⟩ := popL x hc
  have e24 : m_X12_sums_24 (m_X12_sums_0 f) x1 g = m_X12_sums_0 f x1 g1 := by
    unfold m_X12_sums_24
    rw [et, bd_some]
    have hb := x.2.2.1
    obtain ⟨g2, e2, -⟩ := emitL x (by omega) c 0
    rw [e2, bd_some, lt_eq]
    rw [e2, bd_some] at e1
    have := congrArg (fun o => match o with | some y => y.2 | none => g) e1
    simp only [] at this
    rw [this]
  refine ⟨g1, ?_, r1, k1, h1⟩
  rw [m_X12_sums_0, et, bd_some, isTimesM, bd_some]
  rcases hT with hT | ⟨hT, hP, hx⟩
  · rw [hT, i01_t, if_neg one_ne, e24]
  · rw [hT, i01_f, if_pos rfl, if_neg hx, et, bd_some, isPlusM, bd_some, hP, i01_t, if_neg one_ne, e24]
/-- the top is no operation of a term (of a sum) -/
def NbT (st : Nat) (g : AHp) : Prop := 0 < st → isT (hI g 90 (st - 1)) = false
def NbP (st : Nat) (g : AHp) : Prop := 0 < st → isT (hI g 90 (st - 1)) = false ∧ isP (hI g 90 (st - 1)) = false
theorem stop_sums {p cs st op f : Nat} {g : AHp} {x1 : Int32} (x : RLx ty n p cs st op g) (h1 : NbT st g) (h2 : ¬ x1 = 0 → NbP st g) : m_X12_sums_0 (f + 1) x1 g = some ((), g) := by
  have hz : isT 0 = false ∧ isP 0 = false := by decide
  rw [m_X12_sums_0, topM x, bd_some, isTimesM, bd_some]
  by_cases h0 : 0 < st
  · rw [if_pos h0, h1 h0, i01_f, if_pos rfl]
    by_cases hx : x1 = 0
    · rw [if_pos hx]
    · rw [if_neg hx, topM x, bd_some, if_pos h0, isPlusM, bd_some, (h2 hx h0).2, i01_f, if_pos rfl]
  · rw [if_neg h0, hz.1, i01_f, if_pos rfl]
    by_cases hx : x1 = 0
    · rw [if_pos hx]
    · rw [if_neg hx, topM x, bd_some, if_neg h0, isPlusM, bd_some, hz.2, i01_f, if_pos rfl]
theorem KpP.nbT {Q : Nat → Nat → Bool} {st cs2 st2 : Nat} {g g1 : AHp} (k : KpP Q cs2 st2 g g1) (h : NbT st g) (hs : st ≤ st2) : NbT st g1 := fun h0 => by rw [k.2.2 (st - 1) (by omega)]; exact h h0
theorem KpP.nbP {Q : Nat → Nat → Bool} {st cs2 st2 : Nat} {g g1 : AHp} (k : KpP Q cs2 st2 g g1) (h : NbP st g) (hs : st ≤ st2) : NbP st g1 := fun h0 => by rw [k.2.2 (st - 1) (by omega)]; exact h h0
/-- a term as it stands: done, or with one operation to come -/
def TRm (ty : Nat → Int32) (n p st op a : Nat) (A : Dmn) (g : AHp) : Prop := (∃ cs, RLx ty n p cs st op g ∧ RnM g a cs A) ∨ ∃ cs b c A' B', isT c = true ∧ RLx ty n p cs (st + 1) op g ∧ hI g 90 st = c ∧ RnM g a b A' ∧ RnM g b cs B' ∧ A = arD c A' B'
def SRm (ty : Nat → Int32) (n p st op a : Nat) (A : Dmn) (g : AHp) : Prop := TRm ty n p st op a A g ∨ ∃ b c A' B', isP c = true ∧ hI g 90 st = c ∧ RnM g a b A' ∧ TRm ty n p (st + 1) op b B' g ∧ A = arD c A' B'
theorem arD_op {c : Int32} (h : isT c = true ∨ isP c = true) (A B : Dmn) : opD c A B = arD c A B := by
  unfold opD
  rw [if_neg]
  intro hc
  unfold isT isP at h
  unfold isC at hc
  simp only [Bool.or_eq_true, decide_eq_true_iff] at h hc
  rcases h with ((h | h) | h) | (h | h) <;> rw [h] at hc <;> revert hc <;> decide
theorem RnM.ar {g g1 : AHp} {a b cs st : Nat} {A B : Dmn} {c : Int32} (hc : isT c = true ∨ isP c = true) (x : RnM g a b A) (y : RnM g b cs B) (hcs : cs < 200) (k : Kn cs st g g1) (h : hI g1 88 cs = c) : RnM g1 a (cs + 1) (arD c A B) := by
  rw [← arD_op hc]
  have hy := y.1
  exact RunM.op (hc.elim Or.inl (fun h => Or.inr (Or.inl h))) (x.kp k (by omega)) (y.kp k (Nat.le_refl _)) hcs h
/-- the term's last operation is done -/
theorem flushT {p st op a f : Nat} {A : Dmn} {g : AHp} {x1 : Int32} (t : TRm ty n p st op a A g) : ∃ cs f' g1, f ≤ f' + 1 ∧ m_X12_sums_0 f x1 g = m_X12_sums_0 f' x1 g1 ∧ RLx ty n p cs st op g1 ∧ RnM g1 a cs A ∧ Kn a st g g1 ∨ f = 0 := by
  rcases t with ⟨cs, x, r⟩ | ⟨cs, b, c, A', B', hc, x, hcc, rA, rB, rfl⟩
  · exact ⟨cs, f, g, Or.inl ⟨by omega, rfl, x, r, KpP.rf⟩⟩
  · cases f with
    | zero => exact ⟨0, 0, g, Or.inr rfl⟩
    | succ f =>
      obtain ⟨g1, e1, r1, k1, h1⟩ := pop_sums (f := f) (x1 := x1) x hcc (Or.inl hc)
      have hb := x.2.2.1
      have hA := rA.1
      have hB := rB.1
      exact ⟨cs + 1, f, g1, Or.inl ⟨by omega, e1, r1, RnM.ar (Or.inl hc) rA rB (by omega) k1 h1, ⟨k1.1, fun k hk => k1.2.1 k (by omega), fun k hk => k1.2.2 k (by omega)⟩⟩⟩
theorem sums0M {p st op a : Nat} {A : Dmn} {g : AHp} (t : TRm ty n p st op a A g) (hn : NbT st g) : ∃ cs g1, m_X12_sums 0 g = some ((), g1) ∧ RLx ty n p cs st op g1 ∧ RnM g1 a cs A ∧ Kn a st g g1 := by
  obtain ⟨cs, f', g1, h⟩ := flushT (f := FU) (x1 := 0) t
  rcases h with ⟨h1, h2, h3, h4, h5⟩ | h
  · obtain ⟨f2, rfl⟩ : ∃ q, f' = q + 1 := ⟨f' - 1, by unfold FU at h1; omega⟩
    refine ⟨cs, g1, ?_, h3, h4, h5⟩
    unfold m_X12_sums
    rw [h2, stop_sums h3 (h5.nbT hn (Nat.le_refl _)) (fun h => absurd rfl h)]
  · unfold FU at h; omega
theorem sums1M {p st op a : Nat} {A : Dmn} {g : AHp} (t : SRm ty n p st op a A g) (hn : NbP st g) : ∃ cs g1, m_X12_sums 1 g = some ((), g1) ∧ RLx ty n p cs st op g1 ∧ RnM g1 a cs A ∧ Kn a st g g1 := by
  have hnT : NbT st g := fun h => (hn h).1
  rcases t with t | ⟨b, c, A', B', hP, hcc, rA, t, rfl⟩
  · obtain ⟨cs, f', g1, h⟩ := flushT (f := FU) (x1 := 1) t
    rcases h with ⟨h1, h2, h3, h4, h5⟩ | h
    · obtain ⟨f2, rfl⟩ : ∃ q, f' = q + 1 := ⟨f' - 1, by unfold FU at h1; omega⟩
      refine ⟨cs, g1, ?_, h3, h4, h5⟩
      unfold m_X12_sums
      rw [h2, stop_sums h3 (h5.nbT hnT (Nat.le_refl _)) (fun _ => h5.nbP hn (Nat.le_refl _))]
    · unfold FU at h; omega
  · obtain ⟨cs, f', g1, h⟩ := flushT (f := FU) (x1 := 1) t
    rcases h with ⟨h1, h2, h3, h4, h5⟩ | h
    · obtain ⟨f2, rfl⟩ : ∃ q, f' = q + 2 := ⟨f' - 2, by unfold FU at h1; omega⟩
      have hA := rA.1
      have hB := h4.1
      have hb := h3.2.2.1
      have hcT : isT c = false := by
        unfold isP at hP
        unfold isT
        simp only [Bool.or_eq_true, decide_eq_true_iff] at hP
        rcases hP with h | h <;> rw [h] <;> decide
      obtain ⟨g2, e2, r2, k2, hh2⟩ := pop_sums (f := f2 + 1) (x1 := 1) h3 (c := c) (by rw [h5.2.2 st (by omega)]; exact hcc) (Or.inr ⟨hcT, hP, one_ne⟩)
      have k5 : Kn a st g g1 := ⟨h5.1, fun k hk => h5.2.1 k (by omega), fun k hk => h5.2.2 k (by omega)⟩
      have kk : Kn a st g g2 := ⟨h5.1.trans k2.1, fun k hk => ⟨((k2.2.1 k (by omega)).1).trans (h5.2.1 k (by omega)).1, ((k2.2.1 k (by omega)).2).trans (h5.2.1 k (by omega)).2⟩, fun k hk => (k2.2.2 k (by omega)).trans (h5.2.2 k (by omega))⟩
      refine ⟨cs + 1, g2, ?_, r2, RnM.ar (Or.inr hP) (rA.kp h5 (Nat.le_refl _)) h4 (by omega) k2 hh2, kk⟩
      unfold m_X12_sums
      rw [h2, show f2 + 2 = (f2 + 1) + 1 from rfl, e2, stop_sums r2 (kk.nbT hnT (Nat.le_refl _)) (fun _ => kk.nbP hn (Nat.le_refl _))]
    · unfold FU at h; omega
end VM
