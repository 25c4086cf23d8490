section VM3
variable {ty : Nat → Int32} {n : Nat} {srec : Nat → Nat → VSp} {o : Nat}
theorem TRm.b31 {p st op a : Nat} {A : Dmn} {g : AHp} (t : TRm ty n p st op a A g) (v : Int32) : TRm ty n p st op a A (sI g 70 31 v) := t
theorem SRm.b31 {p st op a : Nat} {A : Dmn} {g : AHp} (t : SRm ty n p st op a A g) (v : Int32) : SRm ty n p st op a A (sI g 70 31 v) := t
theorem SRm.rl {p st op a : Nat} {A : Dmn} {g : AHp} (t : SRm ty n p st op a A g) : ∃ cs st2, RLx ty n p cs st2 op g ∧ st ≤ st2 ∧ a < cs := by
  rcases t with (⟨cs, x, r⟩ | ⟨cs, b, c, A', B', hc, x, hcc, rA, rB, _⟩) | ⟨b, c, A', B', hP, hcc, rA, (⟨cs, x, r⟩ | ⟨cs, b2, c2, A2, B2, hc, x, hcc2, rA2, rB2, _⟩), _⟩
  · exact ⟨cs, st, x, Nat.le_refl _, r.1.1⟩
  · exact ⟨cs, st + 1, x, by omega, by have := rA.1; have := rB.1; omega⟩
  · exact ⟨cs, st + 1, x, by omega, by have := rA.1; have := r.1; omega⟩
  · exact ⟨cs, st + 2, x, by omega, by have := rA.1; have := rA2.1; have := rB2.1; omega⟩
/-- behind a factor stands an operation: a factor is due -/
theorem af_op {p cs st op f a : Nat} {A : Dmn} {g g1 : AHp} {c : Int32} (hp : p < n) (t : SRm ty n p st op a A g) (hc : sg ty n p = c) (hT : isT c = true ∨ isP c = true)
    (es : m_X12_sums (if isP c = true then 1 else 0) (sI g 70 31 0) = some ((), g1)) (x1 : RLx ty n p cs st op g1) (k1 : Kn a st (sI g 70 31 0) g1) :
    ∃ g2, AFm (f + 1) g = FAm f FU g2 ∧ RLx ty n (p + 1) cs (st + 1) op g2 ∧ Kp cs st g1 g2 ∧ hI g2 90 st = c := by
  obtain ⟨cs0, st0, x0, -, -⟩ := t.rl
  have x0' : RLx ty n p cs0 st0 op (sI g 70 31 0) := x0.b31 0
  have hsz : sz ty n p = c := by rw [sg_sz hp, hc]
  obtain ⟨g2, e2, x2, k2, h2⟩ := putsL x1 hp c
  have b2 : hI g2 70 31 = 0 := by
    rw [k2.1.i (by simp), k1.1.i (by simp)]; rfl
  refine ⟨g2, ?_, x2, k2.m, h2⟩
  have est : m_X12_stays (sI g 70 31 0) = some (1, g2) := by
    have e19 : m_X12_stays_19 c (sI g 70 31 0) = some (1, g2) := by
      unfold m_X12_stays_19
      rw [isPlusM, bd_some, es, bd_some, e2, bd_some]
    unfold m_X12_stays
    rw [hereL x0', bd_some, hsz, isTimesM, bd_some]
    cases ht : isT c with
    | true => rw [i01_t, if_neg one_ne, e19]
    | false =>
      have hP : isP c = true := hT.resolve_left (by rw [ht]; decide)
      rw [i01_f, if_pos rfl, isPlusM, bd_some, hP, i01_t, if_neg one_ne, e19]
  unfold AFm m_X12_value_29
  rw [lt_eq, goodM x0'.1.2.2, bd_some, if_neg one_ne, est, bd_some, if_neg one_ne, m_X12_value_7, if_neg one_ne, goodM x2.1.2.2, bd_some, if_neg one_ne, if_pos b2]
  rfl
theorem termLM (ho : o ≤ 6) (hr : o < 6 → RecS ty n srec (o + 1)) : ∀ (sf f p st a : Nat) (A : Dmn) (mA : Int32) (g : AHp), TRm ty n p st o a A g → NbT st g → n - p < sf → n - p + 1 < f → OutTm ty n p st o a (AFm f g) g (trL ty n srec o sf A mA p) := by
  intro sf
  induction sf with
  | zero => intro f p st a A mA g _ _ h; omega
  | succ sf ih =>
    intro f p st a A mA g t hnb hsf hf
    rw [trL]
    cases hT : isT (sg ty n p) with
    | false =>
      rw [if_neg (show ¬ (false = true) by decide)]
      exact ⟨f, g, rfl, hf, t, KpP.rf, Nat.le_refl _, hT⟩
    | true =>
      have hp : p < n := sg_lt (fun h => by rw [h] at hT; revert hT; decide)
      have hP : isP (sg ty n p) = false := by
        unfold isT at hT
        unfold isP
        simp only [Bool.or_eq_true, decide_eq_true_iff] at hT
        rcases hT with (h | h) | h <;> rw [h] <;> decide
      rw [if_pos rfl]
      obtain ⟨f, rfl⟩ : ∃ q, f = q + 1 := ⟨f - 1, by omega⟩
      have hnb' : NbT st (sI g 70 31 0) := hnb
      obtain ⟨cs, g1, e1, x1, r1, k1⟩ := sums0M (t.b31 0) hnb'
      have es : m_X12_sums (if isP (sg ty n p) = true then 1 else 0) (sI g 70 31 0) = some ((), g1) := by rw [hP, i01_f]; exact e1
      obtain ⟨g2, e2, x2, k2, h2⟩ := af_op (f := f) hp (Or.inl t) rfl (Or.inl hT) es x1 k1
      have hst := r1.1
      have hb := x2.2.2.1
      have k0 : Kp a st g (sI g 70 31 0) := ⟨Ch.rf.sI (by simp), fun k _ => ⟨rfl, rfl⟩, fun k _ => rfl⟩
      have k12 : Kp a st g g2 := (k0.trans (KpP.m k1) (Nat.le_refl _) (Nat.le_refl _)).trans k2 (by omega) (Nat.le_refl _)
      have O := factorM ho hr (f := f) (ff := FU) x2 (by omega) (by unfold FU; omega)
      cases hrs : fcS ty n srec o (p + 1) with
      | inl F =>
        rw [hrs] at O
        obtain ⟨g3, e3, q3, c3⟩ := O
        rw [vsb_l]
        exact ⟨g3, by rw [e2, e3], q3, k12.1.trans c3⟩
      | inr y =>
        obtain ⟨B, m2, q⟩ := y
        rw [hrs] at O
        obtain ⟨f', cs3, g3, e3, hf3, x3, r3, k3, l3⟩ := O
        simp only [] at hf3 x3 r3 l3
        have hqn := x3.2.2.1
        rw [vsb_r]
        have kall : Kp a st g g3 := k12.trans k3 (by omega) (by omega)
        have t3 : TRm ty n q st o a (arD (sg ty n p) A B) g3 := Or.inr ⟨cs3, cs, sg ty n p, A, B, hT, x3, by rw [k3.2.2 st (by omega)]; exact h2, (r1.kp k2 (Nat.le_refl _)).kp k3 (Nat.le_refl _), r3, rfl⟩
        have O2 := ih f' q st a (arD (sg ty n p) A B) (mA ||| m2) g3 t3 (kall.nbT hnb (Nat.le_refl _)) (by omega) hf3
        cases hr2 : trL ty n srec o sf (arD (sg ty n p) A B) (mA ||| m2) q with
        | inl F =>
          rw [hr2] at O2
          obtain ⟨g4, e4, q4, c4⟩ := O2
          exact ⟨g4, by rw [e2, e3, e4], q4, kall.1.trans c4⟩
        | inr z =>
          rw [hr2] at O2
          obtain ⟨f4, g4, e4, hf4, t4, k4, l4, n4⟩ := O2
          exact ⟨f4, g4, by rw [e2, e3, e4], hf4, t4, kall.trans k4 (Nat.le_refl _) (Nat.le_refl _), by omega, n4⟩
theorem termM (ho : o ≤ 6) (hr : o < 6 → RecS ty n srec (o + 1)) {p cs st f ff : Nat} {g : AHp} (x : RLx ty n p cs st o g) (hnb : NbT st g) (hf : n - p + 1 < f) (hff : n - p < ff) : OutTm ty n p st o cs (FAm f ff g) g (trS ty n srec o p) ∧ ∀ y, trS ty n srec o p = .inr y → p < y.2.2 := by
  unfold trS
  have O := factorM ho hr (f := f) (ff := ff) x hf hff
  cases hrs : fcS ty n srec o p with
  | inl F => rw [hrs] at O; rw [vsb_l]; exact ⟨O, fun y h => by cases h⟩
  | inr y =>
    obtain ⟨B, m2, q⟩ := y
    rw [hrs] at O
    obtain ⟨f', cs3, g3, e3, hf3, x3, r3, k3, l3⟩ := O
    simp only [] at hf3 x3 r3 l3
    have hqn := x3.2.2.1
    rw [vsb_r]
    have O2 := termLM ho hr 300 f' q st cs B m2 g3 (Or.inl ⟨cs3, x3, r3⟩) (k3.nbT hnb (Nat.le_refl _)) (by omega) hf3
    cases hr2 : trL ty n srec o 300 B m2 q with
    | inl F =>
      rw [hr2] at O2
      obtain ⟨g4, e4, q4, c4⟩ := O2
      exact ⟨⟨g4, by rw [e3, e4], q4, k3.1.trans c4⟩, fun y h => by cases h⟩
    | inr z =>
      rw [hr2] at O2
      obtain ⟨f4, g4, e4, hf4, t4, k4, l4, n4⟩ := O2
      exact ⟨⟨f4, g4, by rw [e3, e4], hf4, t4, k3.trans k4 (Nat.le_refl _) (Nat.le_refl _), by omega, n4⟩, fun y h => by cases h; omega⟩
theorem sumLM (ho : o ≤ 6) (hr : o < 6 → RecS ty n srec (o + 1)) : ∀ (sf f p st a : Nat) (A : Dmn) (mA : Int32) (g : AHp), SRm ty n p st o a A g → NbP st g → isT (sg ty n p) = false → n - p < sf → n - p + 1 < f → OutSm ty n p a st o (AFm f g) g (smL ty n srec o sf A mA p) := by
  intro sf
  induction sf with
  | zero => intro f p st a A mA g _ _ _ h; omega
  | succ sf ih =>
    intro f p st a A mA g t hnb hT hsf hf
    rw [smL]
    have hnb' : NbP st (sI g 70 31 0) := hnb
    obtain ⟨cs, g1, e1, x1, r1, k1⟩ := sums1M (t.b31 0) hnb'
    have k0 : Kp a st g (sI g 70 31 0) := ⟨Ch.rf.sI (by simp), fun k _ => ⟨rfl, rfl⟩, fun k _ => rfl⟩
    have k01 : Kp a st g g1 := k0.trans (KpP.m k1) (Nat.le_refl _) (Nat.le_refl _)
    have hst := r1.1
    cases hP : isP (sg ty n p) with
    | false =>
      rw [if_neg (show ¬ (false = true) by decide)]
      obtain ⟨cs0, st0, x0, -, -⟩ := t.rl
      have x0' : RLx ty n p cs0 st0 o (sI g 70 31 0) := x0.b31 0
      refine ⟨f, cs, g1, ?_, hf, x1, r1, k01, Nat.le_refl _⟩
      have est : m_X12_stays (sI g 70 31 0) = stE (sz ty n p) g1 := by
        unfold m_X12_stays stE
        rw [hereL x0', bd_some, isTimesM, bd_some, sz_T, hT, i01_f, if_pos rfl, isPlusM, bd_some, sz_P, hP, i01_f, if_pos rfl, e1, bd_some]
      unfold AFm m_X12_value_29
      rw [lt_eq, goodM x0'.1.2.2, bd_some, if_neg one_ne, est]
    | true =>
      have hp : p < n := sg_lt (fun h => by rw [h] at hP; revert hP; decide)
      rw [if_pos rfl]
      obtain ⟨f, rfl⟩ : ∃ q, f = q + 1 := ⟨f - 1, by omega⟩
      have es : m_X12_sums (if isP (sg ty n p) = true then 1 else 0) (sI g 70 31 0) = some ((), g1) := by rw [hP, i01_t]; exact e1
      obtain ⟨g2, e2, x2, k2, h2⟩ := af_op (f := f) hp t rfl (Or.inr hP) es x1 k1
      have hb := x2.2.2.1
      have k12 : Kp a st g g2 := k01.trans k2 (by omega) (Nat.le_refl _)
      have hnb2 : NbT (st + 1) g2 := fun _ => by rw [show st + 1 - 1 = st by omega, h2]; exact hT
      obtain ⟨O, hlt⟩ := termM ho hr (f := f) (ff := FU) x2 hnb2 (by omega) (by unfold FU; omega)
      cases hrs : trS ty n srec o (p + 1) with
      | inl F =>
        rw [hrs] at O
        obtain ⟨g3, e3, q3, c3⟩ := O
        rw [vsb_l]
        exact ⟨g3, by rw [e2, e3], q3, k12.1.trans c3⟩
      | inr y =>
        have hpq := hlt y hrs
        obtain ⟨B, m2, q⟩ := y
        rw [hrs] at O
        obtain ⟨f', g3, e3, hf3, t3, k3, l3, n3⟩ := O
        simp only [] at hf3 t3 l3 n3 hpq
        rw [vsb_r]
        have kall : Kp a st g g3 := k12.trans k3 (by omega) (by omega)
        have t4 : SRm ty n q st o a (arD (sg ty n p) A B) g3 := Or.inr ⟨cs, sg ty n p, A, B, hP, by rw [k3.2.2 st (by omega)]; exact h2, (r1.kp k2 (Nat.le_refl _)).kp k3 (Nat.le_refl _), t3, rfl⟩
        obtain ⟨_, _, xq, -, -⟩ := t4.rl
        have hqn := xq.2.2.1
        have O2 := ih f' q st a (arD (sg ty n p) A B) (mA ||| m2) g3 t4 (kall.nbP hnb (Nat.le_refl _)) n3 (by omega) hf3
        cases hr2 : smL ty n srec o sf (arD (sg ty n p) A B) (mA ||| m2) q with
        | inl F =>
          rw [hr2] at O2
          obtain ⟨g4, e4, q4, c4⟩ := O2
          exact ⟨g4, by rw [e2, e3, e4], q4, kall.1.trans c4⟩
        | inr z =>
          rw [hr2] at O2
          obtain ⟨f4, cs4, g4, e4, hf4, x4, r4, k4, l4⟩ := O2
          exact ⟨f4, cs4, g4, by rw [e2, e3, e4], hf4, x4, r4, kall.trans k4 (Nat.le_refl _) (Nat.le_refl _), by omega⟩
theorem sumM (ho : o ≤ 6) (hr : o < 6 → RecS ty n srec (o + 1)) : RecS ty n (smS ty n srec) o := by
  intro p g f ff cs st x hnb hf hff
  unfold smS
  obtain ⟨O, hlt⟩ := termM ho hr (f := f) (ff := ff) x (fun h => (hnb h).1) hf hff
  cases hrs : trS ty n srec o p with
  | inl F => rw [hrs] at O; rw [vsb_l]; exact O
  | inr y =>
    have hpq := hlt y hrs
    obtain ⟨B, m2, q⟩ := y
    rw [hrs] at O
    obtain ⟨f', g3, e3, hf3, t3, k3, l3, n3⟩ := O
    simp only [] at hf3 t3 l3 n3 hpq
    rw [vsb_r]
    have t4 : SRm ty n q st o cs B g3 := Or.inl t3
    obtain ⟨_, _, xq, -, -⟩ := t4.rl
    have hqn := xq.2.2.1
    have O2 := sumLM ho hr 300 f' q st cs B m2 g3 t4 (k3.nbP hnb (Nat.le_refl _)) n3 (by omega) hf3
    cases hr2 : smL ty n srec o 300 B m2 q with
    | inl F =>
      rw [hr2] at O2
      obtain ⟨g4, e4, q4, c4⟩ := O2
      exact ⟨g4, by rw [e3, e4], q4, k3.1.trans c4⟩
    | inr z =>
      rw [hr2] at O2
      obtain ⟨f4, cs4, g4, e4, hf4, x4, r4, k4, l4⟩ := O2
      exact ⟨f4, cs4, g4, by rw [e3, e4], hf4, x4, r4, k3.trans k4 (Nat.le_refl _) (Nat.le_refl _), by omega⟩
end VM3
theorem SMs_M {ty : Nat → Int32} {n : Nat} : ∀ (k o : Nat), o ≤ 6 → 7 ≤ k + o → RecS ty n (SMs ty n k) o := by
  intro k
  induction k with
  | zero => intro o h1 h2; omega
  | succ k ih =>
    intro o h1 h2 p g f ff cs st x hnb hf hff
    rw [SMs]
    exact sumM h1 (fun h => ih (o + 1) (by omega) (by omega)) p g f ff cs st x hnb hf hff
/-- what a value comes to: a bracket that closes nothing is a fault here already -/
def OutVl (ty : Nat → Int32) (n p cs st op : Nat) (g : AHp) (r : VSp) : Prop := match r with
  | .inl F => ∃ g1, m_X12_value g = some ((), g1) ∧ (hI g1 70 6 = F ∧ F.toInt < 0) ∧ Ch PLm g g1
  | .inr y => ∃ g1, m_X12_value g = some ((), g1) ∧ Ch PLm g g1 ∧ ((sg ty n y.2.2 = 93 ∧ hI g1 70 6 = flt 1 y.2.2 ∧ (flt 1 y.2.2).toInt < 0) ∨ (¬ sg ty n y.2.2 = 93 ∧ ∃ cs1, RLx ty n y.2.2 cs1 st op g1 ∧ RnM g1 cs cs1 y.1 ∧ Kp cs st g g1))
theorem valueMM {ty : Nat → Int32} {n p cs st o : Nat} {g : AHp} (ho : o ≤ 6) (x : RLx ty n p cs st o g) (hnb : NbP st g) (hnb2 : 0 < st → ¬ hI g 90 (st - 1) = 91) : OutVl ty n p cs st o g (SMs ty n 10 o p) := by
  have hb := x.2.2.1
  have x0 : RLx ty n p cs st o (sI g 70 31 0) := x.b31 0
  have k0 : Kp cs st g (sI g 70 31 0) := ⟨Ch.rf.sI (by simp), fun k _ => ⟨rfl, rfl⟩, fun k _ => rfl⟩
  obtain ⟨fu, hfu⟩ : ∃ q, FU = q + 1 := FU_s
  have e0 : m_X12_value g = FAm fu FU (sI g 70 31 0) := by
    unfold m_X12_value
    rw [lt_eq, hfu, m_X12_value_7, if_neg one_ne, goodM x0.1.2.2, bd_some, if_neg one_ne, if_pos (show hI (sI g 70 31 0) 70 31 = 0 from rfl)]
    unfold m_X12_factor
    rw [← hfu]
  have O := SMs_M (ty := ty) (n := n) 10 o ho (by omega) p (sI g 70 31 0) fu FU cs st x0 hnb (by unfold FU at hfu; omega) (by unfold FU; omega)
  rw [← e0] at O
  cases hrs : SMs ty n 10 o p with
  | inl F =>
    rw [hrs] at O
    obtain ⟨g1, e1, q1, c1⟩ := O
    exact ⟨g1, e1, q1, k0.1.trans c1⟩
  | inr y =>
    rw [hrs] at O
    obtain ⟨f', cs1, g1, e1, hf1, x1, r1, k1, l1⟩ := O
    have hqn := x1.2.2.1
    have kall := k0.trans k1 (Nat.le_refl _) (Nat.le_refl _)
    obtain ⟨f', rfl⟩ : ∃ q, f' = q + 1 := ⟨f' - 1, by omega⟩
    have ntop : ∀ t, m_X12_top g1 = some (t, g1) → ¬ t = 91 := fun t ht => by
      rw [topM x1] at ht
      have ht2 := congrArg (fun z => match z with | some w => w.1 | none => 0) ht
      simp only [] at ht2
      by_cases h0 : 0 < st
      · rw [if_pos h0, kall.2.2 (st - 1) (by omega)] at ht2
        rw [← ht2]; exact hnb2 h0
      · rw [if_neg h0] at ht2
        rw [← ht2]; decide
    by_cases h93 : sg ty n y.2.2 = 93
    · have hq : y.2.2 < n := sg_lt (by rw [h93]; decide)
      have hng : (flt 1 y.2.2).toInt < 0 := flt_neg (k := 1) (by omega) (by omega) (by omega)
      have hz : hI (sI g1 70 6 (flt 1 y.2.2)) 70 6 = flt 1 y.2.2 := rfl
      refine ⟨sI g1 70 6 (flt 1 y.2.2), ?_, kall.1.sI (by simp), Or.inl ⟨h93, rfl, hng⟩⟩
      rw [e1]
      unfold SEm stE
      rw [if_pos (by rw [sg_sz hq]; exact h93), topM x1, bd_some, if_neg (ntop _ (topM x1)), x1.1.1, wrongsM x1.1.2.2, bd_some, bd_some, if_pos rfl, m_X12_value_7, if_pos rfl]
      unfold m_X12_value_57
      rw [badM hz (neg_ne hng), bd_some, if_pos rfl]
    · have hsz : ¬ sz ty n y.2.2 = 93 := fun h => h93 ((sz_sg (by decide) (by decide)).mp h)
      refine ⟨g1, ?_, kall.1, Or.inr ⟨h93, cs1, x1, r1, kall⟩⟩
      rw [e1]
      unfold SEm stE
      rw [if_neg hsz, bd_some, if_pos rfl, m_X12_value_7, if_pos rfl]
      unfold m_X12_value_57
      rw [goodM x1.1.2.2, bd_some, if_neg one_ne, topM x1, bd_some, if_neg (ntop _ (topM x1))]
