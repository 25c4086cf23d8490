/-! conditions: the reference -/
abbrev PLk : Nat → Nat → Bool := fun k i => PLm k i || (k == 70 && i == 30)
abbrev Kk : Nat → Nat → AHp → AHp → Prop := KpP PLk
theorem plm_k {g g1 : AHp} (c : Ch PLm g g1) : Ch PLk g g1 := c.mono (fun k i hp => (Bool.or_eq_false_iff.mp hp).1)
theorem KpP.k {cs st : Nat} {g g1 : AHp} (x : Kp cs st g g1) : Kk cs st g g1 := ⟨plm_k x.1, x.2⟩
theorem KpP.nk {cs st : Nat} {g g1 : AHp} (x : Kn cs st g g1) : Kk cs st g g1 := (KpP.m x).k
/-- a piece is read; what follows it is looked at -/
abbrev GBm (f : Nat) (h : AHp) : Option (Unit × AHp) := bd (m_X12_goesBehind h) fun r h' => m_X12_condition_37 f r h'
/-- a piece is due -/
abbrev PDq (f ff : Nat) (h : AHp) : Option (Unit × AHp) := bd (m_X12_pieceOfC_0 ff h) fun _ h8 => bd (m_X12_isGood h8) fun r9 h10 => (if r9 = 0 then (m_X12_condition_37 f 1 h10) else GBm f h10)
def nots : Nat → Dmn → Dmn
  | 0, A => A
  | k + 1, A => nots k (ntD A)
def tpB (st : Nat) (g : AHp) : Prop := 1 ≤ st ∧ (hI g 90 (st - 1) = 40 ∨ hI g 90 (st - 1) = 38 ∨ hI g 90 (st - 1) = 124)
section CM
variable {ty : Nat → Int32} {n : Nat}
theorem c37_bad {F : Int32} {g : AHp} (h : hI g 70 6 = F) (hF : ¬ F = 0) (f : Nat) (x : Int32) : m_X12_condition_37 (f + 1) x g = some ((), g) := by
  rw [m_X12_condition_37, badM h hF, bd_some, if_pos rfl]
theorem pd_bad {F : Int32} {f ff : Nat} {g g1 : AHp} (e : m_X12_pieceOfC_0 ff g = some ((), g1)) (h : hI g1 70 6 = F) (hF : F.toInt < 0) (hf : 1 ≤ f) : PDq f ff g = some ((), g1) := by
  obtain ⟨f, rfl⟩ : ∃ q, f = q + 1 := ⟨f - 1, by omega⟩
  unfold PDq
  rw [e, bd_some, badM h (neg_ne hF), bd_some, if_pos rfl, c37_bad h (neg_ne hF)]
theorem c37_one {p cs st op f : Nat} {g : AHp} (x : RLx ty n p cs st op g) (h30 : hI g 70 30 = 0) : m_X12_condition_37 (f + 1) 1 g = PDq f FU g := by
  rw [m_X12_condition_37, goodM x.1.2.2, bd_some, if_neg one_ne, if_pos h30, if_neg one_ne]
  rfl
theorem c37_zero {p cs st op f : Nat} {g : AHp} (x : RLx ty n p cs st op g) (h30 : hI g 70 30 = 0) : m_X12_condition_37 (f + 1) 0 g = GBm f g := by
  rw [m_X12_condition_37, goodM x.1.2.2, bd_some, if_neg one_ne, if_pos h30, if_pos rfl, goodM x.1.2.2, bd_some, if_neg one_ne]
/-- what is turned round -/
theorem ends_l : ∀ (k p cs st op f : Nat) (a : Nat) (A : Dmn) (g : AHp), k < f → RLx ty n p cs (st + k) (op + k) g → (∀ i, i < k → hI g 90 (st + i) = 33) → (0 < st → ¬ hI g 90 (st - 1) = 33) → RnM g a cs A → ∃ cs1 g1, m_X12_ends_0 f g = some ((), g1) ∧ RLx ty n p cs1 st op g1 ∧ RnM g1 a cs1 (nots k A) ∧ Kn cs st g g1 := by
  intro k
  induction k with
  | zero =>
    intro p cs st op f a A g hf x h33 hn r
    obtain ⟨f, rfl⟩ : ∃ q, f = q + 1 := ⟨f - 1, by omega⟩
    have x' : RLx ty n p cs st op g := x
    refine ⟨cs, g, ?_, x', r, KpP.rf⟩
    rw [m_X12_ends_0, topM x', bd_some]
    by_cases h0 : 0 < st
    · rw [if_pos h0, if_neg (hn h0)]
    · rw [if_neg h0, if_neg (by decide)]
  | succ k ih =>
    intro p cs st op f a A g hf x h33 hn r
    obtain ⟨f, rfl⟩ : ∃ q, f = q + 1 := ⟨f - 1, by omega⟩
    have x' : RLx ty n p cs (st + k + 1) (op + k + 1) g := x
    have hb := x'.2.2.1
    have hr := r.1
    have h33' : hI g 90 (st + k) = 33 := h33 k (by omega)
    obtain ⟨g1, e1, h8, h88, h89, c1⟩ := emitL x' (by omega) 2 0
    have x2 : RLx ty n p (cs + 1) (st + k) (op + k) (sI (sI g1 70 10 (nI (st + k))) 70 9 (nI (op + k))) := by
      obtain ⟨⟨x1, x2, x3⟩, ⟨x4, x5, x6⟩, x7, x8⟩ := x'
      refine ⟨⟨?_, ?_, ?_⟩, ⟨?_, ?_, rfl⟩, ⟨by omega, by omega, by omega, by omega⟩, fun i hi => ?_⟩
      · rw [hI_sI, if_neg (by omega), hI_sI, if_neg (by omega), c1.i (by simp)]; exact x1
      · rw [hI_sI, if_neg (by omega), hI_sI, if_neg (by omega), c1.i (by simp)]; exact x2
      · rw [hI_sI, if_neg (by omega), hI_sI, if_neg (by omega), c1.i (by simp)]; exact x3
      · rw [hI_sI, if_neg (by omega), hI_sI, if_neg (by omega)]; exact h8
      · rw [hI_sI, if_neg (by omega), hI_sI, if_pos ⟨rfl, rfl⟩]
      · rw [hI_sI, if_neg (by omega), hI_sI, if_neg (by omega), c1.i (by simp)]; exact x8 i hi
    have k2 : Kn cs (st + k + 1) g (sI (sI g1 70 10 (nI (st + k))) 70 9 (nI (op + k))) := by
      refine ⟨((c1.mono (fun k i hp => ?_)).sI (by simp)).sI (by simp), fun u hu => ⟨?_, ?_⟩, fun u hu => ?_⟩
      · simp only [Bool.or_eq_false_iff, Bool.and_eq_false_iff, beq_eq_false_iff_ne] at hp ⊢; omega
      · rw [hI_sI, if_neg (by omega), hI_sI, if_neg (by omega), c1.i (by simp; omega)]
      · rw [hI_sI, if_neg (by omega), hI_sI, if_neg (by omega), c1.i (by simp; omega)]
      · rw [hI_sI, if_neg (by omega), hI_sI, if_neg (by omega), c1.i (by simp)]
    have r2 : RnM (sI (sI g1 70 10 (nI (st + k))) 70 9 (nI (op + k))) a (cs + 1) (ntD A) := RunM.nt (r.kp k2 (Nat.le_refl _)) (by omega) h88
    have hgo : m_X12_ends_0 (f + 1) g = m_X12_ends_0 f (sI (sI g1 70 10 (nI (st + k))) 70 9 (nI (op + k))) := by
      have a10 : hI g1 70 10 = nI (st + k + 1) := by rw [c1.i (by simp)]; exact x'.2.1.2.1
      have a9 : hI (sI g1 70 10 (nI (st + k))) 70 9 = nI (op + k + 1) := by rw [hI_sI, if_neg (by omega), c1.i (by simp)]; exact x'.2.1.2.2
      have et : m_X12_top g = some (33, g) := by
        rw [topM x', if_pos (by omega), show st + k + 1 - 1 = st + k by omega, h33']
      rw [m_X12_ends_0, et, bd_some, if_pos rfl, e1, bd_some, a10, nI_pred, lt_eq, a9, nI_pred, lt_eq]
    generalize sI (sI g1 70 10 (nI (st + k))) 70 9 (nI (op + k)) = g2 at x2 k2 r2 hgo
    obtain ⟨cs3, g3, e3, x3, r3, k3⟩ := ih p (cs + 1) st op f a (ntD A) g2 (by omega) x2 (fun i hi => by rw [k2.2.2 (st + i) (by omega)]; exact h33 i (by omega)) (fun h0 => by rw [k2.2.2 (st - 1) (by omega)]; exact hn h0) r2
    exact ⟨cs3, g3, by rw [hgo, e3], x3, r3, (k2.low (Nat.le_refl _) (by omega)).trans k3 (by omega) (Nat.le_refl _)⟩
theorem endsM2 {k p cs st op a : Nat} {A : Dmn} {g : AHp} (x : RLx ty n p cs (st + k) (op + k) g) (h33 : ∀ i, i < k → hI g 90 (st + i) = 33) (hn : 0 < st → ¬ hI g 90 (st - 1) = 33) (r : RnM g a cs A) : ∃ cs1 g1, m_X12_ends g = some ((), g1) ∧ RLx ty n p cs1 st op g1 ∧ RnM g1 a cs1 (nots k A) ∧ Kn cs st g g1 := by
  have hb := x.2.2.1
  exact ends_l k p cs st op FU a A g (by unfold FU; omega) x h33 hn r
/-- a part as it stands, a condition as it stands -/
def JTm (ty : Nat → Int32) (n p st op a : Nat) (A : Dmn) (g : AHp) : Prop := (∃ cs, RLx ty n p cs st op g ∧ RnM g a cs A) ∨ ∃ cs b A' B', RLx ty n p cs (st + 1) op g ∧ hI g 90 st = 38 ∧ RnM g a b A' ∧ RnM g b cs B' ∧ bD A' ∧ A = jD 0 A' B'
def JSm (ty : Nat → Int32) (n p st op a : Nat) (A : Dmn) (g : AHp) : Prop := JTm ty n p st op a A g ∨ ∃ b A' B', hI g 90 st = 124 ∧ RnM g a b A' ∧ JTm ty n p (st + 1) op b B' g ∧ bD A' ∧ A = jD 1 A' B'
theorem JSm.rl {p st op a : Nat} {A : Dmn} {g : AHp} (t : JSm ty n p st op a A g) : ∃ cs st2, RLx ty n p cs st2 op g ∧ st ≤ st2 ∧ a < cs := by
  rcases t with (⟨cs, x, r⟩ | ⟨cs, b, A', B', x, hcc, rA, rB, _⟩) | ⟨b, A', B', hcc, rA, (⟨cs, x, r⟩ | ⟨cs, b2, A2, B2, x, hcc2, rA2, rB2, _⟩), _⟩
  · exact ⟨cs, st, x, Nat.le_refl _, r.1.1⟩
  · exact ⟨cs, st + 1, x, by omega, by have := rA.1; have := rB.1; omega⟩
  · exact ⟨cs, st + 1, x, by omega, by have := rA.1; have := r.1; omega⟩
  · exact ⟨cs, st + 2, x, by omega, by have := rA.1; have := rA2.1; have := rB2.1; omega⟩
theorem pop_joins {p cs st op f : Nat} {g : AHp} {c x1 : Int32} (x : RLx ty n p cs (st + 1) op g) (hc : hI g 90 st = c) (hT : c = 38 ∨ (c = 124 ∧ ¬ x1 = 0)) : ∃ g1, m_X12_joins_0 (f + 1) x1 g = m_X12_joins_0 f x1 g1 ∧ RLx ty n p (cs + 1) st op g1 ∧ Kn cs (st + 1) g g1 ∧ hI g1 88 cs = c := by
  have et : m_X12_top g = some (c, g) := by
    rw [topM x, if_pos (by omega), show st + 1 - 1 = st by omega, hc]
  obtain ⟨g1, e1, r1, k1, h1⟩ := popL x hc
  have e24 : m_X12_joins_22 (m_X12_joins_0 f) x1 g = m_X12_joins_0 f x1 g1 := by
    unfold m_X12_joins_22
    rw [et, bd_some]
    have hb := x.2.2.1
    obtain ⟨g2, e2, -⟩ := emitL x (by omega) c 0
    rw [e2, bd_some, lt_eq]
    rw [e2, bd_some] at e1
    have := congrArg (fun o => match o with | some y => y.2 | none => g) e1
    simp only [] at this
    rw [this]
  refine ⟨g1, ?_, r1, k1, h1⟩
  rw [m_X12_joins_0, et, bd_some]
  rcases hT with hT | ⟨hT, hx⟩
  · rw [if_pos hT, e24]
  · rw [if_neg (by rw [hT]; decide), if_neg hx, et, bd_some, if_pos hT, e24]
theorem stop_joins {p cs st op f : Nat} {g : AHp} {x1 : Int32} (x : RLx ty n p cs st op g) (h1 : 0 < st → ¬ hI g 90 (st - 1) = 38) (h2 : ¬ x1 = 0 → 0 < st → ¬ hI g 90 (st - 1) = 124) : m_X12_joins_0 (f + 1) x1 g = some ((), g) := by
  rw [m_X12_joins_0, topM x, bd_some]
  by_cases h0 : 0 < st
  · rw [if_pos h0, if_neg (h1 h0)]
    by_cases hx : x1 = 0
    · rw [if_pos hx]
    · rw [if_neg hx, topM x, bd_some, if_pos h0, if_neg (h2 hx h0)]
  · rw [if_neg h0, if_neg (by decide)]
    by_cases hx : x1 = 0
    · rw [if_pos hx]
    · rw [if_neg hx, topM x, bd_some, if_neg h0, if_neg (by decide)]
theorem RnM.jn2 {g g1 : AHp} {a b cs st : Nat} {A B : Dmn} {c jv : Int32} (hc : (c = 38 ∧ jv = 0) ∨ (c = 124 ∧ jv = 1)) (hA : bD A) (x : RnM g a b A) (y : RnM g b cs B) (hcs : cs < 200) (k : Kn cs st g g1) (h : hI g1 88 cs = c) : RnM g1 a (cs + 1) (jD jv A B) := by
  have hy := y.1
  exact RunM.jn hc hA (x.kp k (by omega)) (y.kp k (Nat.le_refl _)) hcs h
theorem flushJ {p st op a f : Nat} {A : Dmn} {g : AHp} {x1 : Int32} (t : JTm ty n p st op a A g) : ∃ cs f' g1, f ≤ f' + 1 ∧ m_X12_joins_0 f x1 g = m_X12_joins_0 f' x1 g1 ∧ RLx ty n p cs st op g1 ∧ RnM g1 a cs A ∧ Kn a st g g1 ∨ f = 0 := by
  rcases t with ⟨cs, x, r⟩ | ⟨cs, b, A', B', x, hcc, rA, rB, hbA, rfl⟩
  · exact ⟨cs, f, g, Or.inl ⟨by omega, rfl, x, r, KpP.rf⟩⟩
  · cases f with
    | zero => exact ⟨0, 0, g, Or.inr rfl⟩
    | succ f =>
      obtain ⟨g1, e1, r1, k1, h1⟩ := pop_joins (f := f) (x1 := x1) x hcc (Or.inl rfl)
      have hb := x.2.2.1
      have hA := rA.1
      have hB := rB.1
      exact ⟨cs + 1, f, g1, Or.inl ⟨by omega, e1, r1, RnM.jn2 (Or.inl ⟨rfl, rfl⟩) hbA rA rB (by omega) k1 h1, k1.low (by omega) (by omega)⟩⟩
theorem joins0M {p st op a : Nat} {A : Dmn} {g : AHp} (t : JTm ty n p st op a A g) (hn : 0 < st → ¬ hI g 90 (st - 1) = 38) : ∃ cs g1, m_X12_joins 0 g = some ((), g1) ∧ RLx ty n p cs st op g1 ∧ RnM g1 a cs A ∧ Kn a st g g1 := by
  obtain ⟨cs, f', g1, h⟩ := flushJ (f := FU) (x1 := 0) t
  rcases h with ⟨h1, h2, h3, h4, h5⟩ | h
  · obtain ⟨f2, rfl⟩ : ∃ q, f' = q + 1 := ⟨f' - 1, by unfold FU at h1; omega⟩
    refine ⟨cs, g1, ?_, h3, h4, h5⟩
    unfold m_X12_joins
    rw [h2, stop_joins h3 (fun h0 => by rw [h5.2.2 (st - 1) (by omega)]; exact hn h0) (fun h => absurd rfl h)]
  · unfold FU at h; omega
theorem joins1M {p st op a : Nat} {A : Dmn} {g : AHp} (t : JSm ty n p st op a A g) (hn : 0 < st → ¬ hI g 90 (st - 1) = 38 ∧ ¬ hI g 90 (st - 1) = 124) : ∃ cs g1, m_X12_joins 1 g = some ((), g1) ∧ RLx ty n p cs st op g1 ∧ RnM g1 a cs A ∧ Kn a st g g1 := by
  rcases t with t | ⟨b, A', B', hcc, rA, t, hbA, rfl⟩
  · obtain ⟨cs, f', g1, h⟩ := flushJ (f := FU) (x1 := 1) t
    rcases h with ⟨h1, h2, h3, h4, h5⟩ | h
    · obtain ⟨f2, rfl⟩ : ∃ q, f' = q + 1 := ⟨f' - 1, by unfold FU at h1; omega⟩
      refine ⟨cs, g1, ?_, h3, h4, h5⟩
      unfold m_X12_joins
      rw [h2, stop_joins h3 (fun h0 => by rw [h5.2.2 (st - 1) (by omega)]; exact (hn h0).1) (fun _ h0 => by rw [h5.2.2 (st - 1) (by omega)]; exact (hn h0).2)]
    · unfold FU at h; omega
  · obtain ⟨cs, f', g1, h⟩ := flushJ (f := FU) (x1 := 1) t
    rcases h with ⟨h1, h2, h3, h4, h5⟩ | h
    · obtain ⟨f2, rfl⟩ : ∃ q, f' = q + 2 := ⟨f' - 2, by unfold FU at h1; omega⟩
      have hA := rA.1
      have hB := h4.1
      have hb := h3.2.2.1
      obtain ⟨g2, e2, r2, k2, hh2⟩ := pop_joins (f := f2 + 1) (x1 := 1) h3 (c := 124) (by rw [h5.2.2 st (by omega)]; exact hcc) (Or.inr ⟨rfl, one_ne⟩)
      have kk : Kn a st g g2 := (h5.low (by omega) (by omega)).trans (k2.low (Nat.le_refl _) (by omega)) (by omega) (Nat.le_refl _)
      refine ⟨cs + 1, g2, ?_, r2, RnM.jn2 (Or.inr ⟨rfl, rfl⟩) hbA (rA.kp h5 (Nat.le_refl _)) h4 (by omega) k2 hh2, kk⟩
      unfold m_X12_joins
      rw [h2, show f2 + 2 = (f2 + 1) + 1 from rfl, e2, stop_joins r2 (fun h0 => by rw [kk.2.2 (st - 1) (by omega)]; exact (hn h0).1) (fun _ h0 => by rw [kk.2.2 (st - 1) (by omega)]; exact (hn h0).2)]
    · unfold FU at h; omega
/-- behind a piece stands & or |: a piece is due -/
theorem gb_op {p cs st op f a : Nat} {A : Dmn} {g g1 : AHp} {c : Int32} (hp : p < n) (t : JSm ty n p st op a A g) (hc : sg ty n p = c) (hT : c = 38 ∨ c = 124)
    (es : m_X12_joins (if c = 124 then 1 else 0) g = some ((), g1)) (x1 : RLx ty n p cs st op g1) (k1 : Kn a st g g1) (h30 : hI g 70 30 = 0) :
    ∃ g2, GBm (f + 1) g = PDq f FU g2 ∧ RLx ty n (p + 1) cs (st + 1) op g2 ∧ Kn cs st g1 g2 ∧ hI g2 90 st = c ∧ hI g2 70 30 = 0 := by
  obtain ⟨cs0, st0, x0, -, -⟩ := t.rl
  have hsz : sz ty n p = c := by rw [sg_sz hp, hc]
  obtain ⟨g2, e2, x2, k2, h2⟩ := putsL x1 hp c
  have b2 : hI g2 70 30 = 0 := by
    rw [k2.1.i (by simp), k1.1.i (by simp)]; exact h30
  refine ⟨g2, ?_, x2, k2, h2, b2⟩
  have e17 : m_X12_goesBehind_17 c g = some (1, g2) := by
    unfold m_X12_goesBehind_17
    by_cases h : c = 124
    · rw [if_pos h] at es
      rw [if_pos h, es, bd_some, e2, bd_some]
    · rw [if_neg h] at es
      rw [if_neg h, es, bd_some, e2, bd_some]
  unfold GBm m_X12_goesBehind
  rw [hereL x0, bd_some, hsz, ite_two hT, e17, bd_some, c37_one x2 b2]
end CM
