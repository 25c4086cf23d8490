/-- the codes from a to b, wherever they lie, leave one value more -/
def RunM (cd ar : Nat → Int32) (a b : Nat) (D : Dmn) : Prop := (a < b ∧ b ≤ 200) ∧ ∀ (g : AHp) (o N to f : Nat), (∀ k, a ≤ k → k < b → hI g 82 (o + k) = cd k ∧ hI g 83 (o + k) = ar k) → okM g → N + (b - a) ≤ 240 → o ≤ 200 → o + b ≤ to → to ≤ 400 → b - a < f →
    ∃ g1, Ch PW g g1 ∧ (∀ q, q < N → hI g1 92 q = hI g 92 q ∧ hI g1 93 q = hI g 93 q) ∧
      m_X12_works_5 f (nI to) (nI N) (nI (o + a)) g = m_X12_works_5 (f - (b - a)) (nI to) (nI (N + 1)) (nI (o + b)) g1 ∧ (D (momM g) = none → hI g1 93 N = 1) ∧ ∀ v, D (momM g) = some v → hI g1 93 N = 0 ∧ hI g1 92 N = v
section WK
variable {g : AHp} {to i N f : Nat}
theorem wk_op {c : Int32} (hc : ¬ c ≤ 2) (hi : i < to) (hto : to ≤ 400) (hN : N < 240) (h82 : hI g 82 i = c) : m_X12_works_5 (f + 1) (nI to) (nI (N + 2)) (nI i) g = bd (m_X12_does c (nI N) g) (fun _ h => m_X12_works_5 f (nI to) (nI (N + 1)) (nI (i + 1)) h) := by
  have gi : inb (nI i) 400 := inb_nI (by omega) (by omega)
  have e82 : hI g 82 (nI i).toNatClampNeg = c := by rw [nI_clamp (by omega)]; exact h82
  rw [m_X12_works_5, if_neg (nI_ge hi (by omega)), gd_pos gi, e82, if_neg hc, lt_eq, gd_pos gi, show nI (N + 2) + (-1) = nI (N + 1) from pk_m1 (N + 1), nI_pred]
  congr 1
  funext _ h
  rw [lt_eq, nI_1]
theorem wk_nt (hi : i < to) (hto : to ≤ 400) (hN : N < 240) (h82 : hI g 82 i = 2) : m_X12_works_5 (f + 1) (nI to) (nI (N + 1)) (nI i) g = m_X12_works_5 f (nI to) (nI (N + 1)) (nI (i + 1)) (sI g 92 N (1 - hI g 92 N)) := by
  have gi : inb (nI i) 400 := inb_nI (by omega) (by omega)
  have gN : inb (nI N) 240 := inb_nI (by omega) (by omega)
  have e82 : hI g 82 (nI i).toNatClampNeg = 2 := by rw [nI_clamp (by omega)]; exact h82
  rw [m_X12_works_5, if_neg (nI_ge hi (by omega)), gd_pos gi, e82, if_pos (show (2 : Int32) ≤ 2 by decide), gd_pos gi, if_pos (show (2 : Int32) = 2 from rfl), nI_pred, gd_pos gN, gd_pos gN, lt_eq, lt_eq, nI_1, nI_clamp (show N < 2 ^ 31 by omega)]
theorem wk_num (hi : i < to) (hto : to ≤ 400) (hN : N < 240) (h82 : hI g 82 i = 0) : m_X12_works_5 (f + 1) (nI to) (nI N) (nI i) g = m_X12_works_5 f (nI to) (nI (N + 1)) (nI (i + 1)) (sI (sI g 93 N 0) 92 N (hI g 83 i)) := by
  have gi : inb (nI i) 400 := inb_nI (by omega) (by omega)
  have gN : inb (nI N) 240 := inb_nI (by omega) (by omega)
  have e82 : hI g 82 (nI i).toNatClampNeg = 0 := by rw [nI_clamp (by omega)]; exact h82
  have e82b : hI (sI g 93 (nI N).toNatClampNeg 0) 82 (nI i).toNatClampNeg = 0 := by rw [hI_sI, if_neg (by omega)]; exact e82
  have e83b : hI (sI g 93 (nI N).toNatClampNeg 0) 83 (nI i).toNatClampNeg = hI g 83 i := by rw [hI_sI, if_neg (by omega), nI_clamp (by omega)]
  rw [m_X12_works_5, if_neg (nI_ge hi (by omega)), gd_pos gi, e82, if_pos (show (0 : Int32) ≤ 2 by decide), gd_pos gi, if_neg (show ¬ ((0 : Int32) = 2) by decide), gd_pos gN, vb0, lt_eq, gd_pos gi, e82b, if_pos (show (0 : Int32) = 0 from rfl), gd_pos gi, gd_pos gN, e83b, lt_eq, lt_eq, lt_eq, nI_1, nI_1, nI_clamp (show N < 2 ^ 31 by omega)]
theorem wk_let {c : Int32} (hi : i < to) (hto : to ≤ 400) (hN : N < 240) (h82 : hI g 82 i = 1) (h83 : hI g 83 i = c) (hc : lix c < 9) (hk : okM g) : m_X12_works_5 (f + 1) (nI to) (nI N) (nI i) g = m_X12_works_5 f (nI to) (nI (N + 1)) (nI (i + 1)) (sI (sI g 93 N 0) 92 N (momM g (lix c))) := by
  have gi : inb (nI i) 400 := inb_nI (by omega) (by omega)
  have gN : inb (nI N) 240 := inb_nI (by omega) (by omega)
  have c0 : Ch PW g (sI g 93 (nI N).toNatClampNeg 0) := Ch.rf.sI (by simp)
  have e82 : hI g 82 (nI i).toNatClampNeg = 1 := by rw [nI_clamp (by omega)]; exact h82
  have e82b : hI (sI g 93 (nI N).toNatClampNeg 0) 82 (nI i).toNatClampNeg = 1 := by rw [hI_sI, if_neg (by omega)]; exact e82
  have e83b : hI (sI g 93 (nI N).toNatClampNeg 0) 83 (nI i).toNatClampNeg = c := by rw [hI_sI, if_neg (by omega), nI_clamp (by omega)]; exact h83
  rw [m_X12_works_5, if_neg (nI_ge hi (by omega)), gd_pos gi, e82, if_pos (show (1 : Int32) ≤ 2 by decide), gd_pos gi, if_neg (show ¬ ((1 : Int32) = 2) by decide), gd_pos gN, vb0, lt_eq, gd_pos gi, e82b, if_neg (show ¬ ((1 : Int32) = 0) by decide), gd_pos gi, e83b, valueM hc (okM_ch c0 hk), bd_some, gd_pos gN, lt_eq, lt_eq, lt_eq, nI_1, nI_1, momM_ch c0, nI_clamp (show N < 2 ^ 31 by omega)]
theorem doesJ {c jv : Int32} (hc : (c = 38 ∧ jv = 0) ∨ (c = 124 ∧ jv = 1)) (hN : N + 1 < 240) (h01 : hI g 92 N = 0 ∨ hI g 92 N = 1 ∨ hI g 93 N = 1) (hB : hI g 93 (N + 1) = 0 ∨ hI g 93 (N + 1) = 1) :
    ∃ g1, m_X12_does c (nI N) g = some ((), g1) ∧ Ch (PWn N) g g1 ∧ ((¬ hI g 93 N = 0 → g1 = g) ∧ (hI g 93 N = 0 → hI g 92 N = jv → g1 = g) ∧ (hI g 93 N = 0 → ¬ hI g 92 N = jv → hI g1 92 N = hI g 92 (N + 1) ∧ hI g1 93 N = hI g 93 (N + 1))) := by
  have gi : inb (nI N) 240 := inb_nI (by omega) (by omega)
  have gi1 : inb (nI (N + 1)) 240 := inb_nI (by omega) (by omega)
  have ec : (nI N).toNatClampNeg = N := nI_clamp (by omega)
  have ec1 : (nI (N + 1)).toNatClampNeg = N + 1 := nI_clamp (by omega)
  have d42 : ∀ s0 s1 : Int32, m_X12_does_42 (nI N) (nI (N + 1)) s0 s1 g = (if s0 = s1 then some ((), sI (sI g 92 N (hI g 92 (N + 1))) 93 N (hI g 93 (N + 1))) else some ((), g)) := fun s0 s1 => by
    unfold m_X12_does_42
    have e1 : hI (sI g 92 N (hI g 92 (N + 1))) 93 (N + 1) = hI g 93 (N + 1) := by rw [hI_sI, if_neg (by omega)]
    simp only [gd_pos gi, gd_pos gi1, ec, ec1, lt_eq, e1, nar_b hB]
  have d16 : ∃ s1 : Int32, ((c = 38 ∧ s1 = 1) ∨ (c = 124 ∧ s1 = 0)) ∧ m_X12_does c (nI N) g = (if hI g 93 N = 0 then (if hI g 92 N = s1 then some ((), sI (sI g 92 N (hI g 92 (N + 1))) 93 N (hI g 93 (N + 1))) else some ((), g)) else some ((), g)) := by
    unfold m_X12_does m_X12_does_16
    rcases hc with ⟨rfl, rfl⟩ | ⟨rfl, rfl⟩
    · refine ⟨1, Or.inl ⟨rfl, rfl⟩, ?_⟩
      simp only [lt_eq, nI_1, if_pos trivial, gd_pos gi, ec, d42]
    · refine ⟨0, Or.inr ⟨rfl, rfl⟩, ?_⟩
      rw [lt_eq, nI_1, if_neg (by decide), if_pos rfl]
      simp only [gd_pos gi, ec, d42]
      rw [if_neg (show ¬ ((124 : Int32) = 38) by decide)]
  obtain ⟨s1, hs, hd⟩ := d16
  by_cases f0 : hI g 93 N = 0
  · rw [if_pos f0] at hd
    have hv : hI g 92 N = 0 ∨ hI g 92 N = 1 := by
      rcases h01 with h | h | h
      · exact Or.inl h
      · exact Or.inr h
      · rw [f0] at h; exact absurd h (by decide)
    have hjs : hI g 92 N = s1 ↔ ¬ hI g 92 N = jv := by
      rcases hs with ⟨h1, h2⟩ | ⟨h1, h2⟩
      · have hj : jv = 0 := by
          rcases hc with ⟨_, h⟩ | ⟨h3, _⟩
          · exact h
          · rw [h1] at h3; exact absurd h3 (by decide)
        rw [h2, hj]
        rcases hv with h | h <;> rw [h] <;> decide
      · have hj : jv = 1 := by
          rcases hc with ⟨h3, _⟩ | ⟨_, h⟩
          · rw [h1] at h3; exact absurd h3 (by decide)
          · exact h
        rw [h2, hj]
        rcases hv with h | h <;> rw [h] <;> decide
    by_cases hj : hI g 92 N = jv
    · rw [if_neg (fun h => (hjs.mp h) hj)] at hd
      exact ⟨g, hd, Ch.rf, fun h => absurd f0 h, fun _ _ => rfl, fun _ h => absurd hj h⟩
    · rw [if_pos (hjs.mpr hj)] at hd
      exact ⟨_, hd, (Ch.rf.sI (by simp)).sI (by simp), fun h => absurd f0 h, fun _ h => absurd h hj, fun _ _ => ⟨by rw [hI_sI, if_neg (by omega), hI_sI, if_pos ⟨rfl, rfl⟩], by rw [hI_sI, if_pos ⟨rfl, rfl⟩]⟩⟩
  · rw [if_neg f0] at hd
    exact ⟨g, hd, Ch.rf, fun _ => rfl, fun h => absurd h f0, fun h => absurd h f0⟩
end WK
section RNM
variable {cd ar : Nat → Int32}
theorem RunM.ext {cd2 ar2 : Nat → Int32} {a b : Nat} {D : Dmn} (x : RunM cd ar a b D) (h : ∀ k, a ≤ k → k < b → cd2 k = cd k ∧ ar2 k = ar k) : RunM cd2 ar2 a b D :=
  ⟨x.1, fun g o N to f p1 => x.2 g o N to f (fun k u1 u2 => by rw [(p1 k u1 u2).1, (p1 k u1 u2).2]; exact h k u1 u2)⟩
theorem RunM.num {a : Nat} (ha : a < 200) (h0 : cd a = 0) : RunM cd ar a (a + 1) (fun _ => some (ar a)) := by
  refine ⟨⟨by omega, by omega⟩, fun g o N to f p1 hk h1 h2 h3 h4 h5 => ?_⟩
  obtain ⟨f, rfl⟩ : ∃ q, f = q + 1 := ⟨f - 1, by omega⟩
  obtain ⟨q1, q2⟩ := p1 a (Nat.le_refl _) (by omega)
  refine ⟨sI (sI g 93 N 0) 92 N (ar a), (Ch.rf.sI (by simp)).sI (by simp), fun q hq => ⟨by rw [hI_sI, if_neg (by omega), hI_sI, if_neg (by omega)], by rw [hI_sI, if_neg (by omega), hI_sI, if_neg (by omega)]⟩, ?_, (fun h => by cases h), fun v hv => ⟨by rw [hI_sI, if_neg (by omega), hI_sI, if_pos ⟨rfl, rfl⟩], by rw [hI_sI, if_pos ⟨rfl, rfl⟩]; exact Option.some.inj hv⟩⟩
  rw [wk_num (by omega) h4 (by omega) (by rw [q1]; exact h0), q2, show f + 1 - (a + 1 - a) = f by omega]; rfl
theorem RunM.ltr {a : Nat} (ha : a < 200) (h0 : cd a = 1) (hc : lix (ar a) < 9) : RunM cd ar a (a + 1) (fun e => some (e (lix (ar a)))) := by
  refine ⟨⟨by omega, by omega⟩, fun g o N to f p1 hk h1 h2 h3 h4 h5 => ?_⟩
  obtain ⟨f, rfl⟩ : ∃ q, f = q + 1 := ⟨f - 1, by omega⟩
  obtain ⟨q1, q2⟩ := p1 a (Nat.le_refl _) (by omega)
  refine ⟨sI (sI g 93 N 0) 92 N (momM g (lix (ar a))), (Ch.rf.sI (by simp)).sI (by simp), fun q hq => ⟨by rw [hI_sI, if_neg (by omega), hI_sI, if_neg (by omega)], by rw [hI_sI, if_neg (by omega), hI_sI, if_neg (by omega)]⟩, ?_, (fun h => by cases h), fun v hv => ⟨by rw [hI_sI, if_neg (by omega), hI_sI, if_pos ⟨rfl, rfl⟩], by rw [hI_sI, if_pos ⟨rfl, rfl⟩]; exact Option.some.inj hv⟩⟩
  rw [wk_let (by omega) h4 (by omega) (by rw [q1]; exact h0) q2 hc hk, show f + 1 - (a + 1 - a) = f by omega]; rfl
def opD (c : Int32) (A B : Dmn) : Dmn := if isC c = true then cmD c A B else arD c A B
theorem opD_e (c : Int32) (A B : Dmn) (e : Mom) : opD c A B e = (match A e with
    | none => none
    | some x => match B e with
      | none => none
      | some y => opO c x y) := by
  unfold opD opO
  by_cases h : isC c = true
  · rw [if_pos h]; unfold cmD
    cases A e with
    | none => rfl
    | some x =>
      cases B e with
      | none => rfl
      | some y => simp only [if_pos h]
  · rw [if_neg h]; unfold arD
    cases A e with
    | none => rfl
    | some x =>
      cases B e with
      | none => rfl
      | some y => simp only [if_neg h]
theorem isOp_2 {c : Int32} (hc : isOp c) : ¬ c ≤ 2 := by
  rcases isOp_key hc with rfl | rfl | rfl | rfl | rfl | rfl | rfl | rfl <;> decide
theorem RunM.two {a b1 b2 : Nat} {A B : Dmn} (x : RunM cd ar a b1 A) (y : RunM cd ar b1 b2 B) {g : AHp} {o N to f : Nat} (p1 : ∀ k, a ≤ k → k < b2 → hI g 82 (o + k) = cd k ∧ hI g 83 (o + k) = ar k) (hk : okM g) (h1 : N + (b2 - a) ≤ 240) (h2 : o ≤ 200) (h3 : o + b2 ≤ to) (h4 : to ≤ 400) (h5 : b2 - a < f) :
    ∃ g2, Ch PW g g2 ∧ (∀ q, q < N → hI g2 92 q = hI g 92 q ∧ hI g2 93 q = hI g 93 q) ∧ m_X12_works_5 f (nI to) (nI N) (nI (o + a)) g = m_X12_works_5 (f - (b2 - a)) (nI to) (nI (N + 2)) (nI (o + b2)) g2 ∧
      ((A (momM g) = none → hI g2 93 N = 1) ∧ ∀ v, A (momM g) = some v → hI g2 93 N = 0 ∧ hI g2 92 N = v) ∧ ((B (momM g) = none → hI g2 93 (N + 1) = 1) ∧ ∀ v, B (momM g) = some v → hI g2 93 (N + 1) = 0 ∧ hI g2 92 (N + 1) = v) := by
  obtain ⟨⟨x1, x2⟩, xr⟩ := x
  obtain ⟨⟨y1, y2⟩, yr⟩ := y
  obtain ⟨g1, c1, k1, e1, n1, s1⟩ := xr g o N to f (fun k u1 u2 => p1 k u1 (by omega)) hk (by omega) h2 (by omega) h4 (by omega)
  obtain ⟨g2, c2, k2, e2, n2, s2⟩ := yr g1 o (N + 1) to (f - (b1 - a)) (fun k u1 u2 => by rw [c1.i rfl, c1.i rfl]; exact p1 k (by omega) u2) (okM_ch c1 hk) (by omega) h2 h3 h4 (by omega)
  rw [momM_ch c1] at n2 s2
  refine ⟨g2, c1.trans c2, fun q hq => ⟨by rw [(k2 q (by omega)).1, (k1 q hq).1], by rw [(k2 q (by omega)).2, (k1 q hq).2]⟩, by rw [e1, e2, show f - (b1 - a) - (b2 - b1) = f - (b2 - a) by omega], ⟨fun h => by rw [(k2 N (by omega)).2]; exact n1 h, fun v hv => by rw [(k2 N (by omega)).1, (k2 N (by omega)).2]; exact s1 v hv⟩, n2, s2⟩
theorem RunM.op {a b1 b2 : Nat} {A B : Dmn} {c : Int32} (hc : isOp c) (x : RunM cd ar a b1 A) (y : RunM cd ar b1 b2 B) (hb : b2 < 200) (he : cd b2 = c) : RunM cd ar a (b2 + 1) (opD c A B) := by
  have hx := x.1
  have hy := y.1
  refine ⟨⟨by omega, by omega⟩, fun g o N to f p1 hk h1 h2 h3 h4 h5 => ?_⟩
  obtain ⟨g2, c2, k2, e2, ⟨nA, sA⟩, nB, sB⟩ := RunM.two x y (g := g) (o := o) (N := N) (to := to) (f := f) (fun k u1 u2 => p1 k u1 (by omega)) hk (by omega) h2 (by omega) h4 (by omega)
  obtain ⟨f2, hf2⟩ : ∃ q, f - (b2 - a) = q + 1 := ⟨f - (b2 - a) - 1, by omega⟩
  obtain ⟨g3, e3, c3, n3, s3⟩ := doesM hc (N := N) (by omega) g2
  have st := wk_op (g := g2) (to := to) (i := o + b2) (N := N) (f := f2) (isOp_2 hc) (by omega) h4 (by omega) (by rw [c2.i rfl, (p1 b2 (by omega) (by omega)).1, he])
  refine ⟨g3, c2.trans (pwn_pw c3), fun q hq => ?_, ?_, ?_⟩
  · have u : PWn N 92 q = false ∧ PWn N 93 q = false := by
      simp only [Bool.and_eq_false_iff, Bool.or_eq_false_iff, beq_eq_false_iff_ne]; omega
    rw [c3.i u.1, c3.i u.2]; exact k2 q hq
  · rw [e2, hf2, st, e3, bd_some, show f - (b2 + 1 - a) = f2 by omega]; rfl
  · rw [opD_e]
    have one0 : ¬ ((1 : Int32) = 0) := one_ne
    cases hA : A (momM g) with
    | none =>
      refine ⟨fun _ => n3 ?_, fun v hv => by cases hv⟩
      unfold flO
      rw [if_neg (fun h => one0 (by rw [← nA hA]; exact h.1))]
    | some va =>
      cases hB : B (momM g) with
      | none =>
        refine ⟨fun _ => n3 ?_, fun v hv => by cases hv⟩
        unfold flO
        rw [if_neg (fun h => one0 (by rw [← nB hB]; exact h.2))]
      | some vb =>
        obtain ⟨a1, a2⟩ := sA va hA
        obtain ⟨b1', b2'⟩ := sB vb hB
        have : flO c (hI g2 93 N) (hI g2 93 (N + 1)) (hI g2 92 N) (hI g2 92 (N + 1)) = opO c va vb := by
          unfold flO
          rw [if_pos ⟨a1, b1'⟩, a2, b2']
        rw [this] at n3 s3
        exact ⟨n3, s3⟩
theorem RunM.jn {a b1 b2 : Nat} {A B : Dmn} {c jv : Int32} (hc : (c = 38 ∧ jv = 0) ∨ (c = 124 ∧ jv = 1)) (hA : bD A) (x : RunM cd ar a b1 A) (y : RunM cd ar b1 b2 B) (hb : b2 < 200) (he : cd b2 = c) : RunM cd ar a (b2 + 1) (jD jv A B) := by
  have hx := x.1
  have hy := y.1
  refine ⟨⟨by omega, by omega⟩, fun g o N to f p1 hk h1 h2 h3 h4 h5 => ?_⟩
  obtain ⟨g2, c2, k2, e2, ⟨nA, sA⟩, nB, sB⟩ := RunM.two x y (g := g) (o := o) (N := N) (to := to) (f := f) (fun k u1 u2 => p1 k u1 (by omega)) hk (by omega) h2 (by omega) h4 (by omega)
  obtain ⟨f2, hf2⟩ : ∃ q, f - (b2 - a) = q + 1 := ⟨f - (b2 - a) - 1, by omega⟩
  have h01 : hI g2 92 N = 0 ∨ hI g2 92 N = 1 ∨ hI g2 93 N = 1 := by
    cases hAe : A (momM g) with
    | none => exact Or.inr (Or.inr (nA hAe))
    | some va =>
      rw [(sA va hAe).2]
      rcases hA _ va hAe with h | h
      · exact Or.inl h
      · exact Or.inr (Or.inl h)
  have hBf : hI g2 93 (N + 1) = 0 ∨ hI g2 93 (N + 1) = 1 := by
    cases hBe : B (momM g) with
    | none => exact Or.inr (nB hBe)
    | some vb => exact Or.inl (sB vb hBe).1
  have c2' : ¬ c ≤ 2 := by rcases hc with ⟨rfl, _⟩ | ⟨rfl, _⟩ <;> decide
  obtain ⟨g3, e3, c3, z1, z2, z3⟩ := doesJ (g := g2) (N := N) hc (by omega) h01 hBf
  have st := wk_op (g := g2) (to := to) (i := o + b2) (N := N) (f := f2) c2' (by omega) h4 (by omega) (by rw [c2.i rfl, (p1 b2 (by omega) (by omega)).1, he])
  refine ⟨g3, c2.trans (pwn_pw c3), fun q hq => ?_, ?_, ?_⟩
  · have u : PWn N 92 q = false ∧ PWn N 93 q = false := by
      simp only [Bool.and_eq_false_iff, Bool.or_eq_false_iff, beq_eq_false_iff_ne]; omega
    rw [c3.i u.1, c3.i u.2]; exact k2 q hq
  · rw [e2, hf2, st, e3, bd_some, show f - (b2 + 1 - a) = f2 by omega]; rfl
  · unfold jD
    cases hAe : A (momM g) with
    | none =>
      have h93 := nA hAe
      have hg : g3 = g2 := z1 (by rw [h93]; exact one_ne)
      rw [hg]
      exact ⟨fun _ => h93, fun v hv => by cases hv⟩
    | some va =>
      obtain ⟨a1, a2⟩ := sA va hAe
      simp only []
      by_cases hj : va = jv
      · have hg : g3 = g2 := z2 a1 (by rw [a2]; exact hj)
        rw [if_pos hj, hg]
        exact ⟨(fun h => by cases h), fun v hv => ⟨a1, by rw [a2]; exact Option.some.inj hv⟩⟩
      · obtain ⟨w1, w2⟩ := z3 a1 (by rw [a2]; exact hj)
        rw [if_neg hj, w1, w2]
        exact ⟨nB, sB⟩
theorem RunM.nt {a b : Nat} {A : Dmn} (x : RunM cd ar a b A) (hb : b < 200) (he : cd b = 2) : RunM cd ar a (b + 1) (ntD A) := by
  obtain ⟨⟨x1, x2⟩, xr⟩ := x
  refine ⟨⟨by omega, by omega⟩, fun g o N to f p1 hk h1 h2 h3 h4 h5 => ?_⟩
  obtain ⟨g1, c1, k1, e1, n1, s1⟩ := xr g o N to f (fun k u1 u2 => p1 k u1 (by omega)) hk (by omega) h2 (by omega) h4 (by omega)
  obtain ⟨f2, hf2⟩ : ∃ q, f - (b - a) = q + 1 := ⟨f - (b - a) - 1, by omega⟩
  have st := wk_nt (g := g1) (to := to) (i := o + b) (N := N) (f := f2) (by omega) h4 (by omega) (by rw [c1.i rfl, (p1 b (by omega) (by omega)).1, he])
  refine ⟨sI g1 92 N (1 - hI g1 92 N), c1.sI (by simp), fun q hq => ⟨by rw [hI_sI, if_neg (by omega)]; exact (k1 q hq).1, by rw [hI_sI, if_neg (by omega)]; exact (k1 q hq).2⟩, ?_, ?_, ?_⟩
  · rw [e1, hf2, st, show f - (b + 1 - a) = f2 by omega]; rfl
  · unfold ntD
    intro h
    cases hA : A (momM g) with
    | none => rw [hI_sI, if_neg (by omega)]; exact n1 hA
    | some v => rw [hA] at h; cases h
  · unfold ntD
    intro v hv
    cases hA : A (momM g) with
    | none => rw [hA] at hv; cases hv
    | some w =>
      rw [hA] at hv
      obtain ⟨q1, q2⟩ := s1 w hA
      exact ⟨by rw [hI_sI, if_neg (by omega)]; exact q1, by rw [hI_sI, if_pos ⟨rfl, rfl⟩, q2]; exact Option.some.inj hv⟩
/-- as the law is asked for it -/
theorem RunM.seg {a b : Nat} {D : Dmn} (x : RunM cd ar a b D) {h : AHp} {w : Nat} (hw : w ≤ 1) (hc : ∀ k, a ≤ k → k < b → hI h 82 (200 * w + k) = cd k ∧ hI h 83 (200 * w + k) = ar k) : SegM h w (nI (200 * w + a)) (nI (200 * w + b)) D := by
  intro g q1 q2 hk
  have hx := x.1
  obtain ⟨g1, c1, k1, e1, n1, s1⟩ := x.2 g (200 * w) 0 (200 * w + b) FU (fun k u1 u2 => by rw [q1 _ (by omega) (by omega), q2 _ (by omega) (by omega)]; exact hc k u1 u2) hk (by omega) (by omega) (Nat.le_refl _) (by omega) (by unfold FU; omega)
  refine ⟨g1, ?_, c1, fun hn => by rw [n1 hn]; exact one_ne, s1⟩
  unfold m_X12_works
  obtain ⟨f, hf⟩ : ∃ q, FU - (b - a) = q + 1 := ⟨FU - (b - a) - 1, by unfold FU; omega⟩
  rw [show m_X12_works_5 FU (nI (200 * w + b)) 0 (nI (200 * w + a)) g = _ from e1, hf, m_X12_works_5, if_pos (nI_le (Nat.le_refl _) (by omega))]
end RNM
