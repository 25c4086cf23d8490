/-! putting steps together -/
section RUN
variable {j : Nat} {cd : Nat → Int32} {cst : Nat → Option Int32}
theorem PreR.sub {a b lo hi a2 b2 lo2 hi2 : Nat} {g : AHp} {e : Mom} (x : PreR j cd cst a b lo hi g e) (h1 : a ≤ a2) (h2 : b2 ≤ b) (h3 : lo ≤ lo2) (h4 : hi2 ≤ hi) : PreR j cd cst a2 b2 lo2 hi2 g e :=
  ⟨fun k q1 q2 => x.1 k (by omega) (by omega), fun q v q1 q2 q3 => x.2.1 q v (by omega) (by omega) q3, x.2.2⟩
theorem KeepR.code {lo hi : Nat} {g g1 : AHp} (k : KeepR j cst lo hi g g1) (i : Nat) : hI g1 (j + 1) i = hI g (j + 1) i := k.1.i (by simp)
theorem PreR.keep {a b lo hi lo2 hi2 : Nat} {g g1 : AHp} {e : Mom} (x : PreR j cd cst a b lo hi g e) (k : KeepR j cst lo2 hi2 g g1) (h9 : 9 ≤ lo2) : PreR j cd cst a b lo hi g1 e :=
  ⟨fun i q1 q2 => by rw [k.code]; exact x.1 i q1 q2, fun q v q1 q2 q3 => by rw [k.2 q (Or.inr (Or.inr ⟨v, q3⟩))]; exact x.2.1 q v q1 q2 q3, fun q hq => by rw [k.2 q (Or.inl (by omega))]; exact x.2.2 q hq⟩
theorem KeepR.rf {lo hi : Nat} {g : AHp} : KeepR j cst lo hi g g := ⟨Ch.rf, fun _ _ => rfl⟩
theorem KeepR.mono {lo hi lo2 hi2 : Nat} {g g1 : AHp} (k : KeepR j cst lo hi g g1) (h1 : lo2 ≤ lo) (h2 : hi ≤ hi2) : KeepR j cst lo2 hi2 g g1 := ⟨k.1, fun q h => k.2 q (by
  rcases h with h | h | h
  · exact Or.inl (by omega)
  · exact Or.inr (Or.inl (by omega))
  · exact Or.inr (Or.inr h))⟩
theorem KeepR.trans {lo hi : Nat} {g g1 g2 : AHp} (k : KeepR j cst lo hi g g1) (k2 : KeepR j cst lo hi g1 g2) : KeepR j cst lo hi g g2 := ⟨k.1.trans k2.1, fun q h => (k2.2 q h).trans (k.2 q h)⟩
theorem KeepR.set {lo hi t : Nat} {g : AHp} (v : Int32) (h1 : lo ≤ t) (h2 : t < hi) (h3 : cst t = none) : KeepR j cst lo hi g (sI g (j + 2) t v) := ⟨Ch.rf.sI (by simp), fun q h => by
  rw [hI_sI, if_neg]
  rintro ⟨_, rfl⟩
  rcases h with h | h | ⟨w, h⟩
  · omega
  · omega
  · rw [h3] at h; cases h⟩
theorem RunE.ext {cd2 : Nat → Int32} {cst2 : Nat → Option Int32} {a b lo hi r : Nat} {D : Dmn} (x : RunE j cd cst a b lo hi r D) (hc : ∀ k, a ≤ k → k < b → cd2 k = cd k) (hs : ∀ q, lo ≤ q → q < hi → cst2 q = cst q) : RunE j cd2 cst2 a b lo hi r D := by
  refine ⟨x.1, fun g e to i f x3 pre h1 h2 h3 h4 => ?_⟩
  obtain ⟨g1, k1, r1⟩ := x.2 g e to i f x3 ⟨fun k q1 q2 => by rw [pre.1 k q1 q2, hc k q1 q2], fun q v q1 q2 q3 => pre.2.1 q v q1 q2 (by rw [hs q q1 q2]; exact q3), pre.2.2⟩ h1 h2 h3 h4
  refine ⟨g1, ⟨k1.1, fun q h => k1.2 q ?_⟩, r1⟩
  by_cases hq : lo ≤ q ∧ q < hi
  · rcases h with h | h | ⟨v, h⟩
    · omega
    · omega
    · exact Or.inr (Or.inr ⟨v, by rw [← hs q hq.1 hq.2]; exact h⟩)
  · rcases Nat.lt_or_ge q lo with h5 | h5
    · exact Or.inl h5
    · exact Or.inr (Or.inl (by omega))
theorem RunB.ext {cd2 : Nat → Int32} {cst2 : Nat → Option Int32} {a b lo hi : Nat} {D : Dmn} (x : RunB j cd cst a b lo hi D) (hc : ∀ k, a ≤ k → k < b → cd2 k = cd k) (hs : ∀ q, lo ≤ q → q < hi → cst2 q = cst q) : RunB j cd2 cst2 a b lo hi D := by
  refine ⟨x.1, fun g e to i f x3 pre h1 h2 h3 h4 => ?_⟩
  obtain ⟨g1, k1, r1⟩ := x.2 g e to i f x3 ⟨fun k q1 q2 => by rw [pre.1 k q1 q2, hc k q1 q2], fun q v q1 q2 q3 => pre.2.1 q v q1 q2 (by rw [hs q q1 q2]; exact q3), pre.2.2⟩ h1 h2 h3 h4
  refine ⟨g1, ⟨k1.1, fun q h => k1.2 q ?_⟩, r1⟩
  by_cases hq : lo ≤ q ∧ q < hi
  · rcases h with h | h | ⟨v, h⟩
    · omega
    · omega
    · exact Or.inr (Or.inr ⟨v, by rw [← hs q hq.1 hq.2]; exact h⟩)
  · rcases Nat.lt_or_ge q lo with h5 | h5
    · exact Or.inl h5
    · exact Or.inr (Or.inl (by omega))
theorem RunE.ltr {a lo r : Nat} (ha : a ≤ 256) (h9 : 9 ≤ lo) (hlo : lo ≤ 256) (hr : r < 9) : RunE j cd cst a a lo lo r (fun e => some (e r)) :=
  ⟨⟨Nat.le_refl _, ha, h9, Nat.le_refl _, hlo, by omega⟩, fun g e to i f x3 pre _ _ _ _ => ⟨g, KeepR.rf, Or.inr ⟨e r, f, i, rfl, pre.2.2 r hr, by omega, by omega, rfl⟩⟩⟩
theorem RunE.num {a lo : Nat} {v : Int32} (ha : a ≤ 256) (h9 : 9 ≤ lo) (hlo : lo < 256) (hv : cst lo = some v) : RunE j cd cst a a lo (lo + 1) lo (fun _ => some v) :=
  ⟨⟨Nat.le_refl _, ha, h9, by omega, by omega, by omega⟩, fun g e to i f x3 pre _ _ _ _ => ⟨g, KeepR.rf, Or.inr ⟨v, f, i, rfl, pre.2.1 lo v (Nat.le_refl _) (by omega) hv, by omega, by omega, rfl⟩⟩⟩
theorem RunE.ar {a b1 b2 t0 t1 t2 r1 r2 : Nat} {A B : Dmn} {c : Int32} (hc : isT c = true ∨ isP c = true) (x : RunE j cd cst a b1 t0 t1 r1 A) (y : RunE j cd cst b1 b2 t1 t2 r2 B) (hb : b2 < 256) (ht : t2 < 256) (he : cd b2 = pkc (opA c) r1 r2 t2) (hn : cst t2 = none) : RunE j cd cst a (b2 + 1) t0 (t2 + 1) t2 (arD c A B) := by
  obtain ⟨⟨x1, x2, x3, x4, x5, x6⟩, xr⟩ := x
  obtain ⟨⟨y1, y2, y3, y4, y5, y6⟩, yr⟩ := y
  refine ⟨⟨by omega, by omega, x3, by omega, by omega, by omega⟩, fun g e to i f z pre h1 h2 h3 h4 => ?_⟩
  obtain ⟨g1, k1, r1'⟩ := xr g e to i f z (pre.sub (by omega) (by omega) (by omega) (by omega)) (by omega) h2 (by omega) (by omega)
  have k1' : KeepR j cst t0 (t2 + 1) g g1 := k1.mono (by omega) (by omega)
  rcases r1' with ⟨hA, e1⟩ | ⟨v1, f1, i1, hA, hv1, hf1, hi1, e1⟩
  · exact ⟨g1, k1', Or.inl ⟨by unfold arD; rw [hA], e1⟩⟩
  obtain ⟨g2, k2, r2'⟩ := yr g1 e to i1 f1 z ((pre.keep k1 x3).sub (by omega) (by omega) (by omega) (by omega)) (by omega) h2 (by omega) (by omega)
  have k2' : KeepR j cst t0 (t2 + 1) g g2 := k1'.trans (k2.mono (by omega) (by omega))
  rcases r2' with ⟨hB, e2⟩ | ⟨v2, f2, i2, hB, hv2, hf2, hi2, e2⟩
  · exact ⟨g2, k2', Or.inl ⟨by unfold arD; rw [hA, hB], by rw [e1, e2]⟩⟩
  have hr1 : hI g2 (j + 2) r1 = v1 := by rw [k2.2 r1 (Or.inl x6)]; exact hv1
  obtain ⟨f3, rfl⟩ : ∃ q, f2 = q + 1 := ⟨f2 - 1, by omega⟩
  have st := step_ar (j := j) (g := g2) (to := to) (k := b2) (i := i2) (f := f3) (x3 := z) (x := r1) (y := r2) (r := t2) hc (by omega) (by omega) ht (by omega) h2 (by omega) (by rw [k2.code, k1.code, pre.1 b2 (by omega) (by omega), he])
  rw [hr1, hv2] at st
  cases ho : arO c v1 v2 with
  | none =>
    rw [ho] at st
    exact ⟨g2, k2', Or.inl ⟨by unfold arD; rw [hA, hB]; exact ho, by rw [e1, e2, st]⟩⟩
  | some v =>
    rw [ho] at st
    exact ⟨sI g2 (j + 2) t2 v, k2'.trans (KeepR.set v (by omega) (by omega) hn), Or.inr ⟨v, f3, i2 + 1, by unfold arD; rw [hA, hB]; exact ho, by rw [hI_sI, if_pos ⟨rfl, rfl⟩], by omega, by omega, by rw [e1, e2, st]⟩⟩
theorem RunB.cm {a b1 b2 t0 t1 t2 r1 r2 : Nat} {A B : Dmn} {c : Int32} (hc : isC c = true) (x : RunE j cd cst a b1 t0 t1 r1 A) (y : RunE j cd cst b1 b2 t1 t2 r2 B) (hb : b2 < 256) (ht : t2 < 256) (he : cd b2 = pkc (opK c) r1 r2 t2) : RunB j cd cst a (b2 + 1) t0 (t2 + 1) (cmD c A B) := by
  obtain ⟨⟨x1, x2, x3, x4, x5, x6⟩, xr⟩ := x
  obtain ⟨⟨y1, y2, y3, y4, y5, y6⟩, yr⟩ := y
  refine ⟨⟨by omega, by omega, x3, by omega, by omega⟩, fun g e to i f z pre h1 h2 h3 h4 => ?_⟩
  obtain ⟨g1, k1, r1'⟩ := xr g e to i f z (pre.sub (by omega) (by omega) (by omega) (by omega)) (by omega) h2 (by omega) (by omega)
  have k1' : KeepR j cst t0 (t2 + 1) g g1 := k1.mono (by omega) (by omega)
  rcases r1' with ⟨hA, e1⟩ | ⟨v1, f1, i1, hA, hv1, hf1, hi1, e1⟩
  · exact ⟨g1, k1', Or.inl ⟨by unfold cmD; rw [hA], e1⟩⟩
  obtain ⟨g2, k2, r2'⟩ := yr g1 e to i1 f1 z ((pre.keep k1 x3).sub (by omega) (by omega) (by omega) (by omega)) (by omega) h2 (by omega) (by omega)
  have k2' : KeepR j cst t0 (t2 + 1) g g2 := k1'.trans (k2.mono (by omega) (by omega))
  rcases r2' with ⟨hB, e2⟩ | ⟨v2, f2, i2, hB, hv2, hf2, hi2, e2⟩
  · exact ⟨g2, k2', Or.inl ⟨by unfold cmD; rw [hA, hB], by rw [e1, e2]⟩⟩
  have hr1 : hI g2 (j + 2) r1 = v1 := by rw [k2.2 r1 (Or.inl x6)]; exact hv1
  obtain ⟨f3, rfl⟩ : ∃ q, f2 = q + 1 := ⟨f2 - 1, by omega⟩
  have st := step_cm (j := j) (g := g2) (to := to) (k := b2) (i := i2) (f := f3) (x3 := z) (x := r1) (y := r2) (r := t2) hc (by omega) (by omega) ht (by omega) h2 (by omega) (by rw [k2.code, k1.code, pre.1 b2 (by omega) (by omega), he])
  rw [hr1, hv2] at st
  exact ⟨g2, k2', Or.inr ⟨cmO c v1 v2, f3, i2 + 1, by unfold cmD; rw [hA, hB], by omega, by omega, by rw [e1, e2, st]⟩⟩
theorem RunB.nt {a b lo hi : Nat} {A : Dmn} (hA : bD A) (x : RunB j cd cst a b lo hi A) (hb : b < 256) (ht : hi < 256) (he : cd b = pkc 9 0 0 hi) : RunB j cd cst a (b + 1) lo (hi + 1) (ntD A) := by
  obtain ⟨⟨x1, x2, x3, x4, x5⟩, xr⟩ := x
  refine ⟨⟨by omega, by omega, x3, by omega, by omega⟩, fun g e to i f z pre h1 h2 h3 h4 => ?_⟩
  obtain ⟨g1, k1, r1'⟩ := xr g e to i f z (pre.sub (by omega) (by omega) (by omega) (by omega)) (by omega) h2 (by omega) (by omega)
  have k1' : KeepR j cst lo (hi + 1) g g1 := k1.mono (by omega) (by omega)
  rcases r1' with ⟨hn, e1⟩ | ⟨v, f1, i1, hv, hf1, hi1, e1⟩
  · exact ⟨g1, k1', Or.inl ⟨by unfold ntD; rw [hn], e1⟩⟩
  obtain ⟨f3, rfl⟩ : ∃ q, f1 = q + 1 := ⟨f1 - 1, by omega⟩
  have st := step_nt (j := j) (g := g1) (to := to) (k := b) (i := i1) (f := f3) (x3 := v) (r := hi) ht (by omega) h2 (by omega) (by rw [k1.code, pre.1 b (by omega) (by omega), he]) (hA e v hv)
  exact ⟨g1, k1', Or.inr ⟨1 - v, f3, i1 + 1, by unfold ntD; rw [hv], by omega, by omega, by rw [e1, st]⟩⟩
/-- steps with jumps that have not landed -/
def OpB (j : Nat) (cd : Nat → Int32) (cst : Nat → Option Int32) (a b lo hi : Nat) (J : List Nat) (jv : Int32) (oj : Nat) (A : Dmn) : Prop := (a ≤ b ∧ b ≤ 256 ∧ 9 ≤ lo ∧ lo ≤ hi ∧ hi ≤ 256 ∧ J.length + a ≤ b ∧ ∀ k ∈ J, a ≤ k ∧ k < b) ∧
  ∀ (g : AHp) (e : Mom) (to i f L : Nat) (x3 : Int32), (∀ k, a ≤ k → k < b → k ∉ J → hI g (j + 1) k = cd k) → (∀ k ∈ J, hI g (j + 1) k = jmc oj L) → (∀ q v, lo ≤ q → q < hi → cst q = some v → hI g (j + 2) q = v) → (∀ q, q < 9 → hI g (j + 2) q = e q) → b ≤ L → L ≤ to → to ≤ 256 → i + (b - a) ≤ 256 → b - a < f →
    ∃ g1, KeepR j cst lo hi g g1 ∧ ((A e = none ∧ m_X2_run_8 j f (nI to) x3 (nI a) (nI i) g = some (-1, g1)) ∨
      ∃ v f' i' pc, A e = some v ∧ (pc = b ∨ (pc = L ∧ v = jv)) ∧ f ≤ f' + (b - a) ∧ i' ≤ i + (b - a) ∧ m_X2_run_8 j f (nI to) x3 (nI a) (nI i) g = m_X2_run_8 j f' (nI to) v (nI pc) (nI i') g1)
theorem OpB.nil {a b lo hi : Nat} {jv : Int32} {oj : Nat} {A : Dmn} (x : RunB j cd cst a b lo hi A) : OpB j cd cst a b lo hi [] jv oj A := by
  obtain ⟨⟨x1, x2, x3, x4, x5⟩, xr⟩ := x
  refine ⟨⟨x1, x2, x3, x4, x5, by simpa using x1, fun k hk => by cases hk⟩, fun g e to i f L z p1 p2 p3 p4 h1 h2 h3 h4 h5 => ?_⟩
  obtain ⟨g1, k1, r1⟩ := xr g e to i f z ⟨fun k q1 q2 => p1 k q1 q2 (by simp), p3, p4⟩ (by omega) h3 h4 h5
  refine ⟨g1, k1, ?_⟩
  rcases r1 with h | ⟨v, f1, i1, hv, hf1, hi1, e1⟩
  · exact Or.inl h
  · exact Or.inr ⟨v, f1, i1, b, hv, Or.inl rfl, hf1, hi1, e1⟩
theorem OpB.ext {cd2 : Nat → Int32} {cst2 : Nat → Option Int32} {a b lo hi : Nat} {J : List Nat} {jv : Int32} {oj : Nat} {A : Dmn} (x : OpB j cd cst a b lo hi J jv oj A) (hc : ∀ k, a ≤ k → k < b → cd2 k = cd k) (hs : ∀ q, lo ≤ q → q < hi → cst2 q = cst q) : OpB j cd2 cst2 a b lo hi J jv oj A := by
  refine ⟨x.1, fun g e to i f L z p1 p2 p3 p4 h1 h2 h3 h4 h5 => ?_⟩
  obtain ⟨g1, k1, r1⟩ := x.2 g e to i f L z (fun k q1 q2 q3 => by rw [p1 k q1 q2 q3, hc k q1 q2]) p2 (fun q v q1 q2 q3 => p3 q v q1 q2 (by rw [hs q q1 q2]; exact q3)) p4 h1 h2 h3 h4 h5
  refine ⟨g1, ⟨k1.1, fun q h => k1.2 q ?_⟩, r1⟩
  by_cases hq : lo ≤ q ∧ q < hi
  · rcases h with h | h | ⟨v, h⟩
    · omega
    · omega
    · exact Or.inr (Or.inr ⟨v, by rw [← hs q hq.1 hq.2]; exact h⟩)
  · rcases Nat.lt_or_ge q lo with h5 | h5
    · exact Or.inl h5
    · exact Or.inr (Or.inl (by omega))
theorem OpB.add {a b b2 lo h1 h2 : Nat} {J : List Nat} {jv : Int32} {oj : Nat} (hj : (jv = 1 ∧ oj = 10) ∨ (jv = 0 ∧ oj = 11)) {A B : Dmn} (hA : bD A) (x : OpB j cd cst a b lo h1 J jv oj A) (y : RunB j cd cst (b + 1) b2 h1 h2 B) : OpB j cd cst a b2 lo h2 (b :: J) jv oj (jD jv A B) := by
  obtain ⟨⟨x1, x2, x3, x4, x5, x6, x7⟩, xr⟩ := x
  obtain ⟨⟨y1, y2, y3, y4, y5⟩, yr⟩ := y
  refine ⟨⟨by omega, by omega, x3, by omega, by omega, by rw [List.length_cons]; omega, fun k hk => ?_⟩, fun g e to i f L z p1 p2 p3 p4 q1 q2 q3 q4 q5 => ?_⟩
  · rcases List.mem_cons.mp hk with hkb | hk
    · omega
    · have := x7 k hk; omega
  obtain ⟨g1, k1, r1⟩ := xr g e to i f L z (fun k u1 u2 u3 => p1 k u1 (by omega) (by
    intro hm
    rcases List.mem_cons.mp hm with hkb | hm
    · omega
    · exact u3 hm)) (fun k hk => p2 k (List.mem_cons_of_mem _ hk)) (fun q v u1 u2 u3 => p3 q v u1 (by omega) u3) p4 (by omega) q2 q3 (by omega) (by omega)
  have k1' : KeepR j cst lo h2 g g1 := k1.mono (by omega) (by omega)
  rcases r1 with ⟨hn, e1⟩ | ⟨v, f1, i1, pc, hv, hpc, hf1, hi1, e1⟩
  · exact ⟨g1, k1', Or.inl ⟨by unfold jD; rw [hn], e1⟩⟩
  rcases hpc with hpc | ⟨hpc, hvj⟩
  rotate_left
  · exact ⟨g1, k1', Or.inr ⟨v, f1, i1, pc, by unfold jD; rw [hv]; simp only []; rw [if_pos hvj], Or.inr ⟨hpc, hvj⟩, by omega, by omega, e1⟩⟩
  rw [hpc] at e1
  obtain ⟨f3, rfl⟩ : ∃ q, f1 = q + 1 := ⟨f1 - 1, by omega⟩
  have st := step_j (j := j) (g := g1) (to := to) (k := b) (i := i1) (f := f3) (x3 := v) (L := L) hj (by omega) (by omega) q3 (by omega) (by rw [k1.code]; exact p2 b List.mem_cons_self) (hA e v hv)
  by_cases hvj : v = jv
  · rw [if_pos hvj] at st
    exact ⟨g1, k1', Or.inr ⟨v, f3, i1 + 1, L, by unfold jD; rw [hv]; simp only []; rw [if_pos hvj], Or.inr ⟨rfl, hvj⟩, by omega, by omega, by rw [e1, st]⟩⟩
  · rw [if_neg hvj] at st
    obtain ⟨g2, k2, r2⟩ := yr g1 e to (i1 + 1) f3 v ⟨fun k u1 u2 => by
        rw [k1.code]
        exact p1 k (by omega) u2 (by
          intro hm
          rcases List.mem_cons.mp hm with hkb | hm
          · omega
          · have := x7 k hm; omega), fun q w u1 u2 u3 => by rw [k1.2 q (Or.inr (Or.inr ⟨w, u3⟩))]; exact p3 q w (by omega) u2 u3, fun q hq => by rw [k1.2 q (Or.inl (by omega))]; exact p4 q hq⟩ (by omega) q3 (by omega) (by omega)
    have k2' : KeepR j cst lo h2 g g2 := k1'.trans (k2.mono (by omega) (by omega))
    have hjd : jD jv A B e = B e := by unfold jD; rw [hv]; simp only []; rw [if_neg hvj]
    rcases r2 with ⟨hn, e2⟩ | ⟨w, f4, i4, hw, hf4, hi4, e2⟩
    · exact ⟨g2, k2', Or.inl ⟨by rw [hjd, hn], by rw [e1, st, e2]⟩⟩
    · exact ⟨g2, k2', Or.inr ⟨w, f4, i4, b2, by rw [hjd, hw], Or.inl rfl, by omega, by omega, by rw [e1, st, e2]⟩⟩
theorem OpB.land {cd2 : Nat → Int32} {a b lo hi : Nat} {J : List Nat} {jv : Int32} {oj : Nat} {A : Dmn} (x : OpB j cd cst a b lo hi J jv oj A) (hc : ∀ k, a ≤ k → k < b → k ∉ J → cd2 k = cd k) (hJ : ∀ k ∈ J, cd2 k = jmc oj b) : RunB j cd2 cst a b lo hi A := by
  obtain ⟨⟨x1, x2, x3, x4, x5, x6, x7⟩, xr⟩ := x
  refine ⟨⟨x1, x2, x3, x4, x5⟩, fun g e to i f z pre h1 h2 h3 h4 => ?_⟩
  obtain ⟨g1, k1, r1⟩ := xr g e to i f b z (fun k u1 u2 u3 => by rw [pre.1 k u1 u2, hc k u1 u2 u3]) (fun k hk => by
    have := x7 k hk
    rw [pre.1 k this.1 this.2, hJ k hk]) pre.2.1 pre.2.2 (Nat.le_refl _) h1 h2 h3 h4
  refine ⟨g1, k1, ?_⟩
  rcases r1 with h | ⟨v, f1, i1, pc, hv, hpc, hf1, hi1, e1⟩
  · exact Or.inl h
  · have hpb : pc = b := hpc.elim id (fun h => h.1)
    rw [hpb] at e1
    exact Or.inr ⟨v, f1, i1, hv, hf1, hi1, e1⟩
end RUN
