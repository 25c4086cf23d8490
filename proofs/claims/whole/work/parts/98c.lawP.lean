/-! the class's law while it is read -/
def LCx (j : Nat) (cst : Nat → Option Int32) (s t : Nat) (m : Int32) (g : AHp) : Prop := (hI g j 7 = nI s ∧ hI g j 8 = nI t ∧ hI g j 10 = m ∧ hM g 33 1 = j) ∧ (isLaw j ∧ 9 ≤ t) ∧ ∀ r v, cst r = some v → 9 ≤ r ∧ r < t ∧ hI g (j + 2) r = v
def Grow (j : Nat) (cst : Nat → Option Int32) (s t : Nat) (g : AHp) (cst1 : Nat → Option Int32) (s1 t1 : Nat) (g1 : AHp) : Prop := (s ≤ s1 ∧ t ≤ t1) ∧ (∀ q, q < t → cst1 q = cst q) ∧ ∀ k, k < s → hI g1 (j + 1) k = hI g (j + 1) k
/-- a fault stands, and the law's sizes are still in order -/
def XF (j : Nat) (F : Int32) (g : AHp) : Prop := (hI g 1 4 = F ∧ F.toInt < 0) ∧ (hM g 33 1 = j ∧ isLaw j) ∧ ∃ s t, (hI g j 7 = nI s ∧ s ≤ 256) ∧ hI g j 8 = nI t ∧ t ≤ 256
abbrev PLo (j : Nat) : Nat → Nat → Bool := fun k i => (k == j && (i == 7 || i == 8 || i == 10)) || k == j + 1 || k == j + 2
abbrev PLw (j : Nat) : Nat → Nat → Bool := fun k i => Pt k i || PLo j k i
theorem pt_lw {j : Nat} {g g1 : AHp} (c : Ch Pt g g1) : Ch (PLw j) g g1 := c.mono (fun k i hp => (Bool.or_eq_false_iff.mp hp).1)
theorem lo_lw {j : Nat} {g g1 : AHp} (c : Ch (PLo j) g g1) : Ch (PLw j) g g1 := c.mono (fun k i hp => (Bool.or_eq_false_iff.mp hp).2)
section LP
variable {j : Nat} {ty : Nat → Int32} {n p : Nat} {g g1 : AHp} {cst : Nat → Option Int32} {s t : Nat} {m F : Int32}
theorem pt_j (hj : isLaw j) (k i : Nat) (hk : j ≤ k) : Pt k i = false := by
  have := law_bounds hj
  simp only [Bool.and_eq_false_iff, beq_eq_false_iff_ne]; omega
theorem plo_t (hj : isLaw j) (k i : Nat) (hk : k ≤ 2) : PLo j k i = false := by
  have := law_bounds hj
  simp only [Bool.or_eq_false_iff, Bool.and_eq_false_iff, beq_eq_false_iff_ne]; omega
theorem plo_m (hj : isLaw j) : PLo j 33 1 = false := by
  rcases hj with rfl | rfl | rfl | rfl <;> decide
theorem TxC.lo (x : TxC ty n p g) (hj : isLaw j) (c : Ch (PLo j) g g1) : TxC ty n p g1 := x.ch c ⟨plo_t hj 1 2 (by omega), plo_t hj 1 3 (by omega), plo_t hj 1 4 (by omega)⟩ (fun i => plo_t hj 2 i (by omega))
theorem LCx.pt (x : LCx j cst s t m g) (c : Ch Pt g g1) : LCx j cst s t m g1 := by
  have hj := x.2.1.1
  obtain ⟨⟨x1, x2, x3, x4⟩, x5, x6⟩ := x
  refine ⟨⟨by rw [c.i (pt_j hj j 7 (by omega))]; exact x1, by rw [c.i (pt_j hj j 8 (by omega))]; exact x2, by rw [c.i (pt_j hj j 10 (by omega))]; exact x3, by rw [(c 33 1 rfl).2.2]; exact x4⟩, x5, fun r v h => ?_⟩
  rw [c.i (pt_j hj (j + 2) r (by omega))]; exact x6 r v h
theorem Grow.pt (hj : isLaw j) (c : Ch Pt g g1) : Grow j cst s t g cst s t g1 := ⟨⟨Nat.le_refl _, Nat.le_refl _⟩, fun _ _ => rfl, fun k _ => c.i (pt_j hj (j + 1) k (by omega))⟩
theorem Grow.trans {cst1 cst2 : Nat → Option Int32} {s1 t1 s2 t2 : Nat} {g2 : AHp} (x : Grow j cst s t g cst1 s1 t1 g1) (y : Grow j cst1 s1 t1 g1 cst2 s2 t2 g2) : Grow j cst s t g cst2 s2 t2 g2 :=
  ⟨⟨Nat.le_trans x.1.1 y.1.1, Nat.le_trans x.1.2 y.1.2⟩, fun q hq => (y.2.1 q (Nat.lt_of_lt_of_le hq x.1.2)).trans (x.2.1 q hq), fun k hk => (y.2.2 k (Nat.lt_of_lt_of_le hk x.1.1)).trans (x.2.2 k hk)⟩
theorem XF.of (x : LCx j cst s t m g) (hs : s ≤ 256) (ht : t ≤ 256) (h4 : hI g 1 4 = F) (hF : F.toInt < 0) : XF j F g := ⟨⟨h4, hF⟩, ⟨x.1.2.2.2, x.2.1.1⟩, s, t, ⟨x.1.1, hs⟩, x.1.2.1, ht⟩
theorem XF.pt (x : XF j F g) (c : Ch Pt g g1) (h4 : hI g1 1 4 = F) : XF j F g1 := by
  have hj := x.2.1.2
  obtain ⟨⟨x1, x2⟩, ⟨x3, x4⟩, s, t, ⟨x5, x6⟩, x7, x8⟩ := x
  exact ⟨⟨h4, x2⟩, ⟨by rw [(c 33 1 rfl).2.2]; exact x3, x4⟩, s, t, ⟨by rw [c.i (pt_j hj j 7 (by omega))]; exact x5, x6⟩, by rw [c.i (pt_j hj j 8 (by omega))]; exact x7, x8⟩
/-- a letter -/
theorem letterC (x : LCx j cst s t m g) {i : Nat} (hi : i < 9) : ∃ g1, m_X2_letter j (nI i) g = some (nI i, g1) ∧ LCx j cst s t (m ||| ((1 : Int32) <<< (nI i &&& 31))) g1 ∧ Ch (PLo j) g g1 ∧ ∀ k, hI g1 (j + 1) k = hI g (j + 1) k := by
  refine ⟨sI g j 10 (m ||| ((1 : Int32) <<< (nI i &&& 31))), ?_, ?_, Ch.rf.sI (by simp), fun k => by rw [hI_sI, if_neg (by omega)]⟩
  · unfold m_X2_letter; rw [lt_eq, x.1.2.2.1]
  · obtain ⟨⟨x1, x2, x3, x4⟩, x5, x6⟩ := x
    refine ⟨⟨by rw [hI_sI, if_neg (by omega)]; exact x1, by rw [hI_sI, if_neg (by omega)]; exact x2, by rw [hI_sI, if_pos ⟨rfl, rfl⟩], x4⟩, x5, fun r v h => ?_⟩
    rw [hI_sI, if_neg (by omega)]; exact x6 r v h
/-- a number -/
theorem constC (x : LCx j cst s t m g) (ht : t < 256) (v : Int32) : ∃ g1, m_X2_constant j v g = some (nI t, g1) ∧ LCx j (fun q => if q = t then some v else cst q) s (t + 1) m g1 ∧ Ch (PLo j) g g1 ∧ ∀ k, hI g1 (j + 1) k = hI g (j + 1) k := by
  refine ⟨sI (sI g (j + 2) t v) j 8 (nI (t + 1)), ?_, ?_, (Ch.rf.sI (by simp)).sI (by simp), fun k => by rw [hI_sI, if_neg (by omega), hI_sI, if_neg (by omega)]⟩
  · unfold m_X2_constant
    rw [x.1.2.1, lt_eq, if_neg (show ¬ 256 ≤ nI t from nI_ge (a := t) (b := 256) (by omega) (by omega)), gd_pos (inb_nI (by omega) (by omega)), nI_clamp (by omega), lt_eq, hI_sI, if_neg (by omega), x.1.2.1, nI_1, lt_eq]
  · obtain ⟨⟨x1, x2, x3, x4⟩, ⟨x5, x5'⟩, x6⟩ := x
    refine ⟨⟨by rw [hI_sI, if_neg (by omega), hI_sI, if_neg (by omega)]; exact x1, by rw [hI_sI, if_pos ⟨rfl, rfl⟩], by rw [hI_sI, if_neg (by omega), hI_sI, if_neg (by omega)]; exact x3, x4⟩, ⟨x5, by omega⟩, fun r w h => ?_⟩
    rw [hI_sI, if_neg (by omega), hI_sI]
    by_cases e : r = t
    · have h2 : (if r = t then some v else cst r) = some w := h
      rw [if_pos e] at h2
      rw [if_pos ⟨rfl, e⟩]
      exact ⟨by omega, by omega, Option.some.inj h2⟩
    · have h2 : (if r = t then some v else cst r) = some w := h
      rw [if_neg e] at h2
      rw [if_neg (fun z => e z.2)]
      have := x6 r w h2
      exact ⟨this.1, by omega, this.2.2⟩
/-- a step -/
theorem emitC (x : LCx j cst s t m g) (hs : s < 256) (ht : t < 256) {op a b : Nat} (ho : op < 16) (ha : a < 256) (hb : b < 256) : ∃ g1, m_X2_emit j (nI op) (nI a) (nI b) g = some (nI t, g1) ∧ LCx j cst (s + 1) (t + 1) m g1 ∧ Ch (PLo j) g g1 ∧ hI g1 (j + 1) s = pkc op a b t ∧ ∀ k, k ≠ s → hI g1 (j + 1) k = hI g (j + 1) k := by
  refine ⟨sI (sI (sI g (j + 1) s (pkc op a b t)) j 7 (nI (s + 1))) j 8 (nI (t + 1)), ?_, ?_, ((Ch.rf.sI (by simp)).sI (by simp)).sI (by simp), ?_, fun k hk => ?_⟩
  · unfold m_X2_emit
    rw [x.1.2.1, lt_eq, x.1.1, if_neg (show ¬ 256 ≤ nI s from nI_ge (a := s) (b := 256) (by omega) (by omega)), if_neg (show ¬ 256 ≤ nI t from nI_ge (a := t) (b := 256) (by omega) (by omega)), gd_pos (inb_nI (by omega) (by omega)), nI_clamp (by omega), pkc_mk ho ha hb ht, lt_eq, hI_sI, if_neg (by omega), x.1.1, nI_1, lt_eq, hI_sI, if_neg (by omega), hI_sI, if_neg (by omega), x.1.2.1, nI_1, lt_eq]
  · obtain ⟨⟨x1, x2, x3, x4⟩, ⟨x5, x5'⟩, x6⟩ := x
    refine ⟨⟨by rw [hI_sI, if_neg (by omega), hI_sI, if_pos ⟨rfl, rfl⟩], by rw [hI_sI, if_pos ⟨rfl, rfl⟩], by rw [hI_sI, if_neg (by omega), hI_sI, if_neg (by omega), hI_sI, if_neg (by omega)]; exact x3, x4⟩, ⟨x5, by omega⟩, fun r w h => ?_⟩
    rw [hI_sI, if_neg (by omega), hI_sI, if_neg (by omega), hI_sI, if_neg (by omega)]
    have := x6 r w h
    exact ⟨this.1, by omega, this.2.2⟩
  · rw [hI_sI, if_neg (by omega), hI_sI, if_neg (by omega), hI_sI, if_pos ⟨rfl, rfl⟩]
  · rw [hI_sI, if_neg (by omega), hI_sI, if_neg (by omega), hI_sI, if_neg (fun z => hk z.2)]
theorem fresh (x : LCx j cst s t m g) : cst t = none := by
  cases h : cst t with
  | none => rfl
  | some v => have := (x.2.2 t v h).2.1; omega
/-- where a chain of jumps goes on, one more than its place -/
def prv : List Nat → Nat
  | [] => 0
  | q :: _ => q + 1
def Chn (cd : Nat → Int32) (oj : Nat) : List Nat → Prop
  | [] => True
  | q :: t => cd q = jmc oj (prv t) ∧ (∀ k ∈ t, k < q) ∧ Chn cd oj t
theorem Chn.ext {cd cd2 : Nat → Int32} {oj : Nat} : ∀ {J : List Nat}, Chn cd oj J → (∀ k ∈ J, cd2 k = cd k) → Chn cd2 oj J
  | [], _, _ => trivial
  | q :: t, h, hc => ⟨by rw [hc q List.mem_cons_self]; exact h.1, h.2.1, h.2.2.ext (fun k hk => hc k (List.mem_cons_of_mem _ hk))⟩
theorem jumpC (x : LCx j cst s t m g) (hs : s < 256) {oj : Nat} (ho : oj < 16) {J : List Nat} (hJ : prv J < 60000) : ∃ g1, m_X2_jump j (nI oj) (nI (prv J) - 1) g = some (nI s, g1) ∧ LCx j cst (s + 1) t m g1 ∧ Ch (PLo j) g g1 ∧ hI g1 (j + 1) s = jmc oj (prv J) ∧ ∀ k, k ≠ s → hI g1 (j + 1) k = hI g (j + 1) k := by
  have e1 : nI (prv J) - 1 + 1 = nI (prv J) := by
    apply Int32.toBitVec_inj.mp
    rw [Int32.toBitVec_add, Int32.toBitVec_sub, BitVec.sub_add_cancel]
  refine ⟨sI (sI g (j + 1) s (jmc oj (prv J))) j 7 (nI (s + 1)), ?_, ?_, (Ch.rf.sI (by simp)).sI (by simp), ?_, fun k hk => ?_⟩
  · unfold m_X2_jump
    rw [x.1.1, lt_eq, if_neg (show ¬ 256 ≤ nI s from nI_ge (a := s) (b := 256) (by omega) (by omega)), gd_pos (inb_nI (by omega) (by omega)), nI_clamp (by omega), e1, jmc_mk ho (by omega), lt_eq, hI_sI, if_neg (by omega), x.1.1, nI_1, lt_eq]
  · obtain ⟨⟨x1, x2, x3, x4⟩, ⟨x5, x5'⟩, x6⟩ := x
    refine ⟨⟨by rw [hI_sI, if_pos ⟨rfl, rfl⟩], by rw [hI_sI, if_neg (by omega), hI_sI, if_neg (by omega)]; exact x2, by rw [hI_sI, if_neg (by omega), hI_sI, if_neg (by omega)]; exact x3, x4⟩, ⟨x5, x5'⟩, fun r w h => ?_⟩
    rw [hI_sI, if_neg (by omega), hI_sI, if_neg (by omega)]
    exact x6 r w h
  · rw [hI_sI, if_neg (by omega), hI_sI, if_pos ⟨rfl, rfl⟩]
  · rw [hI_sI, if_neg (by omega), hI_sI, if_neg (fun z => hk z.2)]
theorem land_l {oj : Nat} (ho : oj < 16) (hs : s ≤ 256) : ∀ (J : List Nat) (i f : Nat) (g : AHp), hI g j 7 = nI s → Chn (hI g (j + 1)) oj J → (∀ k ∈ J, k < 256) → i + J.length ≤ 256 → J.length < f →
    ∃ g1, m_X2_land_4 j f (nI (prv J) - 1) (nI i) g = some ((), g1) ∧ Ch (fun k _ => k == j + 1) g g1 ∧ (∀ k ∈ J, hI g1 (j + 1) k = jmc oj s) ∧ ∀ k, k ∉ J → hI g1 (j + 1) k = hI g (j + 1) k := by
  intro J
  induction J with
  | nil =>
    intro i f g h7 hc hJ hi hf
    obtain ⟨f, rfl⟩ : ∃ q, f = q + 1 := ⟨f - 1, by simp at hf; omega⟩
    refine ⟨g, ?_, Ch.rf, (fun k hk => by simp at hk), fun k _ => rfl⟩
    rw [m_X2_land_4]
    by_cases h256 : (256 : Int32) ≤ nI i
    · rw [if_pos h256]
    · rw [if_neg h256, if_pos (show nI (prv []) - 1 < 0 by decide)]
  | cons q J ih =>
    intro i f g h7 hc hJ hi hf
    rw [List.length_cons] at hi hf
    obtain ⟨f, rfl⟩ : ∃ q, f = q + 1 := ⟨f - 1, by omega⟩
    have hq : q < 256 := hJ q List.mem_cons_self
    have hpr : prv J < 65536 := by
      cases J with
      | nil => show 0 < 65536; omega
      | cons r J => have := hJ r (List.mem_cons_of_mem _ List.mem_cons_self); show r + 1 < 65536; omega
    have e1 : nI (prv (q :: J)) - 1 = nI q := nI_pred q
    obtain ⟨g1, r1, c1, s1, o1⟩ := ih (i + 1) f (sI g (j + 1) q (jmc oj s)) (by rw [hI_sI, if_neg (by omega)]; exact h7) (hc.2.2.ext (fun k hk => by
      rw [hI_sI, if_neg]
      rintro ⟨_, rfl⟩
      have := hc.2.1 k hk
      omega)) (fun k hk => hJ k (List.mem_cons_of_mem _ hk)) (by omega) (by omega)
    have hnq : q ∉ J := fun h => by have := hc.2.1 q h; omega
    refine ⟨g1, ?_, (Ch.rf.sI (by simp)).trans c1, fun k hk => ?_, fun k hk => ?_⟩
    · rw [m_X2_land_4, if_neg (show ¬ 256 ≤ nI i from nI_ge (a := i) (b := 256) (by omega) (by omega)), e1, if_neg (nI_pos (by omega)), if_neg (show ¬ 256 ≤ nI q from nI_ge (a := q) (b := 256) (by omega) (by omega))]
      have gi : inb (nI q) 256 := inb_nI hq (by omega)
      rw [gd_pos gi, lt_eq, gd_pos gi, gd_pos gi, nI_clamp (by omega), hc.1, jmc_to ho hpr, jmc_op ho hpr, h7, jmc_mk ho (by omega), lt_eq, lt_eq, nI_1]
      exact r1
    · rcases List.mem_cons.mp hk with hkq | hk
      · rw [hkq, o1 q hnq, hI_sI, if_pos ⟨rfl, rfl⟩]
      · exact s1 k hk
    · have h1 : k ≠ q ∧ k ∉ J := ⟨fun e => hk (by rw [e]; exact List.mem_cons_self), fun e => hk (List.mem_cons_of_mem _ e)⟩
      rw [o1 k h1.2, hI_sI, if_neg (fun z => h1.1 z.2)]
theorem landX : ∀ (d i f : Nat) (x : Int32) (g : AHp), i + d = 256 → d < f → ∃ g1, m_X2_land_4 j f x (nI i) g = some ((), g1) ∧ Ch (fun k _ => k == j + 1) g g1 := by
  intro d
  induction d with
  | zero =>
    intro i f x g hi hf
    obtain ⟨f, rfl⟩ : ∃ q, f = q + 1 := ⟨f - 1, by omega⟩
    have : i = 256 := by omega
    subst this
    rw [m_X2_land_4, if_pos (by decide)]
    exact ⟨g, rfl, Ch.rf⟩
  | succ d ih =>
    intro i f x g hi hf
    obtain ⟨f, rfl⟩ : ∃ q, f = q + 1 := ⟨f - 1, by omega⟩
    rw [m_X2_land_4, if_neg (show ¬ 256 ≤ nI i from nI_ge (a := i) (b := 256) (by omega) (by omega))]
    by_cases h1 : x < 0
    · rw [if_pos h1]; exact ⟨g, rfl, Ch.rf⟩
    rw [if_neg h1]
    by_cases h2 : (256 : Int32) ≤ x
    · rw [if_pos h2]; exact ⟨g, rfl, Ch.rf⟩
    rw [if_neg h2]
    have gi : inb x 256 := by
      rw [inb_iff]
      rw [i32_lt] at h1
      rw [i32_le] at h2
      simp only [tIall] at h1 h2
      omega
    rw [gd_pos gi, lt_eq, gd_pos gi, gd_pos gi, lt_eq, lt_eq, nI_1]
    obtain ⟨g1, e1, c1⟩ := ih (i + 1) f (((hI g (j + 1) x.toNatClampNeg) >>> ((4 : Int32) &&& 31)) - 1) (sI g (j + 1) x.toNatClampNeg (((hI g (j + 1) x.toNatClampNeg) &&& 15) ||| ((hI g j 7) <<< ((4 : Int32) &&& 31)))) (by omega) (by omega)
    exact ⟨g1, e1, (Ch.rf.sI (by simp)).trans c1⟩
/-- steps behind a fault -/
theorem XF.lo (x : XF j F g) (c : Ch (PLo j) g g1) (hs : ∃ s t, (hI g1 j 7 = nI s ∧ s ≤ 256) ∧ hI g1 j 8 = nI t ∧ t ≤ 256) : XF j F g1 := by
  have hj := x.2.1.2
  obtain ⟨⟨x1, x2⟩, ⟨x3, x4⟩, _⟩ := x
  exact ⟨⟨by rw [c.i (plo_t hj 1 4 (by omega))]; exact x1, x2⟩, ⟨by rw [(c 33 1 (plo_m hj)).2.2]; exact x3, x4⟩, hs⟩
theorem emitX (x : XF j F g) (op a b : Int32) : ∃ v g1, m_X2_emit j op a b g = some (v, g1) ∧ XF j F g1 ∧ Ch (PLo j) g g1 := by
  obtain ⟨s, t, ⟨h1, h2⟩, h3, h4⟩ := x.2.2
  unfold m_X2_emit
  rw [h3, lt_eq, h1]
  by_cases q1 : s < 256
  · by_cases q2 : t < 256
    · rw [if_neg (show ¬ 256 ≤ nI s from nI_ge (a := s) (b := 256) (by omega) (by omega)), if_neg (show ¬ 256 ≤ nI t from nI_ge (a := t) (b := 256) (by omega) (by omega)), gd_pos (inb_nI (by omega) (by omega)), nI_clamp (by omega), lt_eq, hI_sI, if_neg (by omega), h1, nI_1, lt_eq, hI_sI, if_neg (by omega), hI_sI, if_neg (by omega), h3, nI_1, lt_eq]
      refine ⟨_, _, rfl, ?_, ((Ch.rf.sI (by simp)).sI (by simp)).sI (by simp)⟩
      exact x.lo (((Ch.rf.sI (by simp)).sI (by simp)).sI (by simp)) ⟨s + 1, t + 1, ⟨by rw [hI_sI, if_neg (by omega), hI_sI, if_pos ⟨rfl, rfl⟩], by omega⟩, by rw [hI_sI, if_pos ⟨rfl, rfl⟩], by omega⟩
    · rw [if_neg (show ¬ 256 ≤ nI s from nI_ge (a := s) (b := 256) (by omega) (by omega)), if_pos (show 256 ≤ nI t from nI_le (a := 256) (b := t) (by omega) (by omega))]
      exact ⟨_, g, rfl, x, Ch.rf⟩
  · rw [if_pos (show 256 ≤ nI s from nI_le (a := 256) (b := s) (by omega) (by omega))]
    exact ⟨_, g, rfl, x, Ch.rf⟩
theorem constX (x : XF j F g) (w : Int32) : ∃ v g1, m_X2_constant j w g = some (v, g1) ∧ XF j F g1 ∧ Ch (PLo j) g g1 := by
  obtain ⟨s, t, ⟨h1, h2⟩, h3, h4⟩ := x.2.2
  unfold m_X2_constant
  rw [h3, lt_eq]
  by_cases q2 : t < 256
  · rw [if_neg (show ¬ 256 ≤ nI t from nI_ge (a := t) (b := 256) (by omega) (by omega)), gd_pos (inb_nI (by omega) (by omega)), nI_clamp (by omega), lt_eq, hI_sI, if_neg (by omega), h3, nI_1, lt_eq]
    refine ⟨_, _, rfl, ?_, (Ch.rf.sI (by simp)).sI (by simp)⟩
    exact x.lo ((Ch.rf.sI (by simp)).sI (by simp)) ⟨s, t + 1, ⟨by rw [hI_sI, if_neg (by omega), hI_sI, if_neg (by omega)]; exact h1, by omega⟩, by rw [hI_sI, if_pos ⟨rfl, rfl⟩], by omega⟩
  · rw [if_pos (show 256 ≤ nI t from nI_le (a := 256) (b := t) (by omega) (by omega))]
    exact ⟨_, g, rfl, x, Ch.rf⟩
theorem landXF (x : XF j F g) (v : Int32) : ∃ g1, m_X2_land j v g = some ((), g1) ∧ XF j F g1 ∧ Ch (PLo j) g g1 := by
  obtain ⟨g1, e1, c1⟩ := landX (j := j) 256 0 FU v g (by omega) (by unfold FU; omega)
  have c2 : Ch (PLo j) g g1 := c1.mono (fun k i hp => by
    simp only [Bool.or_eq_false_iff, Bool.and_eq_false_iff, beq_eq_false_iff_ne] at hp ⊢; omega)
  refine ⟨g1, e1, x.lo c2 ?_, c2⟩
  obtain ⟨s, t, ⟨h1, h2⟩, h3, h4⟩ := x.2.2
  exact ⟨s, t, ⟨by rw [c1.i (by simp)]; exact h1, h2⟩, by rw [c1.i (by simp)]; exact h3, h4⟩
theorem XF.sign (x : XF j F g) : m_X8_sign g = some (-1, g) := signX x.1.1 (neg_ne x.1.2)
theorem XF.fail (x : XF j F g) (k : Int32) : m_X8_fail k g = some ((), g) := failX x.1.1 (neg_ne x.1.2) k
theorem XF.expect (x : XF j F g) {k : Int32} (hk : ¬ -1 = k) : m_X8_expect k g = some ((), g) := expectX x.1.1 (neg_ne x.1.2) hk
theorem XF.takes (x : XF j F g) {k : Int32} (hk : ¬ -1 = k) : m_X8_takes k g = some (0, g) := takesX x.1.1 (neg_ne x.1.2) hk
end LP
