/-! clauses: the class -/
abbrev PLc (j : Nat) : Nat → Nat → Bool := fun k i => Pt k i || (Nat.ble j k && Nat.ble k (j + 7))
theorem lw_lc {j : Nat} {g g1 : AHp} (c : Ch (PLw j) g g1) : Ch (PLc j) g g1 := c.mono (fun k i hp => by
  simp only [Bool.or_eq_false_iff, Bool.and_eq_false_iff, beq_eq_false_iff_ne, ble_f] at hp ⊢; omega)
/-- a clause in the class's law -/
def ClC (j : Nat) (cst : Nat → Option Int32) (s t : Nat) (g : AHp) (i : Nat) (q : Clz) : Prop := ∃ a b c t0 t1 t2 rg : Nat, (hI g (j + 4) i = nI b ∧ hI g (j + 5) i = nI c ∧ hI g (j + 7) i = q.2.2.2) ∧ (depOn q.2.2.1 q.2.2.2 ∧ dep9 q.2.1) ∧ (c ≤ s ∧ t2 ≤ t) ∧ RunB j (hI g (j + 1)) cst b c t1 t2 q.2.2.1 ∧ (q.1 = true → hI g (j + 6) i = -1) ∧ (q.1 = false → hI g (j + 6) i = nI rg ∧ hI g (j + 3) i = nI a ∧ RunE j (hI g (j + 1)) cst a b t0 t1 rg q.2.1)
theorem ClC.grow {j : Nat} {cst cst1 : Nat → Option Int32} {s t s1 t1 : Nat} {g g1 : AHp} {i : Nat} {q : Clz} (x : ClC j cst s t g i q) (gr : Grow j cst s t g cst1 s1 t1 g1) (h : ∀ c, j + 3 ≤ c → c ≤ j + 7 → hI g1 c i = hI g c i) : ClC j cst1 s1 t1 g1 i q := by
  obtain ⟨a, b, c, t0, u1, u2, rg, ⟨h1, h2, h3⟩, h4, ⟨h5, h6⟩, h7, h8, h9⟩ := x
  have hg := gr.1
  have hst := h7.1
  refine ⟨a, b, c, t0, u1, u2, rg, ⟨by rw [h (j + 4) (by omega) (by omega)]; exact h1, by rw [h (j + 5) (by omega) (by omega)]; exact h2, by rw [h (j + 7) (by omega) (by omega)]; exact h3⟩, h4, ⟨by omega, by omega⟩, h7.ext (fun k _ u => gr.2.2 k (by omega)) (fun u _ w => gr.2.1 u (by omega)), fun e => by rw [h (j + 6) (by omega) (by omega)]; exact h8 e, fun e => ?_⟩
  obtain ⟨k1, k2, k3⟩ := h9 e
  have hst2 := k3.1
  exact ⟨by rw [h (j + 6) (by omega) (by omega)]; exact k1, by rw [h (j + 3) (by omega) (by omega)]; exact k2, k3.ext (fun k _ u => gr.2.2 k (by omega)) (fun u _ w => gr.2.1 u (by omega))⟩
def LawP (j : Nat) (ty : Nat → Int32) (n p : Nat) (acc : List Clz) (cst : Nat → Option Int32) (s t : Nat) (g : AHp) : Prop := TxC ty n p g ∧ (∃ m, LCx j cst s t m g) ∧ (s ≤ p ∧ t ≤ 9 + p) ∧ (acc.length ≤ 14 ∧ hI g j 9 = nI acc.length ∧ hI g j 11 = maskB acc) ∧ ∀ i q, acc[i]? = some q → ClC j cst s t g i q
/-- what the condition of a clause leaves -/
def OutC2 (j : Nat) (ty : Nat → Int32) (n q k : Nat) (cst : Nat → Option Int32) (s t : Nat) (sv M : Int32) (g : AHp) (r : CSp) (g1 : AHp) : Prop := match r with
  | .inl F => hI g1 1 4 = F ∧ F.toInt < 0
  | .inr y => ∃ cst1 s1 t1 m1, (TxC ty n y.2 g1 ∧ LCx j cst1 s1 t1 m1 g1 ∧ Grow j cst s t g cst1 s1 t1 g1 ∧ (s1 + q ≤ s + y.2 ∧ t1 + q ≤ t + y.2 ∧ q < y.2)) ∧ depOn y.1.2.2.1 y.1.2.2.2 ∧ (hI g1 j 9 = nI (k + 1) ∧ hI g1 j 11 = (if sv = -1 then M ||| y.1.2.2.2 else M)) ∧ (hI g1 (j + 4) k = nI s ∧ hI g1 (j + 5) k = nI s1 ∧ hI g1 (j + 6) k = sv ∧ hI g1 (j + 7) k = y.1.2.2.2) ∧ RunB j (hI g1 (j + 1)) cst1 s s1 t t1 y.1.2.2.1 ∧ (hI g1 (j + 3) k = hI g (j + 3) k ∧ ∀ c i, j + 3 ≤ c → c ≤ j + 7 → i ≠ k → hI g1 c i = hI g c i)
theorem close55 (j : Nat) (sv : Int32) (g : AHp) : m_X2_closeClause_55 j sv g = some ((), if sv = -1 then sI g j 11 (hI g j 11 ||| hI g j 10) else g) := by
  unfold m_X2_closeClause_55
  by_cases h : sv = -1
  · rw [if_pos h, if_pos h, lt_eq]
  · rw [if_neg h, if_neg h]
theorem closeC {j k : Nat} {g : AHp} (hk : k < 14) (h9 : hI g j 9 = nI k) (sv : Int32) : ∃ g1, m_X2_closeClause j sv g = some ((), g1) ∧ Ch (fun c i => (c == j && (i == 9 || i == 11)) || ((c == j + 5 || c == j + 6 || c == j + 7) && i == k)) g g1 ∧ hI g1 j 9 = nI (k + 1) ∧ hI g1 j 11 = (if sv = -1 then hI g j 11 ||| hI g j 10 else hI g j 11) ∧ hI g1 (j + 5) k = hI g j 7 ∧ hI g1 (j + 6) k = sv ∧ hI g1 (j + 7) k = hI g j 10 := by
  have gi : inb (nI k) 14 := inb_nI hk (by omega)
  have e0 : m_X2_closeClause j sv g = m_X2_closeClause_55 j sv (sI (sI (sI (sI g (j + 5) k (hI g j 7)) (j + 6) k sv) (j + 7) k (hI g j 10)) j 9 (nI (k + 1))) := by
    unfold m_X2_closeClause
    rw [h9, if_neg (show ¬ 14 ≤ nI k from nI_ge (a := k) (b := 14) (by omega) (by omega)), gd_pos gi, lt_eq, hI_sI, if_neg (by omega), h9, gd_pos gi, lt_eq, hI_sI, if_neg (by omega), hI_sI, if_neg (by omega), h9, gd_pos gi, hI_sI, if_neg (by omega), hI_sI, if_neg (by omega), lt_eq, hI_sI, if_neg (by omega), hI_sI, if_neg (by omega), hI_sI, if_neg (by omega), h9, nI_1, lt_eq, nI_clamp (by omega)]
  rw [e0, close55]
  have cc : Ch (fun c i => (c == j && (i == 9 || i == 11)) || ((c == j + 5 || c == j + 6 || c == j + 7) && i == k)) g (sI (sI (sI (sI g (j + 5) k (hI g j 7)) (j + 6) k sv) (j + 7) k (hI g j 10)) j 9 (nI (k + 1))) := (((Ch.rf.sI (by simp)).sI (by simp)).sI (by simp)).sI (by simp)
  have a9 : hI (sI (sI (sI (sI g (j + 5) k (hI g j 7)) (j + 6) k sv) (j + 7) k (hI g j 10)) j 9 (nI (k + 1))) j 9 = nI (k + 1) := by rw [hI_sI, if_pos ⟨rfl, rfl⟩]
  have a5 : hI (sI (sI (sI (sI g (j + 5) k (hI g j 7)) (j + 6) k sv) (j + 7) k (hI g j 10)) j 9 (nI (k + 1))) (j + 5) k = hI g j 7 := by rw [hI_sI, if_neg (by omega), hI_sI, if_neg (by omega), hI_sI, if_neg (by omega), hI_sI, if_pos ⟨rfl, rfl⟩]
  have a6 : hI (sI (sI (sI (sI g (j + 5) k (hI g j 7)) (j + 6) k sv) (j + 7) k (hI g j 10)) j 9 (nI (k + 1))) (j + 6) k = sv := by rw [hI_sI, if_neg (by omega), hI_sI, if_neg (by omega), hI_sI, if_pos ⟨rfl, rfl⟩]
  have a7 : hI (sI (sI (sI (sI g (j + 5) k (hI g j 7)) (j + 6) k sv) (j + 7) k (hI g j 10)) j 9 (nI (k + 1))) (j + 7) k = hI g j 10 := by rw [hI_sI, if_neg (by omega), hI_sI, if_pos ⟨rfl, rfl⟩]
  have a10 : hI (sI (sI (sI (sI g (j + 5) k (hI g j 7)) (j + 6) k sv) (j + 7) k (hI g j 10)) j 9 (nI (k + 1))) j 10 = hI g j 10 := cc.i (by simp)
  have a11 : hI (sI (sI (sI (sI g (j + 5) k (hI g j 7)) (j + 6) k sv) (j + 7) k (hI g j 10)) j 9 (nI (k + 1))) j 11 = hI g j 11 := by
    rw [hI_sI, if_neg (by omega), hI_sI, if_neg (by omega), hI_sI, if_neg (by omega), hI_sI, if_neg (by omega)]
  generalize sI (sI (sI (sI g (j + 5) k (hI g j 7)) (j + 6) k sv) (j + 7) k (hI g j 10)) j 9 (nI (k + 1)) = g1 at cc a9 a5 a6 a7 a10 a11
  by_cases hsv : sv = -1
  · rw [if_pos hsv, if_pos hsv]
    refine ⟨_, rfl, cc.sI (by simp), ?_, ?_, ?_, ?_, ?_⟩
    · rw [hI_sI, if_neg (by omega)]; exact a9
    · rw [hI_sI, if_pos ⟨rfl, rfl⟩, a11, a10]
    · rw [hI_sI, if_neg (by omega)]; exact a5
    · rw [hI_sI, if_neg (by omega)]; exact a6
    · rw [hI_sI, if_neg (by omega)]; exact a7
  · rw [if_neg hsv, if_neg hsv]
    exact ⟨_, rfl, cc, a9, a11, a5, a6, a7⟩
section CL
variable {j : Nat} {ty : Nat → Int32} {n : Nat}
theorem openCC {k s : Nat} {g : AHp} (hk : k < 14) (h9 : hI g j 9 = nI k) (h7 : hI g j 7 = nI s) : m_X2_openCondition j g = some ((), sI (sI g (j + 4) k (nI s)) j 10 0) := by
  unfold m_X2_openCondition
  rw [h9, if_neg (show ¬ 14 ≤ nI k from nI_ge (a := k) (b := 14) (by omega) (by omega)), gd_pos (inb_nI (by omega) (by omega)), nI_clamp (by omega), h7, lt_eq, lt_eq]
/-- a clause's rest behind a fault -/
theorem cl79X {k : Nat} {F : Int32} {g : AHp} (hk : k < 14) (x : XF j F g) (h9 : hI g j 9 = nI k) (sv : Int32) : ∃ g1, m_X4_readClause_79 sv g = some ((), g1) ∧ Ch (PLc j) g g1 ∧ hI g1 1 4 = F ∧ F.toInt < 0 := by
  have hj := x.2.1.2
  obtain ⟨s, t, ⟨h1, h2⟩, h3, h4⟩ := x.2.2
  have c0 : Ch (PLc j) g (sI (sI g (j + 4) k (nI s)) j 10 0) := (Ch.rf.sI (by simp [Nat.ble_eq])).sI (by simp [Nat.ble_eq])
  have hb := law_bounds hj
  have x0 : XF j F (sI (sI g (j + 4) k (nI s)) j 10 0) := by
    refine ⟨⟨?_, x.1.2⟩, ⟨x.2.1.1, hj⟩, s, t, ⟨?_, h2⟩, ?_, h4⟩
    · rw [hI_sI, if_neg (by omega), hI_sI, if_neg (by omega)]; exact x.1.1
    · rw [hI_sI, if_neg (by omega), hI_sI, if_neg (by omega)]; exact h1
    · rw [hI_sI, if_neg (by omega), hI_sI, if_neg (by omega)]; exact h3
  have h90 : hI (sI (sI g (j + 4) k (nI s)) j 10 0) j 9 = nI k := by
    rw [hI_sI, if_neg (by omega), hI_sI, if_neg (by omega)]; exact h9
  have eo := openCC (j := j) hk h9 h1
  generalize sI (sI g (j + 4) k (nI s)) j 10 0 = g0 at c0 x0 h90 eo
  obtain ⟨g1, e1, c1, -⟩ := closeC hk h90 sv
  have hpx := (readPieceC (j := j) (ty := fun _ => 0) (n := 0) 12 1 (by omega) (by omega)).1
  refine ⟨g1, ?_, c0.trans (c1.mono (fun k i hp => ?_)), ?_, x.1.2⟩
  · unfold m_X4_readClause_79
    rw [x.2.1.1, gd_pos hj, eo, bd_some, x0.expect (by decide), bd_some, condX hpx F g0 1 x0, bd_some, x0.expect (by decide), bd_some, x0.2.1.1, gd_pos hj, e1, bd_some]
  · simp only [Bool.or_eq_false_iff, Bool.and_eq_false_iff, beq_eq_false_iff_ne, ble_f] at hp ⊢; omega
  · rw [c1.i (by simp only [Bool.or_eq_false_iff, Bool.and_eq_false_iff, beq_eq_false_iff_ne]; omega)]; exact x0.1.1
theorem cl79C {k q s t : Nat} {g : AHp} {cst : Nat → Option Int32} {m M : Int32} {ban : Bool} {P : Dmn} (hk : k < 14) (x : TxC ty n q g) (l : LCx j cst s t m g) (hs : s ≤ q) (ht : t ≤ 9 + q) (h9 : hI g j 9 = nI k) (h11 : hI g j 11 = M) (sv : Int32) :
    ∃ g1, m_X4_readClause_79 sv g = some ((), g1) ∧ Ch (PLc j) g g1 ∧ OutC2 j ty n q k cst s t sv M g (c2S ty n ban P q) g1 := by
  have hj := l.2.1.1
  have hn := x.2.1
  have hb := law_bounds hj
  have eo := openCC (j := j) hk h9 l.1.1
  have c0 : Ch (fun c i => (c == j + 4 && i == k) || (c == j && i == 10)) g (sI (sI g (j + 4) k (nI s)) j 10 0) := (Ch.rf.sI (by simp)).sI (by simp)
  have x0 : TxC ty n q (sI (sI g (j + 4) k (nI s)) j 10 0) := x.ch c0 (by simp only [Bool.or_eq_false_iff, Bool.and_eq_false_iff, beq_eq_false_iff_ne]; omega) (fun i => by simp only [Bool.or_eq_false_iff, Bool.and_eq_false_iff, beq_eq_false_iff_ne]; omega)
  have l0 : LCx j cst s t 0 (sI (sI g (j + 4) k (nI s)) j 10 0) := by
    obtain ⟨⟨l1, l2, l3, l4⟩, l5, l6⟩ := l
    refine ⟨⟨by rw [c0.i (by simp)]; exact l1, by rw [c0.i (by simp)]; exact l2, by rw [hI_sI, if_pos ⟨rfl, rfl⟩], l4⟩, l5, fun r v h => ?_⟩
    rw [c0.i (by simp)]; exact l6 r v h
  have h90 : hI (sI (sI g (j + 4) k (nI s)) j 10 0) j 9 = nI k := by rw [c0.i (by simp)]; exact h9
  have h110 : hI (sI (sI g (j + 4) k (nI s)) j 10 0) j 11 = M := by rw [c0.i (by simp)]; exact h11
  have h40 : hI (sI (sI g (j + 4) k (nI s)) j 10 0) (j + 4) k = nI s := by rw [hI_sI, if_neg (by omega), hI_sI, if_pos ⟨rfl, rfl⟩]
  generalize sI (sI g (j + 4) k (nI s)) j 10 0 = g0 at c0 x0 l0 h90 h110 h40 eo
  have c0' : Ch (PLc j) g g0 := c0.mono (fun k i hp => by
    simp only [Bool.or_eq_false_iff, Bool.and_eq_false_iff, beq_eq_false_iff_ne, ble_f] at hp ⊢; omega)
  -- a fault on the way
  have bad : ∀ (F : Int32) (g3 : AHp), hI g3 1 4 = F → F.toInt < 0 → hI g3 j 9 = nI k → Ch (PLc j) g g3 → (∃ g1, m_X2_closeClause j sv g3 = some ((), g1) ∧ Ch (PLc j) g g1 ∧ hI g1 1 4 = F ∧ F.toInt < 0) := fun F g3 q1 q2 q3 q4 => by
    obtain ⟨g4, e4, c4, -⟩ := closeC hk q3 sv
    refine ⟨g4, e4, q4.trans (c4.mono (fun k i hp => ?_)), ?_, q2⟩
    · simp only [Bool.or_eq_false_iff, Bool.and_eq_false_iff, beq_eq_false_iff_ne, ble_f] at hp ⊢; omega
    · rw [c4.i (by simp only [Bool.or_eq_false_iff, Bool.and_eq_false_iff, beq_eq_false_iff_ne]; omega)]; exact q1
  have hpr := readPieceC (j := j) (ty := ty) (n := n) 12 1 (by omega) (by omega)
  unfold m_X4_readClause_79 c2S
  rw [l.1.2.2.2, gd_pos hj, eo, bd_some]
  obtain ⟨g1, e1, c1, r1⟩ := expectC x0 (k := 40) (by decide)
  rw [e1, bd_some]
  have hpt : ∀ c i, j ≤ c → Pt c i = false := fun c i hc => pt_j hj c i hc
  rcases r1 with ⟨h1, h2, x1⟩ | ⟨h1, h2⟩
  rotate_left
  · have hng : (flt 1 q).toInt < 0 := flt_neg (k := 1) (by omega) (by omega) (by omega)
    have xf : XF j (flt 1 q) g1 := XF.of (l0.pt c1) (by omega) (by omega) h2 hng
    obtain ⟨g4, e4, c4, q4, q5⟩ := bad _ g1 h2 hng (by rw [c1.i (hpt j 9 (by omega))]; exact h90) (c0'.trans (lw_lc (pt_lw c1)))
    rw [show m_X4_readCondition_b (m_X4_readPiece 12) 1 g1 = _ from condX hpr.1 _ g1 1 xf, bd_some, xf.expect (by decide), bd_some, xf.2.1.1, gd_pos hj, e4, bd_some, if_neg h1]
    exact ⟨g4, rfl, c4, q4, q5⟩
  rw [if_pos h1]
  obtain ⟨g2, e2, c2, O2⟩ := condC hpr.1 hpr.2 (q + 1) g1 cst s t 0 x1 (l0.pt c1) (by omega) (by omega)
  rw [show m_X4_readCondition_b (m_X4_readPiece 12) 1 g1 = _ from e2, bd_some]
  have h92 : hI g2 j 9 = nI k := by
    rw [c2.i (by simp only [Bool.or_eq_false_iff, Bool.and_eq_false_iff, beq_eq_false_iff_ne]; omega), c1.i (hpt j 9 (by omega))]; exact h90
  have h112 : hI g2 j 11 = M := by
    rw [c2.i (by simp only [Bool.or_eq_false_iff, Bool.and_eq_false_iff, beq_eq_false_iff_ne]; omega), c1.i (hpt j 11 (by omega))]; exact h110
  have arr : ∀ c i, j + 3 ≤ c → c ≤ j + 7 → hI g2 c i = hI g0 c i := fun c i u1 u2 => by
    rw [c2.i (by simp only [Bool.or_eq_false_iff, Bool.and_eq_false_iff, beq_eq_false_iff_ne]; omega), c1.i (hpt c i (by omega))]
  cases hrs : cdS ty n (PCs ty n 12) 1 (q + 1) with
  | inl F =>
    rw [hrs] at O2
    have xf : XF j F g2 := O2
    obtain ⟨g4, e4, c4, q4, q5⟩ := bad F g2 xf.1.1 xf.1.2 h92 ((c0'.trans (lw_lc (pt_lw c1))).trans (lw_lc c2))
    rw [xf.expect (by decide), bd_some, xf.2.1.1, gd_pos hj, e4, bd_some]
    exact ⟨g4, rfl, c4, q4, q5⟩
  | inr y =>
    obtain ⟨A, mA, q2⟩ := y
    rw [hrs] at O2
    obtain ⟨cst2, s2, t2, x2, l2, gr2, ⟨b1, b2, b3⟩, dA, rA⟩ := O2
    simp only [] at x2 l2 b1 b2 b3 dA rA
    have hqn := x2.2.1
    obtain ⟨g3, e3, c3, r3⟩ := expectC x2 (k := 41) (by decide)
    rw [e3, bd_some]
    have h93 : hI g3 j 9 = nI k := by rw [c3.i (hpt j 9 (by omega))]; exact h92
    have h33 : hM g3 33 1 = j := (l2.pt c3).1.2.2.2
    rcases r3 with ⟨h4, h5, x3⟩ | ⟨h4, h5⟩
    rotate_left
    · have hng : (flt 1 q2).toInt < 0 := flt_neg (k := 1) (by omega) (by omega) (by omega)
      obtain ⟨g4, e4, c4, q4, q5⟩ := bad _ g3 h5 hng h93 (((c0'.trans (lw_lc (pt_lw c1))).trans (lw_lc c2)).trans (lw_lc (pt_lw c3)))
      rw [h33, gd_pos hj, e4, bd_some]
      simp only [if_neg h4]
      exact ⟨g4, rfl, c4, q4, q5⟩
    have l3 := l2.pt c3
    obtain ⟨g4, e4, c4, a9, a11, a5, a6, a7⟩ := closeC hk h93 sv
    rw [h33, gd_pos hj, e4, bd_some]
    simp only [if_pos h4]
    have c4f : ∀ c i, (c = j ∧ i ≠ 9 ∧ i ≠ 11) ∨ (c ≠ j ∧ (c < j + 5 ∨ j + 7 < c ∨ i ≠ k)) → hI g4 c i = hI g3 c i := fun c i hc => c4.i (by
      simp only [Bool.or_eq_false_iff, Bool.and_eq_false_iff, beq_eq_false_iff_ne]; omega)
    have cc : Ch (PLc j) g g4 := (((c0'.trans (lw_lc (pt_lw c1))).trans (lw_lc c2)).trans (lw_lc (pt_lw c3))).trans (c4.mono (fun k i hp => by
      simp only [Bool.or_eq_false_iff, Bool.and_eq_false_iff, beq_eq_false_iff_ne, ble_f] at hp ⊢; omega))
    have cd : ∀ i, hI g4 (j + 1) i = hI g2 (j + 1) i := fun i => by
      rw [c4f (j + 1) i (by omega), c3.i (hpt (j + 1) i (by omega))]
    have arr4 : ∀ c i, j + 3 ≤ c → c ≤ j + 7 → (c < j + 5 ∨ i ≠ k) → hI g4 c i = hI g0 c i := fun c i u1 u2 u3 => by
      rw [c4f c i (by omega), c3.i (hpt c i (by omega)), arr c i u1 u2]
    have g1' := gr2.1
    refine ⟨g4, rfl, cc, cst2, s2, t2, mA, ⟨x3.ch c4 (by simp only [Bool.or_eq_false_iff, Bool.and_eq_false_iff, beq_eq_false_iff_ne]; omega) (fun i => by simp only [Bool.or_eq_false_iff, Bool.and_eq_false_iff, beq_eq_false_iff_ne]; omega), ?_, ⟨gr2.1, gr2.2.1, fun i hi => ?_⟩, by simp only []; omega, by simp only []; omega, by simp only []; omega⟩, dA.1, ⟨a9, ?_⟩, ⟨?_, ?_, a6, ?_⟩, rA.ext (fun i _ _ => cd i) (fun _ _ _ => rfl), ?_, fun c i u1 u2 u3 => ?_⟩
    · obtain ⟨⟨m1, m2, m3, m4⟩, m5, m6⟩ := l3
      refine ⟨⟨by rw [c4f j 7 (by omega)]; exact m1, by rw [c4f j 8 (by omega)]; exact m2, by rw [c4f j 10 (by omega), m3, or0l], ?_⟩, m5, fun r v h => by rw [c4f (j + 2) r (by omega)]; exact m6 r v h⟩
      rw [(c4 33 1 (by simp only [Bool.or_eq_false_iff, Bool.and_eq_false_iff, beq_eq_false_iff_ne]; rcases hj with rfl | rfl | rfl | rfl <;> omega)).2.2]; exact m4
    · rw [cd i, gr2.2.2 i hi, c1.i (hpt (j + 1) i (by omega)), c0.i (by simp)]
    · rw [a11, l3.1.2.2.1, or0l, c3.i (hpt j 11 (by omega)), h112]
    · rw [arr4 (j + 4) k (by omega) (by omega) (by omega)]; exact h40
    · rw [a5]; exact l3.1.1
    · rw [a7, l3.1.2.2.1, or0l]
    · rw [arr4 (j + 3) k (by omega) (by omega) (by omega), c0.i (by simp)]
    · rw [arr4 c i u1 u2 (by omega), c0.i (by simp only [Bool.or_eq_false_iff, Bool.and_eq_false_iff, beq_eq_false_iff_ne]; omega)]
end CL
