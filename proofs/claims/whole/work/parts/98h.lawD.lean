theorem c2S_fst {ty : Nat → Int32} {n q : Nat} {ban : Bool} {P : Dmn} {y : Clz × Nat} (h : c2S ty n ban P q = .inr y) : y.1.1 = ban ∧ y.1.2.1 = P := by
  unfold c2S at h
  by_cases h1 : sg ty n q = 40
  · rw [if_pos h1] at h
    cases hr : cdS ty n (PCs ty n 12) 1 (q + 1) with
    | inl F => rw [hr] at h; cases h
    | inr z =>
      rw [hr] at h
      simp only [] at h
      by_cases h2 : sg ty n z.2.2 = 41
      · rw [if_pos h2] at h
        have h3 := Sum.inr.inj h
        rw [← h3]
        exact ⟨rfl, rfl⟩
      · rw [if_neg h2] at h; cases h
  · rw [if_neg h1] at h; cases h
theorem maskB_add (acc : List Clz) (c : Clz) : maskB (acc ++ [c]) = if c.1 = true then maskB acc ||| c.2.2.2 else maskB acc := by
  unfold maskB
  rw [List.foldl_append]
  rfl
section LWC
variable {j : Nat} {ty : Nat → Int32} {n : Nat}
theorem LawP.add {p q k : Nat} {acc : List Clz} {cst cst2 : Nat → Option Int32} {s t s2 t2 : Nat} {g g2 g1 : AHp} {ban : Bool} {P : Dmn} {sv : Int32} {y : Clz × Nat} (L : LawP j ty n p acc cst s t g) (hk : acc.length = k) (hk14 : k < 14)
    (grA : Grow j cst s t g cst2 s2 t2 g2) (hb : s2 + p ≤ s + q ∧ t2 + p ≤ t + q ∧ p < q) (arrA : ∀ c i, j + 3 ≤ c → c ≤ j + 7 → i ≠ k → hI g2 c i = hI g c i) (hP : dep9 P)
    (hy : y.1.1 = ban ∧ y.1.2.1 = P) (hsv : (ban = true ∧ sv = -1) ∨ (ban = false ∧ ¬ sv = -1 ∧ ∃ rg a t0, sv = nI rg ∧ hI g2 (j + 3) k = nI a ∧ RunE j (hI g2 (j + 1)) cst2 a s2 t0 t2 rg P))
    (O : OutC2 j ty n q k cst2 s2 t2 sv (maskB acc) g2 (.inr y) g1) : ∃ cst1 s1 t1, LawP j ty n y.2 (acc ++ [y.1]) cst1 s1 t1 g1 := by
  obtain ⟨cst1, s1, t1, m1, ⟨x1, l1, gr1, b1, b2, b3⟩, dA, ⟨h9, h11⟩, ⟨a4, a5, a6, a7⟩, rB, a3, arrB⟩ := O
  obtain ⟨-, -, ⟨hs, ht⟩, ⟨hl, -, -⟩, hcl⟩ := L
  have hst := rB.1
  refine ⟨cst1, s1, t1, x1, ⟨m1, l1⟩, ⟨by omega, by omega⟩, ⟨by rw [List.length_append, List.length_singleton]; omega, by rw [List.length_append, List.length_singleton, hk]; exact h9, ?_⟩, fun i c hc => ?_⟩
  · rw [maskB_add, h11, hy.1]
    rcases hsv with ⟨e1, e2⟩ | ⟨e1, e2, -⟩
    · rw [if_pos e2, if_pos e1]
    · rw [if_neg e2, if_neg (by rw [e1]; decide)]
  · by_cases hi : i < acc.length
    · rw [List.getElem?_append_left hi] at hc
      have := (hcl i c hc).grow (grA.trans gr1) (fun d u1 u2 => by rw [arrB d i u1 u2 (by omega), arrA d i u1 u2 (by omega)])
      exact this
    · have hlt := (List.getElem?_eq_some_iff.mp hc).1
      rw [List.length_append, List.length_singleton] at hlt
      have hik : i = k := by omega
      rw [List.getElem?_append_right (by omega), show i - acc.length = 0 by omega] at hc
      have hcy : y.1 = c := Option.some.inj hc
      rw [← hcy, hik]
      rcases hsv with ⟨e1, e2⟩ | ⟨e1, e2, rg, a, t0, e3, e4, rE⟩
      · refine ⟨0, s2, s1, 9, t2, t1, 0, ⟨a4, a5, a7⟩, ⟨dA, by rw [hy.2]; exact hP⟩, ⟨Nat.le_refl _, Nat.le_refl _⟩, rB, fun _ => by rw [a6, e2], fun e => ?_⟩
        rw [hy.1, e1] at e; cases e
      · refine ⟨a, s2, s1, t0, t2, t1, rg, ⟨a4, a5, a7⟩, ⟨dA, by rw [hy.2]; exact hP⟩, ⟨Nat.le_refl _, Nat.le_refl _⟩, rB, fun e => ?_, fun _ => ⟨by rw [a6, e3], by rw [a3, e4], ?_⟩⟩
        · rw [hy.1, e1] at e; cases e
        · have hst2 := rE.1
          rw [hy.2]
          exact rE.ext (fun u _ w => gr1.2.2 u w) (fun u _ w => gr1.2.1 u w)
theorem clauseC {p s t : Nat} {acc : List Clz} {cst : Nat → Option Int32} {g : AHp} (L : LawP j ty n p acc cst s t g) : ∃ g1, m_X4_readClause g = some ((), g1) ∧ Ch (PLc j) g g1 ∧ (match clS ty n acc.length p with
    | .inl F => hI g1 1 4 = F ∧ F.toInt < 0
    | .inr y => (∃ cst1 s1 t1, LawP j ty n y.2 (acc ++ [y.1]) cst1 s1 t1 g1) ∧ p < y.2) := by
  obtain ⟨x, ⟨m, l⟩, ⟨hs, ht⟩, ⟨hl, h9, h11⟩, hcl⟩ := id L
  have hj := l.2.1.1
  have hbd := law_bounds hj
  have hn := x.2.1
  unfold m_X4_readClause clS
  rw [signC x, bd_some]
  by_cases hb : sg ty n p = 110 ∨ sg ty n p = 112
  rotate_left
  · have hb2 := not_or.mp hb
    obtain ⟨g1, e1, q1, c1⟩ := failC x 1
    rw [if_neg hb2.1, if_neg hb2.2, e1, bd_some, if_neg hb]
    exact ⟨g1, rfl, lw_lc (pt_lw c1), q1, flt_neg (k := 1) (by omega) (by omega) (by omega)⟩
  rw [ite_two hb, if_pos hb]
  unfold m_X4_readClause_29
  rw [l.1.2.2.2, gd_pos hj, h9]
  by_cases hk : acc.length < 14
  rotate_left
  · obtain ⟨g1, e1, q1, c1⟩ := failC x 4
    rw [if_neg (show ¬ nI acc.length < 14 from nI_nlt (a := acc.length) (b := 14) (by omega) (by omega)), e1, bd_some, if_neg hk]
    exact ⟨g1, rfl, lw_lc (pt_lw c1), q1, flt_neg (k := 4) (by omega) (by omega) (by omega)⟩
  have hp : p < n := sg_lt (fun h => by rw [h] at hb; revert hb; decide)
  obtain ⟨g1, e1, x1, c1⟩ := stepC x hp
  have l1 := l.pt c1
  have hpt : ∀ c i, j ≤ c → Pt c i = false := fun c i hc => pt_j hj c i hc
  have h91 : hI g1 j 9 = nI acc.length := by rw [c1.i (hpt j 9 (by omega))]; exact h9
  have h111 : hI g1 j 11 = maskB acc := by rw [c1.i (hpt j 11 (by omega))]; exact h11
  have eop : m_X2_openPrice j g1 = some ((), sI g1 (j + 3) acc.length (nI s)) := by
    unfold m_X2_openPrice
    rw [h91, if_neg (show ¬ 14 ≤ nI acc.length from nI_ge (a := acc.length) (b := 14) (by omega) (by omega)), gd_pos (inb_nI (by omega) (by omega)), nI_clamp (by omega), l1.1.1, lt_eq]
  have c2 : Ch (fun c i => c == j + 3 && i == acc.length) g1 (sI g1 (j + 3) acc.length (nI s)) := Ch.rf.sI (by simp)
  have h33 : hI (sI g1 (j + 3) acc.length (nI s)) (j + 3) acc.length = nI s := by rw [hI_sI, if_pos ⟨rfl, rfl⟩]
  generalize sI g1 (j + 3) acc.length (nI s) = g2 at eop c2 h33
  have o2 : ∀ c i, (c ≠ j + 3 ∨ i ≠ acc.length) → hI g2 c i = hI g1 c i := fun c i hc => c2.i (by
    simp only [Bool.and_eq_false_iff, beq_eq_false_iff_ne]; omega)
  have x2 : TxC ty n (p + 1) g2 := x1.ch c2 (by simp only [Bool.and_eq_false_iff, beq_eq_false_iff_ne]; omega) (fun i => by simp only [Bool.and_eq_false_iff, beq_eq_false_iff_ne]; omega)
  have l2 : LCx j cst s t m g2 := by
    obtain ⟨⟨m1, m2, m3, m4⟩, m5, m6⟩ := l1
    refine ⟨⟨by rw [o2 j 7 (by omega)]; exact m1, by rw [o2 j 8 (by omega)]; exact m2, by rw [o2 j 10 (by omega)]; exact m3, ?_⟩, m5, fun r v h => by rw [o2 (j + 2) r (by omega)]; exact m6 r v h⟩
    rw [(c2 33 1 (by simp only [Bool.and_eq_false_iff, beq_eq_false_iff_ne]; rcases hj with rfl | rfl | rfl | rfl <;> omega)).2.2]; exact m4
  have c2' : Ch (PLc j) g g2 := (lw_lc (pt_lw c1)).trans (c2.mono (fun k i hp => by
    simp only [Bool.or_eq_false_iff, Bool.and_eq_false_iff, beq_eq_false_iff_ne, ble_f] at hp ⊢; omega))
  have h92 : hI g2 j 9 = nI acc.length := by rw [o2 j 9 (by omega)]; exact h91
  have h112 : hI g2 j 11 = maskB acc := by rw [o2 j 11 (by omega)]; exact h111
  have gr2 : Grow j cst s t g cst s t g2 := ⟨⟨Nat.le_refl _, Nat.le_refl _⟩, fun _ _ => rfl, fun k _ => by rw [o2 (j + 1) k (by omega), c1.i (hpt (j + 1) k (by omega))]⟩
  have ar2 : ∀ c i, j + 3 ≤ c → c ≤ j + 7 → i ≠ acc.length → hI g2 c i = hI g c i := fun c i u1 u2 u3 => by rw [o2 c i (by omega), c1.i (hpt c i (by omega))]
  rw [if_pos (show nI acc.length < 14 from nI_lt (a := acc.length) (b := 14) hk (by omega)), e1, bd_some, l1.1.2.2.2, gd_pos hj, eop, bd_some, if_pos hk]
  by_cases h112' : sg ty n p = 112
  · rw [if_pos h112', if_pos h112']
    obtain ⟨v3, g3, e3, c3, O3⟩ := readSumC (j := j) (ty := ty) (n := n) 10 0 (by omega) (by omega) (p + 1) g2 cst s t m x2 l2 (by omega) (by omega)
    rw [show m_X4_readSum 10 0 g2 = _ from e3, bd_some]
    have o3 : ∀ c i, (c = j ∧ (i = 9 ∨ i = 11)) ∨ (j + 3 ≤ c ∧ c ≤ j + 7) → hI g3 c i = hI g2 c i := fun c i hc => c3.i (by
      simp only [Bool.or_eq_false_iff, Bool.and_eq_false_iff, beq_eq_false_iff_ne]; omega)
    have h93 : hI g3 j 9 = nI acc.length := by rw [o3 j 9 (by omega)]; exact h92
    have h113 : hI g3 j 11 = maskB acc := by rw [o3 j 11 (by omega)]; exact h112
    cases hrs : SMs ty n 10 0 (p + 1) with
    | inl F =>
      rw [hrs] at O3
      have xf : XF j F g3 := O3
      obtain ⟨g4, e4, c4, q1, q2⟩ := cl79X hk xf h93 v3
      exact ⟨g4, e4, (c2'.trans (lw_lc c3)).trans c4, q1, q2⟩
    | inr z =>
      obtain ⟨P, mP, q⟩ := z
      rw [hrs] at O3
      obtain ⟨cst3, s3, t3, rg, hv, x3, l3, gr3, ⟨b1, b2, b3⟩, dP, rP⟩ := O3
      simp only [] at x3 l3 b1 b2 b3 dP rP
      have hqn := x3.2.1
      have hst := rP.1
      obtain ⟨g4, e4, c4, O4⟩ := cl79C (ban := false) (P := P) hk x3 l3 (by omega) (by omega) h93 h113 v3
      refine ⟨g4, e4, (c2'.trans (lw_lc c3)).trans c4, ?_⟩
      simp only []
      cases hr4 : c2S ty n false P q with
      | inl F => rw [hr4] at O4; exact O4
      | inr y =>
        rw [hr4] at O4
        have hq : q < y.2 := by
          obtain ⟨_, _, _, _, ⟨_, _, _, _, _, hq⟩, _⟩ := O4
          exact hq
        refine ⟨LawP.add L rfl hk (gr2.trans gr3) ⟨by omega, by omega, by omega⟩ (fun c i u1 u2 u3 => by rw [o3 c i (by omega), ar2 c i u1 u2 u3]) dP.nine (c2S_fst hr4) (Or.inr ⟨rfl, ?_, rg, s, t, hv, ?_, rP⟩) O4, by omega⟩
        · rw [hv]
          intro e
          have := congrArg Int32.toInt e
          rw [nI_toInt (by omega)] at this
          simp only [tIall] at this
          omega
        · rw [o3 (j + 3) _ (by omega)]; exact h33
  · rw [if_neg h112', if_neg h112']
    obtain ⟨g4, e4, c4, O4⟩ := cl79C (ban := true) (P := fun _ => none) hk x2 l2 (by omega) (by omega) h92 h112 (-1)
    refine ⟨g4, e4, c2'.trans c4, ?_⟩
    cases hr4 : c2S ty n true (fun _ => none) (p + 1) with
    | inl F => rw [hr4] at O4; exact O4
    | inr y =>
      rw [hr4] at O4
      have hq : p + 1 < y.2 := by
        obtain ⟨_, _, _, _, ⟨_, _, _, _, _, hq⟩, _⟩ := O4
        exact hq
      exact ⟨LawP.add L rfl hk gr2 ⟨by omega, by omega, by omega⟩ ar2 (fun _ _ _ => rfl) (c2S_fst hr4) (Or.inl ⟨rfl, rfl⟩) O4, by omega⟩
/-- what a law's reading came to -/
def OutLw (j : Nat) (ty : Nat → Int32) (n : Nat) (r : Int32 ⊕ List Clz) (v : Int32) (g1 : AHp) : Prop := match r with
  | .inl F => v = F ∧ F.toInt < 0
  | .inr cl => v = nI cl.length ∧ ∃ p cst s t, LawP j ty n p cl cst s t g1
theorem law55X {F : Int32} {g : AHp} (h : hI g 1 4 = F) (hF : F.toInt < 0) : m_X4_readLaw_55 j g = some (F, g) := by
  have e1 : m_X8_endText g = some ((), g) := by
    unfold m_X8_endText
    rw [failX h (neg_ne hF), bd_some, ite_self]
  unfold m_X4_readLaw_55 m_X8_isSound
  rw [e1, bd_some, h, if_neg (neg_ne hF), bd_some, if_pos rfl, h]
theorem LawP.pt {p q s t : Nat} {acc : List Clz} {cst : Nat → Option Int32} {g g1 : AHp} (L : LawP j ty n p acc cst s t g) (x1 : TxC ty n q g1) (hq : p ≤ q) (c : Ch Pt g g1) : LawP j ty n q acc cst s t g1 := by
  obtain ⟨x, ⟨m, l⟩, ⟨hs, ht⟩, ⟨hl, h9, h11⟩, hcl⟩ := L
  have hj := l.2.1.1
  have hpt : ∀ c i, j ≤ c → Pt c i = false := fun c i hc => pt_j hj c i hc
  exact ⟨x1, ⟨m, l.pt c⟩, ⟨by omega, by omega⟩, ⟨hl, by rw [c.i (hpt j 9 (by omega))]; exact h9, by rw [c.i (hpt j 11 (by omega))]; exact h11⟩, fun i z hz => (hcl i z hz).grow (Grow.pt hj c) (fun d u1 u2 => c.i (hpt d i (by omega)))⟩
theorem law26 : ∀ (sf f i p : Nat) (acc : List Clz) (cst : Nat → Option Int32) (s t : Nat) (g : AHp), LawP j ty n p acc cst s t g → n - p < sf → n - p + 1 < f → i < p →
    ∃ v g1, m_X4_readLaw_26 j f (nI i) g = some (v, g1) ∧ Ch (PLc j) g g1 ∧ OutLw j ty n (if sg ty n p = 59 then lwS ty n sf acc (p + 1) else if p < n then .inl (flt 1 p) else .inr acc) v g1 := by
  intro sf
  induction sf with
  | zero => intro f i p acc cst s t g L h; omega
  | succ sf ih =>
    intro f i p acc cst s t g L hsf hf hi
    obtain ⟨f, rfl⟩ : ∃ q, f = q + 1 := ⟨f - 1, by omega⟩
    obtain ⟨x, ⟨m, l⟩, ⟨hs, ht⟩, ⟨hl, h9, h11⟩, hcl⟩ := id L
    have hj := l.2.1.1
    have hn := x.2.1
    rw [m_X4_readLaw_26, if_neg (show ¬ 200 ≤ nI i from nI_ge (a := i) (b := 200) (by omega) (by omega))]
    obtain ⟨g1, c1, r1⟩ := takesC x (k := 59) (by decide)
    rcases r1 with ⟨h1, h2, x1, e1⟩ | ⟨h1, h2, e1⟩
    · obtain ⟨g2, e2, c2, r2⟩ := clauseC (L.pt x1 (by omega) c1)
      rw [e1, bd_some, if_neg one_ne, e2, bd_some, lt_eq, nI_1, if_pos h1, lwS]
      obtain ⟨f, rfl⟩ : ∃ q, f = q + 1 := ⟨f - 1, by omega⟩
      cases hrs : clS ty n acc.length (p + 1) with
      | inl F =>
        rw [hrs] at r2
        obtain ⟨q1, q2⟩ := r2
        rw [m_X4_readLaw_26, takesX q1 (neg_ne q2) (by decide), bd_some, if_pos rfl, law55X q1 q2, ite_self]
        exact ⟨F, g2, rfl, (lw_lc (pt_lw c1)).trans c2, rfl, q2⟩
      | inr y =>
        rw [hrs] at r2
        obtain ⟨⟨cst1, s1, t1, L1⟩, hy⟩ := r2
        have hyn := L1.1.2.1
        obtain ⟨v3, g3, e3, c3, O3⟩ := ih (f + 1) (i + 1) y.2 (acc ++ [y.1]) cst1 s1 t1 g2 L1 (by omega) (by omega) (by omega)
        exact ⟨v3, g3, e3, ((lw_lc (pt_lw c1)).trans c2).trans c3, O3⟩
    · subst h2
      rw [e1, bd_some, if_pos rfl, if_neg h1]
      unfold m_X4_readLaw_55 m_X8_endText m_X8_isSound
      rw [x.1.1, x.1.2.1]
      by_cases hp : p < n
      · obtain ⟨g2, e2, q2, c2⟩ := failC x 1
        have hng : (flt 1 p).toInt < 0 := flt_neg (k := 1) (by omega) (by omega) (by omega)
        rw [if_neg (nI_ge hp (by omega)), e2, bd_some, bd_some, q2, if_neg (neg_ne hng), bd_some, if_pos rfl, q2, if_pos hp]
        exact ⟨_, g2, rfl, lw_lc (pt_lw c2), rfl, hng⟩
      · rw [if_pos (nI_le (by omega) (by omega)), bd_some, if_pos x.1.2.2, bd_some, if_neg one_ne, l.1.2.2.2, gd_pos hj, h9, if_neg hp]
        exact ⟨_, g1, rfl, Ch.rf, rfl, p, cst, s, t, L⟩
theorem readLawC (hj : isLaw j) (hn : 1 ≤ n ∧ n ≤ 200) {mm : Nat} (hm : n ≤ mm ∧ mm ≤ 220) {g : AHp} (hfed : hI g 1 1 = nI mm) (hty : ∀ i, i < n → hI g 2 i = ty i) :
    ∃ v g1, m_X4_readLaw j (nI n) g = some (v, g1) ∧ Ch (fun k i => PLc j k i || (k == 33 && i == 1)) g g1 ∧ OutLw j ty n (lwS ty n 300 [] 0) v g1 := by
  have hbd := law_bounds hj
  have hst : ∃ g0, (∀ K : Unit → AHp → Option (Int32 × AHp), (lt (sM g 33 1 j) fun h11 => (gd (isLaw (hM h11 33 1)) (bd (m_X2_clear (hM h11 33 1) h11) fun r13 h14 => (bd (m_X8_startText (nI n) h14) K)))) = K () g0) ∧ LawP j ty n 0 [] (fun _ => none) 0 9 g0 ∧ Ch (fun k i => PLc j k i || (k == 33 && i == 1)) g g0 := by
    refine ⟨sI (sI (sI (sI (sI (sI (sI (sM g 33 1 j) j 7 0) j 8 9) j 9 0) j 11 0) 1 2 0) 1 3 (nI n)) 1 4 0, fun K => ?_, ⟨⟨⟨rfl, rfl, rfl⟩, ⟨by omega, by omega⟩, fun i hi => ?_⟩, ⟨_, ⟨?_, ?_, rfl, rfl⟩, ⟨hj, by omega⟩, fun r v h => by cases h⟩, ⟨by omega, by omega⟩, ⟨by simp, ?_, ?_⟩, fun i q h => by simp at h⟩, ?_⟩
    · have e33 : hM (sM g 33 1 j) 33 1 = j := rfl
      have e11 : hI (sI (sI (sI (sI (sI (sM g 33 1 j) j 7 0) j 8 9) j 9 0) j 11 0) 1 2 0) 1 1 = nI mm := by
        rw [hI_sI, if_neg (by omega), hI_sI, if_neg (by omega), hI_sI, if_neg (by omega), hI_sI, if_neg (by omega), hI_sI, if_neg (by omega)]; exact hfed
      unfold m_X2_clear m_X8_startText
      rw [lt_eq, e33, gd_pos hj, lt_eq, lt_eq, lt_eq, lt_eq, bd_some, lt_eq, lt_eq, lt_eq, e11, if_neg (nI_nlt (by omega) (by omega)), bd_some]
    · rw [hI_sI, if_neg (by omega), hI_sI, if_neg (by omega), hI_sI, if_neg (by omega), hI_sI, if_neg (by omega), hI_sI, if_neg (by omega), hI_sI, if_neg (by omega), hI_sI, if_neg (by omega)]; exact hty i hi
    · rw [hI_sI, if_neg (by omega), hI_sI, if_neg (by omega), hI_sI, if_neg (by omega), hI_sI, if_neg (by omega), hI_sI, if_neg (by omega), hI_sI, if_neg (by omega), hI_sI, if_pos ⟨rfl, rfl⟩]; rfl
    · rw [hI_sI, if_neg (by omega), hI_sI, if_neg (by omega), hI_sI, if_neg (by omega), hI_sI, if_neg (by omega), hI_sI, if_neg (by omega), hI_sI, if_pos ⟨rfl, rfl⟩]; rfl
    · rw [hI_sI, if_neg (by omega), hI_sI, if_neg (by omega), hI_sI, if_neg (by omega), hI_sI, if_neg (by omega), hI_sI, if_pos ⟨rfl, rfl⟩]; rfl
    · rw [hI_sI, if_neg (by omega), hI_sI, if_neg (by omega), hI_sI, if_neg (by omega), hI_sI, if_pos ⟨rfl, rfl⟩]; rfl
    · refine (((((((Ch.rf.sM ?_).sI ?_).sI ?_).sI ?_).sI ?_).sI ?_).sI ?_).sI ?_
      all_goals simp [Nat.ble_eq]
  obtain ⟨g0, e0, L0, c0⟩ := hst
  have up : ∀ {u v : AHp}, Ch (PLc j) u v → Ch (fun k i => PLc j k i || (k == 33 && i == 1)) u v := fun c => c.mono (fun k i hp => (Bool.or_eq_false_iff.mp hp).1)
  obtain ⟨g1, e1, c1, r1⟩ := clauseC L0
  unfold m_X4_readLaw
  rw [e0, e1, bd_some, lwS]
  cases hrs : clS ty n ([] : List Clz).length 0 with
  | inl F =>
    rw [hrs] at r1
    obtain ⟨q1, q2⟩ := r1
    obtain ⟨fu, hfu⟩ := FU_s
    rw [hfu, m_X4_readLaw_26, takesX q1 (neg_ne q2) (by decide), bd_some, if_pos rfl, law55X q1 q2, ite_self]
    exact ⟨F, g1, rfl, c0.trans (up c1), rfl, q2⟩
  | inr y =>
    rw [hrs] at r1
    obtain ⟨⟨cst1, s1, t1, L1⟩, hy⟩ := r1
    obtain ⟨v3, g3, e3, c3, O3⟩ := law26 299 FU 0 y.2 ([] ++ [y.1]) cst1 s1 t1 g1 L1 (by omega) (by unfold FU; omega) (by omega)
    exact ⟨v3, g3, e3, (c0.trans (up c1)).trans (up c3), O3⟩
theorem LawP.law {p s t : Nat} {cl : List Clz} {cst : Nat → Option Int32} {g : AHp} (L : LawP j ty n p cl cst s t g) : LawC g j cl (fun r => ∃ v, cst r = some v) (fun r => (cst r).getD 0) := by
  obtain ⟨x, ⟨m, l⟩, -, ⟨hl, h9, h11⟩, hcl⟩ := L
  refine ⟨l.2.1.1, hl, h9, h11, fun r ⟨v, hv⟩ => ⟨(l.2.2 r v hv).1, by rw [(l.2.2 r v hv).2.2]; simp only [hv, Option.getD_some]⟩, fun i q hq => ?_⟩
  obtain ⟨a, b, c, t0, t1, t2, rg, ⟨h1, h2, h3⟩, h4, ⟨h5, h6⟩, h7, h8, h9'⟩ := hcl i q hq
  have keep : ∀ {lo hi : Nat} {g2 g3 : AHp} {e : Mom}, 9 ≤ lo → KeepR j cst lo hi g2 g3 → (∀ r, (∃ v, cst r = some v) → hI g2 (j + 2) r = (cst r).getD 0) → (∀ i, i < 9 → hI g2 (j + 2) i = e i) → Ch (PR j) g2 g3 ∧ (∀ r, (∃ v, cst r = some v) → hI g3 (j + 2) r = (cst r).getD 0) ∧ (∀ i, i < 9 → hI g3 (j + 2) i = e i) := fun hlo k q1 q2 =>
    ⟨k.1, fun r hr => by rw [k.2 r (Or.inr (Or.inr hr))]; exact q1 r hr, fun i hi => by rw [k.2 i (Or.inl (by omega))]; exact q2 i hi⟩
  have pre : ∀ {lo hi u w : Nat} {g2 : AHp} {e : Mom}, (∀ i, hI g2 (j + 1) i = hI g (j + 1) i) → (∀ r, (∃ v, cst r = some v) → hI g2 (j + 2) r = (cst r).getD 0) → (∀ i, i < 9 → hI g2 (j + 2) i = e i) → PreR j (hI g (j + 1)) cst u w lo hi g2 e := fun q1 q2 q3 =>
    ⟨fun k _ _ => q1 k, fun r v _ _ hv => by rw [q2 r ⟨v, hv⟩, hv, Option.getD_some], q3⟩
  have stop : ∀ (f' i' w : Nat) (v : Int32) (g3 : AHp), 1 ≤ f' → w ≤ 256 → m_X2_run_8 j f' (nI w) v (nI w) (nI i') g3 = some (v, g3) := fun f' i' w v g3 hf hw => by
    obtain ⟨f', rfl⟩ : ∃ q, f' = q + 1 := ⟨f' - 1, by omega⟩
    rw [m_X2_run_8]
    by_cases h : (256 : Int32) ≤ nI i'
    · rw [if_pos h]
    · rw [if_neg h, if_neg (nI_pos (by omega)), if_pos (nI_le (Nat.le_refl _) (by omega))]
  refine ⟨h3, h4, ?_, h8, fun e => ?_⟩
  · rw [h1, h2]
    intro g2 e q1 q2 q3
    have hst := h7.1
    obtain ⟨g3, k3, r3⟩ := h7.2 g2 e c 0 FU 0 (pre q1 q2 q3) (Nat.le_refl _) hst.2.1 (by omega) (by unfold FU; omega)
    obtain ⟨p1, p2, p3⟩ := keep hst.2.2.1 k3 q2 q3
    unfold m_X2_run
    rcases r3 with ⟨hn, e3⟩ | ⟨v, f', i', hv, hf', hi', e3⟩
    · exact ⟨-1, g3, e3, p1, p2, p3, fun _ => rfl, fun v hv => by rw [hn] at hv; cases hv⟩
    · refine ⟨v, g3, ?_, p1, p2, p3, (fun hn => by rw [hv] at hn; cases hn), fun w hw => by rw [hv] at hw; exact Option.some.inj hw⟩
      rw [show m_X2_run_8 j FU (nI c) 0 (nI b) 0 g2 = _ from e3]
      exact stop f' i' c v g3 (by unfold FU at hf'; omega) hst.2.1
  · obtain ⟨k1, k2, k3⟩ := h9' e
    have hst := k3.1
    refine ⟨rg, by omega, k1, ?_⟩
    rw [k2, h1]
    intro g2 e q1 q2 q3
    obtain ⟨g3, kk, r3⟩ := k3.2 g2 e b 0 FU 0 (pre q1 q2 q3) (Nat.le_refl _) hst.2.1 (by omega) (by unfold FU; omega)
    obtain ⟨p1, p2, p3⟩ := keep hst.2.2.1 kk q2 q3
    unfold m_X2_run
    rcases r3 with ⟨hn, e3⟩ | ⟨v, f', i', hv, hr, hf', hi', e3⟩
    · exact ⟨-1, g3, e3, p1, p2, p3, fun _ => rfl, fun v hv => by rw [hn] at hv; cases hv⟩
    · refine ⟨0, g3, ?_, p1, p2, p3, (fun hn => by rw [hv] at hn; cases hn), fun w hw => ⟨by decide, ?_⟩⟩
      · rw [show m_X2_run_8 j FU (nI b) 0 (nI a) 0 g2 = _ from e3]
        exact stop f' i' b 0 g3 (by unfold FU at hf'; omega) hst.2.1
      · rw [hv] at hw
        rw [hr]; exact Option.some.inj hw
end LWC
