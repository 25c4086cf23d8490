/-! clauses and laws: the reference -/
abbrev PLa : Nat → Nat → Bool := fun k i => PLk k i || (k == 70 && i == 7) || k == 84 || k == 85 || k == 86 || k == 87
theorem plk_a {g g1 : AHp} (c : Ch PLk g g1) : Ch PLa g g1 := c.mono (fun k i hp => by
  simp only [Bool.or_eq_false_iff, Bool.and_eq_false_iff, beq_eq_false_iff_ne] at hp ⊢; omega)
theorem condM0 {ty : Nat → Int32} {n q cs : Nat} {g : AHp} {ban : Bool} {P : Dmn} (x : RLx ty n q cs 0 0 g) : ∃ g1, m_X12_condition g = some ((), g1) ∧ Ch PLk g g1 ∧ (match c2S ty n ban P q with
    | .inl F => hI g1 70 6 = F ∧ F.toInt < 0
    | .inr y => q < y.2 ∧ ∃ cs1, RLx ty n y.2 cs1 0 0 g1 ∧ RnM g1 cs cs1 y.1.2.2.1 ∧ Kk cs 0 g g1) := by
  have hb := x.2.2.1
  have x0 : RLx ty n q cs 0 0 (sI g 70 30 0) := x
  have k0 : Kk cs 0 g (sI g 70 30 0) := ⟨Ch.rf.sI (by simp), fun _ _ => ⟨rfl, rfl⟩, fun _ _ => rfl⟩
  have z40 : sz ty n q = 40 ↔ sg ty n q = 40 := sz_sg (by decide) (by decide)
  unfold m_X12_condition c2S
  rw [lt_eq, hereL x0, bd_some]
  by_cases h40 : sg ty n q = 40
  rotate_left
  · have hng : (flt 1 q).toInt < 0 := flt_neg (k := 1) (by omega) (by omega) (by omega)
    have hz : hI (sI (sI g 70 30 0) 70 6 (flt 1 q)) 70 6 = flt 1 q := by rw [hI_sI, if_pos ⟨rfl, rfl⟩]
    rw [if_neg (fun z => h40 (z40.mp z)), x0.1.1, wrongsM x0.1.2.2, bd_some, badM hz (neg_ne hng), bd_some, if_pos rfl, if_neg h40]
    exact ⟨_, rfl, (Ch.rf.sI (by simp)).sI (by simp), hz, hng⟩
  have hq : q < n := sg_lt (by rw [h40]; decide)
  obtain ⟨g1, e1, x1, k1, s1⟩ := opensL x0 hq (by omega)
  rw [h40] at s1
  have b1 : hI g1 70 30 = 0 := by rw [k1.1.i (by simp)]; rfl
  obtain ⟨fu, hfu⟩ := FU_s
  rw [if_pos (z40.mpr h40), goodM x0.1.2.2, bd_some, if_neg one_ne, e1, bd_some, if_pos h40, hfu, c37_one x1 b1]
  obtain ⟨O, hlt⟩ := condMM (PCs_M (ty := ty) (n := n) 12 1 (by omega) (by omega)) (f := fu) (ff := FU) x1 ⟨by omega, s1⟩ b1 (by unfold FU at hfu; omega) (by unfold FU; omega)
  have k01 : Kk cs 0 g g1 := k0.trans (KpP.nk k1) (Nat.le_refl _) (Nat.le_refl _)
  cases hrs : cdS ty n (PCs ty n 12) 1 (q + 1) with
  | inl F =>
    rw [hrs] at O
    obtain ⟨g2, e2, q2, c2⟩ := O
    exact ⟨g2, e2, k01.1.trans c2, q2⟩
  | inr y =>
    have hpq := hlt y hrs
    obtain ⟨A, mA, q2⟩ := y
    rw [hrs] at O
    obtain ⟨hbA, lq, O⟩ := O
    simp only [] at hbA lq O hpq
    rcases O with ⟨h93, g3, e3, q3, c3⟩ | ⟨f', g3, e3, hf3, t3, k3, b3, n38, n124⟩
    · simp only [if_neg (show ¬ sg ty n q2 = 41 by rw [h93]; decide)]
      exact ⟨g3, e3, k01.1.trans c3, q3⟩
    obtain ⟨cs0, st0, x3, hst0, hcs0⟩ := t3.rl
    have hqn := x3.2.2.1
    obtain ⟨f', rfl⟩ : ∃ z, f' = z + 1 := ⟨f' - 1, by omega⟩
    have kall : Kk cs 0 g g3 := k01.trans k3 (Nat.le_refl _) (by omega)
    by_cases h41 : sg ty n q2 = 41
    · have hq2 : q2 < n := sg_lt (by rw [h41]; decide)
      have hsz : sz ty n q2 = 41 := by rw [sg_sz hq2, h41]
      obtain ⟨cs4, g4, e4, x4, r4, k4⟩ := joins1M t3 (fun h0 => by
        have h := k3.t1 (st := 1) ⟨by omega, s1⟩ (by omega)
        rw [h.2]; decide)
      have hst4 := r4.1
      have hb4 := x4.2.2.1
      simp only [if_pos h41]
      have x5 : RLx ty n (q2 + 1) cs4 0 0 (sI (sI (sI (sI g4 70 10 0) 70 9 0) 70 4 (nI (q2 + 1))) 70 30 1) := by
        obtain ⟨⟨y1, y2, y3⟩, ⟨y4, y5, y6⟩, y7, y8⟩ := x4
        exact ⟨⟨rfl, y2, y3⟩, ⟨y4, rfl, rfl⟩, ⟨by omega, by omega, by omega, by omega⟩, y8⟩
      have k5 : Kk cs4 0 g4 (sI (sI (sI (sI g4 70 10 0) 70 9 0) 70 4 (nI (q2 + 1))) 70 30 1) := ⟨(((Ch.rf.sI (by simp)).sI (by simp)).sI (by simp)).sI (by simp), fun u _ => ⟨rfl, rfl⟩, fun u _ => rfl⟩
      have k45 : Kk cs 0 g (sI (sI (sI (sI g4 70 10 0) 70 9 0) 70 4 (nI (q2 + 1))) 70 30 1) := (kall.trans ((KpP.nk k4).low (Nat.le_refl _) (by omega)) (Nat.le_refl _) (Nat.le_refl _)).trans k5 (by omega) (Nat.le_refl _)
      refine ⟨sI (sI (sI (sI g4 70 10 0) 70 9 0) 70 4 (nI (q2 + 1))) 70 30 1, ?_, k45.1, by omega, cs4, x5, r4, k45⟩
      have a10 : hI g4 70 10 = 1 := x4.2.1.2.1
      have a9 : hI (sI g4 70 10 0) 70 9 = 1 := x4.2.1.2.2
      have a4 : hI (sI (sI g4 70 10 0) 70 9 0) 70 4 = nI q2 := x4.1.1
      have a10' : hI (sI (sI (sI g4 70 10 0) 70 9 0) 70 4 (nI (q2 + 1))) 70 10 = 0 := rfl
      have a30 : ¬ hI (sI (sI (sI (sI g4 70 10 0) 70 9 0) 70 4 (nI (q2 + 1))) 70 30 1) 70 30 = 0 := one_ne
      rw [e3]
      unfold GBm m_X12_goesBehind
      rw [hereL x3, bd_some, hsz, if_neg (by decide), if_neg (by decide), if_pos rfl, e4, bd_some, a10, show (1 : Int32) - 1 = 0 by decide, lt_eq, a9, show (1 : Int32) - 1 = 0 by decide, lt_eq, a4, nI_1, lt_eq, if_pos a10', lt_eq, if_neg a30, bd_some, m_X12_condition_37, goodM x5.1.2.2, bd_some, if_neg one_ne, if_neg a30]
    · simp only [if_neg h41]
      have hng : (flt 1 q2).toInt < 0 := flt_neg (k := 1) (by omega) (by omega) (by omega)
      have hz : hI (sI g3 70 6 (flt 1 q2)) 70 6 = flt 1 q2 := by rw [hI_sI, if_pos ⟨rfl, rfl⟩]
      refine ⟨sI g3 70 6 (flt 1 q2), ?_, kall.1.sI (by simp), hz, hng⟩
      rw [e3]
      unfold GBm m_X12_goesBehind
      rw [hereL x3, bd_some, if_neg (fun z => n38 ((sz_sg (by decide) (by decide)).mp z)), if_neg (fun z => n124 ((sz_sg (by decide) (by decide)).mp z)), if_neg (fun z => h41 ((sz_sg (by decide) (by decide)).mp z)), x3.1.1, wrongsM x3.1.2.2, bd_some, bd_some, c37_bad hz (neg_ne hng)]
/-- a clause among those that were read -/
def ClM (cs : Nat) (g : AHp) (i : Nat) (q : Clz) : Prop := ∃ a b c : Nat, (hI g 84 i = (if q.1 = true then 110 else 112) ∧ hI g 85 i = nI a ∧ hI g 86 i = nI b ∧ hI g 87 i = nI c) ∧ (a ≤ b ∧ b ≤ c ∧ c ≤ cs) ∧ RnM g b c q.2.2.1 ∧ (q.1 = false → RnM g a b q.2.1)
def LMP (ty : Nat → Int32) (n p : Nat) (acc : List Clz) (cs : Nat) (g : AHp) : Prop := (hI g 70 4 = nI p ∧ hI g 70 5 = nI n ∧ hI g 70 6 = 0 ∧ hI g 70 8 = nI cs ∧ hI g 70 7 = nI acc.length) ∧ (p ≤ n ∧ n ≤ 200 ∧ cs ≤ p ∧ acc.length ≤ 14) ∧ (∀ i, i < n → hI g 71 i &&& 255 = ty i) ∧ ∀ i q, acc[i]? = some q → ClM cs g i q
theorem ClM.kp {Q : Nat → Nat → Bool} {cs st cs1 i : Nat} {g g1 : AHp} {q : Clz} (x : ClM cs g i q) (k : KpP Q cs st g g1) (h : ∀ c, 84 ≤ c → c ≤ 87 → hI g1 c i = hI g c i) (hc : cs ≤ cs1) : ClM cs1 g1 i q := by
  obtain ⟨a, b, c, ⟨h1, h2, h3, h4⟩, ⟨h5, h6, h7⟩, h8, h9⟩ := x
  exact ⟨a, b, c, ⟨by rw [h 84 (by omega) (by omega)]; exact h1, by rw [h 85 (by omega) (by omega)]; exact h2, by rw [h 86 (by omega) (by omega)]; exact h3, by rw [h 87 (by omega) (by omega)]; exact h4⟩, ⟨h5, h6, by omega⟩, h8.kp k h7, fun e => (h9 e).kp k (by omega)⟩
section CLM
variable {ty : Nat → Int32} {n : Nat}
theorem hereP {p cs : Nat} {acc : List Clz} {g : AHp} (x : LMP ty n p acc cs g) : m_X12_here g = some (sz ty n p, g) := by
  obtain ⟨⟨x1, x2, _⟩, ⟨x5, x6, _⟩, x7, _⟩ := x
  unfold m_X12_here sz
  rw [x1, x2]
  by_cases h : p < n
  · rw [if_neg (nI_ge h (by omega)), gd_pos (inb_nI (by omega) (by omega)), nI_clamp (by omega), if_pos h, x7 p h]
  · rw [if_pos (nI_le (by omega) (by omega)), if_neg h]
theorem c132 {k cs : Nat} {g : AHp} (hk : k < 14) (h7 : hI g 70 7 = nI k) (h8 : hI g 70 8 = nI cs) : m_X12_clause_132 g = some ((), sI (sI g 87 k (nI cs)) 70 7 (nI (k + 1))) := by
  unfold m_X12_clause_132
  rw [h7, gd_pos (inb_nI (by omega) (by omega)), nI_clamp (by omega), h8, lt_eq, hI_sI, if_neg (by omega), h7, nI_1, lt_eq]
theorem c132X {k : Nat} {F : Int32} {g : AHp} (hk : k < 14) (h7 : hI g 70 7 = nI k) (h6 : hI g 70 6 = F) : ∃ g1, m_X12_clause_132 g = some ((), g1) ∧ hI g1 70 6 = F ∧ Ch PLa g g1 := by
  refine ⟨sI (sI g 87 k (hI g 70 8)) 70 7 (nI (k + 1)), ?_, ?_, (Ch.rf.sI (by simp)).sI (by simp)⟩
  · unfold m_X12_clause_132
    rw [h7, gd_pos (inb_nI (by omega) (by omega)), nI_clamp (by omega), lt_eq, hI_sI, if_neg (by omega), h7, nI_1, lt_eq]
  · rw [hI_sI, if_neg (by omega), hI_sI, if_neg (by omega)]; exact h6
theorem c47_bad {F : Int32} {g : AHp} (h6 : hI g 70 6 = F) (hF : ¬ F = 0) (x1 : Int32) : m_X12_clause_47 x1 g = some ((), g) := by
  unfold m_X12_clause_47
  rw [badM h6 hF, bd_some, if_pos rfl]
/-- from the price on -/
theorem c108M {p q k cs cs2 : Nat} {acc : List Clz} {g g2 : AHp} {ban : Bool} {P : Dmn} (L : LMP ty n p acc cs g) (hk : acc.length = k) (hk14 : k < 14) (x2 : RLx ty n q cs2 0 0 g2) (hpq : p < q) (k2 : KpP PLa cs 0 g g2) (hcs : cs ≤ cs2)
    (h7 : hI g2 70 7 = nI k) (h84 : hI g2 84 k = (if ban = true then 110 else 112)) (h85 : hI g2 85 k = nI cs) (arr : ∀ c i, 84 ≤ c → c ≤ 87 → i ≠ k → hI g2 c i = hI g c i) (hP : ban = false → RnM g2 cs cs2 P) :
    ∃ g1, m_X12_clause_108 g2 = some ((), g1) ∧ Ch PLa g2 g1 ∧ (match c2S ty n ban P q with
      | .inl F => hI g1 70 6 = F ∧ F.toInt < 0
      | .inr y => p < y.2 ∧ ∃ cs1, LMP ty n y.2 (acc ++ [y.1]) cs1 g1) := by
  have hb := x2.2.2.1
  have x3 : RLx ty n q cs2 0 0 (sI g2 86 k (nI cs2)) := x2
  obtain ⟨g4, e4, c4, r4⟩ := condM0 (ban := ban) (P := P) x3
  have h74 : hI g4 70 7 = nI k := by rw [c4.i (by simp), hI_sI, if_neg (by omega)]; exact h7
  have e108 : m_X12_clause_108 g2 = m_X12_clause_132 g4 := by
    unfold m_X12_clause_108
    rw [h7, gd_pos (inb_nI (by omega) (by omega)), nI_clamp (by omega), x2.2.1.1, lt_eq, goodM x3.1.2.2, bd_some, if_neg one_ne, e4, bd_some]
  have c34 : Ch PLa g2 g4 := (Ch.rf.sI (by simp) : Ch PLa g2 (sI g2 86 k (nI cs2))).trans (plk_a c4)
  rw [e108]
  cases hrs : c2S ty n ban P q with
  | inl F =>
    rw [hrs] at r4
    obtain ⟨g5, e5, h5, c5⟩ := c132X hk14 h74 r4.1
    exact ⟨g5, e5, c34.trans c5, h5, r4.2⟩
  | inr y =>
    have hy := c2S_fst hrs
    rw [hrs] at r4
    obtain ⟨hqy, cs4, x4, rn4, k4⟩ := r4
    have hst4 := rn4.1
    have hyn := x4.2.2.1
    rw [c132 hk14 h74 x4.2.1.1]
    have h844 : ∀ c i, 84 ≤ c → c ≤ 87 → hI g4 c i = (if c = 86 ∧ i = k then nI cs2 else hI g2 c i) := fun c i u1 u2 => by
      rw [c4.i (by simp only [Bool.or_eq_false_iff, Bool.and_eq_false_iff, beq_eq_false_iff_ne]; omega), hI_sI]
    have c5 : Ch PLa g4 (sI (sI g4 87 k (nI cs4)) 70 7 (nI (k + 1))) := (Ch.rf.sI (by simp)).sI (by simp)
    have arr5 : ∀ c i, 84 ≤ c → c ≤ 87 → i ≠ k → hI (sI (sI g4 87 k (nI cs4)) 70 7 (nI (k + 1))) c i = hI g c i := fun c i u1 u2 u3 => by
      rw [hI_sI, if_neg (by omega), hI_sI, if_neg (by omega), h844 c i u1 u2, if_neg (by omega)]; exact arr c i u1 u2 u3
    have k5 : KpP PLa cs 0 g (sI (sI g4 87 k (nI cs4)) 70 7 (nI (k + 1))) := by
      refine ⟨(k2.1.trans c34).trans c5, fun u hu => ⟨?_, ?_⟩, fun u hu => by omega⟩
      · show hI g4 88 u = hI g 88 u
        rw [(k4.2.1 u (by omega)).1]; exact (k2.2.1 u hu).1
      · show hI g4 89 u = hI g 89 u
        rw [(k4.2.1 u (by omega)).2]; exact (k2.2.1 u hu).2
    obtain ⟨-, ⟨l1, l2, l3, l4⟩, -, hcl⟩ := L
    refine ⟨_, rfl, c34.trans c5, by omega, cs4, ⟨?_, ?_, ?_, ?_, ?_⟩, ⟨by omega, by omega, by omega, by rw [List.length_append, List.length_singleton]; omega⟩, fun i hi => ?_, fun i c hc => ?_⟩
    · exact x4.1.1
    · exact x4.1.2.1
    · exact x4.1.2.2
    · exact x4.2.1.1
    · rw [List.length_append, List.length_singleton, hk]; rfl
    · exact x4.2.2.2 i hi
    · by_cases hi : i < acc.length
      · rw [List.getElem?_append_left hi] at hc
        exact (hcl i c hc).kp k5 (fun d u1 u2 => arr5 d i u1 u2 (by omega)) (by omega)
      · have hlt := (List.getElem?_eq_some_iff.mp hc).1
        rw [List.length_append, List.length_singleton] at hlt
        have hik : i = k := by omega
        rw [List.getElem?_append_right (by omega), show i - acc.length = 0 by omega] at hc
        have hcy : y.1 = c := Option.some.inj hc
        rw [← hcy, hik]
        refine ⟨cs, cs2, cs4, ⟨?_, ?_, ?_, ?_⟩, ⟨hcs, by omega, Nat.le_refl _⟩, rn4, fun e => ?_⟩
        · show hI g4 84 k = _
          rw [h844 84 k (by omega) (by omega), if_neg (by omega), h84, hy.1]
        · show hI g4 85 k = _
          rw [h844 85 k (by omega) (by omega), if_neg (by omega), h85]
        · show hI g4 86 k = _
          rw [h844 86 k (by omega) (by omega), if_pos ⟨rfl, rfl⟩]
        · rw [hI_sI, if_neg (by omega), hI_sI, if_pos ⟨rfl, rfl⟩]
        · rw [hy.1] at e
          rw [hy.2]
          exact RunM.ext (hP e) (fun u _ hu => k4.2.1 u hu)
theorem clauseM {p cs : Nat} {acc : List Clz} {g : AHp} (L : LMP ty n p acc cs g) : ∃ g1, m_X12_clause g = some ((), g1) ∧ Ch PLa g g1 ∧ (match clS ty n acc.length p with
    | .inl F => hI g1 70 6 = F ∧ F.toInt < 0
    | .inr y => p < y.2 ∧ ∃ cs1, LMP ty n y.2 (acc ++ [y.1]) cs1 g1) := by
  obtain ⟨⟨x1, x2, x3, x4, x5⟩, ⟨y1, y2, y3, y4⟩, x7, hcl⟩ := id L
  unfold m_X12_clause clS
  rw [hereP L, bd_some]
  have z110 : sz ty n p = 110 ↔ sg ty n p = 110 := sz_sg (by decide) (by decide)
  have z112 : sz ty n p = 112 ↔ sg ty n p = 112 := sz_sg (by decide) (by decide)
  by_cases hb : sg ty n p = 110 ∨ sg ty n p = 112
  rotate_left
  · have hb2 := not_or.mp hb
    have hng : (flt 1 p).toInt < 0 := flt_neg (k := 1) (by omega) (by omega) (by omega)
    have hz : hI (sI g 70 6 (flt 1 p)) 70 6 = flt 1 p := by rw [hI_sI, if_pos ⟨rfl, rfl⟩]
    rw [if_neg (fun z => hb2.1 (z110.mp z)), if_neg (fun z => hb2.2 (z112.mp z)), x1, wrongsM x3, bd_some, c47_bad hz (neg_ne hng), if_neg hb]
    exact ⟨_, rfl, Ch.rf.sI (by simp), hz, hng⟩
  have hp : p < n := sg_lt (fun h => by rw [h] at hb; revert hb; decide)
  rw [ite_two (by rw [z110, z112]; exact hb), if_pos hb, sg_sz hp]
  unfold m_X12_clause_29
  rw [x5]
  by_cases hk : acc.length < 14
  rotate_left
  · have h14 : acc.length = 14 := by omega
    have hng : (flt 4 p).toInt < 0 := flt_neg (k := 4) (by omega) (by omega) (by omega)
    have hz : hI (sI g 70 6 (flt 4 p)) 70 6 = flt 4 p := by rw [hI_sI, if_pos ⟨rfl, rfl⟩]
    rw [if_pos (show nI acc.length = 14 by rw [h14]; rfl), x1, wrongsM x3, bd_some, c47_bad hz (neg_ne hng), if_neg hk]
    exact ⟨_, rfl, Ch.rf.sI (by simp), hz, hng⟩
  rw [if_neg (show ¬ nI acc.length = 14 by rw [show (14 : Int32) = nI 14 from rfl, nI_eq (by omega) (by omega)]; omega), if_pos hk]
  -- what stands before the price
  have hst : ∃ g2, (m_X12_clause_47 (sg ty n p) g = if sg ty n p = 112 then bd (m_X12_value g2) (fun _ h => m_X12_clause_108 h) else m_X12_clause_108 g2) ∧ RLx ty n (p + 1) cs 0 0 g2 ∧ KpP PLa cs 0 g g2 ∧ hI g2 70 7 = nI acc.length ∧ hI g2 84 acc.length = sg ty n p ∧ hI g2 85 acc.length = nI cs ∧ ∀ c i, 84 ≤ c → c ≤ 87 → i ≠ acc.length → hI g2 c i = hI g c i := by
    refine ⟨sI (sI (sI (sI (sI g 84 acc.length (sg ty n p)) 85 acc.length (nI cs)) 70 4 (nI (p + 1))) 70 10 0) 70 9 0, ?_, ⟨⟨rfl, x2, x3⟩, ⟨x4, rfl, rfl⟩, ⟨by omega, by omega, by omega, by omega⟩, x7⟩, ⟨((((Ch.rf.sI (by simp)).sI (by simp)).sI (by simp)).sI (by simp)).sI (by simp), fun _ _ => ⟨rfl, rfl⟩, fun _ _ => rfl⟩, x5, ?_, ?_, fun c i u1 u2 u3 => ?_⟩
    · have gi : inb (nI acc.length) 14 := inb_nI hk (by omega)
      have ec : (nI acc.length).toNatClampNeg = acc.length := nI_clamp (by omega)
      have b7 : hI (sI g 84 acc.length (sg ty n p)) 70 7 = nI acc.length := by rw [hI_sI, if_neg (by omega)]; exact x5
      have b8 : hI (sI g 84 acc.length (sg ty n p)) 70 8 = nI cs := by rw [hI_sI, if_neg (by omega)]; exact x4
      have b4 : hI (sI (sI g 84 acc.length (sg ty n p)) 85 acc.length (nI cs)) 70 4 = nI p := by rw [hI_sI, if_neg (by omega), hI_sI, if_neg (by omega)]; exact x1
      unfold m_X12_clause_47
      rw [goodM x3, bd_some, if_neg one_ne, x5, gd_pos gi, ec, lt_eq, b7, gd_pos gi, ec, b8, lt_eq, b4, nI_1, lt_eq, lt_eq, lt_eq]
    · rw [hI_sI, if_neg (by omega), hI_sI, if_neg (by omega), hI_sI, if_neg (by omega), hI_sI, if_neg (by omega), hI_sI, if_pos ⟨rfl, rfl⟩]
    · rw [hI_sI, if_neg (by omega), hI_sI, if_neg (by omega), hI_sI, if_neg (by omega), hI_sI, if_pos ⟨rfl, rfl⟩]
    · rw [hI_sI, if_neg (by omega), hI_sI, if_neg (by omega), hI_sI, if_neg (by omega), hI_sI, if_neg (by omega), hI_sI, if_neg (by omega)]
  obtain ⟨g2, e2, r2, k2, h72, h842, h852, arr2⟩ := hst
  rw [e2]
  by_cases h112 : sg ty n p = 112
  · rw [if_pos h112, if_pos h112]
    have V := valueMM (o := 0) (by omega) r2 (fun h => by omega) (fun h => by omega)
    have up : ∀ {u v : AHp}, Ch PLm u v → Ch PLa u v := fun c => plk_a (plm_k c)
    have bad : ∀ (F : Int32) (g3 : AHp), m_X12_value g2 = some ((), g3) → hI g3 70 6 = F → F.toInt < 0 → Ch PLm g2 g3 → ∃ g1, (bd (m_X12_value g2) fun _ h => m_X12_clause_108 h) = some ((), g1) ∧ Ch PLa g g1 ∧ hI g1 70 6 = F ∧ F.toInt < 0 := fun F g3 e3 u1 u2 c3 => by
      have h73 : hI g3 70 7 = nI acc.length := by rw [c3.i (by simp)]; exact h72
      have b6 : hI (sI g3 86 acc.length (hI g3 70 8)) 70 6 = F := by rw [hI_sI, if_neg (by omega)]; exact u1
      obtain ⟨g5, e5, h5, c5⟩ := c132X (g := sI g3 86 acc.length (hI g3 70 8)) hk (by rw [hI_sI, if_neg (by omega)]; exact h73) b6
      refine ⟨g5, ?_, ((k2.1.trans (up c3)).trans (Ch.rf.sI (by simp))).trans c5, h5, u2⟩
      rw [e3, bd_some]
      unfold m_X12_clause_108
      rw [h73, gd_pos (inb_nI hk (by omega)), nI_clamp (by omega), lt_eq, badM b6 (neg_ne u2), bd_some, if_pos rfl, e5]
    cases hrs : SMs ty n 10 0 (p + 1) with
    | inl F =>
      rw [hrs] at V
      obtain ⟨g3, e3, q3, c3⟩ := V
      exact bad F g3 e3 q3.1 q3.2 c3
    | inr z =>
      have hlt := SMs_V ty n 10 0 (p + 1) _ hrs
      obtain ⟨P, mP, q⟩ := z
      rw [hrs] at V
      obtain ⟨g3, e3, c3, V⟩ := V
      simp only [] at V hlt
      rcases V with ⟨h93, u1, u2⟩ | ⟨h93, cs3, x3', r3, k3⟩
      · obtain ⟨g5, e5, c5, q5⟩ := bad _ g3 e3 u1 u2 c3
        refine ⟨g5, e5, c5, ?_⟩
        unfold c2S
        simp only [if_neg (show ¬ sg ty n q = 40 by rw [h93]; decide)]
        exact q5
      · have hst3 := r3.1
        have o3 : ∀ c i, 84 ≤ c → c ≤ 87 → hI g3 c i = hI g2 c i := fun c i u1 u2 => c3.i (by
          simp only [Bool.or_eq_false_iff, Bool.and_eq_false_iff, beq_eq_false_iff_ne]; omega)
        obtain ⟨g5, e5, c5, r5⟩ := c108M (ban := false) (P := P) (g2 := g3) L rfl hk x3' (by omega) (k2.trans ⟨up k3.1, k3.2⟩ (Nat.le_refl _) (Nat.le_refl _)) (by omega) (by rw [c3.i (by simp)]; exact h72) (by rw [o3 84 _ (by omega) (by omega), h842, h112, if_neg (by decide)]) (by rw [o3 85 _ (by omega) (by omega), h852]) (fun c i u1 u2 u3 => by rw [o3 c i u1 u2]; exact arr2 c i u1 u2 u3) (fun _ => r3)
        refine ⟨g5, by rw [e3, bd_some, e5], (k2.1.trans (up c3)).trans c5, ?_⟩
        simp only []
        exact r5
  · rw [if_neg h112, if_neg h112]
    have h110 := hb.resolve_right h112
    obtain ⟨g5, e5, c5, r5⟩ := c108M (ban := true) (P := fun _ => none) (g2 := g2) L rfl hk r2 (by omega) k2 (Nat.le_refl _) h72 (by rw [h842, h110, if_pos rfl]) h852 arr2 (fun h => by cases h)
    exact ⟨g5, e5, k2.1.trans c5, r5⟩
end CLM
