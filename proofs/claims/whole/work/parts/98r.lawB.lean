section LWM
variable {ty : Nat → Int32} {n w : Nat}
def OutLm (ty : Nat → Int32) (n w : Nat) (X : Option (Int32 × AHp)) (g : AHp) (r : Int32 ⊕ List Clz) : Prop := match r with
  | .inl F => ∃ g1, X = some (F, g1) ∧ Ch PLa g g1
  | .inr cl => ∃ p cs g1, X = m_X12_law_150 FU (nI w) 0 g1 ∧ LMP ty n p cl cs g1 ∧ Ch PLa g g1
theorem law61_bad {F : Int32} {g : AHp} (h : hI g 70 6 = F) (hF : F.toInt < 0) (f : Nat) (x1 x3 : Int32) : m_X12_law_61 (f + 1) x1 x3 g = some (F, g) := by
  have hn : ¬ (0 : Int32) ≤ F := by rw [i32_le]; simp only [tIall]; omega
  rw [m_X12_law_61, h, if_neg hn, badM h (neg_ne hF), bd_some, if_pos rfl, h, if_neg hn, ite_self]
theorem law61M : ∀ (sf f p : Nat) (acc : List Clz) (cs : Nat) (g : AHp), LMP ty n p acc cs g → n - p < sf → n - p + 2 < f → OutLm ty n w (m_X12_law_61 f (nI w) 1 g) g (lwS ty n sf acc p) := by
  intro sf
  induction sf with
  | zero => intro f p acc cs g L h; omega
  | succ sf ih =>
    intro f p acc cs g L hsf hf
    obtain ⟨f, rfl⟩ : ∃ q, f = q + 2 := ⟨f - 2, by omega⟩
    obtain ⟨⟨x1, x2, x3, x4, x5⟩, ⟨y1, y2, y3, y4⟩, x7, hcl⟩ := id L
    obtain ⟨g1, e1, c1, r1⟩ := clauseM L
    have e0 : m_X12_law_61 (f + 2) (nI w) 1 g = bd (m_X12_isGood g1) fun r33 h34 => (if r33 = 0 then (m_X12_law_99 (m_X12_law_61 (f + 1)) (nI w) 0 h34) else (if (hI h34 70 5) ≤ (hI h34 70 4) then (m_X12_law_99 (m_X12_law_61 (f + 1)) (nI w) 0 h34) else (m_X12_law_99 (m_X12_law_61 (f + 1)) (nI w) 1 h34))) := by
      rw [show f + 2 = (f + 1) + 1 from rfl, m_X12_law_61, if_neg one_ne, goodM x3, bd_some, if_neg one_ne, e1, bd_some]
    rw [e0, lwS]
    have l99 : ∀ h, m_X12_law_99 (m_X12_law_61 (f + 1)) (nI w) 0 h = m_X12_law_61 (f + 1) (nI w) 0 h := fun h => by
      unfold m_X12_law_99
      rw [if_pos rfl]
    cases hrs : clS ty n acc.length p with
    | inl F =>
      rw [hrs] at r1
      rw [badM r1.1 (neg_ne r1.2), bd_some, if_pos rfl, l99, law61_bad r1.1 r1.2]
      exact ⟨g1, rfl, c1⟩
    | inr y =>
      rw [hrs] at r1
      obtain ⟨hpy, cs1, L1⟩ := r1
      obtain ⟨⟨z1, z2, z3, z4, z5⟩, ⟨u1, u2, u3, u4⟩, z7, zcl⟩ := id L1
      simp only []
      rw [goodM z3, bd_some, if_neg one_ne, z1, z2]
      by_cases hyn : y.2 < n
      · rw [if_neg (nI_ge hyn (by omega))]
        have l991 : m_X12_law_99 (m_X12_law_61 (f + 1)) (nI w) 1 g1 = (if sz ty n y.2 = 59 then m_X12_law_61 (f + 1) (nI w) 1 (sI g1 70 4 (nI (y.2 + 1))) else m_X12_law_61 (f + 1) (nI w) 1 (sI (sI g1 70 6 (flt 1 y.2)) 70 4 (nI (y.2 + 1)))) := by
          unfold m_X12_law_99
          rw [if_neg one_ne, hereP L1, bd_some]
          by_cases h59 : sz ty n y.2 = 59
          · rw [if_pos h59, if_pos h59, z1, nI_1, lt_eq]
          · rw [if_neg h59, if_neg h59, z1, wrongsM z3, bd_some, hI_sI, if_neg (by omega), z1, nI_1, lt_eq]
        rw [l991, sg_sz hyn]
        by_cases h59 : sg ty n y.2 = 59
        · rw [if_pos h59, if_pos h59]
          have L2' : LMP ty n (y.2 + 1) (acc ++ [y.1]) cs1 (sI g1 70 4 (nI (y.2 + 1))) := ⟨⟨rfl, z2, z3, z4, z5⟩, ⟨by omega, by omega, by omega, u4⟩, z7, zcl⟩
          have O := ih (f + 1) (y.2 + 1) (acc ++ [y.1]) cs1 (sI g1 70 4 (nI (y.2 + 1))) L2' (by omega) (by omega)
          have c2 : Ch PLa g (sI g1 70 4 (nI (y.2 + 1))) := c1.sI (by simp)
          cases hr2 : lwS ty n sf (acc ++ [y.1]) (y.2 + 1) with
          | inl F =>
            rw [hr2] at O
            obtain ⟨g3, e3, c3⟩ := O
            exact ⟨g3, e3, c2.trans c3⟩
          | inr cl =>
            rw [hr2] at O
            obtain ⟨p3, cs3, g3, e3, L3, c3⟩ := O
            exact ⟨p3, cs3, g3, e3, L3, c2.trans c3⟩
        · rw [if_neg h59, if_neg h59, if_pos hyn]
          have hng : (flt 1 y.2).toInt < 0 := flt_neg (k := 1) (by omega) (by omega) (by omega)
          rw [law61_bad (F := flt 1 y.2) (by rw [hI_sI, if_neg (by omega), hI_sI, if_pos ⟨rfl, rfl⟩]) hng]
          exact ⟨_, rfl, (c1.sI (by simp)).sI (by simp)⟩
      · have hsg : ¬ sg ty n y.2 = 59 := by
          unfold sg
          rw [if_neg hyn]; decide
        rw [if_pos (nI_le (by omega) (by omega)), l99, if_neg hsg, if_neg hyn]
        refine ⟨y.2, cs1, g1, ?_, L1, c1⟩
        rw [m_X12_law_61, if_pos rfl, z3, if_pos (by decide)]
/-- what is copied -/
def Cp1 (w : Nat) (g : AHp) (i : Nat) : Prop := hI g 78 (14 * w + i) = hI g 84 i ∧ hI g 79 (14 * w + i) = nI (200 * w) + hI g 85 i ∧ hI g 80 (14 * w + i) = nI (200 * w) + hI g 86 i ∧ hI g 81 (14 * w + i) = nI (200 * w) + hI g 87 i
def Cp2 (w : Nat) (g : AHp) (i : Nat) : Prop := hI g 82 (200 * w + i) = hI g 88 i ∧ hI g 83 (200 * w + i) = hI g 89 i
theorem law150M (hw : w ≤ 1) {K : Nat} (hK : K ≤ 14) : ∀ (d k f : Nat) (g : AHp), k + d = K → d < f → hI g 70 7 = nI K → (∀ i, i < k → Cp1 w g i) → ∃ g1, m_X12_law_150 f (nI w) (nI k) g = m_X12_law_262 FU (nI w) 0 g1 ∧ Ch (fun c i => (Nat.ble 78 c && Nat.ble c 81) && (Nat.ble (14 * w) i && Nat.ble i (14 * w + 13))) g g1 ∧ ∀ i, i < K → Cp1 w g1 i := by
  intro d
  induction d with
  | zero =>
    intro k f g hk hf h7 hc
    obtain ⟨f, rfl⟩ : ∃ q, f = q + 1 := ⟨f - 1, by omega⟩
    have : k = K := by omega
    subst this
    rw [m_X12_law_150, h7, if_pos (nI_le (Nat.le_refl _) (by omega))]
    exact ⟨g, rfl, Ch.rf, hc⟩
  | succ d ih =>
    intro k f g hk hf h7 hc
    obtain ⟨f, rfl⟩ : ∃ q, f = q + 1 := ⟨f - 1, by omega⟩
    have gk : inb (nI k) 14 := inb_nI (by omega) (by omega)
    have gk2 : inb (nI (14 * w + k)) 28 := inb_nI (by omega) (by omega)
    have ek : (nI k).toNatClampNeg = k := nI_clamp (by omega)
    have ek2 : (nI (14 * w + k)).toNatClampNeg = 14 * w + k := nI_clamp (by omega)
    have e14 : (14 : Int32) * nI w + nI k = nI (14 * w + k) := by rw [show (14 : Int32) * nI w = nI (14 * w) from pk_mul 14 w, nI_add]
    have e200 : (200 : Int32) * nI w = nI (200 * w) := pk_mul 200 w
    obtain ⟨g2, hg2⟩ : ∃ g2, g2 = sI (sI (sI (sI g 78 (14 * w + k) (hI g 84 k)) 79 (14 * w + k) (nI (200 * w) + hI g 85 k)) 80 (14 * w + k) (nI (200 * w) + hI g 86 k)) 81 (14 * w + k) (nI (200 * w) + hI g 87 k) := ⟨_, rfl⟩
    have c2 : Ch (fun c i => (c == 78 || c == 79 || c == 80 || c == 81) && i == 14 * w + k) g g2 := by
      rw [hg2]; exact (((Ch.rf.sI (by simp)).sI (by simp)).sI (by simp)).sI (by simp)
    have h84 : ∀ c i, 84 ≤ c → hI g2 c i = hI g c i := fun c i hc' => c2.i (by
      simp only [Bool.or_eq_false_iff, Bool.and_eq_false_iff, beq_eq_false_iff_ne]; omega)
    have hgo : m_X12_law_150 (f + 1) (nI w) (nI k) g = m_X12_law_150 f (nI w) (nI (k + 1)) g2 := by
      rw [m_X12_law_150, h7, if_neg (nI_ge (by omega) (by omega))]
      simp only [e14, e200, gd_pos gk, gd_pos gk2, ek, ek2, lt_eq, nI_1, hI_sI]
      rw [hg2]
      simp only [Nat.reduceEqDiff, false_and, if_false]
    obtain ⟨g3, e3, c3, r3⟩ := ih (k + 1) f g2 (by omega) (by omega) (by rw [c2.i (by simp)]; exact h7) (fun i hi => by
      by_cases e : i = k
      · rw [e]
        refine ⟨?_, ?_, ?_, ?_⟩
        · rw [h84 84 k (by omega), hg2, hI_sI, if_neg (by omega), hI_sI, if_neg (by omega), hI_sI, if_neg (by omega), hI_sI, if_pos ⟨rfl, rfl⟩]
        · rw [h84 85 k (by omega), hg2, hI_sI, if_neg (by omega), hI_sI, if_neg (by omega), hI_sI, if_pos ⟨rfl, rfl⟩]
        · rw [h84 86 k (by omega), hg2, hI_sI, if_neg (by omega), hI_sI, if_pos ⟨rfl, rfl⟩]
        · rw [h84 87 k (by omega), hg2, hI_sI, if_pos ⟨rfl, rfl⟩]
      · have := hc i (by omega)
        unfold Cp1 at this ⊢
        rw [h84 84 i (by omega), h84 85 i (by omega), h84 86 i (by omega), h84 87 i (by omega), c2.i (by simp; omega), c2.i (by simp; omega), c2.i (by simp; omega), c2.i (by simp; omega)]
        exact this)
    refine ⟨g3, by rw [hgo, e3], (c2.mono (fun c i hp => ?_)).trans c3, r3⟩
    simp only [Bool.or_eq_false_iff, Bool.and_eq_false_iff, beq_eq_false_iff_ne, ble_f] at hp ⊢
    omega
theorem law262M (hw : w ≤ 1) {K C : Nat} (hC : C ≤ 200) : ∀ (d k f : Nat) (g : AHp), k + d = C → d < f → hI g 70 8 = nI C → hI g 70 7 = nI K → (∀ i, i < k → Cp2 w g i) → ∃ g1, m_X12_law_262 f (nI w) (nI k) g = some (nI K, g1) ∧ Ch (fun c i => ((c == 82 || c == 83) && (Nat.ble (200 * w) i && Nat.ble i (200 * w + 199))) || (c == 77 && i == w)) g g1 ∧ hI g1 77 w = nI K ∧ ∀ i, i < C → Cp2 w g1 i := by
  intro d
  induction d with
  | zero =>
    intro k f g hk hf h8 h7 hc
    obtain ⟨f, rfl⟩ : ∃ q, f = q + 1 := ⟨f - 1, by omega⟩
    have : k = C := by omega
    subst this
    rw [m_X12_law_262, h8, if_pos (nI_le (Nat.le_refl _) (by omega)), gd_pos (inb_nI (by omega) (by omega)), nI_clamp (by omega), h7, lt_eq, hI_sI, if_neg (by omega), h7]
    refine ⟨sI g 77 w (nI K), rfl, Ch.rf.sI (by simp), by rw [hI_sI, if_pos ⟨rfl, rfl⟩], hc⟩
  | succ d ih =>
    intro k f g hk hf h8 h7 hc
    obtain ⟨f, rfl⟩ : ∃ q, f = q + 1 := ⟨f - 1, by omega⟩
    have gk : inb (nI k) 200 := inb_nI (by omega) (by omega)
    have gk2 : inb (nI (200 * w + k)) 400 := inb_nI (by omega) (by omega)
    have ek : (nI k).toNatClampNeg = k := nI_clamp (by omega)
    have ek2 : (nI (200 * w + k)).toNatClampNeg = 200 * w + k := nI_clamp (by omega)
    have e200 : (200 : Int32) * nI w + nI k = nI (200 * w + k) := by rw [show (200 : Int32) * nI w = nI (200 * w) from pk_mul 200 w, nI_add]
    obtain ⟨g2, hg2⟩ : ∃ g2, g2 = sI (sI g 82 (200 * w + k) (hI g 88 k)) 83 (200 * w + k) (hI g 89 k) := ⟨_, rfl⟩
    have c2 : Ch (fun c i => (c == 82 || c == 83) && i == 200 * w + k) g g2 := by
      rw [hg2]; exact (Ch.rf.sI (by simp)).sI (by simp)
    have hgo : m_X12_law_262 (f + 1) (nI w) (nI k) g = m_X12_law_262 f (nI w) (nI (k + 1)) g2 := by
      rw [m_X12_law_262, h8, if_neg (nI_ge (by omega) (by omega))]
      simp only [e200, gd_pos gk, gd_pos gk2, ek, ek2, lt_eq, nI_1, hI_sI]
      rw [hg2]
      simp only [Nat.reduceEqDiff, false_and, if_false]
    obtain ⟨g3, e3, c3, h3, r3⟩ := ih (k + 1) f g2 (by omega) (by omega) (by rw [c2.i (by simp)]; exact h8) (by rw [c2.i (by simp)]; exact h7) (fun i hi => by
      by_cases e : i = k
      · rw [e]
        refine ⟨?_, ?_⟩
        · rw [c2.i (k := 88) (by simp), hg2, hI_sI, if_neg (by omega), hI_sI, if_pos ⟨rfl, rfl⟩]
        · rw [c2.i (k := 89) (by simp), hg2, hI_sI, if_pos ⟨rfl, rfl⟩]
      · have := hc i (by omega)
        unfold Cp2 at this ⊢
        rw [c2.i (k := 88) (by simp), c2.i (k := 89) (by simp), c2.i (by simp; omega), c2.i (by simp; omega)]
        exact this)
    refine ⟨g3, by rw [hgo, e3], (c2.mono (fun c i hp => ?_)).trans c3, h3, r3⟩
    simp only [Bool.or_eq_false_iff, Bool.and_eq_false_iff, beq_eq_false_iff_ne, ble_f] at hp ⊢
    omega
end LWM
abbrev PLz (w : Nat) : Nat → Nat → Bool := fun k i => PLa k i || (k == 70 && (i == 1 || i == 5)) || ((Nat.ble 78 k && Nat.ble k 81) && (Nat.ble (14 * w) i && Nat.ble i (14 * w + 13))) || ((k == 82 || k == 83) && (Nat.ble (200 * w) i && Nat.ble i (200 * w + 199))) || (k == 77 && i == w)
/-- the reference's law: a fault, or as many clauses, which it keeps -/
theorem lawMM {ty : Nat → Int32} {n w mm : Nat} (hw : w ≤ 1) (hn : 1 ≤ n ∧ n ≤ 200) (hm : n ≤ mm ∧ mm ≤ 220) {g : AHp} (h701 : hI g 70 1 = nI mm) (hty : ∀ i, i < n → hI g 71 i &&& 255 = ty i) :
    ∃ g1, Ch (PLz w) g g1 ∧ hI g1 70 1 = 0 ∧ (match lwS ty n 300 [] 0 with
      | .inl F => m_X12_law (nI w) (nI n) g = some (F, g1) ∧ sameLM g g1
      | .inr cl => m_X12_law (nI w) (nI n) g = some (nI cl.length, g1) ∧ LawM g1 w cl) := by
  have hwI : 0 ≤ (nI w).toInt ∧ (nI w).toInt ≤ 1 := by rw [nI_toInt (by omega)]; omega
  have hnI : 1 ≤ (nI n).toInt ∧ (nI n).toInt ≤ 200 := by rw [nI_toInt (by omega)]; omega
  obtain ⟨g0, hg0⟩ : ∃ g0, g0 = sI (sI (sI (sI (sI (sI g 70 1 0) 70 4 0) 70 5 (nI n)) 70 6 0) 70 7 0) 70 8 0 := ⟨_, rfl⟩
  have c0 : Ch (fun k i => k == 70 && (i == 1 || i == 4 || i == 5 || i == 6 || i == 7 || i == 8)) g g0 := by
    rw [hg0]; exact (((((Ch.rf.sI (by simp)).sI (by simp)).sI (by simp)).sI (by simp)).sI (by simp)).sI (by simp)
  have e0 : m_X12_law (nI w) (nI n) g = m_X12_law_61 FU (nI w) 1 g0 := by
    unfold m_X12_law
    rw [isLawM, bd_some, b2i_t hwI, if_neg one_ne, liesI, bd_some, b2i_t (by exact hnI), if_neg one_ne, h701, if_pos (nI_le (by omega) (by omega)), lt_eq, lt_eq, lt_eq, lt_eq, lt_eq, lt_eq, hg0]
  have L0 : LMP ty n 0 [] 0 g0 := by
    refine ⟨⟨?_, ?_, ?_, ?_, ?_⟩, ⟨by omega, by omega, by omega, by simp⟩, fun i hi => by rw [c0.i (by simp)]; exact hty i hi, fun i q h => by simp at h⟩
    all_goals (rw [hg0]; rfl)
  have z1 : hI g0 70 1 = 0 := by rw [hg0]; rfl
  have up0 : Ch (PLz w) g g0 := c0.mono (fun k i hp => by
    simp only [Bool.or_eq_false_iff, Bool.and_eq_false_iff, beq_eq_false_iff_ne, ble_f] at hp ⊢; omega)
  have upa : ∀ {u v : AHp}, Ch PLa u v → Ch (PLz w) u v := fun c => c.mono (fun k i hp => by
    simp only [Bool.or_eq_false_iff, Bool.and_eq_false_iff, beq_eq_false_iff_ne, ble_f] at hp ⊢; omega)
  have O := law61M (ty := ty) (n := n) (w := w) 300 FU 0 [] 0 g0 L0 (by omega) (by unfold FU; omega)
  rw [← e0] at O
  cases hrs : lwS ty n 300 [] 0 with
  | inl F =>
    rw [hrs] at O
    obtain ⟨g1, e1, c1⟩ := O
    refine ⟨g1, up0.trans (upa c1), by rw [c1.i (by simp)]; exact z1, e1, fun k u1 u2 i => ?_⟩
    rw [c1.i (by simp only [Bool.or_eq_false_iff, Bool.and_eq_false_iff, beq_eq_false_iff_ne]; omega), c0.i (by simp only [Bool.or_eq_false_iff, Bool.and_eq_false_iff, beq_eq_false_iff_ne]; omega)]
  | inr cl =>
    rw [hrs] at O
    obtain ⟨p1, cs1, g1, e1, L1, c1⟩ := O
    obtain ⟨⟨x1, x2, x3, x4, x5⟩, ⟨y1, y2, y3, y4⟩, x7, hcl⟩ := L1
    obtain ⟨g2, e2, c2, r2⟩ := law150M hw (K := cl.length) y4 cl.length 0 FU g1 (by omega) (by unfold FU; omega) x5 (fun i hi => by omega)
    have u2 : ∀ k i, (k < 78 ∨ 81 < k) → hI g2 k i = hI g1 k i := fun k i hk => c2.i (by
      simp only [Bool.and_eq_false_iff, ble_f]; omega)
    obtain ⟨g3, e3, c3, h77, r3⟩ := law262M hw (K := cl.length) (C := cs1) (by omega) cs1 0 FU g2 (by omega) (by unfold FU; omega) (by rw [u2 70 8 (by omega)]; exact x4) (by rw [u2 70 7 (by omega)]; exact x5) (fun i hi => by omega)
    have u3 : ∀ k i, k ≠ 77 → k ≠ 82 → k ≠ 83 → hI g3 k i = hI g2 k i := fun k i h1 h2 h3 => c3.i (by
      simp only [Bool.or_eq_false_iff, Bool.and_eq_false_iff, beq_eq_false_iff_ne]; omega)
    refine ⟨g3, ((up0.trans (upa c1)).trans (c2.mono (fun k i hp => ?_))).trans (c3.mono (fun k i hp => ?_)), ?_, ?_, y4, h77, fun i q hq => ?_⟩
    · simp only [Bool.or_eq_false_iff, Bool.and_eq_false_iff, beq_eq_false_iff_ne, ble_f] at hp ⊢; omega
    · simp only [Bool.or_eq_false_iff, Bool.and_eq_false_iff, beq_eq_false_iff_ne, ble_f] at hp ⊢; omega
    · rw [u3 70 1 (by omega) (by omega) (by omega), u2 70 1 (by omega), c1.i (by simp)]; exact z1
    · rw [e1, show m_X12_law_150 FU (nI w) 0 g1 = _ from e2, show m_X12_law_262 FU (nI w) 0 g2 = _ from e3]
    · have hi : i < cl.length := (List.getElem?_eq_some_iff.mp hq).1
      obtain ⟨a, b, c, ⟨k1, k2, k3, k4⟩, ⟨k5, k6, k7⟩, rB, rE⟩ := hcl i q hq
      obtain ⟨s1, s2, s3, s4⟩ := r2 i hi
      rw [u2 84 i (by omega), k1] at s1
      rw [u2 85 i (by omega), k2, nI_add] at s2
      rw [u2 86 i (by omega), k3, nI_add] at s3
      rw [u2 87 i (by omega), k4, nI_add] at s4
      have hcod : ∀ u, u < cs1 → hI g3 82 (200 * w + u) = hI g1 88 u ∧ hI g3 83 (200 * w + u) = hI g1 89 u := fun u hu => by
        obtain ⟨t1, t2⟩ := r3 u hu
        rw [t1, t2, u3 88 u (by omega) (by omega) (by omega), u3 89 u (by omega) (by omega) (by omega), u2 88 u (by omega), u2 89 u (by omega)]
        exact ⟨rfl, rfl⟩
      rw [u3 78 _ (by omega) (by omega) (by omega), u3 79 _ (by omega) (by omega) (by omega), u3 80 _ (by omega) (by omega) (by omega), u3 81 _ (by omega) (by omega) (by omega), s1, s2, s3, s4]
      exact ⟨rfl, rB.seg hw (fun u _ hu => hcod u (by omega)), fun e => (rE e).seg hw (fun u _ hu => hcod u (by omega))⟩
