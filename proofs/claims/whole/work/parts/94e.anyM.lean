/-! any talk: the reference -/
section ANYM
variable {E : En} {A : APar} {an bn : Nat}
def MX (E : En) (A : APar) (g : AHp) : Prop := RX E g ∧ (∀ j, j < A.n → hI g 97 j = nI (j % 2)) ∧ ∀ j, j < A.K → hI g 104 j = nI (A.kd j)
abbrev P5 : Nat → Nat → Bool := fun k i => PMo k i || k == 105 || k == 106 || k == 107
theorem pmo_p5 {h g : AHp} (c : Ch PMo h g) : Ch P5 h g := c.mono (fun k i hp => by
  simp only [Bool.or_eq_false_iff] at hp ⊢; exact hp.1.1.1)
theorem p5_pkm {h g : AHp} (c : Ch P5 h g) : Ch PKm h g := c.mono (fun k i hp => by
  simp only [Bool.or_eq_false_iff, Bool.and_eq_false_iff, beq_eq_false_iff_ne, ble_f] at hp ⊢; omega)
theorem MX.p5 {h g : AHp} (x : MX E A h) (c : Ch P5 h g) : MX E A g := ⟨x.1.pkm (p5_pkm c), fun j hj => by rw [c.i rfl]; exact x.2.1 j hj, fun j hj => by rw [c.i rfl]; exact x.2.2 j hj⟩
/-- laid up to a number -/
def LY (E : En) (A : APar) (an bn N : Nat) (g : AHp) : Prop := ∀ i q a b, i < A.n → q < A.K → a ≤ 24 → b ≤ 24 → cbS an bn i (25 * a + b) = true → (4 * i + q) * 625 + (25 * a + b) < N → ∀ k, k < 32 → tb (hI g 105 ((4 * i + q) * 625 + (25 * a + b))) k = FA E A i q a b k
theorem lay41 (ea : E.a = nI an) (eb : E.b = nI bn) (ha : an ≤ 24) (hb : bn ≤ 24) (k24 : Int32 → Int32 → Int32 → AHp → Option (Unit × AHp)) (k32 : Int32 → Int32 → Int32 → Int32 → AHp → Option (Unit × AHp)) {i q : Nat} (hi : i < A.n) (hq : q < A.K) : ∀ (d p f : Nat) (g : AHp), p + d = 625 → d < f → MX E A g → LY E A an bn ((4 * i + q) * 625 + p) g → ∃ g1, m_X12_laysAny_41 k24 k32 f (nI A.K) (nI A.n) (nI i) (nI q) (nI p) g = k32 (nI A.K) (nI A.n) (nI i) (nI (q + 1)) g1 ∧ MX E A g1 ∧ LY E A an bn ((4 * i + (q + 1)) * 625) g1 ∧ Ch P5 g g1 := by
  have hn := A.hn
  have hK := A.hK
  have hm := E.hm
  intro d
  induction d with
  | zero =>
    intro p f g hp hf x ly
    obtain ⟨f, rfl⟩ : ∃ a, f = a + 1 := ⟨f - 1, by omega⟩
    have : p = 625 := by omega
    subst this
    exact ⟨g, by rw [m_X12_laysAny_41, if_pos (by decide), lt_eq, nI_1], x, (by rw [show (4 * i + (q + 1)) * 625 = (4 * i + q) * 625 + 625 by omega]; exact ly), Ch.rf⟩
  | succ d ih =>
    intro p f g hp hf x ly
    obtain ⟨f, rfl⟩ : ∃ a, f = a + 1 := ⟨f - 1, by omega⟩
    have epair : p = 25 * (p / 25) + p % 25 := by omega
    have hpa : p / 25 ≤ 24 := by omega
    have hpb : p % 25 ≤ 24 := by omega
    have ed : nI p / 25 = nI (p / 25) := pk_div (a := p) (d := 25) (by omega) (by omega) (by omega)
    have em : nI p - nI p / 25 * 25 = nI (p % 25) := pk_rem (a := p) (d := 25) (by omega) (by omega) (by omega)
    have eqn : ∀ u v : Nat, u < 1000 → v < 1000 → (nI u = nI v ↔ u = v) := fun u v h1 h2 => by rw [i32_eq, nI_toInt (by omega), nI_toInt (by omega)]; omega
    have e123 : m_X12_laysAny_41 k24 k32 (f + 1) (nI A.K) (nI A.n) (nI i) (nI q) (nI p) g = m_X12_laysAny_123 k24 k32 (m_X12_laysAny_41 k24 k32 f) (nI A.K) (nI A.n) (nI i) (nI q) (nI p) (if cbS an bn i p = true then 1 else 0) g := by
      rw [m_X12_laysAny_41, if_neg (show ¬ 625 ≤ nI p from nI_ge (a := p) (b := 625) (by omega) (by omega)), em, ed]
      unfold cbS
      by_cases h0 : i = 0
      · subst h0
        rw [if_pos (show nI 0 ≤ 1 from by decide), if_neg (show ¬ nI 0 = 1 from by decide), startPairM x.1 ea eb, bd_some, if_pos rfl]
        by_cases hq2 : p = 25 * an + bn
        · rw [if_pos ((eqn _ _ (by omega) (by omega)).mpr hq2), decide_eq_true hq2, i01_t]
        · rw [if_neg (fun z => hq2 ((eqn _ _ (by omega) (by omega)).mp z)), decide_eq_false hq2, i01_f]
      · rw [if_neg h0]
        by_cases h1 : i = 1
        · subst h1
          rw [if_pos (show nI 1 ≤ 1 from by decide), if_pos (show nI 1 = 1 from rfl), x.1.lenAM, bd_some, ea, if_pos rfl]
          by_cases hq2 : p % 25 = an
          · rw [if_pos ((eqn _ _ (by omega) (by omega)).mpr hq2), decide_eq_true hq2, i01_t]
          · rw [if_neg (fun z => hq2 ((eqn _ _ (by omega) (by omega)).mp z)), decide_eq_false hq2, i01_f]
        · rw [if_neg (show ¬ nI i ≤ 1 from nI_ge (a := 1) (b := i) (by omega) (by omega)), if_neg h1]
          by_cases h3 : 0 < p % 25
          · rw [if_neg (nI_nle h3 (by omega))]
            by_cases h2 : 0 < p / 25
            · rw [if_neg (nI_nle h2 (by omega)), decide_eq_true ⟨h2, h3⟩, i01_t]
            · rw [if_pos (by rw [show p / 25 = 0 by omega]; decide), decide_eq_false (by omega), i01_f]
          · rw [if_pos (by rw [show p % 25 = 0 by omega]; decide), decide_eq_false (by omega), i01_f]
    rw [e123]
    unfold m_X12_laysAny_123
    cases hcb : cbS an bn i p with
    | false =>
      rw [i01_f, if_pos rfl, lt_eq, nI_1]
      refine ih (p + 1) f g (by omega) (by omega) x (fun i2 q2 a b h1 h2 h3 h4 h5 h6 => ?_)
      by_cases he : (4 * i2 + q2) * 625 + (25 * a + b) = (4 * i + q) * 625 + p
      · have : i2 = i := by omega
        subst this
        rw [show 25 * a + b = p by omega, hcb] at h5; cases h5
      · exact ly i2 q2 a b h1 h2 h3 h4 h5 (by omega)
    | true =>
      have hs : 0 ≤ (whoA i).toInt ∧ (whoA i).toInt ≤ 5 := by unfold whoA; rw [nI_toInt (by omega)]; omega
      have hr : -1 ≤ (rrA E i).toInt ∧ (rrA E i).toInt ≤ 5 := by
        unfold rrA; split
        · exact E.hr
        · rw [nI_toInt (by omega)]; omega
      have hkd := A.hkd q hq
      have htt : 0 ≤ (nI (A.kd q)).toInt ∧ (nI (A.kd q)).toInt ≤ 11 := by rw [nI_toInt (by omega)]; omega
      have ect : (nI (A.kd q)).toNatClampNeg = A.kd q := nI_clamp (by omega)
      obtain ⟨g0, e0, c0, x0, s0⟩ := standsBehindM x.1 (show i ≤ 12 by omega) (nI (p / 25)) (nI (p % 25))
      have her : (if i = 0 then E.r else hI g 97 (i - 1)) = rrA E i := by
        unfold rrA
        by_cases h0 : i = 0
        · rw [if_pos h0, if_pos h0]
        · rw [if_neg h0, if_neg h0, x.2.1 (i - 1) (by omega)]
      rw [her] at s0
      obtain ⟨y, g1, e1, c1, x1, s1, q1⟩ := x0.ask s0 1 hs htt hr
      rw [ect] at q1
      have c01 := (pst_pmo c0).trans (pws_pmo c1)
      have ex : (((4 * nI i) + nI q) * 625) + nI p = nI ((4 * i + q) * 625 + p) := by
        rw [show (4 : Int32) * nI i = nI (4 * i) from pk_mul 4 i, nI_add, show nI (4 * i + q) * 625 = nI ((4 * i + q) * 625) from pk_mul _ 625, nI_add]
      rw [i01_t, if_neg one_ne, em, ed, e0, bd_some]
      simp only [gd_pos (inb_nI (n := i) (N := 12) (by omega) (by omega)), gd_pos (inb_nI (n := q) (N := 4) (by omega) (by omega)), nI_clamp (n := i) (show i < 2 ^ 31 by omega), nI_clamp (n := q) (show q < 2 ^ 31 by omega), ex, gd_pos (inb_nI (n := (4 * i + q) * 625 + p) (N := 12500) (by omega) (by omega)), nI_clamp (n := (4 * i + q) * 625 + p) (show (4 * i + q) * 625 + p < 2 ^ 31 by omega), lt_eq, nI_1]
      rw [show hI g0 97 i = whoA i from by rw [c0.i rfl]; exact x.2.1 i hi, show hI g0 104 q = nI (A.kd q) from by rw [c0.i rfl]; exact x.2.2 q hq, e1, bd_some]
      have cw : Ch P5 g (sI g1 105 ((4 * i + q) * 625 + p) y) := (pmo_p5 c01).sI (by simp)
      obtain ⟨g2, e2, x2, l2, c2⟩ := ih (p + 1) f (sI g1 105 ((4 * i + q) * 625 + p) y) (by omega) (by omega) (x.p5 cw) (fun i2 q2 a b h1 h2 h3 h4 h5 h6 k hk => by
        rw [hI_sI]
        by_cases he : (4 * i2 + q2) * 625 + (25 * a + b) = (4 * i + q) * 625 + p
        · have hi2 : i2 = i := by omega
          have hq2 : q2 = q := by omega
          subst hi2 hq2
          have hab : a = p / 25 ∧ b = p % 25 := by omega
          rw [if_pos ⟨rfl, he⟩, q1 k hk, hab.1, hab.2]; rfl
        · rw [if_neg (by omega), c01.i rfl]; exact ly i2 q2 a b h1 h2 h3 h4 h5 (by omega) k hk)
      exact ⟨g2, e2, x2, l2, cw.trans c2⟩
set_option maxRecDepth 8192 in
theorem lay32 (ea : E.a = nI an) (eb : E.b = nI bn) (ha : an ≤ 24) (hb : bn ≤ 24) (k24 : Int32 → Int32 → Int32 → AHp → Option (Unit × AHp)) {i : Nat} (hi : i < A.n) : ∀ (d q f : Nat) (g : AHp), q + d = A.K → d < f → MX E A g → LY E A an bn ((4 * i + q) * 625) g → ∃ g1, m_X12_laysAny_32 k24 f (nI A.K) (nI A.n) (nI i) (nI q) g = k24 (nI A.K) (nI A.n) (nI (i + 1)) g1 ∧ MX E A g1 ∧ LY E A an bn ((4 * (i + 1)) * 625) g1 ∧ Ch P5 g g1 := by
  have hn := A.hn
  have hK := A.hK
  intro d
  induction d with
  | zero =>
    intro q f g hq hf x ly
    obtain ⟨f, rfl⟩ : ∃ a, f = a + 1 := ⟨f - 1, by omega⟩
    refine ⟨g, by rw [m_X12_laysAny_32, if_pos (nI_le (by omega) (by omega)), lt_eq, nI_1], x, fun i2 q2 a b h1 h2 h3 h4 h5 h6 => ly i2 q2 a b h1 h2 h3 h4 h5 ?_, Ch.rf⟩
    omega
  | succ d ih =>
    intro q f g hq hf x ly
    obtain ⟨f, rfl⟩ : ∃ a, f = a + 1 := ⟨f - 1, by omega⟩
    obtain ⟨g1, e1, x1, l1, c1⟩ := lay41 ea eb ha hb k24 (m_X12_laysAny_32 k24 f) hi (show q < A.K by omega) 625 0 FU g (by omega) (by unfold FU; omega) x (by rw [Nat.add_zero]; exact ly)
    obtain ⟨g2, e2, x2, l2, c2⟩ := ih (q + 1) f g1 (by omega) (by omega) x1 l1
    refine ⟨g2, ?_, x2, l2, c1.trans c2⟩
    rw [m_X12_laysAny_32, if_neg (nI_ge (by omega) (by omega))]
    rw [show m_X12_laysAny_41 k24 (m_X12_laysAny_32 k24 f) FU (nI A.K) (nI A.n) (nI i) (nI q) 0 g = _ from e1, e2]
theorem lay24 (ea : E.a = nI an) (eb : E.b = nI bn) (ha : an ≤ 24) (hb : bn ≤ 24) : ∀ (d i f : Nat) (g : AHp), i + d = A.n → d < f → MX E A g → LY E A an bn ((4 * i) * 625) g → ∃ g1, m_X12_laysAny_24 f (nI A.K) (nI A.n) (nI i) g = some ((), g1) ∧ MX E A g1 ∧ LY E A an bn 12500 g1 ∧ Ch P5 g g1 := by
  have hn := A.hn
  have hK := A.hK
  intro d
  induction d with
  | zero =>
    intro i f g hi hf x ly
    obtain ⟨f, rfl⟩ : ∃ a, f = a + 1 := ⟨f - 1, by omega⟩
    refine ⟨g, by rw [m_X12_laysAny_24, if_pos (nI_le (by omega) (by omega))], x, fun i2 q2 a b h1 h2 h3 h4 h5 h6 => ly i2 q2 a b h1 h2 h3 h4 h5 (by omega), Ch.rf⟩
  | succ d ih =>
    intro i f g hi hf x ly
    obtain ⟨f, rfl⟩ : ∃ a, f = a + 1 := ⟨f - 1, by omega⟩
    obtain ⟨g1, e1, x1, l1, c1⟩ := lay32 ea eb ha hb (m_X12_laysAny_24 f) (show i < A.n by omega) A.K 0 FU g (by omega) (by unfold FU; omega) x (by rw [Nat.add_zero]; exact ly)
    obtain ⟨g2, e2, x2, l2, c2⟩ := ih (i + 1) f g1 (by omega) (by omega) x1 l1
    refine ⟨g2, ?_, x2, l2, c1.trans c2⟩
    rw [m_X12_laysAny_24, if_neg (nI_ge (by omega) (by omega))]
    rw [show m_X12_laysAny_32 (m_X12_laysAny_24 f) FU (nI A.K) (nI A.n) (nI i) 0 g = _ from e1, e2]
theorem lay2 : ∀ (d i f : Nat) (g : AHp), i + d = A.n → d < f → RX E g → (∀ j, j < i → hI g 97 j = nI (j % 2)) → (∀ j, j < A.K → hI g 104 j = nI (A.kd j)) → ∃ g1, m_X12_laysAny_2 f (nI A.K) (nI A.n) (nI i) g = m_X12_laysAny_24 FU (nI A.K) (nI A.n) 0 g1 ∧ MX E A g1 ∧ Ch (fun k _ => k == 97) g g1 := by
  have hn := A.hn
  intro d
  induction d with
  | zero =>
    intro i f g hi hf x h97 h104
    obtain ⟨f, rfl⟩ : ∃ a, f = a + 1 := ⟨f - 1, by omega⟩
    exact ⟨g, by rw [m_X12_laysAny_2, if_pos (nI_le (by omega) (by omega))], ⟨x, fun j hj => h97 j (by omega), h104⟩, Ch.rf⟩
  | succ d ih =>
    intro i f g hi hf x h97 h104
    obtain ⟨f, rfl⟩ : ∃ a, f = a + 1 := ⟨f - 1, by omega⟩
    have e2 : nI i - nI i / 2 * 2 = nI (i % 2) := pk_rem (a := i) (d := 2) (by omega) (by omega) (by omega)
    have cw : Ch (fun k _ => k == 97) g (sI g 97 i (nI (i % 2))) := Ch.rf.sI rfl
    rw [m_X12_laysAny_2, if_neg (nI_ge (by omega) (by omega)), gd_pos (inb_nI (by omega) (by omega)), nI_clamp (by omega), e2, lt_eq, lt_eq, nI_1]
    obtain ⟨g1, e1, x1, c1⟩ := ih (i + 1) f (sI g 97 i (nI (i % 2))) (by omega) (by omega) (x.pkm (Ch.rf.sI rfl)) (fun j hj => by
      rw [hI_sI]
      by_cases h : j = i
      · rw [if_pos ⟨rfl, h⟩, h]
      · rw [if_neg (by omega)]; exact h97 j (by omega)) (fun j hj => by rw [cw.i rfl]; exact h104 j hj)
    exact ⟨g1, e1, x1, cw.trans c1⟩
theorem powerM {K : Nat} (hK : K ≤ 4) (g : AHp) : ∀ (d j f n : Nat), j + d = n → n ≤ 5 → d < f → m_X12_powerOf_4 f (nI K) (nI n) (nI (K ^ j)) (nI j) g = some (nI (K ^ n), g) := by
  intro d
  induction d with
  | zero =>
    intro j f n hj hn hf
    obtain ⟨f, rfl⟩ : ∃ a, f = a + 1 := ⟨f - 1, by omega⟩
    have : j = n := by omega
    subst this
    rw [m_X12_powerOf_4, if_pos (nI_le (Nat.le_refl _) (by omega))]
  | succ d ih =>
    intro j f n hj hn hf
    obtain ⟨f, rfl⟩ : ∃ a, f = a + 1 := ⟨f - 1, by omega⟩
    rw [m_X12_powerOf_4, if_neg (nI_ge (by omega) (by omega)), lt_eq, lt_eq, nI_1, show nI (K ^ j) * nI K = nI (K ^ j * K) from pk_mul _ _, ← Nat.pow_succ]
    exact ih (j + 1) f n (by omega) hn (by omega)
theorem powM {K n : Nat} (hK : K ≤ 4) (hn : n ≤ 5) (g : AHp) : m_X12_powerOf (nI K) (nI n) g = some (nI (K ^ n), g) := powerM hK g n 0 FU n (by omega) hn (by unfold FU; omega)
theorem pow_le4 {K e : Nat} (hK : K ≤ 4) (he : e ≤ 5) : K ^ e ≤ 1024 := Nat.le_trans (Nat.pow_le_pow_left hK e) (Nat.le_trans (Nat.pow_le_pow_right (by omega) he) (by decide))
end ANYM
