/-! rounds: the class's answer -/
def PRn (E : En) (t n l0 l1 : Nat) : Bool := ext (FR E t) l0 l1 (n - 2) 2 l1 l0
def fsr (P : Nat → Nat → Bool) : Nat → Nat → Option (Nat × Nat)
  | 0, _ => none
  | d + 1, l0 => match fstL (P l0) 24 1 with
    | some l1 => some (l0, l1)
    | none => fsr P d (l0 + 1)
def rr1 (E : En) (t n : Nat) : Option (List Nat) := match fsr (PRn E t n) 24 1 with
  | none => none
  | some (l0, l1) => (fx (FR E t) l0 l1 (n - 2) 2 l1 l0).map (fun L => l0 :: l1 :: L)
def rans (n : Nat) (L : List Nat) (what : Int32) : Int32 := if what = -1 then nI n else if what < nI n then nI (L.getD what.toNatClampNeg 0) else -3
def resR (E : En) (t : Nat) (what : Int32) : Int32 := match rr1 E t 2 with
  | some L => rans 2 L what
  | none => match rr1 E t 4 with
    | some L => rans 4 L what
    | none => match rr1 E t 6 with
      | some L => rans 6 L what
      | none => -2
theorem fstL_p {p : Nat → Bool} : ∀ d l j, fstL p d l = some j → p j = true
  | 0, l, j, h => by cases h
  | d + 1, l, j, h => by
    rw [fstL] at h
    by_cases hp : p l = true
    · rw [if_pos hp] at h; cases h; exact hp
    · rw [if_neg hp] at h; exact fstL_p d (l + 1) j h
section RANS
variable {E : En} {t c n : Nat}
def RbX (E : En) (t c n : Nat) (g : AHp) : Prop := CX E g ∧ RdX E t g ∧ MG g c (GR E t) ∧ Alv E t g ∧ hI g 67 6 = nI n
theorem RwX.b {r0 r1 : Nat} {g : AHp} (x : RwX E t c n r0 r1 g) : RbX E t c n g := ⟨x.1, x.2.1, x.2.2.1, x.2.2.2.1, x.2.2.2.2.1⟩
/-- rows as they are found -/
def RowOf (L : List Nat) (n : Nat) (g : AHp) : Prop := ∀ j, j < n → hI g 68 j = nI (L.getD j 0)
theorem rnd10 (ht : t ≤ 11) (hn : n = 2 ∨ n = 4 ∨ n = 6) (k2 : Int32 → AHp → Option (Int32 × AHp)) {l0 : Nat} (h0 : 1 ≤ l0 ∧ l0 ≤ 24) : ∀ (d l f : Nat) (g : AHp), l + d = 25 → 1 ≤ l → d < f → RbX E t c n g →
    (∃ l1 L g1, fstL (PRn E t n l0) d l = some l1 ∧ fx (FR E t) l0 l1 (n - 2) 2 l1 l0 = some L ∧ m_X5_beginsRound_10 k2 f (nI l0) (nI l) g = some (1, g1) ∧ RbX E t c n g1 ∧ RowOf (l0 :: l1 :: L) n g1 ∧ Ch PVg g g1) ∨
    (fstL (PRn E t n l0) d l = none ∧ ∃ g1, m_X5_beginsRound_10 k2 f (nI l0) (nI l) g = k2 (nI (l0 + 1)) g1 ∧ RbX E t c n g1 ∧ Ch PVg g g1) := by
  have hFb : ∀ s a b l, l < 32 → FR E t s a b l = true → 1 ≤ l ∧ l ≤ 24 := fun s a b l _ h => (FR_b ht s a b l h).1
  have alive : ∀ g, RbX E t c n g → ∀ l1, PRn E t n l0 l1 = true → tb (hI g 69 l0) l1 = true := fun g x l1 h => by
    have hon := ext_on (F := FR E t) (r0 := l0) (r1 := l1) (p := 0) (d := n - 2) (i := 2) (a := l1) (b := l0) (by omega) ⟨rfl, rfl, rfl⟩ h
    have := x.2.2.2.1.1 0 l1 l0 (by omega) hon
    rw [Nat.zero_mul, Nat.zero_add] at this; exact this
  intro d
  induction d with
  | zero =>
    intro l f g hl h1 hf x
    obtain ⟨f, rfl⟩ : ∃ a, f = a + 1 := ⟨f - 1, by omega⟩
    have : l = 25 := by omega
    subst this
    exact Or.inr ⟨rfl, g, by rw [m_X5_beginsRound_10, if_pos (by decide), lt_eq, nI_1], x, Ch.rf⟩
  | succ d ih =>
    intro l f g hl h1 hf x
    obtain ⟨f, rfl⟩ : ∃ a, f = a + 1 := ⟨f - 1, by omega⟩
    have gi : inb (nI l0) 50 := inb_nI (by omega) (by omega)
    have ei : (nI l0).toNatClampNeg = l0 := nI_clamp (by omega)
    rw [m_X5_beginsRound_10, if_neg (show ¬ 25 ≤ nI l from nI_ge (a := l) (b := 25) (by omega) (by omega))]
    simp only [gd_pos gi, ei, lt_eq, nI_1, show (0 : Int32).toNatClampNeg = 0 from rfl, show (1 : Int32).toNatClampNeg = 1 from rfl]
    by_cases hz : hI g 69 l0 = 0
    · right
      refine ⟨?_, g, by rw [if_pos hz], x, Ch.rf⟩
      have hno : ∀ e q, fstL (PRn E t n l0) e q = none := by
        intro e
        induction e with
        | zero => intro q; rfl
        | succ e ihe =>
          intro q
          rw [fstL, if_neg, ihe]
          intro hq
          have := alive g x q hq
          rw [hz, tb_zero] at this; cases this
      exact hno _ _
    rw [if_neg hz]
    obtain ⟨a1, a2, a3, a4, a5⟩ := id x
    have cw : Ch (fun k _ => k == 68) g (sI (sI g 68 0 (nI l0)) 68 1 (nI l)) := (Ch.rf.sI rfl).sI rfl
    have cwg : Ch PVg g (sI (sI g 68 0 (nI l0)) 68 1 (nI l)) := (Ch.rf.sI (by simp)).sI (by simp)
    have w : RwX E t c n l0 l (sI (sI g 68 0 (nI l0)) 68 1 (nI l)) := ⟨a1.po ((Ch.rf.sI rfl).sI rfl), a2.ch cw ⟨rfl, rfl, rfl, rfl⟩, a3.ch cw rfl (fun _ => rfl), ⟨fun s2 a2 b2 h1 h2 => by rw [cw.i rfl]; exact a4.1 s2 a2 b2 h1 h2, fun s2 b2 a2 h1 h2 h3 h4 => by rw [cw.i rfl] at h4; exact a4.2 s2 b2 a2 h1 h2 h3 h4⟩, by rw [cw.i rfl, a5], by rw [hI_sI, if_neg (by omega), sI_same], sI_same _ _ _ _⟩
    rw [show hI (sI (sI g 68 0 (nI l0)) 68 1 (nI l)) 69 l0 = hI g 69 l0 from cw.i rfl, fstL]
    cases hbt : tb (hI g 69 l0) l with
    | false =>
      have hP : ¬ PRn E t n l0 l = true := fun h => by have := alive g x l h; rw [hbt] at this; cases this
      rw [if_pos ((hasC (by omega)).mpr hbt), if_neg hP]
      rcases ih (l + 1) f _ (by omega) (by omega) (by omega) w.b with ⟨l1, L, g1, u1, u2, u3, u4, u5, u6⟩ | ⟨u1, g1, u2, u3, u4⟩
      · exact Or.inl ⟨l1, L, g1, u1, u2, u3, u4, u5, cwg.trans u6⟩
      · exact Or.inr ⟨u1, g1, u2, u3, cwg.trans u4⟩
    | true =>
      obtain ⟨g1, e1, w1, q1, o1, c1⟩ := goesC ht hn h0 ⟨h1, by omega⟩ (n - 2) 2 l l0 0 9 _ (by omega) (by omega) (by omega) ⟨h1, by omega⟩ h0 ⟨rfl, rfl, rfl⟩ w w.2.2.2.2.2.2 w.2.2.2.2.2.1
      have hne : ¬ (((hI g 69 l0) >>> (nI l &&& 31)) &&& 1) = 0 := fun q => by rw [(hasC (by omega)).mp q] at hbt; cases hbt
      rw [if_neg hne]
      rw [show m_X5_goesOn 9 2 (sI (sI g 68 0 (nI l0)) 68 1 (nI l)) = _ from e1, bd_some]
      cases hx : ext (FR E t) l0 l (n - 2) 2 l l0 with
      | false =>
        rw [i01_f, if_pos rfl, if_neg (show ¬ PRn E t n l0 l = true from by unfold PRn; rw [hx]; simp)]
        rcases ih (l + 1) f g1 (by omega) (by omega) (by omega) w1.b with ⟨l1, L, g2, u1, u2, u3, u4, u5, u6⟩ | ⟨u1, g2, u2, u3, u4⟩
        · exact Or.inl ⟨l1, L, g2, u1, u2, u3, u4, u5, (cwg.trans c1).trans u6⟩
        · exact Or.inr ⟨u1, g2, u2, u3, (cwg.trans c1).trans u4⟩
      | true =>
        rw [i01_t, if_neg one_ne, if_pos (show PRn E t n l0 l = true from hx)]
        obtain ⟨L, hL⟩ := fx_some hFb hx
        refine Or.inl ⟨l, L, g1, rfl, hL, rfl, w1.b, fun j hj => ?_, cwg.trans c1⟩
        by_cases hj0 : j = 0
        · subst hj0; exact w1.2.2.2.2.2.1
        by_cases hj1 : j = 1
        · subst hj1; exact w1.2.2.2.2.2.2
        · have := q1 L hL (j - 2) (by omega)
          rw [show 2 + (j - 2) = j by omega] at this
          rw [this]
          obtain ⟨k, rfl⟩ : ∃ k, j = k + 2 := ⟨j - 2, by omega⟩
          rfl
theorem rnd2 (ht : t ≤ 11) (hn : n = 2 ∨ n = 4 ∨ n = 6) : ∀ (d l0 f : Nat) (g : AHp), l0 + d = 25 → 1 ≤ l0 → d < f → RbX E t c n g →
    (∃ l0' l1 L g1, fsr (PRn E t n) d l0 = some (l0', l1) ∧ fx (FR E t) l0' l1 (n - 2) 2 l1 l0' = some L ∧ m_X5_beginsRound_2 f (nI l0) g = some (1, g1) ∧ RbX E t c n g1 ∧ RowOf (l0' :: l1 :: L) n g1 ∧ Ch PVg g g1) ∨
    (fsr (PRn E t n) d l0 = none ∧ ∃ g1, m_X5_beginsRound_2 f (nI l0) g = some (0, g1) ∧ RbX E t c n g1 ∧ Ch PVg g g1) := by
  intro d
  induction d with
  | zero =>
    intro l0 f g hl h1 hf x
    obtain ⟨f, rfl⟩ : ∃ a, f = a + 1 := ⟨f - 1, by omega⟩
    have : l0 = 25 := by omega
    subst this
    exact Or.inr ⟨rfl, g, by rw [m_X5_beginsRound_2, if_pos (by decide)], x, Ch.rf⟩
  | succ d ih =>
    intro l0 f g hl h1 hf x
    obtain ⟨f, rfl⟩ : ∃ a, f = a + 1 := ⟨f - 1, by omega⟩
    rw [m_X5_beginsRound_2, if_neg (show ¬ 25 ≤ nI l0 from nI_ge (a := l0) (b := 25) (by omega) (by omega)), fsr]
    rcases rnd10 (c := c) ht hn (m_X5_beginsRound_2 f) (show 1 ≤ l0 ∧ l0 ≤ 24 by omega) 24 1 FU g (by omega) (by omega) (by unfold FU; omega) x with ⟨l1, L, g1, u1, u2, u3, u4, u5, u6⟩ | ⟨u1, g1, u2, u3, u4⟩
    · exact Or.inl ⟨l0, l1, L, g1, by rw [u1], u2, u3, u4, u5, u6⟩
    · rw [u1]
      rw [show m_X5_beginsRound_10 (m_X5_beginsRound_2 f) FU (nI l0) 1 g = _ from u2]
      rcases ih (l0 + 1) f g1 (by omega) (by omega) (by omega) u3 with ⟨l0', l1, L, g2, w1, w2, w3, w4, w5, w6⟩ | ⟨w1, g2, w2, w3, w4⟩
      · exact Or.inl ⟨l0', l1, L, g2, w1, w2, w3, w4, w5, u4.trans w6⟩
      · exact Or.inr ⟨w1, g2, w2, w3, u4.trans w4⟩
theorem rndC {g : AHp} (ht : t ≤ 11) (hn : n = 2 ∨ n = 4 ∨ n = 6) (x : RbX E t c n g) :
    (∃ L g1, rr1 E t n = some L ∧ m_X5_beginsRound g = some (1, g1) ∧ RbX E t c n g1 ∧ RowOf L n g1 ∧ Ch PVg g g1) ∨ (rr1 E t n = none ∧ ∃ g1, m_X5_beginsRound g = some (0, g1) ∧ RbX E t c n g1 ∧ Ch PVg g g1) := by
  unfold rr1
  rcases rnd2 (c := c) ht hn 24 1 FU g (by omega) (by omega) (by unfold FU; omega) x with ⟨l0', l1, L, g2, w1, w2, w3, w4, w5, w6⟩ | ⟨w1, g2, w2, w3, w4⟩
  · rw [w1]; simp only []; rw [w2]
    exact Or.inl ⟨_, g2, rfl, w3, w4, w5, w6⟩
  · rw [w1]
    exact Or.inr ⟨rfl, g2, w2, w3, w4⟩
abbrev PVq : Nat → Nat → Bool := fun k i => PC k i || k == 32 || k == 67 || k == 68 || k == 69
theorem pvg_q {h g : AHp} (c : Ch PVg h g) : Ch PVq h g := c.mono (fun k i hp => by
  simp only [Bool.or_eq_false_iff] at hp ⊢; exact ⟨⟨hp.1.1.1.1, hp.1.1.1.2⟩, hp.1.2⟩)
theorem pvt_q {h g : AHp} (c : Ch PVt h g) : Ch PVq h g := c.mono (fun k i hp => by
  simp only [Bool.or_eq_false_iff] at hp ⊢; exact ⟨⟨hp.1.1.1.1, hp.1.1.1.2⟩, hp.2⟩)
theorem RbX_size0 {g : AHp} (x : CX E g ∧ RdX E t g ∧ MG g c (GR E t) ∧ Alv E t g) (n : Nat) : RbX E t c n (sI g 67 6 (nI n)) := by
  obtain ⟨a1, a2, a3, a4⟩ := x
  have cw : Ch (fun k i => k == 67 && i == 6) g (sI g 67 6 (nI n)) := Ch.rf.sI rfl
  exact ⟨a1.po (Ch.rf.sI rfl), a2.ch cw ⟨rfl, rfl, rfl, rfl⟩, a3.ch cw rfl (fun _ => rfl), ⟨fun s2 a2 b2 h1 h2 => by rw [cw.i rfl]; exact a4.1 s2 a2 b2 h1 h2, fun s2 b2 a2 h1 h2 h3 h4 => by rw [cw.i rfl] at h4; exact a4.2 s2 b2 a2 h1 h2 h3 h4⟩, sI_same _ _ _ _⟩
theorem RbX.size {g : AHp} {m : Nat} (x : RbX E t c m g) (n : Nat) : RbX E t c n (sI g 67 6 (nI n)) := RbX_size0 ⟨x.1, x.2.1, x.2.2.1, x.2.2.2.1⟩ n
theorem ans52 {g : AHp} {L : List Nat} {what : Int32} (hn : n = 2 ∨ n = 4 ∨ n = 6) (hw : -1 ≤ what.toInt ∧ what.toInt ≤ 5) (x : RbX E t c n g) (hr : RowOf L n g) : m_X5_answer_52 what 1 g = some (rans n L what, g) := by
  have sn : (nI n).toInt = n := nI_toInt (by omega)
  unfold m_X5_answer_52 rans
  rw [if_neg one_ne, x.2.2.2.2]
  by_cases h1 : what = -1
  · rw [if_pos h1, if_pos h1]
  · have h1' : what.toInt ≠ -1 := fun z => h1 (by rw [i32_eq, z]; rfl)
    obtain ⟨wt, rfl, _, hwt⟩ := nat_in (x := what) (lo := 0) (hi := 5) (by omega)
    rw [if_neg h1, if_neg h1, if_neg (nI_pos (by omega))]
    by_cases h2 : wt < n
    · rw [if_neg (nI_ge h2 (by omega)), if_neg (show ¬ 6 ≤ nI wt from nI_ge (a := wt) (b := 6) (by omega) (by omega)), gd_pos (inb_nI (by omega) (by omega)), nI_clamp (by omega), if_pos (nI_lt h2 (by omega)), hr wt h2]
    · rw [if_pos (nI_le (by omega) (by omega)), if_neg (nI_nlt (by omega) (by omega))]
theorem ans12 {g : AHp} {what : Int32} (ht : t ≤ 11) (hw : -1 ≤ what.toInt ∧ what.toInt ≤ 5) (x : CX E g ∧ RdX E t g ∧ MG g c (GR E t) ∧ Alv E t g) : ∃ g1, m_X5_answer_12 FU what 0 2 g = some (resR E t what, g1) ∧ CX E g1 ∧ MG g1 c (GR E t) ∧ Ch PVq g g1 := by
  have hFU : FU = (FU - 4) + 4 := by unfold FU; omega
  rw [hFU]
  generalize FU - 4 = f
  have done : ∀ (k q : Nat) (g : AHp) (L : List Nat), (q = 2 ∨ q = 4 ∨ q = 6) → RbX E t c q g → RowOf L q g → m_X5_answer_12 (f + k + 1) what 1 (nI q + 2) g = some (rans q L what, g) := fun k q g L hq xq hr => by
    rw [m_X5_answer_12]
    by_cases h6 : (6 : Int32) < nI q + 2
    · rw [if_pos h6]; exact ans52 hq hw xq hr
    · rw [if_neg h6, if_neg one_ne]; exact ans52 hq hw xq hr
  have cs : ∀ (g : AHp) (n : Nat), Ch PVq g (sI g 67 6 (nI n)) := fun g n => Ch.rf.sI (by simp)
  have x2 := RbX_size0 x 2
  unfold resR
  rw [m_X5_answer_12, if_neg (by decide), if_pos rfl, lt_eq, if_neg (by decide)]
  rcases rndC (n := 2) ht (Or.inl rfl) x2 with ⟨L, g1, u1, u2, u3, u4, u5⟩ | ⟨u1, g1, u2, u3, u5⟩
  · rw [u1]
    refine ⟨g1, ?_, u3.1, u3.2.2.1, (cs g 2).trans (pvg_q u5)⟩
    rw [show m_X5_beginsRound (sI g 67 6 2) = _ from u2, bd_some, lt_eq]
    exact done 2 2 g1 L (Or.inl rfl) u3 u4
  rw [u1, show m_X5_beginsRound (sI g 67 6 2) = _ from u2, bd_some, lt_eq]
  simp only []
  have x4 := u3.size 4
  rw [show (2 : Int32) + 2 = nI 4 from rfl, m_X5_answer_12, if_neg (by decide), if_pos rfl, lt_eq, if_pos (by decide)]
  obtain ⟨g2, e2, y1, y2, y3, y4, c2⟩ := thinAllC ht x4.1 x4.2.1 x4.2.2.1 x4.2.2.2.1
  have x4b : RbX E t c 4 g2 := ⟨y1, y2, y3, y4, by rw [c2.i rfl]; exact x4.2.2.2.2⟩
  rw [e2, bd_some]
  have cA := ((cs g 2).trans (pvg_q u5)).trans ((cs g1 4).trans (pvt_q c2))
  rcases rndC (n := 4) ht (Or.inr (Or.inl rfl)) x4b with ⟨L, g3, w1, w2, w3, w4, w5⟩ | ⟨w1, g3, w2, w3, w5⟩
  · rw [w1]
    refine ⟨g3, ?_, w3.1, w3.2.2.1, cA.trans (pvg_q w5)⟩
    rw [w2, bd_some, lt_eq]
    exact done 1 4 g3 L (Or.inr (Or.inl rfl)) w3 w4
  rw [w1, w2, bd_some, lt_eq]
  simp only []
  have x6 := w3.size 6
  rw [show nI 4 + 2 = nI 6 from nI_add 4 2, m_X5_answer_12, if_neg (by decide), if_pos rfl, lt_eq, if_neg (by decide)]
  have cB := (cA.trans (pvg_q w5)).trans (cs g3 6)
  rcases rndC (n := 6) ht (Or.inr (Or.inr rfl)) x6 with ⟨L, g4, v1, v2, v3, v4, v5⟩ | ⟨v1, g4, v2, v3, v5⟩
  · rw [v1]
    refine ⟨g4, ?_, v3.1, v3.2.2.1, cB.trans (pvg_q v5)⟩
    rw [v2, bd_some, lt_eq]
    exact done 0 6 g4 L (Or.inr (Or.inr rfl)) v3 v4
  rw [v1, v2, bd_some, lt_eq]
  simp only []
  refine ⟨g4, ?_, v3.1, v3.2.2.1, cB.trans (pvg_q v5)⟩
  rw [show nI 6 + 2 = nI 8 from nI_add 6 2, m_X5_answer_12, if_pos (by decide)]
  unfold m_X5_answer_52
  rw [if_pos rfl]
theorem begin71 {y : Int32} : ∀ (d b f : Nat) (g : AHp), b + d = 25 → d < f → (∀ u, u < b → hI g 69 u = (if tb y u = true then y else 0) ∧ hI g 69 (25 + u) = (if tb y u = true then y else 0)) → ∃ g1, m_X5_begin_71 f y (nI b) g = some ((), g1) ∧ (∀ u, u ≤ 24 → hI g1 69 u = (if tb y u = true then y else 0) ∧ hI g1 69 (25 + u) = (if tb y u = true then y else 0)) ∧ Ch (fun k _ => k == 69) g g1 := by
  intro d
  induction d with
  | zero =>
    intro b f g hb hf hd
    obtain ⟨f, rfl⟩ : ∃ a, f = a + 1 := ⟨f - 1, by omega⟩
    have : b = 25 := by omega
    subst this
    exact ⟨g, by rw [m_X5_begin_71, if_pos (by decide)], fun u hu => hd u (by omega), Ch.rf⟩
  | succ d ih =>
    intro b f g hb hf hd
    obtain ⟨f, rfl⟩ : ∃ a, f = a + 1 := ⟨f - 1, by omega⟩
    have e : m_X5_begin_71 (f + 1) y (nI b) g = m_X5_begin_100 (m_X5_begin_71 f) y (nI b) (nI b) (if tb y b = true then y else 0) g := by
      rw [m_X5_begin_71, if_neg (show ¬ 25 ≤ nI b from nI_ge (a := b) (b := 25) (by omega) (by omega))]
      cases hbt : tb y b with
      | false => rw [if_pos ((hasC (by omega)).mpr hbt)]; rfl
      | true => rw [if_neg (fun q => by rw [(hasC (by omega)).mp q] at hbt; cases hbt)]; rfl
    rw [e]
    unfold m_X5_begin_100
    rw [show (25 : Int32) + nI b = nI (25 + b) from nI_add 25 b]
    simp only [gd_pos (inb_nI (n := b) (N := 50) (by omega) (by omega)), gd_pos (inb_nI (n := 25 + b) (N := 50) (by omega) (by omega)), nI_clamp (n := b) (show b < 2 ^ 31 by omega), nI_clamp (n := 25 + b) (show 25 + b < 2 ^ 31 by omega), lt_eq, nI_1, sI_same]
    have cw : Ch (fun k _ => k == 69) g (sI (sI g 69 b (if tb y b = true then y else 0)) 69 (25 + b) (if tb y b = true then y else 0)) := (Ch.rf.sI rfl).sI rfl
    obtain ⟨g1, e1, q1, c1⟩ := ih (b + 1) f (sI (sI g 69 b (if tb y b = true then y else 0)) 69 (25 + b) (if tb y b = true then y else 0)) (by omega) (by omega) (fun u hu => by
      by_cases hub : u = b
      · subst hub
        refine ⟨?_, sI_same _ _ _ _⟩
        rw [hI_sI, if_neg (by omega), sI_same]
      · have e1 : hI (sI (sI g 69 b (if tb y b = true then y else 0)) 69 (25 + b) (if tb y b = true then y else 0)) 69 u = hI g 69 u := by rw [hI_sI, if_neg (by omega), hI_sI, if_neg (by omega)]
        have e2 : hI (sI (sI g 69 b (if tb y b = true then y else 0)) 69 (25 + b) (if tb y b = true then y else 0)) 69 (25 + u) = hI g 69 (25 + u) := by rw [hI_sI, if_neg (by omega), hI_sI, if_neg (by omega)]
        rw [e1, e2]
        exact hd u (by omega))
    exact ⟨g1, e1, q1, cw.trans c1⟩
theorem answerR {h : AHp} {what : Int32} (ht : t ≤ 11) (hc : c < 1000000) (hw : -1 ≤ what.toInt ∧ what.toInt ≤ 5) (x : CX E h) (mi : MIx h c) : ∃ g, m_X5_answer (nI t) (nI E.m) what h = some (resR E t what, g) ∧ CX E g ∧ MG g (c + 1) (GR E t) ∧ Ch PK h g := by
  obtain ⟨g0, e0, mg0, c0⟩ := memo_begin mi hc (GR E t)
  have c0' := c31_po c0
  have x0 := x.po c0'
  have wr : ∀ (g : AHp) (i : Nat) (v : Int32), CX E g → CX E (sI g 67 i v) := fun g i v xg => xg.po (Ch.rf.sI rfl)
  have x1 := wr _ 5 (nI E.m) (wr g0 4 (nI t) x0)
  have htt : 0 ≤ (nI t).toInt ∧ (nI t).toInt ≤ 11 := by rw [nI_toInt (by omega)]; omega
  have ect : (nI t).toNatClampNeg = t := nI_clamp (by omega)
  have ebeg : m_X5_begin (nI t) (nI E.m) h = m_X5_begin_71 FU (E.siz t) 0 (sI (sI (sI (sI g0 67 4 (nI t)) 67 5 (nI E.m)) 67 7 (if qA E = true then 1 else 0)) 67 8 (if qB E = true then 1 else 0)) := by
    unfold m_X5_begin
    rw [e0, bd_some]
    simp only [lt_eq]
    rw [x1.asks, bd_some]
    have e39 : ∀ s1 : Int32, (s1 = 0 ∨ s1 = 1) → m_X5_begin_39 (nI t) (E.msk 1) s1 (sI (sI g0 67 4 (nI t)) 67 5 (nI E.m)) = m_X5_begin_71 FU (E.siz t) 0 (sI (sI (sI (sI g0 67 4 (nI t)) 67 5 (nI E.m)) 67 7 s1) 67 8 (if qB E = true then 1 else 0)) := fun s1 hs => by
      have y1 := wr _ 7 s1 x1
      unfold m_X5_begin_39 qB
      rw [gd_pos hs, lt_eq]
      cases h5 : tb (E.msk 1) 5 with
      | false =>
        have y2 := wr _ 8 0 y1
        rw [if_pos ((tb_lit (n := 5) (by omega) (by decide)).mpr h5), lt_eq, sizesOfC, bd_some, if_pos htt, ect, y2.2.2.2.1.2]; rfl
      | true =>
        have y2 := wr _ 8 1 y1
        rw [if_neg (fun z => by rw [(tb_lit (n := 5) (by omega) (by decide)).mp z] at h5; cases h5), lt_eq, sizesOfC, bd_some, if_pos htt, ect, y2.2.2.2.1.2]; rfl
    cases h4 : tb (E.msk 1) 4 with
    | false => rw [if_pos ((tb_lit (n := 4) (by omega) (by decide)).mpr h4), e39 0 (Or.inl rfl)]; unfold qA; rw [h4]; rfl
    | true => rw [if_neg (fun z => by rw [(tb_lit (n := 4) (by omega) (by decide)).mp z] at h4; cases h4), e39 1 (Or.inr rfl)]; unfold qA; rw [h4]; rfl
  have cG : Ch (fun k _ => k == 67) g0 (sI (sI (sI (sI g0 67 4 (nI t)) 67 5 (nI E.m)) 67 7 (if qA E = true then 1 else 0)) 67 8 (if qB E = true then 1 else 0)) := ((((Ch.rf.sI rfl).sI rfl).sI rfl).sI rfl)
  have rx : RdX E t (sI (sI (sI (sI g0 67 4 (nI t)) 67 5 (nI E.m)) 67 7 (if qA E = true then 1 else 0)) 67 8 (if qB E = true then 1 else 0)) := ⟨rfl, rfl, rfl, rfl⟩
  generalize sI (sI (sI (sI g0 67 4 (nI t)) 67 5 (nI E.m)) 67 7 (if qA E = true then 1 else 0)) 67 8 (if qB E = true then 1 else 0) = G at ebeg cG rx
  obtain ⟨g1, e1, q1, c1⟩ := begin71 (y := E.siz t) 25 0 FU G (by omega) (by unfold FU; omega) (fun u hu => by omega)
  have cG' : Ch PO g0 G := cG.mono (fun k i hp => by
    simp only [Bool.or_eq_false_iff, Bool.and_eq_false_iff, beq_eq_false_iff_ne, ble_f] at hp ⊢; omega)
  have c1' : Ch PO G g1 := c1.mono (fun k i hp => by
    simp only [Bool.or_eq_false_iff, Bool.and_eq_false_iff, beq_eq_false_iff_ne, ble_f] at hp ⊢; omega)
  have cells : ∀ s b, s ≤ 1 → b ≤ 24 → hI g1 69 (s * 25 + b) = if tb (E.siz t) b = true then E.siz t else 0 := fun s b hs hb => by
    have hc : s = 0 ∨ s = 1 := by omega
    rcases hc with rfl | rfl
    · rw [show 0 * 25 + b = b by omega]; exact (q1 b hb).1
    · rw [show 1 * 25 + b = 25 + b by omega]; exact (q1 b hb).2
  have al : Alv E t g1 := ⟨fun s a b hs hon => by
      have hab := OnC_b ht hs hon
      obtain ⟨s3, c3, u0, u1, u2, u3⟩ := hon.prev hs
      obtain ⟨s4, c4, w0, w1, w2, w3⟩ := u3.prev u0
      rw [cells s b hs hab.2.2, if_pos (FR_siz w1)]; exact FR_siz u1, fun s b a hs hb ha htb => by
      rw [cells s b hs hb] at htb
      by_cases h : tb (E.siz t) b = true
      · rw [if_pos h] at htb; exact ⟨htb, h⟩
      · rw [if_neg h, tb_zero] at htb; cases htb⟩
  have xg := (x0.po cG').po c1'
  obtain ⟨g2, e2, x2, mg2, c2⟩ := ans12 (c := c + 1) (what := what) (g := g1) ht hw ⟨xg, rx.ch c1 ⟨rfl, rfl, rfl, rfl⟩, (mg0.ch cG rfl (fun _ => rfl)).ch c1 rfl (fun _ => rfl), al⟩
  have c2' : Ch PK g1 g2 := c2.mono (fun k i hp => by
    simp only [Bool.or_eq_false_iff, Bool.and_eq_false_iff, beq_eq_false_iff_ne, ble_f] at hp ⊢; omega)
  refine ⟨g2, ?_, x2, mg2, ((po_pk c0').trans (po_pk cG')).trans ((po_pk c1').trans c2')⟩
  unfold m_X5_answer
  rw [ebeg]
  rw [show m_X5_begin_71 FU (E.siz t) 0 G = _ from e1, bd_some]
  exact e2
end RANS
