/-! silenced: the reference's tables -/
def cbS (an bn i p : Nat) : Bool := if i = 0 then decide (p = 25 * an + bn) else if i = 1 then decide (p % 25 = an) else decide (0 < p / 25 ∧ 0 < p % 25)
theorem canBeM {E : En} {g : AHp} (x : RX E g) {an bn i p : Nat} (ea : E.a = nI an) (eb : E.b = nI bn) (ha : an ≤ 24) (hb : bn ≤ 24) (hp : p < 625) (hi : i ≤ 12) : m_X12_canBe (nI i) (nI p) g = some (if cbS an bn i p = true then 1 else 0, g) := by
  have ed : nI p / 25 = nI (p / 25) := pk_div (a := p) (d := 25) (by omega) (by omega) (by omega)
  have em : nI p - nI p / 25 * 25 = nI (p % 25) := pk_rem (a := p) (d := 25) (by omega) (by omega) (by omega)
  have eqn : ∀ u v : Nat, u < 1000 → v < 1000 → (nI u = nI v ↔ u = v) := fun u v h1 h2 => by rw [i32_eq, nI_toInt (by omega), nI_toInt (by omega)]; omega
  unfold m_X12_canBe cbS
  rw [em, ed]
  by_cases h0 : i = 0
  · subst h0
    rw [if_pos (show nI 0 ≤ 1 from by decide), if_neg (show ¬ nI 0 = 1 from by decide), startPairM x ea eb, bd_some, if_pos rfl]
    by_cases hq : p = 25 * an + bn
    · rw [if_pos ((eqn _ _ (by omega) (by omega)).mpr hq), decide_eq_true hq, i01_t]
    · rw [if_neg (fun z => hq ((eqn _ _ (by omega) (by omega)).mp z)), decide_eq_false hq, i01_f]
  · rw [if_neg h0]
    by_cases h1 : i = 1
    · subst h1
      rw [if_pos (show nI 1 ≤ 1 from by decide), if_pos (show nI 1 = 1 from rfl), x.lenAM, bd_some, ea, if_pos rfl]
      by_cases hq : p % 25 = an
      · rw [if_pos ((eqn _ _ (by omega) (by omega)).mpr hq), decide_eq_true hq, i01_t]
      · rw [if_neg (fun z => hq ((eqn _ _ (by omega) (by omega)).mp z)), decide_eq_false hq, i01_f]
    · rw [if_neg (show ¬ nI i ≤ 1 from nI_ge (a := 1) (b := i) (by omega) (by omega)), if_neg h1]
      by_cases h2 : 0 < p / 25
      · rw [if_neg (nI_nle h2 (by omega))]
        by_cases h3 : 0 < p % 25
        · rw [if_neg (nI_nle h3 (by omega)), decide_eq_true ⟨h2, h3⟩, i01_t]
        · rw [if_pos (by rw [show p % 25 = 0 by omega]; decide), decide_eq_false (by omega), i01_f]
      · rw [if_pos (by rw [show p / 25 = 0 by omega]; decide), decide_eq_false (by omega), i01_f]
/-- the pairs at which a place is told -/
def Rc (an bn n i a b : Nat) : Prop := a ≤ 24 ∧ b ≤ 24 ∧ (i = n ∨ (i < n ∧ ((i = 0 ∧ a = an ∧ b = bn) ∨ (i = 1 ∧ 1 ≤ a ∧ b = an) ∨ (2 ≤ i ∧ 1 ≤ a ∧ 1 ≤ b))))
theorem Rc.next {an bn n i a b l : Nat} (x : Rc an bn n i a b) (hi : i < n) (hl : 1 ≤ l ∧ l ≤ 24) : Rc an bn n (i + 1) l a := by
  obtain ⟨h1, h2, h3⟩ := x
  refine ⟨by omega, h1, ?_⟩
  by_cases h : i + 1 = n
  · exact Or.inl h
  · right
    refine ⟨by omega, ?_⟩
    rcases h3 with h3 | ⟨_, ⟨h4, h5, h6⟩ | ⟨h4, h5, h6⟩ | ⟨h4, h5, h6⟩⟩
    · omega
    · right; left; omega
    · right; right; omega
    · right; right; omega
theorem Rc.cb {an bn n i a b : Nat} (x : Rc an bn n i a b) (hi : i < n) : cbS an bn i (25 * a + b) = true := by
  obtain ⟨h1, h2, h3⟩ := x
  unfold cbS
  rcases h3 with h3 | ⟨_, ⟨h4, h5, h6⟩ | ⟨h4, h5, h6⟩ | ⟨h4, h5, h6⟩⟩
  · omega
  · subst h4; rw [if_pos rfl, h5, h6]; simp
  · subst h4; rw [if_neg (by omega), if_pos rfl]; exact decide_eq_true (by omega)
  · rw [if_neg (by omega), if_neg (by omega)]; exact decide_eq_true (by omega)
abbrev PKo : Nat → Nat → Bool := fun k i => PMo k i || k == 108
theorem pmo_pko {h g : AHp} (c : Ch PMo h g) : Ch PKo h g := c.mono (fun k i hp => (Bool.or_eq_false_iff.mp hp).1)
theorem pko_pkm {h g : AHp} (c : Ch PKo h g) : Ch PKm h g := c.mono (fun k i hp => by
  simp only [Bool.or_eq_false_iff, Bool.and_eq_false_iff, beq_eq_false_iff_ne, ble_f] at hp ⊢; omega)
section TAB
variable {E : En} {s q ths oth what : Int32} {n an bn : Nat}
/-- the row of a place is right -/
def Row (E : En) (s q ths oth : Int32) (n an bn i : Nat) (g : AHp) : Prop := ∀ a b, Rc an bn n i a b → hI g 108 (625 * i + (25 * a + b)) = sv (FS E s q ths oth) (n - i) i a b
def Who (s q : Int32) (n : Nat) (g : AHp) : Prop := ∀ j, j < n → hI g 97 j = whoS s q j
theorem Who.ch {P : Nat → Nat → Bool} {h g : AHp} (x : Who s q n h) (c : Ch P h g) (hp : ∀ i, P 97 i = false) : Who s q n g := fun j hj => by rw [c.i (hp j)]; exact x j hj
theorem sil154 (hn : n ≤ 6) (hs : 0 ≤ s.toInt ∧ s.toInt ≤ 5) (hq : 0 ≤ q.toInt ∧ q.toInt ≤ 5) (ea : E.a = nI an) (eb : E.b = nI bn) (ha : an ≤ 24) (hb : bn ≤ 24) (k146 : Int32 → Int32 → Int32 → Int32 → Int32 → AHp → Option (Int32 × AHp)) {i : Nat} (hi : i < n) : ∀ (d p f : Nat) (g : AHp), p + d = 625 → d < f → RX E g → Who s q n g → Row E s q ths oth n an bn (i + 1) g → (∀ a b, Rc an bn n i a b → 25 * a + b < p → hI g 108 (625 * i + (25 * a + b)) = sv (FS E s q ths oth) (n - i) i a b) →
    ∃ g1, m_X12_silenced_154 k146 f s ths oth what (nI i) (nI p) g = k146 s ths oth what (nI i + (-1)) g1 ∧ RX E g1 ∧ Who s q n g1 ∧ Row E s q ths oth n an bn i g1 ∧ (∀ z, 625 * (i + 1) ≤ z → hI g1 108 z = hI g 108 z) ∧ Ch PKo g g1 := by
  have hm := E.hm
  intro d
  induction d with
  | zero =>
    intro p f g hp hf x wh row hdone
    obtain ⟨f, rfl⟩ : ∃ a, f = a + 1 := ⟨f - 1, by omega⟩
    have : p = 625 := by omega
    subst this
    refine ⟨g, by rw [m_X12_silenced_154, if_pos (by decide), lt_eq], x, wh, fun a b hr => hdone a b hr (by have := hr.1; have := hr.2.1; omega), fun _ _ => rfl, Ch.rf⟩
  | succ d ih =>
    intro p f g hp hf x wh row hdone
    obtain ⟨f, rfl⟩ : ∃ a, f = a + 1 := ⟨f - 1, by omega⟩
    rw [m_X12_silenced_154, if_neg (show ¬ 625 ≤ nI p from nI_ge (a := p) (b := 625) (by omega) (by omega)), canBeM x ea eb ha hb (by omega) (by omega), bd_some]
    cases hcb : cbS an bn i p with
    | false =>
      rw [i01_f, if_pos rfl, lt_eq, nI_1]
      exact ih (p + 1) f g (by omega) (by omega) x wh row (fun a b hr hlt => hdone a b hr (by
        by_cases h : 25 * a + b = p
        · have := hr.cb hi; rw [h, hcb] at this; cases this
        · omega))
    | true =>
      have e2i : nI i - nI i / 2 * 2 = nI (i % 2) := pk_rem (a := i) (d := 2) (by omega) (by omega) (by omega)
      have epair : p = 25 * (p / 25) + p % 25 := by omega
      have hwi : hI g 97 i = whoS s q i := wh i hi
      obtain ⟨R, g1, e1, c1, b1⟩ := comesOutM (a := p / 25) (b := p % 25) (s := whoS s q i) (ths := whoS ths oth i) (r := rrS E s q i) (by omega) (by omega) (show i ≤ 5 by omega) (whoS_sp hs hq i) (rrS_b hs hq i) x (by
        unfold rrS
        by_cases h0 : i = 0
        · rw [if_pos h0, if_pos h0]
        · rw [if_neg h0, if_neg h0, wh (i - 1) (by omega)])
      rw [← epair] at e1
      have fin : ∃ g2, (gd (inb ((625 * nI i) + nI p) 4375) (lt (sI g1 108 ((625 * nI i) + nI p).toNatClampNeg R) fun h13 => (lt (nI p + 1) fun v15 => (m_X12_silenced_154 k146 f s ths oth what (nI i) v15 h13)))) = k146 s ths oth what (nI i + (-1)) g2 ∧ RX E g2 ∧ Who s q n g2 ∧ Row E s q ths oth n an bn i g2 ∧ (∀ z, 625 * (i + 1) ≤ z → hI g2 108 z = hI g 108 z) ∧ Ch PKo g g2 := by
        have ex : (625 : Int32) * nI i + nI p = nI (625 * i + p) := by rw [show (625 : Int32) * nI i = nI (625 * i) from pk_mul 625 i, nI_add]
        rw [ex, gd_pos (inb_nI (by omega) (by omega)), lt_eq, lt_eq, nI_1, nI_clamp (by omega)]
        have c2 : Ch PKo g (sI g1 108 (625 * i + p) R) := (pmo_pko c1).sI (by simp)
        have c2' := pko_pkm c2
        have ez : ∀ z, hI (sI g1 108 (625 * i + p) R) 108 z = if z = 625 * i + p then R else hI g 108 z := fun z => by
          rw [hI_sI]
          by_cases hz : z = 625 * i + p
          · rw [if_pos ⟨rfl, hz⟩, if_pos hz]
          · rw [if_neg (by omega), if_neg hz, c1.i rfl]
        obtain ⟨g2, e2, x2, w2, r2, z2, cc⟩ := ih (p + 1) f (sI g1 108 (625 * i + p) R) (by omega) (by omega) (x.pkm c2') (wh.ch c2 (fun _ => rfl)) (fun a b hr => by
            rw [ez, if_neg (by have := hr.1; have := hr.2.1; omega)]; exact row a b hr) (fun a b hr hlt => by
            rw [ez]
            by_cases h : 25 * a + b = p
            · rw [if_pos (by omega)]
              have hpa : p / 25 = a := by have := hr.2.1; omega
              have hpb : p % 25 = b := by have := hr.2.1; omega
              rw [hpa, hpb] at b1
              rw [show n - i = (n - (i + 1)) + 1 by omega, sv]
              refine b1.uniq ?_
              have hB := bst_isB (FS E s q ths oth i a b) (fun l => sv (FS E s q ths oth) (n - (i + 1)) (i + 1) l a)
              refine ⟨hB.1, ?_, ?_⟩
              · rcases hB.2.1 with h | ⟨l, q1, q2, q3, q4⟩
                · exact Or.inl h
                · exact Or.inr ⟨l, q1, q2, q3, by rw [q4]; simp only []; rw [row l a (hr.next hi ⟨q1, q2⟩)]⟩
              · intro l q1 q2 q3
                simp only []
                rw [row l a (hr.next hi ⟨q1, q2⟩)]; exact hB.2.2 l q1 q2 q3
            · rw [if_neg (by omega)]; exact hdone a b hr (by omega))
        exact ⟨g2, e2, x2, w2, r2, fun z hz => by rw [z2 z hz, ez, if_neg (by omega)], c2.trans cc⟩
      rw [i01_t, if_neg one_ne, gd_pos (inb_nI (by omega) (by omega)), nI_clamp (by omega), e2i, hwi]
      by_cases hpar : i % 2 = 0
      · rw [if_pos (by rw [hpar]; rfl)]
        rw [show whoS ths oth i = ths from if_pos hpar] at e1
        rw [e1, bd_some]; exact fin
      · rw [if_neg (fun z => hpar ((nI_zero_iff (by omega)).mp z))]
        rw [show whoS ths oth i = oth from if_neg hpar] at e1
        rw [e1, bd_some]; exact fin
theorem firstFor56 {y due : Int32} {t : Nat} (ha : an ≤ 24) (hb : bn ≤ 24) (k24 : Int32 → Int32 → Int32 → Int32 → Int32 → AHp → Option (Int32 × AHp)) {g : AHp} (row : ∀ l, 1 ≤ l → l ≤ 24 → hI g 108 (625 + (25 * l + an)) = sv (FS E s q ths oth) (n - 1) 1 l an) (ht : t < 12) (hy : ∀ j, j < 32 → tb y j = (tb (E.siz t) j && E.ok 1 s (nI t) E.a E.b E.r (nI E.m) j)) : ∀ (d l f : Nat), l + d = 25 → 1 ≤ l → d < f → m_X12_firstFor_56 k24 f s ths due (nI (25 * an + bn)) (nI t) y (nI l) g = (match fstL (PS E s q ths oth n an due t) d l with | some j => some (nI (100 * t + j), g) | none => k24 s ths due (nI (25 * an + bn)) (nI (t + 1)) g) := by
  intro d
  induction d with
  | zero =>
    intro l f hl h1 hf
    obtain ⟨f, rfl⟩ : ∃ a, f = a + 1 := ⟨f - 1, by omega⟩
    have : l = 25 := by omega
    subst this
    rw [m_X12_firstFor_56, if_pos (by decide), lt_eq, nI_1]; rfl
  | succ d ih =>
    intro l f hl h1 hf
    obtain ⟨f, rfl⟩ : ∃ a, f = a + 1 := ⟨f - 1, by omega⟩
    rw [m_X12_firstFor_56, if_neg (show ¬ 24 < nI l from nI_nlt (a := 24) (b := l) (by omega) (by omega)), hasM _ (by omega), bd_some, fstL]
    have hyl := hy l (by omega)
    cases hbt : tb y l with
    | false =>
      rw [hbt] at hyl
      rw [i01_f, if_pos rfl, lt_eq, nI_1, if_neg (by unfold PS; rw [← hyl]; simp)]
      exact ih (l + 1) f (by omega) (by omega) (by omega)
    | true =>
      rw [hbt] at hyl
      rw [i01_t, if_neg one_ne, pairBehindM ha hb, bd_some, show (625 : Int32) + nI (25 * l + an) = nI (625 + (25 * l + an)) from nI_add 625 _, gd_pos (inb_nI (by omega) (by omega)), nI_clamp (by omega), row l (by omega) (by omega)]
      by_cases hd : -(sv (FS E s q ths oth) (n - 1) 1 l an) = due
      · rw [if_pos hd, if_pos (by unfold PS; rw [← hyl, hd]; simp), show (100 : Int32) * nI t = nI (100 * t) from pk_mul 100 t, nI_add]
      · rw [if_neg hd, lt_eq, nI_1, if_neg (by unfold PS; rw [← hyl]; simp [hd])]
        exact ih (l + 1) f (by omega) (by omega) (by omega)
theorem firstFor24 {due : Int32} (hs : 0 ≤ s.toInt ∧ s.toInt ≤ 5) (ea : E.a = nI an) (eb : E.b = nI bn) (ha : an ≤ 24) (hb : bn ≤ 24) : ∀ (d t f : Nat) (g : AHp), t + d = 12 → d < f → RX E g → StM g E.a E.b E.r (nI E.m) → (∀ l, 1 ≤ l → l ≤ 24 → hI g 108 (625 + (25 * l + an)) = sv (FS E s q ths oth) (n - 1) 1 l an) → ∃ g1, m_X12_firstFor_24 f s ths due (nI (25 * an + bn)) (nI t) g = some ((match fst2 (PS E s q ths oth n an due) ths d t with | some (u, l) => nI (100 * u + l) | none => -2), g1) ∧ Ch PMo g g1 := by
  intro d
  induction d with
  | zero =>
    intro t f g ht hf x st row
    obtain ⟨f, rfl⟩ : ∃ a, f = a + 1 := ⟨f - 1, by omega⟩
    have : t = 12 := by omega
    subst this
    exact ⟨g, by rw [m_X12_firstFor_24, if_pos (by decide)]; rfl, Ch.rf⟩
  | succ d ih =>
    intro t f g ht hf x st row
    obtain ⟨f, rfl⟩ : ∃ a, f = a + 1 := ⟨f - 1, by omega⟩
    rw [m_X12_firstFor_24, if_neg (show ¬ 12 ≤ nI t from nI_ge (a := t) (b := 12) (by omega) (by omega)), hasM _ (by omega), bd_some, fst2]
    cases hth : tb ths t with
    | false =>
      rw [i01_f, if_pos rfl, lt_eq, nI_1, if_neg (by simp)]
      exact ih (t + 1) f g (by omega) (by omega) x st row
    | true =>
      have htt : 0 ≤ (nI t).toInt ∧ (nI t).toInt ≤ 11 := by rw [nI_toInt (by omega)]; omega
      have ect : (nI t).toNatClampNeg = t := nI_clamp (by omega)
      obtain ⟨y, g1, e1, c1, x1, s1, q1⟩ := x.ask st 1 hs htt E.hr
      rw [ect] at q1
      have row1 : ∀ l, 1 ≤ l → l ≤ 24 → hI g1 108 (625 + (25 * l + an)) = sv (FS E s q ths oth) (n - 1) 1 l an := fun l h1 h2 => by rw [c1.i rfl, row l h1 h2]
      rw [i01_t, if_neg one_ne, e1, bd_some, if_pos rfl]
      have e2 := firstFor56 (n := n) (q := q) (oth := oth) (due := due) (t := t) ha hb (m_X12_firstFor_24 f) row1 (by omega) q1 24 1 FU (by omega) (by omega) (by unfold FU; omega)
      rw [show m_X12_firstFor_56 (m_X12_firstFor_24 f) FU s ths due (nI (25 * an + bn)) (nI t) y 1 g1 = _ from e2]
      cases hf2 : fstL (PS E s q ths oth n an due t) 24 1 with
      | none =>
        simp only []
        obtain ⟨g2, e3, c3⟩ := ih (t + 1) f g1 (by omega) (by omega) x1 s1 row1
        exact ⟨g2, e3, (pws_pmo c1).trans c3⟩
      | some j => exact ⟨g1, rfl, pws_pmo c1⟩
theorem fst2_b {P : Nat → Nat → Bool} {ths : Int32} : ∀ d t u l, fst2 P ths d t = some (u, l) → u < t + d ∧ 1 ≤ l ∧ l ≤ 24
  | 0, t, u, l, h => by cases h
  | d + 1, t, u, l, h => by
    rw [fst2] at h
    by_cases hb : tb ths t = true
    · rw [if_pos hb] at h
      cases hf : fstL (P t) 24 1 with
      | none => rw [hf] at h; have := fst2_b d (t + 1) u l h; omega
      | some j =>
        rw [hf] at h
        have hj := fstL_b 24 1 j hf
        cases h; omega
    · rw [if_neg hb] at h; have := fst2_b d (t + 1) u l h; omega
theorem sil146 (hn : 1 ≤ n ∧ n ≤ 6) (hs : 0 ≤ s.toInt ∧ s.toInt ≤ 5) (hq : 0 ≤ q.toInt ∧ q.toInt ≤ 5) (ea : E.a = nI an) (eb : E.b = nI bn) (ha : an ≤ 24) (hb : bn ≤ 24) : ∀ (i f : Nat) (g : AHp), i ≤ n → i < f → RX E g → Who s q n g → Row E s q ths oth n an bn i g → (i = 0 → Row E s q ths oth n an bn 1 g) →
    ∃ g1, m_X12_silenced_146 f s ths oth what (nI i + (-1)) g = some (resS E s q ths oth n an bn what, g1) ∧ Ch PKo g g1 := by
  have hm := E.hm
  intro i
  induction i with
  | zero =>
    intro f g hi hf x wh row row1
    obtain ⟨f, rfl⟩ : ∃ a, f = a + 1 := ⟨f - 1, by omega⟩
    have r1 := row1 rfl
    have e0 := row an bn ⟨ha, hb, Or.inr ⟨by omega, Or.inl ⟨rfl, rfl, rfl⟩⟩⟩
    rw [show 625 * 0 + (25 * an + bn) = 25 * an + bn by omega, Nat.sub_zero] at e0
    rw [m_X12_silenced_146, if_pos (by decide), startPairM x ea eb, bd_some, gd_pos (inb_nI (by omega) (by omega)), nI_clamp (by omega), e0, lt_eq]
    unfold resS
    by_cases hw : what = 0
    · rw [if_pos hw, if_pos hw]; exact ⟨g, rfl, Ch.rf⟩
    · rw [if_neg hw, if_neg hw]
      obtain ⟨g0, e1, c0, x0, s0⟩ := standsBehindM x (i := 0) (by omega) E.a E.b
      rw [if_pos rfl] at s0
      obtain ⟨g2, e2, c2⟩ := firstFor24 (n := n) (q := q) (oth := oth) (ths := ths) (due := sv (FS E s q ths oth) n 0 an bn) hs ea eb ha hb 12 0 FU g0 (by omega) (by unfold FU; omega) x0 s0 (fun l h1 h2 => by
        rw [c0.i rfl]
        have := r1 l an ⟨by omega, ha, by
          by_cases h : n = 1
          · exact Or.inl h.symm
          · exact Or.inr ⟨by omega, Or.inr (Or.inl ⟨rfl, h1, rfl⟩)⟩⟩
        rw [show 625 * 1 + (25 * l + an) = 625 + (25 * l + an) by omega] at this; exact this)
      have eF : m_X12_firstFor s ths (sv (FS E s q ths oth) n 0 an bn) g = some ((match fst2 (PS E s q ths oth n an (sv (FS E s q ths oth) n 0 an bn)) ths 12 0 with | some (u, l) => nI (100 * u + l) | none => -2), g2) := by
        unfold m_X12_firstFor
        rw [startPairM x ea eb, bd_some, pair_mod ha hb, pair_div ha hb, ← ea, ← eb]
        rw [show m_X12_standsBehind 0 E.a E.b g = _ from e1, bd_some]; exact e2
      refine ⟨g2, ?_, pmo_pko ((pst_pmo c0).trans c2)⟩
      rw [eF, bd_some]
      cases hf2 : fst2 (PS E s q ths oth n an (sv (FS E s q ths oth) n 0 an bn)) ths 12 0 with
      | none => simp only []; rw [if_neg (by decide)]; rfl
      | some ul =>
        obtain ⟨u, l⟩ := ul
        have hul := fst2_b 12 0 u l hf2
        simp only []
        have ed : nI (100 * u + l) / 100 = nI u := by
          have := pk_div (a := 100 * u + l) (d := 100) (by omega) (by omega) (by omega)
          rw [show (100 * u + l) / 100 = u by omega] at this; exact this
        have er : nI (100 * u + l) - nI (100 * u + l) / 100 * 100 = nI l := by
          have := pk_rem (a := 100 * u + l) (d := 100) (by omega) (by omega) (by omega)
          rw [show (100 * u + l) % 100 = l by omega] at this; exact this
        rw [if_pos (by rw [i32_le, nI_toInt (by omega)]; simp only [tIall]; omega), er, ed]
        unfold ansS
        simp only []
        split <;> rfl
  | succ i ih =>
    intro f g hi hf x wh row row1
    obtain ⟨f, rfl⟩ : ∃ a, f = a + 1 := ⟨f - 1, by omega⟩
    have ei : nI (i + 1) + (-1) = nI i := by rw [nI_dec (by omega), Nat.add_sub_cancel]
    obtain ⟨g1, e1, x1, w1, r1, z1, c1⟩ := sil154 (what := what) hn.2 hs hq ea eb ha hb (m_X12_silenced_146 f) (show i < n by omega) 625 0 FU g (by omega) (by unfold FU; omega) x wh row (fun a b _ h => by omega)
    obtain ⟨g2, e2, c2⟩ := ih f g1 (by omega) (by omega) x1 w1 r1 (fun h0 a b hr => by
      subst h0
      rw [z1 _ (by omega)]; exact row a b hr)
    refine ⟨g2, ?_, c1.trans c2⟩
    rw [m_X12_silenced_146, ei, if_neg (nI_pos (by omega))]
    rw [show m_X12_silenced_154 (m_X12_silenced_146 f) FU s ths oth what (nI i) 0 g = _ from e1, e2]
theorem sil111 (hn : 1 ≤ n ∧ n ≤ 6) : ∀ (d p f : Nat) (g : AHp), p + d = 625 → d < f → RX E g → Who s q n g → (∀ z, z < p → hI g 108 (625 * n + z) = 0) → ∃ g1, m_X12_silenced_111 f s ths oth (nI n) what (nI p) g = m_X12_silenced_146 FU s ths oth what (nI n + (-1)) g1 ∧ RX E g1 ∧ Who s q n g1 ∧ (∀ z, z < 625 → hI g1 108 (625 * n + z) = 0) ∧ Ch PKo g g1 := by
  intro d
  induction d with
  | zero =>
    intro p f g hp hf x wh hz
    obtain ⟨f, rfl⟩ : ∃ a, f = a + 1 := ⟨f - 1, by omega⟩
    have : p = 625 := by omega
    subst this
    exact ⟨g, by rw [m_X12_silenced_111, if_pos (by decide), lt_eq, Int32.sub_eq_add_neg], x, wh, hz, Ch.rf⟩
  | succ d ih =>
    intro p f g hp hf x wh hz
    obtain ⟨f, rfl⟩ : ∃ a, f = a + 1 := ⟨f - 1, by omega⟩
    have ex : (625 : Int32) * nI n + nI p = nI (625 * n + p) := by rw [show (625 : Int32) * nI n = nI (625 * n) from pk_mul 625 n, nI_add]
    have c : Ch PKo g (sI g 108 (625 * n + p) 0) := Ch.rf.sI (by simp)
    rw [m_X12_silenced_111, if_neg (show ¬ 625 ≤ nI p from nI_ge (a := p) (b := 625) (by omega) (by omega)), ex, gd_pos (inb_nI (by omega) (by omega)), nI_clamp (by omega), lt_eq, lt_eq, nI_1]
    obtain ⟨g1, e1, x1, w1, z1, c1⟩ := ih (p + 1) f (sI g 108 (625 * n + p) 0) (by omega) (by omega) (x.pkm (pko_pkm c)) (wh.ch c (fun _ => rfl)) (fun z h => by
      rw [hI_sI]
      by_cases hzp : z = p
      · rw [if_pos ⟨rfl, by omega⟩]
      · rw [if_neg (by omega)]; exact hz z (by omega))
    exact ⟨g1, e1, x1, w1, z1, c.trans c1⟩
theorem sil76 (hn : 1 ≤ n ∧ n ≤ 6) : ∀ (d i f : Nat) (g : AHp), i + d = n → d < f → RX E g → (∀ j, j < i → hI g 97 j = whoS s q j) → ∃ g1, m_X12_silenced_76 f s ths q oth (nI n) what (nI i) g = m_X12_silenced_111 FU s ths oth (nI n) what 0 g1 ∧ RX E g1 ∧ Who s q n g1 ∧ Ch PKm g g1 := by
  intro d
  induction d with
  | zero =>
    intro i f g hi hf x wh
    obtain ⟨f, rfl⟩ : ∃ a, f = a + 1 := ⟨f - 1, by omega⟩
    have : i = n := by omega
    subst this
    exact ⟨g, by rw [m_X12_silenced_76, if_pos (nI_le (Nat.le_refl _) (by omega))], x, wh, Ch.rf⟩
  | succ d ih =>
    intro i f g hi hf x wh
    obtain ⟨f, rfl⟩ : ∃ a, f = a + 1 := ⟨f - 1, by omega⟩
    have e2i : nI i - nI i / 2 * 2 = nI (i % 2) := pk_rem (a := i) (d := 2) (by omega) (by omega) (by omega)
    have fin : ∀ v, v = whoS s q i → ∃ g1, (gd (inb (nI i) 12) (lt (sI g 97 (nI i).toNatClampNeg v) fun h29 => (lt (nI i + 1) fun v31 => (m_X12_silenced_76 f s ths q oth (nI n) what v31 h29)))) = m_X12_silenced_111 FU s ths oth (nI n) what 0 g1 ∧ RX E g1 ∧ Who s q n g1 ∧ Ch PKm g g1 := fun v hv => by
      have c : Ch PKm g (sI g 97 i v) := Ch.rf.sI rfl
      rw [gd_pos (inb_nI (by omega) (by omega)), nI_clamp (by omega), lt_eq, lt_eq, nI_1]
      obtain ⟨g1, e1, x1, w1, c1⟩ := ih (i + 1) f (sI g 97 i v) (by omega) (by omega) (x.pkm c) (fun j hj => by
        rw [hI_sI]
        by_cases hji : j = i
        · rw [if_pos ⟨rfl, hji⟩, hv, hji]
        · rw [if_neg (by omega)]; exact wh j (by omega))
      exact ⟨g1, e1, x1, w1, c.trans c1⟩
    rw [m_X12_silenced_76, if_neg (nI_ge (by omega) (by omega)), e2i]
    by_cases hpar : i % 2 = 0
    · rw [if_pos (by rw [hpar]; rfl)]; exact fin s (by unfold whoS; rw [if_pos hpar])
    · rw [if_neg (fun z => hpar ((nI_zero_iff (by omega)).mp z))]; exact fin q (by unfold whoS; rw [if_neg hpar])
end TAB
