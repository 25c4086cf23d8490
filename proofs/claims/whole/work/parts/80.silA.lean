/-! silenced: the class's answer -/
def fstL (p : Nat → Bool) : Nat → Nat → Option Nat
  | 0, _ => none
  | d + 1, l => if p l = true then some l else fstL p d (l + 1)
def fst2 (P : Nat → Nat → Bool) (ths : Int32) : Nat → Nat → Option (Nat × Nat)
  | 0, _ => none
  | d + 1, t => if tb ths t = true then (match fstL (P t) 24 1 with | some l => some (t, l) | none => fst2 P ths d (t + 1)) else fst2 P ths d (t + 1)
theorem fstL_b {p : Nat → Bool} : ∀ d l j, fstL p d l = some j → l ≤ j ∧ j < l + d
  | 0, l, j, h => by cases h
  | d + 1, l, j, h => by
    rw [fstL] at h
    by_cases hp : p l = true
    · rw [if_pos hp] at h; cases h; omega
    · rw [if_neg hp] at h; have := fstL_b d (l + 1) j h; omega
theorem En.a_nat (E : En) : ∃ n : Nat, E.a = nI n ∧ n ≤ 24 := by
  obtain ⟨n, h1, h2, h3⟩ := nat_in (x := E.a) (lo := 0) (hi := 24) E.ha
  exact ⟨n, h1, h3⟩
theorem En.b_nat (E : En) : ∃ n : Nat, E.b = nI n ∧ n ≤ 24 := by
  obtain ⟨n, h1, h2, h3⟩ := nat_in (x := E.b) (lo := 0) (hi := 24) E.hb
  exact ⟨n, h1, h3⟩
/-- a first sentence by which it comes out so -/
def PS (E : En) (s q ths oth : Int32) (n an : Nat) (due : Int32) (t l : Nat) : Bool := tb (E.siz t) l && E.ok 1 s (nI t) E.a E.b E.r (nI E.m) l && (-(sv (FS E s q ths oth) (n - 1) 1 l an) == due)
theorem firstLenC {E : En} {s q ths oth due y : Int32} {n c an t : Nat} (hn : 1 ≤ n ∧ n ≤ 6) (hs : 0 ≤ s.toInt ∧ s.toInt ≤ 5) (hq : 0 ≤ q.toInt ∧ q.toInt ≤ 5) (ea : E.a = nI an) (ha : an ≤ 24) (hy : ∀ j, j < 32 → tb y j = (tb (E.siz t) j && E.ok 1 s (nI t) E.a E.b E.r (nI E.m) j)) : ∀ (d l f : Nat) (g : AHp), l + d = 25 → 1 ≤ l → d < f → CX E g → SlX E s q ths oth n g → MG g c (GS E s q ths oth n) →
    ∃ g1, m_X6_firstLength_48 f due y (nI l) g = some ((match fstL (PS E s q ths oth n an due t) d l with | some j => nI j | none => -1), g1) ∧ CX E g1 ∧ SlX E s q ths oth n g1 ∧ MG g1 c (GS E s q ths oth n) ∧ Ch PV g g1 := by
  intro d
  induction d with
  | zero =>
    intro l f g hl h1 hf x sx mg
    obtain ⟨f, rfl⟩ : ∃ a, f = a + 1 := ⟨f - 1, by omega⟩
    have : l = 25 := by omega
    subst this
    exact ⟨g, by rw [m_X6_firstLength_48, if_pos (by decide)]; rfl, x, sx, mg, Ch.rf⟩
  | succ d ih =>
    intro l f g hl h1 hf x sx mg
    obtain ⟨f, rfl⟩ : ∃ a, f = a + 1 := ⟨f - 1, by omega⟩
    rw [m_X6_firstLength_48, if_neg (show ¬ 24 < nI l from nI_nlt (a := 24) (b := l) (by omega) (by omega)), fstL]
    have hyl := hy l (by omega)
    cases hb : tb y l with
    | false =>
      rw [if_pos ((hasC (by omega)).mpr hb), lt_eq, nI_1]
      rw [hb] at hyl
      rw [if_neg (by unfold PS; rw [← hyl]; simp)]
      exact ih (l + 1) f g (by omega) (by omega) (by omega) x sx mg
    | true =>
      rw [hb] at hyl
      obtain ⟨g1, e1, x1, sx1, mg1, c1⟩ := valueC (c := c) hn.2 hs hq (n - 1) 1 l an 9 g (by omega) (by omega) (by omega) ha x sx mg
      rw [if_neg (fun z => by rw [(hasC (by omega)).mp z] at hb; cases hb), sx.2.2.2.2.2.2.1, ea]
      rw [show m_X6_value 9 1 (nI l) (nI an) g = _ from e1, bd_some]
      by_cases hd : -(sv (FS E s q ths oth) (n - 1) 1 l an) = due
      · refine ⟨g1, ?_, x1, sx1, mg1, c1⟩
        rw [if_pos hd, if_pos (by unfold PS; rw [← hyl, hd]; simp)]
      · rw [if_neg hd, lt_eq, nI_1, if_neg (by unfold PS; rw [← hyl]; simp [hd])]
        obtain ⟨g2, e2, x2, sx2, mg2, c2⟩ := ih (l + 1) f g1 (by omega) (by omega) (by omega) x1 sx1 mg1
        exact ⟨g2, e2, x2, sx2, mg2, c1.trans c2⟩
def ansS (o : Option (Nat × Nat)) (what : Int32) : Int32 := match o with
  | none => -2
  | some (t, l) => if what = 1 then nI t else nI l
theorem answer22 {E : En} {s q ths oth due what : Int32} {n c an : Nat} (hn : 1 ≤ n ∧ n ≤ 6) (hs : 0 ≤ s.toInt ∧ s.toInt ≤ 5) (hq : 0 ≤ q.toInt ∧ q.toInt ≤ 5) (ea : E.a = nI an) (ha : an ≤ 24) : ∀ (d t f : Nat) (g : AHp), t + d = 12 → d < f → CX E g → SlX E s q ths oth n g → MG g c (GS E s q ths oth n) →
    ∃ g1, m_X6_answer_22 f what due (nI t) g = some (ansS (fst2 (PS E s q ths oth n an due) ths d t) what, g1) ∧ CX E g1 ∧ SlX E s q ths oth n g1 ∧ MG g1 c (GS E s q ths oth n) ∧ Ch PV g g1 := by
  intro d
  induction d with
  | zero =>
    intro t f g ht hf x sx mg
    obtain ⟨f, rfl⟩ : ∃ a, f = a + 1 := ⟨f - 1, by omega⟩
    have : t = 12 := by omega
    subst this
    exact ⟨g, by rw [m_X6_answer_22, if_pos (by decide)]; rfl, x, sx, mg, Ch.rf⟩
  | succ d ih =>
    intro t f g ht hf x sx mg
    obtain ⟨f, rfl⟩ : ∃ a, f = a + 1 := ⟨f - 1, by omega⟩
    rw [m_X6_answer_22, if_neg (show ¬ 12 ≤ nI t from nI_ge (a := t) (b := 12) (by omega) (by omega)), sx.2.2.1, fst2]
    unfold m_X6_answer_49
    cases hb : tb ths t with
    | false =>
      rw [if_pos ((hasC (by omega)).mpr hb), if_pos rfl, lt_eq, nI_1, if_neg (by simp)]
      exact ih (t + 1) f g (by omega) (by omega) x sx mg
    | true =>
      have htt : 0 ≤ (nI t).toInt ∧ (nI t).toInt ≤ 11 := by rw [nI_toInt (by omega)]; omega
      have ect : (nI t).toNatClampNeg = t := nI_clamp (by omega)
      obtain ⟨es, cs, xs, ss⟩ := x.stand E.a E.b E.r (nI E.m)
      obtain ⟨y, g1, e1, c1, x1, s1, q1⟩ := xs.ask ss 1 (nI t) hs E.hr (E.siz t) (fun j hj hb => E.hsz t (by omega) j hj hb)
      have c01 := cs.trans (PCl_PC c1)
      obtain ⟨g2, e2, x2, sx2, mg2, c2⟩ := firstLenC (due := due) (t := t) hn hs hq ea ha q1 24 1 FU g1 (by omega) (by omega) (by unfold FU; omega) x1 (sx.ch c01 (fun _ => rfl)) (mg.ch c01 rfl (fun _ => rfl))
      have ef : m_X6_firstLength (nI t) due g = some ((match fstL (PS E s q ths oth n an due t) 24 1 with | some j => nI j | none => -1), g2) := by
        unfold m_X6_firstLength
        obtain ⟨s6, s2, s3, s4, s5, s7, s8, s9, s10, s11, s12⟩ := sx
        rw [s7, s8, s9, s10, es, bd_some, sizesOfC, bd_some, if_pos htt, ect, xs.2.2.2.1.2]
        rw [show hI (stH g E.a E.b E.r (nI E.m)) 62 2 = s from s2, e1, bd_some]
        exact e2
      rw [if_neg (fun z => by rw [(hasC (by omega)).mp z] at hb; cases hb), ef, bd_some, if_pos rfl]
      cases hf2 : fstL (PS E s q ths oth n an due t) 24 1 with
      | none =>
        simp only []
        rw [if_pos trivial, lt_eq, nI_1]
        obtain ⟨g3, e3, x3, sx3, mg3, c3⟩ := ih (t + 1) f g2 (by omega) (by omega) x2 sx2 mg2
        exact ⟨g3, e3, x3, sx3, mg3, ((pc_pv c01).trans c2).trans c3⟩
      | some j =>
        have hj := fstL_b 24 1 j hf2
        simp only []
        rw [if_neg (nI_ne_m1 (by omega))]
        refine ⟨g2, ?_, x2, sx2, mg2, (pc_pv c01).trans c2⟩
        unfold ansS
        simp only []
        split <;> rfl
def resS (E : En) (s q ths oth : Int32) (n an bn : Nat) (what : Int32) : Int32 := if what = 0 then sv (FS E s q ths oth) n 0 an bn else ansS (fst2 (PS E s q ths oth n an (sv (FS E s q ths oth) n 0 an bn)) ths 12 0) what
theorem answerS {E : En} {s q ths oth what : Int32} {n c an bn : Nat} {g : AHp} (hn : 1 ≤ n ∧ n ≤ 6) (hs : 0 ≤ s.toInt ∧ s.toInt ≤ 5) (hq : 0 ≤ q.toInt ∧ q.toInt ≤ 5) (ea : E.a = nI an) (ha : an ≤ 24) (eb : E.b = nI bn) (hb : bn ≤ 24) (x : CX E g) (sx : SlX E s q ths oth n g) (mg : MG g c (GS E s q ths oth n)) :
    ∃ g1, m_X6_answer what g = some (resS E s q ths oth n an bn what, g1) ∧ CX E g1 ∧ MG g1 c (GS E s q ths oth n) ∧ Ch PV g g1 := by
  obtain ⟨g1, e1, x1, sx1, mg1, c1⟩ := valueC (c := c) hn.2 hs hq n 0 an bn 9 g (by omega) (by omega) ha hb x sx mg
  unfold m_X6_answer resS
  rw [sx.2.2.2.2.2.2.1, sx.2.2.2.2.2.2.2.1, ea, eb]
  rw [show m_X6_value 9 0 (nI an) (nI bn) g = _ from e1, bd_some]
  by_cases hw : what = 0
  · rw [if_pos hw, if_pos hw]; exact ⟨g1, rfl, x1, mg1, c1⟩
  · rw [if_neg hw, if_neg hw]
    obtain ⟨g2, e2, x2, sx2, mg2, c2⟩ := answer22 (what := what) (due := sv (FS E s q ths oth) n 0 an bn) hn hs hq ea ha 12 0 FU g1 (by omega) (by unfold FU; omega) x1 sx1 mg1
    exact ⟨g2, e2, x2, mg2, c1.trans c2⟩
theorem beginS {E : En} {s q ths oth : Int32} {n c : Nat} {h : AHp} (hn : 1 ≤ n ∧ n ≤ 6) (hc : c < 1000000) (x : CX E h) (mi : MIx h c) : ∃ g g1, m_X6_begin (nI n) h = some ((), g) ∧ m_X6_tell s ths q oth g = some ((), g1) ∧ CX E g1 ∧ SlX E s q ths oth n g1 ∧ MG g1 (c + 1) (GS E s q ths oth n) ∧ Ch PO h g1 := by
  obtain ⟨g0, e0, mg0, c0⟩ := memo_begin mi hc (GS E s q ths oth n)
  have c0' := c31_po c0
  have x0 := x.po c0'
  have en : (if (0 : Int32) < (if (6 : Int32) < nI n then 6 else nI n) then if (6 : Int32) < nI n then 6 else nI n else 0) = nI n := by
    rw [if_neg (show ¬ 6 < nI n from nI_nlt (a := 6) (b := n) (by omega) (by omega)), if_pos (show 0 < nI n from nI_lt (a := 0) (by omega) (by omega))]
  have wr : ∀ (g : AHp) (i : Nat) (v : Int32), CX E g → CX E (sI g 62 i v) := fun g i v xg => xg.po (Ch.rf.sI rfl)
  have x1 := wr g0 6 (nI n) x0
  have x2 := wr _ 7 E.r x1
  have x3 := wr _ 8 E.a x2
  have x4 := wr _ 9 E.b x3
  have x5 := wr _ 10 (nI E.m) x4
  have ebeg : m_X6_begin (nI n) h = (if (E.msk 1 &&& 32) = 0 then (m_X6_begin_93 (E.msk 1) 0 (sI (sI (sI (sI (sI g0 62 6 (nI n)) 62 7 E.r) 62 8 E.a) 62 9 E.b) 62 10 (nI E.m))) else (m_X6_begin_93 (E.msk 1) 1 (sI (sI (sI (sI (sI g0 62 6 (nI n)) 62 7 E.r) 62 8 E.a) 62 9 E.b) 62 10 (nI E.m)))) := by
    unfold m_X6_begin
    rw [e0, bd_some]
    simp only [lt_eq]
    rw [en, x1.spkA, bd_some, x2.spanA, bd_some, x3.spanB, bd_some, x4.1, x5.asks, bd_some]
  have e93 : m_X6_begin (nI n) h = some ((), sI (sI (sI (sI (sI (sI (sI g0 62 6 (nI n)) 62 7 E.r) 62 8 E.a) 62 9 E.b) 62 10 (nI E.m)) 62 12 (if fB E = true then 1 else 0)) 62 11 (if fA E = true then 1 else 0)) := by
    rw [ebeg]
    unfold m_X6_begin_93 fA fB
    cases h5 : tb (E.msk 1) 5 with
    | false =>
      rw [if_pos ((tb_lit (n := 5) (by omega) (by decide)).mpr h5), gd_pos (Or.inl rfl), lt_eq, sI_same, if_pos rfl]
      cases h4 : tb (E.msk 1) 4 with
      | false => rw [if_pos ((tb_lit (n := 4) (by omega) (by decide)).mpr h4), lt_eq]; rfl
      | true => rw [if_neg (fun z => by rw [(tb_lit (n := 4) (by omega) (by decide)).mp z] at h4; cases h4), lt_eq]; rfl
    | true =>
      rw [if_neg (fun z => by rw [(tb_lit (n := 5) (by omega) (by decide)).mp z] at h5; cases h5), gd_pos (Or.inr rfl), lt_eq, sI_same, if_neg one_ne, lt_eq]; rfl
  generalize hG : sI (sI (sI (sI (sI (sI (sI g0 62 6 (nI n)) 62 7 E.r) 62 8 E.a) 62 9 E.b) 62 10 (nI E.m)) 62 12 (if fB E = true then 1 else 0)) 62 11 (if fA E = true then 1 else 0) = G at e93
  have cG : Ch (fun k _ => k == 62) g0 G := by rw [← hG]; exact (((((((Ch.rf.sI rfl).sI rfl).sI rfl).sI rfl).sI rfl).sI rfl).sI rfl)
  have cT : Ch (fun k _ => k == 62) g0 (sI (sI (sI (sI G 62 2 s) 62 3 ths) 62 4 q) 62 5 oth) := (((cG.sI rfl).sI rfl).sI rfl).sI rfl
  have cT' : Ch PO g0 (sI (sI (sI (sI G 62 2 s) 62 3 ths) 62 4 q) 62 5 oth) := cT.mono (fun k i hp => by
    simp only [Bool.or_eq_false_iff, Bool.and_eq_false_iff, beq_eq_false_iff_ne, ble_f] at hp ⊢; omega)
  refine ⟨G, sI (sI (sI (sI G 62 2 s) 62 3 ths) 62 4 q) 62 5 oth, e93, rfl, x0.po cT', ?_, mg0.ch cT rfl (fun _ => rfl), c0'.trans cT'⟩
  unfold SlX
  rw [← hG]
  simp only [hI_sI, Nat.reduceEqDiff, false_and, and_false, true_and, and_true, reduceIte, and_self]
