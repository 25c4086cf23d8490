/-! judged -/
theorem onTape_n {h : AHp} {n lim grp c : Nat} (ec : hI h 1 1 = nI c) (hc : c ≤ 220) (h1 : 1 ≤ n) (h2 : n ≤ lim) (hl : lim ≤ 200) (hg : grp ≤ 3) : m_X11_isOnTape (nI n) (nI lim) (nI grp) h = some (if n * grp ≤ c then 1 else 0, h) := by
  have hng : n * grp ≤ 200 * 3 := Nat.mul_le_mul (by omega) hg
  unfold m_X11_isOnTape
  rw [if_neg (show ¬ nI n < 1 from nI_nlt (a := n) (b := 1) (by omega) (by omega)), if_neg (nI_nlt (by omega) (by omega)), ec, show nI n * nI grp = nI (n * grp) from pk_mul n grp]
  by_cases hq : n * grp ≤ c
  · rw [if_neg (nI_nlt (by omega) (by omega)), if_pos hq]
  · rw [if_pos (by rw [i32_lt, nI_toInt (by omega), nI_toInt (by omega)]; omega), if_neg hq]
theorem onTape_no {h : AHp} {x : Int32} {lim grp : Nat} (hl : lim ≤ 200) (hx : ¬ (1 ≤ x.toInt ∧ x.toInt ≤ lim)) : m_X11_isOnTape x (nI lim) (nI grp) h = some (0, h) := by
  unfold m_X11_isOnTape
  simp only [i32_lt, tIall, nI_toInt (show lim < 2 ^ 31 by omega)]
  by_cases h1 : x.toInt < 1
  · rw [if_pos h1]
  · rw [if_neg h1, if_pos (by omega)]
theorem nat_in {x : Int32} {lo hi : Nat} (h : (lo : Int) ≤ x.toInt ∧ x.toInt ≤ hi) : ∃ n : Nat, x = nI n ∧ lo ≤ n ∧ n ≤ hi := ⟨x.toNatClampNeg, by
  rw [i32_eq, nI_toInt (by have := i32_bd x; rw [clamp_toNat]; omega), clamp_toNat]; omega, by rw [clamp_toNat]; omega, by rw [clamp_toNat]; omega⟩
/-- all of some places are good -/
def okF (p : Nat → Bool) : Nat → Nat → Bool
  | _, 0 => true
  | i, d + 1 => p i && okF p (i + 1) d
theorem okF_all {p : Nat → Bool} : ∀ (d i : Nat), okF p i d = true → ∀ j, i ≤ j → j < i + d → p j = true
  | 0, i, _, j, h1, h2 => by omega
  | d + 1, i, h, j, h1, h2 => by
    rw [okF, Bool.and_eq_true] at h
    by_cases hj : j = i
    · rw [hj]; exact h.1
    · exact okF_all d (i + 1) h.2 j (by omega) (by omega)
def isSp (x : Int32) : Bool := decide (0 ≤ x.toInt ∧ x.toInt ≤ 5)
def isTh (x : Int32) : Bool := decide (0 ≤ x.toInt ∧ x.toInt ≤ 11)
def isLn (x : Int32) : Bool := decide (1 ≤ x.toInt ∧ x.toInt ≤ 24)
theorem isSp_b (x : Int32) : b2i (0 ≤ x.toInt ∧ x.toInt ≤ 5) = if isSp x = true then 1 else 0 := by unfold b2i isSp; simp
theorem isTh_b (x : Int32) : b2i (0 ≤ x.toInt ∧ x.toInt ≤ 11) = if isTh x = true then 1 else 0 := by unfold b2i isTh; simp
theorem isLn_b (x : Int32) : b2i (1 ≤ x.toInt ∧ x.toInt ≤ 24) = if isLn x = true then 1 else 0 := by unfold b2i isLn; simp
theorem tellsC {E : En} {g : AHp} {n e : Nat} (x : CX E g) (he : 2 ≤ e ∧ e ≤ 3) (hn : n * e ≤ E.c) : ∀ (d i f : Nat), i + d = n → d < f → m_X11_tellsSpeakersAndThings_2 f (nI n) (nI e) (nI i) g = some (if okF (fun i => isSp (E.ty (e * i)) && isTh (E.ty (e * i + 1))) i d = true then 1 else 0, g) := by
  have hc := E.hc
  have hn2 : 2 * n ≤ n * e := by rw [Nat.mul_comm]; exact Nat.mul_le_mul_left n he.1
  intro d
  induction d with
  | zero =>
    intro i f hi hf
    obtain ⟨f, rfl⟩ : ∃ a, f = a + 1 := ⟨f - 1, by omega⟩
    rw [m_X11_tellsSpeakersAndThings_2, if_pos (nI_le (by omega) (by omega))]; rfl
  | succ d ih =>
    intro i f hi hf
    obtain ⟨f, rfl⟩ : ∃ a, f = a + 1 := ⟨f - 1, by omega⟩
    have hei : e * i + e ≤ n * e := by
      have : e * (i + 1) ≤ e * n := Nat.mul_le_mul_left e (by omega)
      rw [Nat.mul_add, Nat.mul_one, Nat.mul_comm e n] at this; exact this
    rw [m_X11_tellsSpeakersAndThings_2, if_neg (nI_ge (by omega) (by omega)), show nI e * nI i = nI (e * i) from pk_mul e i, x.byte (by omega), bd_some, isSpeakerC, bd_some, isSp_b, okF]
    cases h1 : isSp (E.ty (e * i)) with
    | false => rw [i01_f, if_pos rfl]; simp
    | true =>
      rw [i01_t, if_neg one_ne, nI_1, x.byte (by omega), bd_some, isThingC, bd_some, isTh_b]
      cases h2 : isTh (E.ty (e * i + 1)) with
      | false => rw [i01_f, if_pos rfl]; simp
      | true =>
        rw [i01_t, if_neg one_ne, lt_eq, nI_1, ih (i + 1) f (by omega) (by omega)]; simp
/-- the first place that is wrong -/
def jd (ok : Nat → Int32 → Int32 → Int32 → Bool) (ty : Nat → Int32) (n : Nat) : Nat → Nat → Int32 → Int32 → Int32 → Int32
  | 0, _, _, _, _ => nI n
  | d + 1, i, a, b, r => if ok i a b r = true then jd ok ty n d (i + 1) (ty (3 * i + 2)) a (ty (3 * i)) else nI i
def jOK (E : En) (w : Nat) (i : Nat) (a b r : Int32) : Bool := isLn (E.ty (3 * i + 2)) && tb (E.siz (E.ty (3 * i + 1)).toNatClampNeg) (E.ty (3 * i + 2)).toNatClampNeg && E.ok (lawsOf w) (E.ty (3 * i)) (E.ty (3 * i + 1)) a b r (nI (E.m + i)) (E.ty (3 * i + 2)).toNatClampNeg
theorem lets0 {E : En} {g : AHp} {a b r k : Int32} (x : CX E g) (hst : StC g a b r k) (laws t : Int32) {s : Int32} (hs : 0 ≤ s.toInt ∧ s.toInt ≤ 5) (hr : -1 ≤ r.toInt ∧ r.toInt ≤ 5) : ∃ g1, m_X9_lets laws s t 0 g = some (0, g1) ∧ Ch PCl g g1 ∧ CX E g1 ∧ StC g1 a b r k := by
  obtain ⟨y, g1, e1, c1, x1, s1, q1⟩ := x.ask hst laws t hs hr 0 (fun j _ hb => by rw [tb_zero] at hb; cases hb)
  have : y = 0 := (tb_eq0 y).mpr (fun k hk => by rw [q1 k hk, tb_zero]; rfl)
  subst this
  exact ⟨g1, e1, c1, x1, s1⟩
theorem len_nat {x : Int32} (h : isLn x = true) : ∃ j : Nat, x = nI j ∧ 1 ≤ j ∧ j ≤ 24 ∧ x.toNatClampNeg = j := by
  obtain ⟨j, e, h1, h2⟩ := nat_len (of_decide_eq_true h)
  exact ⟨j, e, h1, h2, by rw [e]; exact nI_clamp (by omega)⟩
/-- bitOf, then lets, for any length -/
theorem CX.one {E : En} {g : AHp} {a b r k : Int32} (x : CX E g) (hst : StC g a b r k) (laws l : Int32) {s t : Int32} (hs : 0 ≤ s.toInt ∧ s.toInt ≤ 5) (ht : 0 ≤ t.toInt ∧ t.toInt ≤ 11) (hr : -1 ≤ r.toInt ∧ r.toInt ≤ 5) :
    ∃ z y g1, m_X9_bitOf t l g = some (z, g) ∧ m_X9_lets laws s t z g = some (y, g1) ∧ Ch PCl g g1 ∧ CX E g1 ∧ StC g1 a b r k ∧ (z = 0 ↔ (isLn l && tb (E.siz t.toNatClampNeg) l.toNatClampNeg) = false) ∧ (y = 0 ↔ (isLn l && tb (E.siz t.toNatClampNeg) l.toNatClampNeg && E.ok laws s t a b r k l.toNatClampNeg) = false) := by
  have ht12 : t.toNatClampNeg < 12 := clamp_lt ht.1 (by omega)
  cases hl : isLn l with
  | false =>
    obtain ⟨g1, e1, c1, x1, s1⟩ := lets0 x hst laws t hs hr
    exact ⟨0, 0, g1, bitOf_no (of_decide_eq_false hl) g, e1, c1, x1, s1, by simp, by simp⟩
  | true =>
    obtain ⟨j, rfl, h1, h2, ej⟩ := len_nat hl
    obtain ⟨y, g1, e1, c1, l1, s1, q1⟩ := askC1 x.2.2.2.2.1 hst laws t hs hr (hI g 4 t.toNatClampNeg) ⟨h1, h2⟩
    refine ⟨_, y, g1, bitOfC ht ⟨h1, h2⟩ g, e1, c1, x.pc (PCl_PC c1) l1, s1, ?_, ?_⟩
    · rw [one_bit0 _ (by omega), x.2.2.2.1.2, ej]; simp
    · rw [q1, x.2.2.2.1.1, x.2.2.2.1.2, ej]; simp; rfl
theorem firstWrongC {E : En} {n w : Nat} (hw : w ≤ 1) (hn : n * 3 ≤ E.c) (hg : ∀ i, i < n → (isSp (E.ty (3 * i)) && isTh (E.ty (3 * i + 1))) = true) : ∀ (d i f : Nat) (g : AHp) (a b r : Int32), i + d = n → d < f → CX E g → (-1 ≤ r.toInt ∧ r.toInt ≤ 5) → ∃ g1, m_X11_firstWrong_56 f (nI w) (nI n) a b r (nI i) g = some (jd (jOK E w) E.ty n d i a b r, g1) ∧ Ch PC g g1 ∧ CX E g1 := by
  have hc := E.hc
  have hm := E.hm
  intro d
  induction d with
  | zero =>
    intro i f g a b r hi hf x hr
    obtain ⟨f, rfl⟩ : ∃ a, f = a + 1 := ⟨f - 1, by omega⟩
    exact ⟨g, by rw [m_X11_firstWrong_56, if_pos (nI_le (by omega) (by omega))]; rfl, Ch.rf, x⟩
  | succ d ih =>
    intro i f g a b r hi hf x hr
    obtain ⟨f, rfl⟩ : ∃ a, f = a + 1 := ⟨f - 1, by omega⟩
    have hgi := hg i (by omega)
    rw [Bool.and_eq_true] at hgi
    have hs := of_decide_eq_true hgi.1
    have ht := of_decide_eq_true hgi.2
    obtain ⟨es, cs, xs, ss⟩ := x.stand a b r (nI (E.m + i))
    obtain ⟨z, y, g1, e1, e2, c1, x1, s1, -, q1⟩ := xs.one ss (lawsOf w) (E.ty (3 * i + 2)) hs ht hr
    rw [m_X11_firstWrong_56, if_neg (nI_ge (by omega) (by omega)), show (3 : Int32) * nI i = nI (3 * i) from pk_mul 3 i, x.byte (by omega), bd_some, nI_1, x.byte (by omega), bd_some, show nI (3 * i) + 2 = nI (3 * i + 2) from nI_add _ 2, x.byte (by omega), bd_some, x.1, nI_add, es, bd_some, e1, bd_some, shl_law hw, e2, bd_some, jd]
    cases hk : jOK E w i a b r with
    | false =>
      refine ⟨g1, ?_, cs.trans (PCl_PC c1), x1⟩
      rw [if_pos (q1.mpr hk), if_neg (by simp)]
    | true =>
      obtain ⟨g2, e3, c3, x3⟩ := ih (i + 1) f g1 (E.ty (3 * i + 2)) a (E.ty (3 * i)) (by omega) (by omega) x1 (by omega)
      refine ⟨g2, ?_, (cs.trans (PCl_PC c1)).trans c3, x3⟩
      rw [if_neg (fun z => by have := q1.mp z; unfold jOK at hk; rw [hk] at this; cases this), lt_eq, nI_1, e3, if_pos rfl]
theorem judgedM {E : En} {n w : Nat} (hw : w ≤ 1) (hn : n * 3 ≤ E.c) (hg : ∀ i, i < n → (isSp (E.ty (3 * i)) && isTh (E.ty (3 * i + 1))) = true) : ∀ (d i f : Nat) (g : AHp) (a b r : Int32), i + d = n → d < f → RX E g → StM g a b r (nI (E.m + i)) → (-1 ≤ r.toInt ∧ r.toInt ≤ 5) → ∃ g1, m_X12_judged_90 f (nI w) (nI n) (nI i) g = some (jd (jOK E w) E.ty n d i a b r, g1) ∧ Ch PMo g g1 := by
  have hc := E.hc
  have hm := E.hm
  intro d
  induction d with
  | zero =>
    intro i f g a b r hi hf x hst hr
    obtain ⟨f, rfl⟩ : ∃ a, f = a + 1 := ⟨f - 1, by omega⟩
    exact ⟨g, by rw [m_X12_judged_90, if_pos (nI_le (by omega) (by omega))]; rfl, Ch.rf⟩
  | succ d ih =>
    intro i f g a b r hi hf x hst hr
    obtain ⟨f, rfl⟩ : ∃ a, f = a + 1 := ⟨f - 1, by omega⟩
    have hgi := hg i (by omega)
    rw [Bool.and_eq_true] at hgi
    have hs := of_decide_eq_true hgi.1
    have ht := of_decide_eq_true hgi.2
    have ht12 : (E.ty (3 * i + 1)).toNatClampNeg < 12 := clamp_lt ht.1 (by omega)
    have e3i : (3 : Int32) * nI i = nI (3 * i) := pk_mul 3 i
    have e32 : nI (3 * i) + 2 = nI (3 * i + 2) := nI_add _ 2
    rw [m_X12_judged_90, if_neg (nI_ge (by omega) (by omega)), e3i, e32, x.byte (by omega), bd_some, isSizeM, bd_some, isLn_b, jd]
    cases hl : isLn (E.ty (3 * i + 2)) with
    | false =>
      refine ⟨g, ?_, Ch.rf⟩
      rw [i01_f, if_pos rfl, if_neg (by unfold jOK; rw [hl]; simp)]
    | true =>
      obtain ⟨j, ej, h1, h2, ej2⟩ := len_nat hl
      rw [i01_t, if_neg one_ne, nI_1, x.byte (by omega), bd_some, gd_pos (inb_iff.mpr (by omega)), x.2.2.1.2 _ ht12, ej, hasM _ (by omega), bd_some]
      cases hz : tb (E.siz (E.ty (3 * i + 1)).toNatClampNeg) j with
      | false =>
        refine ⟨g, ?_, Ch.rf⟩
        rw [i01_f, if_pos rfl, if_neg (by unfold jOK; rw [ej2, hz]; simp)]
      | true =>
        obtain ⟨g1, e1, c1, x1, s1⟩ := x.ask1 (l := j) (t := E.ty (3 * i + 1)) hst hw hs hr
        rw [i01_t, if_neg one_ne, x.byte (by omega), bd_some, x.byte (by omega), bd_some, saysM, bd_some, e1, bd_some]
        have hk : jOK E w i a b r = E.ok (lawsOf w) (E.ty (3 * i)) (E.ty (3 * i + 1)) a b r (nI (E.m + i)) j := by
          unfold jOK; rw [hl, ej2, hz]; rfl
        rw [hk]
        cases hok : E.ok (lawsOf w) (E.ty (3 * i)) (E.ty (3 * i + 1)) a b r (nI (E.m + i)) j with
        | false =>
          refine ⟨g1, ?_, pws_pmo c1⟩
          rw [i01_f, if_pos rfl, if_neg (by simp)]
        | true =>
          rw [i01_t, if_neg one_ne, x1.byte (by omega), bd_some]
          have eg : m_X12_goesOn (E.ty (3 * i)) (nI j) g1 = some ((), sI (sI (sI (sI g1 70 39 (nI (E.m + (i + 1)))) 70 37 a) 70 36 (nI j)) 70 38 (E.ty (3 * i))) := by
            unfold m_X12_goesOn
            simp only [lt_eq, hI_sI, Nat.reduceEqDiff, false_and, and_false, true_and, and_true, reduceIte, s1.1, s1.2.2.2, nI_1]
            rfl
          rw [eg, bd_some]
          have cg : Ch PSt g1 (sI (sI (sI (sI g1 70 39 (nI (E.m + (i + 1)))) 70 37 a) 70 36 (nI j)) 70 38 (E.ty (3 * i))) := (((Ch.rf.sI rfl).sI rfl).sI rfl).sI rfl
          have sg : StM (sI (sI (sI (sI g1 70 39 (nI (E.m + (i + 1)))) 70 37 a) 70 36 (nI j)) 70 38 (E.ty (3 * i))) (nI j) a (E.ty (3 * i)) (nI (E.m + (i + 1))) := ⟨rfl, rfl, rfl, rfl⟩
          obtain ⟨g2, e2, c2⟩ := ih (i + 1) f _ (nI j) a (E.ty (3 * i)) (by omega) (by omega) (x1.pmo (pst_pmo cg)) sg (by omega)
          refine ⟨g2, ?_, ((pws_pmo c1).trans (pst_pmo cg)).trans c2⟩
          rw [lt_eq, nI_1, e2, if_pos rfl]
theorem judged38 {E : En} {n w : Nat} (hn : n * 3 ≤ E.c) {g : AHp} (x : RX E g) : ∀ (d i f : Nat), i + d = n → d < f → m_X12_judged_38 f (nI w) (nI n) (nI i) g = if okF (fun i => isSp (E.ty (3 * i)) && isTh (E.ty (3 * i + 1))) i d = true then bd (m_X12_standsAt (hI g 70 3) g) (fun r23 h24 => (m_X12_judged_90 FU (nI w) (nI n) 0 h24)) else some (-2, g) := by
  have hc := E.hc
  intro d
  induction d with
  | zero =>
    intro i f hi hf
    obtain ⟨f, rfl⟩ : ∃ a, f = a + 1 := ⟨f - 1, by omega⟩
    rw [m_X12_judged_38, if_pos (nI_le (by omega) (by omega)), okF, if_pos rfl]
  | succ d ih =>
    intro i f hi hf
    obtain ⟨f, rfl⟩ : ∃ a, f = a + 1 := ⟨f - 1, by omega⟩
    rw [m_X12_judged_38, if_neg (nI_ge (by omega) (by omega)), show (3 : Int32) * nI i = nI (3 * i) from pk_mul 3 i, x.byte (by omega), bd_some, isSpeakerM, bd_some, isSp_b, okF]
    cases h1 : isSp (E.ty (3 * i)) with
    | false => rw [i01_f, if_pos rfl]; simp
    | true =>
      rw [i01_t, if_neg one_ne, nI_1, x.byte (by omega), bd_some, isThingM, bd_some, isTh_b]
      cases h2 : isTh (E.ty (3 * i + 1)) with
      | false => rw [i01_f, if_pos rfl]; simp
      | true =>
        rw [i01_t, if_neg one_ne, lt_eq, nI_1, ih (i + 1) f (by omega) (by omega)]; simp
abbrev PT : Nat → Nat → Bool := fun k i => PN k i || (k == 1 && i == 1) || (k == 70 && i == 1)
theorem pn_pt {h g : AHp} (c : Ch PN h g) : Ch PT h g := c.mono (fun k i hp => by
  simp only [Bool.or_eq_false_iff] at hp ⊢
  simp only [hp, true_and])
theorem BI.pt {h g : AHp} (hB : BI h) (c : Ch PT h g) (e1 : hI g 1 1 = 0) (e2 : hI g 70 1 = 0) : BI g := hB.clr c (fun {k i} hp h1 h2 => by
  simp only [Bool.or_eq_true, Bool.and_eq_true, beq_iff_eq] at hp
  simp only [Bool.or_eq_false_iff, Bool.and_eq_false_iff, beq_eq_false_iff_ne]
  omega) e1 e2
theorem sameLM.pt {h g : AHp} (c : Ch PT h g) : sameLM h g := sameLM.ch c (fun k h1 h2 i => by simp only [Bool.or_eq_false_iff, Bool.and_eq_false_iff, beq_eq_false_iff_ne]; omega)
theorem clearC (h : AHp) : m_X8_clear h = some ((), sI h 1 1 0) := rfl
theorem L2.clr {h : AHp} {cl0 cl1 : List Clz} {K0 K1 : Nat → Prop} {v0 v1 : Nat → Int32} (hL : L2 h cl0 cl1 K0 K1 v0 v1) {k i : Nat} (hk : k < 7 ∨ 41 < k) (v : Int32) : L2 (sI h k i v) cl0 cl1 K0 K1 v0 v1 := hL.next rfl rfl (fun k2 a b i2 => by rw [hI_sI, if_neg (by omega)])
theorem sim_judged {h : AHp} (w n : Int32) (hB : BI h) (hI0 : LI h) : SimL PT h (m_X11_judged w n) (m_X12_judged w n) := by
  by_cases hw : 0 ≤ w.toInt ∧ w.toInt ≤ 1
  rotate_left
  · refine SimL.same hB hI0 (-1) ?_ ?_
    · unfold m_X11_judged; rw [isLawC, bd_some, b2i_f hw, if_pos rfl]
    · unfold m_X12_judged; rw [isLawM, bd_some, b2i_f hw, if_pos rfl]
  by_cases hn : 1 ≤ n.toInt ∧ n.toInt ≤ 60
  rotate_left
  · refine SimL.same hB hI0 (-1) ?_ ?_
    · unfold m_X11_judged; rw [isLawC, bd_some, b2i_t hw, if_neg one_ne, show m_X11_isOnTape n 60 3 h = some (0, h) from onTape_no (lim := 60) (grp := 3) (by omega) hn, bd_some, if_pos rfl]
    · unfold m_X12_judged; rw [isLawM, bd_some, b2i_t hw, if_neg one_ne, liesI, bd_some, b2i_f (by exact hn), if_pos rfl]
  obtain ⟨w, rfl, -, hw1⟩ := nat_in (lo := 0) (hi := 1) hw
  obtain ⟨n, rfl, hn1, hn2⟩ := nat_in (lo := 1) (hi := 60) hn
  obtain ⟨cl0, cl1, K0, K1, v0, v1, hLR⟩ := id hI0
  obtain ⟨E, xC, xR, ⟨rfl, rfl, rfl, rfl, rfl, rfl⟩, e701⟩ := hB.en hLR
  have hc := E.hc
  have eT : m_X11_isOnTape (nI n) 60 3 h = some (if n * 3 ≤ E.c then 1 else 0, h) := onTape_n (lim := 60) (grp := 3) xC.2.1 hc hn1 hn2 (by omega) (by omega)
  have e3n : (3 : Int32) * nI n = nI (3 * n) := pk_mul 3 n
  by_cases hq : n * 3 ≤ E.c
  rotate_left
  · rw [if_neg hq] at eT
    refine SimL.same hB hI0 (-1) ?_ ?_
    · unfold m_X11_judged; rw [isLawC, bd_some, b2i_t hw, if_neg one_ne, eT, bd_some, if_pos rfl]
    · unfold m_X12_judged; rw [isLawM, bd_some, b2i_t hw, if_neg one_ne, liesI, bd_some, b2i_t (by exact hn), if_neg one_ne, e3n, e701, if_neg (nI_ge (by omega) (by omega))]
  rw [if_pos hq] at eT
  have eTl := tellsC (n := n) (e := 3) xC (by omega) hq n 0 FU (by omega) (by unfold FU; omega)
  have eRef : ∀ g, hI g 70 1 = nI E.c → m_X12_judged (nI w) (nI n) g = m_X12_judged_38 FU (nI w) (nI n) 0 (sI g 70 1 0) := fun g eg => by
    unfold m_X12_judged; rw [isLawM, bd_some, b2i_t hw, if_neg one_ne, liesI, bd_some, b2i_t (by exact hn), if_neg one_ne, e3n, eg, if_pos (nI_le (by omega) (by omega)), lt_eq]
  cases hok : okF (fun i => isSp (E.ty (3 * i)) && isTh (E.ty (3 * i + 1))) 0 n with
  | false =>
    rw [hok, i01_f] at eTl
    have c0 : Ch PT h (sI (sI h 1 1 0) 70 1 0) := (Ch.rf.sI rfl).sI rfl
    have xR2 : RX E (sI (sI h 1 1 0) 70 1 0) := xR.ch (P := fun k i => (k == 1 && i == 1) || (k == 70 && i == 1)) ((Ch.rf.sI rfl).sI rfl) (fun {k i} hp => by
      simp only [Bool.or_eq_true, Bool.and_eq_true, beq_iff_eq] at hp
      simp only [Bool.or_eq_false_iff, Bool.and_eq_false_iff, beq_eq_false_iff_ne]
      omega)
    have e2 := judged38 (w := w) hq xR2 n 0 FU (by omega) (by unfold FU; omega)
    rw [hok, if_neg (by simp)] at e2
    refine ⟨-2, sI h 1 1 0, sI (sI h 1 1 0) 70 1 0, ?_, ?_, hB.pt c0 rfl rfl, ⟨E.cl0, E.cl1, E.K0, E.K1, E.v0, E.v1, (hLR.1.clr (by omega) _).clr (by omega) _, hLR.2.1.same (sameLM.pt c0), hLR.2.2.same (sameLM.pt c0)⟩, c0⟩
    · unfold m_X11_judged; rw [isLawC, bd_some, b2i_t hw, if_neg one_ne, eT, bd_some, if_neg one_ne]
      unfold m_X11_tellsSpeakersAndThings
      rw [show m_X11_tellsSpeakersAndThings_2 FU (nI n) 3 0 h = some (0, h) from eTl, bd_some, if_pos rfl, clearC, bd_some]
    · rw [eRef (sI h 1 1 0) e701]; exact e2
  | true =>
    rw [hok, i01_t] at eTl
    have hg : ∀ i, i < n → (isSp (E.ty (3 * i)) && isTh (E.ty (3 * i + 1))) = true := fun i hi => okF_all n 0 hok i (by omega) (by omega)
    obtain ⟨g1, e1, c1, x1⟩ := firstWrongC hw1 hq hg n 0 FU h E.a E.b E.r (by omega) (by unfold FU; omega) xC E.hr
    have c2 : Ch PT h (sI (sI g1 1 1 0) 70 1 0) := ((pn_pt (pc_pn c1)).sI rfl).sI rfl
    have xR2 : RX E (sI (sI g1 1 1 0) 70 1 0) := xR.ch c2 (fun {k i} hp => by
      simp only [Bool.or_eq_true, Bool.and_eq_true, beq_iff_eq] at hp
      simp only [Bool.or_eq_false_iff, Bool.and_eq_false_iff, beq_eq_false_iff_ne]
      omega)
    have e2 := judged38 (w := w) hq xR2 n 0 FU (by omega) (by unfold FU; omega)
    rw [hok, if_pos rfl] at e2
    obtain ⟨g2, e3, c3, x3, s3⟩ := xR2.now
    obtain ⟨g3, e4, c4⟩ := judgedM hw1 hq hg n 0 FU g2 E.a E.b E.r (by omega) (by unfold FU; omega) x3 s3 E.hr
    have c5 := c2.trans (pn_pt (pmo_pn ((pst_pmo c3).trans c4)))
    have cM := (pst_pmo c3).trans c4
    refine ⟨jd (jOK E w) E.ty n n 0 E.a E.b E.r, sI g1 1 1 0, g3, ?_, ?_, hB.pt c5 (by rw [cM.i rfl]; rfl) (by rw [cM.i rfl]; rfl), ⟨E.cl0, E.cl1, E.K0, E.K1, E.v0, E.v1, ((x1.2.2.2.2.1.clr (by omega) _).clr (by omega) _).pmo cM, hLR.2.1.same (sameLM.pt c5), hLR.2.2.same (sameLM.pt c5)⟩, c5⟩
    · unfold m_X11_judged; rw [isLawC, bd_some, b2i_t hw, if_neg one_ne, eT, bd_some, if_neg one_ne]
      unfold m_X11_tellsSpeakersAndThings m_X11_firstWrong
      rw [show m_X11_tellsSpeakersAndThings_2 FU (nI n) 3 0 h = some (1, h) from eTl, bd_some, if_neg one_ne, xC.spanA, bd_some, xC.spanB, bd_some, xC.spkA, bd_some]
      rw [show m_X11_firstWrong_56 FU (nI w) (nI n) E.a E.b E.r 0 h = _ from e1, bd_some, clearC, bd_some]
    · rw [eRef _ (by rw [hI_sI, if_neg (by omega), c1.i rfl, e701])]
      rw [show m_X12_judged_38 FU (nI w) (nI n) 0 (sI (sI g1 1 1 0) 70 1 0) = _ from e2, e3, bd_some]
      exact e4
