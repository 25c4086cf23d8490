/-! any talk: the class's answer -/
def klF (ths : Int32) : Nat → List Nat
  | 0 => []
  | t + 1 => if tb ths t = true then klF ths t ++ [t] else klF ths t
theorem klF_len (ths : Int32) : ∀ t, t ≤ 32 → (klF ths t).length + cntF ths t = pcI ths
  | 0, _ => by rw [cntF_all]; simp [klF]
  | t + 1, h => by
    have ih := klF_len ths t (by omega)
    rw [cntF_step ths (by omega)] at ih
    rw [klF]
    by_cases hb : tb ths t = true
    · rw [if_pos hb] at ih ⊢; rw [List.length_append, List.length_singleton]; omega
    · rw [if_neg hb] at ih ⊢; omega
theorem klF_lt (ths : Int32) : ∀ t u, u ∈ klF ths t → u < t
  | 0, u, h => by cases h
  | t + 1, u, h => by
    rw [klF] at h
    by_cases hb : tb ths t = true
    · rw [if_pos hb, List.mem_append, List.mem_singleton] at h
      rcases h with h | h
      · have := klF_lt ths t u h; omega
      · omega
    · rw [if_neg hb] at h; have := klF_lt ths t u h; omega
theorem klF_12 {ths : Int32} (h : 0 ≤ ths.toInt ∧ ths.toInt ≤ 4095) : (klF ths 12).length = pcI ths := by
  have h1 := klF_len ths 12 (by omega)
  rw [cntF_zero 20 12 (by omega) (fun k h2 h3 => by
    have := (set12 ths).mpr h
    have := (tb_eq0 _).mp this k h3
    rw [tb_and, tb_4096 h3, decide_eq_true h2, Bool.and_true] at this; exact this)] at h1
  omega
def parA (ths : Int32) (n : Nat) (hn : 1 ≤ n ∧ n ≤ 5) (ht : 0 ≤ ths.toInt ∧ ths.toInt ≤ 4095) (hK : 1 ≤ pcI ths ∧ pcI ths ≤ 4) : APar :=
  ⟨((klF ths 12).length, n, fun j => (klF ths 12).getD j 0), ⟨by show 1 ≤ (klF ths 12).length ∧ (klF ths 12).length ≤ 4; rw [klF_12 ht]; exact hK, hn, fun j hj => by
    have hj2 : j < (klF ths 12).length := hj
    show (klF ths 12).getD j 0 ≤ 11
    rw [List.getD_eq_getElem?_getD, List.getElem?_eq_getElem hj2, Option.getD_some]
    have := klF_lt ths 12 _ (List.getElem_mem hj2)
    omega⟩⟩
theorem getD_app1 {l : List Nat} {t j : Nat} (h : j < l.length) : (l ++ [t]).getD j 0 = l.getD j 0 := by
  rw [List.getD_eq_getElem?_getD, List.getD_eq_getElem?_getD, List.getElem?_append_left h]
theorem getD_app2 {l : List Nat} {t : Nat} : (l ++ [t]).getD l.length 0 = t := by
  rw [List.getD_eq_getElem?_getD, List.getElem?_append_right (Nat.le_refl _)]; simp
theorem begin119 {E : En} {ths : Int32} (ht : 0 ≤ ths.toInt ∧ ths.toInt ≤ 4095) (hK : pcI ths ≤ 4) : ∀ (d t f : Nat) (g : AHp), t + d = 12 → d < f → hI g 56 7 = nI (klF ths t).length → (∀ j, j < (klF ths t).length → hI g 61 j = nI ((klF ths t).getD j 0)) → ∃ g1, m_X0_begin_119 f ths (nI t) g = m_X0_begin_173 FU 0 g1 ∧ hI g1 56 7 = nI (klF ths 12).length ∧ (∀ j, j < (klF ths 12).length → hI g1 61 j = nI ((klF ths 12).getD j 0)) ∧ Ch (fun k i => (k == 56 && i == 7) || k == 61) g g1 := by
  have h12 := klF_12 ht
  have hmono : ∀ t, t ≤ 12 → (klF ths t).length ≤ 4 := fun t ht12 => by
    have := klF_len ths t (by omega); omega
  intro d
  induction d with
  | zero =>
    intro t f g ht hf h7 h61
    obtain ⟨f, rfl⟩ : ∃ a, f = a + 1 := ⟨f - 1, by omega⟩
    have : t = 12 := by omega
    subst this
    exact ⟨g, by rw [m_X0_begin_119, if_pos (by decide)], h7, h61, Ch.rf⟩
  | succ d ih =>
    intro t f g ht hf h7 h61
    obtain ⟨f, rfl⟩ : ∃ a, f = a + 1 := ⟨f - 1, by omega⟩
    rw [m_X0_begin_119, if_neg (show ¬ 12 ≤ nI t from nI_ge (a := t) (b := 12) (by omega) (by omega))]
    cases hb : tb ths t with
    | false =>
      rw [if_pos ((hasC (by omega)).mpr hb), lt_eq, nI_1]
      have e : klF ths (t + 1) = klF ths t := by rw [klF, hb]; rfl
      exact ih (t + 1) f g (by omega) (by omega) (by rw [e]; exact h7) (by rw [e]; exact h61)
    | true =>
      have e : klF ths (t + 1) = klF ths t ++ [t] := by rw [klF, hb]; rfl
      have hl := hmono (t + 1) (by omega)
      rw [e, List.length_append, List.length_singleton] at hl
      rw [if_neg (fun z => by rw [(hasC (by omega)).mp z] at hb; cases hb), h7, if_neg (show ¬ 4 ≤ nI (klF ths t).length from nI_ge (a := (klF ths t).length) (b := 4) (by omega) (by omega)), gd_pos (inb_nI (by omega) (by omega)), nI_clamp (by omega), lt_eq, lt_eq, lt_eq]
      have e7 : hI (sI g 61 (klF ths t).length (nI t)) 56 7 = nI (klF ths t).length := by rw [hI_sI, if_neg (by omega), h7]
      rw [e7, nI_1, nI_1]
      obtain ⟨g1, e1, q1, q2, c1⟩ := ih (t + 1) f (sI (sI g 61 (klF ths t).length (nI t)) 56 7 (nI ((klF ths t).length + 1))) (by omega) (by omega) (by rw [sI_same, e, List.length_append, List.length_singleton]) (fun j hj => by
        rw [e, List.length_append, List.length_singleton] at hj
        rw [hI_sI, if_neg (by omega), hI_sI, e]
        by_cases hjl : j = (klF ths t).length
        · rw [if_pos ⟨rfl, hjl⟩, hjl, getD_app2]
        · rw [if_neg (by omega), getD_app1 (by omega)]; exact h61 j (by omega))
      exact ⟨g1, e1, q1, q2, ((Ch.rf.sI rfl).sI rfl : Ch (fun k i => (k == 56 && i == 7) || k == 61) g _).trans c1⟩
def S0A (an bn : Nat) : Nat → Nat → Bool := fun a b => decide (a = an) && decide (b = bn)
theorem begin173 {E : En} {A : APar} {an bn : Nat} (ea : E.a = nI an) (ha : an ≤ 24) (eb : E.b = nI bn) (hb : bn ≤ 24) : ∀ (d i f : Nat) (g : AHp), i + d = 5 → d < f → CX E g → AX E A g → (∀ j, j < i → hI g 59 j = 0) → ∃ g1, m_X0_begin_173 f (nI i) g = some ((), g1) ∧ CX E g1 ∧ AX E A g1 ∧ GD E A g1 ∧ RI E g1 0 (S0A an bn) ∧ Ch (fun k _ => k == 57 || k == 59) g g1 := by
  intro d
  induction d with
  | zero =>
    intro i f g hi hf x ax hz
    obtain ⟨f, rfl⟩ : ∃ a, f = a + 1 := ⟨f - 1, by omega⟩
    have : i = 5 := by omega
    subst this
    obtain ⟨g0, e0, z0, c0⟩ := clearC2 (E := E) (lv := 0) (by omega) 25 0 FU g (by omega) (by unfold FU; omega) (fun b hb => by omega)
    have c0' : Ch (fun k _ => k == 57 || k == 59) g g0 := c0.mono (fun k i hp => by
      simp only [Bool.or_eq_false_iff] at hp; rw [hp.1]; rfl)
    have x0 : CX E g0 := x.po (c0.mono (fun k i hp => by
      simp only [Bool.or_eq_false_iff, Bool.and_eq_false_iff, beq_eq_false_iff_ne, ble_f] at hp ⊢; omega))
    have ax0 := ax.ch c0 (fun _ => ⟨rfl, rfl⟩)
    have hy0 : ((1 : Int32) <<< (nI an &&& 31)) ≠ 0 := fun z => by
      have := (tb_eq0 _).mp z an (by omega)
      rw [tb_bit (by omega) (by omega)] at this; simp at this
    have hk := kb_le (E := E) hb
    have cw : Ch (fun k _ => k == 57 || k == 59) g (sI g0 57 (0 * 25 + kb E bn) (hI g0 57 (0 * 25 + kb E bn) ||| (if fA E = true then (1 : Int32) <<< (nI an &&& 31) else 1))) := c0'.sI rfl
    refine ⟨_, ?_, x0.c57 _ _, ax0.ch (P := fun k _ => k == 57) (Ch.rf.sI rfl) (fun _ => ⟨rfl, rfl⟩), fun L hL => ⟨0, by omega, ?_, fun i hi => by omega⟩, fun b hb2 j hj => ?_, cw⟩
    · rw [m_X0_begin_173, if_pos (by decide)]
      unfold m_X0_clearLevel
      rw [show m_X0_clearLevel_2 FU 0 0 g = _ from e0, bd_some, x0.spanB, bd_some, x0.spanA, bd_some, eb, ea]
      rw [show m_X0_reached 0 (nI bn) ((1 : Int32) <<< (nI an &&& 31)) g0 = _ from reachedC (lv := 0) (by omega) hb hy0 ax0, bd_some]
    · rw [hI_sI, if_neg (by omega), c0.i rfl, hz L hL]; rfl
    · have hz0 := z0 b hb2
      rw [hI_sI]
      have hbits : tb (if fA E = true then (1 : Int32) <<< (nI an &&& 31) else 1) j = decide (j = ka E an) := by
        unfold ka
        by_cases hA : fA E = true
        · rw [if_pos hA, if_pos hA, tb_bit (by omega) hj]
        · rw [if_neg hA, if_neg hA, tb_one]
      have himg : imgA E (S0A an bn) j b = (decide (j = ka E an) && decide (b = kb E bn)) := by
        rw [Bool.eq_iff_iff, imgA_iff, Bool.and_eq_true, decide_eq_true_eq, decide_eq_true_eq]
        constructor
        · rintro ⟨a2, b2, h1, h2, h3, h4, h5⟩
          unfold S0A at h3
          rw [Bool.and_eq_true, decide_eq_true_eq, decide_eq_true_eq] at h3
          rw [← h4, ← h5, h3.1, h3.2]; exact ⟨rfl, rfl⟩
        · rintro ⟨h1, h2⟩
          exact ⟨an, bn, ha, hb, by unfold S0A; simp, h1.symm, h2.symm⟩
      rw [himg]
      by_cases hbb : b = kb E bn
      · rw [if_pos ⟨rfl, by omega⟩, ← hbb, hz0, tb_or, tb_zero, Bool.false_or, hbits, decide_eq_true rfl, Bool.and_true]
      · rw [if_neg (by omega), hz0, tb_zero, decide_eq_false hbb, Bool.and_false]
  | succ d ih =>
    intro i f g hi hf x ax hz
    obtain ⟨f, rfl⟩ : ∃ a, f = a + 1 := ⟨f - 1, by omega⟩
    have cw : Ch (fun k _ => k == 59) g (sI g 59 i 0) := Ch.rf.sI rfl
    rw [m_X0_begin_173, if_neg (show ¬ 5 ≤ nI i from nI_ge (a := i) (b := 5) (by omega) (by omega)), gd_pos (inb_nI (by omega) (by omega)), nI_clamp (by omega), lt_eq, lt_eq, nI_1]
    obtain ⟨g1, e1, x1, ax1, gd1, ri1, c1⟩ := ih (i + 1) f (sI g 59 i 0) (by omega) (by omega) (x.po (Ch.rf.sI rfl)) (ax.ch cw (fun _ => ⟨rfl, rfl⟩)) (fun j hj => by
      rw [hI_sI]
      by_cases h : j = i
      · rw [if_pos ⟨rfl, h⟩]
      · rw [if_neg (by omega)]; exact hz j (by omega))
    exact ⟨g1, e1, x1, ax1, gd1, ri1, (Ch.rf.sI rfl : Ch (fun k _ => k == 57 || k == 59) g _).trans c1⟩
def resA (E : En) (A : APar) (an bn : Nat) (what : Int32) : Int32 := match fr (FA E A) A.K A.n 0 (S0A an bn) with
  | none => if what = -1 then 1 else -2
  | some r => if what = -1 then 0 else nI (A.kd (r / A.K ^ (A.n - 1 - what.toNatClampNeg) % A.K))
theorem answerA {E : En} {ths what : Int32} {n c an bn : Nat} {h : AHp} (hn : 1 ≤ n ∧ n ≤ 5) (ht : 0 ≤ ths.toInt ∧ ths.toInt ≤ 4095) (hK : 1 ≤ pcI ths ∧ pcI ths ≤ 4) (hc : c < 1000000) (ea : E.a = nI an) (ha : an ≤ 24) (eb : E.b = nI bn) (hb : bn ≤ 24) (hwt : what = -1 ∨ ∃ wt, what = nI wt ∧ wt < n) (x : CX E h) (mi : MIx h c) :
    ∃ g R, m_X0_answer ths (nI n) what h = some (resA E (parA ths n hn ht hK) an bn what, g) ∧ CX E g ∧ MG g (c + 1) R ∧ Ch PK h g := by
  obtain ⟨g0, e0, mg0, c0⟩ := memo_begin mi hc (GA E (parA ths n hn ht hK))
  have c0' := c31_po c0
  have x0 := x.po c0'
  have en : (if (0 : Int32) < (if (5 : Int32) < nI n then 5 else nI n) then if (5 : Int32) < nI n then 5 else nI n else 0) = nI n := by
    rw [if_neg (show ¬ 5 < nI n from nI_nlt (a := 5) (b := n) (by omega) (by omega)), if_pos (show 0 < nI n from nI_lt (a := 0) (by omega) (by omega))]
  have wr : ∀ (g : AHp) (i : Nat) (v : Int32), CX E g → CX E (sI g 56 i v) := fun g i v xg => xg.po (Ch.rf.sI rfl)
  have x1 := wr g0 8 (nI n) x0
  have x2 := wr _ 9 E.r x1
  have x3 := wr _ 10 (nI E.m) x2
  have ebeg : m_X0_begin ths (nI n) h = m_X0_begin_119 FU ths 0 (sI (sI (sI (sI (sI (sI (sI g0 56 8 (nI n)) 56 9 E.r) 56 10 (nI E.m)) 56 12 (if fB E = true then 1 else 0)) 56 11 (if fA E = true then 1 else 0)) 56 13 (if fK E = true then 1 else 0)) 56 7 0) := by
    unfold m_X0_begin
    rw [e0, bd_some]
    simp only [lt_eq]
    rw [en, x1.spkA, bd_some, x2.1, x3.asks, bd_some]
    have e90 : ∀ (s1 : Int32) (g : AHp), (s1 = 0 ∨ s1 = 1) → m_X0_begin_90 ths (E.msk 1) s1 g = m_X0_begin_119 FU ths 0 (sI (sI (sI g 56 11 s1) 56 13 (if fK E = true then 1 else 0)) 56 7 0) := fun s1 g hs => by
      unfold m_X0_begin_90 fK
      rw [gd_pos hs]
      simp only [lt_eq]
      cases h8 : tb (E.msk 1) 8 with
      | false => rw [if_pos ((tb_lit (n := 8) (by omega) (by decide)).mpr h8)]; rfl
      | true => rw [if_neg (fun z => by rw [(tb_lit (n := 8) (by omega) (by decide)).mp z] at h8; cases h8)]; rfl
    unfold m_X0_begin_66
    simp only [lt_eq]
    cases h5 : tb (E.msk 1) 5 with
    | false =>
      rw [if_pos ((tb_lit (n := 5) (by omega) (by decide)).mpr h5), gd_pos (Or.inl trivial), sI_same, if_pos rfl]
      cases h4 : tb (E.msk 1) 4 with
      | false =>
        rw [if_pos ((tb_lit (n := 4) (by omega) (by decide)).mpr h4), e90 0 _ (Or.inl rfl)]
        unfold fA fB; rw [h5, h4]; rfl
      | true =>
        rw [if_neg (fun z => by rw [(tb_lit (n := 4) (by omega) (by decide)).mp z] at h4; cases h4), e90 1 _ (Or.inr rfl)]
        unfold fA fB; rw [h5, h4]; rfl
    | true =>
      rw [if_neg (fun z => by rw [(tb_lit (n := 5) (by omega) (by decide)).mp z] at h5; cases h5), gd_pos (Or.inr trivial), sI_same, if_neg one_ne, e90 1 _ (Or.inr rfl)]
      unfold fA fB; rw [h5]; rfl
  have cG : Ch (fun k _ => k == 56) g0 (sI (sI (sI (sI (sI (sI (sI g0 56 8 (nI n)) 56 9 E.r) 56 10 (nI E.m)) 56 12 (if fB E = true then 1 else 0)) 56 11 (if fA E = true then 1 else 0)) 56 13 (if fK E = true then 1 else 0)) 56 7 0) := (((((((Ch.rf.sI rfl).sI rfl).sI rfl).sI rfl).sI rfl).sI rfl).sI rfl)
  have hf56 : ∀ i, hI (sI (sI (sI (sI (sI (sI (sI g0 56 8 (nI n)) 56 9 E.r) 56 10 (nI E.m)) 56 12 (if fB E = true then 1 else 0)) 56 11 (if fA E = true then 1 else 0)) 56 13 (if fK E = true then 1 else 0)) 56 7 0) 56 i = if i = 7 then 0 else if i = 13 then (if fK E = true then 1 else 0) else if i = 11 then (if fA E = true then 1 else 0) else if i = 12 then (if fB E = true then 1 else 0) else if i = 10 then nI E.m else if i = 9 then E.r else if i = 8 then nI n else hI g0 56 i := fun i => by
    simp only [hI_sI, true_and]
  generalize sI (sI (sI (sI (sI (sI (sI g0 56 8 (nI n)) 56 9 E.r) 56 10 (nI E.m)) 56 12 (if fB E = true then 1 else 0)) 56 11 (if fA E = true then 1 else 0)) 56 13 (if fK E = true then 1 else 0)) 56 7 0 = G at ebeg cG hf56
  obtain ⟨g1, e1, q1, q2, c1⟩ := begin119 (E := E) ht hK.2 12 0 FU G (by omega) (by unfold FU; omega) (by rw [hf56 7, if_pos rfl]; rfl) (fun j hj => by simp [klF] at hj)
  have f56 : ∀ i, i ≠ 7 → hI g1 56 i = hI G 56 i := fun i hi => c1.i (by simp [hi])
  have ax1 : AX E (parA ths n hn ht hK) g1 := ⟨⟨q1, by rw [f56 8 (by omega), hf56 8]; rfl, by rw [f56 9 (by omega), hf56 9]; rfl, by rw [f56 10 (by omega), hf56 10]; rfl, by rw [f56 11 (by omega), hf56 11]; rfl, by rw [f56 12 (by omega), hf56 12]; rfl, by rw [f56 13 (by omega), hf56 13]; rfl⟩, q2⟩
  have cG' : Ch PO g0 G := cG.mono (fun k i hp => by
    simp only [Bool.or_eq_false_iff, Bool.and_eq_false_iff, beq_eq_false_iff_ne, ble_f] at hp ⊢; omega)
  have c1' : Ch PO G g1 := c1.mono (fun k i hp => by
    simp only [Bool.or_eq_false_iff, Bool.and_eq_false_iff, beq_eq_false_iff_ne, ble_f] at hp ⊢; omega)
  have xg1 := (x0.po cG').po c1'
  obtain ⟨g2, e2, x2b, ax2, gd2, ri2, c2⟩ := begin173 ea ha eb hb 5 0 FU g1 (by omega) (by unfold FU; omega) xg1 ax1 (fun j hj => by omega)
  have c2' : Ch PO g1 g2 := c2.mono (fun k i hp => by
    simp only [Bool.or_eq_false_iff, Bool.and_eq_false_iff, beq_eq_false_iff_ne, ble_f] at hp ⊢; omega)
  have mg2 : MG g2 (c + 1) (GA E (parA ths n hn ht hK)) := ((mg0.ch cG rfl (fun _ => rfl)).ch c1 rfl (fun _ => rfl)).ch c2 rfl (fun _ => rfl)
  obtain ⟨g3, e3, x3b, ax3, mg3, gd3, row3, c3⟩ := breaksC (c := c + 1) n 0 8 (S0A an bn) g2 (by show 0 + n = n; omega) (by omega) x2b ax2 mg2 (fun _ => ri2) gd2
  have c3' : Ch PK g2 g3 := c3.mono (fun k i hp => by
    simp only [Bool.or_eq_false_iff, Bool.and_eq_false_iff, beq_eq_false_iff_ne, ble_f] at hp ⊢
    omega)
  refine ⟨g3, _, ?_, x3b, mg3, (((po_pk c0').trans (po_pk cG')).trans ((po_pk c1').trans (po_pk c2'))).trans c3'⟩
  unfold m_X0_answer resA
  rw [ebeg]
  rw [show m_X0_begin_119 FU ths 0 G = _ from e1]
  rw [show m_X0_begin_173 FU 0 g1 = _ from e2, bd_some]
  rw [show m_X0_breaks 8 0 g2 = _ from e3, bd_some]
  show _ = some ((match fr (FA E (parA ths n hn ht hK)) (parA ths n hn ht hK).K n 0 (S0A an bn) with
    | none => if what = -1 then 1 else -2
    | some r => if what = -1 then 0 else nI ((parA ths n hn ht hK).kd (r / (parA ths n hn ht hK).K ^ (n - 1 - what.toNatClampNeg) % (parA ths n hn ht hK).K))), g3)
  cases hfr : fr (FA E (parA ths n hn ht hK)) (parA ths n hn ht hK).K n 0 (S0A an bn) with
  | none =>
    simp only []
    rw [show (none : Option Nat).isSome = false from rfl, i01_f]
    by_cases hm1 : what = -1
    · rw [if_pos hm1, if_pos hm1, if_pos rfl]
    · rw [if_neg hm1, if_neg hm1, if_pos rfl]
  | some r =>
    simp only []
    rw [show (some r : Option Nat).isSome = true from rfl, i01_t]
    by_cases hm1 : what = -1
    · rw [if_pos hm1, if_pos hm1, if_neg one_ne]
    · obtain ⟨wt, hwt1, hwt2⟩ : ∃ wt, what = nI wt ∧ wt < n := by
        rcases hwt with h | h
        · exact absurd h hm1
        · exact h
      have := row3 r hfr wt hwt2
      rw [Nat.zero_add] at this
      rw [if_neg hm1, if_neg hm1, if_neg one_ne, hwt1, if_neg (nI_pos (by omega)), if_neg (show ¬ 5 ≤ nI wt from nI_ge (a := wt) (b := 5) (by omega) (by omega)), gd_pos (inb_nI (by omega) (by omega)), nI_clamp (by omega), this]
