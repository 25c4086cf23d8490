/-! the reference's waysBy -/
def momS (h : AHp) (s t l : Int32) : Mom := momM (sI (sI (sI h 70 35 s) 70 34 t) 70 33 l)
abbrev PWs : Nat → Nat → Bool := fun k i => k == 92 || k == 93 || (k == 70 && (i == 33 || i == 34 || i == 35))
def okL (h : AHp) : Prop := -1 ≤ (hI h 70 38).toInt ∧ (hI h 70 38).toInt ≤ 5
theorem momS_ch {h h1 : AHp} (c : Ch PWs h h1) (s t l : Int32) : momS h1 s t l = momS h s t l := by
  funext i
  unfold momS momM
  simp only [hI_sI, Nat.reduceEqDiff, false_and, and_false, true_and, and_true, reduceIte, c.i (k := 70) (i := 36) rfl, c.i (k := 70) (i := 37) rfl, c.i (k := 70) (i := 38) rfl, c.i (k := 70) (i := 39) rfl, fun j => c.i (k := 91) (i := j) rfl]
theorem pw_pws {h h1 : AHp} (c : Ch PW h h1) : Ch PWs h h1 := c.mono (fun k i hp => by simp only [Bool.or_eq_false_iff] at hp ⊢; exact hp.1)
theorem sameLM.pws {h g : AHp} (c : Ch PWs h g) : sameLM h g := sameLM.ch c (fun k h1 h2 i => by simp only [Bool.or_eq_false_iff, Bool.and_eq_false_iff, beq_eq_false_iff_ne]; omega)
theorem okL_ch {h h1 : AHp} (c : Ch PWs h h1) (hk : okL h) : okL h1 := by
  unfold okL at hk ⊢
  rw [c.i (k := 70) (i := 38) rfl]; exact hk
theorem saysM (s t l : Int32) (h : AHp) : m_X12_says s t l h = some ((), sI (sI (sI h 70 35 s) 70 34 t) 70 33 l) := rfl
def ok2 (cl0 cl1 : List Clz) (laws : Int32) (e : Mom) : Bool := (!tb laws 0 || letsD cl0 e) && (!tb laws 1 || letsD cl1 e)
theorem says_ch (h : AHp) (s t l : Int32) : Ch PWs h (sI (sI (sI h 70 35 s) 70 34 t) 70 33 l) := ((Ch.rf.sI rfl).sI rfl).sI rfl
theorem tI01 : (0 : Int32) = nI 0 ∧ (1 : Int32) = nI 1 := ⟨rfl, rfl⟩
theorem i01_f : (if (false = true) then (1 : Int32) else 0) = 0 := rfl
theorem i01_t : (if (true = true) then (1 : Int32) else 0) = 1 := rfl
theorem b01 (p : Bool) : ((if p = true then (1 : Int32) else 0) = 0) ↔ p = false := by cases p <;> simp
/-- one length: whether it may be said by the laws -/
theorem ways54 {cl0 cl1 : List Clz} {laws s t : Int32} {l : Nat} (k6 : Int32 → Int32 → Int32 → Int32 → Int32 → AHp → Option (Int32 × AHp)) {v : Int32} {h : AHp} (h1 : LawM h 1 cl1) (hk : okM h) : ∃ h2, Ch PW h h2 ∧ m_X12_waysBy_54 k6 laws s t v (nI l) h = k6 laws s t (if (!tb laws 1 || letsD cl1 (momM h)) = true then v ||| ((1 : Int32) <<< (nI l &&& 31)) else v) (nI (l + 1)) h2 := by
  unfold m_X12_waysBy_54
  rw [show m_X12_has laws 1 h = some (if tb laws 1 = true then 1 else 0, h) from hasM (s := 1) laws (by omega) h, bd_some]
  by_cases hb : tb laws 1 = true
  · rw [if_pos hb, if_neg one_ne]
    obtain ⟨h2, e2, c2⟩ := letsM (w := 1) (by omega) h1 hk
    refine ⟨h2, c2, ?_⟩
    rw [show m_X12_lets 1 h = _ from e2, bd_some]
    cases hl : letsD cl1 (momM h) with
    | true => simp [hb, lt_eq, nI_1]
    | false => simp [hb, lt_eq, nI_1]
  · have hb' : tb laws 1 = false := by simpa using hb
    refine ⟨h, Ch.rf, ?_⟩
    rw [if_neg hb, if_pos rfl]
    simp [hb', lt_eq, nI_1]
theorem ways_l {cl0 cl1 : List Clz} {laws s t : Int32} (hs : 0 ≤ s.toInt ∧ s.toInt ≤ 5) (ht : 0 ≤ t.toInt ∧ t.toInt ≤ 11) :
    ∀ (d l f : Nat) (v : Int32) (h : AHp), l + d = 25 → 1 ≤ l → d < f → LawM h 0 cl0 → LawM h 1 cl1 → okL h → ∃ r h1, m_X12_waysBy_6 f laws s t v (nI l) h = some (r, h1) ∧ Ch PWs h h1 ∧ ∀ k, k < 32 → tb r k = (tb v k || (decide (l ≤ k ∧ k ≤ 24) && tb (hI h 72 t.toNatClampNeg) k && ok2 cl0 cl1 laws (momS h s t (nI k)))) := by
  intro d
  induction d with
  | zero =>
    intro l f v h hl h1 hf hL0 hL1 hk
    obtain ⟨f, rfl⟩ : ∃ a, f = a + 1 := ⟨f - 1, by omega⟩
    have hl25 : l = 25 := by omega
    subst hl25
    refine ⟨v, h, ?_, Ch.rf, fun k hk => ?_⟩
    · rw [m_X12_waysBy_6, if_pos (by decide)]
    · rw [decide_eq_false (by omega)]; simp
  | succ d ih =>
    intro l f v h hl h1 hf hL0 hL1 hk
    obtain ⟨f, rfl⟩ : ∃ a, f = a + 1 := ⟨f - 1, by omega⟩
    rw [m_X12_waysBy_6, if_neg (by exact nI_nlt (a := 24) (b := l) (by omega) (by omega)), gd_pos (inb_iff.mpr (by omega)), hasM _ (by omega), bd_some]
    simp only [lt_eq, nI_1]
    cases hz : tb (hI h 72 t.toNatClampNeg) l with
    | false =>
      rw [i01_f, if_pos rfl]
      obtain ⟨r, g, e1, c1, q1⟩ := ih (l + 1) f v h (by omega) (by omega) (by omega) hL0 hL1 hk
      refine ⟨r, g, e1, c1, fun k hk => ?_⟩
      rw [q1 k hk]
      by_cases hkl : k = l
      · subst hkl; simp [hz]
      · rw [show decide (l + 1 ≤ k ∧ k ≤ 24) = decide (l ≤ k ∧ k ≤ 24) from decide_eq_decide.mpr (by omega)]
    | true =>
      rw [i01_t, if_neg one_ne, saysM, bd_some]
      have c0 := says_ch h s t (nI l)
      generalize hg : sI (sI (sI h 70 35 s) 70 34 t) 70 33 (nI l) = g at c0 ⊢
      have hmg : momM g = momS h s t (nI l) := by rw [← hg]; rfl
      have okg : okM g := ⟨by rw [← hg]; exact hs, by rw [c0.i (k := 70) (i := 38) rfl]; exact hk⟩
      have hL0g := hL0.same (sameLM.pws c0)
      have hL1g := hL1.same (sameLM.pws c0)
      have fin : ∀ (v2 : Int32) (g2 : AHp), Ch PWs g g2 → v2 = (if ok2 cl0 cl1 laws (momS h s t (nI l)) = true then v ||| ((1 : Int32) <<< (nI l &&& 31)) else v) → ∃ r h1, m_X12_waysBy_6 f laws s t v2 (nI (l + 1)) g2 = some (r, h1) ∧ Ch PWs h h1 ∧ ∀ k, k < 32 → tb r k = (tb v k || (decide (l ≤ k ∧ k ≤ 24) && tb (hI h 72 t.toNatClampNeg) k && ok2 cl0 cl1 laws (momS h s t (nI k)))) := by
        intro v2 g2 c2 hv2
        have cc := c0.trans c2
        obtain ⟨r, g3, e1, c1, q1⟩ := ih (l + 1) f v2 g2 (by omega) (by omega) (by omega) (hL0.same (sameLM.pws cc)) (hL1.same (sameLM.pws cc)) (okL_ch cc hk)
        refine ⟨r, g3, e1, cc.trans c1, fun k hk => ?_⟩
        rw [q1 k hk, momS_ch cc, cc.i (k := 72) rfl, hv2]
        by_cases hkl : k = l
        · subst hkl
          rw [decide_eq_false (show ¬ (k + 1 ≤ k ∧ k ≤ 24) by omega), decide_eq_true (show k ≤ k ∧ k ≤ 24 by omega), hz]
          cases hok : ok2 cl0 cl1 laws (momS h s t (nI k)) with
          | true => rw [if_pos rfl, tb_or, tb_bit hk hk]; simp
          | false => rw [if_neg (by simp)]; simp
        · rw [show decide (l + 1 ≤ k ∧ k ≤ 24) = decide (l ≤ k ∧ k ≤ 24) from decide_eq_decide.mpr (by omega)]
          congr 1
          cases hok : ok2 cl0 cl1 laws (momS h s t (nI l)) with
          | true => rw [if_pos rfl, tb_or, tb_bit (by omega) hk, decide_eq_false hkl]; simp
          | false => rw [if_neg (by simp)]
      rw [show m_X12_has laws 0 g = some (if tb laws 0 = true then 1 else 0, g) from hasM (s := 0) laws (by omega) g, bd_some]
      by_cases hb : tb laws 0 = true
      · rw [if_pos hb, if_neg one_ne]
        obtain ⟨g2, e2, c2⟩ := letsM (w := 0) (by omega) hL0g okg
        rw [show m_X12_lets 0 g = _ from e2, bd_some]
        cases hl0 : letsD cl0 (momM g) with
        | false =>
          rw [i01_f, if_pos rfl]
          refine fin v g2 (pw_pws c2) ?_
          rw [if_neg]
          unfold ok2; rw [← hmg, hl0, hb]; simp
        | true =>
          rw [i01_t, if_neg one_ne]
          obtain ⟨g3, c3, e3⟩ := ways54 (cl0 := cl0) (laws := laws) (s := s) (t := t) (l := l) (v := v) (m_X12_waysBy_6 f) (hL1g.same (sameLM.pw c2)) (okM_ch c2 okg)
          rw [e3]
          refine fin _ g3 ((pw_pws c2).trans (pw_pws c3)) ?_
          unfold ok2
          rw [momM_ch c2, ← hmg, hl0, hb]; simp
      · have hb' : tb laws 0 = false := by simpa using hb
        rw [if_neg hb, if_pos rfl]
        obtain ⟨g3, c3, e3⟩ := ways54 (cl0 := cl0) (laws := laws) (s := s) (t := t) (l := l) (v := v) (m_X12_waysBy_6 f) hL1g okg
        rw [e3]
        refine fin _ g3 (pw_pws c3) ?_
        unfold ok2
        rw [← hmg, hb']; simp
theorem waysM {cl0 cl1 : List Clz} {laws s t : Int32} {h : AHp} (hs : 0 ≤ s.toInt ∧ s.toInt ≤ 5) (ht : 0 ≤ t.toInt ∧ t.toInt ≤ 11) (hL0 : LawM h 0 cl0) (hL1 : LawM h 1 cl1) (hk : okL h) : ∃ r h1, m_X12_waysBy laws s t h = some (r, h1) ∧ Ch PWs h h1 ∧ ∀ k, k < 32 → tb r k = (decide (1 ≤ k ∧ k ≤ 24) && tb (hI h 72 t.toNatClampNeg) k && ok2 cl0 cl1 laws (momS h s t (nI k))) := by
  obtain ⟨r, h1, e1, c1, q1⟩ := ways_l (laws := laws) hs ht 24 1 FU 0 h (by omega) (by omega) (by unfold FU; omega) hL0 hL1 hk
  refine ⟨r, h1, e1, c1, fun k hk => ?_⟩
  rw [q1 k hk, tb_zero, Bool.false_or]
