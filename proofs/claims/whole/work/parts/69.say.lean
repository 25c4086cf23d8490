/-! say -/
theorem L2.add {h : AHp} {cl0 cl1 : List Clz} {K0 K1 : Nat → Prop} {v0 v1 : Nat → Int32} (hL : L2 h cl0 cl1 K0 K1 v0 v1) (m : Nat) (s t l : Int32) : L2 (adH h m s t l) cl0 cl1 K0 K1 v0 v1 := hL.next rfl rfl (fun k a b i => by
  unfold adH
  rw [hI_sI, if_neg (by omega), hI_sI, if_neg (by omega), hI_sI, if_neg (by omega), hI_sI, if_neg (by omega), hI_sI, if_neg (by omega)])
theorem L2.isd {h : AHp} {cl0 cl1 : List Clz} {K0 K1 : Nat → Prop} {v0 v1 : Nat → Int32} (hL : L2 h cl0 cl1 K0 K1 v0 v1) (m : Nat) (s t l : Int32) : L2 (isH h m s t l) cl0 cl1 K0 K1 v0 v1 := hL.next rfl rfl (fun k a b i => by
  unfold isH
  rw [hI_sI, if_neg (by omega), hI_sI, if_neg (by omega), hI_sI, if_neg (by omega), hI_sI, if_neg (by omega)])
theorem sameLM.psy {h g : AHp} (c : Ch PSy h g) : sameLM h g := sameLM.ch c (fun k h1 h2 i => by simp only [Bool.or_eq_false_iff, Bool.and_eq_false_iff, beq_eq_false_iff_ne]; omega)
theorem SimL.sy {r : Type} {h : AHp} {c m : AHp → Option (r × AHp)} (x : SimL PN h c m) : SimL PSy h c m := by
  obtain ⟨v, h1, h2, e1, e2, b, l, c⟩ := x
  exact ⟨v, h1, h2, e1, e2, b, l, pn_psy c⟩
theorem TF.add {h : AHp} {m : Nat} {a b r : Int32} (x : TF h m a b r) (s t l : Int32) (g : AHp) (c : Ch (fun k i => k == 42 || k == 43 || k == 44 || k == 45) h g) : ∃ h1, m_X12_standsAt (hI g 70 3) g = some ((), h1) ∧ Ch PSt g h1 ∧ hI h1 70 39 = nI m ∧ hI h1 70 36 = a ∧ hI h1 70 37 = b ∧ hI h1 70 38 = r := by
  obtain ⟨h1, e1, c1, q1, q2, q3, q4⟩ := standsAtM (h := g) x.1.2.1
  have e96 : hI g 96 = hI h 96 := c.r (fun _ => rfl)
  have e94 : hI g 94 = hI h 94 := c.r (fun _ => rfl)
  rw [c.i (k := 70) (i := 3) rfl, x.1.2.2]
  refine ⟨h1, e1, c1, q1, ?_, ?_, ?_⟩
  · rw [q2, ← x.2.2.1.1]; unfold lenA; rw [e96]
  · rw [q3, ← x.2.2.1.2.1]; unfold lenB; rw [e96]
  · rw [q4, ← x.2.2.1.2.2]; unfold spkR; rw [e94]
theorem sim_say {h : AHp} (s t l : Int32) (hB : BI h) (hI0 : LI h) : SimL PSy h (m_X11_say s t l) (m_X12_say s t l) := by
  by_cases hs : 0 ≤ s.toInt ∧ s.toInt ≤ 5
  rotate_left
  · refine SimL.same hB hI0 (-1) ?_ ?_
    · unfold m_X11_say; rw [isSpeakerC, bd_some, b2i_f hs, if_pos rfl]
    · unfold m_X12_say; rw [isSpeakerM, bd_some, b2i_f hs, if_pos rfl]
  by_cases ht : 0 ≤ t.toInt ∧ t.toInt ≤ 11
  rotate_left
  · refine SimL.same hB hI0 (-1) ?_ ?_
    · unfold m_X11_say; rw [isSpeakerC, bd_some, b2i_t hs, if_neg one_ne, isThingC, bd_some, b2i_f ht, if_pos rfl]
    · unfold m_X12_say; rw [isSpeakerM, bd_some, b2i_t hs, if_neg one_ne, isThingM, bd_some, b2i_f ht, if_pos rfl]
  obtain ⟨m, a, b, r, hT⟩ := id hB.tf
  have em := hT.1.1
  have hm := hT.1.2.1
  have em3 := hT.1.2.2
  have s0 : (nI m).toInt = m := nI_toInt (by omega)
  by_cases hm2 : m < 200
  rotate_left
  · refine SimL.same hB hI0 (-1) ?_ ?_
    · unfold m_X11_say; rw [isSpeakerC, bd_some, b2i_t hs, if_neg one_ne, isThingC, bd_some, b2i_t ht, if_neg one_ne, em, if_neg (by rw [i32_lt, s0]; simp only [tIall]; omega)]
    · unfold m_X12_say; rw [isSpeakerM, bd_some, b2i_t hs, if_neg one_ne, isThingM, bd_some, b2i_t ht, if_neg one_ne, em3, if_pos (by rw [i32_eq, s0]; simp only [tIall]; omega)]
  have hlt : nI m < 200 := by rw [i32_lt, s0]; simp only [tIall]; omega
  have hne : ¬ nI m = 200 := by rw [i32_eq, s0]; simp only [tIall]; omega
  by_cases hl : 1 ≤ l.toInt ∧ l.toInt ≤ 24
  rotate_left
  · refine SimL.same hB hI0 (-2) ?_ ?_
    · unfold m_X11_say; rw [isSpeakerC, bd_some, b2i_t hs, if_neg one_ne, isThingC, bd_some, b2i_t ht, if_neg one_ne, em, if_pos hlt, bitOf_no hl, bd_some, if_pos rfl]
    · unfold m_X12_say; rw [isSpeakerM, bd_some, b2i_t hs, if_neg one_ne, isThingM, bd_some, b2i_t ht, if_neg one_ne, em3, if_neg hne, isSizeM, bd_some, b2i_f hl, if_pos rfl]
  obtain ⟨j, rfl, hj⟩ := nat_len hl
  have ht12 : t.toNatClampNeg < 12 := clamp_lt ht.1 (by omega)
  have a2 := hB.2.1
  have e72 := (a2 _ ht12).1
  by_cases hz : tb (hI h 4 t.toNatClampNeg) j = true
  rotate_left
  · have hz' : tb (hI h 4 t.toNatClampNeg) j = false := by simpa using hz
    refine SimL.same hB hI0 (-2) ?_ ?_
    · unfold m_X11_say; rw [isSpeakerC, bd_some, b2i_t hs, if_neg one_ne, isThingC, bd_some, b2i_t ht, if_neg one_ne, em, if_pos hlt, bitOfC ht hj, bd_some, if_pos ((one_bit0 _ (by omega)).mpr hz')]
    · unfold m_X12_say; rw [isSpeakerM, bd_some, b2i_t hs, if_neg one_ne, isThingM, bd_some, b2i_t ht, if_neg one_ne, em3, if_neg hne, isSizeM, bd_some, b2i_t hl, if_neg one_ne, gd_pos (inb_iff.mpr (by omega)), hasM _ (by omega), bd_some, e72, hz', i01_f, if_pos rfl]
  obtain ⟨cl0, cl1, K0, K1, v0, v1, hLR⟩ := hI0
  obtain ⟨y, g1, e1, c1, l1, s1, q1⟩ := askC1 (hLR.1.st a b r (nI m)) (StC.st h a b r (nI m)) (lawsOf 0) t hs hT.2.2.2.1 (hI h 4 t.toNatClampNeg) hj
  have cA0 := (stH_pc h a b r (nI m)).trans (PCl_PC c1)
  have cA := pc_pn cA0
  rw [hz, Bool.true_and] at q1
  have hz0 : ¬ (hI h 4 t.toNatClampNeg &&& ((1 : Int32) <<< (nI j &&& 31)) = 0) := fun z => by rw [(one_bit0 _ (by omega)).mp z] at hz; cases hz
  have em1 : hI g1 42 3 = nI m := by rw [cA.i (k := 42) (i := 3) rfl, em]
  /- the reference, behind the class -/
  have ref : ∀ g : AHp, Ch (fun k i => k == 42 || k == 43 || k == 44 || k == 45) g1 g → ∃ g2 g3, m_X12_standsAt (hI g 70 3) g = some ((), g2) ∧ m_X12_lets 0 (sI (sI (sI g2 70 35 s) 70 34 t) 70 33 (nI j)) = some (if AL cl0 cl1 (hI h 5) (lawsOf 0) s t a b r (nI m) j = true then 1 else 0, g3) ∧ Ch PMo g g3 := by
    intro g cg
    obtain ⟨g2, e2, c2, f39, f36, f37, f38⟩ := (hT.ch cA ⟨rfl, rfl⟩ (fun _ => ⟨rfl, rfl, rfl, rfl⟩)).add s t (nI j) g cg
    have okg : okL g2 := by unfold okL; rw [f38]; exact hT.2.2.2.1
    have sm : sameLM h g2 := fun k p q i => by
      rw [c2.i (by simp; omega), cg.i (by simp; omega), cA.i (by simp only [Bool.or_eq_false_iff, Bool.and_eq_false_iff, beq_eq_false_iff_ne]; omega)]
    obtain ⟨g3, e3, c3⟩ := askM1 (t := t) (l := j) (w := 0) (by omega) hs (hLR.2.1.same sm) (hLR.2.2.same sm) okg
    have ec : AL cl0 cl1 (hI g2 91) (lawsOf 0) s t a b r (nI m) j = AL cl0 cl1 (hI h 5) (lawsOf 0) s t a b r (nI m) j :=
      AL_col (fun i hi => by rw [c2.i (k := 91) rfl, cg.i (k := 91) rfl, cA.i (k := 91) rfl, (hB.2.2.1 i hi).1]) hs hT.2.2.2.1
    rw [f36, f37, f38, f39, ec, saysM, bd_some] at e3
    exact ⟨g2, g3, e2, e3, (pst_pmo c2).trans (pws_pmo c3)⟩
  have eR : ∀ g : AHp, Ch (fun k i => k == 42 || k == 43 || k == 44 || k == 45) g1 g → m_X12_say s t (nI j) g = (bd (m_X12_standsAt (hI g 70 3) g) fun r10 h11 => (bd (m_X12_says s t (nI j) h11) fun r12 h13 => (bd (m_X12_lets 0 h13) fun r14 h15 => (if r14 = 0 then (some ((-3), h15)) else (bd (m_X12_isSaid s t (nI j) h15) fun r16 h17 => (some (hI h17 70 3, h17))))))) := fun g cg => by
    unfold m_X12_say
    have e72' : hI g 72 t.toNatClampNeg = hI h 4 t.toNatClampNeg := by rw [cg.i (k := 72) rfl, cA.i (k := 72) rfl, e72]
    have e703 : hI g 70 3 = nI m := by rw [cg.i (k := 70) rfl, cA.i (k := 70) (i := 3) rfl, em3]
    rw [isSpeakerM, bd_some, b2i_t hs, if_neg one_ne, isThingM, bd_some, b2i_t ht, if_neg one_ne, e703, if_neg hne, isSizeM, bd_some, b2i_t hl, if_neg one_ne, gd_pos (inb_iff.mpr (by omega)), hasM _ (by omega), bd_some, e72', hz, i01_t, if_neg one_ne, e703]
  cases hA : AL cl0 cl1 (hI h 5) (lawsOf 0) s t a b r (nI m) j with
  | false =>
    obtain ⟨g2, g3, e2, e3, c3⟩ := ref g1 Ch.rf
    have cC := cA.trans (pmo_pn c3)
    rw [hA, i01_f] at e3
    refine SimL.sy ⟨-3, g1, g3, ?_, ?_, hB.pn cC, ⟨cl0, cl1, K0, K1, v0, v1, hLR.pn cC (l1.pmo c3)⟩, cC⟩
    · unfold m_X11_say
      rw [isSpeakerC, bd_some, b2i_t hs, if_neg one_ne, isThingC, bd_some, b2i_t ht, if_neg one_ne, em, if_pos hlt, bitOfC ht hj, bd_some, if_neg hz0, hT.nowC, bd_some]
      rw [show m_X9_lets 1 s t (hI h 4 t.toNatClampNeg &&& (1 : Int32) <<< (nI j &&& 31)) (stH h a b r (nI m)) = some (y, g1) from e1, bd_some, if_pos (q1.mpr hA)]
    · rw [eR g1 Ch.rf, e2, bd_some, saysM, bd_some, e3, bd_some, if_pos rfl]
  | true =>
    obtain ⟨g2, g3, e2, e3, c3⟩ := ref (adH g1 m s t (nI j)) (((((Ch.rf.sI rfl).sI rfl).sI rfl).sI rfl).sI rfl)
    rw [hA, i01_t] at e3
    obtain ⟨hB2, cC⟩ := hB.both em hm2 hs ht hl cA0 c3
    have e703 : hI g3 70 3 = nI m := by
      rw [c3.i rfl]; unfold adH
      simp only [hI_sI, Nat.reduceEqDiff, false_and, and_false, true_and, and_true, reduceIte]; rw [cA.i rfl, em3]
    refine ⟨nI (m + 1), adH g1 m s t (nI j), isH g3 m s t (nI j), ?_, ?_, hB2, ⟨cl0, cl1, K0, K1, v0, v1, ⟨((l1.add m s t (nI j)).pmo c3).isd m s t (nI j), hLR.2.1.same (sameLM.psy cC), hLR.2.2.same (sameLM.psy cC)⟩⟩, cC⟩
    · unfold m_X11_say
      rw [isSpeakerC, bd_some, b2i_t hs, if_neg one_ne, isThingC, bd_some, b2i_t ht, if_neg one_ne, em, if_pos hlt, bitOfC ht hj, bd_some, if_neg hz0, hT.nowC, bd_some]
      rw [show m_X9_lets 1 s t (hI h 4 t.toNatClampNeg &&& (1 : Int32) <<< (nI j &&& 31)) (stH h a b r (nI m)) = some (y, g1) from e1, bd_some, if_neg (fun z => by have := q1.mp z; rw [show hI (stH h a b r (nI m)) 5 = hI h 5 from rfl, hA] at this; cases this), addC em1 hm2, bd_some]
      rfl
    · rw [eR (adH g1 m s t (nI j)) (((((Ch.rf.sI rfl).sI rfl).sI rfl).sI rfl).sI rfl), e2, bd_some, saysM, bd_some, e3, bd_some, if_neg one_ne, isSaidM e703 hm2, bd_some]
      rfl
