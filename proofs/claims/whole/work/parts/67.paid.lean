/-! said, paid -/
abbrev PMo : Nat → Nat → Bool := fun k i => k == 92 || k == 93 || (k == 70 && (i == 33 || i == 34 || i == 35 || i == 36 || i == 37 || i == 38 || i == 39))
theorem pst_pmo {h g : AHp} (c : Ch PSt h g) : Ch PMo h g := c.mono (fun k i hp => by
  simp only [Bool.or_eq_false_iff, Bool.and_eq_false_iff, beq_eq_false_iff_ne] at hp ⊢; omega)
theorem pws_pmo {h g : AHp} (c : Ch PWs h g) : Ch PMo h g := c.mono (fun k i hp => by
  simp only [Bool.or_eq_false_iff, Bool.and_eq_false_iff, beq_eq_false_iff_ne] at hp ⊢; omega)
theorem pmo_pn {h g : AHp} (c : Ch PMo h g) : Ch PN h g := c.mono (fun k i hp => by
  simp only [Bool.or_eq_false_iff, Bool.and_eq_false_iff, beq_eq_false_iff_ne] at hp ⊢; omega)
theorem L2.pmo {h g : AHp} {cl0 cl1 : List Clz} {K0 K1 : Nat → Prop} {v0 v1 : Nat → Int32} (hL : L2 h cl0 cl1 K0 K1 v0 v1) (c : Ch PMo h g) : L2 g cl0 cl1 K0 K1 v0 v1 := hL.m c (fun k hk i => by
  simp only [Bool.or_eq_false_iff, Bool.and_eq_false_iff, beq_eq_false_iff_ne]; omega)
theorem payD_nine {h : AHp} {j : Nat} {cl : List Clz} {Kc : Nat → Prop} {kv : Nat → Int32} (hL : LawC h j cl Kc kv) {e e2 : Mom} (he : ∀ i, i < 9 → e i = e2 i) : payD cl e = payD cl e2 := by
  have hd : ∀ q ∈ cl, q.2.2.1 e = q.2.2.1 e2 ∧ q.2.1 e = q.2.1 e2 := fun q hq => by
    obtain ⟨i, hi⟩ := List.mem_iff_getElem?.mp hq
    exact ⟨(hL.2.2.2.2.2 i q hi).2.1.1.nine e e2 he, (hL.2.2.2.2.2 i q hi).2.1.2 e e2 he⟩
  clear hL
  induction cl with
  | nil => rfl
  | cons q cl ih =>
    rw [payD, payD, (hd q List.mem_cons_self).1, (hd q List.mem_cons_self).2, ih (fun q hq => hd q (List.mem_cons_of_mem _ hq))]
theorem payC2 {g : AHp} {cl0 cl1 : List Clz} {K0 K1 : Nat → Prop} {v0 v1 : Nat → Int32} {a b r k s : Int32} (hL : L2 g cl0 cl1 K0 K1 v0 v1) (hst : StC g a b r k) (t l : Int32) (hs : 0 ≤ s.toInt ∧ s.toInt ≤ 5) (hr : -1 ≤ r.toInt ∧ r.toInt ≤ 5) :
    ∃ g1, m_X9_pays s t l g = some (payD cl0 (mo (hI g 5) s t a b r k l), g1) ∧ Ch PC g g1 ∧ L2 g1 cl0 cl1 K0 K1 v0 v1 := by
  have c0 : Ch PC g (sI (leH g s t) 6 0 l) := (((Ch.rf.sI rfl).sI rfl).sI rfl).sI rfl
  have hL0 : L2 (sI (leH g s t) 6 0 l) cl0 cl1 K0 K1 v0 v1 := hL.next rfl rfl (fun k a b i => by
    unfold leH
    rw [hI_sI, if_neg (by omega), hI_sI, if_neg (by omega), hI_sI, if_neg (by omega), hI_sI, if_neg (by omega)])
  have e0 : m_X9_pays s t l g = gd (isLaw (hM g 3 3)) (bd (m_X2_pay (hM g 3 3) (sI (leH g s t) 6 0 l)) fun r8 h9 => (some (r8, h9))) := by
    unfold m_X9_pays
    simp only [lt_eq, colourOfC, bd_some]
    rfl
  obtain ⟨g1, e1, c1, l1⟩ := payC hL0.1
  have h3 : hM g1 3 3 = hM g 3 3 := (c1 3 3 (by have := law_bounds hL.1.1; show decide (3 = hM g 3 3 + 2) = false; simp; omega)).2.2
  have h4 : hM g1 3 4 = hM g 3 4 := (c1 3 4 (by have := law_bounds hL.1.1; show decide (3 = hM g 3 3 + 2) = false; simp; omega)).2.2
  have ap := law_apart hL.1.1 hL.2.1.1 hL.2.2
  have hmo : ∀ i, i < 9 → hI (sI (leH g s t) 6 0 l) 6 i = mo (hI g 5) s t a b r k l i := fun i hi => by
    rw [← eL_mo hst hs hr i hi]
    unfold eL
    rw [hI_sI]
    by_cases h0 : i = 0
    · simp [h0]
    · simp [h0]
  refine ⟨g1, ?_, c0.trans (c1.mono (fun k i hp => ?_)), ⟨?_, ?_, ?_⟩⟩
  · rw [e0, gd_pos hL.1.1]
    rw [show m_X2_pay (hM g 3 3) (sI (leH g s t) 6 0 l) = _ from e1, bd_some, payD_nine hL0.1 hmo]
  · have a0 : hM g 3 3 = 7 ∨ hM g 3 3 = 15 ∨ hM g 3 3 = 23 ∨ hM g 3 3 = 34 := hL.1.1
    simp only [Bool.or_eq_false_iff, beq_eq_false_iff_ne] at hp ⊢
    show ¬ k = hM g 3 3 + 2
    omega
  · rw [h3]; exact l1
  · rw [h4]
    exact hL0.2.1.next (fun k a b _ i => c1.i (by simp; show ¬ k = hM g 3 3 + 2; have : hM (sI (leH g s t) 6 0 l) 3 4 = hM g 3 4 := rfl; omega)) (fun r hr => by rw [c1.i (by simp; show ¬ hM g 3 4 = hM g 3 3; exact fun z => hL.2.2 z.symm)]; exact (hL0.2.1.2.2.2.2.1 r hr).2)
  · rw [h3, h4]; exact hL.2.2
/-- the talk, told for every place -/
def TA (h : AHp) (m : Nat) (sp th ln : Nat → Int32) : Prop := (hI h 42 3 = nI m ∧ m ≤ 200 ∧ hI h 70 3 = nI m) ∧ ∀ i, i < m → (hI h 43 i = sp i ∧ hI h 94 i = sp i ∧ 0 ≤ (sp i).toInt ∧ (sp i).toInt ≤ 5) ∧ (hI h 44 i = th i ∧ hI h 95 i = th i ∧ 0 ≤ (th i).toInt ∧ (th i).toInt ≤ 11) ∧ (hI h 45 i = ln i ∧ hI h 96 i = ln i ∧ 1 ≤ (ln i).toInt ∧ (ln i).toInt ≤ 24)
theorem BI.ta {h : AHp} (hB : BI h) : ∃ m sp th ln, TA h m sp th ln := by
  obtain ⟨a1, a2, a3, a4, a5, a6⟩ := hB
  obtain ⟨m, em, em2, hm⟩ := nat_of a4.2.1
  have hm200 : m ≤ 200 := by have := a4.2.2.1; omega
  refine ⟨m, hI h 43, hI h 44, hI h 45, ⟨em, hm200, by rw [a4.1, em]⟩, fun i hi => ?_⟩
  obtain ⟨b1, b2, b3⟩ := a4.2.2.2.2 i (by omega)
  simp only [Nat.reduceAdd] at b1 b2 b3
  exact ⟨⟨rfl, b1.1, b1.2⟩, ⟨rfl, b2.1, b2.2⟩, ⟨rfl, b3.1, b3.2⟩⟩
theorem TA.pn {h g : AHp} {m : Nat} {sp th ln : Nat → Int32} (x : TA h m sp th ln) (c : Ch PN h g) : TA g m sp th ln := by
  unfold TA at x ⊢
  rw [c.i (k := 42) (i := 3) rfl, c.i (k := 70) (i := 3) rfl, c.r (k := 43) (fun _ => rfl), c.r (k := 44) (fun _ => rfl), c.r (k := 45) (fun _ => rfl), c.r (k := 94) (fun _ => rfl), c.r (k := 95) (fun _ => rfl), c.r (k := 96) (fun _ => rfl)]
  exact x
def preL (f : Nat → Int32) (i k : Nat) (z : Int32) : Int32 := if k ≤ i then f (i - k) else z
theorem payOfC {h : AHp} {cl0 cl1 : List Clz} {K0 K1 : Nat → Prop} {v0 v1 : Nat → Int32} {m i : Nat} {sp th ln : Nat → Int32} (hT : TA h m sp th ln) (hL : L2 h cl0 cl1 K0 K1 v0 v1) (hi : i < m) :
    ∃ g, m_X11_payOf (nI i) h = some (payD cl0 (mo (hI h 5) (sp i) (th i) (preL ln i 1 0) (preL ln i 2 0) (preL sp i 1 (-1)) (nI i) (ln i)), g) ∧ Ch PC h g ∧ L2 g cl0 cl1 K0 K1 v0 v1 := by
  obtain ⟨⟨em, hm, em3⟩, hq⟩ := hT
  have s1 : (nI i - 1).toInt = (i : Int) - 1 := nI_sub_toInt (c := 1) (by omega) (by omega)
  have s2 : (nI i - 2).toInt = (i : Int) - 2 := nI_sub_toInt (c := 2) (by omega) (by omega)
  have s0 : (nI i).toInt = i := nI_toInt (by omega)
  have a1 : (if 0 ≤ (nI i - 1).toInt ∧ (nI i - 1).toInt < m then hI h 45 (nI i - 1).toNatClampNeg else 0) = preL ln i 1 0 := by
    unfold preL; rw [clamp_toNat, s1]
    by_cases h1 : 1 ≤ i
    · rw [if_pos (by omega), if_pos h1, ← (hq (i - 1) (by omega)).2.2.1]; congr 1; omega
    · rw [if_neg (by omega), if_neg h1]
  have a2 : (if 0 ≤ (nI i - 2).toInt ∧ (nI i - 2).toInt < m then hI h 45 (nI i - 2).toNatClampNeg else 0) = preL ln i 2 0 := by
    unfold preL; rw [clamp_toNat, s2]
    by_cases h1 : 2 ≤ i
    · rw [if_pos (by omega), if_pos h1, ← (hq (i - 2) (by omega)).2.2.1]; congr 1; omega
    · rw [if_neg (by omega), if_neg h1]
  have a3 : (if 0 ≤ (nI i - 1).toInt ∧ (nI i - 1).toInt < m then hI h 43 (nI i - 1).toNatClampNeg else -1) = preL sp i 1 (-1) := by
    unfold preL; rw [clamp_toNat, s1]
    by_cases h1 : 1 ≤ i
    · rw [if_pos (by omega), if_pos h1, ← (hq (i - 1) (by omega)).1.1]; congr 1; omega
    · rw [if_neg (by omega), if_neg h1]
  obtain ⟨⟨p1, p2, p3⟩, ⟨t1, t2, t3⟩, ⟨n1, n2, n3⟩⟩ := hq i hi
  have hr : -1 ≤ (preL sp i 1 (-1)).toInt ∧ (preL sp i 1 (-1)).toInt ≤ 5 := by
    unfold preL; split
    · have := (hq (i - 1) (by omega)).1.2.2; omega
    · exact ⟨by decide, by decide⟩
  obtain ⟨g, e1, c1, l1⟩ := payC2 (hL.st (preL ln i 1 0) (preL ln i 2 0) (preL sp i 1 (-1)) (nI i)) (StC.st h _ _ _ _) (th i) (ln i) p3 hr
  refine ⟨g, ?_, (stH_pc h _ _ _ _).trans c1, l1⟩
  unfold m_X11_payOf
  rw [spanG em hm, bd_some, spanG em hm, bd_some, speakG em hm, bd_some, a1, a2, a3, standC, bd_some]
  have em' : hI (stH h (preL ln i 1 0) (preL ln i 2 0) (preL sp i 1 (-1)) (nI i)) 42 3 = nI m := em
  rw [speakG em' hm, bd_some, thingG em' hm, bd_some, spanG em' hm, bd_some, if_pos (by omega), if_pos (by omega), if_pos (by omega), nI_clamp (by omega)]
  rw [show hI (stH h (preL ln i 1 0) (preL ln i 2 0) (preL sp i 1 (-1)) (nI i)) 43 i = sp i from p1, show hI (stH h (preL ln i 1 0) (preL ln i 2 0) (preL sp i 1 (-1)) (nI i)) 44 i = th i from t1, show hI (stH h (preL ln i 1 0) (preL ln i 2 0) (preL sp i 1 (-1)) (nI i)) 45 i = ln i from n1, e1, bd_some]
  rfl
theorem paidForM {h : AHp} {cl0 : List Clz} {m i : Nat} {sp th ln : Nat → Int32} (hT : TA h m sp th ln) (hL : LawM h 0 cl0) (hi : i < m) :
    ∃ g, m_X12_paidFor (nI i) h = some (payD cl0 (mo (hI h 91) (sp i) (th i) (preL ln i 1 0) (preL ln i 2 0) (preL sp i 1 (-1)) (nI i) (ln i)), g) ∧ Ch PMo h g := by
  obtain ⟨⟨em, hm, em3⟩, hq⟩ := hT
  obtain ⟨h1, e1, c1, q39, q36, q37, q38⟩ := standsAtM (h := h) (m := i) (by omega)
  obtain ⟨⟨p1, p2, p3⟩, ⟨t1, t2, t3⟩, ⟨n1, n2, n3⟩⟩ := hq i hi
  have a1 : lenA h 96 i = preL ln i 1 0 := by
    unfold lenA preL; split
    · exact (hq (i - 1) (by omega)).2.2.2.1
    · rfl
  have a2 : lenB h 96 i = preL ln i 2 0 := by
    unfold lenB preL; split
    · exact (hq (i - 2) (by omega)).2.2.2.1
    · rfl
  have a3 : spkR h 94 i = preL sp i 1 (-1) := by
    unfold spkR preL; split
    · exact (hq (i - 1) (by omega)).1.2.1
    · rfl
  have hr : -1 ≤ (preL sp i 1 (-1)).toInt ∧ (preL sp i 1 (-1)).toInt ≤ 5 := by
    unfold preL; split
    · have := (hq (i - 1) (by omega)).1.2.2; omega
    · exact ⟨by decide, by decide⟩
  have c0 := says_ch h1 (sp i) (th i) (ln i)
  have cc := (pst_pmo c1).trans (pws_pmo c0)
  generalize hg : sI (sI (sI h1 70 35 (sp i)) 70 34 (th i)) 70 33 (ln i) = g0 at c0 cc
  have hmg : momM g0 = mo (hI h 91) (sp i) (th i) (preL ln i 1 0) (preL ln i 2 0) (preL sp i 1 (-1)) (nI i) (ln i) := by
    have : momM g0 = momS h1 (sp i) (th i) (ln i) := by rw [← hg]; rfl
    rw [this, momS_mo, q39, q36, q37, q38, a1, a2, a3, c1.r (k := 91) (fun _ => rfl)]
  have okg : okM g0 := ⟨by rw [← hg]; exact p3, by rw [c0.i (k := 70) (i := 38) rfl, q38, a3]; exact hr⟩
  obtain ⟨g, e2, c2⟩ := paysM (hL.same (sameLM.pn (pmo_pn cc))) okg
  refine ⟨g, ?_, cc.trans (pws_pmo (pw_pws c2))⟩
  have gi : inb (nI i) 200 := inb_nI (by omega) (by omega)
  unfold m_X12_paidFor
  rw [e1, bd_some, gd_pos gi, gd_pos gi, gd_pos gi, nI_clamp (by omega), c1.i (k := 94) rfl, c1.i (k := 95) rfl, c1.i (k := 96) rfl, p2, t2, n2, saysM, hg, bd_some, e2, bd_some, hmg]
theorem LR.pn {h g : AHp} {cl0 cl1 : List Clz} {K0 K1 : Nat → Prop} {v0 v1 : Nat → Int32} (hL : LR h cl0 cl1 K0 K1 v0 v1) (c : Ch PN h g) (l : L2 g cl0 cl1 K0 K1 v0 v1) : LR g cl0 cl1 K0 K1 v0 v1 := ⟨l, hL.2.1.same (sameLM.pn c), hL.2.2.same (sameLM.pn c)⟩
theorem pay_eq {h g : AHp} {cl0 : List Clz} {m i : Nat} {sp th ln : Nat → Int32} (hB : BI h) (hT : TA h m sp th ln) (hi : i < m) (c : Ch PN h g) : payD cl0 (mo (hI g 91) (sp i) (th i) (preL ln i 1 0) (preL ln i 2 0) (preL sp i 1 (-1)) (nI i) (ln i)) = payD cl0 (mo (hI h 5) (sp i) (th i) (preL ln i 1 0) (preL ln i 2 0) (preL sp i 1 (-1)) (nI i) (ln i)) := by
  have hr : -1 ≤ (preL sp i 1 (-1)).toInt ∧ (preL sp i 1 (-1)).toInt ≤ 5 := by
    unfold preL; split
    · have := (hT.2 (i - 1) (by omega)).1.2.2; omega
    · exact ⟨by decide, by decide⟩
  rw [mo_congr (fun j hj => by rw [c.i (k := 91) rfl, (hB.2.2.1 j hj).1]) (hT.2 i hi).1.2.2 hr]
theorem sim_said {h : AHp} (x w : Int32) (hB : BI h) (hI0 : LI h) : SimL PN h (m_X11_said x w) (m_X12_said x w) := by
  obtain ⟨m, sp, th, ln, hT⟩ := hB.ta
  have hT' := id hT
  obtain ⟨⟨em, hm, em3⟩, hq⟩ := hT'
  have s1 : (nI m - 1).toInt = (m : Int) - 1 := nI_sub_toInt (c := 1) hm (by omega)
  have s0 : (nI m).toInt = m := nI_toInt (by omega)
  have eM : m_X12_lies x.toInt64 0 (((hI h 70 3) - 1).toInt64) h = some (b2i (0 ≤ x.toInt ∧ x.toInt ≤ (m : Int) - 1), h) := by
    rw [liesI, em3, i32_64, s1]; rfl
  by_cases hx : 0 ≤ x.toInt ∧ x.toInt < m
  rotate_left
  · refine SimL.same hB hI0 (-1) ?_ ?_
    · unfold m_X11_said
      simp only [i32_lt, tIall, em, s0]
      by_cases h0 : x.toInt < 0
      · rw [if_pos h0]
      · rw [if_neg h0, if_neg (by omega)]
    · unfold m_X12_said
      rw [eM, bd_some, b2i_f (by omega), if_pos rfl]
  obtain ⟨i, rfl, hi, -⟩ : ∃ i : Nat, x = nI i ∧ i < m ∧ True := ⟨x.toNatClampNeg, by
    rw [i32_eq, nI_toInt (by rw [clamp_toNat]; omega), clamp_toNat]; omega, by rw [clamp_toNat]; omega, trivial⟩
  have si : (nI i).toInt = i := nI_toInt (by omega)
  have gi : inb (nI i) 200 := inb_nI (by omega) (by omega)
  have eC : m_X11_said (nI i) w h = (if w = 0 then (bd (m_X7_speakerAt (nI i) h) fun r2 h3 => (some (r2, h3))) else (if w = 1 then (bd (m_X7_thingAt (nI i) h) fun r5 h6 => (some (r5, h6))) else (if w = 2 then (bd (m_X7_spanAt (nI i) h) fun r8 h9 => (some (r8, h9))) else (if w = 3 then (bd (m_X11_payOf (nI i) h) fun r11 h12 => (some (r11, h12))) else (some ((-1), h)))))) := by
    unfold m_X11_said
    rw [if_neg (by rw [i32_lt, si]; simp only [tIall]; omega), if_pos (by rw [i32_lt, si, em, s0]; omega)]
  have eR : ∀ g, hI g 70 3 = nI m → m_X12_said (nI i) w g = (if w = 0 then (gd (inb (nI i) 200) (some (hI g 94 (nI i).toNatClampNeg, g))) else (if w = 1 then (gd (inb (nI i) 200) (some (hI g 95 (nI i).toNatClampNeg, g))) else (if w = 2 then (gd (inb (nI i) 200) (some (hI g 96 (nI i).toNatClampNeg, g))) else (if w = 3 then (bd (m_X12_paidFor (nI i) g) fun r10 h11 => (some (r10, h11))) else (some ((-1), g)))))) := fun g eg => by
    unfold m_X12_said
    rw [liesI, eg, i32_64, s1, bd_some, b2i_t (by rw [si]; exact ⟨by show (0 : Int) ≤ i; omega, by omega⟩), if_neg one_ne]
  have gc : (nI i).toNatClampNeg = i := nI_clamp (by omega)
  by_cases w0 : w = 0
  · refine SimL.same hB hI0 (sp i) ?_ ?_
    · rw [eC, if_pos w0, speakG em hm, bd_some, if_pos (by omega), gc, (hq i hi).1.1]
    · rw [eR h em3, if_pos w0, gd_pos gi, gc, (hq i hi).1.2.1]
  by_cases w1 : w = 1
  · refine SimL.same hB hI0 (th i) ?_ ?_
    · rw [eC, if_neg w0, if_pos w1, thingG em hm, bd_some, if_pos (by omega), gc, (hq i hi).2.1.1]
    · rw [eR h em3, if_neg w0, if_pos w1, gd_pos gi, gc, (hq i hi).2.1.2.1]
  by_cases w2 : w = 2
  · refine SimL.same hB hI0 (ln i) ?_ ?_
    · rw [eC, if_neg w0, if_neg w1, if_pos w2, spanG em hm, bd_some, if_pos (by omega), gc, (hq i hi).2.2.1]
    · rw [eR h em3, if_neg w0, if_neg w1, if_pos w2, gd_pos gi, gc, (hq i hi).2.2.2.1]
  by_cases w3 : w = 3
  · obtain ⟨cl0, cl1, K0, K1, v0, v1, hLR⟩ := hI0
    obtain ⟨g1, e1, c1, l1⟩ := payOfC hT hLR.1 hi
    have c1' := pc_pn c1
    obtain ⟨g2, e2, c2⟩ := paidForM (hT.pn c1') (hLR.2.1.same (sameLM.pn c1')) hi
    have c2' := c1'.trans (pmo_pn c2)
    refine ⟨payD cl0 (mo (hI h 5) (sp i) (th i) (preL ln i 1 0) (preL ln i 2 0) (preL sp i 1 (-1)) (nI i) (ln i)), g1, g2, ?_, ?_, hB.pn c2', ⟨cl0, cl1, K0, K1, v0, v1, hLR.pn c2' (l1.pmo c2)⟩, c2'⟩
    · rw [eC, if_neg w0, if_neg w1, if_neg w2, if_pos w3, e1, bd_some]
    · rw [eR g1 (by rw [c1'.i (k := 70) (i := 3) rfl, em3]), if_neg w0, if_neg w1, if_neg w2, if_pos w3, e2, bd_some, pay_eq hB hT hi c1']
  refine SimL.same hB hI0 (-1) ?_ ?_
  · rw [eC, if_neg w0, if_neg w1, if_neg w2, if_neg w3]
  · rw [eR h em3, if_neg w0, if_neg w1, if_neg w2, if_neg w3]
def sumP (f : Nat → Int32) (sp : Nat → Int32) (s : Int32) : Nat → Int32
  | 0 => 0
  | n + 1 => sumP f sp s n + (if sp n = s then f n else 0)
theorem paidC_l {cl0 cl1 : List Clz} {K0 K1 : Nat → Prop} {v0 v1 : Nat → Int32} {m : Nat} {sp th ln : Nat → Int32} {s : Int32} {col : Nat → Int32} : ∀ (d i f : Nat) (h : AHp), i + d = m → d < f → TA h m sp th ln → L2 h cl0 cl1 K0 K1 v0 v1 → hI h 5 = col → ∃ g, m_X11_paid_13 f s (sumP (fun i => payD cl0 (mo col (sp i) (th i) (preL ln i 1 0) (preL ln i 2 0) (preL sp i 1 (-1)) (nI i) (ln i))) sp s i) (nI i) h = some (sumP (fun i => payD cl0 (mo col (sp i) (th i) (preL ln i 1 0) (preL ln i 2 0) (preL sp i 1 (-1)) (nI i) (ln i))) sp s m, g) ∧ Ch PC h g ∧ L2 g cl0 cl1 K0 K1 v0 v1 := by
  intro d
  induction d with
  | zero =>
    intro i f h hi hf hT hL hc
    obtain ⟨f, rfl⟩ : ∃ a, f = a + 1 := ⟨f - 1, by omega⟩
    have him : i = m := by omega
    subst him
    exact ⟨h, by rw [m_X11_paid_13, hT.1.1, if_pos (nI_le (Nat.le_refl _) (by have := hT.1.2.1; omega))], Ch.rf, hL⟩
  | succ d ih =>
    intro i f h hi hf hT hL hc
    have hm := hT.1.2.1
    obtain ⟨f, rfl⟩ : ∃ a, f = a + 1 := ⟨f - 1, by omega⟩
    have si : (nI i).toInt = i := nI_toInt (by omega)
    have eS : m_X7_speakerAt (nI i) h = some (sp i, h) := by
      rw [speakG hT.1.1 hm, if_pos (by omega), nI_clamp (by omega), (hT.2 i (by omega)).1.1]
    rw [m_X11_paid_13, hT.1.1, if_neg (nI_ge (by omega) (by omega)), eS, bd_some]
    by_cases hs : sp i = s
    · obtain ⟨g, e1, c1, l1⟩ := payOfC hT hL (show i < m by omega)
      rw [if_pos hs, e1, bd_some, lt_eq, lt_eq, nI_1]
      obtain ⟨g2, e2, c2, l2⟩ := ih (i + 1) f g (by omega) (by omega) (hT.pn (pc_pn c1)) l1 (by rw [c1.r (k := 5) (fun _ => rfl), hc])
      refine ⟨g2, ?_, c1.trans c2, l2⟩
      rw [← e2, sumP, if_pos hs, hc]
    · rw [if_neg hs, lt_eq, nI_1]
      obtain ⟨g2, e2, c2, l2⟩ := ih (i + 1) f h (by omega) (by omega) hT hL hc
      refine ⟨g2, ?_, c2, l2⟩
      rw [← e2, sumP, if_neg hs, Int32.add_zero]
theorem paidM_l {cl0 : List Clz} {m : Nat} {sp th ln : Nat → Int32} {s : Int32} {col : Nat → Int32} : ∀ (d i f : Nat) (h : AHp), i + d = m → d < f → TA h m sp th ln → LawM h 0 cl0 → hI h 91 = col → ∃ g, m_X12_paid_13 f s (sumP (fun i => payD cl0 (mo col (sp i) (th i) (preL ln i 1 0) (preL ln i 2 0) (preL sp i 1 (-1)) (nI i) (ln i))) sp s i) (nI i) h = some (sumP (fun i => payD cl0 (mo col (sp i) (th i) (preL ln i 1 0) (preL ln i 2 0) (preL sp i 1 (-1)) (nI i) (ln i))) sp s m, g) ∧ Ch PMo h g := by
  intro d
  induction d with
  | zero =>
    intro i f h hi hf hT hL hc
    obtain ⟨f, rfl⟩ : ∃ a, f = a + 1 := ⟨f - 1, by omega⟩
    have him : i = m := by omega
    subst him
    exact ⟨h, by rw [m_X12_paid_13, hT.1.2.2, if_pos (nI_le (Nat.le_refl _) (by have := hT.1.2.1; omega))], Ch.rf⟩
  | succ d ih =>
    intro i f h hi hf hT hL hc
    have hm := hT.1.2.1
    obtain ⟨f, rfl⟩ : ∃ a, f = a + 1 := ⟨f - 1, by omega⟩
    rw [m_X12_paid_13, hT.1.2.2, if_neg (nI_ge (by omega) (by omega)), gd_pos (inb_nI (n := i) (N := 200) (by omega) (by omega)), nI_clamp (by omega), (hT.2 i (by omega)).1.2.1]
    by_cases hs : sp i = s
    · obtain ⟨g, e1, c1⟩ := paidForM hT hL (show i < m by omega)
      rw [if_pos hs, e1, bd_some, lt_eq, lt_eq, nI_1]
      obtain ⟨g2, e2, c2⟩ := ih (i + 1) f g (by omega) (by omega) (hT.pn (pmo_pn c1)) (hL.same (sameLM.pn (pmo_pn c1))) (by rw [c1.r (k := 91) (fun _ => rfl), hc])
      refine ⟨g2, ?_, c1.trans c2⟩
      rw [← e2, sumP, if_pos hs, hc]
    · rw [if_neg hs, lt_eq, lt_eq, nI_1]
      obtain ⟨g2, e2, c2⟩ := ih (i + 1) f h (by omega) (by omega) hT hL hc
      refine ⟨g2, ?_, c2⟩
      rw [← e2, sumP, if_neg hs]
theorem sumP_congr {f g : Nat → Int32} {sp : Nat → Int32} {s : Int32} : ∀ m, (∀ i, i < m → f i = g i) → sumP f sp s m = sumP g sp s m
  | 0, _ => rfl
  | m + 1, h => by rw [sumP, sumP, sumP_congr m (fun i hi => h i (by omega)), h m (by omega)]
theorem sim_paid {h : AHp} (s : Int32) (hB : BI h) (hI0 : LI h) : SimL PN h (m_X11_paid s) (m_X12_paid s) := by
  by_cases hs : 0 ≤ s.toInt ∧ s.toInt ≤ 5
  rotate_left
  · refine SimL.same hB hI0 (-1) ?_ ?_
    · unfold m_X11_paid; rw [isSpeakerC, bd_some, b2i_f hs, if_pos rfl]
    · unfold m_X12_paid; rw [isSpeakerM, bd_some, b2i_f hs, if_pos rfl]
  obtain ⟨m, sp, th, ln, hT⟩ := hB.ta
  have hm := hT.1.2.1
  obtain ⟨cl0, cl1, K0, K1, v0, v1, hLR⟩ := hI0
  obtain ⟨g1, e1, c1, l1⟩ := paidC_l (s := s) m 0 FU h (by omega) (by unfold FU; omega) hT hLR.1 rfl
  have c1' := pc_pn c1
  obtain ⟨g2, e2, c2⟩ := paidM_l (s := s) m 0 FU g1 (by omega) (by unfold FU; omega) (hT.pn c1') (hLR.2.1.same (sameLM.pn c1')) rfl
  have c2' := c1'.trans (pmo_pn c2)
  refine ⟨sumP (fun i => payD cl0 (mo (hI h 5) (sp i) (th i) (preL ln i 1 0) (preL ln i 2 0) (preL sp i 1 (-1)) (nI i) (ln i))) sp s m, g1, g2, ?_, ?_, hB.pn c2', ⟨cl0, cl1, K0, K1, v0, v1, hLR.pn c2' (l1.pmo c2)⟩, c2'⟩
  · unfold m_X11_paid; rw [isSpeakerC, bd_some, b2i_t hs, if_neg one_ne]; exact e1
  · unfold m_X12_paid; rw [isSpeakerM, bd_some, b2i_t hs, if_neg one_ne]
    rw [← sumP_congr m (fun i hi => pay_eq (cl0 := cl0) hB hT hi c1')]
    exact e2
