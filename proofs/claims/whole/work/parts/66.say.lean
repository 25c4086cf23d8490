/-! may, ways, say -/
abbrev PBI : Nat → Nat → Bool := fun k i => (k == 70 && (i == 1 || i == 2 || i == 3 || i == 63 || i == 64 || i == 65)) || (k == 1 && i == 1) || k == 2 || k == 71 || k == 72 || k == 4 || k == 91 || k == 5 || (k == 42 && (i == 3 || i == 4)) || k == 43 || k == 44 || k == 45 || k == 94 || k == 95 || k == 96 || (k == 0 && (i == 11 || i == 12 || i == 13)) || (k == 46 && (i == 3 || i == 4)) || k == 47 || k == 48 || k == 49 || k == 50 || k == 114 || k == 115 || k == 116 || k == 117
theorem BI.chP {P : Nat → Nat → Bool} {h h2 : AHp} (hB : BI h) (c : Ch P h h2) (f : ∀ {k i : Nat}, PBI k i = true → P k i = false) : BI h2 := by
  obtain ⟨a1, a2, a3, a4, a5, a6⟩ := hB
  exact ⟨a1.ch c (f rfl) (f rfl) (fun _ => f rfl) (fun _ => f rfl), a2.ch c (fun _ => f rfl) (fun _ => f rfl), a3.ch c (fun _ => f rfl) (fun _ => f rfl), a4.ch c ⟨f rfl, f rfl, f rfl⟩ (fun _ => f rfl) (fun _ => f rfl) (fun _ => f rfl) (fun _ => f rfl) (fun _ => f rfl) (fun _ => f rfl), a5.ch c ⟨f rfl, f rfl⟩, a6.ch c ⟨f rfl, f rfl, f rfl, f rfl, f rfl, f rfl, f rfl⟩ (fun _ => ⟨f rfl, f rfl, f rfl, f rfl, f rfl, f rfl, f rfl, f rfl⟩)⟩
/-- the talk as it stands -/
def TF (h : AHp) (m : Nat) (a b r : Int32) : Prop := (hI h 42 3 = nI m ∧ m ≤ 200 ∧ hI h 70 3 = nI m) ∧ (lenA h 45 m = a ∧ lenB h 45 m = b ∧ spkR h 43 m = r) ∧ (lenA h 96 m = a ∧ lenB h 96 m = b ∧ spkR h 94 m = r) ∧ (-1 ≤ r.toInt ∧ r.toInt ≤ 5) ∧ (0 ≤ a.toInt ∧ a.toInt ≤ 24) ∧ (0 ≤ b.toInt ∧ b.toInt ≤ 24)
theorem BI.tf {h : AHp} (hB : BI h) : ∃ m a b r, TF h m a b r := by
  obtain ⟨a1, a2, a3, a4, a5, a6⟩ := hB
  obtain ⟨m, em, em2, hm⟩ := nat_of a4.2.1
  have hm200 : m ≤ 200 := by have := a4.2.2.1; omega
  refine ⟨m, lenA h 45 m, lenB h 45 m, spkR h 43 m, ⟨em, hm200, by rw [a4.1, em]⟩, ⟨rfl, rfl, rfl⟩, ⟨?_, ?_, ?_⟩, ?_, ?_, ?_⟩
  · unfold lenA; split
    · exact (a4.2.2.2.2 (m - 1) (by omega)).2.2.1
    · rfl
  · unfold lenB; split
    · exact (a4.2.2.2.2 (m - 2) (by omega)).2.2.1
    · rfl
  · unfold spkR; split
    · exact (a4.2.2.2.2 (m - 1) (by omega)).1.1
    · rfl
  · unfold spkR; split
    · have := (a4.2.2.2.2 (m - 1) (by omega)).1; omega
    · exact ⟨by decide, by decide⟩
  · unfold lenA; split
    · have := (a4.2.2.2.2 (m - 1) (by omega)).2.2; simp only [Nat.reduceAdd] at this; omega
    · exact ⟨by decide, by decide⟩
  · unfold lenB; split
    · have := (a4.2.2.2.2 (m - 2) (by omega)).2.2; simp only [Nat.reduceAdd] at this; omega
    · exact ⟨by decide, by decide⟩
theorem TF.ch {P : Nat → Nat → Bool} {h g : AHp} {m : Nat} {a b r : Int32} (x : TF h m a b r) (c : Ch P h g) (p1 : P 42 3 = false ∧ P 70 3 = false) (p2 : ∀ i, P 43 i = false ∧ P 45 i = false ∧ P 94 i = false ∧ P 96 i = false) : TF g m a b r := by
  unfold TF lenA lenB spkR at x ⊢
  rw [c.i p1.1, c.i p1.2, c.r (k := 43) (fun i => (p2 i).1), c.r (k := 45) (fun i => (p2 i).2.1), c.r (k := 94) (fun i => (p2 i).2.2.1), c.r (k := 96) (fun i => (p2 i).2.2.2)]
  exact x
theorem TF.nowC {h : AHp} {m : Nat} {a b r : Int32} (x : TF h m a b r) : m_X11_standNow h = some ((), stH h a b r (nI m)) := by
  rw [standNowC x.1.1 x.1.2.1, x.2.1.1, x.2.1.2.1, x.2.1.2.2]
theorem TF.nowM {h : AHp} {m : Nat} {a b r : Int32} (x : TF h m a b r) : ∃ h1, m_X12_standsAt (hI h 70 3) h = some ((), h1) ∧ Ch PSt h h1 ∧ hI h1 70 39 = nI m ∧ hI h1 70 36 = a ∧ hI h1 70 37 = b ∧ hI h1 70 38 = r := by
  obtain ⟨h1, e1, c1, q1, q2, q3, q4⟩ := standsAtM (h := h) x.1.2.1
  rw [x.1.2.2]
  exact ⟨h1, e1, c1, q1, by rw [q2, x.2.2.1.1], by rw [q3, x.2.2.1.2.1], by rw [q4, x.2.2.1.2.2]⟩
def LI (h : AHp) : Prop := ∃ cl0 cl1 K0 K1 v0 v1, LR h cl0 cl1 K0 K1 v0 v1
def SimL {r : Type} (P : Nat → Nat → Bool) (h : AHp) (c m : AHp → Option (r × AHp)) : Prop := ∃ (x : r) (h1 h2 : AHp), c h = some (x, h1) ∧ m h1 = some (x, h2) ∧ BI h2 ∧ LI h2 ∧ Ch P h h2
theorem SimL.same {r : Type} {P : Nat → Nat → Bool} {h : AHp} {c m : AHp → Option (r × AHp)} (hB : BI h) (hL : LI h) (x : r) (e1 : c h = some (x, h)) (e2 : m h = some (x, h)) : SimL P h c m := ⟨x, h, h, e1, e2, hB, hL, Ch.rf⟩
abbrev PN : Nat → Nat → Bool := fun k i => k == 6 || k == 9 || k == 17 || k == 25 || k == 36 || k == 92 || k == 93 || (k == 70 && (i == 33 || i == 34 || i == 35 || i == 36 || i == 37 || i == 38 || i == 39))
theorem pc_pn {h g : AHp} (c : Ch PC h g) : Ch PN h g := c.mono (fun k i hp => by
  simp only [Bool.or_eq_false_iff, Bool.and_eq_false_iff, beq_eq_false_iff_ne] at hp ⊢; omega)
theorem pst_pn {h g : AHp} (c : Ch PSt h g) : Ch PN h g := c.mono (fun k i hp => by
  simp only [Bool.or_eq_false_iff, Bool.and_eq_false_iff, beq_eq_false_iff_ne] at hp ⊢; omega)
theorem pws_pn {h g : AHp} (c : Ch PWs h g) : Ch PN h g := c.mono (fun k i hp => by
  simp only [Bool.or_eq_false_iff, Bool.and_eq_false_iff, beq_eq_false_iff_ne] at hp ⊢; omega)
theorem pbi_pn {k i : Nat} (hp : PBI k i = true) : PN k i = false := by
  simp only [Bool.or_eq_true, Bool.and_eq_true, beq_iff_eq] at hp
  simp only [Bool.or_eq_false_iff, Bool.and_eq_false_iff, beq_eq_false_iff_ne]
  omega
theorem BI.pn {h h2 : AHp} (hB : BI h) (c : Ch PN h h2) : BI h2 := hB.chP c (fun hp => pbi_pn hp)
theorem stH_pc (h : AHp) (a b r k : Int32) : Ch PC h (stH h a b r k) := stH_ch _ _ _ _ _ _ (fun _ => rfl)
theorem L2.st {h : AHp} {cl0 cl1 : List Clz} {K0 K1 : Nat → Prop} {v0 v1 : Nat → Int32} (hL : L2 h cl0 cl1 K0 K1 v0 v1) (a b r k : Int32) : L2 (stH h a b r k) cl0 cl1 K0 K1 v0 v1 :=
  hL.next rfl rfl (fun k' p q i => by
    unfold stH
    rw [hI_sI, if_neg (by omega), hI_sI, if_neg (by omega), hI_sI, if_neg (by omega), hI_sI, if_neg (by omega), hI_sI, if_neg (by omega)])
theorem L2.m {h g : AHp} {cl0 cl1 : List Clz} {K0 K1 : Nat → Prop} {v0 v1 : Nat → Int32} (hL : L2 h cl0 cl1 K0 K1 v0 v1) {P : Nat → Nat → Bool} (c : Ch P h g) (hp : ∀ k, k < 70 → ∀ i, P k i = false) : L2 g cl0 cl1 K0 K1 v0 v1 :=
  hL.pc c ⟨hp 3 (by omega) 3, hp 3 (by omega) 4⟩ (fun k a b i => hp k (by omega) i)
theorem sameLM.pn {h g : AHp} (c : Ch PN h g) : sameLM h g := sameLM.ch c (fun k h1 h2 i => by simp only [Bool.or_eq_false_iff, Bool.and_eq_false_iff, beq_eq_false_iff_ne]; omega)
theorem sim_ways {h : AHp} (w s t : Int32) (hB : BI h) (hI0 : LI h) : SimL PN h (m_X11_ways w s t) (m_X12_ways w s t) := by
  by_cases hw : 0 ≤ w.toInt ∧ w.toInt ≤ 1
  rotate_left
  · refine SimL.same hB hI0 (-1) ?_ ?_
    · unfold m_X11_ways; rw [isLawC, bd_some, b2i_f hw, if_pos rfl]
    · unfold m_X12_ways; rw [isLawM, bd_some, b2i_f hw, if_pos rfl]
  by_cases hs : 0 ≤ s.toInt ∧ s.toInt ≤ 5
  rotate_left
  · refine SimL.same hB hI0 (-1) ?_ ?_
    · unfold m_X11_ways; rw [isLawC, bd_some, b2i_t hw, if_neg one_ne, isSpeakerC, bd_some, b2i_f hs, if_pos rfl]
    · unfold m_X12_ways; rw [isLawM, bd_some, b2i_t hw, if_neg one_ne, isSpeakerM, bd_some, b2i_f hs, if_pos rfl]
  by_cases ht : 0 ≤ t.toInt ∧ t.toInt ≤ 11
  rotate_left
  · refine SimL.same hB hI0 (-1) ?_ ?_
    · unfold m_X11_ways; rw [isLawC, bd_some, b2i_t hw, if_neg one_ne, isSpeakerC, bd_some, b2i_t hs, if_neg one_ne, isThingC, bd_some, b2i_f ht, if_pos rfl]
    · unfold m_X12_ways; rw [isLawM, bd_some, b2i_t hw, if_neg one_ne, isSpeakerM, bd_some, b2i_t hs, if_neg one_ne, isThingM, bd_some, b2i_f ht, if_pos rfl]
  obtain ⟨cl0, cl1, K0, K1, v0, v1, hL2, hM0, hM1⟩ := hI0
  obtain ⟨m, a, b, r, hT⟩ := id hB.tf
  have ht12 : t.toNatClampNeg < 12 := clamp_lt ht.1 (by omega)
  have a2 := hB.2.1
  obtain ⟨y, g1, e1, c1, l1, s1, q1⟩ := askC (hL2.st a b r (nI m)) (StC.st h a b r (nI m)) ((1 : Int32) <<< (w &&& 31)) t hs hT.2.2.2.1 (hI h 4 t.toNatClampNeg) (fun k hk hb => a2.bits ht12 hk hb)
  have cA := pc_pn ((stH_pc h a b r (nI m)).trans (PCl_PC c1))
  have T1 := hT.ch cA ⟨rfl, rfl⟩ (fun _ => ⟨rfl, rfl, rfl, rfl⟩)
  obtain ⟨g2, e2, c2, f39, f36, f37, f38⟩ := T1.nowM
  have cB := cA.trans (pst_pn c2)
  have okg : okL g2 := by unfold okL; rw [f38]; exact hT.2.2.2.1
  obtain ⟨z, g3, e3, c3, q3⟩ := askM (laws := (1 : Int32) <<< (w &&& 31)) hs ht (hM0.same (sameLM.pn cB)) (hM1.same (sameLM.pn cB)) okg
  have cC := cB.trans (pws_pn c3)
  have hyz : z = y := by
    apply tb_ext
    intro j hj
    rw [q3 j hj, q1 j hj, f36, f37, f38, f39, cB.i (k := 72) rfl, (a2 _ ht12).1]
    have ec : AL cl0 cl1 (hI g2 91) ((1 : Int32) <<< (w &&& 31)) s t a b r (nI m) j = AL cl0 cl1 (hI (stH h a b r (nI m)) 5) ((1 : Int32) <<< (w &&& 31)) s t a b r (nI m) j := by
      unfold AL
      rw [mo_congr (fun i hi => ?_) hs hT.2.2.2.1]
      rw [cB.i (k := 91) rfl, (hB.2.2.1 i hi).1]; rfl
    rw [ec]
    by_cases hb : tb (hI h 4 t.toNatClampNeg) j = true
    · rw [decide_eq_true (a2.bits ht12 hj hb)]; simp
    · simp at hb; rw [hb]; simp
  subst hyz
  refine ⟨z, g1, g3, ?_, ?_, hB.pn cC, ⟨cl0, cl1, K0, K1, v0, v1, ?_, hM0.same (sameLM.pn cC), hM1.same (sameLM.pn cC)⟩, cC⟩
  · unfold m_X11_ways
    rw [isLawC, bd_some, b2i_t hw, if_neg one_ne, isSpeakerC, bd_some, b2i_t hs, if_neg one_ne, isThingC, bd_some, b2i_t ht, if_neg one_ne, hT.nowC, bd_some, sizesOfC, bd_some, if_pos ht]
    rw [show hI (stH h a b r (nI m)) 4 t.toNatClampNeg = hI h 4 t.toNatClampNeg from rfl, e1, bd_some]
  · unfold m_X12_ways
    rw [isLawM, bd_some, b2i_t hw, if_neg one_ne, isSpeakerM, bd_some, b2i_t hs, if_neg one_ne, isThingM, bd_some, b2i_t ht, if_neg one_ne, e2, bd_some, e3, bd_some]
  · exact (l1.m c2 (fun k hk i => by simp; omega)).m c3 (fun k hk i => by simp; omega)
