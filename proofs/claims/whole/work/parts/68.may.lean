/-! may, say -/
theorem tb_eq0 (x : Int32) : x = 0 ↔ ∀ k, k < 32 → tb x k = false := by
  constructor
  · rintro rfl k _; exact tb_zero k
  · intro h; apply tb_ext; intro k hk; rw [h k hk, tb_zero]
theorem nat_len {l : Int32} (h : 1 ≤ l.toInt ∧ l.toInt ≤ 24) : ∃ j : Nat, l = nI j ∧ 1 ≤ j ∧ j ≤ 24 := ⟨l.toNatClampNeg, by
  rw [i32_eq, nI_toInt (by rw [clamp_toNat]; omega), clamp_toNat]; omega, by rw [clamp_toNat]; omega, by rw [clamp_toNat]; omega⟩
theorem bitOfC {t : Int32} {j : Nat} (ht : 0 ≤ t.toInt ∧ t.toInt ≤ 11) (hj : 1 ≤ j ∧ j ≤ 24) (h : AHp) : m_X9_bitOf t (nI j) h = some (hI h 4 t.toNatClampNeg &&& ((1 : Int32) <<< (nI j &&& 31)), h) := by
  unfold m_X9_bitOf
  rw [if_neg (show ¬ nI j < 1 from nI_nlt (a := j) (b := 1) (by omega) (by omega)), if_neg (show ¬ 24 < nI j from nI_nlt (a := 24) (b := j) (by omega) (by omega)), sizesOfC, bd_some, if_pos ht]
theorem bitOf_no {t l : Int32} (hl : ¬ (1 ≤ l.toInt ∧ l.toInt ≤ 24)) (h : AHp) : m_X9_bitOf t l h = some (0, h) := by
  unfold m_X9_bitOf
  simp only [i32_lt, tIall]
  by_cases h1 : l.toInt < 1
  · rw [if_pos h1]
  · rw [if_neg h1, if_pos (by omega)]
theorem tb_one_bit (x : Int32) {j k : Nat} (hj : j < 32) (hk : k < 32) : tb (x &&& ((1 : Int32) <<< (nI j &&& 31))) k = (tb x k && decide (k = j)) := by rw [tb_and, tb_bit hj hk]
theorem one_bit0 (x : Int32) {j : Nat} (hj : j < 32) : x &&& ((1 : Int32) <<< (nI j &&& 31)) = 0 ↔ tb x j = false := by
  rw [tb_eq0]
  constructor
  · intro h; have := h j hj; rw [tb_one_bit x hj hj] at this; simpa using this
  · intro h k hk
    rw [tb_one_bit x hj hk]
    by_cases hkj : k = j
    · subst hkj; rw [h]; rfl
    · rw [decide_eq_false hkj, Bool.and_false]
/-- the class asked for one length -/
theorem askC1 {g : AHp} {cl0 cl1 : List Clz} {K0 K1 : Nat → Prop} {v0 v1 : Nat → Int32} {a b r k : Int32} (hL : L2 g cl0 cl1 K0 K1 v0 v1) (hst : StC g a b r k) (laws t : Int32) {s : Int32} (hs : 0 ≤ s.toInt ∧ s.toInt ≤ 5) (hr : -1 ≤ r.toInt ∧ r.toInt ≤ 5) (x : Int32) {j : Nat} (hj : 1 ≤ j ∧ j ≤ 24) :
    ∃ y g1, m_X9_lets laws s t (x &&& ((1 : Int32) <<< (nI j &&& 31))) g = some (y, g1) ∧ Ch PCl g g1 ∧ L2 g1 cl0 cl1 K0 K1 v0 v1 ∧ StC g1 a b r k ∧ (y = 0 ↔ (tb x j && AL cl0 cl1 (hI g 5) laws s t a b r k j) = false) := by
  obtain ⟨y, g1, e1, c1, l1, s1, q1⟩ := askC hL hst laws t hs hr (x &&& ((1 : Int32) <<< (nI j &&& 31))) (fun i hi hb => by
    rw [tb_one_bit x (by omega) hi] at hb
    simp at hb; omega)
  refine ⟨y, g1, e1, c1, l1, s1, ?_⟩
  rw [tb_eq0]
  constructor
  · intro h
    have := h j (by omega)
    rw [q1 j (by omega), tb_one_bit x (by omega) (by omega)] at this
    simpa using this
  · intro h i hi
    rw [q1 i hi, tb_one_bit x (by omega) hi]
    by_cases hij : i = j
    · subst hij; simpa using h
    · rw [decide_eq_false hij]; simp
theorem AL_col {cl0 cl1 : List Clz} {c1 c2 : Nat → Int32} {laws s t a b r k : Int32} {l : Nat} (hc : ∀ i, i < 6 → c1 i = c2 i) (hs : 0 ≤ s.toInt ∧ s.toInt ≤ 5) (hr : -1 ≤ r.toInt ∧ r.toInt ≤ 5) : AL cl0 cl1 c1 laws s t a b r k l = AL cl0 cl1 c2 laws s t a b r k l := by
  unfold AL; rw [mo_congr hc hs hr]
theorem sim_may {h : AHp} (w s t l : Int32) (hB : BI h) (hI0 : LI h) : SimL PN h (m_X11_may w s t l) (m_X12_may w s t l) := by
  by_cases hw : 0 ≤ w.toInt ∧ w.toInt ≤ 1
  rotate_left
  · refine SimL.same hB hI0 (-1) ?_ ?_
    · unfold m_X11_may; rw [isLawC, bd_some, b2i_f hw, if_pos rfl]
    · unfold m_X12_may; rw [isLawM, bd_some, b2i_f hw, if_pos rfl]
  by_cases hs : 0 ≤ s.toInt ∧ s.toInt ≤ 5
  rotate_left
  · refine SimL.same hB hI0 (-1) ?_ ?_
    · unfold m_X11_may; rw [isLawC, bd_some, b2i_t hw, if_neg one_ne, isSpeakerC, bd_some, b2i_f hs, if_pos rfl]
    · unfold m_X12_may; rw [isLawM, bd_some, b2i_t hw, if_neg one_ne, isSpeakerM, bd_some, b2i_f hs, if_pos rfl]
  by_cases ht : 0 ≤ t.toInt ∧ t.toInt ≤ 11
  rotate_left
  · refine SimL.same hB hI0 (-1) ?_ ?_
    · unfold m_X11_may; rw [isLawC, bd_some, b2i_t hw, if_neg one_ne, isSpeakerC, bd_some, b2i_t hs, if_neg one_ne, isThingC, bd_some, b2i_f ht, if_pos rfl]
    · unfold m_X12_may; rw [isLawM, bd_some, b2i_t hw, if_neg one_ne, isSpeakerM, bd_some, b2i_t hs, if_neg one_ne, isThingM, bd_some, b2i_f ht, if_pos rfl]
  by_cases hl : 1 ≤ l.toInt ∧ l.toInt ≤ 24
  rotate_left
  · refine SimL.same hB hI0 (-2) ?_ ?_
    · unfold m_X11_may; rw [isLawC, bd_some, b2i_t hw, if_neg one_ne, isSpeakerC, bd_some, b2i_t hs, if_neg one_ne, isThingC, bd_some, b2i_t ht, if_neg one_ne, bitOf_no hl, bd_some, if_pos rfl]
    · unfold m_X12_may; rw [isLawM, bd_some, b2i_t hw, if_neg one_ne, isSpeakerM, bd_some, b2i_t hs, if_neg one_ne, isThingM, bd_some, b2i_t ht, if_neg one_ne, isSizeM, bd_some, b2i_f hl, if_pos rfl]
  obtain ⟨j, rfl, hj⟩ := nat_len hl
  obtain ⟨wn, rfl, hwn⟩ : ∃ n : Nat, w = nI n ∧ n ≤ 1 := ⟨w.toNatClampNeg, by
    rw [i32_eq, nI_toInt (by rw [clamp_toNat]; omega), clamp_toNat]; omega, by rw [clamp_toNat]; omega⟩
  have ht12 : t.toNatClampNeg < 12 := clamp_lt ht.1 (by omega)
  have a2 := hB.2.1
  have e72 := (a2 _ ht12).1
  by_cases hz : tb (hI h 4 t.toNatClampNeg) j = true
  rotate_left
  · have hz' : tb (hI h 4 t.toNatClampNeg) j = false := by simpa using hz
    refine SimL.same hB hI0 (-2) ?_ ?_
    · unfold m_X11_may; rw [isLawC, bd_some, b2i_t hw, if_neg one_ne, isSpeakerC, bd_some, b2i_t hs, if_neg one_ne, isThingC, bd_some, b2i_t ht, if_neg one_ne, bitOfC ht hj, bd_some, if_pos ((one_bit0 _ (by omega)).mpr hz')]
    · unfold m_X12_may; rw [isLawM, bd_some, b2i_t hw, if_neg one_ne, isSpeakerM, bd_some, b2i_t hs, if_neg one_ne, isThingM, bd_some, b2i_t ht, if_neg one_ne, isSizeM, bd_some, b2i_t hl, if_neg one_ne, gd_pos (inb_iff.mpr (by omega)), hasM _ (by omega), bd_some, e72, hz', i01_f, if_pos rfl]
  obtain ⟨cl0, cl1, K0, K1, v0, v1, hLR⟩ := hI0
  obtain ⟨m, a, b, r, hT⟩ := id hB.tf
  obtain ⟨y, g1, e1, c1, l1, s1, q1⟩ := askC1 (hLR.1.st a b r (nI m)) (StC.st h a b r (nI m)) (lawsOf wn) t hs hT.2.2.2.1 (hI h 4 t.toNatClampNeg) hj
  have cA := pc_pn ((stH_pc h a b r (nI m)).trans (PCl_PC c1))
  obtain ⟨g2, e2, c2, f39, f36, f37, f38⟩ := (hT.ch cA ⟨rfl, rfl⟩ (fun _ => ⟨rfl, rfl, rfl, rfl⟩)).nowM
  have cB := cA.trans (pst_pn c2)
  have okg : okL g2 := by unfold okL; rw [f38]; exact hT.2.2.2.1
  obtain ⟨g3, e3, c3⟩ := askM1 (t := t) (l := j) hwn hs (hLR.2.1.same (sameLM.pn cB)) (hLR.2.2.same (sameLM.pn cB)) okg
  have cC := cB.trans (pws_pn c3)
  have ec : AL cl0 cl1 (hI g2 91) (lawsOf wn) s t a b r (nI m) j = AL cl0 cl1 (hI h 5) (lawsOf wn) s t a b r (nI m) j :=
    AL_col (fun i hi => by rw [cB.i (k := 91) rfl, (hB.2.2.1 i hi).1]) hs hT.2.2.2.1
  rw [f36, f37, f38, f39, ec, saysM, bd_some] at e3
  rw [hz, Bool.true_and] at q1
  refine ⟨if AL cl0 cl1 (hI h 5) (lawsOf wn) s t a b r (nI m) j = true then 1 else 0, g1, g3, ?_, ?_, hB.pn cC, ⟨cl0, cl1, K0, K1, v0, v1, hLR.pn cC (((l1.pmo (pst_pmo c2))).pmo (pws_pmo c3))⟩, cC⟩
  · unfold m_X11_may
    rw [isLawC, bd_some, b2i_t hw, if_neg one_ne, isSpeakerC, bd_some, b2i_t hs, if_neg one_ne, isThingC, bd_some, b2i_t ht, if_neg one_ne, bitOfC ht hj, bd_some, if_neg (fun z => by rw [(one_bit0 _ (by omega)).mp z] at hz; cases hz), hT.nowC, bd_some, shl_law hwn, e1, bd_some]
    cases hA : AL cl0 cl1 (hI h 5) (lawsOf wn) s t a b r (nI m) j with
    | false => rw [if_pos (q1.mpr hA), i01_f]
    | true => rw [if_neg (fun z => by have := q1.mp z; rw [show hI (stH h a b r (nI m)) 5 = hI h 5 from rfl, hA] at this; cases this), i01_t]
  · unfold m_X12_may
    have e72' : hI g1 72 t.toNatClampNeg = hI h 4 t.toNatClampNeg := by rw [cA.i (k := 72) rfl, e72]
    rw [isLawM, bd_some, b2i_t hw, if_neg one_ne, isSpeakerM, bd_some, b2i_t hs, if_neg one_ne, isThingM, bd_some, b2i_t ht, if_neg one_ne, isSizeM, bd_some, b2i_t hl, if_neg one_ne, gd_pos (inb_iff.mpr (by omega)), hasM _ (by omega), bd_some, e72', hz, i01_t, if_neg one_ne, e2, bd_some, saysM, bd_some, e3, bd_some]
    cases hA : AL cl0 cl1 (hI h 5) (lawsOf wn) s t a b r (nI m) j with
    | false => rw [i01_f, if_pos rfl]
    | true => rw [i01_t, if_neg one_ne]
/-! a sentence more -/
def adH (h : AHp) (m : Nat) (s t l : Int32) : AHp := sI (sI (sI (sI (sI h 43 m s) 44 m t) 45 m l) 42 3 (nI (m + 1))) 42 4 (hI h 42 4 + l)
theorem addC {h : AHp} {m : Nat} (em : hI h 42 3 = nI m) (hm : m < 200) (s t l : Int32) : m_X7_add s t l h = some ((), adH h m s t l) := by
  have gi : inb (nI m) 200 := inb_nI (by omega) (by omega)
  unfold m_X7_add adH
  simp only [lt_eq, hI_sI, Nat.reduceEqDiff, false_and, and_false, true_and, and_true, reduceIte, em, nI_clamp (show m < 2 ^ 31 by omega), gd_pos gi, nI_1]
  rw [if_neg (by exact nI_ge (a := m) (b := 200) (by omega) (by omega))]
def isH (h : AHp) (m : Nat) (s t l : Int32) : AHp := sI (sI (sI (sI h 94 m s) 95 m t) 96 m l) 70 3 (nI (m + 1))
theorem isSaidM {h : AHp} {m : Nat} (em : hI h 70 3 = nI m) (hm : m < 200) (s t l : Int32) : m_X12_isSaid s t l h = some ((), isH h m s t l) := by
  have gi : inb (nI m) 200 := inb_nI (by omega) (by omega)
  unfold m_X12_isSaid isH
  simp only [lt_eq, hI_sI, Nat.reduceEqDiff, false_and, and_false, true_and, and_true, reduceIte, em, nI_clamp (show m < 2 ^ 31 by omega), gd_pos gi, nI_1]
abbrev PSy : Nat → Nat → Bool := fun k i => PN k i || k == 43 || k == 44 || k == 45 || k == 94 || k == 95 || k == 96 || (k == 42 && (i == 3 || i == 4)) || (k == 70 && i == 3)
theorem pn_psy {h g : AHp} (c : Ch PN h g) : Ch PSy h g := c.mono (fun k i hp => by
  simp only [Bool.or_eq_false_iff] at hp ⊢
  simp only [hp, true_and])
theorem sumW_congr2 {f g : Nat → Int32} : ∀ m, (∀ i, i < m → f i = g i) → sumW f m = sumW g m
  | 0, _ => rfl
  | m + 1, h => by rw [sumW, sumW, sumW_congr2 m (fun i hi => h i (by omega)), h m (by omega)]
theorem BI.said {h g : AHp} {m : Nat} {s t l : Int32} (hB : BI h) (em : hI h 42 3 = nI m) (hm : m < 200) (hs : 0 ≤ s.toInt ∧ s.toInt ≤ 5) (ht : 0 ≤ t.toInt ∧ t.toInt ≤ 11) (hl : 1 ≤ l.toInt ∧ l.toInt ≤ 24) (c : Ch PSy h g)
    (e3 : hI g 42 3 = nI (m + 1)) (e4 : hI g 42 4 = hI h 42 4 + l) (e70 : hI g 70 3 = nI (m + 1)) (e43 : ∀ i, hI g 43 i = if i = m then s else hI h 43 i) (e44 : ∀ i, hI g 44 i = if i = m then t else hI h 44 i) (e45 : ∀ i, hI g 45 i = if i = m then l else hI h 45 i)
    (e94 : ∀ i, hI g 94 i = if i = m then s else hI h 94 i) (e95 : ∀ i, hI g 95 i = if i = m then t else hI h 95 i) (e96 : ∀ i, hI g 96 i = if i = m then l else hI h 96 i) : BI g := by
  obtain ⟨a1, a2, a3, a4, a5, a6⟩ := hB
  refine ⟨a1.ch c rfl rfl (fun _ => rfl) (fun _ => rfl), a2.ch c (fun _ => rfl) (fun _ => rfl), a3.ch c (fun _ => rfl) (fun _ => rfl), ?_, a5.ch c ⟨rfl, rfl⟩, a6.ch c ⟨rfl, rfl, rfl, rfl, rfl, rfl, rfl⟩ (fun _ => ⟨rfl, rfl, rfl, rfl, rfl, rfl, rfl, rfl⟩)⟩
  have hm1 : (nI (m + 1)).toInt = ((m + 1 : Nat) : Int) := nI_toInt (by omega)
  obtain ⟨b1, b2, b3, b4, b5⟩ := a4
  refine ⟨by rw [e70, e3], by rw [e3, hm1]; omega, by rw [e3, hm1]; omega, ?_, fun i hi => ?_⟩
  · have es : sumW (hI g 45) m = sumW (hI h 45) m := sumW_congr2 m (fun i hi => by rw [e45, if_neg (by omega)])
    have el : hI g 45 m = l := by rw [e45, if_pos rfl]
    rw [e3, nI_clamp (by omega), e4, b4, em, nI_clamp (by omega), sumW]
    show sumW (hI h 45) m + l = sumW (hI g 45) m + hI g 45 m
    rw [es, el]
  · rw [e3, hm1] at hi
    rw [em, nI_toInt (by omega)] at b5
    show (hI g 94 i = hI g 43 i ∧ 0 ≤ (hI g 43 i).toInt ∧ (hI g 43 i).toInt ≤ 5) ∧ (hI g 95 i = hI g 44 i ∧ 0 ≤ (hI g 44 i).toInt ∧ (hI g 44 i).toInt ≤ 11) ∧ (hI g 96 i = hI g 45 i ∧ 1 ≤ (hI g 45 i).toInt ∧ (hI g 45 i).toInt ≤ 24)
    rw [e43, e44, e45, e94, e95, e96]
    by_cases him : i = m
    · simp only [if_pos him]; exact ⟨⟨trivial, hs⟩, ⟨trivial, ht⟩, ⟨trivial, hl⟩⟩
    · simp only [if_neg him]; exact b5 i (by omega)
/-- behind add on one side and isSaid on the other -/
theorem BI.both {h h1 h2 : AHp} {m : Nat} {s t l : Int32} (hB : BI h) (em : hI h 42 3 = nI m) (hm : m < 200) (hs : 0 ≤ s.toInt ∧ s.toInt ≤ 5) (ht : 0 ≤ t.toInt ∧ t.toInt ≤ 11) (hl : 1 ≤ l.toInt ∧ l.toInt ≤ 24) (c1 : Ch PC h h1) (c2 : Ch PMo (adH h1 m s t l) h2) : BI (isH h2 m s t l) ∧ Ch PSy h (isH h2 m s t l) := by
  have c3 : Ch PSy h (adH h1 m s t l) := (((((pn_psy (pc_pn c1)).sI rfl).sI rfl).sI rfl).sI rfl).sI rfl
  have c4 : Ch PSy h (isH h2 m s t l) := ((((c3.trans (pn_psy (pmo_pn c2))).sI rfl).sI rfl).sI rfl).sI rfl
  refine ⟨hB.said em hm hs ht hl c4 ?_ ?_ ?_ (fun i => ?_) (fun i => ?_) (fun i => ?_) (fun i => ?_) (fun i => ?_) (fun i => ?_), c4⟩ <;> unfold isH <;> simp only [hI_sI, Nat.reduceEqDiff, false_and, and_false, true_and, and_true, reduceIte]
  · rw [c2.i rfl]; unfold adH; simp only [hI_sI, Nat.reduceEqDiff, false_and, and_false, true_and, and_true, reduceIte]
  · rw [c2.i rfl]; unfold adH; simp only [hI_sI, Nat.reduceEqDiff, false_and, and_false, true_and, and_true, reduceIte]; rw [c1.i rfl]
  · rw [c2.i rfl]; unfold adH; simp only [hI_sI, Nat.reduceEqDiff, false_and, and_false, true_and, and_true, reduceIte]; rw [c1.i rfl]
  · rw [c2.i rfl]; unfold adH; simp only [hI_sI, Nat.reduceEqDiff, false_and, and_false, true_and, and_true, reduceIte]; rw [c1.i rfl]
  · rw [c2.i rfl]; unfold adH; simp only [hI_sI, Nat.reduceEqDiff, false_and, and_false, true_and, and_true, reduceIte]; rw [c1.i rfl]
  · rw [c2.i rfl]; unfold adH; simp only [hI_sI, Nat.reduceEqDiff, false_and, and_false, true_and, and_true, reduceIte]; rw [c1.i rfl]
  · rw [c2.i rfl]; unfold adH; simp only [hI_sI, Nat.reduceEqDiff, false_and, and_false, true_and, and_true, reduceIte]; rw [c1.i rfl]
  · rw [c2.i rfl]; unfold adH; simp only [hI_sI, Nat.reduceEqDiff, false_and, and_false, true_and, and_true, reduceIte]; rw [c1.i rfl]
