/-! heard: the reference -/
abbrev PHr : Nat → Nat → Bool := fun k i => PMo k i || k == 103
theorem pmo_phr {h g : AHp} (c : Ch PMo h g) : Ch PHr h g := c.mono (fun k i hp => by
  simp only [Bool.or_eq_false_iff] at hp ⊢
  simp only [hp, true_and])
theorem RX.phr {E : En} {h g : AHp} (x : RX E h) (c : Ch PHr h g) : RX E g := x.ch c (fun {k i} hp => by
  simp only [Bool.or_eq_true, Bool.and_eq_true, beq_iff_eq] at hp
  simp only [Bool.or_eq_false_iff, Bool.and_eq_false_iff, beq_eq_false_iff_ne]
  omega)
theorem or0 (x : Int32) : x ||| 0 = x := tb_ext (fun k hk => by rw [tb_or, tb_zero, Bool.or_false])
theorem goesOnM {g : AHp} {a b r : Int32} {k : Nat} (st : StM g a b r (nI k)) (s l : Int32) : ∃ g1, m_X12_goesOn s l g = some ((), g1) ∧ Ch PSt g g1 ∧ StM g1 l a s (nI (k + 1)) := by
  refine ⟨sI (sI (sI (sI g 70 39 (nI (k + 1))) 70 37 a) 70 36 l) 70 38 s, ?_, (((Ch.rf.sI rfl).sI rfl).sI rfl).sI rfl, rfl, rfl, rfl, rfl⟩
  unfold m_X12_goesOn
  simp only [lt_eq, hI_sI, Nat.reduceEqDiff, false_and, and_false, true_and, and_true, reduceIte, st.1, st.2.2.2, nI_1]
theorem heard152 {E : En} {n : Nat} {w : Int32} {i j : Nat} {a b r : Int32} (k123 : Int32 → Int32 → Int64 → Int32 → AHp → Option (Int64 × AHp)) (rows : Int64) (hi : i < 8) (hc : 2 * i + 1 < E.c) (hj : E.ty (2 * i + 1) = nI j) (hj2 : 1 ≤ j ∧ j ≤ 24) (hsp : 0 ≤ (E.ty (2 * i)).toInt ∧ (E.ty (2 * i)).toInt ≤ 5) (hr : -1 ≤ r.toInt ∧ r.toInt ≤ 5) : ∀ (d t f : Nat) (g : AHp), t + d = 12 → d < f → RX E g → StM g a b r (nI (E.m + i)) → hI g 103 i = hs (hcnd E (E.ty (2 * i)) (nI j) a b r (nI (E.m + i))) t →
    ∃ g1, m_X12_heard_152 k123 f (nI n) w rows (nI i) (nI j) (nI t) g = k123 (nI n) w (rows * (nI (pcI (hs (hcnd E (E.ty (2 * i)) (nI j) a b r (nI (E.m + i))) 12))).toInt64) (nI (i + 1)) g1 ∧ RX E g1 ∧ StM g1 (nI j) a (E.ty (2 * i)) (nI (E.m + (i + 1))) ∧ hI g1 103 i = hs (hcnd E (E.ty (2 * i)) (nI j) a b r (nI (E.m + i))) 12 ∧ (∀ q, q ≠ i → hI g1 103 q = hI g 103 q) ∧ Ch PHr g g1 := by
  have hc2 := E.hc
  have gi : inb (nI i) 8 := inb_nI (by omega) (by omega)
  have ec : (nI i).toNatClampNeg = i := nI_clamp (by omega)
  have e2i : (2 : Int32) * nI i = nI (2 * i) := pk_mul 2 i
  intro d
  induction d with
  | zero =>
    intro t f g ht hf x st h103
    obtain ⟨f, rfl⟩ : ∃ a, f = a + 1 := ⟨f - 1, by omega⟩
    have : t = 12 := by omega
    subst this
    obtain ⟨g1, e1, c1, s1⟩ := goesOnM st (E.ty (2 * i)) (nI j)
    refine ⟨g1, ?_, x.pmo (pst_pmo c1), s1, by rw [c1.i rfl, h103], fun q _ => by rw [c1.i rfl], pmo_phr (pst_pmo c1)⟩
    rw [m_X12_heard_152, if_pos (by decide), gd_pos gi, ec, h103, sizeOfM, bd_some, lt_eq, e2i, x.byte (by omega), bd_some, e1, bd_some, lt_eq, nI_1]
  | succ d ih =>
    intro t f g ht hf x st h103
    obtain ⟨f, rfl⟩ : ∃ a, f = a + 1 := ⟨f - 1, by omega⟩
    have gt : inb (nI t) 12 := inb_nI (by omega) (by omega)
    have ect : (nI t).toNatClampNeg = t := nI_clamp (by omega)
    have c0 := says_ch g (E.ty (2 * i)) (nI t) (nI j)
    have x0 := x.pmo (pws_pmo c0)
    have s0 := st.ch c0 ⟨rfl, rfl, rfl, rfl⟩
    obtain ⟨g1, e1, c1, x1, s1⟩ := x.ask1 (l := j) (t := nI t) (w := 0) st (by omega) hsp hr
    have hst : hs (hcnd E (E.ty (2 * i)) (nI j) a b r (nI (E.m + i))) (t + 1) = if hcnd E (E.ty (2 * i)) (nI j) a b r (nI (E.m + i)) t = true then hs (hcnd E (E.ty (2 * i)) (nI j) a b r (nI (E.m + i))) t ||| ((1 : Int32) <<< (nI t &&& 31)) else hs (hcnd E (E.ty (2 * i)) (nI j) a b r (nI (E.m + i))) t := rfl
    have hcn : hcnd E (E.ty (2 * i)) (nI j) a b r (nI (E.m + i)) t = (tb (E.siz t) j && E.ok (lawsOf 0) (E.ty (2 * i)) (nI t) a b r (nI (E.m + i)) j) := by
      unfold hcnd isLn
      rw [nI_clamp (show j < 2 ^ 31 by omega), nI_toInt (show j < 2 ^ 31 by omega), decide_eq_true (by omega), Bool.true_and]; rfl
    have fin : ∀ (g2 : AHp) (v : Int32), RX E g2 → StM g2 a b r (nI (E.m + i)) → Ch PMo g g2 → v = hs (hcnd E (E.ty (2 * i)) (nI j) a b r (nI (E.m + i))) (t + 1) → ∃ g1, m_X12_heard_152 k123 f (nI n) w rows (nI i) (nI j) (nI (t + 1)) (sI g2 103 i v) = k123 (nI n) w (rows * (nI (pcI (hs (hcnd E (E.ty (2 * i)) (nI j) a b r (nI (E.m + i))) 12))).toInt64) (nI (i + 1)) g1 ∧ RX E g1 ∧ StM g1 (nI j) a (E.ty (2 * i)) (nI (E.m + (i + 1))) ∧ hI g1 103 i = hs (hcnd E (E.ty (2 * i)) (nI j) a b r (nI (E.m + i))) 12 ∧ (∀ q, q ≠ i → hI g1 103 q = hI g 103 q) ∧ Ch PHr g g1 := by
      intro g2 v x2 s2 c2 hv
      have c3 : Ch PHr g2 (sI g2 103 i v) := Ch.rf.sI (by simp)
      obtain ⟨g4, e4, x4, s4, h4, q4, c4⟩ := ih (t + 1) f (sI g2 103 i v) (by omega) (by omega) (x2.phr c3) (s2.ch (P := fun k _ => k == 103) (Ch.rf.sI rfl) ⟨rfl, rfl, rfl, rfl⟩) (by rw [sI_same, hv])
      exact ⟨g4, e4, x4, s4, h4, fun q hq => by rw [q4 q hq, hI_sI, if_neg (by omega), c2.i rfl], ((pmo_phr c2).trans c3).trans c4⟩
    have e103 : ∀ g2, Ch PMo g g2 → hI g2 103 i = hs (hcnd E (E.ty (2 * i)) (nI j) a b r (nI (E.m + i))) t := fun g2 c2 => by rw [c2.i rfl, h103]
    rw [m_X12_heard_152, if_neg (show ¬ 12 ≤ nI t from nI_ge (a := t) (b := 12) (by omega) (by omega)), e2i, x.byte (by omega), bd_some, saysM, bd_some]
    simp only [gd_pos gi, gd_pos gt, ect, ec, lt_eq, nI_1]
    rw [x0.2.2.1.2 t (by omega), hasM _ (by omega), bd_some]
    cases hz : tb (E.siz t) j with
    | false =>
      rw [i01_f, if_pos rfl, e103 _ (pws_pmo c0), or0]
      exact fin _ _ x0 s0 (pws_pmo c0) (by rw [hst, hcn, hz, if_neg (by simp)])
    | true =>
      rw [i01_t, if_neg one_ne]
      rw [show m_X12_lets 0 (sI (sI (sI g 70 35 (E.ty (2 * i))) 70 34 (nI t)) 70 33 (nI j)) = _ from e1, bd_some]
      cases hok : E.ok (lawsOf 0) (E.ty (2 * i)) (nI t) a b r (nI (E.m + i)) j with
      | false =>
        rw [i01_f, if_pos rfl, e103 _ (pws_pmo c0), or0]
        exact fin _ _ x1 s1 (pws_pmo c1) (by rw [hst, hcn, hz, hok, if_neg (by simp)])
      | true =>
        rw [i01_t, if_neg one_ne, e103 _ (pws_pmo c0)]
        exact fin _ _ x1 s1 (pws_pmo c1) (by rw [hst, hcn, hz, hok, if_pos (by simp)])
theorem heard303 {x : Int32} (hb : ∀ k, 25 ≤ k → k < 32 → tb x k = false) {J : Nat} (hJ : J < 8) {g : AHp} (hx : hI g 103 J = x) : ∀ (d l f : Nat), l + d = 25 → 0 < cntF x l → d < f → m_X12_heard_303 f (nI J) (nI l) g = some ((nI (nthB x d l 0)).toInt64, g)
  | 0, l, f, hl, hc, hf => by
    rw [cntF_zero 7 l (by omega) (fun k h1 h2 => hb k (by omega) h2)] at hc; omega
  | d + 1, l, f, hl, hc, hf => by
    obtain ⟨f, rfl⟩ : ∃ a, f = a + 1 := ⟨f - 1, by omega⟩
    rw [cntF_step x (by omega)] at hc
    rw [m_X12_heard_303, gd_pos (inb_nI (n := J) (N := 8) (by omega) (by omega)), nI_clamp (n := J) (by omega), hx, hasM x (by omega), bd_some, nthB]
    cases ht : tb x l with
    | false =>
      rw [ht, if_neg (by simp), Nat.zero_add] at hc
      rw [i01_f, if_pos rfl, lt_eq, nI_1, heard303 hb hJ hx d (l + 1) f (by omega) hc (by omega), if_neg (by simp)]
    | true =>
      rw [i01_t, if_neg one_ne, if_pos rfl, if_pos rfl]
theorem heardM {E : En} {n J : Nat} {w : Int32} (hn : n ≤ 8) (hc2 : 2 * n ≤ E.c) (hw : w = -1 ∨ (J < n ∧ (w = nI J ∨ w = nI (10 + J)))) (hg : ∀ i, i < n → (isSp (E.ty (2 * i)) && isLn (E.ty (2 * i + 1))) = true) : ∀ (d i f : Nat) (g : AHp), i + d = n → d < f → RX E g → StM g (hA E i) (hB E i) (hR E i) (nI (E.m + i)) → (∀ q, q < i → hI g 103 q = ys E q) → ∃ g1, m_X12_heard_123 f (nI n) w (lI (RW E i)) (nI i) g = some (hAns E n J w, g1) ∧ Ch PHr g g1 := by
  have hc := E.hc
  have hm := E.hm
  have hJ : w ≠ -1 → J < n := fun z => by rcases hw with h | h; exact absurd h z; exact h.1
  have hrb : ∀ i, i ≤ n → -1 ≤ (hR E i).toInt ∧ (hR E i).toInt ≤ 5 := fun i hi => by
    unfold hR; split
    · exact E.hr
    · have := hg (i - 1) (by omega)
      rw [Bool.and_eq_true] at this
      have := of_decide_eq_true this.1
      omega
  intro d
  induction d with
  | zero =>
    intro i f g hi hf x st h103
    obtain ⟨f, rfl⟩ : ∃ a, f = a + 1 := ⟨f - 1, by omega⟩
    have : i = n := by omega
    subst this
    have h8 := RW_le8 E hn
    refine ⟨g, ?_, Ch.rf⟩
    rw [m_X12_heard_123, if_pos (nI_le (Nat.le_refl _) (by omega))]
    unfold hAns
    by_cases h1 : w = -1
    · rw [if_pos h1, if_pos h1]
    rw [if_neg h1, if_neg h1]
    by_cases h0 : RW E i = 0
    · simp only [if_pos ((lI_eq0 (n := RW E i) (by omega)).mpr h0), if_pos h0]
      split <;> rfl
    · simp only [if_neg (fun z => h0 ((lI_eq0 (n := RW E i) (by omega)).mp z)), if_neg h0]
      have hJi := hJ h1
      have hp := RW_pos E (i - 1 - J) J (by rw [show J + (i - 1 - J) + 1 = i by omega]; exact h0)
      rcases hw with h | ⟨_, h | h⟩
      · exact absurd h h1
      · have hlt : w < 10 := by rw [h]; exact nI_lt (b := 10) (by omega) (by omega)
        rw [if_pos hlt, if_pos hlt, h]
        exact heard303 (ys25 E J) (by omega) (h103 J hJi) 25 0 FU (by omega) (by rw [cntF_all]; omega) (by unfold FU; omega)
      · have hlt : ¬ w < 10 := by rw [h]; exact nI_nlt (a := 10 + J) (b := 10) (by omega) (by omega)
        have ew : w - 10 = nI J := by rw [h]; have := pk_sub (a := 10 + J) (b := 10) (by omega); rw [show 10 + J - 10 = J by omega] at this; exact this
        rw [if_neg hlt, if_neg hlt, ew, gd_pos (inb_nI (by omega) (by omega)), nI_clamp (by omega), h103 J hJi]
  | succ d ih =>
    intro i f g hi hf x st h103
    obtain ⟨f, rfl⟩ : ∃ a, f = a + 1 := ⟨f - 1, by omega⟩
    have h8 := RW_le8 E (show i ≤ 8 by omega)
    have hgi := hg i (by omega)
    rw [Bool.and_eq_true] at hgi
    have hsp := of_decide_eq_true hgi.1
    obtain ⟨j, ej, h1, h2, ej2⟩ := len_nat hgi.2
    have c0 : Ch PHr g (sI g 103 i 0) := Ch.rf.sI (by simp)
    obtain ⟨g1, e1, x1, s1, y1, q1, c1⟩ := heard152 (n := n) (w := w) (m_X12_heard_123 f) (lI (RW E i)) (show i < 8 by omega) (by omega) ej ⟨h1, h2⟩ hsp (hrb i (by omega)) 12 0 FU (sI g 103 i 0) (by omega) (by unfold FU; omega) (x.phr c0) (st.ch (P := fun k _ => k == 103) (Ch.rf.sI rfl) ⟨rfl, rfl, rfl, rfl⟩) (sI_same _ _ _ _)
    have ey : hs (hcnd E (E.ty (2 * i)) (nI j) (hA E i) (hB E i) (hR E i) (nI (E.m + i))) 12 = ys E i := by unfold ys; rw [ej]
    rw [ey] at e1 y1
    have hpc : pcI (ys E i) ≤ 12 := pc_hs _
    have hmul : RW E i * pcI (ys E i) ≤ 429981696 * 12 := Nat.mul_le_mul h8 hpc
    rw [lI_mul (by omega) (by omega) (by omega), show RW E i * pcI (ys E i) = RW E (i + 1) from rfl] at e1
    obtain ⟨g2, e2, c2⟩ := ih (i + 1) f g1 (by omega) (by omega) x1 (by rw [hA_succ, hB_succ, hR_succ, ej]; exact s1) (fun q hq => by
      by_cases hqi : q = i
      · rw [hqi, y1]
      · rw [q1 q hqi, hI_sI, if_neg (by omega), h103 q (by omega)])
    refine ⟨g2, ?_, (c0.trans c1).trans c2⟩
    rw [m_X12_heard_123, if_neg (nI_ge (by omega) (by omega)), show (2 : Int32) * nI i = nI (2 * i) from pk_mul 2 i, nI_1, x.byte (by omega), bd_some, gd_pos (inb_nI (by omega) (by omega)), lt_eq, nI_clamp (by omega), ej]
    rw [show m_X12_heard_152 (m_X12_heard_123 f) FU (nI n) w (lI (RW E i)) (nI i) (nI j) 0 (sI g 103 i 0) = _ from e1, e2]
theorem tells2C {E : En} {g : AHp} {n : Nat} (x : CX E g) (hn : 2 * n ≤ E.c) : ∀ (d i f : Nat), i + d = n → d < f → m_X11_tellsSpeakersAndLengths_2 f (nI n) (nI i) g = some (if okF (fun i => isSp (E.ty (2 * i)) && isLn (E.ty (2 * i + 1))) i d = true then 1 else 0, g) := by
  have hc := E.hc
  intro d
  induction d with
  | zero =>
    intro i f hi hf
    obtain ⟨f, rfl⟩ : ∃ a, f = a + 1 := ⟨f - 1, by omega⟩
    rw [m_X11_tellsSpeakersAndLengths_2, if_pos (nI_le (by omega) (by omega))]; rfl
  | succ d ih =>
    intro i f hi hf
    obtain ⟨f, rfl⟩ : ∃ a, f = a + 1 := ⟨f - 1, by omega⟩
    rw [m_X11_tellsSpeakersAndLengths_2, if_neg (nI_ge (by omega) (by omega)), show (2 : Int32) * nI i = nI (2 * i) from pk_mul 2 i, nI_1, x.byte (by omega), bd_some, x.byte (by omega), bd_some, isSpeakerC, bd_some, isSp_b, okF]
    cases h1 : isSp (E.ty (2 * i)) with
    | false => rw [i01_f, if_pos rfl]; simp
    | true =>
      rw [i01_t, if_neg one_ne]
      cases h2 : isLn (E.ty (2 * i + 1)) with
      | false =>
        have := of_decide_eq_false h2
        simp only [i32_lt, i32_le, tIall]
        by_cases h3 : (E.ty (2 * i + 1)).toInt < 1
        · rw [if_pos h3]; simp
        · rw [if_neg h3, if_neg (by omega)]; simp
      | true =>
        have := of_decide_eq_true h2
        rw [if_neg (by rw [i32_lt]; simp only [tIall]; omega), if_pos (by rw [i32_le]; simp only [tIall]; omega), lt_eq, nI_1, ih (i + 1) f (by omega) (by omega)]; simp
theorem heard67 {E : En} {n : Nat} {w : Int32} (hn : 2 * n ≤ E.c) {g : AHp} (x : RX E g) : ∀ (d i f : Nat), i + d = n → d < f → m_X12_heard_67 f (nI n) w (nI i) g = if okF (fun i => isSp (E.ty (2 * i)) && isLn (E.ty (2 * i + 1))) i d = true then bd (m_X12_standsAt (hI g 70 3) g) (fun r38 h39 => (m_X12_heard_123 FU (nI n) w 1 0 h39)) else some (-3, g) := by
  have hc := E.hc
  intro d
  induction d with
  | zero =>
    intro i f hi hf
    obtain ⟨f, rfl⟩ : ∃ a, f = a + 1 := ⟨f - 1, by omega⟩
    rw [m_X12_heard_67, if_pos (nI_le (by omega) (by omega)), okF, if_pos rfl]
  | succ d ih =>
    intro i f hi hf
    obtain ⟨f, rfl⟩ : ∃ a, f = a + 1 := ⟨f - 1, by omega⟩
    rw [m_X12_heard_67, if_neg (nI_ge (by omega) (by omega)), show (2 : Int32) * nI i = nI (2 * i) from pk_mul 2 i, x.byte (by omega), bd_some, isSpeakerM, bd_some, isSp_b, okF]
    cases h1 : isSp (E.ty (2 * i)) with
    | false => rw [i01_f, if_pos rfl]; simp
    | true =>
      rw [i01_t, if_neg one_ne, nI_1, x.byte (by omega), bd_some, isSizeM, bd_some, isLn_b]
      cases h2 : isLn (E.ty (2 * i + 1)) with
      | false => rw [i01_f, if_pos rfl]; simp
      | true =>
        rw [i01_t, if_neg one_ne, lt_eq, nI_1, ih (i + 1) f (by omega) (by omega)]; simp
abbrev PH : Nat → Nat → Bool := fun k i => PT k i || k == 103
theorem pt_ph {h g : AHp} (c : Ch PT h g) : Ch PH h g := c.mono (fun k i hp => by
  simp only [Bool.or_eq_false_iff] at hp ⊢
  simp only [hp, true_and])
theorem phr_ph {h g : AHp} (c : Ch PHr h g) : Ch PH h g := c.mono (fun k i hp => by
  simp only [Bool.or_eq_false_iff, Bool.and_eq_false_iff, beq_eq_false_iff_ne] at hp ⊢; omega)
theorem BI.ph {h g : AHp} (hB : BI h) (c : Ch PH h g) (e1 : hI g 1 1 = 0) (e2 : hI g 70 1 = 0) : BI g := hB.clr c (fun {k i} hp h1 h2 => by
  simp only [Bool.or_eq_true, Bool.and_eq_true, beq_iff_eq] at hp
  simp only [Bool.or_eq_false_iff, Bool.and_eq_false_iff, beq_eq_false_iff_ne]
  omega) e1 e2
theorem sameLM.ph {h g : AHp} (c : Ch PH h g) : sameLM h g := sameLM.ch c (fun k h1 h2 i => by simp only [Bool.or_eq_false_iff, Bool.and_eq_false_iff, beq_eq_false_iff_ne]; omega)
theorem heardPlaceC {n : Nat} (w : Int32) (hn : 1 ≤ n ∧ n ≤ 8) (h : AHp) : m_X11_isHeardPlace (nI n) w h = some (b2i ((-1 ≤ w.toInt ∧ w.toInt < n) ∨ (10 ≤ w.toInt ∧ w.toInt < 10 + n)), h) := by
  unfold m_X11_isHeardPlace m_X11_isHeardPlace_10 b2i
  rw [show (10 : Int32) + nI n = nI (10 + n) from nI_add 10 n]
  simp only [i32_lt, i32_le, tIall, nI_toInt (show n < 2 ^ 31 by omega), nI_toInt (show 10 + n < 2 ^ 31 by omega)]
  repeat' split
  all_goals first | rfl | omega
theorem sim_heard {h : AHp} (n w : Int32) (hB0 : BI h) (hI0 : LI h) : SimL PH h (m_X11_heard n w) (m_X12_heard n w) := by
  by_cases hn : 1 ≤ n.toInt ∧ n.toInt ≤ 8
  rotate_left
  · refine SimL.same hB0 hI0 (-1) ?_ ?_
    · unfold m_X11_heard; rw [show m_X11_isOnTape n 8 2 h = some (0, h) from onTape_no (lim := 8) (grp := 2) (by omega) hn, bd_some, if_pos rfl]
    · unfold m_X12_heard; rw [liesI, bd_some, b2i_f (by exact hn), if_pos rfl]
  obtain ⟨n, rfl, hn1, hn2⟩ := nat_in (lo := 1) (hi := 8) hn
  obtain ⟨cl0, cl1, K0, K1, v0, v1, hLR⟩ := id hI0
  obtain ⟨E, xC, xR, ⟨rfl, rfl, rfl, rfl, rfl, rfl⟩, e701⟩ := hB0.en hLR
  have hc := E.hc
  have eT : m_X11_isOnTape (nI n) 8 2 h = some (if n * 2 ≤ E.c then 1 else 0, h) := onTape_n (lim := 8) (grp := 2) xC.2.1 hc hn1 hn2 (by omega) (by omega)
  have e2n : (2 : Int32) * nI n = nI (2 * n) := pk_mul 2 n
  have en1 : (nI n - 1).toInt = (n : Int) - 1 := nI_sub_toInt (c := 1) (by omega) (by omega)
  have en9 : ((9 : Int32) + nI n).toInt = 9 + (n : Int) := by rw [show (9 : Int32) + nI n = nI (9 + n) from nI_add 9 n, nI_toInt (by omega)]; omega
  have sn : (nI n).toInt = n := nI_toInt (by omega)
  have eP := heardPlaceC w ⟨hn1, hn2⟩ h
  by_cases hp : (-1 ≤ w.toInt ∧ w.toInt < n) ∨ (10 ≤ w.toInt ∧ w.toInt < 10 + n)
  rotate_left
  · refine SimL.same hB0 hI0 (-1) ?_ ?_
    · unfold m_X11_heard; rw [eT, bd_some]
      by_cases hq : n * 2 ≤ E.c
      · rw [if_pos hq, if_neg one_ne, eP, bd_some, b2i_f hp, if_pos rfl]
      · rw [if_neg hq, if_pos rfl]
    · unfold m_X12_heard; rw [liesI, bd_some, b2i_t (by exact hn), if_neg one_ne, if_neg (by rw [i32_eq]; simp only [tIall]; omega), liesI, bd_some, i32_64, en1, b2i_f (by show ¬ ((0 : Int) ≤ _ ∧ _); omega), if_pos rfl, liesI, bd_some, i32_64, en9, b2i_f (by show ¬ ((10 : Int) ≤ _ ∧ _); omega), if_pos rfl]
  have eRef : ∀ g, m_X12_heard (nI n) w g = m_X12_heard_46 (nI n) w g := fun g => by
    unfold m_X12_heard; rw [liesI, bd_some, b2i_t (by exact hn), if_neg one_ne]
    by_cases h1 : w = -1
    · rw [if_pos h1]
    · rw [if_neg h1, liesI, bd_some, i32_64, en1]
      rw [i32_eq] at h1
      simp only [tIall] at h1
      by_cases h2 : 0 ≤ w.toInt ∧ w.toInt < n
      · rw [b2i_t (by show ((0 : Int) ≤ _ ∧ _); omega), if_neg one_ne]
      · rw [b2i_f (by show ¬ ((0 : Int) ≤ _ ∧ _); omega), if_pos rfl, liesI, bd_some, i32_64, en9, b2i_t (by show ((10 : Int) ≤ _ ∧ _); omega), if_neg one_ne]
  by_cases hq : n * 2 ≤ E.c
  rotate_left
  · rw [if_neg hq] at eT
    refine SimL.same hB0 hI0 (-1) ?_ ?_
    · unfold m_X11_heard; rw [eT, bd_some, if_pos rfl]
    · rw [eRef]; unfold m_X12_heard_46; rw [e2n, e701, if_neg (nI_ge (by omega) (by omega))]
  rw [if_pos hq] at eT
  have eRef2 : ∀ g, hI g 70 1 = nI E.c → m_X12_heard (nI n) w g = m_X12_heard_67 FU (nI n) w 0 (sI g 70 1 0) := fun g eg => by
    rw [eRef]; unfold m_X12_heard_46; rw [e2n, eg, if_pos (nI_le (by omega) (by omega)), lt_eq]
  have eTl := tells2C (n := n) xC (by omega) n 0 FU (by omega) (by unfold FU; omega)
  obtain ⟨J, hwJ⟩ : ∃ J, w = -1 ∨ (J < n ∧ (w = nI J ∨ w = nI (10 + J))) := by
    rcases hp with h1 | h1
    · by_cases h2 : w.toInt = -1
      · exact ⟨0, Or.inl (by rw [i32_eq, h2]; rfl)⟩
      · exact ⟨w.toInt.toNat, Or.inr ⟨by omega, Or.inl (by rw [i32_eq, nI_toInt (by omega)]; omega)⟩⟩
    · exact ⟨(w.toInt - 10).toNat, Or.inr ⟨by omega, Or.inr (by rw [i32_eq, nI_toInt (by omega)]; omega)⟩⟩
  cases hok : okF (fun i => isSp (E.ty (2 * i)) && isLn (E.ty (2 * i + 1))) 0 n with
  | false =>
    rw [hok, i01_f] at eTl
    have c0 : Ch PH h (sI (sI h 1 1 0) 70 1 0) := (Ch.rf.sI rfl).sI rfl
    have xR2 : RX E (sI (sI h 1 1 0) 70 1 0) := xR.ch (P := fun k i => (k == 1 && i == 1) || (k == 70 && i == 1)) ((Ch.rf.sI rfl).sI rfl) (fun {k i} hp => by
      simp only [Bool.or_eq_true, Bool.and_eq_true, beq_iff_eq] at hp
      simp only [Bool.or_eq_false_iff, Bool.and_eq_false_iff, beq_eq_false_iff_ne]
      omega)
    have e2 := heard67 (w := w) (n := n) (by omega) xR2 n 0 FU (by omega) (by unfold FU; omega)
    rw [hok, if_neg (by simp)] at e2
    refine ⟨-3, sI h 1 1 0, sI (sI h 1 1 0) 70 1 0, ?_, ?_, hB0.ph c0 rfl rfl, ⟨E.cl0, E.cl1, E.K0, E.K1, E.v0, E.v1, (hLR.1.clr (by omega) _).clr (by omega) _, hLR.2.1.same (sameLM.ph c0), hLR.2.2.same (sameLM.ph c0)⟩, c0⟩
    · unfold m_X11_heard; rw [eT, bd_some, if_neg one_ne, eP, bd_some, b2i_t hp, if_neg one_ne]
      unfold m_X11_tellsSpeakersAndLengths
      rw [show m_X11_tellsSpeakersAndLengths_2 FU (nI n) 0 h = some (0, h) from eTl, bd_some, if_pos rfl, clearC, bd_some]
    · rw [eRef2 (sI h 1 1 0) e701]; exact e2
  | true =>
    rw [hok, i01_t] at eTl
    have hg : ∀ i, i < n → (isSp (E.ty (2 * i)) && isLn (E.ty (2 * i + 1))) = true := fun i hi => okF_all n 0 hok i (by omega) (by omega)
    obtain ⟨g1, e1, c1, x1⟩ := heardC (w := w) (J := J) hn2 (by omega) hwJ hg n 0 FU h (by omega) (by unfold FU; omega) xC
    have c2 : Ch PH h (sI (sI g1 1 1 0) 70 1 0) := ((pt_ph (pn_pt (pc_pn c1))).sI rfl).sI rfl
    have xR2 : RX E (sI (sI g1 1 1 0) 70 1 0) := xR.ch c2 (fun {k i} hp => by
      simp only [Bool.or_eq_true, Bool.and_eq_true, beq_iff_eq] at hp
      simp only [Bool.or_eq_false_iff, Bool.and_eq_false_iff, beq_eq_false_iff_ne]
      omega)
    have e2 := heard67 (w := w) (n := n) (by omega) xR2 n 0 FU (by omega) (by unfold FU; omega)
    rw [hok, if_pos rfl] at e2
    obtain ⟨g2, e3, c3, x3, s3⟩ := xR2.now
    obtain ⟨g3, e4, c4⟩ := heardM (w := w) (J := J) hn2 (by omega) hwJ hg n 0 FU g2 (by omega) (by unfold FU; omega) x3 s3 (fun q hq => by omega)
    have cM := (pmo_phr (pst_pmo c3)).trans c4
    have c5 := c2.trans (phr_ph cM)
    have has0 : hAs E J w 0 = 0 := by unfold hAs; rw [if_neg (fun z => by omega)]
    rw [has0] at e1
    refine ⟨hAns E n J w, sI g1 1 1 0, g3, ?_, ?_, hB0.ph c5 (by rw [cM.i rfl]; rfl) (by rw [cM.i rfl]; rfl), ⟨E.cl0, E.cl1, E.K0, E.K1, E.v0, E.v1, ((x1.2.2.2.2.1.clr (by omega) _).clr (by omega) _).m cM (fun k hk i => by simp only [Bool.or_eq_false_iff, Bool.and_eq_false_iff, beq_eq_false_iff_ne]; omega), hLR.2.1.same (sameLM.ph c5), hLR.2.2.same (sameLM.ph c5)⟩, c5⟩
    · unfold m_X11_heard; rw [eT, bd_some, if_neg one_ne, eP, bd_some, b2i_t hp, if_neg one_ne]
      unfold m_X11_tellsSpeakersAndLengths m_X11_heardAnswer
      rw [show m_X11_tellsSpeakersAndLengths_2 FU (nI n) 0 h = some (1, h) from eTl, bd_some, if_neg one_ne, xC.spanA, bd_some, xC.spanB, bd_some, xC.spkA, bd_some]
      rw [show m_X11_heardAnswer_62 FU (nI n) w 1 0 E.a E.b E.r 0 h = _ from e1, bd_some, clearC, bd_some]
    · rw [eRef2 _ (by rw [hI_sI, if_neg (by omega), c1.i rfl, e701])]
      rw [show m_X12_heard_67 FU (nI n) w 0 (sI (sI g1 1 1 0) 70 1 0) = _ from e2, e3, bd_some]
      exact e4
