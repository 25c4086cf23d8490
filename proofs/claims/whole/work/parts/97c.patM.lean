/-! patterns: the reference -/
def sz (ty : Nat → Int32) (n p : Nat) : Int32 := if p < n then ty p else 0
def TM (ty : Nat → Int32) (n p d : Nat) (g : AHp) : Prop := (hI g 70 4 = nI p ∧ hI g 70 5 = nI n ∧ hI g 70 6 = 0 ∧ hI g 70 16 = nI d) ∧ (p ≤ n ∧ n ≤ 200 ∧ d ≤ 6) ∧ ∀ i, i < n → hI g 71 i &&& 255 = ty i
abbrev Pd (d : Nat) : Nat → Nat → Bool := fun k i => (k == 70 && (i == 4 || i == 6 || i == 16)) || ((k == 73 || k == 74 || k == 76) && Nat.ble d i) || (k == 75 && Nat.ble (d + 1) i)
def Fr (d : Nat) (W N c : Int32) (g : AHp) : Prop := hI g 73 d = W ∧ hI g 74 d = N ∧ hI g 76 d = c
theorem pd_up {d e : Nat} (h : d ≤ e) {g g1 : AHp} (c : Ch (Pd e) g g1) : Ch (Pd d) g g1 := c.mono (fun k i hp => by
  simp only [Bool.or_eq_false_iff, Bool.and_eq_false_iff, beq_eq_false_iff_ne, ble_f] at hp ⊢; omega)
theorem pd_f (d : Nat) : Pd (d + 1) 73 d = false ∧ Pd (d + 1) 74 d = false ∧ Pd (d + 1) 76 d = false ∧ Pd d 75 d = false := by
  simp only [Bool.or_eq_false_iff, Bool.and_eq_false_iff, beq_eq_false_iff_ne, ble_f]; omega
theorem Fr.ch {d : Nat} {W N c : Int32} {g g1 : AHp} (x : Fr d W N c g) (h : Ch (Pd (d + 1)) g g1) : Fr d W N c g1 := by
  obtain ⟨p1, p2, p3, _⟩ := pd_f d
  unfold Fr at x ⊢
  rw [h.i p1, h.i p2, h.i p3]; exact x
theorem sg_sz {ty : Nat → Int32} {n p : Nat} (h : p < n) : sz ty n p = sg ty n p := by unfold sz sg; rw [if_pos h, if_pos h]
section RM1
variable {ty : Nat → Int32} {n p d : Nat} {g : AHp} {W N c : Int32}
theorem TM.at (x : TM ty n p d g) {q : Nat} (hq : q ≤ n) : TM ty n q d (sI g 70 4 (nI q)) := by
  obtain ⟨⟨x1, x2, x3, x4⟩, ⟨x5, x6⟩, x7⟩ := x
  exact ⟨⟨rfl, x2, x3, x4⟩, ⟨hq, x6⟩, x7⟩
theorem TM.ch {P : Nat → Nat → Bool} {g1 : AHp} (x : TM ty n p d g) (h : Ch P g g1) (h1 : P 70 4 = false ∧ P 70 5 = false ∧ P 70 6 = false ∧ P 70 16 = false) (h2 : ∀ i, P 71 i = false) : TM ty n p d g1 := by
  unfold TM at x ⊢
  rw [h.i h1.1, h.i h1.2.1, h.i h1.2.2.1, h.i h1.2.2.2, h.r h2]; exact x
theorem hereM (x : TM ty n p d g) : m_X12_here g = some (sz ty n p, g) := by
  obtain ⟨⟨x1, x2, x3, x4⟩, ⟨x5, x6, _⟩, x7⟩ := x
  unfold m_X12_here sz
  rw [x1, x2]
  by_cases h : p < n
  · rw [if_neg (nI_ge h (by omega)), gd_pos (inb_nI (by omega) (by omega)), nI_clamp (by omega), if_pos h, x7 p h]
  · rw [if_pos (nI_le (by omega) (by omega)), if_neg h]
theorem wrongsM (x : hI g 70 6 = 0) (k : Int32) (p : Nat) : m_X12_wrongs k (nI p) g = some ((), sI g 70 6 (flt k p)) := by
  unfold m_X12_wrongs
  rw [x, if_pos (by decide), lt_eq]; rfl
theorem goodM (x : hI g 70 6 = 0) : m_X12_isGood g = some (1, g) := by unfold m_X12_isGood; rw [if_pos x]
theorem badM {F : Int32} (x : hI g 70 6 = F) (hF : ¬ F = 0) : m_X12_isGood g = some (0, g) := by unfold m_X12_isGood; rw [x, if_neg hF]
theorem rep26 (b : Int32) (h : AHp) : ∀ (d i f : Nat), i + d = 25 → 1 ≤ i → d < f → m_X12_repeated_26 f b (plJ b (i - 1)) (nI i) h = some (plJ b 24, h) := by
  intro d
  induction d with
  | zero =>
    intro i f hi h1 hf
    obtain ⟨f, rfl⟩ : ∃ a, f = a + 1 := ⟨f - 1, by omega⟩
    have : i = 25 := by omega
    subst this
    rw [m_X12_repeated_26, if_pos (by decide)]
  | succ d ih =>
    intro i f hi h1 hf
    obtain ⟨f, rfl⟩ : ∃ a, f = a + 1 := ⟨f - 1, by omega⟩
    rw [m_X12_repeated_26, if_neg (show ¬ 24 < nI i from nI_nlt (a := 24) (b := i) (by omega) (by omega)), behindM, bd_some, lt_eq, lt_eq, nI_1]
    have := ih (i + 1) f (by omega) (by omega) (by omega)
    rw [show i + 1 - 1 = (i - 1) + 1 by omega] at this
    exact this
theorem rep77 (b : Int32) (h : AHp) {c : Nat} (hc : 50 ≤ c ∧ c ≤ 57) : ∀ (d i f : Nat), i + d = c - 48 → 1 ≤ i → d < f → m_X12_repeated_77 f b (nI c) (rpJ b (i - 1)) (nI i) h = some (rpJ b (c - 49), h) := by
  have ec : nI c - 48 = nI (c - 48) := pk_sub (a := c) (b := 48) (by omega)
  intro d
  induction d with
  | zero =>
    intro i f hi h1 hf
    obtain ⟨f, rfl⟩ : ∃ a, f = a + 1 := ⟨f - 1, by omega⟩
    rw [m_X12_repeated_77, ec, if_pos (nI_le (by omega) (by omega)), show i - 1 = c - 49 by omega]
  | succ d ih =>
    intro i f hi h1 hf
    obtain ⟨f, rfl⟩ : ∃ a, f = a + 1 := ⟨f - 1, by omega⟩
    rw [m_X12_repeated_77, ec, if_neg (nI_ge (by omega) (by omega)), behindM, bd_some, lt_eq, nI_1]
    have := ih (i + 1) f (by omega) (by omega) (by omega)
    rw [show i + 1 - 1 = (i - 1) + 1 by omega] at this
    exact this
theorem tmS_msk {b : Int32} (hb : msk24 b) : msk24 (tmS ty n b p).1 := by
  unfold tmS
  split
  · exact plJ_msk hb 23
  · split
    · exact rpJ_msk hb _
    · exact hb
theorem repM (x : TM ty n p d g) {b : Int32} (hb : msk24 b) : ∃ g1, m_X12_repeated b g = some ((tmS ty n b p).1, g1) ∧ TM ty n (tmS ty n b p).2 d g1 ∧ p ≤ (tmS ty n b p).2 ∧ Ch (fun k i => k == 70 && i == 4) g g1 := by
  have hpn := x.2.1
  unfold m_X12_repeated
  rw [hereM x, bd_some]
  by_cases hp : p < n
  · unfold tmS
    rw [sg_sz hp]
    by_cases h : sg ty n p = 43
    · rw [if_pos h, if_pos h, lt_eq, x.1.1, nI_1]
      refine ⟨sI g 70 4 (nI (p + 1)), ?_, x.at (by omega), by simp only []; omega, Ch.rf.sI (by rfl)⟩
      rw [show m_X12_repeated_26 FU b b 1 (sI g 70 4 (nI (p + 1))) = _ from rep26 b (sI g 70 4 (nI (p + 1))) 24 1 FU (by omega) (by omega) (by unfold FU; omega), plJ_24 hb]
    · rw [if_neg h, if_neg h, liesI, bd_some]
      by_cases h2 : 50 ≤ (sg ty n p).toInt ∧ (sg ty n p).toInt ≤ 57
      · obtain ⟨c, ec, hc1, hc2⟩ := nat_in (x := sg ty n p) (lo := 50) (hi := 57) h2
        rw [b2i_t (by exact h2), if_neg one_ne, if_pos h2, lt_eq, x.1.1, nI_1, ec, nI_clamp (by omega)]
        exact ⟨sI g 70 4 (nI (p + 1)), rep77 b (sI g 70 4 (nI (p + 1))) ⟨hc1, hc2⟩ (c - 49) 1 FU (by omega) (by omega) (by unfold FU; omega), x.at (by omega), by simp only []; omega, Ch.rf.sI (by rfl)⟩
      · rw [b2i_f (by exact h2), if_pos rfl, if_neg h2]
        exact ⟨g, rfl, x, Nat.le_refl _, Ch.rf⟩
  · have e1 : sz ty n p = 0 := by unfold sz; rw [if_neg hp]
    have e2 : sg ty n p = -1 := by unfold sg; rw [if_neg hp]
    unfold tmS
    rw [e1, e2, if_neg (by decide), liesI, bd_some, b2i_f (by decide), if_pos rfl, if_neg (by decide), if_neg (by decide)]
    exact ⟨g, rfl, x, Nat.le_refl _, Ch.rf⟩
theorem c704 {g g1 : AHp} (h : Ch (fun k i => k == 70 && i == 4) g g1) (d : Nat) : Ch (Pd d) g g1 := h.mono (fun k i hp => by
  simp only [Bool.or_eq_false_iff, Bool.and_eq_false_iff, beq_eq_false_iff_ne] at hp ⊢; omega)
theorem addsM (x : TM ty n p d g) (fr : Fr d W N c g) {b : Int32} (hb : msk24 b) : ∃ g1, m_X12_adds b g = some ((), g1) ∧ TM ty n (tmS ty n b p).2 d g1 ∧ Fr d W (jn N (tmS ty n b p).1) 1 g1 ∧ Ch (Pd d) g g1 ∧ p ≤ (tmS ty n b p).2 := by
  obtain ⟨g1, e1, x1, l1, c1⟩ := repM x hb
  have hd := x.2.1.2.2
  have gi : inb (nI d) 7 := inb_nI (by omega) (by omega)
  have ec : (nI d).toNatClampNeg = d := nI_clamp (by omega)
  generalize (tmS ty n b p).1 = y at *
  generalize (tmS ty n b p).2 = q at *
  have c2 : Ch (fun k i => (k == 74 || k == 76) && i == d) g1 (sI (sI g1 74 d (jn N y)) 76 d 1) := (Ch.rf.sI (by simp)).sI (by simp)
  have f1 : Fr d W N c g1 := by
    unfold Fr at fr ⊢
    rw [c1.i (k := 73) (i := d) rfl, c1.i (k := 74) (i := d) rfl, c1.i (k := 76) (i := d) rfl]; exact fr
  refine ⟨sI (sI g1 74 d (jn N y)) 76 d 1, ?_, x1.ch c2 (by simp) (fun i => by simp), ⟨?_, ?_, ?_⟩, (c704 c1 d).trans (c2.mono (fun k i hp => ?_)), l1⟩
  · unfold m_X12_adds
    have e74 : hI g 74 (nI d).toNatClampNeg = N := by rw [ec]; exact fr.2.1
    rw [x.1.2.2.2, gd_pos gi, e1, bd_some, e74, behindM, bd_some, gd_pos gi, lt_eq, hI_sI, if_neg (by omega), x1.1.2.2.2, gd_pos gi, ec, vb1, lt_eq]
  · rw [hI_sI, if_neg (by omega), hI_sI, if_neg (by omega)]; exact f1.1
  · rw [hI_sI, if_neg (by omega), hI_sI, if_pos ⟨rfl, rfl⟩]
  · rw [hI_sI, if_pos ⟨rfl, rfl⟩]
  · simp only [Bool.or_eq_false_iff, Bool.and_eq_false_iff, beq_eq_false_iff_ne, ble_f] at hp ⊢; omega
theorem ends21 (hd : hI g 70 16 = nI d) (h6 : d ≤ 6) (fr : Fr d W N c g) : ∃ g1, m_X12_endsWay_21 g = some ((), g1) ∧ Fr d (W ||| N) 1 0 g1 ∧ Ch (fun k i => (k == 73 || k == 74 || k == 76) && i == d) g g1 := by
  have gi : inb (nI d) 7 := inb_nI (by omega) (by omega)
  have ec : (nI d).toNatClampNeg = d := nI_clamp (by omega)
  refine ⟨sI (sI (sI g 73 d (W ||| N)) 74 d 1) 76 d 0, ?_, ⟨?_, ?_, ?_⟩, ((Ch.rf.sI (by simp)).sI (by simp)).sI (by simp)⟩
  · unfold m_X12_endsWay_21
    rw [hd, gd_pos gi, gd_pos gi, gd_pos gi, ec, fr.1, fr.2.1, lt_eq, hI_sI, if_neg (by omega), hd, gd_pos gi, ec, lt_eq, hI_sI, if_neg (by omega), hI_sI, if_neg (by omega), hd, gd_pos gi, ec, vb0, lt_eq]
  · rw [hI_sI, if_neg (by omega), hI_sI, if_neg (by omega), hI_sI, if_pos ⟨rfl, rfl⟩]
  · rw [hI_sI, if_neg (by omega), hI_sI, if_pos ⟨rfl, rfl⟩]
  · rw [hI_sI, if_pos ⟨rfl, rfl⟩]
theorem frd_pd {g g1 : AHp} (h : Ch (fun k i => (k == 73 || k == 74 || k == 76) && i == d) g g1) : Ch (Pd d) g g1 := h.mono (fun k i hp => by
  simp only [Bool.or_eq_false_iff, Bool.and_eq_false_iff, beq_eq_false_iff_ne, ble_f] at hp ⊢; omega)
theorem endsM (x : TM ty n p d g) (fr : Fr d W N c g) (hc : ¬ c = 0) : ∃ g1, m_X12_endsWay g = some ((), g1) ∧ TM ty n p d g1 ∧ Fr d (W ||| N) 1 0 g1 ∧ Ch (Pd d) g g1 := by
  have hd := x.2.1.2.2
  obtain ⟨g1, e1, f1, c1⟩ := ends21 x.1.2.2.2 hd fr
  refine ⟨g1, ?_, x.ch c1 (by simp) (fun i => by simp), f1, frd_pd c1⟩
  unfold m_X12_endsWay
  rw [x.1.2.2.2, gd_pos (inb_nI (by omega) (by omega)), nI_clamp (by omega), fr.2.2, if_neg hc, e1]
/-- a way without an item -/
theorem endsF (x : TM ty n p d g) (fr : Fr d W N 0 g) : ∃ g1, m_X12_endsWay g = some ((), g1) ∧ hI g1 70 6 = flt 1 p ∧ Ch (Pd d) g g1 := by
  have hd := x.2.1.2.2
  have f1 : Fr d W N 0 (sI g 70 6 (flt 1 p)) := fr
  obtain ⟨g1, e1, _, c1⟩ := ends21 (g := sI g 70 6 (flt 1 p)) (d := d) (by rw [hI_sI, if_neg (by omega)]; exact x.1.2.2.2) hd f1
  refine ⟨g1, ?_, ?_, (Ch.rf.sI (by simp)).trans (frd_pd c1)⟩
  · unfold m_X12_endsWay
    rw [x.1.2.2.2, gd_pos (inb_nI (by omega) (by omega)), nI_clamp (by omega), fr.2.2, if_pos rfl, x.1.1, wrongsM x.1.2.2.1, bd_some, e1]
  · rw [c1.i (k := 70) (i := 6) rfl, hI_sI, if_pos ⟨rfl, rfl⟩]
/-! the loop over signs -/
theorem t58_go (x : TM ty n p d g) (hp : p < n) (f : Nat) (X : Int32) : m_X12_thing_58 (f + 1) X g = bd (m_X12_sign g) (fun _ h => m_X12_thing_58 f X h) := by
  have := x.2.1
  rw [m_X12_thing_58, goodM x.1.2.2.1, bd_some, if_neg one_ne, x.1.1, x.1.2.1, if_neg (nI_ge hp (by omega))]
theorem t83_bad {F : Int32} (x : hI g 70 6 = F) (hF : ¬ F = 0) (X : Int32) : m_X12_thing_83 X g = some (F, g) := by
  unfold m_X12_thing_83 m_X12_thing_117
  rw [badM x hF, bd_some, if_pos rfl, badM x hF, bd_some, if_pos rfl, badM x hF, bd_some, if_pos rfl, x]
theorem t58_bad {F : Int32} (x : hI g 70 6 = F) (hF : ¬ F = 0) (f : Nat) (X : Int32) : m_X12_thing_58 (f + 1) X g = some (F, g) := by
  rw [m_X12_thing_58, badM x hF, bd_some, if_pos rfl, t83_bad x hF]
theorem t58_end (x : TM ty n p d g) (hp : ¬ p < n) (f : Nat) (X : Int32) : m_X12_thing_58 (f + 1) X g = m_X12_thing_83 X g := by
  have := x.2.1
  rw [m_X12_thing_58, goodM x.1.2.2.1, bd_some, if_neg one_ne, x.1.1, x.1.2.1, if_pos (nI_le (by omega) (by omega))]
theorem t117_bad {F : Int32} (x : hI g 70 6 = F) (hF : ¬ F = 0) (X : Int32) : m_X12_thing_117 X g = some (F, g) := by
  unfold m_X12_thing_117
  rw [badM x hF, bd_some, if_pos rfl, x]
/-- the text ends inside a bracket -/
theorem t83_open (x : TM ty n p d g) (hd : 0 < d) (X : Int32) : m_X12_thing_83 X g = some (flt 1 p, sI g 70 6 (flt 1 p)) := by
  have := x.2.1
  have hne : ¬ flt 1 p = 0 := flt_ne (k := 1) (by omega) (by omega) (by omega)
  unfold m_X12_thing_83
  rw [goodM x.1.2.2.1, bd_some, if_neg one_ne, x.1.2.2.2, if_neg (nI_nle hd (by omega)), x.1.1, wrongsM x.1.2.2.1, bd_some, badM (F := flt 1 p) (by rw [hI_sI, if_pos ⟨rfl, rfl⟩]) hne, bd_some, if_pos rfl, t117_bad (F := flt 1 p) (by rw [hI_sI, if_pos ⟨rfl, rfl⟩]) hne]
end RM1
