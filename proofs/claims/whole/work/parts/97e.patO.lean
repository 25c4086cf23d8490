section RM4
variable {ty : Nat → Int32} {n d : Nat} {X : Int32} {srec : Nat → Nat → RSp}
theorem wayLM (hrec : d < 6 → RecM ty n X srec (d + 1)) : ∀ (sf f p : Nat) (acc W : Int32) (g : AHp), TM ty n p d g → Fr d W acc 1 g → msk24 acc → n - p < sf → n - p + 1 < f → OutY ty n p d W X f g (waS ty n srec d sf acc p) := by
  intro sf
  induction sf with
  | zero => intro f p acc W g _ _ _ h; omega
  | succ sf ih =>
    intro f p acc W g x fr hm hsf hf
    rw [waS]
    cases hb : bgI (sg ty n p) with
    | false =>
      rw [if_neg (show ¬ (false = true) by decide)]
      exact ⟨f, g, rfl, hf, x, fr, Ch.rf, hm, Nat.le_refl _, hb⟩
    | true =>
      rw [if_pos rfl]
      have hit := itemM hrec x fr hb hf
      cases hr : itS ty n srec d p with
      | inl F => rw [hr] at hit; rw [rsb_l]; exact hit
      | inr y =>
        obtain ⟨b, q⟩ := y
        rw [hr] at hit
        obtain ⟨f', g1, e1, hf1, x1, f1, c1, m1, l1⟩ := hit
        simp only [] at hf1 x1 f1 m1 l1
        rw [rsb_r]
        have hpn := x1.2.1
        have h2 := ih f' q (jn acc b) W g1 x1 f1 (jn_msk _ _) (by omega) hf1
        cases hr2 : waS ty n srec d sf (jn acc b) q with
        | inl F =>
          rw [hr2] at h2
          obtain ⟨g2, e2, c2⟩ := h2
          exact ⟨g2, by rw [e1, e2], (pd_up (by omega) c1).trans c2⟩
        | inr y =>
          rw [hr2] at h2
          obtain ⟨f2, g2, e2, hf2, x2, fr2, c2, m2, l2, b2⟩ := h2
          exact ⟨f2, g2, by rw [e1, e2], hf2, x2, fr2, c1.trans c2, m2, by omega, b2⟩
theorem wayM (hrec : d < 6 → RecM ty n X srec (d + 1)) {f p : Nat} {W : Int32} {g : AHp} (x : TM ty n p d g) (fr : Fr d W 1 0 g) (hf : n - p + 1 < f) : OutY ty n p d W X f g (wyS ty n srec d p) := by
  unfold wyS
  cases hb : bgI (sg ty n p) with
  | false =>
    obtain ⟨b1, b2, b3⟩ := bgI_f hb
    have : itS ty n srec d p = .inl (flt 1 p) := by
      unfold itS wrd
      rw [if_neg (by rw [decide_eq_true_iff]; exact b1), if_neg (fun h => h.elim b2 b3)]
    rw [this, rsb_l]
    exact noItemM x fr hb hf
  | true =>
    have hit := itemM hrec x fr hb hf
    cases hr : itS ty n srec d p with
    | inl F => rw [hr] at hit; rw [rsb_l]; exact hit
    | inr y =>
      obtain ⟨b, q⟩ := y
      rw [hr] at hit
      obtain ⟨f', g1, e1, hf1, x1, f1, c1, m1, l1⟩ := hit
      simp only [] at hf1 x1 f1 m1 l1
      rw [jn_one m1] at f1
      rw [rsb_r]
      have hpn := x1.2.1
      have h2 := wayLM hrec 300 f' q b W g1 x1 f1 m1 (by omega) hf1
      cases hr2 : waS ty n srec d 300 b q with
      | inl F =>
        rw [hr2] at h2
        obtain ⟨g2, e2, c2⟩ := h2
        exact ⟨g2, by rw [e1, e2], (pd_up (by omega) c1).trans c2⟩
      | inr y =>
        rw [hr2] at h2
        obtain ⟨f2, g2, e2, hf2, x2, fr2, c2, m2, l2, b2⟩ := h2
        exact ⟨f2, g2, by rw [e1, e2], hf2, x2, fr2, c1.trans c2, m2, by omega, b2⟩
theorem waysLM (hrec : d < 6 → RecM ty n X srec (d + 1)) : ∀ (sf f p : Nat) (acc W N : Int32) (g : AHp), TM ty n p d g → Fr d W N 1 g → W ||| N = acc → msk24 acc → bgI (sg ty n p) = false → n - p < sf → n - p + 1 < f → OutW ty n p d X f g (wvS ty n srec d sf acc p) := by
  intro sf
  induction sf with
  | zero => intro f p acc W N g _ _ _ _ _ h; omega
  | succ sf ih =>
    intro f p acc W N g x fr ha hm hb hsf hf
    rw [wvS]
    by_cases h124 : sg ty n p = 124
    · rw [if_pos h124]
      have hp : p < n := sg_lt (by rw [h124]; decide)
      have hpn := x.2.1
      obtain ⟨f, rfl⟩ : ∃ a, f = a + 1 := ⟨f - 1, by omega⟩
      obtain ⟨g1, e1, x1, f1, c1⟩ := endsM x fr one_ne
      obtain ⟨b1, b2, b3⟩ := bgI_f hb
      have hgo : m_X12_thing_58 (f + 1) X g = m_X12_thing_58 f X (sI g1 70 4 (nI (p + 1))) := by
        rw [t58_go x hp]
        unfold m_X12_sign
        rw [hereM x, bd_some, sg_sz hp, liesI, bd_some, b2i_f (by exact b1), if_pos rfl, if_neg b2, if_neg b3, if_pos h124, e1, bd_some, lt_eq, x1.1.1, nI_1, bd_some]
      have x2 : TM ty n (p + 1) d (sI g1 70 4 (nI (p + 1))) := x1.at (by omega)
      have f2 : Fr d (W ||| N) 1 0 (sI g1 70 4 (nI (p + 1))) := f1
      have c2 : Ch (Pd d) g (sI g1 70 4 (nI (p + 1))) := c1.sI (by simp)
      have hy := wayM hrec x2 f2 (f := f) (by omega)
      cases hr : wyS ty n srec d (p + 1) with
      | inl F =>
        rw [hr] at hy
        obtain ⟨g2, e2, c3⟩ := hy
        rw [rsb_l]
        exact ⟨g2, by rw [hgo, e2], (pd_up (by omega) c2).trans c3⟩
      | inr y =>
        obtain ⟨b, q⟩ := y
        rw [hr] at hy
        obtain ⟨f3, g3, e3, hf3, x3, fr3, c3, m3, l3, b3⟩ := hy
        simp only [] at hf3 x3 fr3 m3 l3 b3
        rw [rsb_r]
        rw [ha] at fr3
        have hqn := x3.2.1
        have h2 := ih f3 q (acc ||| b) acc b g3 x3 fr3 rfl (or_msk hm m3) b3 (by omega) hf3
        cases hr2 : wvS ty n srec d sf (acc ||| b) q with
        | inl F =>
          rw [hr2] at h2
          obtain ⟨g4, e4, c4⟩ := h2
          exact ⟨g4, by rw [hgo, e3, e4], ((pd_up (by omega) c2).trans (pd_up (by omega) c3)).trans c4⟩
        | inr y =>
          rw [hr2] at h2
          obtain ⟨f4, g4, W4, N4, e4, hf4, x4, fr4, w4, c4, m4, l4, b4, n4⟩ := h2
          exact ⟨f4, g4, W4, N4, by rw [hgo, e3, e4], hf4, x4, fr4, w4, (c2.trans c3).trans c4, m4, by omega, b4, n4⟩
    · rw [if_neg h124]
      exact ⟨f, g, W, N, rfl, hf, x, fr, ha, Ch.rf, hm, Nat.le_refl _, hb, h124⟩
theorem or0l (x : Int32) : 0 ||| x = x := tb_ext (fun k hk => by rw [tb_or, tb_zero, Bool.false_or])
theorem waysM1 (hrec : d < 6 → RecM ty n X srec (d + 1)) {f p : Nat} {g : AHp} (x : TM ty n p d g) (fr : Fr d 0 1 0 g) (hf : n - p + 1 < f) : OutW ty n p d X f g (wwS ty n srec d p) := by
  unfold wwS
  have hy := wayM hrec x fr hf
  cases hr : wyS ty n srec d p with
  | inl F => rw [hr] at hy; rw [rsb_l]; exact hy
  | inr y =>
    obtain ⟨b, q⟩ := y
    rw [hr] at hy
    obtain ⟨f3, g3, e3, hf3, x3, fr3, c3, m3, l3, b3⟩ := hy
    simp only [] at hf3 x3 fr3 m3 l3 b3
    rw [rsb_r]
    have hqn := x3.2.1
    have h2 := waysLM hrec 300 f3 q b 0 b g3 x3 fr3 (or0l b) m3 b3 (by omega) hf3
    cases hr2 : wvS ty n srec d 300 b q with
    | inl F =>
      rw [hr2] at h2
      obtain ⟨g4, e4, c4⟩ := h2
      exact ⟨g4, by rw [e3, e4], (pd_up (by omega) c3).trans c4⟩
    | inr y =>
      rw [hr2] at h2
      obtain ⟨f4, g4, W4, N4, e4, hf4, x4, fr4, w4, c4, m4, l4, b4, n4⟩ := h2
      exact ⟨f4, g4, W4, N4, by rw [e3, e4], hf4, x4, fr4, w4, c3.trans c4, m4, by omega, b4, n4⟩
end RM4
theorem WS_M {ty : Nat → Int32} {n : Nat} {X : Int32} : ∀ (k o : Nat), o ≤ 6 → 7 ≤ k + o → RecM ty n X (WS ty n k) o := by
  intro k
  induction k with
  | zero => intro o h1 h2; omega
  | succ k ih =>
    intro o h1 h2 p g f x fr hf
    rw [WS]
    exact waysM1 (fun h => ih (o + 1) (by omega) (by omega)) x fr hf
/-! thing: both -/
/-- what a pattern comes to: a fault, or the lengths -/
def patS (ty : Nat → Int32) (n : Nat) : Int32 ⊕ Int32 := match WS ty n 10 0 0 with
  | .inl F => .inl F
  | .inr y => if y.2 < n then .inl (flt 1 y.2) else .inr (y.1 &&& 33554430)
theorem readPatC {ty : Nat → Int32} {n : Nat} (hn : 1 ≤ n ∧ n ≤ 60) {m : Nat} (hm : n ≤ m ∧ m ≤ 220) {g : AHp} (hfed : hI g 1 1 = nI m) (hty : ∀ i, i < n → hI g 2 i = ty i) :
    ∃ v g1, m_X4_readPattern (nI n) g = some (v, g1) ∧ Ch Pt g g1 ∧ (match patS ty n with
      | .inl F => v = F ∧ F.toInt < 0
      | .inr b => v = b) := by
  have c0 : Ch Pt g (sI (sI (sI g 1 2 0) 1 3 (nI n)) 1 4 0) := ((Ch.rf.sI (by rfl)).sI (by rfl)).sI (by rfl)
  have x0 : TxC ty n 0 (sI (sI (sI g 1 2 0) 1 3 (nI n)) 1 4 0) := ⟨⟨rfl, rfl, rfl⟩, ⟨by omega, by omega⟩, hty⟩
  have es : m_X8_startText (nI n) g = some ((), sI (sI (sI g 1 2 0) 1 3 (nI n)) 1 4 0) := by
    unfold m_X8_startText
    have e11 : hI (sI g 1 2 0) 1 1 = nI m := hfed
    rw [lt_eq, lt_eq, lt_eq, e11, if_neg (nI_nlt (by omega) (by omega))]
  generalize sI (sI (sI g 1 2 0) 1 3 (nI n)) 1 4 0 = g0 at c0 x0 es
  obtain ⟨v, g1, e1, c1, r1⟩ := readWaysC (ty := ty) hn.2 10 0 (by omega) (by omega) 0 g0 x0
  unfold m_X4_readPattern patS
  rw [es, bd_some, show m_X4_readWays 10 0 g0 = _ from e1, bd_some]
  have sound : ∀ {F : Int32} {g2 : AHp}, hI g2 1 4 = F → ¬ F = 0 → m_X8_isSound g2 = some (0, g2) := fun h1 h2 => by
    unfold m_X8_isSound; rw [h1, if_neg h2]
  cases hr : WS ty n 10 0 0 with
  | inl F =>
    rw [hr] at r1
    obtain ⟨r3, r4⟩ := r1
    have : m_X8_endText g1 = some ((), g1) := by
      unfold m_X8_endText
      rw [failX r3 (neg_ne r4), bd_some, ite_self]
    rw [this, bd_some, sound r3 (neg_ne r4), bd_some, if_pos rfl]
    exact ⟨_, g1, rfl, c0.trans c1, r3, r4⟩
  | inr y =>
    obtain ⟨b, q⟩ := y
    rw [hr] at r1
    obtain ⟨r3, r4, r5⟩ := r1
    simp only [] at r3 r4 r5
    have hq := r4.2.1
    unfold m_X8_endText
    rw [r4.1.1, r4.1.2.1]
    by_cases hqn : q < n
    · obtain ⟨g2, e2, h2, c2⟩ := failC r4 1
      have hng : (flt 1 q).toInt < 0 := flt_neg (k := 1) (by omega) (by omega) (by omega)
      rw [if_neg (nI_ge hqn (by omega)), e2, bd_some, bd_some, sound h2 (neg_ne hng), bd_some, if_pos rfl]
      simp only [if_pos hqn]
      exact ⟨_, g2, rfl, (c0.trans c1).trans c2, h2, hng⟩
    · rw [if_pos (nI_le (by omega) (by omega)), bd_some]
      unfold m_X8_isSound
      rw [if_pos r4.1.2.2, bd_some, if_neg one_ne]
      simp only [if_neg hqn]
      exact ⟨_, g1, rfl, c0.trans c1, by rw [r3]⟩
theorem and30 (x : Int32) : 0 ≤ (x &&& 33554430).toInt := by
  have h : (x &&& 33554430).toBitVec.toNat ≤ 33554430 := by
    rw [Int32.toBitVec_and, BitVec.toNat_and]
    exact Nat.and_le_right
  have e : (x &&& 33554430).toInt = ((x &&& 33554430).toBitVec.toNat : Int) := by
    show (x &&& 33554430).toBitVec.toInt = _
    rw [BitVec.toInt_eq_toNat_of_lt (by omega)]
  rw [e]; omega
theorem and30_30 (x : Int32) : x &&& 33554430 &&& 33554430 = x &&& 33554430 := tb_ext (fun k hk => by
  rw [tb_and, tb_and, Bool.and_assoc, Bool.and_self])
abbrev PtC : Nat → Nat → Bool := fun k i => k == 1 && (i == 1 || i == 2 || i == 3 || i == 4)
abbrev PtM : Nat → Nat → Bool := fun k i => (k == 70 && (i == 1 || i == 4 || i == 5 || i == 6 || i == 16)) || (Nat.ble 73 k && Nat.ble k 76)
/-- what a pattern's reading leaves: a fault, or how many lengths, which it writes down in row w at place t -/
def OutT (ty : Nat → Int32) (n w t : Nat) (o : Option (Int32 × AHp)) (g : AHp) : Prop := match patS ty n with
  | .inl F => o = some (F, g)
  | .inr b => o = some (nI (pcI b), sI g w t b) ∧ b &&& 33554430 = b
theorem pat_in {ty : Nat → Int32} {n : Nat} {b : Int32} (h : patS ty n = .inr b) : b &&& 33554430 = b ∧ 0 ≤ b.toInt := by
  unfold patS at h
  cases hr : WS ty n 10 0 0 with
  | inl F => rw [hr] at h; cases h
  | inr y =>
    rw [hr] at h
    simp only [] at h
    by_cases hq : y.2 < n
    · rw [if_pos hq] at h; cases h
    · rw [if_neg hq] at h
      cases h
      exact ⟨and30_30 _, and30 _⟩
theorem thingC {ty : Nat → Int32} {n : Nat} (hn : 1 ≤ n ∧ n ≤ 60) {m : Nat} (hm : n ≤ m ∧ m ≤ 220) {t : Nat} (ht : t ≤ 11) {g : AHp} (hfed : hI g 1 1 = nI m) (hty : ∀ i, i < n → hI g 2 i = ty i) :
    ∃ g1, Ch PtC g g1 ∧ hI g1 1 1 = 0 ∧ OutT ty n 4 t (m_X11_thing (nI t) (nI n) g) g1 := by
  have htI : 0 ≤ (nI t).toInt ∧ (nI t).toInt ≤ 11 := by rw [nI_toInt (by omega)]; omega
  obtain ⟨v, g1, e1, c1, r1⟩ := readPatC hn hm hfed hty
  have eT : m_X11_isOnTape (nI n) 60 1 g = some (if n * 1 ≤ m then 1 else 0, g) := onTape_n (lim := 60) (grp := 1) hfed hm.2 hn.1 hn.2 (by omega) (by omega)
  rw [if_pos (by omega)] at eT
  refine ⟨sI g1 1 1 0, (c1.mono (fun k i hp => ?_)).sI (by rfl), rfl, ?_⟩
  · simp only [Bool.and_eq_false_iff, Bool.or_eq_false_iff, beq_eq_false_iff_ne] at hp ⊢; omega
  unfold OutT m_X11_thing
  rw [isThingC, bd_some, b2i_t htI, if_neg one_ne, eT, bd_some, if_neg one_ne, e1, bd_some, clearC, bd_some]
  cases hp : patS ty n with
  | inl F =>
    rw [hp] at r1
    obtain ⟨r2, r3⟩ := r1
    simp only []
    rw [r2, if_neg (by rw [i32_le]; simp only [tIall]; omega)]
  | inr b =>
    rw [hp] at r1
    obtain ⟨p1, p2⟩ := pat_in hp
    have r2 : v = b := r1
    simp only []
    refine ⟨?_, p1⟩
    unfold m_X9_setSizes
    rw [r2, if_pos (by rw [i32_le]; simp only [tIall]; omega), isThingC, bd_some, b2i_t htI, if_neg one_ne, gd_pos (inb_nI (by omega) (by omega)), nI_clamp (by omega), lt_eq, bd_some, bitCountC, bd_some]
/-- behind a whole pattern at the ground: more text is a fault -/
theorem stop0M {ty : Nat → Int32} {n p : Nat} {g : AHp} {X : Int32} {f : Nat} (x : TM ty n p 0 g) (hp : p < n) (hb : bgI (sg ty n p) = false) (h124 : ¬ sg ty n p = 124) (hf : n - p + 1 < f) : ∃ g1, m_X12_thing_58 f X g = some (flt 1 p, g1) ∧ Ch (Pd 0) g g1 := by
  have hpn := x.2.1
  have hne : ¬ flt 1 p = 0 := flt_ne (k := 1) (by omega) (by omega) (by omega)
  obtain ⟨f, rfl⟩ : ∃ a, f = a + 1 := ⟨f - 1, by omega⟩
  obtain ⟨f, rfl⟩ : ∃ a, f = a + 1 := ⟨f - 1, by omega⟩
  obtain ⟨b1, b2, b3⟩ := bgI_f hb
  have hz : hI (sI g 70 6 (flt 1 p)) 70 6 = flt 1 p := by rw [hI_sI, if_pos ⟨rfl, rfl⟩]
  have key : m_X12_sign g = some ((), sI g 70 6 (flt 1 p)) := by
    unfold m_X12_sign
    rw [hereM x, bd_some, sg_sz hp, liesI, bd_some, b2i_f (by exact b1), if_pos rfl, if_neg b2, if_neg b3, if_neg h124]
    by_cases h41 : sg ty n p = 41
    · rw [if_pos h41, closesBad x (Or.inl rfl), bd_some]
    · rw [if_neg h41]
      by_cases h93 : sg ty n p = 93
      · rw [if_pos h93, closesBad x (Or.inl rfl), bd_some]
      · rw [if_neg h93, x.1.1, wrongsM x.1.2.2.1, bd_some]
  rw [t58_go x hp, key, bd_some, t58_bad hz hne]
  exact ⟨_, rfl, Ch.rf.sI (by simp)⟩
theorem pd0_tM {g g1 : AHp} (c : Ch (Pd 0) g g1) : Ch PtM g g1 := c.mono (fun k i hp => by
  simp only [Bool.or_eq_false_iff, Bool.and_eq_false_iff, beq_eq_false_iff_ne, ble_f] at hp ⊢; omega)
theorem thingM {ty : Nat → Int32} {n : Nat} (hn : 1 ≤ n ∧ n ≤ 60) {m : Nat} (hm : n ≤ m ∧ m ≤ 220) {t : Nat} (ht : t ≤ 11) {g : AHp} (h701 : hI g 70 1 = nI m) (hty : ∀ i, i < n → hI g 71 i &&& 255 = ty i) :
    ∃ g1, Ch PtM g g1 ∧ hI g1 70 1 = 0 ∧ OutT ty n 72 t (m_X12_thing (nI t) (nI n) g) g1 := by
  have htI : 0 ≤ (nI t).toInt ∧ (nI t).toInt ≤ 11 := by rw [nI_toInt (by omega)]; omega
  have hnI : 1 ≤ (nI n).toInt ∧ (nI n).toInt ≤ 60 := by rw [nI_toInt (by omega)]; omega
  -- the start
  have hst : ∃ g0, m_X12_thing (nI t) (nI n) g = m_X12_thing_58 FU (nI t) g0 ∧ TM ty n 0 0 g0 ∧ Fr 0 0 1 0 g0 ∧ Ch PtM g g0 ∧ hI g0 70 1 = 0 := by
    refine ⟨sI (sI (sI (sI (sI (sI (sI (sI g 70 1 0) 70 4 0) 70 5 (nI n)) 70 6 0) 70 16 0) 73 0 0) 74 0 1) 76 0 0, ?_, ⟨⟨rfl, rfl, rfl, rfl⟩, ⟨by omega, by omega, by omega⟩, hty⟩, ⟨rfl, rfl, rfl⟩, (((((((Ch.rf.sI (by rfl)).sI (by rfl)).sI (by rfl)).sI (by rfl)).sI (by rfl)).sI (by rfl)).sI (by rfl)).sI (by rfl), rfl⟩
    unfold m_X12_thing
    rw [isThingM, bd_some, b2i_t htI, if_neg one_ne, liesI, bd_some, b2i_t (by exact hnI), if_neg one_ne, h701, if_pos (nI_le (by omega) (by omega)), lt_eq, lt_eq, lt_eq, lt_eq, lt_eq]
    unfold m_X12_begins
    have gi : inb (0 : Int32) 7 := inb_nI (n := 0) (by omega) (by omega)
    rw [gd_pos (by exact gi), lt_eq, gd_pos (by exact gi), lt_eq, gd_pos (by exact gi), lt_eq, bd_some, vb0]
    rfl
  obtain ⟨g0, e0, x0, f0, c0, z0⟩ := hst
  have hw := WS_M (ty := ty) (n := n) (X := nI t) 10 0 (by omega) (by omega) 0 g0 FU x0 f0 (by unfold FU; omega)
  unfold OutT patS
  rw [e0]
  cases hr : WS ty n 10 0 0 with
  | inl F =>
    rw [hr] at hw
    obtain ⟨g1, e1, c1⟩ := hw
    exact ⟨g1, c0.trans (pd0_tM c1), by rw [c1.i (k := 70) (i := 1) rfl, z0], e1⟩
  | inr y =>
    obtain ⟨b, q⟩ := y
    rw [hr] at hw
    obtain ⟨f4, g4, W4, N4, e4, hf4, x4, fr4, w4, c4, m4, l4, b4, n4⟩ := hw
    simp only [] at hf4 x4 w4 m4 l4 b4 n4
    have hqn := x4.2.1
    have z4 : hI g4 70 1 = 0 := by rw [c4.i (k := 70) (i := 1) rfl, z0]
    by_cases hq : q < n
    · obtain ⟨g5, e5, c5⟩ := stop0M (X := nI t) x4 hq b4 n4 hf4
      simp only [if_pos hq]
      exact ⟨g5, (c0.trans (pd0_tM c4)).trans (pd0_tM c5), by rw [c5.i (k := 70) (i := 1) rfl, z4], by rw [e4, e5]⟩
    · obtain ⟨f5, rfl⟩ : ∃ a, f4 = a + 1 := ⟨f4 - 1, by omega⟩
      obtain ⟨g5, e5, x5, fr5, c5⟩ := endsM x4 fr4 one_ne
      simp only [if_neg hq]
      refine ⟨g5, (c0.trans (pd0_tM c4)).trans (pd0_tM c5), by rw [c5.i (k := 70) (i := 1) rfl, z4], ?_, and30_30 _⟩
      rw [e4, t58_end x4 hq]
      unfold m_X12_thing_83 m_X12_thing_117
      have e73 : hI g5 73 (0 : Int32).toNatClampNeg = b := by rw [show (0 : Int32).toNatClampNeg = 0 from rfl, fr5.1, w4]
      rw [goodM x4.1.2.2.1, bd_some, if_neg one_ne, x4.1.2.2.2, if_pos (by decide), goodM x4.1.2.2.1, bd_some, if_neg one_ne, e5, bd_some, goodM x5.1.2.2.1, bd_some, if_neg one_ne, gd_pos (inb_nI (by omega) (by omega)), e73, lt_eq, gd_pos (inb_nI (by omega) (by omega)), nI_clamp (by omega), hI_sI, if_pos ⟨rfl, rfl⟩, sizeOfM, bd_some]
abbrev PTh : Nat → Nat → Bool := fun k i => k == 1 || k == 4 || (k == 70 && (i == 1 || i == 4 || i == 5 || i == 6 || i == 16)) || (Nat.ble 72 k && Nat.ble k 76)
theorem sim_thing {h : AHp} (t n : Int32) (hB : BI h) (hI0 : LI h) : SimL PTh h (m_X11_thing t n) (m_X12_thing t n) := by
  by_cases ht : 0 ≤ t.toInt ∧ t.toInt ≤ 11
  rotate_left
  · refine SimL.same hB hI0 (-1) ?_ ?_
    · unfold m_X11_thing; rw [isThingC, bd_some, b2i_f ht, if_pos rfl]
    · unfold m_X12_thing; rw [isThingM, bd_some, b2i_f ht, if_pos rfl]
  by_cases hn : 1 ≤ n.toInt ∧ n.toInt ≤ 60
  rotate_left
  · refine SimL.same hB hI0 (-1) ?_ ?_
    · unfold m_X11_thing; rw [isThingC, bd_some, b2i_t ht, if_neg one_ne, show m_X11_isOnTape n 60 1 h = some (0, h) from onTape_no (lim := 60) (grp := 1) (by omega) hn, bd_some, if_pos rfl]
    · unfold m_X12_thing; rw [isThingM, bd_some, b2i_t ht, if_neg one_ne, liesI, bd_some, b2i_f (by exact hn), if_pos rfl]
  obtain ⟨t, rfl, -, ht1⟩ := nat_in (lo := 0) (hi := 11) ht
  obtain ⟨n, rfl, hn1, hn2⟩ := nat_in (lo := 1) (hi := 60) hn
  obtain ⟨cl0, cl1, K0, K1, v0, v1, hLR⟩ := id hI0
  obtain ⟨E, xC, xR, ⟨rfl, rfl, rfl, rfl, rfl, rfl⟩, e701⟩ := hB.en hLR
  have hc := E.hc
  by_cases hq : n ≤ E.c
  rotate_left
  · have eT : m_X11_isOnTape (nI n) 60 1 h = some (if n * 1 ≤ E.c then 1 else 0, h) := onTape_n (lim := 60) (grp := 1) xC.2.1 hc hn1 hn2 (by omega) (by omega)
    rw [if_neg (by omega)] at eT
    refine SimL.same hB hI0 (-1) ?_ ?_
    · unfold m_X11_thing; rw [isThingC, bd_some, b2i_t ht, if_neg one_ne, eT, bd_some, if_pos rfl]
    · unfold m_X12_thing; rw [isThingM, bd_some, b2i_t ht, if_neg one_ne, liesI, bd_some, b2i_t (by exact hn), if_neg one_ne, e701, if_neg (nI_ge (by omega) (by omega))]
  obtain ⟨g1, c1, z1, r1⟩ := thingC (ty := E.ty) ⟨hn1, hn2⟩ ⟨hq, hc⟩ ht1 xC.2.1 (fun i hi => xC.2.2.1 i (by omega))
  -- whatever stands behind the class's reading, the reference reads the same
  have hM : ∀ g, (∀ k i, 70 ≤ k → hI g k i = hI h k i) → ∃ g2, Ch PtM g g2 ∧ hI g2 70 1 = 0 ∧ OutT E.ty n 72 t (m_X12_thing (nI t) (nI n) g) g2 := fun g hg =>
    thingM ⟨hn1, hn2⟩ ⟨hq, hc⟩ ht1 (by rw [hg 70 1 (by omega), e701]) (fun i hi => by rw [hg 71 i (by omega)]; exact xR.2.1 i (by omega))
  have fin : ∀ (x : Int32) (h1 h2 : AHp), m_X11_thing (nI t) (nI n) h = some (x, h1) → m_X12_thing (nI t) (nI n) h1 = some (x, h2) → Ch PTh h h2 → hI h2 1 1 = 0 → hI h2 70 1 = 0 → BS h2 → SimL PTh h (m_X11_thing (nI t) (nI n)) (m_X12_thing (nI t) (nI n)) := by
    intro x h1 h2 e1 e2 cc q1 q2 hS
    obtain ⟨a1, a2, a3, a4, a5, a6⟩ := hB
    refine ⟨x, h1, h2, e1, e2, ⟨?_, hS, a3.ch cc (fun _ => rfl) (fun _ => rfl), a4.ch cc ⟨rfl, rfl, rfl⟩ (fun _ => rfl) (fun _ => rfl) (fun _ => rfl) (fun _ => rfl) (fun _ => rfl) (fun _ => rfl), a5.ch cc ⟨rfl, rfl⟩, a6.ch cc ⟨rfl, rfl, rfl, rfl, rfl, rfl, rfl⟩ (fun _ => ⟨rfl, rfl, rfl, rfl, rfl, rfl, rfl, rfl⟩)⟩, ⟨E.cl0, E.cl1, E.K0, E.K1, E.v0, E.v1, hLR.1.pc cc ⟨rfl, rfl⟩ (fun k p1 p2 i => ?_), hLR.2.1.same ?_, hLR.2.2.same ?_⟩, cc⟩
    · unfold BT
      rw [q1, q2]
      exact ⟨rfl, by decide, by decide, fun i hi => by simp only [tIall] at hi; omega⟩
    · simp only [Bool.or_eq_false_iff, Bool.and_eq_false_iff, beq_eq_false_iff_ne, ble_f]; omega
    · exact sameLM.ch cc (fun k p1 p2 i => by simp only [Bool.or_eq_false_iff, Bool.and_eq_false_iff, beq_eq_false_iff_ne, ble_f]; omega)
    · exact sameLM.ch cc (fun k p1 p2 i => by simp only [Bool.or_eq_false_iff, Bool.and_eq_false_iff, beq_eq_false_iff_ne, ble_f]; omega)
  have c1' : Ch PTh h g1 := c1.mono (fun k i hp => by
    simp only [Bool.or_eq_false_iff, Bool.and_eq_false_iff, beq_eq_false_iff_ne, ble_f] at hp ⊢; omega)
  have up : ∀ {g g2 : AHp}, Ch PtM g g2 → Ch PTh g g2 := fun c => c.mono (fun k i hp => by
    simp only [Bool.or_eq_false_iff, Bool.and_eq_false_iff, beq_eq_false_iff_ne, ble_f] at hp ⊢; omega)
  have hi1 : ∀ k i, 70 ≤ k → hI g1 k i = hI h k i := fun k i hk => c1.i (by
    simp only [Bool.and_eq_false_iff, beq_eq_false_iff_ne]; omega)
  have hS := hB.2.1
  unfold OutT at r1 hM
  cases hp : patS E.ty n with
  | inl F =>
    rw [hp] at r1
    simp only [hp] at hM
    obtain ⟨g2, c2, z2, e2⟩ := hM g1 hi1
    have r1' : m_X11_thing (nI t) (nI n) h = some (F, g1) := r1
    refine fin F g1 g2 r1' e2 (c1'.trans (up c2)) (by rw [c2.i (k := 1) (i := 1) rfl, z1]) z2 ?_
    have hS1 : BS g1 := hS.ch c1 (fun _ => rfl) (fun _ => rfl)
    exact hS1.ch c2 (fun _ => rfl) (fun _ => rfl)
  | inr b =>
    rw [hp] at r1
    simp only [hp] at hM
    obtain ⟨r2, r3⟩ := r1
    obtain ⟨g2, c2, z2, e2, -⟩ := hM (sI g1 4 t b) (fun k i hk => by rw [hI_sI, if_neg (by omega)]; exact hi1 k i hk)
    have cc : Ch PTh h (sI g2 72 t b) := ((c1'.sI (by rfl)).trans (up c2)).sI (by rfl)
    refine fin _ _ _ r2 e2 cc (by rw [hI_sI, if_neg (by omega), c2.i (k := 1) (i := 1) rfl, hI_sI, if_neg (by omega), z1]) (by rw [hI_sI, if_neg (by omega), z2]) ?_
    intro i hi
    have e4 : hI (sI g2 72 t b) 4 i = if i = t then b else hI h 4 i := by
      rw [hI_sI, if_neg (by omega), c2.i (k := 4) (i := i) rfl, hI_sI]
      by_cases e : i = t
      · rw [if_pos ⟨rfl, e⟩, if_pos e]
      · rw [if_neg (fun z => e z.2), if_neg e, c1.i (k := 4) (i := i) rfl]
    have e72 : hI (sI g2 72 t b) 72 i = if i = t then b else hI h 72 i := by
      rw [hI_sI]
      by_cases e : i = t
      · rw [if_pos ⟨rfl, e⟩, if_pos e]
      · rw [if_neg (fun z => e z.2), if_neg e, c2.i (k := 72) (i := i) rfl, hI_sI, if_neg (by omega), c1.i (k := 72) (i := i) rfl]
    rw [e4, e72]
    by_cases e : i = t
    · rw [if_pos e, if_pos e]; exact ⟨rfl, r3⟩
    · rw [if_neg e, if_neg e]; exact hS i hi
