section NM2
variable {ty : Nat → Int32} {n : Nat}
theorem ten_c (v s : Int32) : 10 * v + s - 48 = v * 10 + s - 48 := by rw [Int32.mul_comm]
theorem RLx.pl {p cs st op q : Nat} {g : AHp} (x : RLx ty n p cs st op g) (h1 : p ≤ q) (h2 : q ≤ n) : RLx ty n q cs st op (sI g 70 4 (nI q)) := by
  obtain ⟨⟨x1, x2, x3⟩, ⟨x4, x5, x6⟩, ⟨x7, x8, x9, x10⟩, x11⟩ := x
  exact ⟨⟨rfl, x2, x3⟩, ⟨x4, x5, x6⟩, ⟨h2, x8, by omega, x10⟩, x11⟩
theorem RLx.b31 {p cs st op : Nat} {g : AHp} (x : RLx ty n p cs st op g) (v : Int32) : RLx ty n p cs st op (sI g 70 31 v) := x
theorem reads_l {fr : Nat} : ∀ (k p f cs st op : Nat) (v : Int32) (g : AHp), fr + 5 = p + k → k ≤ 5 → k + 1 < f → RLx ty n p cs st op g → ∃ w g1, m_X12_reads_7 f (nI fr) v g = some (w, g1) ∧ Ch (fun k i => k == 70 && (i == 4 || i == 6)) g g1 ∧ (match nmS ty n k v p with
    | .inl F => hI g1 70 6 = F ∧ F.toInt < 0
    | .inr y => w = y.1 ∧ RLx ty n y.2 cs st op g1 ∧ p ≤ y.2 ∧ (dgt (sg ty n p) = true → 1 ≤ k → p < y.2)) := by
  intro k
  induction k with
  | zero =>
    intro p f cs st op v g hk hk5 hf x
    obtain ⟨f, rfl⟩ : ∃ q, f = q + 2 := ⟨f - 2, by omega⟩
    have hn := x.2.2.1
    rw [show f + 2 = (f + 1) + 1 from rfl, m_X12_reads_7, goodM x.1.2.2, bd_some, if_neg one_ne, digitM x, bd_some, nmS]
    cases hd : dgt (sg ty n p) with
    | false =>
      rw [i01_f, if_pos rfl, if_neg (show ¬ (false = true) by decide)]
      exact ⟨v, g, rfl, Ch.rf, rfl, x, Nat.le_refl _, fun h => by cases h⟩
    | true =>
      have hp : p < n := sg_lt (fun h => by rw [h] at hd; revert hd; decide)
      have hne : ¬ flt 2 p = 0 := flt_ne (k := 2) (by omega) (by omega) (by omega)
      have eh : m_X12_here (sI g 70 6 (flt 2 p)) = some (sz ty n p, sI g 70 6 (flt 2 p)) := by
        have a4 : hI (sI g 70 6 (flt 2 p)) 70 4 = nI p := x.1.1
        have a5 : hI (sI g 70 6 (flt 2 p)) 70 5 = nI n := x.1.2.1
        have a71 : hI (sI g 70 6 (flt 2 p)) 71 p = hI g 71 p := by rw [hI_sI, if_neg (by omega)]
        unfold m_X12_here sz
        rw [a4, a5, if_neg (nI_ge hp (by omega)), gd_pos (inb_nI (by omega) (by omega)), nI_clamp (by omega), if_pos hp, a71, x.2.2.2 p hp]
      rw [i01_t, if_neg one_ne, x.1.1, if_pos (show nI p = nI fr + 5 by rw [show nI fr + 5 = nI (fr + 5) from nI_add fr 5, hk]; rfl), wrongsM x.1.2.2, bd_some]
      unfold m_X12_reads_40
      rw [eh, bd_some, lt_eq, lt_eq, m_X12_reads_7, badM (F := flt 2 p) (by rw [hI_sI, if_neg (by omega), hI_sI, if_pos ⟨rfl, rfl⟩]) hne, bd_some, if_pos rfl, if_pos rfl]
      exact ⟨_, _, rfl, (Ch.rf.sI (by simp)).sI (by simp), by rw [hI_sI, if_neg (by omega), hI_sI, if_pos ⟨rfl, rfl⟩], flt_neg (k := 2) (by omega) (by omega) (by omega)⟩
  | succ k ih =>
    intro p f cs st op v g hk hk5 hf x
    obtain ⟨f, rfl⟩ : ∃ q, f = q + 1 := ⟨f - 1, by omega⟩
    have hn := x.2.2.1
    rw [m_X12_reads_7, goodM x.1.2.2, bd_some, if_neg one_ne, digitM x, bd_some, nmS]
    cases hd : dgt (sg ty n p) with
    | false =>
      rw [i01_f, if_pos rfl, if_neg (show ¬ (false = true) by decide)]
      exact ⟨v, g, rfl, Ch.rf, rfl, x, Nat.le_refl _, fun h => by cases h⟩
    | true =>
      have hp : p < n := sg_lt (fun h => by rw [h] at hd; revert hd; decide)
      rw [i01_t, if_neg one_ne, x.1.1, if_neg (show ¬ nI p = nI fr + 5 by rw [show nI fr + 5 = nI (fr + 5) from nI_add fr 5, nI_eq (by omega) (by omega)]; omega), if_pos rfl]
      unfold m_X12_reads_40
      rw [hereL x, bd_some, sg_sz hp, lt_eq, x.1.1, nI_1, lt_eq, ten_c]
      obtain ⟨w, g2, e2, c2, r2⟩ := ih (p + 1) f cs st op (v * 10 + sg ty n p - 48) (sI g 70 4 (nI (p + 1))) (by omega) (by omega) (by omega) (x.pl (by omega) (by omega))
      refine ⟨w, g2, e2, (Ch.rf.sI (by simp)).trans c2, ?_⟩
      cases hr : nmS ty n k (v * 10 + sg ty n p - 48) (p + 1) with
      | inl F => rw [hr] at r2; exact r2
      | inr y => rw [hr] at r2; exact ⟨r2.1, r2.2.1, by have := r2.2.2.1; omega, fun _ _ => by have := r2.2.2.1; omega⟩
end NM2
/-- what the reading of a factor, of a term, of a sum comes to -/
def OutF (ty : Nat → Int32) (n p cs st op f ff : Nat) (g : AHp) (r : VSp) : Prop := match r with
  | .inl F => ∃ g1, FAm f ff g = some ((), g1) ∧ (hI g1 70 6 = F ∧ F.toInt < 0) ∧ Ch PLm g g1
  | .inr y => ∃ f' cs1 g1, FAm f ff g = AFm f' g1 ∧ n - y.2.2 + 1 < f' ∧ RLx ty n y.2.2 cs1 st op g1 ∧ RnM g1 cs cs1 y.1 ∧ Kp cs st g g1 ∧ p < y.2.2
def OutTm (ty : Nat → Int32) (n p st op a : Nat) (o : Option (Unit × AHp)) (g : AHp) (r : VSp) : Prop := match r with
  | .inl F => ∃ g1, o = some ((), g1) ∧ (hI g1 70 6 = F ∧ F.toInt < 0) ∧ Ch PLm g g1
  | .inr y => ∃ f' g1, o = AFm f' g1 ∧ n - y.2.2 + 1 < f' ∧ TRm ty n y.2.2 st op a y.1 g1 ∧ Kp a st g g1 ∧ p ≤ y.2.2 ∧ isT (sg ty n y.2.2) = false
def OutSm (ty : Nat → Int32) (n p cs st op : Nat) (o : Option (Unit × AHp)) (g : AHp) (r : VSp) : Prop := match r with
  | .inl F => ∃ g1, o = some ((), g1) ∧ (hI g1 70 6 = F ∧ F.toInt < 0) ∧ Ch PLm g g1
  | .inr y => ∃ f' cs1 g1, o = SEm f' (sz ty n y.2.2) g1 ∧ n - y.2.2 + 1 < f' ∧ RLx ty n y.2.2 cs1 st op g1 ∧ RnM g1 cs cs1 y.1 ∧ Kp cs st g g1 ∧ p ≤ y.2.2
def RecS (ty : Nat → Int32) (n : Nat) (srec : Nat → Nat → VSp) (o : Nat) : Prop := ∀ (p : Nat) (g : AHp) (f ff cs st : Nat), RLx ty n p cs st o g → NbP st g → n - p + 1 < f → n - p < ff → OutSm ty n p cs st o (FAm f ff g) g (srec o p)
section VM2
variable {ty : Nat → Int32} {n : Nat} {srec : Nat → Nat → VSp} {o : Nat}
theorem fa_bad {F : Int32} {f ff : Nat} {g g1 : AHp} (e : m_X12_factor_0 ff g = some ((), g1)) (h : hI g1 70 6 = F) (hF : F.toInt < 0) (hf : 1 ≤ f) (c : Ch PLm g g1) : ∃ g2, FAm f ff g = some ((), g2) ∧ (hI g2 70 6 = F ∧ F.toInt < 0) ∧ Ch PLm g g2 := by
  obtain ⟨f, rfl⟩ : ∃ q, f = q + 1 := ⟨f - 1, by omega⟩
  obtain ⟨g2, e2, h2, c2⟩ := af_bad h (neg_ne hF) f
  refine ⟨g2, ?_, ⟨h2, hF⟩, c.trans c2⟩
  unfold FAm
  rw [e, bd_some, e2]
theorem factorM (ho : o ≤ 6) (hr : o < 6 → RecS ty n srec (o + 1)) {p cs st f ff : Nat} {g : AHp} (x : RLx ty n p cs st o g) (hf : n - p + 1 < f) (hff : n - p < ff) : OutF ty n p cs st o f ff g (fcS ty n srec o p) := by
  have hn := x.2.2.1
  obtain ⟨ff, rfl⟩ : ∃ q, ff = q + 1 := ⟨ff - 1, by omega⟩
  have h91z : sz ty n p = 91 ↔ sg ty n p = 91 := sz_sg (by decide) (by decide)
  unfold fcS
  cases hd : dgt (sg ty n p) with
  | true =>
    have hp : p < n := sg_lt (fun h => by rw [h] at hd; revert hd; decide)
    have h91 : ¬ sg ty n p = 91 := fun h => by rw [h] at hd; revert hd; decide
    obtain ⟨w, g1, e1, c1, r1⟩ := reads_l (ty := ty) (n := n) (fr := p) 5 p FU cs st o 0 g (by omega) (by omega) (by unfold FU; omega) x
    have e0 : m_X12_factor_0 (ff + 1) g = bd (m_X12_emit 0 w g1) fun _ h19 => some ((), h19) := by
      rw [m_X12_factor_0, goodM x.1.2.2, bd_some, if_neg one_ne, hereL x, bd_some, if_neg (fun h => h91 (h91z.mp h))]
      unfold m_X12_factor_23 m_X12_reads
      rw [goodM x.1.2.2, bd_some, if_neg one_ne, digitM x, bd_some, hd, i01_t, if_neg one_ne, x.1.1, lt_eq, e1, bd_some]
    rw [if_pos rfl]
    have c1' : Ch PLm g g1 := c1.mono (fun k i hp => by
      simp only [Bool.or_eq_false_iff, Bool.and_eq_false_iff, beq_eq_false_iff_ne] at hp ⊢; omega)
    cases hrs : nmS ty n 5 0 p with
    | inl F =>
      rw [hrs] at r1
      exact fa_bad (by rw [e0, emitX2 r1.1 (neg_ne r1.2), bd_some]) r1.1 r1.2 (by omega) c1'
    | inr y =>
      obtain ⟨b, q⟩ := y
      rw [hrs] at r1
      obtain ⟨rw1, rx, rp, rd⟩ := r1
      simp only [] at rw1 rx rp rd
      have hq := rd hd (by omega)
      have hqn := rx.2.2.1
      obtain ⟨g2, e2, h8, h88, h89, c2⟩ := emitL rx (by omega) 0 w
      have x2 : RLx ty n q (cs + 1) st o g2 := by
        obtain ⟨⟨x1, x2, x3⟩, ⟨x4, x5, x6⟩, x7, x8⟩ := rx
        exact ⟨⟨by rw [c2.i (by simp)]; exact x1, by rw [c2.i (by simp)]; exact x2, by rw [c2.i (by simp)]; exact x3⟩, ⟨h8, by rw [c2.i (by simp)]; exact x5, by rw [c2.i (by simp)]; exact x6⟩, ⟨by omega, by omega, by omega, by omega⟩, fun i hi => by rw [c2.i (by simp)]; exact x8 i hi⟩
      have hnum := RunM.num (cd := hI g2 88) (ar := hI g2 89) (a := cs) (by omega) h88
      rw [h89, rw1] at hnum
      refine ⟨f, cs + 1, g2, ?_, by simp only []; omega, x2, hnum, ⟨c1'.trans (c2.mono (fun k i hp => ?_)), fun k hk => ⟨?_, ?_⟩, fun k hk => ?_⟩, hq⟩
      · unfold FAm
        rw [e0, e2, bd_some, bd_some]
      · simp only [Bool.or_eq_false_iff, Bool.and_eq_false_iff, beq_eq_false_iff_ne] at hp ⊢; omega
      · rw [c2.i (by simp; omega), c1.i (by simp)]
      · rw [c2.i (by simp; omega), c1.i (by simp)]
      · rw [c2.i (by simp), c1.i (by simp)]
  | false =>
    rw [if_neg (show ¬ (false = true) by decide)]
    by_cases h91 : sg ty n p = 91
    · have hp : p < n := sg_lt (by rw [h91]; decide)
      rw [if_pos h91]
      have e0 : m_X12_factor_0 (ff + 1) g = bd (m_X12_opens g) fun _ h25 => m_X12_factor_0 ff h25 := by
        rw [m_X12_factor_0, goodM x.1.2.2, bd_some, if_neg one_ne, hereL x, bd_some, if_pos (h91z.mpr h91)]
      by_cases ho6 : o < 6
      · rw [if_pos ho6]
        obtain ⟨g1, e1, x1, k1, s1⟩ := opensL x hp ho6
        rw [h91] at s1
        have hFA : FAm f (ff + 1) g = FAm f ff g1 := by
          unfold FAm
          rw [e0, e1, bd_some]
        have hnb : NbP (st + 1) g1 := fun _ => by
          rw [show st + 1 - 1 = st by omega, s1]; decide
        have O := hr ho6 (p + 1) g1 f ff cs (st + 1) x1 hnb (by omega) (by omega)
        cases hrs : srec (o + 1) (p + 1) with
        | inl F =>
          rw [hrs] at O
          obtain ⟨g2, e2, q2, c2⟩ := O
          rw [vsb_l]
          exact ⟨g2, by rw [hFA, e2], q2, (pln_m k1.1).trans c2⟩
        | inr y =>
          obtain ⟨D, mD, q⟩ := y
          rw [hrs] at O
          obtain ⟨f', cs1, g2, e2, hf2, x2, r2, k2, l2⟩ := O
          simp only [] at e2 hf2 x2 r2 l2
          have hqn := x2.2.2.1
          have hst := r2.1
          have s2 : hI g2 90 st = 91 := by rw [k2.2.2 st (by omega)]; exact s1
          have et : m_X12_top g2 = some (91, g2) := by rw [topM x2, if_pos (by omega), show st + 1 - 1 = st by omega, s2]
          rw [vsb_r]
          obtain ⟨f', rfl⟩ : ∃ q, f' = q + 1 := ⟨f' - 1, by omega⟩
          by_cases h93 : sg ty n q = 93
          · have hq : q < n := sg_lt (by rw [h93]; decide)
            rw [if_pos h93]
            have x3 : RLx ty n (q + 1) cs1 st o (sI (sI (sI (sI g2 70 10 (nI st)) 70 9 (nI o)) 70 4 (nI (q + 1))) 70 31 1) := by
              obtain ⟨⟨y1, y2, y3⟩, ⟨y4, y5, y6⟩, y7, y8⟩ := x2
              exact ⟨⟨rfl, y2, y3⟩, ⟨y4, rfl, rfl⟩, ⟨by omega, by omega, by omega, by omega⟩, y8⟩
            have kk : Kp cs st g (sI (sI (sI (sI g2 70 10 (nI st)) 70 9 (nI o)) 70 4 (nI (q + 1))) 70 31 1) := by
              have k3 : Kp cs1 (st + 1) g2 (sI (sI (sI (sI g2 70 10 (nI st)) 70 9 (nI o)) 70 4 (nI (q + 1))) 70 31 1) := ⟨(((Ch.rf.sI (by simp)).sI (by simp)).sI (by simp)).sI (by simp), fun k _ => ⟨rfl, rfl⟩, fun k _ => rfl⟩
              exact (KpP.trans (k1.m) (k2.low (Nat.le_refl _) (by omega)) (Nat.le_refl _) (Nat.le_refl _)).trans k3 (by omega) (by omega)
            refine ⟨f', cs1, _, ?_, by simp only []; omega, x3, r2, kk, by simp only []; omega⟩
            rw [hFA, e2]
            unfold SEm stE
            have hsz : sz ty n q = 93 := by rw [sg_sz hq, h93]
            have a10 : hI g2 70 10 = nI (st + 1) := x2.2.1.2.1
            have a9 : hI (sI g2 70 10 (nI st)) 70 9 = nI (o + 1) := x2.2.1.2.2
            have a4 : hI (sI (sI g2 70 10 (nI st)) 70 9 (nI o)) 70 4 = nI q := x2.1.1
            rw [if_pos hsz, et, bd_some, if_pos rfl, a10, nI_pred, lt_eq, a9, nI_pred, lt_eq, a4, nI_1, lt_eq, lt_eq, bd_some, if_neg one_ne, m_X12_value_7, if_neg one_ne, goodM x3.1.2.2, bd_some, if_neg one_ne, if_neg (show ¬ hI (sI (sI (sI (sI g2 70 10 (nI st)) 70 9 (nI o)) 70 4 (nI (q + 1))) 70 31 1) 70 31 = 0 from one_ne)]
          · rw [if_neg h93]
            have hsz : ¬ sz ty n q = 93 := fun h => h93 ((sz_sg (by decide) (by decide)).mp h)
            refine ⟨sI g2 70 6 (flt 1 q), ?_, ⟨rfl, flt_neg (k := 1) (by omega) (by omega) (by omega)⟩, ((pln_m k1.1).trans k2.1).sI (by simp)⟩
            rw [hFA, e2]
            unfold SEm stE
            rw [if_neg hsz, bd_some, if_pos rfl, m_X12_value_7, if_pos rfl]
            unfold m_X12_value_57
            rw [goodM x2.1.2.2, bd_some, if_neg one_ne, et, bd_some, if_pos rfl, x2.1.1, wrongsM x2.1.2.2, bd_some]
      · rw [if_neg ho6]
        have ho' : o = 6 := by omega
        subst ho'
        obtain ⟨g1, e1, h1, c1⟩ := opensF x hp
        have hng : (flt 5 p).toInt < 0 := flt_neg (k := 5) (by omega) (by omega) (by omega)
        obtain ⟨ff, rfl⟩ : ∃ q, ff = q + 1 := ⟨ff - 1, by omega⟩
        refine fa_bad (g1 := g1) ?_ h1 hng (by omega) c1
        rw [e0, e1, bd_some, m_X12_factor_0, badM h1 (neg_ne hng), bd_some, if_pos rfl]
        unfold m_X12_factor_23
        rw [badM h1 (neg_ne hng), bd_some, if_pos rfl]
    · rw [if_neg h91]
      have e0 : m_X12_factor_0 (ff + 1) g = (if lix (sz ty n p) < 9 then bd (m_X12_emit 1 (sz ty n p) g) (fun _ h14 => lt (sI h14 70 4 ((hI h14 70 4) + 1)) fun h15 => some ((), h15)) else bd (m_X12_wrongs 1 (nI p) g) fun _ h10 => some ((), h10)) := by
        rw [m_X12_factor_0, goodM x.1.2.2, bd_some, if_neg one_ne, hereL x, bd_some, if_neg (fun h => h91 (h91z.mp h))]
        unfold m_X12_factor_23
        rw [goodM x.1.2.2, bd_some, if_neg one_ne, digitM x, bd_some, hd, i01_f, if_pos rfl, hereL x, bd_some, isValueM, bd_some]
        by_cases hl : lix (sz ty n p) < 9
        · rw [if_pos hl, if_pos hl, if_neg one_ne, hereL x, bd_some]
        · rw [if_neg hl, if_neg hl, if_pos rfl, x.1.1]
      by_cases hl : lix (sg ty n p) < 9
      · have hp : p < n := sg_lt (fun h => by rw [h] at hl; revert hl; decide)
        obtain ⟨g2, e2, h8, h88, h89, c2⟩ := emitL x (by omega) 1 (sz ty n p)
        have h4 : hI g2 70 4 = nI p := by rw [c2.i (by simp)]; exact x.1.1
        rw [if_pos (by rw [sz_l]; exact hl), e2, bd_some, lt_eq, h4, nI_1] at e0
        rw [if_pos hl]
        have x2 : RLx ty n (p + 1) (cs + 1) st o (sI g2 70 4 (nI (p + 1))) := by
          obtain ⟨⟨x1, x2, x3⟩, ⟨x4, x5, x6⟩, x7, x8⟩ := x
          refine ⟨⟨rfl, ?_, ?_⟩, ⟨?_, ?_, ?_⟩, ⟨by omega, by omega, by omega, by omega⟩, fun i hi => ?_⟩
          · rw [hI_sI, if_neg (by omega), c2.i (by simp)]; exact x2
          · rw [hI_sI, if_neg (by omega), c2.i (by simp)]; exact x3
          · rw [hI_sI, if_neg (by omega)]; exact h8
          · rw [hI_sI, if_neg (by omega), c2.i (by simp)]; exact x5
          · rw [hI_sI, if_neg (by omega), c2.i (by simp)]; exact x6
          · rw [hI_sI, if_neg (by omega), c2.i (by simp)]; exact x8 i hi
        have hlt := RunM.ltr (cd := hI (sI g2 70 4 (nI (p + 1))) 88) (ar := hI (sI g2 70 4 (nI (p + 1))) 89) (a := cs) (by omega) h88 (by
          show lix (hI g2 89 cs) < 9
          rw [h89, sz_l]; exact hl)
        rw [show hI (sI g2 70 4 (nI (p + 1))) 89 cs = sz ty n p from h89, sz_l] at hlt
        refine ⟨f, cs + 1, sI g2 70 4 (nI (p + 1)), ?_, by simp only []; omega, x2, hlt, ⟨(c2.mono (fun k i hp => ?_)).sI (by simp), fun k hk => ⟨?_, ?_⟩, fun k hk => ?_⟩, by simp only []; omega⟩
        · unfold FAm
          rw [e0, bd_some]
        · simp only [Bool.or_eq_false_iff, Bool.and_eq_false_iff, beq_eq_false_iff_ne] at hp ⊢; omega
        · rw [hI_sI, if_neg (by omega), c2.i (by simp; omega)]
        · rw [hI_sI, if_neg (by omega), c2.i (by simp; omega)]
        · rw [hI_sI, if_neg (by omega), c2.i (by simp)]
      · rw [if_neg (by rw [sz_l]; exact hl), wrongsM x.1.2.2, bd_some] at e0
        rw [if_neg hl]
        exact fa_bad e0 rfl (flt_neg (k := 1) (by omega) (by omega) (by omega)) (by omega) (Ch.rf.sI (by simp))
end VM2
