/-! draw -/
def En.add (E : En) (s l : Int32) (hm : E.m < 200) (hs : 0 ≤ s.toInt ∧ s.toInt ≤ 5) (hl : 1 ≤ l.toInt ∧ l.toInt ≤ 24) : En :=
  ⟨(E.m + 1, E.c, E.ty, E.col, E.siz, E.cl0, E.cl1, E.K0, E.K1, E.v0, E.v1, l, E.a, s), ⟨by show E.m + 1 ≤ 200; omega, E.hc, E.hty, E.hsz, by show -1 ≤ s.toInt ∧ s.toInt ≤ 5; omega, by show 0 ≤ l.toInt ∧ l.toInt ≤ 24; omega, E.ha⟩⟩
theorem CX.now {E : En} {g : AHp} (x : CX E g) : m_X11_standNow g = some ((), stH g E.a E.b E.r (nI E.m)) := by
  rw [standNowC x.1 E.hm, x.2.2.2.2.2.1, x.2.2.2.2.2.2.1, x.2.2.2.2.2.2.2]
theorem CX.add {E : En} {g : AHp} {s t l : Int32} (x : CX E g) (hm : E.m < 200) (hs : 0 ≤ s.toInt ∧ s.toInt ≤ 5) (hl : 1 ≤ l.toInt ∧ l.toInt ≤ 24) : CX (E.add s l hm hs hl) (adH g E.m s t l) := by
  obtain ⟨x1, x2, x3, x4, x5, x6⟩ := x
  refine ⟨rfl, x2, x3, x4, x5.add E.m s t l, ?_, ?_, ?_⟩
  · show lenA (adH g E.m s t l) 45 (E.m + 1) = l
    unfold lenA adH; rw [if_pos (by omega)]; simp [hI_sI]
  · show lenB (adH g E.m s t l) 45 (E.m + 1) = E.a
    rw [← x6.1]
    unfold lenB lenA adH
    by_cases h1 : 1 ≤ E.m
    · rw [if_pos (by omega), if_pos h1]
      simp only [hI_sI, Nat.reduceEqDiff, false_and, and_false, true_and, and_true, reduceIte]
      rw [if_neg (by omega), show E.m + 1 - 2 = E.m - 1 by omega]
    · rw [if_neg (by omega), if_neg h1]
  · show spkR (adH g E.m s t l) 43 (E.m + 1) = s
    unfold spkR adH; rw [if_pos (by omega)]; simp [hI_sI]
theorem sameLM_ofIs (g : AHp) (m : Nat) (s t l : Int32) : sameLM g (isH g m s t l) := fun k h1 h2 i => by
  unfold isH
  rw [hI_sI, if_neg (by omega), hI_sI, if_neg (by omega), hI_sI, if_neg (by omega), hI_sI, if_neg (by omega)]
theorem RX.add {E : En} {g : AHp} {s t l : Int32} (x : RX E g) (hm : E.m < 200) (hs : 0 ≤ s.toInt ∧ s.toInt ≤ 5) (hl : 1 ≤ l.toInt ∧ l.toInt ≤ 24) : RX (E.add s l hm hs hl) (isH g E.m s t l) := by
  obtain ⟨x1, x2, x3, x4, x6⟩ := x
  have sm := sameLM_ofIs g E.m s t l
  refine ⟨rfl, x2, x3, ⟨x4.1.same sm, x4.2.same sm⟩, ?_, ?_, ?_⟩
  · show lenA (isH g E.m s t l) 96 (E.m + 1) = l
    unfold lenA isH; rw [if_pos (by omega)]; simp [hI_sI]
  · show lenB (isH g E.m s t l) 96 (E.m + 1) = E.a
    rw [← x6.1]
    unfold lenB lenA isH
    by_cases h1 : 1 ≤ E.m
    · rw [if_pos (by omega), if_pos h1]
      simp only [hI_sI, Nat.reduceEqDiff, false_and, and_false, true_and, and_true, reduceIte]
      rw [if_neg (by omega), show E.m + 1 - 2 = E.m - 1 by omega]
    · rw [if_neg (by omega), if_neg h1]
  · show spkR (isH g E.m s t l) 94 (E.m + 1) = s
    unfold spkR isH; rw [if_pos (by omega)]; simp [hI_sI]
/-- the whole talk on one side -/
def TC (g : AHp) (m : Nat) (sp th ln : Nat → Int32) : Prop := hI g 42 4 = sumW ln m ∧ ∀ i, i < m → (hI g 43 i = sp i ∧ 0 ≤ (sp i).toInt ∧ (sp i).toInt ≤ 5) ∧ (hI g 44 i = th i ∧ 0 ≤ (th i).toInt ∧ (th i).toInt ≤ 11) ∧ (hI g 45 i = ln i ∧ 1 ≤ (ln i).toInt ∧ (ln i).toInt ≤ 24)
def TR (g : AHp) (m : Nat) (sp th ln : Nat → Int32) : Prop := ∀ i, i < m → hI g 94 i = sp i ∧ hI g 95 i = th i ∧ hI g 96 i = ln i
def up (f : Nat → Int32) (m : Nat) (v : Int32) : Nat → Int32 := fun i => if i = m then v else f i
theorem TC.add {g : AHp} {m : Nat} {sp th ln : Nat → Int32} {s t l : Int32} (x : TC g m sp th ln) (hs : 0 ≤ s.toInt ∧ s.toInt ≤ 5) (ht : 0 ≤ t.toInt ∧ t.toInt ≤ 11) (hl : 1 ≤ l.toInt ∧ l.toInt ≤ 24) : TC (adH g m s t l) (m + 1) (up sp m s) (up th m t) (up ln m l) := by
  refine ⟨?_, fun i hi => ?_⟩
  · show hI g 42 4 + l = _
    rw [x.1, sumW, sumW_congr2 m (f := up ln m l) (g := ln) (fun i hi => by unfold up; rw [if_neg (by omega)]), show up ln m l m = l from if_pos rfl]
  · unfold adH up
    simp only [hI_sI, Nat.reduceEqDiff, false_and, and_false, true_and, and_true, reduceIte]
    by_cases him : i = m
    · simp only [if_pos him]; exact ⟨⟨trivial, hs⟩, ⟨trivial, ht⟩, ⟨trivial, hl⟩⟩
    · simp only [if_neg him]; exact x.2 i (by omega)
theorem TR.add {g : AHp} {m : Nat} {sp th ln : Nat → Int32} {s t l : Int32} (x : TR g m sp th ln) : TR (isH g m s t l) (m + 1) (up sp m s) (up th m t) (up ln m l) := fun i hi => by
  unfold isH up
  simp only [hI_sI, Nat.reduceEqDiff, false_and, and_false, true_and, and_true, reduceIte]
  by_cases him : i = m
  · simp only [if_pos him]; exact ⟨trivial, trivial, trivial⟩
  · simp only [if_neg him]; exact x i (by omega)
abbrev PDc : Nat → Nat → Bool := fun k i => PC k i || k == 43 || k == 44 || k == 45 || (k == 42 && (i == 3 || i == 4)) || (k == 0 && i == 11)
abbrev PDm : Nat → Nat → Bool := fun k i => PMo k i || k == 94 || k == 95 || k == 96 || (k == 70 && (i == 2 || i == 3))
theorem pc_pdc {h g : AHp} (c : Ch PC h g) : Ch PDc h g := c.mono (fun k i hp => by
  simp only [Bool.or_eq_false_iff] at hp ⊢
  simp only [hp, true_and])
theorem pmo_pdm {h g : AHp} (c : Ch PMo h g) : Ch PDm h g := c.mono (fun k i hp => by
  simp only [Bool.or_eq_false_iff] at hp ⊢
  simp only [hp, true_and])
theorem TC.pc {h g : AHp} {m : Nat} {sp th ln : Nat → Int32} (x : TC h m sp th ln) (c : Ch PC h g) : TC g m sp th ln := by
  unfold TC at x ⊢
  rw [c.i (k := 42) (i := 4) rfl, c.r (k := 43) (fun _ => rfl), c.r (k := 44) (fun _ => rfl), c.r (k := 45) (fun _ => rfl)]; exact x
theorem TR.pmo {h g : AHp} {m : Nat} {sp th ln : Nat → Int32} (x : TR h m sp th ln) (c : Ch PMo h g) : TR g m sp th ln := by
  unfold TR at x ⊢
  rw [c.r (k := 94) (fun _ => rfl), c.r (k := 95) (fun _ => rfl), c.r (k := 96) (fun _ => rfl)]; exact x
theorem CX.seed {E : En} {g : AHp} (x : CX E g) (v : Int32) : CX E (sI g 0 11 v) := x.ch (P := fun k i => k == 0) (Ch.rf.sI rfl) (fun {k i} hp h6 => by
  simp only [Bool.or_eq_true, Bool.and_eq_true, beq_iff_eq] at hp
  simp only [beq_eq_false_iff_ne]; omega) (x.2.2.2.2.1.clr (by omega) v)
theorem RX.seed {E : En} {g : AHp} (x : RX E g) (v : Int32) : RX E (sI g 70 2 v) := x.ch (P := fun k i => k == 70 && i == 2) (Ch.rf.sI rfl) (fun {k i} hp => by
  simp only [Bool.or_eq_true, Bool.and_eq_true, beq_iff_eq] at hp
  simp only [Bool.and_eq_false_iff, beq_eq_false_iff_ne]; omega)
def nx (x : Nat) : Nat := (25173 * x + 13849) % 65536
theorem nx_eq {x : Nat} (hx : x ≤ 65535) : ((25173 * nI x) + 13849) - ((25173 * nI x) + 13849) / 65536 * 65536 = nI (nx x) := by
  have e : (25173 : Int32) * nI x + 13849 = nI (25173 * x + 13849) := by
    rw [show (25173 : Int32) * nI x = nI (25173 * x) from pk_mul 25173 x]; exact nI_add _ 13849
  rw [e]
  exact pk_rem (a := 25173 * x + 13849) (d := 65536) (by omega) (by omega) (by omega)
theorem nx_le (x : Nat) : nx x ≤ 65535 := by unfold nx; omega
theorem sI_same (h : AHp) (k i : Nat) (v : Int32) : hI (sI h k i v) k i = v := by rw [hI_sI, if_pos ⟨rfl, rfl⟩]
theorem draw_l {n : Nat} (hn : n ≤ 20) : ∀ (d i f x : Nat) (E : En) (sp th ln : Nat → Int32) (v : Int32) (gC : AHp), i + d = n → d < f → x ≤ 65535 → CX E gC → TC gC E.m sp th ln → hI gC 0 11 = nI x →
    ∃ (v' : Int32) (x' : Nat) (E' : En) (sp' th' ln' : Nat → Int32) (gC' : AHp), m_X11_draw_17 f (nI n) v (nI i) gC = some (v', gC') ∧ x' ≤ 65535 ∧ CX E' gC' ∧ (E'.cl0 = E.cl0 ∧ E'.cl1 = E.cl1 ∧ E'.K0 = E.K0 ∧ E'.K1 = E.K1 ∧ E'.v0 = E.v0 ∧ E'.v1 = E.v1) ∧ TC gC' E'.m sp' th' ln' ∧ hI gC' 0 11 = nI x' ∧ Ch PDc gC gC' ∧
      ∀ gR, RX E gR → TR gR E.m sp th ln → hI gR 70 2 = nI x → ∃ gR', m_X12_draw_18 f (nI n) v (nI i) gR = some (v', gR') ∧ RX E' gR' ∧ TR gR' E'.m sp' th' ln' ∧ hI gR' 70 2 = nI x' ∧ Ch PDm gR gR' := by
  intro d
  induction d with
  | zero =>
    intro i f x E sp th ln v gC hi hf hx xC tC ex
    obtain ⟨f, rfl⟩ : ∃ a, f = a + 1 := ⟨f - 1, by omega⟩
    have hle : nI n ≤ nI i := nI_le (by omega) (by omega)
    refine ⟨v, x, E, sp, th, ln, gC, by rw [m_X11_draw_17, if_pos hle], hx, xC, ⟨rfl, rfl, rfl, rfl, rfl, rfl⟩, tC, ex, Ch.rf, fun gR xR tR er => ⟨gR, by rw [m_X12_draw_18, if_pos hle], xR, tR, er, Ch.rf⟩⟩
  | succ d ih =>
    intro i f x E sp th ln v gC hi hf hx xC tC ex
    obtain ⟨f, rfl⟩ : ∃ a, f = a + 1 := ⟨f - 1, by omega⟩
    have hm := E.hm
    have hle : ¬ nI n ≤ nI i := nI_ge (by omega) (by omega)
    have hy := nx_le x
    generalize hX : nx x = y at hy
    have es : nI y - nI y / 6 * 6 = nI (y % 6) := pk_rem (a := y) (d := 6) (by omega) (by omega) (by omega)
    have e6 : nI y / 6 = nI (y / 6) := pk_div (a := y) (d := 6) (by omega) (by omega) (by omega)
    have et : nI (y / 6) - nI (y / 6) / 12 * 12 = nI (y / 6 % 12) := pk_rem (a := y / 6) (d := 12) (by omega) (by omega) (by omega)
    have e72 : nI y / 72 = nI (y / 72) := pk_div (a := y) (d := 72) (by omega) (by omega) (by omega)
    have hs : 0 ≤ (nI (y % 6)).toInt ∧ (nI (y % 6)).toInt ≤ 5 := by rw [nI_toInt (by omega)]; omega
    have ht : 0 ≤ (nI (y / 6 % 12)).toInt ∧ (nI (y / 6 % 12)).toInt ≤ 11 := by rw [nI_toInt (by omega)]; omega
    have ht12 : (nI (y / 6 % 12)).toNatClampNeg < 12 := clamp_lt ht.1 (by omega)
    /- the class -/
    have x0 := xC.seed (nI y)
    have c0 : Ch PDc gC (sI gC 0 11 (nI y)) := Ch.rf.sI rfl
    have t0 : TC (sI gC 0 11 (nI y)) E.m sp th ln := tC
    have ey0 : hI (sI gC 0 11 (nI y)) 0 11 = nI y := sI_same _ _ _ _
    have estep : m_X11_draw_17 (f + 1) (nI n) v (nI i) gC = (bd (m_X11_drawOne (sI gC 0 11 (nI y))) fun r2 h3 => (if r2 = 0 then (lt (nI i + 1) fun v4 => (m_X11_draw_17 f (nI n) v v4 h3)) else (lt (v + 1) fun v5 => (lt (nI i + 1) fun v6 => (m_X11_draw_17 f (nI n) v5 v6 h3))))) := by
      rw [m_X11_draw_17, if_neg hle, ex, nx_eq hx, hX, lt_eq]
    generalize sI gC 0 11 (nI y) = g0 at x0 c0 t0 ey0 estep
    obtain ⟨es0, cs, xs, ss⟩ := x0.stand E.a E.b E.r (nI E.m)
    obtain ⟨z, g1, e1, c1, x1, s1, q1⟩ := xs.ask ss 1 (nI (y / 6 % 12)) hs E.hr (E.siz (nI (y / 6 % 12)).toNatClampNeg) (fun j hj hb => E.hsz _ ht12 j hj hb)
    have cA := cs.trans (PCl_PC c1)
    have t1 := t0.pc cA
    have ey1 : hI g1 0 11 = nI y := by rw [cA.i rfl, ey0]
    have hz25 : ∀ k, 25 ≤ k → k < 32 → tb z k = false := fun k h1 h2 => by
      rw [q1 k h2]
      by_cases hb : tb (E.siz (nI (y / 6 % 12)).toNatClampNeg) k = true
      · have := E.hsz _ ht12 k h2 hb; omega
      · simp at hb; rw [hb]; rfl
    have hz0 : tb z 0 = false := by
      rw [q1 0 (by omega)]
      by_cases hb : tb (E.siz (nI (y / 6 % 12)).toNatClampNeg) 0 = true
      · have := E.hsz _ ht12 0 (by omega) hb; omega
      · simp at hb; rw [hb]; rfl
    have eOne : m_X11_drawOne g0 = (if nI (pcI z) = 0 then (some (0, g1)) else (if (hI g1 42 3) < 200 then (gd (¬ nI (pcI z) = 0) (bd (m_X11_placeOfBit z (((hI g1 0 11) / 72) - ((hI g1 0 11) / 72) / nI (pcI z) * nI (pcI z)) g1) fun r12 h13 => (bd (m_X7_add (nI (y % 6)) (nI (y / 6 % 12)) r12 h13) fun r14 h15 => (some (1, h15))))) else (some (0, g1)))) := by
      unfold m_X11_drawOne
      simp only [lt_eq]
      rw [ey0, es, e6, et, x0.now, bd_some, sizesOfC, bd_some, if_pos ht, xs.2.2.2.1.2, e1, bd_some, bitCountC, bd_some]
    rw [eOne] at estep
    have hpc := pcI_le z
    /- the reference up to its set -/
    have ref : ∀ gR, RX E gR → TR gR E.m sp th ln → hI gR 70 2 = nI x → ∃ g3, RX E g3 ∧ TR g3 E.m sp th ln ∧ hI g3 70 2 = nI y ∧ Ch PDm gR g3 ∧ m_X12_draw_18 (f + 1) (nI n) v (nI i) gR = (if z = 0 then (lt (nI i + 1) fun v26 => (m_X12_draw_18 f (nI n) v v26 g3)) else (if (hI g3 70 3) = 200 then (lt (nI i + 1) fun v31 => (m_X12_draw_18 f (nI n) v v31 g3)) else (bd (m_X12_sizeOf z g3) fun r27 h28 => (gd (¬ r27 = 0) (lt (((hI g3 70 2) / 72) - ((hI g3 70 2) / 72) / r27 * r27) fun v30 => (m_X12_draw_119 (m_X12_draw_18 f) FU (nI n) v (nI i) (nI (y % 6)) (nI (y / 6 % 12)) z v30 1 h28)))))) := by
      intro gR xR tR er
      have xr0 := xR.seed (nI y)
      have cr0 : Ch PDm gR (sI gR 70 2 (nI y)) := Ch.rf.sI rfl
      have tr0 : TR (sI gR 70 2 (nI y)) E.m sp th ln := tR
      have ery : hI (sI gR 70 2 (nI y)) 70 2 = nI y := sI_same _ _ _ _
      have er1 : m_X12_draw_18 (f + 1) (nI n) v (nI i) gR = (bd (m_X12_standsAt (hI (sI gR 70 2 (nI y)) 70 3) (sI gR 70 2 (nI y))) fun r22 h23 => (bd (m_X12_waysBy 1 (nI (y % 6)) (nI (y / 6 % 12)) h23) fun r24 h25 => (if r24 = 0 then (lt (nI i + 1) fun v26 => (m_X12_draw_18 f (nI n) v v26 h25)) else (if (hI h25 70 3) = 200 then (lt (nI i + 1) fun v31 => (m_X12_draw_18 f (nI n) v v31 h25)) else (bd (m_X12_sizeOf r24 h25) fun r27 h28 => (gd (¬ r27 = 0) (lt (((hI h25 70 2) / 72) - ((hI h25 70 2) / 72) / r27 * r27) fun v30 => (m_X12_draw_119 (m_X12_draw_18 f) FU (nI n) v (nI i) (nI (y % 6)) (nI (y / 6 % 12)) r24 v30 1 h28)))))))) := by
        rw [m_X12_draw_18, if_neg hle, er, nx_eq hx, hX]
        simp only [lt_eq]
        rw [ery, es, e6, et]
      generalize sI gR 70 2 (nI y) = gr at xr0 cr0 tr0 ery er1
      obtain ⟨g2, e2, c2, x2, s2⟩ := xr0.now
      obtain ⟨z2, g3, e3, c3, x3, s3, q3⟩ := x2.ask s2 1 hs ht E.hr
      have hzz : z2 = z := tb_ext (fun k hk => by rw [q3 k hk, q1 k hk])
      subst hzz
      have cM := (pst_pmo c2).trans (pws_pmo c3)
      exact ⟨g3, x3, tr0.pmo cM, by rw [cM.i rfl, ery], cr0.trans (pmo_pdm cM), by rw [er1, e2, bd_some, e3, bd_some]⟩
    by_cases h0 : pcI z = 0
    · /- nothing can be said -/
      have hz : z = 0 := (pcI_eq0 z).mp h0
      rw [if_pos (by rw [h0]; rfl), bd_some, if_pos rfl, lt_eq, nI_1] at estep
      obtain ⟨v', x', E', sp', th', ln', gC', a1, a2, a3, a4, a5, a6, a7, a8⟩ := ih (i + 1) f y E sp th ln v g1 (by omega) (by omega) hy x1 t1 ey1
      refine ⟨v', x', E', sp', th', ln', gC', by rw [estep, a1], a2, a3, a4, a5, a6, (c0.trans (pc_pdc cA)).trans a7, fun gR xR tR er => ?_⟩
      obtain ⟨g3, b1, b2, b3, b4, b5⟩ := ref gR xR tR er
      obtain ⟨gR', d1, d2, d3, d4, d5⟩ := a8 g3 b1 b2 b3
      exact ⟨gR', by rw [b5, if_pos hz, lt_eq, nI_1, d1], d2, d3, d4, b4.trans d5⟩
    · have hz : ¬ z = 0 := fun w => h0 ((pcI_eq0 z).mpr w)
      have hne : ¬ nI (pcI z) = 0 := fun w => h0 ((nI_zero_iff (by omega)).mp w)
      rw [if_neg hne] at estep
      by_cases hm2 : E.m < 200
      · rw [if_pos (by rw [x1.1]; exact nI_lt (a := E.m) (b := 200) hm2 (by omega)), gd_pos hne, ey1, e72] at estep
        have el : nI (y / 72) - nI (y / 72) / nI (pcI z) * nI (pcI z) = nI (y / 72 % pcI z) := pk_rem (by omega) (by omega) (by omega)
        have hlt : y / 72 % pcI z < cntF z 0 := by rw [cntF_all]; exact Nat.mod_lt _ (by omega)
        have eC := placeC hz25 g1 25 0 (y / 72 % pcI z) FU (by omega) (by have := Nat.mod_lt (y / 72) (show 0 < pcI z by omega); omega) hlt (by unfold FU; omega)
        have hn0 : nthB z 25 0 (y / 72 % pcI z) = nthB z 24 1 (y / 72 % pcI z) := by rw [nthB, if_neg (by rw [hz0]; simp)]
        have hc1 : y / 72 % pcI z < cntF z 1 := by
          rw [cntF_step z (by omega), hz0] at hlt; simpa using hlt
        obtain ⟨nb1, nb2, nb3⟩ := nthB_spec hz25 24 1 (y / 72 % pcI z) (by omega) hc1
        rw [hn0] at eC
        generalize hj : nthB z 24 1 (y / 72 % pcI z) = j at eC nb1 nb2 nb3
        have hl : 1 ≤ (nI j).toInt ∧ (nI j).toInt ≤ 24 := by rw [nI_toInt (by omega)]; omega
        rw [el] at estep
        unfold m_X11_placeOfBit at estep
        rw [show m_X11_placeOfBit_4 FU z (nI (y / 72 % pcI z)) 0 g1 = some (nI j, g1) from eC, bd_some, addC x1.1 hm2, bd_some, bd_some, if_neg one_ne, lt_eq, lt_eq, nI_1] at estep
        have x2 := x1.add (t := nI (y / 6 % 12)) hm2 hs hl
        have t2 := t1.add hs ht hl
        have cB : Ch PDc g1 (adH g1 E.m (nI (y % 6)) (nI (y / 6 % 12)) (nI j)) := ((((Ch.rf.sI rfl).sI rfl).sI rfl).sI rfl).sI rfl
        have ey2 : hI (adH g1 E.m (nI (y % 6)) (nI (y / 6 % 12)) (nI j)) 0 11 = nI y := by
          unfold adH; simp only [hI_sI, Nat.reduceEqDiff, false_and, and_false, true_and, and_true, reduceIte]; exact ey1
        obtain ⟨v', x', E', sp', th', ln', gC', a1, a2, a3, a4, a5, a6, a7, a8⟩ := ih (i + 1) f y (E.add (nI (y % 6)) (nI j) hm2 hs hl) (up sp E.m (nI (y % 6))) (up th E.m (nI (y / 6 % 12))) (up ln E.m (nI j)) (v + 1) (adH g1 E.m (nI (y % 6)) (nI (y / 6 % 12)) (nI j)) (by omega) (by omega) hy x2 t2 ey2
        refine ⟨v', x', E', sp', th', ln', gC', by rw [estep, a1], a2, a3, a4, a5, a6, ((c0.trans (pc_pdc cA)).trans cB).trans a7, fun gR xR tR er => ?_⟩
        obtain ⟨g3, b1, b2, b3, b4, b5⟩ := ref gR xR tR er
        rw [if_neg hz, if_neg (by rw [b1.1, i32_eq, nI_toInt (by omega)]; simp only [tIall]; omega), sizeOfM, bd_some, gd_pos hne, b3, e72, lt_eq, el] at b5
        rw [show m_X12_draw_119 (m_X12_draw_18 f) FU (nI n) v (nI i) (nI (y % 6)) (nI (y / 6 % 12)) z (nI (y / 72 % pcI z)) 1 g3 = _ from draw119 hz25 (m_X12_draw_18 f) (nI n) v (nI i) (nI (y % 6)) (nI (y / 6 % 12)) g3 24 1 (y / 72 % pcI z) FU (by omega) (by have := Nat.mod_lt (y / 72) (show 0 < pcI z by omega); omega) hc1 (by unfold FU; omega), hj, isSaidM b1.1 hm2, bd_some, nI_1] at b5
        have eyr : hI (isH g3 E.m (nI (y % 6)) (nI (y / 6 % 12)) (nI j)) 70 2 = nI y := by
          unfold isH; simp only [hI_sI, Nat.reduceEqDiff, false_and, and_false, true_and, and_true, reduceIte]; exact b3
        obtain ⟨gR', d1, d2, d3, d4, d5⟩ := a8 (isH g3 E.m (nI (y % 6)) (nI (y / 6 % 12)) (nI j)) (b1.add hm2 hs hl) b2.add eyr
        have cD : Ch PDm g3 (isH g3 E.m (nI (y % 6)) (nI (y / 6 % 12)) (nI j)) := (((Ch.rf.sI rfl).sI rfl).sI rfl).sI rfl
        exact ⟨gR', by rw [b5, d1], d2, d3, d4, (b4.trans cD).trans d5⟩
      · rw [if_neg (by rw [x1.1, i32_lt, nI_toInt (by omega)]; simp only [tIall]; omega), bd_some, if_pos rfl, lt_eq, nI_1] at estep
        obtain ⟨v', x', E', sp', th', ln', gC', a1, a2, a3, a4, a5, a6, a7, a8⟩ := ih (i + 1) f y E sp th ln v g1 (by omega) (by omega) hy x1 t1 ey1
        refine ⟨v', x', E', sp', th', ln', gC', by rw [estep, a1], a2, a3, a4, a5, a6, (c0.trans (pc_pdc cA)).trans a7, fun gR xR tR er => ?_⟩
        obtain ⟨g3, b1, b2, b3, b4, b5⟩ := ref gR xR tR er
        obtain ⟨gR', d1, d2, d3, d4, d5⟩ := a8 g3 b1 b2 b3
        exact ⟨gR', by rw [b5, if_neg hz, if_pos (by rw [b1.1, i32_eq, nI_toInt (by omega)]; simp only [tIall]; omega), lt_eq, nI_1, d1], d2, d3, d4, b4.trans d5⟩
abbrev PD : Nat → Nat → Bool := fun k i => PSy k i || (k == 0 && i == 11) || (k == 70 && i == 2)
theorem sim_draw {h : AHp} (n : Int32) (hB : BI h) (hI0 : LI h) : SimL PD h (m_X11_draw n) (m_X12_draw n) := by
  by_cases hn : 1 ≤ n.toInt ∧ n.toInt ≤ 20
  rotate_left
  · refine SimL.same hB hI0 (-1) ?_ ?_
    · unfold m_X11_draw
      simp only [i32_lt, i32_le, tIall]
      by_cases h1 : n.toInt < 1
      · rw [if_pos h1]
      · rw [if_neg h1, if_neg (by omega)]
    · unfold m_X12_draw; rw [liesI, bd_some, b2i_f (by exact hn), if_pos rfl]
  obtain ⟨n, rfl, hn1, hn2⟩ := nat_in (lo := 1) (hi := 20) hn
  obtain ⟨cl0, cl1, K0, K1, v0, v1, hLR⟩ := id hI0
  obtain ⟨E, xC, xR, ⟨rfl, rfl, rfl, rfl, rfl, rfl⟩, e701⟩ := hB.en hLR
  obtain ⟨a1, a2, a3, a4, a5, a6⟩ := id hB
  obtain ⟨x, ex, ex2, hx⟩ := nat_of a5.2.1
  have hx5 : x ≤ 65535 := by have := a5.2.2; omega
  have hm := E.hm
  have tC : TC h E.m (hI h 43) (hI h 44) (hI h 45) := by
    have b4 := a4.2.2.2.1
    have b5 := a4.2.2.2.2
    rw [xC.1, nI_clamp (by omega)] at b4
    rw [xC.1, nI_toInt (by omega)] at b5
    exact ⟨b4, fun i hi => ⟨⟨rfl, (b5 i (by omega)).1.2⟩, ⟨rfl, (b5 i (by omega)).2.1.2⟩, ⟨rfl, (b5 i (by omega)).2.2.2⟩⟩⟩
  have tR : TR h E.m (hI h 43) (hI h 44) (hI h 45) := fun i hi => by
    have b5 := a4.2.2.2.2
    rw [xC.1, nI_toInt (by omega)] at b5
    exact ⟨(b5 i (by omega)).1.1, (b5 i (by omega)).2.1.1, (b5 i (by omega)).2.2.1⟩
  obtain ⟨v', x', E', sp', th', ln', gC, f1, f2, f3, f4, f5, f6, f7, f8⟩ := draw_l hn2 n 0 FU x E _ _ _ 0 h (by omega) (by unfold FU; omega) hx5 xC tC ex
  have xR2 : RX E gC := xR.ch f7 (fun {k i} hp => by
    simp only [Bool.or_eq_true, Bool.and_eq_true, beq_iff_eq] at hp
    simp only [Bool.or_eq_false_iff, Bool.and_eq_false_iff, beq_eq_false_iff_ne]
    omega)
  have tR2 : TR gC E.m (hI h 43) (hI h 44) (hI h 45) := by
    unfold TR at tR ⊢
    rw [f7.r (k := 94) (fun _ => rfl), f7.r (k := 95) (fun _ => rfl), f7.r (k := 96) (fun _ => rfl)]; exact tR
  obtain ⟨gR, d1, d2, d3, d4, d5⟩ := f8 gC xR2 tR2 (by rw [f7.i rfl, a5.1, ex])
  have cA : Ch PD h gC := f7.mono (fun k i hp => by
    simp only [Bool.or_eq_false_iff, Bool.and_eq_false_iff, beq_eq_false_iff_ne] at hp ⊢; omega)
  have cB : Ch PD gC gR := d5.mono (fun k i hp => by
    simp only [Bool.or_eq_false_iff, Bool.and_eq_false_iff, beq_eq_false_iff_ne] at hp ⊢; omega)
  have c := cA.trans cB
  have hm' := E'.hm
  have lC : L2 gR E.cl0 E.cl1 E.K0 E.K1 E.v0 E.v1 := by
    have := f3.2.2.2.2.1
    rw [f4.1, f4.2.1, f4.2.2.1, f4.2.2.2.1, f4.2.2.2.2.1, f4.2.2.2.2.2] at this
    exact this.m d5 (fun k hk i => by simp only [Bool.or_eq_false_iff, Bool.and_eq_false_iff, beq_eq_false_iff_ne]; omega)
  refine ⟨v', gC, gR, ?_, ?_, ⟨a1.ch c rfl rfl (fun _ => rfl) (fun _ => rfl), a2.ch c (fun _ => rfl) (fun _ => rfl), a3.ch c (fun _ => rfl) (fun _ => rfl), ?_, ?_, a6.ch c ⟨rfl, rfl, rfl, rfl, rfl, rfl, rfl⟩ (fun _ => ⟨rfl, rfl, rfl, rfl, rfl, rfl, rfl, rfl⟩)⟩, ⟨E.cl0, E.cl1, E.K0, E.K1, E.v0, E.v1, lC, ?_, ?_⟩, c⟩
  · unfold m_X11_draw
    rw [if_neg (show ¬ nI n < 1 from nI_nlt (a := n) (b := 1) (by omega) (by omega)), if_pos (show nI n ≤ 20 from nI_le (b := 20) (by omega) (by omega))]
    exact f1
  · unfold m_X12_draw
    rw [liesI, bd_some, b2i_t (by exact hn), if_neg one_ne]
    exact d1
  · have e3 : hI gR 42 3 = nI E'.m := by rw [d5.i rfl, f3.1]
    refine ⟨by rw [d2.1, e3], by rw [e3, nI_toInt (by omega)]; omega, by rw [e3, nI_toInt (by omega)]; omega, ?_, fun i hi => ?_⟩
    · rw [e3, nI_clamp (by omega), d5.i rfl, f5.1]
      exact (sumW_congr2 E'.m (fun i hi => by show hI gR 45 i = _; rw [d5.i rfl, (f5.2 i hi).2.2.1])).symm
    · rw [e3, nI_toInt (by omega)] at hi
      obtain ⟨u1, u2, u3⟩ := f5.2 i (by omega)
      obtain ⟨w1, w2, w3⟩ := d3 i (by omega)
      show (hI gR 94 i = hI gR 43 i ∧ 0 ≤ (hI gR 43 i).toInt ∧ (hI gR 43 i).toInt ≤ 5) ∧ (hI gR 95 i = hI gR 44 i ∧ 0 ≤ (hI gR 44 i).toInt ∧ (hI gR 44 i).toInt ≤ 11) ∧ (hI gR 96 i = hI gR 45 i ∧ 1 ≤ (hI gR 45 i).toInt ∧ (hI gR 45 i).toInt ≤ 24)
      rw [w1, w2, w3, d5.i (k := 43) rfl, d5.i (k := 44) rfl, d5.i (k := 45) rfl, u1.1, u2.1, u3.1]
      exact ⟨⟨rfl, u1.2⟩, ⟨rfl, u2.2⟩, ⟨rfl, u3.2⟩⟩
  · refine ⟨by rw [d4, d5.i rfl, f6], ?_, ?_⟩
    · rw [d5.i rfl, f6, nI_toInt (by omega)]; omega
    · rw [d5.i rfl, f6, nI_toInt (by omega)]; omega
  · exact f4.1 ▸ d2.2.2.2.1.1
  · exact f4.2.1 ▸ d2.2.2.2.1.2
