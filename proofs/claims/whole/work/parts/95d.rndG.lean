/-! rounds: going on -/
theorem fxS_found {step : Nat → Option (List Nat)} {r : List Nat} : ∀ e q l, q ≤ l → l < q + e → (∀ u, q ≤ u → u < l → step u = none) → step l = some r → fxS step e q = some r
  | 0, q, l, h1, h2, _, _ => by omega
  | e + 1, q, l, h1, h2, h3, h4 => by
    rw [fxS]
    by_cases hq : l = q
    · subst hq; rw [h4]
    · rw [h3 q (Nat.le_refl _) (by omega)]
      exact fxS_found e (q + 1) l (by omega) (by omega) (fun u h5 h6 => h3 u (by omega) h6) h4
theorem fx_some {F : Nat → Nat → Nat → Nat → Bool} {r0 r1 : Nat} (hF : ∀ s a b l, l < 32 → F s a b l = true → 1 ≤ l ∧ l ≤ 24) {d i a b : Nat} (h : ext F r0 r1 d i a b = true) : ∃ L, fx F r0 r1 d i a b = some L := by
  cases hx : fx F r0 r1 d i a b with
  | none => rw [fx_ext hF] at hx; rw [hx] at h; cases h
  | some L => exact ⟨L, rfl⟩
abbrev PVg : Nat → Nat → Bool := fun k i => PC k i || k == 32 || k == 68
theorem pv_pvg {h g : AHp} (c : Ch PV h g) : Ch PVg h g := c.mono (fun k i hp => (Bool.or_eq_false_iff.mp hp).1)
theorem c32_pvg {h g : AHp} (c : Ch (fun k _ => k == 32) h g) : Ch PVg h g := c.mono (fun k i hp => by
  simp only [Bool.or_eq_false_iff] at hp; exact hp.1.2)
section GOES
variable {E : En} {t c n r0 r1 : Nat}
def RwX (E : En) (t c n r0 r1 : Nat) (g : AHp) : Prop := CX E g ∧ RdX E t g ∧ MG g c (GR E t) ∧ Alv E t g ∧ hI g 67 6 = nI n ∧ hI g 68 0 = nI r0 ∧ hI g 68 1 = nI r1
theorem RwX.pv {h g : AHp} (x : RwX E t c n r0 r1 h) (ch : Ch PV h g) (x1 : CX E g) (m1 : MG g c (GR E t)) : RwX E t c n r0 r1 g := by
  obtain ⟨_, a2, _, a4, a5, a6, a7⟩ := x
  exact ⟨x1, a2.ch ch ⟨rfl, rfl, rfl, rfl⟩, m1, ⟨fun s2 a2 b2 h1 h2 => by rw [ch.i rfl]; exact a4.1 s2 a2 b2 h1 h2, fun s2 b2 a2 h1 h2 h3 h4 => by rw [ch.i rfl] at h4; exact a4.2 s2 b2 a2 h1 h2 h3 h4⟩, by rw [ch.i rfl, a5], by rw [ch.i rfl, a6], by rw [ch.i rfl, a7]⟩
theorem RwX.row {h : AHp} (x : RwX E t c n r0 r1 h) {i : Nat} (hi : 2 ≤ i) (v : Int32) : RwX E t c n r0 r1 (sI h 68 i v) := by
  obtain ⟨a1, a2, a3, a4, a5, a6, a7⟩ := x
  have ch : Ch (fun k z => k == 68 && z == i) h (sI h 68 i v) := Ch.rf.sI (by simp)
  have hz : ∀ z, z ≠ i → ((fun k z => k == 68 && z == i) : Nat → Nat → Bool) 68 z = false := fun z hz => by simp [hz]
  exact ⟨a1.po (Ch.rf.sI rfl), a2.ch ch ⟨rfl, rfl, rfl, rfl⟩, a3.ch ch rfl (fun _ => rfl), ⟨fun s2 a2 b2 h1 h2 => by rw [ch.i rfl]; exact a4.1 s2 a2 b2 h1 h2, fun s2 b2 a2 h1 h2 h3 h4 => by rw [ch.i rfl] at h4; exact a4.2 s2 b2 a2 h1 h2 h3 h4⟩, by rw [ch.i rfl, a5], by rw [ch.i (hz 0 (by omega)), a6], by rw [ch.i (hz 1 (by omega)), a7]⟩
theorem goesC (ht : t ≤ 11) (hn : n = 2 ∨ n = 4 ∨ n = 6) (hr0 : 1 ≤ r0 ∧ r0 ≤ 24) (hr1 : 1 ≤ r1 ∧ r1 ≤ 24) : ∀ (d i a b p f : Nat) (g : AHp), i + d = n → d < f → 2 ≤ i → (1 ≤ a ∧ a ≤ 24) → (1 ≤ b ∧ b ≤ 24) → pth (FR E t) p 0 r1 r0 (i % 2) a b → RwX E t c n r0 r1 g → hI g 68 (i - 1) = nI a → hI g 68 (i - 2) = nI b →
    ∃ g1, m_X5_goesOn f (nI i) g = some (if ext (FR E t) r0 r1 d i a b = true then 1 else 0, g1) ∧ RwX E t c n r0 r1 g1 ∧ (∀ L, fx (FR E t) r0 r1 d i a b = some L → ∀ j, j < d → hI g1 68 (i + j) = nI (L.getD j 0)) ∧ (∀ j, j < i → hI g1 68 j = hI g 68 j) ∧ Ch PVg g g1 := by
  have hFb : ∀ s a b l, l < 32 → FR E t s a b l = true → 1 ≤ l ∧ l ≤ 24 := fun s a b l _ h => (FR_b ht s a b l h).1
  intro d
  induction d with
  | zero =>
    intro i a b p f g hi hf h2 ha hb pre x ea eb
    obtain ⟨f, rfl⟩ : ∃ a, f = a + 1 := ⟨f - 1, by omega⟩
    have hin : i = n := by omega
    obtain ⟨a1, a2, a3, a4, a5, a6, a7⟩ := id x
    obtain ⟨y, g1, e1, hy, x1, mg1, c1⟩ := folC ht (show 0 ≤ 1 by omega) ha.2 hb.2 a1 a2 a3
    have w1 := x.pv c1 x1 mg1
    obtain ⟨z, g2, e2, hz, x2, mg2, c2⟩ := folC ht (show 1 ≤ 1 by omega) hr0.2 ha.2 w1.1 w1.2.1 w1.2.2.1
    have w2 := w1.pv c2 x2 mg2
    have es : m_X5_goesOn (f + 1) (nI i) g = (bd (m_X5_following 0 (nI a) (nI b) g) fun r26 h27 => (if ((r26 >>> ((hI h27 68 (0 : Int32).toNatClampNeg) &&& 31)) &&& 1) = 0 then (some (0, h27)) else (bd (m_X5_following 1 (hI h27 68 (0 : Int32).toNatClampNeg) (nI a) h27) fun r28 h29 => (if ((r28 >>> ((hI h29 68 (1 : Int32).toNatClampNeg) &&& 31)) &&& 1) = 0 then (some (0, h29)) else (some (1, h29)))))) := by
      rw [m_X5_goesOn]; unfold m_X5_goesOn_b
      rw [if_neg (show ¬ nI i < 2 from nI_nlt (a := i) (b := 2) (by omega) (by omega)), a5, if_neg (nI_nlt (by omega) (by omega)), if_pos (show nI i ≤ 6 from nI_le (b := 6) (by omega) (by omega)), show nI i - 1 = nI (i - 1) from pk_sub (a := i) (b := 1) (by omega), show nI i - 2 = nI (i - 2) from pk_sub (a := i) (b := 2) (by omega)]
      simp only [gd_pos (inb_nI (n := i - 1) (N := 6) (by omega) (by omega)), gd_pos (inb_nI (n := i - 2) (N := 6) (by omega) (by omega)), nI_clamp (n := i - 1) (show i - 1 < 2 ^ 31 by omega), nI_clamp (n := i - 2) (show i - 2 < 2 ^ 31 by omega), lt_eq, ea, eb]
      rw [if_pos (by rw [hin])]
    rw [es, ext]
    rw [show m_X5_following 0 (nI a) (nI b) g = _ from e1, bd_some, show (0 : Int32).toNatClampNeg = 0 from rfl, show (1 : Int32).toNatClampNeg = 1 from rfl, w1.2.2.2.2.2.1]
    have hy0 := hy r0 (by omega)
    cases hF0 : FR E t 0 a b r0 with
    | false =>
      rw [hF0] at hy0
      refine ⟨g1, by rw [if_pos ((hasC (by omega)).mpr hy0)]; rfl, w1, fun L h => ?_, fun j _ => by rw [c1.i rfl], pv_pvg c1⟩
      rw [fx, hF0] at h; cases h
    | true =>
      rw [hF0] at hy0
      rw [if_neg (fun q => by rw [(hasC (by omega)).mp q] at hy0; cases hy0)]
      rw [show m_X5_following 1 (nI r0) (nI a) g1 = _ from e2, bd_some, w2.2.2.2.2.2.2]
      have hz1 := hz r1 (by omega)
      cases hF1 : FR E t 1 r0 a r1 with
      | false =>
        rw [hF1] at hz1
        refine ⟨g2, by rw [if_pos ((hasC (by omega)).mpr hz1)]; rfl, w2, fun L h j hj => by omega, fun j _ => by rw [c2.i rfl, c1.i rfl], (pv_pvg c1).trans (pv_pvg c2)⟩
      | true =>
        rw [hF1] at hz1
        refine ⟨g2, by rw [if_neg (fun q => by rw [(hasC (by omega)).mp q] at hz1; cases hz1)]; rfl, w2, fun L h j hj => by omega, fun j _ => by rw [c2.i rfl, c1.i rfl], (pv_pvg c1).trans (pv_pvg c2)⟩
  | succ d ih =>
    intro i a b p f g hi hf h2 ha hb pre x ea eb
    obtain ⟨f, rfl⟩ : ∃ a, f = a + 1 := ⟨f - 1, by omega⟩
    obtain ⟨a1, a2, a3, a4, a5, a6, a7⟩ := id x
    have hkb : 1250 + i * 625 + a * 25 + b < 12500 := by omega
    have e2i : nI i - nI i / 2 * 2 = nI (i % 2) := pk_rem (a := i) (d := 2) (by omega) (by omega) (by omega)
    have ekey : ((1250 + (nI i * 625)) + (nI a * 25)) + nI b = nI (1250 + i * 625 + a * 25 + b) := by
      rw [show nI i * 625 = nI (i * 625) from pk_mul i 625, show nI a * 25 = nI (a * 25) from pk_mul a 25, show (1250 : Int32) + nI (i * 625) = nI (1250 + i * 625) from nI_add 1250 _, nI_add, nI_add]
    have estart : ((nI n * 625) + (nI r0 * 25)) + nI r1 = nI (n * 625 + r0 * 25 + r1) := by
      rw [show nI n * 625 = nI (n * 625) from pk_mul n 625, show nI r0 * 25 = nI (r0 * 25) from pk_mul r0 25, nI_add, nI_add]
    have hdead : ∀ v, GR E t (1250 + i * 625 + a * 25 + b) v → v = nI (n * 625 + r0 * 25 + r1) → ext (FR E t) r0 r1 (d + 1) i a b = false := fun v hv he => by
      have := hv.2 (by omega) n r0 r1 (by omega) (by omega) (by omega) he
      rw [show (1250 + i * 625 + a * 25 + b - 1250) / 625 = i by omega, show (1250 + i * 625 + a * 25 + b - 1250) % 625 / 25 = a by omega, show (1250 + i * 625 + a * 25 + b - 1250) % 25 = b by omega, show n - i = d + 1 by omega] at this
      exact this
    have hput : ext (FR E t) r0 r1 (d + 1) i a b = false → GR E t (1250 + i * 625 + a * 25 + b) (nI (n * 625 + r0 * 25 + r1)) := fun h => by
      refine ⟨fun h3 => by omega, fun _ n2 s0 s1 h3 h4 h5 h6 => ?_⟩
      rw [i32_eq, nI_toInt (by omega), nI_toInt (by omega)] at h6
      have : n2 = n ∧ s0 = r0 ∧ s1 = r1 := by omega
      obtain ⟨rfl, rfl, rfl⟩ := this
      rw [show (1250 + i * 625 + a * 25 + b - 1250) / 625 = i by omega, show (1250 + i * 625 + a * 25 + b - 1250) % 625 / 25 = a by omega, show (1250 + i * 625 + a * 25 + b - 1250) % 25 = b by omega, show n2 - i = d + 1 by omega]
      exact h
    have nolist : ext (FR E t) r0 r1 (d + 1) i a b = false → ∀ L, fx (FR E t) r0 r1 (d + 1) i a b = some L → False := fun h L hL => by
      rw [(fx_ext hFb (d + 1) i a b).mpr h] at hL; cases hL
    /- the loop over lengths -/
    have h181 : ∃ g1, m_X5_goesOn_b_181 (m_X5_goesOn f) (nI i) (nI a) (nI b) (nI (1250 + i * 625 + a * 25 + b)) (nI (n * 625 + r0 * 25 + r1)) (nI ((1 - i % 2) * 25)) g = some (if ext (FR E t) r0 r1 (d + 1) i a b = true then 1 else 0, g1) ∧ RwX E t c n r0 r1 g1 ∧ (∀ L, fx (FR E t) r0 r1 (d + 1) i a b = some L → ∀ j, j < d + 1 → hI g1 68 (i + j) = nI (L.getD j 0)) ∧ (∀ j, j < i → hI g1 68 j = hI g 68 j) ∧ Ch PVg g g1 := by
      obtain ⟨y, g1, e1, hy, x1, mg1, c1⟩ := folC ht (show i % 2 ≤ 1 by omega) ha.2 hb.2 a1 a2 a3
      have w1 := x.pv c1 x1 mg1
      have loop : ∀ (e l f2 : Nat) (g2 : AHp), l + e = 25 → 1 ≤ l → e < f2 → RwX E t c n r0 r1 g2 → (∀ j, j < i → hI g2 68 j = hI g 68 j) → (∀ u, 1 ≤ u → u < l → (FR E t (i % 2) a b u && ext (FR E t) r0 r1 d (i + 1) u a) = false) →
          ∃ g3, m_X5_goesOn_b_226 (m_X5_goesOn f) f2 (nI i) (nI (1250 + i * 625 + a * 25 + b)) (nI (n * 625 + r0 * 25 + r1)) (y &&& hI g1 69 ((1 - i % 2) * 25 + a)) (nI l) g2 = some (if ext (FR E t) r0 r1 (d + 1) i a b = true then 1 else 0, g3) ∧ RwX E t c n r0 r1 g3 ∧ (∀ L, fx (FR E t) r0 r1 (d + 1) i a b = some L → ∀ j, j < d + 1 → hI g3 68 (i + j) = nI (L.getD j 0)) ∧ (∀ j, j < i → hI g3 68 j = hI g 68 j) ∧ Ch PVg g2 g3 := by
        have hbit : ∀ l, l < 32 → tb (y &&& hI g1 69 ((1 - i % 2) * 25 + a)) l = false → (FR E t (i % 2) a b l && ext (FR E t) r0 r1 d (i + 1) l a) = false := fun l hl hbf => by
          cases hq : (FR E t (i % 2) a b l && ext (FR E t) r0 r1 d (i + 1) l a) with
          | false => rfl
          | true =>
            rw [Bool.and_eq_true] at hq
            have pre2 := pth_snoc p 0 r1 r0 (i % 2) a b l pre hq.1
            rw [show 1 - i % 2 = (i + 1) % 2 by omega] at pre2
            have hon := ext_on (by omega) pre2 hq.2
            have hal := w1.2.2.2.1.1 _ _ _ (show (i + 1) % 2 ≤ 1 by omega) hon
            rw [show (i + 1) % 2 = 1 - i % 2 by omega] at hal
            rw [tb_and, hy l hl, hq.1, hal] at hbf; cases hbf
        have finish : ∀ g2, RwX E t c n r0 r1 g2 → (∀ j, j < i → hI g2 68 j = hI g 68 j) → (∀ u, 1 ≤ u → u ≤ 24 → (FR E t (i % 2) a b u && ext (FR E t) r0 r1 d (i + 1) u a) = false) → ∃ g3, (bd (m_X3_put (nI (1250 + i * 625 + a * 25 + b)) (nI (n * 625 + r0 * 25 + r1)) g2) fun r1 h2 => (some ((0 : Int32), h2))) = some (if ext (FR E t) r0 r1 (d + 1) i a b = true then 1 else 0, g3) ∧ RwX E t c n r0 r1 g3 ∧ (∀ L, fx (FR E t) r0 r1 (d + 1) i a b = some L → ∀ j, j < d + 1 → hI g3 68 (i + j) = nI (L.getD j 0)) ∧ (∀ j, j < i → hI g3 68 j = hI g 68 j) ∧ Ch PVg g2 g3 := by
          intro g2 w2 ho hall
          have hext : ext (FR E t) r0 r1 (d + 1) i a b = false := by
            rw [ext]
            cases hq : anyT (fun l => FR E t (i % 2) a b l && ext (FR E t) r0 r1 d (i + 1) l a) 25 with
            | false => rfl
            | true =>
              obtain ⟨l, h3, h4⟩ := (anyT_iff 25).mp hq
              have h5 := h4
              rw [Bool.and_eq_true] at h5
              have h6 := hFb _ _ _ _ (by omega) h5.1
              rw [hall l h6.1 h6.2] at h4; cases h4
          obtain ⟨g3, e3, m3, -, -, c3⟩ := w2.2.2.1.put hkb (hput hext)
          refine ⟨g3, by rw [e3, bd_some, hext]; rfl, w2.pv (c32_pv c3) (w2.1.po (c32_po c3)) m3, fun L h => (nolist hext L h).elim, fun j hj => by rw [c3.i rfl]; exact ho j hj, c32_pvg c3⟩
        intro e
        induction e with
        | zero =>
          intro l f2 g2 hl h1 hf2 w2 ho hall
          obtain ⟨f2, rfl⟩ : ∃ a, f2 = a + 1 := ⟨f2 - 1, by omega⟩
          have : l = 25 := by omega
          subst this
          rw [m_X5_goesOn_b_226, if_pos (by decide)]
          exact finish g2 w2 ho (fun u h1 h2 => hall u h1 (by omega))
        | succ e ihe =>
          intro l f2 g2 hl h1 hf2 w2 ho hall
          obtain ⟨f2, rfl⟩ : ∃ a, f2 = a + 1 := ⟨f2 - 1, by omega⟩
          rw [m_X5_goesOn_b_226, if_neg (show ¬ 24 < nI l from nI_nlt (a := 24) (b := l) (by omega) (by omega))]
          by_cases h0 : y &&& hI g1 69 ((1 - i % 2) * 25 + a) = 0
          · rw [if_pos h0]
            exact finish g2 w2 ho (fun u h1 h2 => hbit u (by omega) (by rw [h0, tb_zero]))
          rw [if_neg h0, gd_pos (inb_nI (by omega) (by omega)), nI_clamp (by omega), lt_eq]
          have w3 := w2.row h2 (nI l)
          have ho3 : ∀ j, j < i → hI (sI g2 68 i (nI l)) 68 j = hI g 68 j := fun j hj => by rw [hI_sI, if_neg (by omega)]; exact ho j hj
          have cw : Ch PVg g2 (sI g2 68 i (nI l)) := Ch.rf.sI (by simp)
          cases hbt : tb (y &&& hI g1 69 ((1 - i % 2) * 25 + a)) l with
          | false =>
            rw [if_pos ((hasC (by omega)).mpr hbt), lt_eq, nI_1]
            obtain ⟨g4, e4, w4, q4, o4, c4⟩ := ihe (l + 1) f2 (sI g2 68 i (nI l)) (by omega) (by omega) (by omega) w3 ho3 (fun u h3 h4 => by
              by_cases hu : u = l
              · subst hu; exact hbit u (by omega) hbt
              · exact hall u h3 (by omega))
            exact ⟨g4, e4, w4, q4, o4, cw.trans c4⟩
          | true =>
            have hFl : FR E t (i % 2) a b l = true := by
              rw [tb_and, hy l (by omega), Bool.and_eq_true] at hbt; exact hbt.1
            have pre2 := pth_snoc p 0 r1 r0 (i % 2) a b l pre hFl
            rw [show 1 - i % 2 = (i + 1) % 2 by omega] at pre2
            obtain ⟨g4, e4, w4, q4, o4, c4⟩ := ih (i + 1) l a (p + 1) f (sI g2 68 i (nI l)) (by omega) (by omega) (by omega) ⟨h1, by omega⟩ ha pre2 w3 (by rw [Nat.add_sub_cancel, sI_same]) (by rw [show i + 1 - 2 = i - 1 by omega, ho3 (i - 1) (by omega), ea])
            rw [if_neg (fun q => by rw [(hasC (by omega)).mp q] at hbt; cases hbt), nI_1, e4, bd_some]
            have ho4 : ∀ j, j < i → hI g4 68 j = hI g 68 j := fun j hj => by rw [o4 j (by omega)]; exact ho3 j hj
            cases hx : ext (FR E t) r0 r1 d (i + 1) l a with
            | false =>
              rw [i01_f, if_pos rfl, lt_eq, nI_1]
              obtain ⟨g5, e5, w5, q5, o5, c5⟩ := ihe (l + 1) f2 g4 (by omega) (by omega) (by omega) w4 ho4 (fun u h3 h4 => by
                by_cases hu : u = l
                · subst hu; rw [hx, Bool.and_false]
                · exact hall u h3 (by omega))
              exact ⟨g5, e5, w5, q5, o5, (cw.trans c4).trans c5⟩
            | true =>
              rw [i01_t, if_neg one_ne]
              have hext : ext (FR E t) r0 r1 (d + 1) i a b = true := by
                rw [ext]; exact (anyT_iff 25).mpr ⟨l, by omega, by rw [hFl, hx]; rfl⟩
              obtain ⟨L1, hL1⟩ := fx_some hFb hx
              have hfx : fx (FR E t) r0 r1 (d + 1) i a b = some (l :: L1) := by
                rw [fx]
                refine fxS_found 24 1 l h1 (by omega) (fun u h3 h4 => ?_) (by rw [if_pos hFl, hL1]; rfl)
                by_cases hFu : FR E t (i % 2) a b u = true
                · rw [if_pos hFu]
                  have := hall u h3 h4
                  rw [hFu, Bool.true_and] at this
                  rw [(fx_ext hFb d (i + 1) u a).mpr this]; rfl
                · rw [if_neg hFu]
              refine ⟨g4, by rw [hext]; rfl, w4, fun L h j hj => ?_, ho4, cw.trans c4⟩
              rw [hfx] at h; cases h
              by_cases hj0 : j = 0
              · subst hj0; rw [Nat.add_zero, o4 i (by omega), sI_same]; rfl
              · have := q4 L1 hL1 (j - 1) (by omega)
                rw [show i + 1 + (j - 1) = i + j by omega] at this
                rw [this]
                obtain ⟨j2, rfl⟩ : ∃ j2, j = j2 + 1 := ⟨j - 1, by omega⟩
                rfl
      unfold m_X5_goesOn_b_181
      rw [nI_add, lt_eq, if_neg (nI_pos (by omega)), if_neg (show ¬ 50 ≤ nI ((1 - i % 2) * 25 + a) from nI_ge (a := (1 - i % 2) * 25 + a) (b := 50) (by omega) (by omega)), e2i, e1, bd_some, gd_pos (inb_nI (by omega) (by omega)), nI_clamp (by omega), lt_eq]
      obtain ⟨g3, e3, w3, q3, o3, c3⟩ := loop 24 1 FU g1 (by omega) (by omega) (by unfold FU; omega) w1 (fun j _ => by rw [c1.i rfl]) (fun u h1 h2 => by omega)
      exact ⟨g3, e3, w3, q3, o3, (pv_pvg c1).trans c3⟩
    have h181' : ∃ g1, (if (nI i - nI i / 2 * 2) = 0 then (m_X5_goesOn_b_181 (m_X5_goesOn f) (nI i) (nI a) (nI b) (nI (1250 + i * 625 + a * 25 + b)) (nI (n * 625 + r0 * 25 + r1)) 25 g) else (m_X5_goesOn_b_181 (m_X5_goesOn f) (nI i) (nI a) (nI b) (nI (1250 + i * 625 + a * 25 + b)) (nI (n * 625 + r0 * 25 + r1)) 0 g)) = some (if ext (FR E t) r0 r1 (d + 1) i a b = true then 1 else 0, g1) ∧ RwX E t c n r0 r1 g1 ∧ (∀ L, fx (FR E t) r0 r1 (d + 1) i a b = some L → ∀ j, j < d + 1 → hI g1 68 (i + j) = nI (L.getD j 0)) ∧ (∀ j, j < i → hI g1 68 j = hI g 68 j) ∧ Ch PVg g g1 := by
      rw [e2i]
      by_cases hp : i % 2 = 0
      · rw [if_pos (by rw [hp]; rfl)]
        rw [hp] at h181; exact h181
      · rw [if_neg (fun z => hp ((nI_zero_iff (by omega)).mp z))]
        rw [show i % 2 = 1 by omega] at h181; exact h181
    have es : m_X5_goesOn (f + 1) (nI i) g = (bd (m_X3_has (nI (1250 + i * 625 + a * 25 + b)) g) fun r22 h23 => (if r22 = 0 then (if (nI i - nI i / 2 * 2) = 0 then (m_X5_goesOn_b_181 (m_X5_goesOn f) (nI i) (nI a) (nI b) (nI (1250 + i * 625 + a * 25 + b)) (nI (n * 625 + r0 * 25 + r1)) 25 h23) else (m_X5_goesOn_b_181 (m_X5_goesOn f) (nI i) (nI a) (nI b) (nI (1250 + i * 625 + a * 25 + b)) (nI (n * 625 + r0 * 25 + r1)) 0 h23)) else (bd (m_X3_get (nI (1250 + i * 625 + a * 25 + b)) h23) fun r24 h25 => (if r24 = nI (n * 625 + r0 * 25 + r1) then (some (0, h25)) else (if (nI i - nI i / 2 * 2) = 0 then (m_X5_goesOn_b_181 (m_X5_goesOn f) (nI i) (nI a) (nI b) (nI (1250 + i * 625 + a * 25 + b)) (nI (n * 625 + r0 * 25 + r1)) 25 h25) else (m_X5_goesOn_b_181 (m_X5_goesOn f) (nI i) (nI a) (nI b) (nI (1250 + i * 625 + a * 25 + b)) (nI (n * 625 + r0 * 25 + r1)) 0 h25)))))) := by
      rw [m_X5_goesOn]; unfold m_X5_goesOn_b
      rw [if_neg (show ¬ nI i < 2 from nI_nlt (a := i) (b := 2) (by omega) (by omega)), a5, if_neg (nI_nlt (by omega) (by omega)), if_pos (show nI i ≤ 6 from nI_le (b := 6) (by omega) (by omega)), show nI i - 1 = nI (i - 1) from pk_sub (a := i) (b := 1) (by omega), show nI i - 2 = nI (i - 2) from pk_sub (a := i) (b := 2) (by omega)]
      simp only [gd_pos (inb_nI (n := i - 1) (N := 6) (by omega) (by omega)), gd_pos (inb_nI (n := i - 2) (N := 6) (by omega) (by omega)), nI_clamp (n := i - 1) (show i - 1 < 2 ^ 31 by omega), nI_clamp (n := i - 2) (show i - 2 < 2 ^ 31 by omega), lt_eq, ea, eb, show (0 : Int32).toNatClampNeg = 0 from rfl, show (1 : Int32).toNatClampNeg = 1 from rfl, a6, a7, ekey, estart]
      rw [if_neg (by rw [i32_eq, nI_toInt (by omega), nI_toInt (by omega)]; omega)]
    rw [es]
    rcases a3.hd hkb with hh | ⟨v, hv, -, hh, hget⟩
    · rw [hh, bd_some, if_pos rfl]; exact h181'
    · rw [hh, bd_some, if_neg one_ne, hget, bd_some]
      by_cases hvs : v = nI (n * 625 + r0 * 25 + r1)
      · have hext := hdead v hv hvs
        exact ⟨g, by rw [if_pos hvs, hext]; rfl, x, fun L h => (nolist hext L h).elim, fun j _ => rfl, Ch.rf⟩
      · rw [if_neg hvs]; exact h181'
end GOES
