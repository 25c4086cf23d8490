/-! rounds: the reference's tables -/
def GF (E : En) (t s a b l : Nat) : Bool := tb (E.siz t) a && tb (E.siz t) b && FR E t s a b l
def cwR (E : En) (t r0 r1 : Nat) : Nat → Nat → Nat → Nat → Bool
  | 0, _, a, b => decide (a = r1) && decide (b = r0)
  | d + 1, k, a, b => anyT (fun l => GF E t (k % 2) a b l && cwR E t r0 r1 d (k + 1) l a) 25
section RM
variable {E : En} {t : Nat}
theorem cw_ext (ht : t ≤ 11) {r0 r1 : Nat} : ∀ d i a b, 2 ≤ i → (i + d) % 2 = 0 → tb (E.siz t) a = true → tb (E.siz t) b = true → cwR E t r0 r1 (d + 2) (i - 2) a b = ext (FR E t) r0 r1 d i a b
  | 0, i, a, b, h2, hp, hA, hB => by
    rw [Bool.eq_iff_iff, cwR, ext, anyT_iff, Bool.and_eq_true]
    constructor
    · rintro ⟨x, hx, h⟩
      rw [Bool.and_eq_true, cwR, anyT_iff] at h
      obtain ⟨h3, y, hy, h4⟩ := h
      rw [Bool.and_eq_true, cwR, Bool.and_eq_true, decide_eq_true_eq, decide_eq_true_eq] at h4
      obtain ⟨h5, rfl, rfl⟩ := h4
      unfold GF at h3 h5
      rw [Bool.and_eq_true] at h3 h5
      rw [show (i - 2) % 2 = 0 by omega] at h3
      rw [show (i - 2 + 1) % 2 = 1 by omega] at h5
      exact ⟨h3.2, h5.2⟩
    · rintro ⟨h3, h4⟩
      have b0 := (FR_b ht _ _ _ _ h3).1
      have b1 := (FR_b ht _ _ _ _ h4).1
      refine ⟨r0, by omega, ?_⟩
      rw [Bool.and_eq_true, cwR, anyT_iff]
      refine ⟨by unfold GF; rw [show (i - 2) % 2 = 0 by omega, hA, hB, h3]; rfl, r1, by omega, ?_⟩
      rw [Bool.and_eq_true, cwR]
      exact ⟨by unfold GF; rw [show (i - 2 + 1) % 2 = 1 by omega, FR_siz h3, hA, h4]; rfl, by simp⟩
  | d + 1, i, a, b, h2, hp, hA, hB => by
    rw [show d + 1 + 2 = (d + 2) + 1 from rfl, cwR, ext]
    refine anyT_congr 25 (fun l hl => ?_)
    unfold GF
    rw [hA, hB, show (i - 2) % 2 = i % 2 by omega]
    simp only [Bool.true_and]
    cases hF : FR E t (i % 2) a b l with
    | false => rfl
    | true => rw [show i - 2 + 1 = i + 1 - 2 by omega, cw_ext ht d (i + 1) l a (by omega) (by omega) (FR_siz hF) hA]
def LRd (E : En) (t N : Nat) (g : AHp) : Prop := ∀ s a b, s ≤ 1 → a ≤ 24 → b ≤ 24 → 625 * s + (25 * a + b) < N → ∀ l, l < 32 → tb (hI g 111 (625 * s + (25 * a + b))) l = GF E t s a b l
abbrev P11 : Nat → Nat → Bool := fun k i => PMo k i || k == 111 || k == 112 || k == 113
theorem pmo_p11 {h g : AHp} (c : Ch PMo h g) : Ch P11 h g := c.mono (fun k i hp => by
  simp only [Bool.or_eq_false_iff] at hp ⊢; exact hp.1.1.1)
theorem p11_pkm {h g : AHp} (c : Ch P11 h g) : Ch PKm h g := c.mono (fun k i hp => by
  simp only [Bool.or_eq_false_iff, Bool.and_eq_false_iff, beq_eq_false_iff_ne, ble_f] at hp ⊢; omega)
theorem lay9 (ht : t ≤ 11) (k2 : Int32 → Int32 → AHp → Option (Unit × AHp)) {s : Nat} (hs : s ≤ 1) : ∀ (d p f : Nat) (g : AHp), p + d = 625 → d < f → RX E g → LRd E t (625 * s + p) g → ∃ g1, m_X12_laysRound_9 k2 f (nI t) (nI s) (nI p) g = k2 (nI t) (nI (s + 1)) g1 ∧ RX E g1 ∧ LRd E t (625 * (s + 1)) g1 ∧ Ch P11 g g1 := by
  have hm := E.hm
  intro d
  induction d with
  | zero =>
    intro p f g hp hf x ly
    obtain ⟨f, rfl⟩ : ∃ a, f = a + 1 := ⟨f - 1, by omega⟩
    have : p = 625 := by omega
    subst this
    exact ⟨g, by rw [m_X12_laysRound_9, if_pos (by decide), lt_eq, nI_1], x, (by rw [show 625 * (s + 1) = 625 * s + 625 by omega]; exact ly), Ch.rf⟩
  | succ d ih =>
    intro p f g hp hf x ly
    obtain ⟨f, rfl⟩ : ∃ a, f = a + 1 := ⟨f - 1, by omega⟩
    have ed : nI p / 25 = nI (p / 25) := pk_div (a := p) (d := 25) (by omega) (by omega) (by omega)
    have em : nI p - nI p / 25 * 25 = nI (p % 25) := pk_rem (a := p) (d := 25) (by omega) (by omega) (by omega)
    have ex : (625 : Int32) * nI s + nI p = nI (625 * s + p) := by rw [show (625 : Int32) * nI s = nI (625 * s) from pk_mul 625 s, nI_add]
    have e1s : (1 : Int32) - nI s = nI (1 - s) := pk_sub (a := 1) (b := s) hs
    have epair : p = 25 * (p / 25) + p % 25 := by omega
    have hpa : p / 25 ≤ 24 := by omega
    have hpb : p % 25 ≤ 24 := by omega
    have htt : 0 ≤ (nI t).toInt ∧ (nI t).toInt ≤ 11 := by rw [nI_toInt (by omega)]; omega
    have ect : (nI t).toNatClampNeg = t := nI_clamp (by omega)
    have c0 : Ch PSt g (sI (sI (sI (sI g 70 39 (nI E.m)) 70 36 (nI (p / 25))) 70 37 (nI (p % 25))) 70 38 (nI (1 - s))) := (((Ch.rf.sI rfl).sI rfl).sI rfl).sI rfl
    have s0 : StM (sI (sI (sI (sI g 70 39 (nI E.m)) 70 36 (nI (p / 25))) 70 37 (nI (p % 25))) 70 38 (nI (1 - s))) (nI (p / 25)) (nI (p % 25)) (nI (1 - s)) (nI E.m) := ⟨rfl, rfl, rfl, rfl⟩
    have x0 := x.pmo (pst_pmo c0)
    have em2 : nI p - nI (p / 25) * 25 = nI (p % 25) := by rw [← ed]; exact em
    rw [m_X12_laysRound_9, if_neg (show ¬ 625 ≤ nI p from nI_ge (a := p) (b := 625) (by omega) (by omega))]
    simp only [ed, em2, ex, e1s, x.1, lt_eq, nI_1, gd_pos (inb_nI (n := t) (N := 12) (by omega) (by omega)), ect, gd_pos (inb_nI (n := 625 * s + p) (N := 1250) (by omega) (by omega)), nI_clamp (n := 625 * s + p) (show 625 * s + p < 2 ^ 31 by omega)]
    generalize sI (sI (sI (sI g 70 39 (nI E.m)) 70 36 (nI (p / 25))) 70 37 (nI (p % 25))) 70 38 (nI (1 - s)) = g0 at c0 s0 x0
    generalize hA : p / 25 = a at *
    generalize hB : p % 25 = b at *
    have next : ∀ (g2 : AHp) (v : Int32), Ch PMo g g2 → (∀ l, l < 32 → tb v l = GF E t s a b l) → ∃ g1, m_X12_laysRound_9 k2 f (nI t) (nI s) (nI (p + 1)) (sI g2 111 (625 * s + p) v) = k2 (nI t) (nI (s + 1)) g1 ∧ RX E g1 ∧ LRd E t (625 * (s + 1)) g1 ∧ Ch P11 g g1 := fun g2 v c2 hv => by
      have cw : Ch P11 g (sI g2 111 (625 * s + p) v) := (pmo_p11 c2).sI (by simp)
      obtain ⟨g1, e1, x1, l1, c1⟩ := ih (p + 1) f (sI g2 111 (625 * s + p) v) (by omega) (by omega) (x.pkm (p11_pkm cw)) (fun s2 a2 b2 h1 h2 h3 h4 l hl => by
        rw [hI_sI]
        by_cases he : 625 * s2 + (25 * a2 + b2) = 625 * s + p
        · have : s2 = s ∧ a2 = a ∧ b2 = b := by omega
          obtain ⟨rfl, rfl, rfl⟩ := this
          rw [if_pos ⟨rfl, he⟩, hv l hl]
        · rw [if_neg (by omega), c2.i rfl]; exact ly s2 a2 b2 h1 h2 h3 (by omega) l hl)
      exact ⟨g1, e1, x1, l1, cw.trans c1⟩
    have zero : (tb (E.siz t) a && tb (E.siz t) b) = false → ∀ l, l < 32 → tb 0 l = GF E t s a b l := fun h l _ => by unfold GF; rw [h, tb_zero]; rfl
    have tb0 : tb (E.siz t) 0 = false := by
      cases h : tb (E.siz t) 0 with
      | false => rfl
      | true => have := E.hsz t (by omega) 0 (by omega) h; omega
    by_cases hA0 : a = 0
    · rw [if_pos (by rw [hA0]; decide)]
      exact next g0 0 (pst_pmo c0) (zero (by rw [hA0, tb0]; rfl))
    rw [if_neg (nI_nle (by omega) (by omega))]
    by_cases hB0 : b = 0
    · rw [if_pos (by rw [hB0]; decide)]
      exact next g0 0 (pst_pmo c0) (zero (by rw [hB0, tb0, Bool.and_false]))
    rw [if_neg (nI_nle (by omega) (by omega)), x0.2.2.1.2 t (by omega), hasM _ (by omega), bd_some]
    cases hTa : tb (E.siz t) a with
    | false =>
      rw [i01_f, if_pos rfl]
      exact next g0 0 (pst_pmo c0) (zero (by rw [hTa]; rfl))
    | true =>
      rw [i01_t, if_neg one_ne, x0.2.2.1.2 t (by omega), hasM _ (by omega), bd_some]
      cases hTb : tb (E.siz t) b with
      | false =>
        rw [i01_f, if_pos rfl]
        exact next g0 0 (pst_pmo c0) (zero (by rw [hTb, Bool.and_false]))
      | true =>
        have hss : 0 ≤ (nI s).toInt ∧ (nI s).toInt ≤ 5 := by rw [nI_toInt (by omega)]; omega
        have hrr : -1 ≤ (nI (1 - s)).toInt ∧ (nI (1 - s)).toInt ≤ 5 := by rw [nI_toInt (by omega)]; omega
        obtain ⟨y, g1, e1, c1, x1, s1, q1⟩ := x0.ask s0 1 hss htt hrr
        rw [ect] at q1
        rw [i01_t, if_neg one_ne, e1, bd_some]
        exact next g1 y ((pst_pmo c0).trans (pws_pmo c1)) (fun l hl => by
          rw [q1 l hl]; unfold GF FR; rw [hTa, hTb, decide_eq_true hl]; simp)
theorem layRound {g : AHp} (ht : t ≤ 11) (x : RX E g) : ∃ g1, m_X12_laysRound (nI t) g = some ((), g1) ∧ RX E g1 ∧ LRd E t 1250 g1 ∧ Ch P11 g g1 := by
  have hFU : FU = (FU - 3) + 3 := by unfold FU; omega
  unfold m_X12_laysRound
  rw [hFU]
  generalize FU - 3 = f
  obtain ⟨g1, e1, x1, l1, c1⟩ := lay9 (s := 0) ht (m_X12_laysRound_2 (f + 2)) (by omega) 625 0 FU g (by omega) (by unfold FU; omega) x (fun s a b _ _ _ h => by omega)
  obtain ⟨g2, e2, x2, l2, c2⟩ := lay9 (s := 1) ht (m_X12_laysRound_2 (f + 1)) (by omega) 625 0 FU g1 (by omega) (by unfold FU; omega) x1 l1
  refine ⟨g2, ?_, x2, l2, c1.trans c2⟩
  rw [m_X12_laysRound_2, if_neg (by decide)]
  rw [show m_X12_laysRound_9 (m_X12_laysRound_2 (f + 2)) FU (nI t) 0 0 g = _ from e1, m_X12_laysRound_2, if_neg (by decide)]
  rw [show m_X12_laysRound_9 (m_X12_laysRound_2 (f + 1)) FU (nI t) (nI (0 + 1)) 0 g1 = _ from e2, m_X12_laysRound_2, if_pos (by decide)]
/-- a row of what comes back -/
def CbR (E : En) (t n r0 r1 k : Nat) (g : AHp) : Prop := ∀ a b, a ≤ 24 → b ≤ 24 → (hI g 112 (625 * k + (25 * a + b)) ≠ 0 ↔ cwR E t r0 r1 (n - k) k a b = true)
theorem back79 {n r0 r1 i a b : Nat} {y : Int32} (hi : i < n) (hn6 : n ≤ 6) (ha : a ≤ 24) (hb : b ≤ 24) (k41 : Int32 → AHp → Option (Unit × AHp)) (k48 : Int32 → Int32 → AHp → Option (Unit × AHp)) {g : AHp} (hy : ∀ l, l < 32 → tb y l = GF E t (i % 2) a b l) (hc : CbR E t n r0 r1 (i + 1) g) : ∀ (d l f : Nat) (fl : Bool), l + d = 25 → 1 ≤ l → d + 1 < f → (fl = true ↔ ∃ u, u < l ∧ GF E t (i % 2) a b u = true ∧ cwR E t r0 r1 (n - (i + 1)) (i + 1) u a = true) → m_X12_laysBack_79 k41 k48 f (nI i) (nI (25 * a + b)) (if fl = true then 1 else 0) y (nI l) g = m_X12_laysBack_142 k41 k48 (nI i) (nI (25 * a + b)) (if cwR E t r0 r1 (n - i) i a b = true then 1 else 0) g := by
  have hcw : ∀ fl : Bool, (fl = true ↔ ∃ u, u < 25 ∧ GF E t (i % 2) a b u = true ∧ cwR E t r0 r1 (n - (i + 1)) (i + 1) u a = true) → fl = cwR E t r0 r1 (n - i) i a b := fun fl h => by
    rw [Bool.eq_iff_iff, h, show n - i = (n - (i + 1)) + 1 by omega, cwR, anyT_iff]
    constructor
    · rintro ⟨u, h1, h2, h3⟩; exact ⟨u, h1, by rw [h2, h3]; rfl⟩
    · rintro ⟨u, h1, h2⟩; rw [Bool.and_eq_true] at h2; exact ⟨u, h1, h2⟩
  intro d
  induction d with
  | zero =>
    intro l f fl hl h1 hf hfl
    obtain ⟨f, rfl⟩ : ∃ a, f = a + 1 := ⟨f - 1, by omega⟩
    have : l = 25 := by omega
    subst this
    rw [m_X12_laysBack_79, if_pos (by decide), hcw fl hfl]
  | succ d ih =>
    intro l f fl hl h1 hf hfl
    obtain ⟨f, rfl⟩ : ∃ a, f = a + 1 := ⟨f - 1, by omega⟩
    rw [m_X12_laysBack_79, if_neg (show ¬ 24 < nI l from nI_nlt (a := 24) (b := l) (by omega) (by omega))]
    by_cases h0 : y = 0
    · rw [if_pos h0]
      have hnoF : ∀ u, u < 32 → GF E t (i % 2) a b u = false := fun u hu => by rw [← hy u hu, h0, tb_zero]
      rw [← hcw fl ?_]
      rw [hfl]
      constructor
      · rintro ⟨u, h2, h3, h4⟩; exact ⟨u, by omega, h3, h4⟩
      · rintro ⟨u, h2, h3, h4⟩; rw [hnoF u (by omega)] at h3; cases h3
    rw [if_neg h0]
    cases fl with
    | true =>
      rw [i01_t, if_neg one_ne]
      have : true = cwR E t r0 r1 (n - i) i a b := hcw true ⟨fun _ => by
        obtain ⟨u, h2, h3⟩ := hfl.mp rfl
        exact ⟨u, by omega, h3⟩, fun _ => rfl⟩
      rw [← this, i01_t]
    | false =>
      rw [i01_f, if_pos rfl, hasM _ (by omega), bd_some]
      simp only [lt_eq, nI_1]
      have hyl := hy l (by omega)
      have hno : ¬ ∃ u, u < l ∧ GF E t (i % 2) a b u = true ∧ cwR E t r0 r1 (n - (i + 1)) (i + 1) u a = true := fun h => by have := hfl.mpr h; cases this
      cases hbt : tb y l with
      | false =>
        rw [hbt] at hyl
        rw [i01_f, if_pos rfl]
        have := ih (l + 1) f false (by omega) (by omega) (by omega) ⟨(fun h => by cases h), fun ⟨u, h2, h3, h4⟩ => by
          by_cases hu : u = l
          · rw [hu, ← hyl] at h3; cases h3
          · exact (hno ⟨u, by omega, h3, h4⟩).elim⟩
        rw [i01_f] at this; exact this
      | true =>
        rw [hbt] at hyl
        have exn : (625 : Int32) * nI (i + 1) + nI (25 * l + a) = nI (625 * (i + 1) + (25 * l + a)) := by rw [show (625 : Int32) * nI (i + 1) = nI (625 * (i + 1)) from pk_mul 625 (i + 1), nI_add]
        have hcc := hc l a (by omega) ha
        rw [i01_t, if_neg one_ne, pairBehindM ha hb, bd_some, exn, gd_pos (inb_nI (by omega) (by omega)), nI_clamp (by omega)]
        by_cases hz : hI g 112 (625 * (i + 1) + (25 * l + a)) = 0
        · rw [if_pos hz]
          have := ih (l + 1) f false (by omega) (by omega) (by omega) ⟨(fun h => by cases h), fun ⟨u, h2, h3, h4⟩ => by
            by_cases hu : u = l
            · rw [hu] at h4; exact absurd hz (hcc.mpr h4)
            · exact (hno ⟨u, by omega, h3, h4⟩).elim⟩
          rw [i01_f] at this; exact this
        · rw [if_neg hz]
          have := ih (l + 1) f true (by omega) (by omega) (by omega) ⟨fun _ => ⟨l, by omega, hyl.symm, hcc.mp hz⟩, fun _ => rfl⟩
          rw [i01_t] at this; exact this
theorem back48 {n r0 r1 i : Nat} (ht : t ≤ 11) (hi : i < n) (hn6 : n ≤ 6) (k41 : Int32 → AHp → Option (Unit × AHp)) : ∀ (d p f : Nat) (g : AHp), p + d = 625 → d < f → LRd E t 1250 g → CbR E t n r0 r1 (i + 1) g → (∀ a b, a ≤ 24 → b ≤ 24 → 25 * a + b < p → (hI g 112 (625 * i + (25 * a + b)) ≠ 0 ↔ cwR E t r0 r1 (n - i) i a b = true)) → ∃ g1, m_X12_laysBack_48 k41 f (nI i) (nI p) g = k41 (nI i + (-1)) g1 ∧ CbR E t n r0 r1 i g1 ∧ Ch (fun k z => k == 112 && Nat.ble z (625 * i + 624)) g g1 := by
  intro d
  induction d with
  | zero =>
    intro p f g hp hf ly hc hd
    obtain ⟨f, rfl⟩ : ∃ a, f = a + 1 := ⟨f - 1, by omega⟩
    have : p = 625 := by omega
    subst this
    exact ⟨g, by rw [m_X12_laysBack_48, if_pos (by decide), lt_eq], fun a b h1 h2 => hd a b h1 h2 (by omega), Ch.rf⟩
  | succ d ih =>
    intro p f g hp hf ly hc hd
    obtain ⟨f, rfl⟩ : ∃ a, f = a + 1 := ⟨f - 1, by omega⟩
    have epair : p = 25 * (p / 25) + p % 25 := by omega
    have hpa : p / 25 ≤ 24 := by omega
    have hpb : p % 25 ≤ 24 := by omega
    generalize hA : p / 25 = a at epair hpa
    generalize hB : p % 25 = b at epair hpb
    have uniq : ∀ a2 b2, b2 ≤ 24 → 25 * a2 + b2 = p → a2 = a ∧ b2 = b := fun a2 b2 h1 h2 => by omega
    have e2i : nI i - nI i / 2 * 2 = nI (i % 2) := pk_rem (a := i) (d := 2) (by omega) (by omega) (by omega)
    have ex : (625 : Int32) * nI (i % 2) + nI p = nI (625 * (i % 2) + p) := by rw [show (625 : Int32) * nI (i % 2) = nI (625 * (i % 2)) from pk_mul 625 _, nI_add]
    have ex2 : (625 : Int32) * nI i + nI p = nI (625 * i + p) := by rw [show (625 : Int32) * nI i = nI (625 * i) from pk_mul 625 i, nI_add]
    have hy : ∀ l, l < 32 → tb (hI g 111 (625 * (i % 2) + p)) l = GF E t (i % 2) a b l := fun l hl => by
      rw [epair]; exact ly (i % 2) a b (by omega) hpa hpb (by omega) l hl
    have e79 := back79 (y := hI g 111 (625 * (i % 2) + p)) hi hn6 hpa hpb k41 (m_X12_laysBack_48 k41 f) hy hc 24 1 FU false (by omega) (by omega) (by unfold FU; omega) ⟨(fun h => by cases h), fun ⟨u, h1, h2, _⟩ => by
      have : u = 0 := by omega
      subst this
      unfold GF at h2
      rw [Bool.and_eq_true] at h2
      have := (FR_b ht _ _ _ _ h2.2).1; omega⟩
    rw [m_X12_laysBack_48, if_neg (show ¬ 625 ≤ nI p from nI_ge (a := p) (b := 625) (by omega) (by omega)), e2i]
    simp only [ex, gd_pos (inb_nI (n := 625 * (i % 2) + p) (N := 1250) (by omega) (by omega)), nI_clamp (n := 625 * (i % 2) + p) (show 625 * (i % 2) + p < 2 ^ 31 by omega), lt_eq]
    rw [← epair] at e79
    rw [i01_f] at e79
    rw [show m_X12_laysBack_79 k41 (m_X12_laysBack_48 k41 f) FU (nI i) (nI p) 0 (hI g 111 (625 * (i % 2) + p)) 1 g = _ from e79]
    unfold m_X12_laysBack_142
    have evp : ∀ q : Bool, vp_nar .boolean (if q = true then 1 else 0) = if q = true then 1 else 0 := fun q => by cases q; exact vb0; exact vb1
    simp only [ex2, gd_pos (inb_nI (n := 625 * i + p) (N := 4375) (by omega) (by omega)), nI_clamp (n := 625 * i + p) (show 625 * i + p < 2 ^ 31 by omega), lt_eq, nI_1, evp]
    obtain ⟨g1, e1, q1, c1⟩ := ih (p + 1) f (sI g 112 (625 * i + p) (if cwR E t r0 r1 (n - i) i a b = true then 1 else 0)) (by omega) (by omega) (fun s2 a2 b2 h1 h2 h3 h4 l hl => by rw [hI_sI, if_neg (by omega)]; exact ly s2 a2 b2 h1 h2 h3 h4 l hl) (fun a2 b2 h1 h2 => by rw [hI_sI, if_neg (by omega)]; exact hc a2 b2 h1 h2) (fun a2 b2 h1 h2 h3 => by
      rw [hI_sI]
      by_cases he : 25 * a2 + b2 = p
      · obtain ⟨rfl, rfl⟩ := uniq a2 b2 h2 he
        rw [if_pos ⟨rfl, by omega⟩]
        cases cwR E t r0 r1 (n - i) i a2 b2 <;> simp
      · rw [if_neg (by omega)]; exact hd a2 b2 h1 h2 (by omega))
    exact ⟨g1, e1, q1, (Ch.rf.sI (by rw [Nat.ble_eq_true_of_le (by omega)]; rfl) : Ch (fun k z => k == 112 && Nat.ble z (625 * i + 624)) g _).trans c1⟩
end RM
