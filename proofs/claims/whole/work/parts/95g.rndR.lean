/-! rounds: the reference's answer -/
theorem fxS_some {step : Nat → Option (List Nat)} : ∀ e q r, fxS step e q = some r → ∃ u, q ≤ u ∧ u < q + e ∧ step u = some r ∧ ∀ w, q ≤ w → w < u → step w = none
  | 0, q, r, h => by cases h
  | e + 1, q, r, h => by
    rw [fxS] at h
    cases hs : step q with
    | some r2 =>
      rw [hs] at h; simp only [] at h; cases h
      exact ⟨q, Nat.le_refl _, by omega, hs, fun w h1 h2 => by omega⟩
    | none =>
      rw [hs] at h; simp only [] at h
      obtain ⟨u, h1, h2, h3, h4⟩ := fxS_some e (q + 1) r h
      exact ⟨u, by omega, by omega, h3, fun w h5 h6 => by
        by_cases hw : w = q
        · rw [hw]; exact hs
        · exact h4 w (by omega) h6⟩
section RM2
variable {E : En} {t : Nat}
abbrev P112 : Nat → Nat → Bool := fun k _ => k == 112
theorem LRd.ch {P : Nat → Nat → Bool} {N : Nat} {h g : AHp} (x : LRd E t N h) (c : Ch P h g) (hp : ∀ i, P 111 i = false) : LRd E t N g := fun s a b h1 h2 h3 h4 l hl => by rw [c.i (hp _)]; exact x s a b h1 h2 h3 h4 l hl
theorem back41 {n r0 r1 : Nat} (ht : t ≤ 11) (hn6 : n ≤ 6) : ∀ (i f : Nat) (g : AHp), i ≤ n → i < f → LRd E t 1250 g → (∀ k, i ≤ k → k ≤ n → CbR E t n r0 r1 k g) → ∃ g1, m_X12_laysBack_41 f (nI i + (-1)) g = some ((), g1) ∧ (∀ k, k ≤ n → CbR E t n r0 r1 k g1) ∧ Ch P112 g g1 := by
  intro i
  induction i with
  | zero =>
    intro f g hi hf ly hc
    obtain ⟨f, rfl⟩ : ∃ a, f = a + 1 := ⟨f - 1, by omega⟩
    exact ⟨g, by rw [m_X12_laysBack_41, if_pos (by decide)], fun k hk => hc k (by omega) hk, Ch.rf⟩
  | succ i ih =>
    intro f g hi hf ly hc
    obtain ⟨f, rfl⟩ : ∃ a, f = a + 1 := ⟨f - 1, by omega⟩
    have ei : nI (i + 1) + (-1) = nI i := by rw [nI_dec (by omega), Nat.add_sub_cancel]
    obtain ⟨g1, e1, q1, c1⟩ := back48 (r0 := r0) (r1 := r1) ht (show i < n by omega) hn6 (m_X12_laysBack_41 f) 625 0 FU g (by omega) (by unfold FU; omega) ly (hc (i + 1) (by omega) (by omega)) (fun a b _ _ h => by omega)
    have c1' : Ch P112 g g1 := c1.mono (fun k z hp => by simp only [Bool.and_eq_false_iff]; exact Or.inl hp)
    obtain ⟨g2, e2, q2, c2⟩ := ih f g1 (by omega) (by omega) (ly.ch c1 (fun _ => rfl)) (fun k h1 h2 => by
      by_cases hk : k = i
      · rw [hk]; exact q1
      · intro a b h3 h4
        rw [c1.i (k := 112) (i := 625 * k + (25 * a + b)) (show Nat.ble (625 * k + (25 * a + b)) (625 * i + 624) = false from ble_f.mpr (by omega))]
        exact hc k (by omega) h2 a b h3 h4)
    refine ⟨g2, ?_, q2, c1'.trans c2⟩
    rw [m_X12_laysBack_41, ei, if_neg (nI_pos (by omega))]
    rw [show m_X12_laysBack_48 (m_X12_laysBack_41 f) FU (nI i) 0 g = _ from e1, e2]
theorem back2 {n r0 r1 : Nat} (hn : 1 ≤ n ∧ n ≤ 6) (hr0 : r0 ≤ 24) (hr1 : r1 ≤ 24) : ∀ (d p f : Nat) (g : AHp), p + d = 625 → d < f → (∀ a b, a ≤ 24 → b ≤ 24 → 25 * a + b < p → (hI g 112 (625 * n + (25 * a + b)) ≠ 0 ↔ cwR E t r0 r1 0 n a b = true)) → ∃ g1, m_X12_laysBack_2 f (nI (25 * r1 + r0)) (nI n) (nI p) g = m_X12_laysBack_41 FU (nI n + (-1)) g1 ∧ CbR E t n r0 r1 n g1 ∧ Ch P112 g g1 := by
  intro d
  induction d with
  | zero =>
    intro p f g hp hf hd
    obtain ⟨f, rfl⟩ : ∃ a, f = a + 1 := ⟨f - 1, by omega⟩
    have : p = 625 := by omega
    subst this
    exact ⟨g, by rw [m_X12_laysBack_2, if_pos (by decide), lt_eq, Int32.sub_eq_add_neg], fun a b h1 h2 => by rw [Nat.sub_self]; exact hd a b h1 h2 (by omega), Ch.rf⟩
  | succ d ih =>
    intro p f g hp hf hd
    obtain ⟨f, rfl⟩ : ∃ a, f = a + 1 := ⟨f - 1, by omega⟩
    have ex : (625 : Int32) * nI n + nI p = nI (625 * n + p) := by rw [show (625 : Int32) * nI n = nI (625 * n) from pk_mul 625 n, nI_add]
    have next : ∀ v : Int32, (v ≠ 0 ↔ p = 25 * r1 + r0) → ∃ g1, m_X12_laysBack_2 f (nI (25 * r1 + r0)) (nI n) (nI (p + 1)) (sI g 112 (625 * n + p) v) = m_X12_laysBack_41 FU (nI n + (-1)) g1 ∧ CbR E t n r0 r1 n g1 ∧ Ch P112 g g1 := fun v hv => by
      obtain ⟨g1, e1, q1, c1⟩ := ih (p + 1) f (sI g 112 (625 * n + p) v) (by omega) (by omega) (fun a b h1 h2 h3 => by
        rw [hI_sI]
        by_cases he : 25 * a + b = p
        · rw [if_pos ⟨rfl, by omega⟩, hv, cwR, Bool.and_eq_true, decide_eq_true_eq, decide_eq_true_eq]
          constructor
          · intro h; omega
          · rintro ⟨h4, h5⟩; rw [← he, h4, h5]
        · rw [if_neg (by omega)]; exact hd a b h1 h2 (by omega))
      exact ⟨g1, e1, q1, (Ch.rf.sI rfl : Ch P112 g _).trans c1⟩
    rw [m_X12_laysBack_2, if_neg (show ¬ 625 ≤ nI p from nI_ge (a := p) (b := 625) (by omega) (by omega))]
    simp only [ex, gd_pos (inb_nI (n := 625 * n + p) (N := 4375) (by omega) (by omega)), nI_clamp (n := 625 * n + p) (show 625 * n + p < 2 ^ 31 by omega), lt_eq, nI_1, vb0, vb1]
    by_cases hq : p = 25 * r1 + r0
    · rw [if_pos (by rw [hq])]; exact next 1 ⟨fun _ => hq, fun _ => one_ne⟩
    · rw [if_neg (by rw [i32_eq, nI_toInt (by omega), nI_toInt (by omega)]; omega)]; exact next 0 ⟨fun h => absurd rfl h, fun h => absurd h hq⟩
theorem backM {n r0 r1 : Nat} {g : AHp} (ht : t ≤ 11) (hn : 1 ≤ n ∧ n ≤ 6) (hr0 : r0 ≤ 24) (hr1 : r1 ≤ 24) (ly : LRd E t 1250 g) : ∃ g1, m_X12_laysBack (nI (25 * r1 + r0)) (nI n) g = some ((), g1) ∧ (∀ k, k ≤ n → CbR E t n r0 r1 k g1) ∧ Ch P112 g g1 := by
  obtain ⟨g1, e1, q1, c1⟩ := back2 (E := E) (t := t) hn hr0 hr1 625 0 FU g (by omega) (by unfold FU; omega) (fun a b _ _ h => by omega)
  obtain ⟨g2, e2, q2, c2⟩ := back41 (r0 := r0) (r1 := r1) ht hn.2 n FU g1 (Nat.le_refl _) (by unfold FU; omega) (ly.ch c1 (fun _ => rfl)) (fun k h1 h2 => by rw [show k = n by omega]; exact q1)
  refine ⟨g2, ?_, q2, c1.trans c2⟩
  unfold m_X12_laysBack
  rw [show m_X12_laysBack_2 FU (nI (25 * r1 + r0)) (nI n) 0 g = _ from e1, e2]
abbrev P113 : Nat → Nat → Bool := fun k _ => k == 112 || k == 113
theorem find87 {n r0 r1 i a b l : Nat} {L : List Nat} (ht : t ≤ 11) (hn : n = 2 ∨ n = 4 ∨ n = 6) (hi : 2 ≤ i ∧ i < n) (ha : a ≤ 24) (hb : b ≤ 24) (hTa : tb (E.siz t) a = true) (hTb : tb (E.siz t) b = true) {g : AHp} (ly : LRd E t 1250 g) (hc : ∀ k, k ≤ n → CbR E t n r0 r1 k g) (hl : 1 ≤ l ∧ l ≤ 24) (hFl : FR E t (i % 2) a b l = true) (hxl : ext (FR E t) r0 r1 (n - (i + 1)) (i + 1) l a = true) (hlow : ∀ u, 1 ≤ u → u < l → (FR E t (i % 2) a b u && ext (FR E t) r0 r1 (n - (i + 1)) (i + 1) u a) = false) (k78 : Int32 → Int32 → Int32 → AHp → Option (Int32 × AHp)) : ∀ (d u f : Nat), u + d = l → 1 ≤ u → d < f → m_X12_findsRound_87 k78 f (nI n) (nI (25 * a + b)) (nI i) (nI u) g = k78 (nI n) (nI (25 * l + a)) (nI (i + 1)) (sI g 113 i (nI l)) := by
  have e2i : nI i - nI i / 2 * 2 = nI (i % 2) := pk_rem (a := i) (d := 2) (by omega) (by omega) (by omega)
  have ex : (625 : Int32) * nI (i % 2) + nI (25 * a + b) = nI (625 * (i % 2) + (25 * a + b)) := by rw [show (625 : Int32) * nI (i % 2) = nI (625 * (i % 2)) from pk_mul 625 _, nI_add]
  have e1 : nI i - 1 = nI (i - 1) := pk_sub (a := i) (b := 1) (by omega)
  have hG : ∀ u, u < 32 → tb (hI g 111 (625 * (i % 2) + (25 * a + b))) u = FR E t (i % 2) a b u := fun u hu => by
    rw [ly (i % 2) a b (by omega) ha hb (by omega) u hu]; unfold GF; rw [hTa, hTb]; rfl
  have hC : ∀ u, u ≤ 24 → FR E t (i % 2) a b u = true → (hI g 112 (625 * (i - 1) + (25 * u + a)) ≠ 0 ↔ ext (FR E t) r0 r1 (n - (i + 1)) (i + 1) u a = true) := fun u hu hF => by
    have h1 := hc (i - 1) (by omega) u a hu ha
    rw [show n - (i - 1) = (n - (i + 1)) + 2 by omega, show i - 1 = (i + 1) - 2 by omega, cw_ext ht (n - (i + 1)) (i + 1) u a (by omega) (by omega) (FR_siz hF) hTa] at h1
    rw [show i - 1 = i + 1 - 2 by omega]; exact h1
  intro d
  induction d with
  | zero =>
    intro u f hu h1 hf
    obtain ⟨f, rfl⟩ : ∃ a, f = a + 1 := ⟨f - 1, by omega⟩
    have : u = l := by omega
    subst this
    have exn : (625 : Int32) * nI (i - 1) + nI (25 * u + a) = nI (625 * (i - 1) + (25 * u + a)) := by rw [show (625 : Int32) * nI (i - 1) = nI (625 * (i - 1)) from pk_mul 625 _, nI_add]
    rw [m_X12_findsRound_87, e2i]
    simp only [ex, gd_pos (inb_nI (n := 625 * (i % 2) + (25 * a + b)) (N := 1250) (by omega) (by omega)), nI_clamp (n := 625 * (i % 2) + (25 * a + b)) (show 625 * (i % 2) + (25 * a + b) < 2 ^ 31 by omega), lt_eq, nI_1]
    rw [hasM _ (by omega), bd_some, hG u (by omega), hFl, i01_t, if_neg one_ne, pairBehindM ha hb, bd_some, e1, exn, gd_pos (inb_nI (by omega) (by omega)), nI_clamp (by omega), if_neg ((hC u hl.2 hFl).mpr hxl), gd_pos (inb_nI (by omega) (by omega)), nI_clamp (by omega), pairBehindM ha hb, bd_some]
  | succ d ih =>
    intro u f hu h1 hf
    obtain ⟨f, rfl⟩ : ∃ a, f = a + 1 := ⟨f - 1, by omega⟩
    have exn : (625 : Int32) * nI (i - 1) + nI (25 * u + a) = nI (625 * (i - 1) + (25 * u + a)) := by rw [show (625 : Int32) * nI (i - 1) = nI (625 * (i - 1)) from pk_mul 625 _, nI_add]
    rw [m_X12_findsRound_87, e2i]
    simp only [ex, gd_pos (inb_nI (n := 625 * (i % 2) + (25 * a + b)) (N := 1250) (by omega) (by omega)), nI_clamp (n := 625 * (i % 2) + (25 * a + b)) (show 625 * (i % 2) + (25 * a + b) < 2 ^ 31 by omega), lt_eq, nI_1]
    rw [hasM _ (by omega), bd_some, hG u (by omega)]
    have hlo := hlow u h1 (by omega)
    cases hF : FR E t (i % 2) a b u with
    | false => rw [i01_f, if_pos rfl]; exact ih (u + 1) f (by omega) (by omega) (by omega)
    | true =>
      rw [hF, Bool.true_and] at hlo
      have hz : hI g 112 (625 * (i - 1) + (25 * u + a)) = 0 := Decidable.byContradiction (fun h => by rw [(hC u (by omega) hF).mp h] at hlo; cases hlo)
      rw [i01_t, if_neg one_ne, pairBehindM ha hb, bd_some, e1, exn, gd_pos (inb_nI (by omega) (by omega)), nI_clamp (by omega), if_pos hz]
      exact ih (u + 1) f (by omega) (by omega) (by omega)
theorem find78 {n r0 r1 : Nat} (ht : t ≤ 11) (hn : n = 2 ∨ n = 4 ∨ n = 6) : ∀ (d i a b f : Nat) (L : List Nat) (g : AHp), i + d = n → d < f → 2 ≤ i → a ≤ 24 → b ≤ 24 → tb (E.siz t) a = true → tb (E.siz t) b = true → LRd E t 1250 g → (∀ k, k ≤ n → CbR E t n r0 r1 k g) → fx (FR E t) r0 r1 d i a b = some L → ∃ g1, m_X12_findsRound_78 f (nI n) (nI (25 * a + b)) (nI i) g = some (1, g1) ∧ (∀ j, j < d → hI g1 113 (i + j) = nI (L.getD j 0)) ∧ (∀ j, j < i → hI g1 113 j = hI g 113 j) ∧ Ch (fun k _ => k == 113) g g1 := by
  have hFb : ∀ s a b l, l < 32 → FR E t s a b l = true → 1 ≤ l ∧ l ≤ 24 := fun s a b l _ h => (FR_b ht s a b l h).1
  intro d
  induction d with
  | zero =>
    intro i a b f L g hi hf h2 ha hb hTa hTb ly hc hfx
    obtain ⟨f, rfl⟩ : ∃ a, f = a + 1 := ⟨f - 1, by omega⟩
    exact ⟨g, by rw [m_X12_findsRound_78, if_pos (nI_le (by omega) (by omega))], fun j hj => by omega, fun _ _ => rfl, Ch.rf⟩
  | succ d ih =>
    intro i a b f L g hi hf h2 ha hb hTa hTb ly hc hfx
    obtain ⟨f, rfl⟩ : ∃ a, f = a + 1 := ⟨f - 1, by omega⟩
    rw [fx] at hfx
    obtain ⟨l, u1, u2, u3, u4⟩ := fxS_some 24 1 L hfx
    have hFl : FR E t (i % 2) a b l = true := by
      by_cases h : FR E t (i % 2) a b l = true
      · exact h
      · rw [if_neg h] at u3; cases u3
    rw [if_pos hFl] at u3
    cases hf1 : fx (FR E t) r0 r1 d (i + 1) l a with
    | none => rw [hf1] at u3; cases u3
    | some L1 =>
      rw [hf1] at u3
      have hL : L = l :: L1 := by cases u3; rfl
      subst hL
      have hxl : ext (FR E t) r0 r1 d (i + 1) l a = true := by
        cases hx : ext (FR E t) r0 r1 d (i + 1) l a with
        | true => rfl
        | false => rw [(fx_ext hFb d (i + 1) l a).mpr hx] at hf1; cases hf1
      have e87 := find87 (r0 := r0) (r1 := r1) (L := L1) ht hn ⟨h2, by omega⟩ ha hb hTa hTb ly hc ⟨u1, by omega⟩ hFl (by rw [show n - (i + 1) = d by omega]; exact hxl) (fun u h3 h4 => by
        rw [show n - (i + 1) = d by omega]
        have := u4 u h3 h4
        cases hF : FR E t (i % 2) a b u with
        | false => rfl
        | true =>
          rw [if_pos hF] at this
          have h5 : fx (FR E t) r0 r1 d (i + 1) u a = none := by
            cases hx : fx (FR E t) r0 r1 d (i + 1) u a with
            | none => rfl
            | some r => rw [hx] at this; cases this
          rw [(fx_ext hFb d (i + 1) u a).mp h5]; rfl) (m_X12_findsRound_78 f) (l - 1) 1 FU (by omega) (by omega) (by unfold FU; omega)
      have cw : Ch (fun k _ => k == 113) g (sI g 113 i (nI l)) := Ch.rf.sI rfl
      obtain ⟨g1, e1, q1, o1, c1⟩ := ih (i + 1) l a f L1 (sI g 113 i (nI l)) (by omega) (by omega) (by omega) (by omega) ha (FR_siz hFl) hTa (ly.ch cw (fun _ => rfl)) (fun k hk a2 b2 h3 h4 => by rw [cw.i rfl]; exact hc k hk a2 b2 h3 h4) hf1
      refine ⟨g1, ?_, fun j hj => ?_, fun j hj => ?_, cw.trans c1⟩
      · rw [m_X12_findsRound_78, if_neg (nI_ge (by omega) (by omega))]
        rw [show m_X12_findsRound_87 (m_X12_findsRound_78 f) FU (nI n) (nI (25 * a + b)) (nI i) 1 g = _ from e87, e1]
      · by_cases hj0 : j = 0
        · subst hj0; rw [Nat.add_zero, o1 i (by omega), sI_same]; rfl
        · have := q1 (j - 1) (by omega)
          rw [show i + 1 + (j - 1) = i + j by omega] at this
          rw [this]
          obtain ⟨j2, rfl⟩ : ∃ j2, j = j2 + 1 := ⟨j - 1, by omega⟩
          rfl
      · rw [o1 j (by omega), hI_sI, if_neg (by omega)]
def RowM (L : List Nat) (n : Nat) (g : AHp) : Prop := ∀ j, j < n → hI g 113 j = nI (L.getD j 0)
theorem find10 {n : Nat} (ht : t ≤ 11) (hn : n = 2 ∨ n = 4 ∨ n = 6) (k2 : Int32 → Int32 → AHp → Option (Int32 × AHp)) {l0 : Nat} (h0 : 1 ≤ l0 ∧ l0 ≤ 24) : ∀ (d l f : Nat) (g : AHp), l + d = 25 → 1 ≤ l → d < f → LRd E t 1250 g →
    (∃ l1 L g1, fstL (PRn E t n l0) d l = some l1 ∧ fx (FR E t) l0 l1 (n - 2) 2 l1 l0 = some L ∧ m_X12_findsRound_10 k2 f (nI n) (nI l0) (nI l) g = some (1, g1) ∧ RowM (l0 :: l1 :: L) n g1 ∧ Ch P113 g g1) ∨
    (fstL (PRn E t n l0) d l = none ∧ ∃ g1, m_X12_findsRound_10 k2 f (nI n) (nI l0) (nI l) g = k2 (nI n) (nI (l0 + 1)) g1 ∧ Ch P113 g g1) := by
  have hFb : ∀ s a b l, l < 32 → FR E t s a b l = true → 1 ≤ l ∧ l ≤ 24 := fun s a b l _ h => (FR_b ht s a b l h).1
  have p12 : ∀ {h g : AHp}, Ch P112 h g → Ch P113 h g := fun c => c.mono (fun k i hp => (Bool.or_eq_false_iff.mp hp).1)
  have p13 : ∀ {h g : AHp}, Ch (fun k _ => k == 113) h g → Ch P113 h g := fun c => c.mono (fun k i hp => (Bool.or_eq_false_iff.mp hp).2)
  intro d
  induction d with
  | zero =>
    intro l f g hl h1 hf ly
    obtain ⟨f, rfl⟩ : ∃ a, f = a + 1 := ⟨f - 1, by omega⟩
    have : l = 25 := by omega
    subst this
    exact Or.inr ⟨rfl, g, by rw [m_X12_findsRound_10, if_pos (by decide), lt_eq, nI_1], Ch.rf⟩
  | succ d ih =>
    intro l f g hl h1 hf ly
    obtain ⟨f, rfl⟩ : ∃ a, f = a + 1 := ⟨f - 1, by omega⟩
    have ex : (25 : Int32) * nI l + nI l0 = nI (25 * l + l0) := by rw [show (25 : Int32) * nI l = nI (25 * l) from pk_mul 25 l, nI_add]
    have hy : ∀ u, u < 32 → tb (hI g 111 (25 * l + l0)) u = GF E t 0 l l0 u := fun u hu => by
      have := ly 0 l l0 (by omega) (by omega) (by omega) (by omega) u hu
      rw [show 625 * 0 + (25 * l + l0) = 25 * l + l0 by omega] at this; exact this
    have ext1 : ext (FR E t) l0 l (n - 2) 2 l l0 = true → ∃ u, u < 32 ∧ FR E t 0 l l0 u = true ∧ tb (E.siz t) l0 = true ∧ tb (E.siz t) l = true := fun h => by
      have hon := ext_on (F := FR E t) (r0 := l0) (r1 := l) (p := 0) (d := n - 2) (i := 2) (a := l) (b := l0) (by omega) ⟨rfl, rfl, rfl⟩ h
      obtain ⟨u, v1, v2⟩ := OnC.next hon
      obtain ⟨s3, c3, w0, w1, w2, w3⟩ := OnC.prev (by omega) hon
      obtain ⟨s4, c4, z0, z1, z2, z3⟩ := w3.prev w0
      exact ⟨u, (FR_b ht _ _ _ _ v1).2, v1, FR_siz z1, FR_siz w1⟩
    rw [m_X12_findsRound_10, if_neg (show ¬ 24 < nI l from nI_nlt (a := 24) (b := l) (by omega) (by omega))]
    simp only [ex, lt_eq, nI_1, gd_pos (inb_nI (n := 25 * l + l0) (N := 1250) (by omega) (by omega)), gd_pos (inb_nI (n := 25 * l + l0) (N := 4375) (by omega) (by omega)), nI_clamp (n := 25 * l + l0) (show 25 * l + l0 < 2 ^ 31 by omega), show (0 : Int32).toNatClampNeg = 0 from rfl, show (1 : Int32).toNatClampNeg = 1 from rfl]
    rw [fstL]
    by_cases hz : hI g 111 (25 * l + l0) = 0
    · have hP : ¬ PRn E t n l0 l = true := fun h => by
        obtain ⟨u, v1, v2, v3, v4⟩ := ext1 h
        have := hy u v1
        unfold GF at this
        rw [hz, tb_zero, v2, v3, v4] at this; cases this
      rw [if_pos hz, if_neg hP]
      exact ih (l + 1) f g (by omega) (by omega) (by omega) ly
    rw [if_neg hz]
    have hT : tb (E.siz t) l = true ∧ tb (E.siz t) l0 = true := by
      cases hA : tb (E.siz t) l with
      | false =>
        exfalso; apply hz; rw [tb_eq0]; intro k hk; rw [hy k hk]; unfold GF; rw [hA]; rfl
      | true =>
        cases hB : tb (E.siz t) l0 with
        | false => exfalso; apply hz; rw [tb_eq0]; intro k hk; rw [hy k hk]; unfold GF; rw [hB, Bool.and_false]; rfl
        | true => exact ⟨rfl, rfl⟩
    obtain ⟨g1, e1, q1, c1⟩ := backM (r0 := l0) (r1 := l) ht (show 1 ≤ n ∧ n ≤ 6 by omega) h0.2 (show l ≤ 24 by omega) ly
    rw [e1, bd_some]
    have hcb := q1 0 (by omega) l l0 (by omega) h0.2
    rw [show 625 * 0 + (25 * l + l0) = 25 * l + l0 by omega, show n - 0 = (n - 2) + 2 by omega, show cwR E t l0 l (n - 2 + 2) 0 l l0 = ext (FR E t) l0 l (n - 2) 2 l l0 from cw_ext ht (n - 2) 2 l l0 (by omega) (by omega) hT.1 hT.2] at hcb
    have ly1 := ly.ch c1 (fun _ => rfl)
    cases hx : ext (FR E t) l0 l (n - 2) 2 l l0 with
    | false =>
      have hz1 : hI g1 112 (25 * l + l0) = 0 := Decidable.byContradiction (fun h => by rw [hcb.mp h] at hx; cases hx)
      rw [if_pos hz1, if_neg (show ¬ PRn E t n l0 l = true from by unfold PRn; rw [hx]; simp)]
      rcases ih (l + 1) f g1 (by omega) (by omega) (by omega) ly1 with ⟨l1, L, g2, v1, v2, v3, v4, v5⟩ | ⟨v1, g2, v2, v3⟩
      · exact Or.inl ⟨l1, L, g2, v1, v2, v3, v4, (p12 c1).trans v5⟩
      · exact Or.inr ⟨v1, g2, v2, (p12 c1).trans v3⟩
    | true =>
      rw [if_neg (hcb.mpr hx), if_pos (show PRn E t n l0 l = true from hx)]
      obtain ⟨L, hL⟩ := fx_some hFb hx
      have cw : Ch (fun k _ => k == 113) g1 (sI (sI g1 113 0 (nI l0)) 113 1 (nI l)) := (Ch.rf.sI rfl).sI rfl
      obtain ⟨g2, e2, q2, o2, c2⟩ := find78 (r0 := l0) (r1 := l) ht hn (n - 2) 2 l l0 FU L (sI (sI g1 113 0 (nI l0)) 113 1 (nI l)) (by omega) (by unfold FU; omega) (by omega) (by omega) h0.2 hT.1 hT.2 (ly1.ch cw (fun _ => rfl)) (fun k hk a2 b2 h3 h4 => by rw [cw.i rfl]; exact q1 k hk a2 b2 h3 h4) hL
      refine Or.inl ⟨l, L, g2, rfl, hL, e2, fun j hj => ?_, (p12 c1).trans ((p13 cw).trans (p13 c2))⟩
      by_cases hj0 : j = 0
      · subst hj0; rw [o2 0 (by omega), hI_sI, if_neg (by omega), sI_same]; rfl
      by_cases hj1 : j = 1
      · subst hj1; rw [o2 1 (by omega), sI_same]; rfl
      · have := q2 (j - 2) (by omega)
        rw [show 2 + (j - 2) = j by omega] at this
        rw [this]
        obtain ⟨k, rfl⟩ : ∃ k, j = k + 2 := ⟨j - 2, by omega⟩
        rfl
theorem find2 {n : Nat} (ht : t ≤ 11) (hn : n = 2 ∨ n = 4 ∨ n = 6) : ∀ (d l0 f : Nat) (g : AHp), l0 + d = 25 → 1 ≤ l0 → d < f → LRd E t 1250 g →
    (∃ l0' l1 L g1, fsr (PRn E t n) d l0 = some (l0', l1) ∧ fx (FR E t) l0' l1 (n - 2) 2 l1 l0' = some L ∧ m_X12_findsRound_2 f (nI n) (nI l0) g = some (1, g1) ∧ RowM (l0' :: l1 :: L) n g1 ∧ Ch P113 g g1) ∨
    (fsr (PRn E t n) d l0 = none ∧ ∃ g1, m_X12_findsRound_2 f (nI n) (nI l0) g = some (0, g1) ∧ Ch P113 g g1) := by
  intro d
  induction d with
  | zero =>
    intro l0 f g hl h1 hf x
    obtain ⟨f, rfl⟩ : ∃ a, f = a + 1 := ⟨f - 1, by omega⟩
    have : l0 = 25 := by omega
    subst this
    exact Or.inr ⟨rfl, g, by rw [m_X12_findsRound_2, if_pos (by decide)], Ch.rf⟩
  | succ d ih =>
    intro l0 f g hl h1 hf x
    obtain ⟨f, rfl⟩ : ∃ a, f = a + 1 := ⟨f - 1, by omega⟩
    rw [m_X12_findsRound_2, if_neg (show ¬ 24 < nI l0 from nI_nlt (a := 24) (b := l0) (by omega) (by omega)), fsr]
    rcases find10 (n := n) ht hn (m_X12_findsRound_2 f) (show 1 ≤ l0 ∧ l0 ≤ 24 by omega) 24 1 FU g (by omega) (by omega) (by unfold FU; omega) x with ⟨l1, L, g1, u1, u2, u3, u4, u5⟩ | ⟨u1, g1, u2, u3⟩
    · exact Or.inl ⟨l0, l1, L, g1, by rw [u1], u2, u3, u4, u5⟩
    · rw [u1]
      rw [show m_X12_findsRound_10 (m_X12_findsRound_2 f) FU (nI n) (nI l0) 1 g = _ from u2]
      rcases ih (l0 + 1) f g1 (by omega) (by omega) (by omega) (x.ch u3 (fun _ => rfl)) with ⟨l0', l1, L, g2, w1, w2, w3, w4, w5⟩ | ⟨w1, g2, w2, w3⟩
      · exact Or.inl ⟨l0', l1, L, g2, w1, w2, w3, w4, u3.trans w5⟩
      · exact Or.inr ⟨w1, g2, w2, u3.trans w3⟩
theorem findM {n : Nat} {g : AHp} (ht : t ≤ 11) (hn : n = 2 ∨ n = 4 ∨ n = 6) (x : LRd E t 1250 g) : (∃ L g1, rr1 E t n = some L ∧ m_X12_findsRound (nI n) g = some (1, g1) ∧ RowM L n g1 ∧ Ch P113 g g1) ∨ (rr1 E t n = none ∧ ∃ g1, m_X12_findsRound (nI n) g = some (0, g1) ∧ Ch P113 g g1) := by
  unfold rr1
  rcases find2 (n := n) ht hn 24 1 FU g (by omega) (by omega) (by unfold FU; omega) x with ⟨l0', l1, L, g2, w1, w2, w3, w4, w6⟩ | ⟨w1, g2, w2, w4⟩
  · rw [w1]; simp only []; rw [w2]
    exact Or.inl ⟨_, g2, rfl, w3, w4, w6⟩
  · rw [w1]
    exact Or.inr ⟨rfl, g2, w2, w4⟩
theorem round31 {g : AHp} {what : Int32} (ht : t ≤ 11) (hw : -1 ≤ what.toInt ∧ what.toInt ≤ 5) (x : LRd E t 1250 g) : ∃ g1, m_X12_round_31 FU what 2 g = some (resR E t what, g1) ∧ Ch P113 g g1 := by
  have hFU : FU = (FU - 4) + 4 := by unfold FU; omega
  rw [hFU]
  generalize FU - 4 = f
  have fin : ∀ (n : Nat) (g : AHp) (L : List Nat), (n = 2 ∨ n = 4 ∨ n = 6) → RowM L n g → (if what = (-1) then (some (nI n, g)) else (if nI n ≤ what then (some ((-3), g)) else (gd (inb what 8) (some (hI g 113 what.toNatClampNeg, g))))) = some (rans n L what, g) := fun n g L hn hr => by
    unfold rans
    by_cases h1 : what = -1
    · rw [if_pos h1, if_pos h1]
    · have h1' : what.toInt ≠ -1 := fun z => h1 (by rw [i32_eq, z]; rfl)
      obtain ⟨wt, hwe, _, hwt⟩ := nat_in (x := what) (lo := 0) (hi := 5) (by omega)
      rw [if_neg h1, if_neg h1, hwe]
      by_cases h2 : wt < n
      · rw [if_neg (nI_ge h2 (by omega)), gd_pos (inb_nI (by omega) (by omega)), nI_clamp (by omega), if_pos (nI_lt h2 (by omega)), hr wt h2]
      · rw [if_pos (nI_le (by omega) (by omega)), if_neg (nI_nlt (by omega) (by omega))]
  unfold resR
  rw [m_X12_round_31, if_neg (by decide)]
  rcases findM (n := 2) ht (Or.inl rfl) x with ⟨L, g1, u1, u2, u3, u4⟩ | ⟨u1, g1, u2, u4⟩
  · rw [u1]
    refine ⟨g1, ?_, u4⟩
    rw [show m_X12_findsRound 2 g = _ from u2, bd_some, if_neg one_ne]
    exact fin 2 g1 L (Or.inl rfl) u3
  rw [u1, show m_X12_findsRound 2 g = _ from u2, bd_some, if_pos rfl, lt_eq]
  simp only []
  rw [show (2 : Int32) + 2 = nI 4 from rfl, m_X12_round_31, if_neg (by decide)]
  have x1 := x.ch u4 (fun _ => rfl)
  rcases findM (n := 4) ht (Or.inr (Or.inl rfl)) x1 with ⟨L, g3, w1, w2, w3, w4⟩ | ⟨w1, g3, w2, w4⟩
  · rw [w1]
    refine ⟨g3, ?_, u4.trans w4⟩
    rw [w2, bd_some, if_neg one_ne]
    exact fin 4 g3 L (Or.inr (Or.inl rfl)) w3
  rw [w1, w2, bd_some, if_pos rfl, lt_eq]
  simp only []
  rw [show nI 4 + 2 = nI 6 from nI_add 4 2, m_X12_round_31, if_neg (by decide)]
  have x3 := x1.ch w4 (fun _ => rfl)
  rcases findM (n := 6) ht (Or.inr (Or.inr rfl)) x3 with ⟨L, g4, v1, v2, v3, v4⟩ | ⟨v1, g4, v2, v4⟩
  · rw [v1]
    refine ⟨g4, ?_, (u4.trans w4).trans v4⟩
    rw [v2, bd_some, if_neg one_ne]
    exact fin 6 g4 L (Or.inr (Or.inr rfl)) v3
  rw [v1, v2, bd_some, if_pos rfl, lt_eq]
  simp only []
  exact ⟨g4, by rw [show nI 6 + 2 = nI 8 from nI_add 6 2, m_X12_round_31, if_pos (by decide)], (u4.trans w4).trans v4⟩
end RM2
theorem p113_pkm {h g : AHp} (c : Ch P113 h g) : Ch PKm h g := c.mono (fun k i hp => by
  simp only [Bool.or_eq_false_iff, Bool.and_eq_false_iff, beq_eq_false_iff_ne, ble_f] at hp ⊢; omega)
theorem sim_round {h : AHp} {c : Nat} (t what : Int32) (hB : BI h) (hI0 : LI h) (hmi : MIx h c) (hc : c < 1000000) : SimK PAll c h (m_X11_round t what) (m_X12_round t what) := by
  by_cases ht : 0 ≤ t.toInt ∧ t.toInt ≤ 11
  rotate_left
  · refine SimK.same hB hI0 hmi (-3) ?_ ?_
    · unfold m_X11_round; rw [isThingC, bd_some, b2i_f ht, if_pos rfl]
    · unfold m_X12_round; rw [isThingM, bd_some, b2i_f ht, if_pos rfl]
  by_cases hw : -1 ≤ what.toInt ∧ what.toInt ≤ 5
  rotate_left
  · refine SimK.same hB hI0 hmi (-3) ?_ ?_
    · unfold m_X11_round; rw [isThingC, bd_some, b2i_t ht, if_neg one_ne]
      simp only [i32_lt, tIall]
      by_cases h1 : what.toInt < -1
      · rw [if_pos h1]
      · rw [if_neg h1, if_neg (by omega)]
    · unfold m_X12_round; rw [isThingM, bd_some, b2i_t ht, if_neg one_ne, liesI, bd_some, b2i_f (by exact hw), if_pos rfl]
  obtain ⟨t, rfl, _, ht2⟩ := nat_in (lo := 0) (hi := 11) ht
  obtain ⟨cl0, cl1, K0, K1, v0, v1, hLR⟩ := id hI0
  obtain ⟨E, xC, xR, ⟨rfl, rfl, rfl, rfl, rfl, rfl⟩, e701⟩ := hB.en hLR
  obtain ⟨g1, e1, x1, mg1, c1⟩ := answerR (what := what) ht2 hc hw xC hmi
  obtain ⟨g2, e2, x2, l2, c2⟩ := layRound ht2 (xR.pk c1)
  obtain ⟨g3, e3, c3⟩ := round31 (what := what) ht2 hw l2
  refine SimK.fin hB hLR (resR E t what) ?_ ?_ x1 mg1 c1 ((p11_pkm c2).trans (p113_pkm c3))
  · unfold m_X11_round
    rw [isThingC, bd_some, b2i_t ht, if_neg one_ne, if_neg (by rw [i32_lt]; simp only [tIall]; omega), if_pos (by rw [i32_lt]; simp only [tIall]; omega), xC.1, e1, bd_some]
  · unfold m_X12_round
    rw [isThingM, bd_some, b2i_t ht, if_neg one_ne, liesI, bd_some, b2i_t (by exact hw), if_neg one_ne, e2, bd_some]
    exact e3
