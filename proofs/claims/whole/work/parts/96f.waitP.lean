section SPR
variable {E : En} {T W : Int32} {kA kB kS kL kK : Bool} {i l : Nat}
theorem spr_clear (k : Int32) : ∀ (d t f : Nat) (g : AHp), t + d = 175 → d < f → ∃ g1, m_X10_spread_2 f k (nI t) g = m_X10_spread_24 FU k 0 g1 ∧ Ch (fun k _ => k == 65) g g1 ∧ ∀ n, n < 175 → (n < t → hI g 65 n = 0) → hI g1 65 n = 0 := by
  intro d
  induction d with
  | zero =>
    intro t f g ht hf
    obtain ⟨f, rfl⟩ : ∃ a, f = a + 1 := ⟨f - 1, by omega⟩
    have : t = 175 := by omega
    subst this
    rw [m_X10_spread_2, if_pos (by decide)]
    exact ⟨g, rfl, Ch.rf, fun n hn h => h hn⟩
  | succ d ih =>
    intro t f g ht hf
    obtain ⟨f, rfl⟩ : ∃ a, f = a + 1 := ⟨f - 1, by omega⟩
    rw [m_X10_spread_2, if_neg (show ¬ 175 ≤ nI t from nI_ge (a := t) (b := 175) (by omega) (by omega)), gd_pos (inb_nI (by omega) (by omega)), lt_eq, lt_eq, nI_1, nI_clamp (by omega)]
    obtain ⟨g1, e1, c1, r1⟩ := ih (t + 1) f (sI g 65 t 0) (by omega) (by omega)
    refine ⟨g1, e1, (Ch.rf.sI (by rfl)).trans c1, fun n hn h => r1 n hn (fun h2 => ?_)⟩
    rw [hI_sI]
    by_cases e : n = t
    · rw [if_pos ⟨rfl, e⟩]
    · rw [if_neg (fun h => e h.2)]; exact h (by omega)
theorem spr_in (hl : 1 ≤ l ∧ l ≤ 24) (hW : W = (1 : Int32) <<< (nI l &&& 31)) {b q : Nat} (hb : b < 25) (hq : q < 7)
    (hS : kS = false → ∀ a b q s s2 z, s < 6 → s2 < 6 → wq E i a b q s z = wq E i a b q s2 z) (k2 : Int32 → Int32 → AHp → Option (Int32 × AHp)) :
    ∀ (d t f : Nat) (g : AHp), t + d = 25 → d < f → CX E g → WtX T W kA kB kS kL kK g → WV T kA kB kS kL g →
    ∃ g1, m_X10_spread_33 k2 f (nI (E.m + i)) (nI (25 * q + b)) (nI t) g = k2 (nI (E.m + i)) (nI (25 * q + b + 1)) g1 ∧ Ch PWt g g1 ∧ CX E g1 ∧ WV T kA kB kS kL g1 ∧
      ∀ n z, n < 175 → z < 32 → (tb (hI g1 65 n) z = true ↔ tb (hI g 65 n) z = true ∨ ∃ a, t ≤ a ∧ a < 25 ∧ tb (hI g 64 (25 * q + b)) a = true ∧ ND E T kA kB kL i l 0 a b q n z) := by
  intro d
  induction d with
  | zero =>
    intro t f g ht hf x wx wv
    obtain ⟨f, rfl⟩ : ∃ a, f = a + 1 := ⟨f - 1, by omega⟩
    have : t = 25 := by omega
    subst this
    rw [m_X10_spread_33, if_pos (by decide), lt_eq, nI_1]
    refine ⟨g, rfl, Ch.rf, x, wv, fun n z hn hz => ⟨Or.inl, ?_⟩⟩
    rintro (h | ⟨a, h1, h2, _⟩)
    · exact h
    · omega
  | succ d ih =>
    intro t f g ht hf x wx wv
    obtain ⟨f, rfl⟩ : ∃ a, f = a + 1 := ⟨f - 1, by omega⟩
    have ec : (nI (25 * q + b)).toNatClampNeg = 25 * q + b := nI_clamp (by omega)
    have hin : inb (nI (25 * q + b)) 175 := inb_nI (by omega) (by omega)
    rw [m_X10_spread_33, if_neg (show ¬ 25 ≤ nI t from nI_ge (a := t) (b := 25) (by omega) (by omega)), gd_pos hin, gd_pos hin, ec]
    by_cases h0 : hI g 64 (25 * q + b) = 0
    · rw [if_pos h0, lt_eq, nI_1]
      refine ⟨g, rfl, Ch.rf, x, wv, fun n z hn hz => ⟨Or.inl, ?_⟩⟩
      rintro (h | ⟨a, h1, h2, h3, _⟩)
      · exact h
      · rw [h0, tb_zero] at h3; cases h3
    · rw [if_neg h0]
      cases hbt : tb (hI g 64 (25 * q + b)) t with
      | false =>
        rw [if_pos ((hasC (by omega)).mpr hbt), lt_eq, nI_1]
        obtain ⟨g1, e1, c1, x1, v1, r1⟩ := ih (t + 1) f g (by omega) (by omega) x wx wv
        refine ⟨g1, e1, c1, x1, v1, fun n z hn hz => (r1 n z hn hz).trans (or_congr Iff.rfl ⟨?_, ?_⟩)⟩
        · rintro ⟨a, h1, h2⟩; exact ⟨a, by omega, h2⟩
        · rintro ⟨a, h1, h2, h3, h4⟩
          by_cases e : a = t
          · rw [e, hbt] at h3; cases h3
          · exact ⟨a, by omega, h2, h3, h4⟩
      | true =>
        rw [if_neg (fun z => by rw [(hasC (by omega)).mp z] at hbt; cases hbt)]
        obtain ⟨g1, e1, c1, x1, s1⟩ := standAtC x (q := q) (b := b) (a := t) (i := i) hq hb
        rw [e1, bd_some]
        have wv1 : WV T kA kB kS kL g1 := wv.same (fun n => c1.i (k := 65) (i := n) rfl)
        obtain ⟨g2, e2, c2, x2, r2⟩ := speak_l (E := E) (T := T) (W := W) (kA := kA) (kB := kB) (kS := kS) (kL := kL) (kK := kK) (i := i) (l := l) hl hW (a := t) (b := b) (q := q) (by omega) hq (fun h s s2 z => hS h t b q s s2 z) 6 0 FU 0 0 g1 (by omega) (by unfold FU; omega) x1 (wx.ch c1 (fun i => rfl)) s1 wv1.2 (fun _ hk s s2 z => wv1.1 hk t s s2 z (by omega)) (fun h => absurd rfl h)
        have wv2 : WV T kA kB kS kL g2 := wv1.next (i := i) (l := l) (a := t) (b := b) (q := q) (by omega) (fun h s s2 z => hS h t b q s s2 z) r2
        have em : m_X10_speakOn (nI t) g1 = some ((), g2) := e2
        have c12 : Ch PWt g g2 := (pc_pw c1).trans c2
        rw [em, bd_some, lt_eq, nI_1]
        obtain ⟨g3, e3, c3, x3, v3, r3⟩ := ih (t + 1) f g2 (by omega) (by omega) x2 (wx.ch c12 (fun i => rfl)) wv2
        refine ⟨g3, e3, c12.trans c3, x3, v3, fun n z hn hz => (r3 n z hn hz).trans ?_⟩
        have e64 : hI g2 64 (25 * q + b) = hI g 64 (25 * q + b) := c12.i (k := 64) (i := 25 * q + b) rfl
        have e65 : hI g1 65 n = hI g 65 n := c1.i (k := 65) (i := n) rfl
        rw [r2 n z hn hz, e64, e65, or_assoc]
        refine or_congr Iff.rfl ⟨?_, ?_⟩
        · rintro (h | ⟨a, h1, h2⟩)
          · exact ⟨t, by omega, by omega, hbt, h⟩
          · exact ⟨a, by omega, h2⟩
        · rintro ⟨a, h1, h2, h3, h4⟩
          by_cases e : a = t
          · subst e; exact Or.inl h4
          · exact Or.inr ⟨a, by omega, h2, h3, h4⟩
theorem spr_out (hl : 1 ≤ l ∧ l ≤ 24) (hW : W = (1 : Int32) <<< (nI l &&& 31))
    (hS : kS = false → ∀ a b q s s2 z, s < 6 → s2 < 6 → wq E i a b q s z = wq E i a b q s2 z) :
    ∀ (d t f : Nat) (g : AHp), t + d = 175 → d < f → CX E g → WtX T W kA kB kS kL kK g → WV T kA kB kS kL g →
    ∃ g1, m_X10_spread_24 f (nI (E.m + i)) (nI t) g = m_X10_spread_89 FU 0 0 g1 ∧ Ch PWt g g1 ∧ CX E g1 ∧
      ∀ n z, n < 175 → z < 32 → (tb (hI g1 65 n) z = true ↔ tb (hI g 65 n) z = true ∨ ∃ r, t ≤ r ∧ r < 175 ∧ ∃ a, a < 25 ∧ tb (hI g 64 r) a = true ∧ ND E T kA kB kL i l 0 a (r % 25) (r / 25) n z) := by
  intro d
  induction d with
  | zero =>
    intro t f g ht hf x wx wv
    obtain ⟨f, rfl⟩ : ∃ a, f = a + 1 := ⟨f - 1, by omega⟩
    have : t = 175 := by omega
    subst this
    rw [m_X10_spread_24, if_pos (by decide)]
    refine ⟨g, rfl, Ch.rf, x, fun n z hn hz => ⟨Or.inl, ?_⟩⟩
    rintro (h | ⟨a, h1, h2, _⟩)
    · exact h
    · omega
  | succ d ih =>
    intro t f g ht hf x wx wv
    obtain ⟨f, rfl⟩ : ∃ a, f = a + 1 := ⟨f - 1, by omega⟩
    rw [m_X10_spread_24, if_neg (show ¬ 175 ≤ nI t from nI_ge (a := t) (b := 175) (by omega) (by omega))]
    have et : 25 * (t / 25) + t % 25 = t := by omega
    obtain ⟨g1, e1, c1, x1, v1, r1⟩ := spr_in (E := E) (T := T) (W := W) (kA := kA) (kB := kB) (kS := kS) (kL := kL) (kK := kK) (i := i) (l := l) hl hW (b := t % 25) (q := t / 25) (by omega) (by omega) hS (m_X10_spread_24 f) 25 0 FU g (by omega) (by unfold FU; omega) x wx wv
    rw [et] at e1 r1
    obtain ⟨g2, e2, c2, x2, r2⟩ := ih (t + 1) f g1 (by omega) (by omega) x1 (wx.ch c1 (fun i => rfl)) v1
    refine ⟨g2, ?_, c1.trans c2, x2, fun n z hn hz => (r2 n z hn hz).trans ?_⟩
    · rw [← e2]; exact e1
    · have e64 : ∀ r, hI g1 64 r = hI g 64 r := fun r => c1.i (k := 64) (i := r) rfl
      rw [r1 n z hn hz, or_assoc]
      refine or_congr Iff.rfl ⟨?_, ?_⟩
      · rintro (⟨a, h1, h2, h3, h4⟩ | ⟨r, h1, h2, a, h3, h4, h5⟩)
        · exact ⟨t, by omega, by omega, a, h2, h3, h4⟩
        · rw [e64] at h4
          exact ⟨r, by omega, h2, a, h3, h4, h5⟩
      · rintro ⟨r, h1, h2, a, h3, h4, h5⟩
        by_cases e : r = t
        · subst e; exact Or.inl ⟨a, by omega, h3, h4, h5⟩
        · exact Or.inr ⟨r, by omega, h2, a, h3, by rw [e64]; exact h4, h5⟩
abbrev P46 : Nat → Nat → Bool := fun k _ => k == 64 || k == 66
theorem spr_end : ∀ (d t f : Nat) (x2 : Int32) (g : AHp), t + d = 175 → d < f → (x2 = 0 ∨ x2 = 1) → hI g 63 10 = (if kK = true then 1 else 0) →
    ∃ v g1, m_X10_spread_89 f x2 (nI t) g = some (v, g1) ∧ Ch P46 g g1 ∧ (∀ n, n < 175 → hI g1 64 n = (if n < t then hI g 64 n else if kK = true then hI g 65 n else hI g 65 n &&& (hI g 66 n ^^^ (-1))) ∧ hI g1 66 n = (if n < t then hI g 66 n else hI g 66 n ||| hI g 65 n)) ∧ (v = 0 ∨ v = 1) ∧ (v = 0 → x2 = 0 ∧ ∀ n, t ≤ n → n < 175 → hI g1 64 n = 0) := by
  intro d
  induction d with
  | zero =>
    intro t f x2 g ht hf hx hk
    obtain ⟨f, rfl⟩ : ∃ a, f = a + 1 := ⟨f - 1, by omega⟩
    have : t = 175 := by omega
    subst this
    rw [m_X10_spread_89, if_pos (by decide), gd_pos hx]
    exact ⟨x2, g, rfl, Ch.rf, fun n hn => ⟨by rw [if_pos hn], by rw [if_pos hn]⟩, hx, fun h => ⟨h, fun n h1 h2 => by omega⟩⟩
  | succ d ih =>
    intro t f x2 g ht hf hx hk
    obtain ⟨f, rfl⟩ : ∃ a, f = a + 1 := ⟨f - 1, by omega⟩
    have hin : inb (nI t) 175 := inb_nI (by omega) (by omega)
    have ec : (nI t).toNatClampNeg = t := nI_clamp (by omega)
    have hgo : ∀ w : Int32, w = (if kK = true then hI g 65 t else hI g 65 t &&& (hI g 66 t ^^^ (-1))) →
        ∃ v g1, m_X10_spread_132 (m_X10_spread_89 f) x2 (nI t) (nI t) w g = some (v, g1) ∧ Ch P46 g g1 ∧ (∀ n, n < 175 → hI g1 64 n = (if n < t then hI g 64 n else if kK = true then hI g 65 n else hI g 65 n &&& (hI g 66 n ^^^ (-1))) ∧ hI g1 66 n = (if n < t then hI g 66 n else hI g 66 n ||| hI g 65 n)) ∧ (v = 0 ∨ v = 1) ∧ (v = 0 → x2 = 0 ∧ ∀ n, t ≤ n → n < 175 → hI g1 64 n = 0) := by
      intro w hw
      have hgo2 : ∀ x3 : Int32, (x3 = 0 ∨ x3 = 1) → (x3 = 0 → x2 = 0 ∧ w = 0) → ∃ v g1, m_X10_spread_89 f x3 (nI (t + 1)) (sI (sI g 64 t w) 66 t (hI g 66 t ||| hI g 65 t)) = some (v, g1) ∧ Ch P46 g g1 ∧ (∀ n, n < 175 → hI g1 64 n = (if n < t then hI g 64 n else if kK = true then hI g 65 n else hI g 65 n &&& (hI g 66 n ^^^ (-1))) ∧ hI g1 66 n = (if n < t then hI g 66 n else hI g 66 n ||| hI g 65 n)) ∧ (v = 0 ∨ v = 1) ∧ (v = 0 → x2 = 0 ∧ ∀ n, t ≤ n → n < 175 → hI g1 64 n = 0) := by
        intro x3 h3 h30
        have cc : Ch P46 g (sI (sI g 64 t w) 66 t (hI g 66 t ||| hI g 65 t)) := (Ch.rf.sI rfl).sI rfl
        have v64 : ∀ n, hI (sI (sI g 64 t w) 66 t (hI g 66 t ||| hI g 65 t)) 64 n = if n = t then w else hI g 64 n := fun n => by
          rw [hI_sI, if_neg (fun h => absurd h.1 (by decide)), hI_sI]
          by_cases e : n = t
          · rw [if_pos ⟨rfl, e⟩, if_pos e]
          · rw [if_neg (fun h => e h.2), if_neg e]
        have v66 : ∀ n, hI (sI (sI g 64 t w) 66 t (hI g 66 t ||| hI g 65 t)) 66 n = if n = t then hI g 66 t ||| hI g 65 t else hI g 66 n := fun n => by
          rw [hI_sI]
          by_cases e : n = t
          · rw [if_pos ⟨rfl, e⟩, if_pos e]
          · rw [if_neg (fun h => e h.2), if_neg e, hI_sI, if_neg (fun h => absurd h.1 (by decide))]
        have v65 : ∀ n, hI (sI (sI g 64 t w) 66 t (hI g 66 t ||| hI g 65 t)) 65 n = hI g 65 n := fun n => cc.i (k := 65) (i := n) rfl
        have v63 : hI (sI (sI g 64 t w) 66 t (hI g 66 t ||| hI g 65 t)) 63 10 = hI g 63 10 := cc.i (k := 63) (i := 10) rfl
        generalize sI (sI g 64 t w) 66 t (hI g 66 t ||| hI g 65 t) = g2 at cc v64 v66 v65 v63
        obtain ⟨v, g1, e1, c1, r1, hv, hv0⟩ := ih (t + 1) f x3 g2 (by omega) (by omega) h3 (by rw [v63]; exact hk)
        have hr : ∀ n, n < 175 → hI g1 64 n = (if n < t then hI g 64 n else if kK = true then hI g 65 n else hI g 65 n &&& (hI g 66 n ^^^ (-1))) ∧ hI g1 66 n = (if n < t then hI g 66 n else hI g 66 n ||| hI g 65 n) := fun n hn => by
          obtain ⟨q1, q2⟩ := r1 n hn
          rw [v64, v65, v66] at q1
          rw [v65, v66] at q2
          by_cases e : n = t
          · subst e
            rw [if_pos (by omega), if_pos rfl] at q1 q2
            rw [if_neg (Nat.lt_irrefl n), if_neg (Nat.lt_irrefl n)]
            exact ⟨by rw [q1, hw], q2⟩
          · rw [if_neg e, if_neg e] at q1
            rw [if_neg e] at q2
            by_cases h : n < t
            · rw [if_pos (by omega)] at q1 q2
              rw [if_pos h, if_pos h]; exact ⟨q1, q2⟩
            · rw [if_neg (by omega)] at q1 q2
              rw [if_neg h, if_neg h]; exact ⟨q1, q2⟩
        refine ⟨v, g1, e1, cc.trans c1, hr, hv, fun h => ?_⟩
        obtain ⟨a1, a2⟩ := hv0 h
        obtain ⟨b1, b2⟩ := h30 a1
        refine ⟨b1, fun n h1 h2 => ?_⟩
        by_cases e : n = t
        · subst e
          rw [(hr n h2).1, if_neg (by omega), ← hw, b2]
        · exact a2 n (by omega) h2
      unfold m_X10_spread_132
      have u1 : hI (sI g 64 t w) 66 t = hI g 66 t := by rw [hI_sI, if_neg (fun h => absurd h.1 (by decide))]
      have u2 : hI (sI g 64 t w) 65 t = hI g 65 t := by rw [hI_sI, if_neg (fun h => absurd h.1 (by decide))]
      have u3 : hI (sI (sI g 64 t w) 66 t (hI g 66 t ||| hI g 65 t)) 64 t = w := by rw [hI_sI, if_neg (fun h => absurd h.1 (by decide)), hI_sI, if_pos ⟨rfl, rfl⟩]
      simp only [gd_pos hin, ec, lt_eq, u1, u2, u3, nI_1]
      rcases hx with hx | hx
      · rw [if_pos hx]
        by_cases h0 : w = 0
        · rw [if_pos h0]; exact hgo2 0 (Or.inl rfl) (fun _ => ⟨hx, h0⟩)
        · rw [if_neg h0]; exact hgo2 1 (Or.inr rfl) (fun h => absurd h one_ne)
      · rw [if_neg (by rw [hx]; exact one_ne)]; exact hgo2 1 (Or.inr rfl) (fun h => absurd h one_ne)
    rw [m_X10_spread_89, if_neg (show ¬ 175 ≤ nI t from nI_ge (a := t) (b := 175) (by omega) (by omega)), gd_pos hin, gd_pos hin, gd_pos hin, ec, hk]
    cases hkk : kK with
    | false => rw [i01_f, if_pos rfl]; rw [hkk] at hgo; exact hgo _ (by rw [if_neg (by decide)])
    | true => rw [i01_t, if_neg one_ne]; rw [hkk] at hgo; exact hgo _ (by rw [if_pos rfl])
end SPR
