/-! held and coded: the reference's answer -/
section RCH
variable {E : En} {H : HPar} {mr an bn : Nat} {M : MPar E H mr}
abbrev P101 : Nat → Nat → Bool := fun k _ => k == 101
theorem counts2 (ha : an ≤ 24) (hb : bn ≤ 24) : ∀ (i f : Nat) (g : AHp), i ≤ H.n + 1 → i < f → Rea E H an bn H.n g → May E H an bn H.n g → (∀ j, i ≤ j → j ≤ H.n → Cnt E H an bn j g) → ∃ g1, m_X12_counts_2 f (nI H.n) (nI i + (-1)) g = some ((), g1) ∧ Ch P101 g g1 ∧ (∀ j, j ≤ H.n → Cnt E H an bn j g1) := by
  have hn := H.hn
  intro i
  induction i with
  | zero =>
    intro f g hi hf rea may hc
    obtain ⟨f, rfl⟩ : ∃ a, f = a + 1 := ⟨f - 1, by omega⟩
    exact ⟨g, by rw [m_X12_counts_2, if_pos (by decide)], Ch.rf, fun j hj => hc j (by omega) hj⟩
  | succ i ih =>
    intro f g hi hf rea may hc
    obtain ⟨f, rfl⟩ : ∃ a, f = a + 1 := ⟨f - 1, by omega⟩
    have ei : nI (i + 1) + (-1) = nI i := by rw [nI_dec (by omega), Nat.add_sub_cancel]
    obtain ⟨g1, e1, c1, q1⟩ := counts8 (E := E) (H := H) ha hb (m_X12_counts_2 f) (show i ≤ H.n by omega) 625 0 FU g (by omega) (by unfold FU; omega) rea may (fun h => hc (i + 1) (by omega) (by omega)) (fun a b _ _ h => by omega)
    have c1' : Ch P101 g g1 := c1.mono (fun k z hp => by
      simp only [beq_eq_false_iff_ne] at hp
      simp [hp])
    obtain ⟨g2, e2, c2, q2⟩ := ih f g1 (by omega) (by omega) (fun j a b h1 h2 h3 => by rw [c1'.i rfl]; exact rea j a b h1 h2 h3) (fun j a b h1 h2 h3 hr k hk => by rw [c1'.i rfl]; exact may j a b h1 h2 h3 hr k hk) (fun j h1 h2 => by
      by_cases hji : j = i
      · rw [hji]; exact q1
      · intro a b h3 h4 hr
        have hz : 625 * (i + 1) ≤ 625 * j + (25 * a + b) := by omega
        rw [c1.i (by
          simp only [Bool.and_eq_false_iff]
          right
          show Nat.ble ((625 * j + (25 * a + b)) + 1) (625 * (i + 1)) = false
          exact ble_f.mpr (by omega))]
        exact hc j (by omega) h2 a b h3 h4 hr)
    refine ⟨g2, ?_, c1'.trans c2, q2⟩
    rw [m_X12_counts_2, ei, if_neg (nI_pos (by omega))]
    rw [show m_X12_counts_8 (m_X12_counts_2 f) FU (nI H.n) (nI i) 0 g = _ from e1, e2]
theorem held69 {i a b w j : Nat} {what : Int32} (hi : i < H.n) (ha : a ≤ 24) (hb : b ≤ 24) {g : AHp} (hm : ∀ k, k < 32 → tb (hI g 100 (625 * i + (25 * a + b))) k = FH E H i a b k) (hr : RS (FH E H) an bn i a b) (hc0 : Cnt E H an bn i g) (hc1 : Cnt E H an bn (i + 1) g) (hbo : bo (FH E H) (H.n - i - 1) i a b = some (w, j)) (k59 : Int32 → Int32 → Int32 → Int32 → AHp → Option (Int32 × AHp)) : ∀ (d l f : Nat), l + d = j → 1 ≤ l → d < f → m_X12_heldBy_69 k59 f what (nI (25 * a + b)) (nI l) (nI i) g = k59 what (nI (25 * j + a)) (nI j) (nI (i + 1)) g := by
  have hn := H.hn
  obtain ⟨⟨a1, a2, a3, r, a4, a5⟩, hmin⟩ := bw_some 24 w j hbo
  have hwd : wd (FH E H) (H.n - i) i a b = some w := by rw [show H.n - i = (H.n - i - 1) + 1 by omega, wd_bo, hbo]; rfl
  have h101 : hI g 101 (625 * i + (25 * a + b)) = nI w := by rw [hc0 a b ha hb hr, hwd]; rfl
  have hwb := wd_le _ _ _ _ _ hwd
  have ex : (625 : Int32) * nI i + nI (25 * a + b) = nI (625 * i + (25 * a + b)) := by rw [show (625 : Int32) * nI i = nI (625 * i) from pk_mul 625 i, nI_add]
  have ec : (nI (625 * i + (25 * a + b))).toNatClampNeg = 625 * i + (25 * a + b) := nI_clamp (by omega)
  have g75 : inb (nI (625 * i + (25 * a + b))) 7500 := inb_nI (by omega) (by omega)
  have g81 : inb (nI (625 * i + (25 * a + b))) 8125 := inb_nI (by omega) (by omega)
  have hFAR : FAR = 1000000000 := rfl
  have val : ∀ l, 1 ≤ l → l ≤ 24 → FH E H i a b l = true → hI g 101 (625 * (i + 1) + (25 * l + a)) = nI (encF (wd (FH E H) (H.n - i - 1) (i + 1) l a)) := fun l h1 h2 hF => by
    rw [hc1 l a h2 ha ⟨⟨h1, h2⟩, b, hb, hr, hF⟩, show H.n - (i + 1) = H.n - i - 1 by omega]
  intro d
  induction d with
  | zero =>
    intro l f hl h1 hf
    obtain ⟨f, rfl⟩ : ∃ a, f = a + 1 := ⟨f - 1, by omega⟩
    have : l = j := by omega
    subst this
    have exn : (625 : Int32) * nI (i + 1) + nI (25 * l + a) = nI (625 * (i + 1) + (25 * l + a)) := by rw [show (625 : Int32) * nI (i + 1) = nI (625 * (i + 1)) from pk_mul 625 (i + 1), nI_add]
    rw [m_X12_heldBy_69]
    simp only [ex, gd_pos g75, gd_pos g81, ec, lt_eq, nI_1]
    rw [hasM _ (by omega), bd_some, hm l (by omega), a3, i01_t, if_neg one_ne, pairBehindM ha hb, bd_some, exn, gd_pos (inb_nI (by omega) (by omega)), nI_clamp (by omega), val l a1 a2 a3, show wd (FH E H) (H.n - i - 1) (i + 1) l a = some r from a4, show encF (some r) = r from rfl, nI_add, h101, if_pos (by rw [a5]), pairBehindM ha hb, bd_some]
  | succ d ih =>
    intro l f hl h1 hf
    obtain ⟨f, rfl⟩ : ∃ a, f = a + 1 := ⟨f - 1, by omega⟩
    have exn : (625 : Int32) * nI (i + 1) + nI (25 * l + a) = nI (625 * (i + 1) + (25 * l + a)) := by rw [show (625 : Int32) * nI (i + 1) = nI (625 * (i + 1)) from pk_mul 625 (i + 1), nI_add]
    rw [m_X12_heldBy_69]
    simp only [ex, gd_pos g75, gd_pos g81, ec, lt_eq, nI_1]
    rw [hasM _ (by omega), bd_some, hm l (by omega)]
    cases hF : FH E H i a b l with
    | false => rw [i01_f, if_pos rfl]; exact ih (l + 1) f (by omega) (by omega) (by omega)
    | true =>
      have hle := encF_le (E := E) (H := H) (d := H.n - i - 1) (i := i + 1) (a := l) (b := a) (by omega)
      rw [i01_t, if_neg one_ne, pairBehindM ha hb, bd_some, exn, gd_pos (inb_nI (by omega) (by omega)), nI_clamp (by omega), val l h1 (by omega) hF, nI_add, h101, if_neg]
      · exact ih (l + 1) f (by omega) (by omega) (by omega)
      · rw [i32_eq, nI_toInt (by omega), nI_toInt (by omega)]
        cases hw : wd (FH E H) (H.n - i - 1) (i + 1) l a with
        | none => show ¬ (((l + FAR : Nat) : Int) = w); omega
        | some r2 =>
          have := (hmin l r2 h1 (by omega) hF hw).2 (by omega)
          show ¬ (((l + r2 : Nat) : Int) = w); omega
theorem held59 {wt : Nat} (hwt : wt < H.n) (ha : an ≤ 24) (hb : bn ≤ 24) {g : AHp} (may : May E H an bn H.n g) (hc : ∀ j, j ≤ H.n → Cnt E H an bn j g) : ∀ (d i a b f : Nat) (x : Int32), i + d = wt + 1 → d < f → RS (FH E H) an bn i a b → wd (FH E H) (H.n - i) i a b ≠ none → (d = 0 → x = nI a) → m_X12_heldBy_59 f (nI wt) (nI (25 * a + b)) x (nI i) g = some (nI (pl (FH E H) H.n d i a b), g) := by
  have hn := H.hn
  intro d
  induction d with
  | zero =>
    intro i a b f x hi hf hr hw hx
    obtain ⟨f, rfl⟩ : ∃ a, f = a + 1 := ⟨f - 1, by omega⟩
    rw [m_X12_heldBy_59, if_pos (nI_lt (by omega) (by omega)), hx rfl]; rfl
  | succ d ih =>
    intro i a b f x hi hf hr hw hx
    obtain ⟨f, rfl⟩ : ∃ a, f = a + 1 := ⟨f - 1, by omega⟩
    have hab := RS_b ha hb i a b hr
    rw [show H.n - i = (H.n - i - 1) + 1 by omega, wd_bo] at hw
    cases hbo : bo (FH E H) (H.n - i - 1) i a b with
    | none => rw [hbo] at hw; exact absurd rfl hw
    | some wj =>
      obtain ⟨w, j⟩ := wj
      obtain ⟨⟨a1, a2, a3, r, a4, a5⟩, -⟩ := bw_some 24 w j hbo
      have e := held69 (what := nI wt) (show i < H.n by omega) hab.1 hab.2 (may i a b (by omega) hab.1 hab.2 hr) hr (hc i (by omega)) (hc (i + 1) (by omega)) hbo (m_X12_heldBy_59 f) (j - 1) 1 FU (by omega) (by omega) (by unfold FU; omega)
      rw [m_X12_heldBy_59, if_neg (nI_nlt (by omega) (by omega))]
      rw [show m_X12_heldBy_69 (m_X12_heldBy_59 f) FU (nI wt) (nI (25 * a + b)) 1 (nI i) g = _ from e]
      rw [ih (i + 1) j a f (nI j) (by omega) (by omega) ⟨⟨a1, a2⟩, b, hab.2, hr, a3⟩ (by rw [show H.n - (i + 1) = H.n - i - 1 by omega, show wd (FH E H) (H.n - i - 1) (i + 1) j a = some r from a4]; simp) (fun _ => rfl)]
      rw [pl, hbo]
theorem heldByM {what : Int32} {g : AHp} (h1n : 1 ≤ H.n) (ea : E.a = nI an) (eb : E.b = nI bn) (ha : an ≤ 24) (hb : bn ≤ 24) (hwt : what = -1 ∨ what = 20 ∨ ∃ wt, what = nI wt ∧ wt < H.n) (x : RX E g) (wx : WX E H M g) : ∃ g1, m_X12_heldBy H.laws (nI H.n) (nI mr) what g = some (resH E H an bn what, g1) ∧ Ch PR3 g g1 := by
  have hn := H.hn
  obtain ⟨g0, g1, e1, c1, z1, rfl⟩ := reaches3 (M := M) ea eb ha hb 8125 0 FU g (by omega) (by unfold FU; omega) x wx (fun z hz => by omega) (fun _ _ => Or.inr trivial)
  have c1' : Ch PR3 g (sI g0 102 (25 * an + bn) 1) := (c1.mono (fun k i hp => by
    simp only [Bool.or_eq_false_iff] at hp ⊢; exact hp.2)).sI (by simp)
  have rea0 : Rea E H an bn 0 (sI g0 102 (25 * an + bn) 1) := fun j a b hj h1 h2 => by
    have : j = 0 := by omega
    subst this
    rw [hI_sI]
    by_cases he : 25 * a + b = 25 * an + bn
    · rw [if_pos ⟨rfl, by omega⟩]
      exact ⟨fun _ => ⟨by omega, by omega⟩, fun _ => one_ne⟩
    · rw [if_neg (by omega), z1 _ (by omega)]
      exact ⟨fun h => absurd rfl h, fun ⟨h3, h4⟩ => absurd (by rw [h3, h4]) he⟩
  obtain ⟨fu, g2, e2, x2, w2, r2, m2, f2, c2⟩ := reaches41 (M := M) ha hb H.n 0 FU 0 (sI g0 102 (25 * an + bn) 1) (by omega) (by unfold FU; omega) (x.pkm (pr3_pkm c1')) (wx.ch c1' (fun _ => ⟨rfl, rfl, rfl⟩)) rea0 (fun z hz hz2 => by rw [hI_sI, if_neg (by omega), z1 z hz2]) (fun j a b hj => by omega) ⟨Nat.le_refl _, ⟨an, bn, rfl, rfl⟩, fun j a b h1 h2 => by omega⟩
  have c12 := c1'.trans c2
  have hfu : fu = dr (FH E H) H.n 0 an bn := by
    obtain ⟨h1, ⟨a, b, h2⟩, h3⟩ := f2
    have u1 := RS_dr (F := FH E H) (n := H.n) fu a b h1 h2
    have u2 := dr_ge (F := FH E H) (H.n - fu) fu a b
    obtain ⟨a2, b2, _, _, h5⟩ := dr_RS (F := FH E H) H.n 0 an bn ha hb ⟨rfl, rfl⟩
    have u3 := dr_le (F := FH E H) H.n 0 an bn
    rcases Nat.lt_or_ge fu (dr (FH E H) H.n 0 an bn) with h | h
    · exact absurd h5 (h3 _ a2 b2 h (by omega))
    · omega
  have er : m_X12_reaches H.laws (nI H.n) (nI mr) g = some (nI fu, g2) := by
    unfold m_X12_reaches
    rw [show m_X12_reaches_3 FU H.laws (nI H.n) (nI mr) 0 g = _ from e1]; exact e2
  unfold m_X12_heldBy resH
  rw [er, bd_some]
  by_cases h20 : what = 20
  · rw [if_pos h20, if_pos h20, hfu]; exact ⟨g2, rfl, c12⟩
  rw [if_neg h20, if_neg h20]
  obtain ⟨g3, e3, c3, q3⟩ := counts2 (E := E) (H := H) ha hb (H.n + 1) FU g2 (by omega) (by unfold FU; omega) r2 m2 (fun j h1 h2 => by omega)
  have e3' : m_X12_counts (nI H.n) g2 = some ((), g3) := by
    unfold m_X12_counts
    rw [nI_dec (by omega), Nat.add_sub_cancel] at e3; exact e3
  have c3' : Ch PR3 g2 g3 := c3.mono (fun k i hp => by
    simp only [Bool.or_eq_false_iff] at hp ⊢; exact hp.1.2)
  have x3 := x2.pkm (pr3_pkm c3')
  rw [e3', bd_some, startPairM x3 ea eb, bd_some]
  have hdn := wd_dr (F := FH E H) H.n 0 an bn
  have hle := dr_le (F := FH E H) H.n 0 an bn
  cases hw : wd (FH E H) H.n 0 an bn with
  | none =>
    have : ¬ dr (FH E H) H.n 0 an bn = 0 + H.n := fun z => (hdn.mpr z) hw
    rw [if_neg (nI_ge (by omega) (by omega))]
    exact ⟨g3, rfl, c12.trans c3'⟩
  | some w =>
    have : dr (FH E H) H.n 0 an bn = 0 + H.n := hdn.mp (by rw [hw]; simp)
    rw [if_pos (nI_le (by omega) (by omega))]
    simp only []
    have hc0 := q3 0 (by omega) an bn ha hb ⟨rfl, rfl⟩
    rw [Nat.sub_zero, hw, show 625 * 0 + (25 * an + bn) = 25 * an + bn by omega] at hc0
    by_cases hm1 : what = -1
    · rw [if_pos hm1, if_pos hm1, gd_pos (inb_nI (by omega) (by omega)), nI_clamp (by omega), hc0]
      exact ⟨g3, rfl, c12.trans c3'⟩
    · rw [if_neg hm1, if_neg hm1]
      obtain ⟨wt, hwt1, hwt2⟩ : ∃ wt, what = nI wt ∧ wt < H.n := by
        rcases hwt with h | h | h
        · exact absurd h hm1
        · exact absurd h h20
        · exact h
      have e4 := held59 (E := E) (H := H) (g := g3) hwt2 ha hb (fun j a b h1 h2 h3 hr k hk => by rw [c3.i rfl]; exact m2 j a b h1 h2 h3 hr k hk) q3 (wt + 1) 0 an bn FU 0 (by omega) (by unfold FU; omega) ⟨rfl, rfl⟩ (by rw [Nat.sub_zero, hw]; simp) (fun h => by omega)
      rw [hwt1, nI_clamp (by omega)]
      exact ⟨g3, e4, c12.trans c3'⟩
end RCH
