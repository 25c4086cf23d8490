/-! held and coded: the reference's counts and path -/
section RCH
variable {E : En} {H : HPar} {mr an bn : Nat} {M : MPar E H mr}
theorem reaches41 (ha : an ≤ 24) (hb : bn ≤ 24) : ∀ (d i f fu : Nat) (g : AHp), i + d = H.n → d < f → RX E g → WX E H M g → Rea E H an bn i g → Zr i g → May E H an bn i g → FuOK E H an bn i fu → ∃ fu2 g1, m_X12_reaches_41 f H.laws (nI H.n) (nI mr) (nI fu) (nI i) g = some (nI fu2, g1) ∧ RX E g1 ∧ WX E H M g1 ∧ Rea E H an bn H.n g1 ∧ May E H an bn H.n g1 ∧ FuOK E H an bn H.n fu2 ∧ Ch PR3 g g1 := by
  have hn := H.hn
  intro d
  induction d with
  | zero =>
    intro i f fu g hi hf x wx rea zr may hfu
    obtain ⟨f, rfl⟩ : ∃ a, f = a + 1 := ⟨f - 1, by omega⟩
    have : i = H.n := by omega
    subst this
    exact ⟨fu, g, by rw [m_X12_reaches_41, if_pos (nI_le (Nat.le_refl _) (by omega))], x, wx, rea, may, hfu, Ch.rf⟩
  | succ d ih =>
    intro i f fu g hi hf x wx rea zr may hfu
    obtain ⟨f, rfl⟩ : ∃ a, f = a + 1 := ⟨f - 1, by omega⟩
    obtain ⟨fu2, g1, e1, x1, w1, r1, z1, m1, f1, c1⟩ := reaches50 (M := M) ha hb (m_X12_reaches_41 f) (show i < H.n by omega) 625 0 FU fu g (by omega) (by unfold FU; omega) x wx rea (fun z hz hz2 => zr z (by omega) hz2) (fun l a h1 h2 => ⟨fun h => absurd (zr _ (by omega) (by omega)) h, fun ⟨_, b, _, h, _⟩ => by omega⟩) may (fun a b _ _ h => by omega) (Or.inr ⟨hfu, fun a b l _ _ h => by omega⟩)
    obtain ⟨fu3, g2, e2, x2, w2, r2, m2, f2, c2⟩ := ih (i + 1) f fu2 g1 (by omega) (by omega) x1 w1 r1 z1 m1 f1
    refine ⟨fu3, g2, ?_, x2, w2, r2, m2, f2, c1.trans c2⟩
    rw [m_X12_reaches_41, if_neg (nI_ge (by omega) (by omega))]
    rw [show m_X12_reaches_50 (m_X12_reaches_41 f) FU H.laws (nI H.n) (nI mr) (nI fu) (nI i) 0 g = _ from e1, e2]
theorem reaches3 (ea : E.a = nI an) (eb : E.b = nI bn) (ha : an ≤ 24) (hb : bn ≤ 24) : ∀ (d p f : Nat) (g : AHp), p + d = 8125 → d < f → RX E g → WX E H M g → (∀ z, z < p → hI g 102 z = 0) → (∀ z, 8125 ≤ z → hI g 102 z = 0 ∨ True) → ∃ g0 g1, m_X12_reaches_3 f H.laws (nI H.n) (nI mr) (nI p) g = m_X12_reaches_41 FU H.laws (nI H.n) (nI mr) 0 0 g1 ∧ Ch (fun k _ => k == 102) g g0 ∧ (∀ z, z < 8125 → hI g0 102 z = 0) ∧ g1 = sI g0 102 (25 * an + bn) 1 := by
  intro d
  induction d with
  | zero =>
    intro p f g hp hf x wx hz _
    obtain ⟨f, rfl⟩ : ∃ a, f = a + 1 := ⟨f - 1, by omega⟩
    have : p = 8125 := by omega
    subst this
    refine ⟨g, _, ?_, Ch.rf, hz, rfl⟩
    rw [m_X12_reaches_3, if_pos (by decide), startPairM x ea eb, bd_some, gd_pos (inb_nI (by omega) (by omega)), nI_clamp (by omega), vb1, lt_eq]
  | succ d ih =>
    intro p f g hp hf x wx hz h8
    obtain ⟨f, rfl⟩ : ∃ a, f = a + 1 := ⟨f - 1, by omega⟩
    have c : Ch (fun k _ => k == 102) g (sI g 102 p 0) := Ch.rf.sI rfl
    have c' : Ch PR3 g (sI g 102 p 0) := Ch.rf.sI (by simp)
    rw [m_X12_reaches_3, if_neg (show ¬ 8125 ≤ nI p from nI_ge (a := p) (b := 8125) (by omega) (by omega)), gd_pos (inb_nI (by omega) (by omega)), nI_clamp (by omega), vb0, lt_eq, lt_eq, nI_1]
    obtain ⟨g0, g1, e1, c1, z1, q1⟩ := ih (p + 1) f (sI g 102 p 0) (by omega) (by omega) (x.pkm (pr3_pkm c')) (wx.ch c (fun _ => ⟨rfl, rfl, rfl⟩)) (fun z h => by
      rw [hI_sI]
      by_cases hzp : z = p
      · rw [if_pos ⟨rfl, hzp⟩]
      · rw [if_neg (by omega)]; exact hz z (by omega)) (fun _ _ => Or.inr trivial)
    exact ⟨g0, g1, e1, c.trans c1, z1, q1⟩
def FAR : Nat := 1000000000
def encF : Option Nat → Nat
  | none => FAR
  | some w => w
theorem encF_le {d i a b : Nat} (hd : d ≤ 12) : encF (wd (FH E H) d i a b) ≤ FAR := by
  cases h : wd (FH E H) d i a b with
  | none => exact Nat.le_refl _
  | some w => have := wd_le d i a b w h; show w ≤ FAR; unfold FAR; omega
/-- a row is counted -/
def Cnt (E : En) (H : HPar) (an bn i : Nat) (g : AHp) : Prop := ∀ a b, a ≤ 24 → b ≤ 24 → RS (FH E H) an bn i a b → hI g 101 (625 * i + (25 * a + b)) = nI (encF (wd (FH E H) (H.n - i) i a b))
theorem counts65 {i a b : Nat} (hi : i < H.n) (ha : a ≤ 24) (hb : b ≤ 24) (hr : RS (FH E H) an bn i a b) (k2 : Int32 → Int32 → AHp → Option (Unit × AHp)) (k8 : Int32 → Int32 → Int32 → AHp → Option (Unit × AHp)) : ∀ (d l f : Nat) (g : AHp), l + d = 25 → 1 ≤ l → d < f → (∀ k, k < 32 → tb (hI g 100 (625 * i + (25 * a + b))) k = FH E H i a b k) → Cnt E H an bn (i + 1) g → hI g 101 (625 * i + (25 * a + b)) = nI (encF ((bw (FH E H i a b) (fun l => wd (FH E H) (H.n - (i + 1)) (i + 1) l a) (l - 1)).map Prod.fst)) → ∃ g1, m_X12_counts_65 k2 k8 f (nI H.n) (nI i) (nI (25 * a + b)) (nI l) g = k8 (nI H.n) (nI i) (nI (25 * a + b + 1)) g1 ∧ Ch (fun k z => k == 101 && z == 625 * i + (25 * a + b)) g g1 ∧ hI g1 101 (625 * i + (25 * a + b)) = nI (encF (wd (FH E H) (H.n - i) i a b)) := by
  have hn := H.hn
  have ex : (625 : Int32) * nI i + nI (25 * a + b) = nI (625 * i + (25 * a + b)) := by rw [show (625 : Int32) * nI i = nI (625 * i) from pk_mul 625 i, nI_add]
  have ec : (nI (625 * i + (25 * a + b))).toNatClampNeg = 625 * i + (25 * a + b) := nI_clamp (by omega)
  have g75 : inb (nI (625 * i + (25 * a + b))) 7500 := inb_nI (by omega) (by omega)
  have g81 : inb (nI (625 * i + (25 * a + b))) 8125 := inb_nI (by omega) (by omega)
  intro d
  induction d with
  | zero =>
    intro l f g hl h1 hf hm hc h101
    obtain ⟨f, rfl⟩ : ∃ a, f = a + 1 := ⟨f - 1, by omega⟩
    have : l = 25 := by omega
    subst this
    refine ⟨g, by rw [m_X12_counts_65, if_pos (by decide), lt_eq, nI_1], Ch.rf, ?_⟩
    rw [h101, show H.n - i = (H.n - (i + 1)) + 1 by omega]; rfl
  | succ d ih =>
    intro l f g hl h1 hf hm hc h101
    obtain ⟨f, rfl⟩ : ∃ a, f = a + 1 := ⟨f - 1, by omega⟩
    rw [m_X12_counts_65, if_neg (show ¬ 24 < nI l from nI_nlt (a := 24) (b := l) (by omega) (by omega))]
    simp only [ex, gd_pos g75, gd_pos g81, ec, lt_eq, nI_1]
    rw [hasM _ (by omega), bd_some, hm l (by omega)]
    have hstep : bw (FH E H i a b) (fun l => wd (FH E H) (H.n - (i + 1)) (i + 1) l a) (l + 1 - 1) = (match (if FH E H i a b l = true then wd (FH E H) (H.n - (i + 1)) (i + 1) l a else none) with
        | none => bw (FH E H i a b) (fun l => wd (FH E H) (H.n - (i + 1)) (i + 1) l a) (l - 1)
        | some r => match bw (FH E H i a b) (fun l => wd (FH E H) (H.n - (i + 1)) (i + 1) l a) (l - 1) with
          | none => some (l + r, l)
          | some (w, j) => if l + r < w then some (l + r, l) else some (w, j)) := by
      obtain ⟨m, rfl⟩ : ∃ m, l = m + 1 := ⟨l - 1, by omega⟩
      rfl
    cases hF : FH E H i a b l with
    | false =>
      rw [hF, if_neg (by simp)] at hstep
      simp only [] at hstep
      rw [i01_f, if_pos rfl]
      exact ih (l + 1) f g (by omega) (by omega) (by omega) hm hc (by rw [hstep, h101])
    | true =>
      rw [hF, if_pos rfl] at hstep
      have hrn : RS (FH E H) an bn (i + 1) l a := ⟨⟨h1, by omega⟩, b, hb, hr, hF⟩
      have hv := hc l a (by omega) ha hrn
      have exn : (625 : Int32) * nI (i + 1) + nI (25 * l + a) = nI (625 * (i + 1) + (25 * l + a)) := by rw [show (625 : Int32) * nI (i + 1) = nI (625 * (i + 1)) from pk_mul 625 (i + 1), nI_add]
      have hle := encF_le (E := E) (H := H) (d := H.n - (i + 1)) (i := i + 1) (a := l) (b := a) (by omega)
      have hFAR : FAR = 1000000000 := rfl
      rw [i01_t, if_neg one_ne, pairBehindM ha hb, bd_some, exn, gd_pos (inb_nI (by omega) (by omega)), nI_clamp (by omega), hv, nI_add, h101]
      have keep : (bw (FH E H i a b) (fun l => wd (FH E H) (H.n - (i + 1)) (i + 1) l a) (l + 1 - 1)).map Prod.fst = (bw (FH E H i a b) (fun l => wd (FH E H) (H.n - (i + 1)) (i + 1) l a) (l - 1)).map Prod.fst → ∃ g1, m_X12_counts_65 k2 k8 f (nI H.n) (nI i) (nI (25 * a + b)) (nI (l + 1)) g = k8 (nI H.n) (nI i) (nI (25 * a + b + 1)) g1 ∧ Ch (fun k z => k == 101 && z == 625 * i + (25 * a + b)) g g1 ∧ hI g1 101 (625 * i + (25 * a + b)) = nI (encF (wd (FH E H) (H.n - i) i a b)) := fun he =>
        ih (l + 1) f g (by omega) (by omega) (by omega) hm hc (by rw [he, h101])
      have take : ∀ v, (bw (FH E H i a b) (fun l => wd (FH E H) (H.n - (i + 1)) (i + 1) l a) (l + 1 - 1)).map Prod.fst = some v → ∃ g1, m_X12_counts_65 k2 k8 f (nI H.n) (nI i) (nI (25 * a + b)) (nI (l + 1)) (sI g 101 (625 * i + (25 * a + b)) (nI v)) = k8 (nI H.n) (nI i) (nI (25 * a + b + 1)) g1 ∧ Ch (fun k z => k == 101 && z == 625 * i + (25 * a + b)) g g1 ∧ hI g1 101 (625 * i + (25 * a + b)) = nI (encF (wd (FH E H) (H.n - i) i a b)) := fun v he => by
        have c : Ch (fun k z => k == 101 && z == 625 * i + (25 * a + b)) g (sI g 101 (625 * i + (25 * a + b)) (nI v)) := Ch.rf.sI (by simp)
        obtain ⟨g1, e1, c1, q1⟩ := ih (l + 1) f (sI g 101 (625 * i + (25 * a + b)) (nI v)) (by omega) (by omega) (by omega) hm (fun a2 b2 h1 h2 h3 => by
          rw [hI_sI, if_neg (by omega)]; exact hc a2 b2 h1 h2 h3) (by rw [sI_same, he]; rfl)
        exact ⟨g1, e1, c.trans c1, q1⟩
      cases hw : wd (FH E H) (H.n - (i + 1)) (i + 1) l a with
      | none =>
        rw [hw] at hstep
        simp only [] at hstep
        have hcur : encF ((bw (FH E H i a b) (fun l => wd (FH E H) (H.n - (i + 1)) (i + 1) l a) (l - 1)).map Prod.fst) ≤ FAR := by
          cases hq : bw (FH E H i a b) (fun l => wd (FH E H) (H.n - (i + 1)) (i + 1) l a) (l - 1) with
          | none => exact Nat.le_refl _
          | some wj =>
            obtain ⟨w, j⟩ := wj
            obtain ⟨⟨a1, a2, a3, r, a4, a5⟩, -⟩ := bw_some (l - 1) w j hq
            have := wd_le _ (i + 1) j a r a4
            show w ≤ FAR; omega
        rw [if_pos (nI_le (by show _ ≤ l + FAR; omega) (by show l + FAR < _; omega))]
        exact keep (by rw [hstep])
      | some r =>
        have hr2 := wd_le _ _ _ _ _ hw
        rw [hw] at hstep
        simp only [] at hstep
        rw [show encF (some r) = r from rfl]
        cases hq : bw (FH E H i a b) (fun l => wd (FH E H) (H.n - (i + 1)) (i + 1) l a) (l - 1) with
        | none =>
          rw [hq] at hstep
          simp only [] at hstep
          rw [show encF (Option.map Prod.fst (none : Option (Nat × Nat))) = FAR from rfl, if_neg (nI_ge (by omega) (by omega))]
          exact take (l + r) (by rw [hstep]; rfl)
        | some wj =>
          obtain ⟨w, j⟩ := wj
          obtain ⟨⟨a1, a2, a3, r1, a4, a5⟩, -⟩ := bw_some (l - 1) w j hq
          have := wd_le _ (i + 1) j a r1 a4
          rw [hq] at hstep
          simp only [] at hstep
          rw [show encF (Option.map Prod.fst (some (w, j))) = w from rfl]
          by_cases hlt : l + r < w
          · rw [if_pos hlt] at hstep
            rw [if_neg (nI_ge (by omega) (by omega))]
            exact take (l + r) (by rw [hstep]; rfl)
          · rw [if_neg hlt] at hstep
            rw [if_pos (nI_le (by omega) (by omega))]
            exact keep (by rw [hstep, hq])
theorem counts8 (ha : an ≤ 24) (hb : bn ≤ 24) (k2 : Int32 → Int32 → AHp → Option (Unit × AHp)) {i : Nat} (hi : i ≤ H.n) : ∀ (d p f : Nat) (g : AHp), p + d = 625 → d < f → Rea E H an bn H.n g → May E H an bn H.n g → (i < H.n → Cnt E H an bn (i + 1) g) → (∀ a b, a ≤ 24 → b ≤ 24 → 25 * a + b < p → RS (FH E H) an bn i a b → hI g 101 (625 * i + (25 * a + b)) = nI (encF (wd (FH E H) (H.n - i) i a b))) → ∃ g1, m_X12_counts_8 k2 f (nI H.n) (nI i) (nI p) g = k2 (nI H.n) (nI i + (-1)) g1 ∧ Ch (fun k z => k == 101 && Nat.ble (625 * i) z && Nat.blt z (625 * (i + 1))) g g1 ∧ Cnt E H an bn i g1 := by
  have hn := H.hn
  intro d
  induction d with
  | zero =>
    intro p f g hp hf rea may hc hd
    obtain ⟨f, rfl⟩ : ∃ a, f = a + 1 := ⟨f - 1, by omega⟩
    have : p = 625 := by omega
    subst this
    exact ⟨g, by rw [m_X12_counts_8, if_pos (by decide), lt_eq], Ch.rf, fun a b h1 h2 hr => hd a b h1 h2 (by omega) hr⟩
  | succ d ih =>
    intro p f g hp hf rea may hc hd
    obtain ⟨f, rfl⟩ : ∃ a, f = a + 1 := ⟨f - 1, by omega⟩
    have ex : (625 : Int32) * nI i + nI p = nI (625 * i + p) := by rw [show (625 : Int32) * nI i = nI (625 * i) from pk_mul 625 i, nI_add]
    have g81 : inb (nI (625 * i + p)) 8125 := inb_nI (by omega) (by omega)
    have ec : (nI (625 * i + p)).toNatClampNeg = 625 * i + p := nI_clamp (by omega)
    have epair : p = 25 * (p / 25) + p % 25 := by omega
    have hpa : p / 25 ≤ 24 := by omega
    have hpb : p % 25 ≤ 24 := by omega
    generalize hA : p / 25 = a at epair hpa
    generalize hB : p % 25 = b at epair hpb
    have uniq : ∀ a2 b2, b2 ≤ 24 → 25 * a2 + b2 = p → a2 = a ∧ b2 = b := fun a2 b2 h1 h2 => by omega
    have cw : ∀ v, Ch (fun k z => k == 101 && Nat.ble (625 * i) z && Nat.blt z (625 * (i + 1))) g (sI g 101 (625 * i + p) v) := fun v => Ch.rf.sI (by
      simp only [beq_self_eq_true, Bool.true_and, Bool.and_eq_true]
      exact ⟨Nat.ble_eq_true_of_le (by omega), Nat.ble_eq_true_of_le (by omega)⟩)
    have next : ∀ g2, Ch (fun k z => k == 101 && z == 625 * i + p) g g2 → (RS (FH E H) an bn i a b → hI g2 101 (625 * i + p) = nI (encF (wd (FH E H) (H.n - i) i a b))) → ∃ g1, m_X12_counts_8 k2 f (nI H.n) (nI i) (nI (p + 1)) g2 = k2 (nI H.n) (nI i + (-1)) g1 ∧ Ch (fun k z => k == 101 && Nat.ble (625 * i) z && Nat.blt z (625 * (i + 1))) g g1 ∧ Cnt E H an bn i g1 := fun g2 c2 hv => by
      have o101 : ∀ z, z ≠ 625 * i + p → hI g2 101 z = hI g 101 z := fun z hz => c2.i (by simp; exact hz)
      obtain ⟨g1, e1, c1, q1⟩ := ih (p + 1) f g2 (by omega) (by omega) (fun j a2 b2 h1 h2 h3 => by rw [c2.i rfl]; exact rea j a2 b2 h1 h2 h3) (fun j a2 b2 h1 h2 h3 hr k hk => by rw [c2.i rfl]; exact may j a2 b2 h1 h2 h3 hr k hk) (fun h a2 b2 h1 h2 hr => by rw [o101 _ (by omega)]; exact hc h a2 b2 h1 h2 hr) (fun a2 b2 h1 h2 h3 hr => by
        by_cases he : 25 * a2 + b2 = p
        · obtain ⟨rfl, rfl⟩ := uniq a2 b2 h2 he
          rw [he]; exact hv hr
        · rw [o101 _ (by omega)]; exact hd a2 b2 h1 h2 (by omega) hr)
      refine ⟨g1, e1, (c2.mono (fun k z hp => ?_)).trans c1, q1⟩
      simp only [Bool.and_eq_false_iff, beq_eq_false_iff_ne] at hp ⊢
      by_cases hk : k = 101
      · right
        intro hz
        rcases hp with (hp | hp) | hp
        · exact hp hk
        · rw [hz, Nat.ble_eq_true_of_le (by omega)] at hp; cases hp
        · have : Nat.blt z (625 * (i + 1)) = true := Nat.ble_eq_true_of_le (by omega)
          rw [this] at hp; cases hp
      · exact Or.inl hk
    rw [m_X12_counts_8, if_neg (show ¬ 625 ≤ nI p from nI_ge (a := p) (b := 625) (by omega) (by omega))]
    unfold m_X12_counts_38
    simp only [ex, gd_pos g81, ec, lt_eq, nI_1]
    by_cases hin : i = H.n
    · rw [if_pos (by rw [hin]), if_pos (by rw [hin])]
      refine next _ (Ch.rf.sI (by simp)) (fun _ => ?_)
      rw [sI_same, hin, Nat.sub_self]; rfl
    · have hne : ¬ nI i = nI H.n := by rw [i32_eq, nI_toInt (by omega), nI_toInt (by omega)]; omega
      rw [if_neg hne, if_neg hne]
      have e102 : hI (sI g 101 (625 * i + p) 1000000000) 102 (625 * i + p) = hI g 102 (625 * i + p) := by rw [hI_sI, if_neg (by omega)]
      rw [e102]
      have hrs := rea i a b (by omega) hpa hpb
      rw [← epair] at hrs
      by_cases hz : hI g 102 (625 * i + p) = 0
      · rw [if_pos hz]
        exact next _ (Ch.rf.sI (by simp)) (fun hr => absurd hz (hrs.mpr hr))
      · rw [if_neg hz]
        have hr0 := hrs.mp hz
        obtain ⟨g2, e2, c2, q2⟩ := counts65 (show i < H.n by omega) hpa hpb hr0 k2 (m_X12_counts_8 k2 f) 24 1 FU (sI g 101 (625 * i + p) 1000000000) (by omega) (by omega) (by unfold FU; omega) (fun k hk => by
          rw [hI_sI, if_neg (by omega)]; exact may i a b (by omega) hpa hpb hr0 k hk) (fun a2 b2 h1 h2 h3 => by
          rw [hI_sI, if_neg (by omega)]; exact hc (by omega) a2 b2 h1 h2 h3) (by rw [← epair, sI_same]; rfl)
        rw [← epair] at e2 c2 q2
        rw [show m_X12_counts_65 k2 (m_X12_counts_8 k2 f) FU (nI H.n) (nI i) (nI p) 1 (sI g 101 (625 * i + p) 1000000000) = _ from e2]
        exact next g2 ((Ch.rf.sI (by simp) : Ch (fun k z => k == 101 && z == 625 * i + p) g _).trans c2) (fun _ => q2)
end RCH
