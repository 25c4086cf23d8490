/-! any talk: both -/
section ANYB
variable {E : En} {A : APar} {an bn : Nat}
theorem hold77 (k44 : Int32 → Int32 → Int32 → Int32 → Int32 → AHp → Option (Int32 × AHp)) (x1 x2 x3 x4 x5 x6 : Int32) : ∀ (d p f : Nat) (g : AHp), p + d = 625 → d < f → (∀ z, z < p → hI g 107 z = 0) → ∃ g1, m_X12_canHold_77 k44 f x1 x2 x3 x4 x5 x6 (nI p) g = m_X12_canHold_102 k44 FU x1 x2 x3 x4 x5 x6 0 g1 ∧ (∀ z, z < 625 → hI g1 107 z = 0) ∧ Ch (fun k _ => k == 107) g g1 := by
  intro d
  induction d with
  | zero =>
    intro p f g hp hf hz
    obtain ⟨f, rfl⟩ : ∃ a, f = a + 1 := ⟨f - 1, by omega⟩
    have : p = 625 := by omega
    subst this
    exact ⟨g, by rw [m_X12_canHold_77, if_pos (by decide)], hz, Ch.rf⟩
  | succ d ih =>
    intro p f g hp hf hz
    obtain ⟨f, rfl⟩ : ∃ a, f = a + 1 := ⟨f - 1, by omega⟩
    rw [m_X12_canHold_77, if_neg (show ¬ 625 ≤ nI p from nI_ge (a := p) (b := 625) (by omega) (by omega)), gd_pos (inb_nI (by omega) (by omega)), nI_clamp (by omega), vb0, lt_eq, lt_eq, nI_1]
    obtain ⟨g1, e1, z1, c1⟩ := ih (p + 1) f (sI g 107 p 0) (by omega) (by omega) (fun z h => by
      rw [hI_sI]
      by_cases hzp : z = p
      · rw [if_pos ⟨rfl, hzp⟩]
      · rw [if_neg (by omega)]; exact hz z (by omega))
    exact ⟨g1, e1, z1, (Ch.rf.sI rfl : Ch (fun k _ => k == 107) g _).trans c1⟩
theorem LY.ch {P : Nat → Nat → Bool} {N : Nat} {h g : AHp} (x : LY E A an bn N h) (c : Ch P h g) (hp : ∀ i, P 105 i = false) : LY E A an bn N g := fun i q a b h1 h2 h3 h4 h5 h6 k hk => by rw [c.i (hp _)]; exact x i q a b h1 h2 h3 h4 h5 h6 k hk
theorem hold44 {row : Nat} (ha : an ≤ 24) (hb : bn ≤ 24) (hrow : row < 2000) : ∀ (d i f : Nat) (S : Nat → Nat → Bool) (g : AHp), i + d = A.n → d < f → LY E A an bn 12500 g → PRl g S → (∀ a b, a ≤ 24 → b ≤ 24 → S a b = true → cbS an bn i (25 * a + b) = true ∧ (1 ≤ i → 1 ≤ a)) → ∃ g1, m_X12_canHold_44 f (nI row) (nI A.K) (nI A.n) 1 (nI i) g = some (if hsR (FA E A) A.K d i S row = true then 1 else 0, g1) ∧ Ch P67 g g1 := by
  have hn := A.hn
  have hK := A.hK
  intro d
  induction d with
  | zero =>
    intro i f S g hi hf ly pr hcb
    obtain ⟨f, rfl⟩ : ∃ a, f = a + 1 := ⟨f - 1, by omega⟩
    exact ⟨g, by rw [m_X12_canHold_44, if_pos (nI_le (by omega) (by omega)), gd_pos (Or.inr rfl)]; rfl, Ch.rf⟩
  | succ d ih =>
    intro i f S g hi hf ly pr hcb
    obtain ⟨f, rfl⟩ : ∃ a, f = a + 1 := ⟨f - 1, by omega⟩
    have hp0 : 0 < A.K ^ d := Nat.pow_pos hK.1
    have hp1 := pow_le4 (K := A.K) (e := d) hK.2 (by omega)
    have epow : m_X12_powerOf (nI A.K) (((nI A.n) - 1) - nI i) g = some (nI (A.K ^ d), g) := by
      rw [show nI A.n - 1 = nI (A.n - 1) from pk_sub (a := A.n) (b := 1) (by omega), pk_sub (by omega), show A.n - 1 - i = d by omega]
      exact powM hK.2 (by omega) g
    have hne : ¬ nI (A.K ^ d) = 0 := nI_ne0 hp0 (by omega)
    have hneK : ¬ nI A.K = 0 := nI_ne0 (by omega) (by omega)
    have ediv : nI row / nI (A.K ^ d) = nI (row / A.K ^ d) := pk_div (by omega) hp0 (by omega)
    have hdl : row / A.K ^ d ≤ row := Nat.div_le_self _ _
    have erem : nI (row / A.K ^ d) - nI (row / A.K ^ d) / nI A.K * nI A.K = nI (row / A.K ^ d % A.K) := pk_rem (by omega) (by omega) (by omega)
    have hq : row / A.K ^ d % A.K < A.K := Nat.mod_lt _ (by omega)
    rw [m_X12_canHold_44, if_neg (nI_ge (by omega) (by omega)), if_neg one_ne, epow, bd_some, gd_pos hne, gd_pos hneK, ediv, erem, lt_eq, hsR]
    generalize row / A.K ^ d % A.K = q at hq
    obtain ⟨g1, e1, z1, c1⟩ := hold77 (m_X12_canHold_44 f) (nI row) (nI A.K) (nI A.n) 0 (nI i) (nI q) 625 0 FU g (by omega) (by unfold FU; omega) (fun z hz => by omega)
    rw [show m_X12_canHold_77 (m_X12_canHold_44 f) FU (nI row) (nI A.K) (nI A.n) 0 (nI i) (nI q) 0 g = _ from e1]
    have c1' : Ch P67 g g1 := c1.mono (fun k i hp => (Bool.or_eq_false_iff.mp hp).2)
    obtain ⟨g2, e2, c2, q2⟩ := hold102 (E := E) (A := A) (S := S) (m_X12_canHold_44 f) (nI row) (nI A.K) (nI A.n) (show i < A.n by omega) hq (fun a b h1 h2 h3 => (hcb a b h1 h2 h3).1) 625 0 FU false g1 (by omega) (by unfold FU; omega) (ly.ch c1 (fun _ => rfl)) (fun a b h1 h2 => by rw [c1.i rfl]; exact pr a b h1 h2) (fun z hz => Or.inl (z1 z hz)) ⟨(fun h => by cases h), fun ⟨a, b, l, _, _, _, h, _⟩ => by omega⟩ (fun l a h1 h2 => ⟨fun h => absurd (z1 _ (by omega)) h, fun ⟨b, _, h, _⟩ => by omega⟩)
    rw [i01_f] at e2
    rw [show m_X12_canHold_102 (m_X12_canHold_44 f) FU (nI row) (nI A.K) (nI A.n) 0 (nI i) (nI q) 0 g1 = _ from e2]
    have c12 := c1'.trans c2
    cases hany : anyA (FA E A) i q S with
    | false =>
      obtain ⟨f, rfl⟩ : ∃ a, f = a + 1 := ⟨f - 1, by omega⟩
      refine ⟨g2, ?_, c12⟩
      rw [i01_f, Bool.false_and, i01_f, m_X12_canHold_44]
      by_cases hle : nI A.n ≤ nI (i + 1)
      · rw [if_pos hle, gd_pos (Or.inl rfl)]
      · rw [if_neg hle, if_pos rfl, gd_pos (Or.inl rfl)]
    | true =>
      obtain ⟨g3, e3, c3⟩ := ih (i + 1) f (nxtA (FA E A) i q S) g2 (by omega) (by omega) ((ly.ch c1 (fun _ => rfl)).ch c2 (fun _ => rfl)) q2 (fun l a h1 h2 h3 => by
        obtain ⟨_, _, b, u1, u2, u3⟩ := nxtA_iff.mp h3
        have hl := FA_b hq (by omega) u3
        obtain ⟨hcb2, hcb3⟩ := hcb a b h2 u1 u2
        refine ⟨?_, fun _ => hl.1⟩
        unfold cbS at hcb2 ⊢
        rw [if_neg (by omega)]
        by_cases h0 : i = 0
        · rw [if_pos h0] at hcb2
          have := of_decide_eq_true hcb2
          rw [if_pos (by omega)]
          exact decide_eq_true (by omega)
        · rw [if_neg (show ¬ i + 1 = 1 by omega)]
          have := hcb3 (by omega)
          exact decide_eq_true (by omega))
      refine ⟨g3, ?_, c12.trans c3⟩
      rw [i01_t, Bool.true_and, e3]
theorem hold3 (ea : E.a = nI an) (eb : E.b = nI bn) (ha : an ≤ 24) (hb : bn ≤ 24) (x1 x2 x3 : Int32) : ∀ (d p f : Nat) (g : AHp), p + d = 625 → d < f → RX E g → (∀ a b, a ≤ 24 → b ≤ 24 → 25 * a + b < p → (hI g 106 (25 * a + b) ≠ 0 ↔ S0A an bn a b = true)) → ∃ g1, m_X12_canHold_3 f x1 x2 x3 (nI p) g = m_X12_canHold_44 FU x1 x2 x3 1 0 g1 ∧ PRl g1 (S0A an bn) ∧ Ch (fun k _ => k == 106) g g1 := by
  intro d
  induction d with
  | zero =>
    intro p f g hp hf x hd
    obtain ⟨f, rfl⟩ : ∃ a, f = a + 1 := ⟨f - 1, by omega⟩
    have : p = 625 := by omega
    subst this
    exact ⟨g, by rw [m_X12_canHold_3, if_pos (by decide)], fun a b h1 h2 => hd a b h1 h2 (by omega), Ch.rf⟩
  | succ d ih =>
    intro p f g hp hf x hd
    obtain ⟨f, rfl⟩ : ∃ a, f = a + 1 := ⟨f - 1, by omega⟩
    have next : ∀ v : Int32, (v ≠ 0 ↔ p = 25 * an + bn) → ∃ g1, m_X12_canHold_3 f x1 x2 x3 (nI (p + 1)) (sI g 106 p v) = m_X12_canHold_44 FU x1 x2 x3 1 0 g1 ∧ PRl g1 (S0A an bn) ∧ Ch (fun k _ => k == 106) g g1 := fun v hv => by
      obtain ⟨g1, e1, q1, c1⟩ := ih (p + 1) f (sI g 106 p v) (by omega) (by omega) (x.pkm (Ch.rf.sI rfl)) (fun a b h1 h2 h3 => by
        rw [hI_sI]
        by_cases he : 25 * a + b = p
        · rw [if_pos ⟨rfl, he⟩, hv]
          unfold S0A
          rw [Bool.and_eq_true, decide_eq_true_eq, decide_eq_true_eq]
          constructor
          · intro h; omega
          · rintro ⟨h4, h5⟩; rw [← he, h4, h5]
        · rw [if_neg (by omega)]; exact hd a b h1 h2 (by omega))
      exact ⟨g1, e1, q1, (Ch.rf.sI rfl : Ch (fun k _ => k == 106) g _).trans c1⟩
    rw [m_X12_canHold_3, if_neg (show ¬ 625 ≤ nI p from nI_ge (a := p) (b := 625) (by omega) (by omega)), startPairM x ea eb, bd_some]
    simp only [gd_pos (inb_nI (n := p) (N := 625) (by omega) (by omega)), nI_clamp (n := p) (show p < 2 ^ 31 by omega), lt_eq, nI_1, vb0, vb1]
    by_cases hq : p = 25 * an + bn
    · rw [if_pos (by rw [hq])]; exact next 1 ⟨fun _ => hq, fun _ => one_ne⟩
    · rw [if_neg (by rw [i32_eq, nI_toInt (by omega), nI_toInt (by omega)]; omega)]; exact next 0 ⟨fun h => absurd rfl h, fun h => absurd h hq⟩
theorem canHoldM (ea : E.a = nI an) (eb : E.b = nI bn) (ha : an ≤ 24) (hb : bn ≤ 24) {row : Nat} {g : AHp} (hrow : row < 2000) (x : MX E A g) (ly : LY E A an bn 12500 g) : ∃ g1, m_X12_canHold (nI row) (nI A.K) (nI A.n) g = some (if hsR (FA E A) A.K A.n 0 (S0A an bn) row = true then 1 else 0, g1) ∧ Ch P67 g g1 := by
  have hn := A.hn
  obtain ⟨g1, e1, q1, c1⟩ := hold3 ea eb ha hb (nI row) (nI A.K) (nI A.n) 625 0 FU g (by omega) (by unfold FU; omega) x.1 (fun a b _ _ h => by omega)
  obtain ⟨g2, e2, c2⟩ := hold44 (E := E) (A := A) ha hb hrow A.n 0 FU (S0A an bn) g1 (by omega) (by unfold FU; omega) (ly.ch c1 (fun _ => rfl)) q1 (fun a b h1 h2 h3 => by
    unfold S0A at h3
    rw [Bool.and_eq_true, decide_eq_true_eq, decide_eq_true_eq] at h3
    refine ⟨?_, fun h => by omega⟩
    unfold cbS; rw [if_pos rfl, h3.1, h3.2]; simp)
  refine ⟨g2, ?_, (c1.mono (fun k i hp => (Bool.or_eq_false_iff.mp hp).1)).trans c2⟩
  unfold m_X12_canHold
  rw [show m_X12_canHold_3 FU (nI row) (nI A.K) (nI A.n) 0 g = _ from e1]
  exact e2
theorem p67_p5 {h g : AHp} (c : Ch P67 h g) : Ch P5 h g := c.mono (fun k i hp => by
  simp only [Bool.or_eq_false_iff] at hp ⊢; exact ⟨hp.1.2, hp.2⟩)
theorem any114 (ea : E.a = nI an) (eb : E.b = nI bn) (ha : an ≤ 24) (hb : bn ≤ 24) {what : Int32} (hwt : what = -1 ∨ ∃ wt, what = nI wt ∧ wt < A.n) : ∀ (d r f : Nat) (g : AHp), r + d = A.K ^ A.n → d < f → MX E A g → LY E A an bn 12500 g → (∀ r2, r2 < r → hsR (FA E A) A.K A.n 0 (S0A an bn) r2 = true) → ∃ g1, m_X12_anyTalk_114 f (nI A.n) what (nI A.K) (nI (A.K ^ A.n)) (nI r) g = some (resA E A an bn what, g1) ∧ Ch P67 g g1 := by
  have hn := A.hn
  have hK := A.hK
  have hpw := pow_le4 (K := A.K) (e := A.n) hK.2 (by omega)
  have hfs := fr_spec (F := FA E A) hK.1 A.n 0 (S0A an bn)
  intro d
  induction d with
  | zero =>
    intro r f g hr hf x ly hall
    obtain ⟨f, rfl⟩ : ∃ a, f = a + 1 := ⟨f - 1, by omega⟩
    have hnone : fr (FA E A) A.K A.n 0 (S0A an bn) = none := by
      cases hf2 : fr (FA E A) A.K A.n 0 (S0A an bn) with
      | none => rfl
      | some r2 =>
        have := fr_lt hK.1 A.n 0 _ r2 hf2
        have h2 := (hfs.2 r2 hf2).1
        rw [hall r2 (by omega)] at h2; cases h2
    refine ⟨g, ?_, Ch.rf⟩
    rw [m_X12_anyTalk_114, if_pos (nI_le (by omega) (by omega))]
    unfold resA
    rw [hnone]
    simp only []
    split <;> rfl
  | succ d ih =>
    intro r f g hr hf x ly hall
    obtain ⟨f, rfl⟩ : ∃ a, f = a + 1 := ⟨f - 1, by omega⟩
    obtain ⟨g1, e1, c1⟩ := canHoldM (A := A) ea eb ha hb (row := r) (g := g) (by omega) x ly
    rw [m_X12_anyTalk_114, if_neg (nI_ge (by omega) (by omega)), e1, bd_some]
    cases hh : hsR (FA E A) A.K A.n 0 (S0A an bn) r with
    | true =>
      rw [i01_t, if_neg one_ne, lt_eq, nI_1]
      obtain ⟨g2, e2, c2⟩ := ih (r + 1) f g1 (by omega) (by omega) (x.p5 (p67_p5 c1)) (ly.ch c1 (fun _ => rfl)) (fun r2 h => by
        by_cases hq : r2 = r
        · rw [hq]; exact hh
        · exact hall r2 (by omega))
      exact ⟨g2, e2, c1.trans c2⟩
    | false =>
      have hsome : fr (FA E A) A.K A.n 0 (S0A an bn) = some r := by
        cases hf2 : fr (FA E A) A.K A.n 0 (S0A an bn) with
        | none => have := hfs.1 hf2 r (by omega); rw [hh] at this; cases this
        | some r2 =>
          obtain ⟨u1, u2⟩ := hfs.2 r2 hf2
          rcases Nat.lt_trichotomy r2 r with h | h | h
          · rw [hall r2 h] at u1; cases u1
          · rw [h]
          · rw [u2 r h] at hh; cases hh
      refine ⟨g1, ?_, c1⟩
      rw [i01_f, if_pos rfl]
      unfold resA
      rw [hsome]
      simp only []
      by_cases hm1 : what = -1
      · rw [if_pos hm1, if_pos hm1]
      · rw [if_neg hm1, if_neg hm1]
        obtain ⟨wt, hwt1, hwt2⟩ : ∃ wt, what = nI wt ∧ wt < A.n := by
          rcases hwt with h | h
          · exact absurd h hm1
          · exact h
        have hp0 : 0 < A.K ^ (A.n - 1 - wt) := Nat.pow_pos hK.1
        have hp1 := pow_le4 (K := A.K) (e := A.n - 1 - wt) hK.2 (by omega)
        have hdl : r / A.K ^ (A.n - 1 - wt) ≤ r := Nat.div_le_self _ _
        have hq : r / A.K ^ (A.n - 1 - wt) % A.K < A.K := Nat.mod_lt _ (by omega)
        rw [hwt1, show nI A.n - 1 = nI (A.n - 1) from pk_sub (a := A.n) (b := 1) (by omega), pk_sub (a := A.n - 1) (b := wt) (by omega), powM hK.2 (by omega) g1, bd_some, gd_pos (nI_ne0 hp0 (by omega)), gd_pos (nI_ne0 (by omega) (by omega)), pk_div (a := r) (by omega) hp0 (by omega), pk_rem (a := r / A.K ^ (A.n - 1 - wt)) (by omega) (by omega) (by omega), gd_pos (inb_nI (by omega) (by omega)), nI_clamp (by omega), nI_clamp (n := wt) (by omega)]
        rw [show hI g1 104 (r / A.K ^ (A.n - 1 - wt) % A.K) = nI (A.kd (r / A.K ^ (A.n - 1 - wt) % A.K)) from by rw [c1.i rfl]; exact x.2.2 _ hq]
end ANYB
theorem any59 {ths what x2 : Int32} (ht : 0 ≤ ths.toInt ∧ ths.toInt ≤ 4095) (hK : pcI ths ≤ 4) : ∀ (d t f : Nat) (g : AHp), t + d = 12 → d < f → (∀ j, j < (klF ths t).length → hI g 104 j = nI ((klF ths t).getD j 0)) → ∃ g1, m_X12_anyTalk_59 f ths x2 what (nI (klF ths t).length) (nI t) g = (bd (m_X12_laysAny (nI (klF ths 12).length) x2 g1) fun r9 h10 => (bd (m_X12_powerOf (nI (klF ths 12).length) x2 h10) fun r11 h12 => (m_X12_anyTalk_114 FU x2 what (nI (klF ths 12).length) r11 0 h12))) ∧ (∀ j, j < (klF ths 12).length → hI g1 104 j = nI ((klF ths 12).getD j 0)) ∧ Ch (fun k _ => k == 104) g g1 := by
  have hmono : ∀ t, t ≤ 12 → (klF ths t).length ≤ 4 := fun t ht12 => by
    have := klF_len ths t (by omega); omega
  intro d
  induction d with
  | zero =>
    intro t f g ht hf h104
    obtain ⟨f, rfl⟩ : ∃ a, f = a + 1 := ⟨f - 1, by omega⟩
    have : t = 12 := by omega
    subst this
    exact ⟨g, by rw [m_X12_anyTalk_59, if_pos (by decide)], h104, Ch.rf⟩
  | succ d ih =>
    intro t f g ht hf h104
    obtain ⟨f, rfl⟩ : ∃ a, f = a + 1 := ⟨f - 1, by omega⟩
    rw [m_X12_anyTalk_59, if_neg (show ¬ 12 ≤ nI t from nI_ge (a := t) (b := 12) (by omega) (by omega)), hasM _ (by omega), bd_some]
    cases hb : tb ths t with
    | false =>
      rw [i01_f, if_pos rfl, lt_eq, nI_1]
      have e : klF ths (t + 1) = klF ths t := by rw [klF, hb]; rfl
      have := ih (t + 1) f g (by omega) (by omega) (by rw [e]; exact h104)
      rw [e] at this; exact this
    | true =>
      have e : klF ths (t + 1) = klF ths t ++ [t] := by rw [klF, hb]; rfl
      have hl := hmono (t + 1) (by omega)
      rw [e, List.length_append, List.length_singleton] at hl
      rw [i01_t, if_neg one_ne, gd_pos (inb_nI (by omega) (by omega)), nI_clamp (by omega), lt_eq, lt_eq, lt_eq, nI_1, nI_1]
      obtain ⟨g1, e1, q1, c1⟩ := ih (t + 1) f (sI g 104 (klF ths t).length (nI t)) (by omega) (by omega) (fun j hj => by
        rw [e, List.length_append, List.length_singleton] at hj
        rw [hI_sI, e]
        by_cases hjl : j = (klF ths t).length
        · rw [if_pos ⟨rfl, hjl⟩, hjl, getD_app2]
        · rw [if_neg (by omega), getD_app1 (by omega)]; exact h104 j (by omega))
      rw [e, List.length_append, List.length_singleton] at e1
      exact ⟨g1, e1, q1, (Ch.rf.sI rfl : Ch (fun k _ => k == 104) g _).trans c1⟩
theorem sim_anyTalk {h : AHp} {c : Nat} (ths n what : Int32) (hB : BI h) (hI0 : LI h) (hmi : MIx h c) (hc : c < 1000000) : SimK PAll c h (m_X11_anyTalk ths n what) (m_X12_anyTalk ths n what) := by
  have hpl := pcI_le ths
  have hp1 : (nI (pcI ths)).toInt = pcI ths := nI_toInt (by omega)
  by_cases hbad : (0 ≤ ths.toInt ∧ ths.toInt ≤ 4095) ∧ (1 ≤ pcI ths ∧ pcI ths ≤ 4) ∧ (1 ≤ n.toInt ∧ n.toInt ≤ 5) ∧ (-1 ≤ what.toInt ∧ what.toInt < n.toInt)
  rotate_left
  · refine SimK.same hB hI0 hmi (-3) ?_ ?_
    · have e31 : ∀ s0 : Int32, (s0 = 0 ∨ ¬ ((1 ≤ n.toInt ∧ n.toInt ≤ 5) ∧ (-1 ≤ what.toInt ∧ what.toInt < n.toInt))) → m_X11_anyTalk_31 ths n what s0 h = some (-3, h) := fun s0 hz => by
        unfold m_X11_anyTalk_31
        by_cases h0 : s0 = 0
        · rw [if_pos h0]
        rw [if_neg h0]
        have hz2 : ¬ ((1 ≤ n.toInt ∧ n.toInt ≤ 5) ∧ (-1 ≤ what.toInt ∧ what.toInt < n.toInt)) := by
          rcases hz with h | h
          · exact absurd h h0
          · exact h
        clear hz
        simp only [i32_lt, i32_le, tIall]
        repeat' split
        all_goals first | rfl | omega
      unfold m_X11_anyTalk
      rw [bitCountC, bd_some]
      by_cases h1 : ths &&& (-4096) = 0
      · rw [if_pos h1]
        have h1' := (set12 ths).mp h1
        by_cases h2 : nI (pcI ths) < 1
        · rw [if_pos h2]; exact e31 _ (Or.inl rfl)
        · rw [if_neg h2]
          by_cases h3 : 4 < nI (pcI ths)
          · rw [if_pos h3]; exact e31 _ (Or.inl rfl)
          · rw [if_neg h3]
            rw [i32_lt, hp1] at h2 h3
            simp only [tIall] at h2 h3
            exact e31 _ (Or.inr (fun z => hbad ⟨h1', ⟨by omega, by omega⟩, z⟩))
      · rw [if_neg h1]; exact e31 _ (Or.inl rfl)
    · unfold m_X12_anyTalk
      rw [liesI, bd_some]
      by_cases h1 : 1 ≤ ths.toInt ∧ ths.toInt ≤ 4095
      · rw [b2i_t (by exact h1), if_neg one_ne, sizeOfM, bd_some]
        by_cases h3 : 4 < nI (pcI ths)
        · rw [if_pos h3]
        · rw [if_neg h3, liesI, bd_some]
          rw [i32_lt, hp1] at h3
          simp only [tIall] at h3
          by_cases h4 : 1 ≤ n.toInt ∧ n.toInt ≤ 5
          · have hpos : 1 ≤ pcI ths := Nat.pos_of_ne_zero (fun z => by
              have := (pcI_eq0 ths).mp z; rw [this] at h1; simp only [tIall] at h1; omega)
            have hwr : ¬ (-1 ≤ what.toInt ∧ what.toInt < n.toInt) := fun z => hbad ⟨⟨by omega, h1.2⟩, ⟨hpos, by omega⟩, h4, z⟩
            have en1 : (n - 1).toInt = n.toInt - 1 := by
              have := sub_toInt n 1 (by omega)
              rw [show nI 1 = 1 from rfl] at this
              rw [this]; split <;> omega
            rw [b2i_t (by exact h4), if_neg one_ne, if_neg (by rw [i32_eq]; simp only [tIall]; omega), liesI, bd_some, i32_64, en1, b2i_f (by show ¬ ((0 : Int) ≤ _ ∧ _); omega), if_pos rfl]
          · rw [b2i_f (by exact h4), if_pos rfl]
      · rw [b2i_f (by exact h1), if_pos rfl]
  obtain ⟨ht, hK, hn, hw⟩ := hbad
  obtain ⟨n, rfl, hn1, hn2⟩ := nat_in (lo := 1) (hi := 5) hn
  have sn : (nI n).toInt = n := nI_toInt (by omega)
  rw [sn] at hw
  have hwt : what = -1 ∨ ∃ wt, what = nI wt ∧ wt < n := by
    by_cases h1 : what.toInt = -1
    · exact Or.inl (by rw [i32_eq, h1]; rfl)
    · exact Or.inr ⟨what.toInt.toNat, by rw [i32_eq, nI_toInt (by omega)]; omega, by omega⟩
  obtain ⟨cl0, cl1, K0, K1, v0, v1, hLR⟩ := id hI0
  obtain ⟨E, xC, xR, ⟨rfl, rfl, rfl, rfl, rfl, rfl⟩, e701⟩ := hB.en hLR
  obtain ⟨an, ea, ha⟩ := E.a_nat
  obtain ⟨bn, eb, hb⟩ := E.b_nat
  obtain ⟨g1, R, e1, x1, mg1, c1⟩ := answerA (what := what) ⟨hn1, hn2⟩ ht hK hc ea ha eb hb hwt xC hmi
  have xR1 := xR.pk c1
  obtain ⟨g2, e2, q2, c2⟩ := any59 (ths := ths) (what := what) (x2 := nI n) ht hK.2 12 0 FU g1 (by omega) (by unfold FU; omega) (fun j hj => by simp [klF] at hj)
  have c2' : Ch PKm g1 g2 := c2.mono (fun k i hp => by
    simp only [Bool.or_eq_false_iff, Bool.and_eq_false_iff, beq_eq_false_iff_ne, ble_f] at hp ⊢; omega)
  obtain ⟨g3, e3, x3, c3⟩ := lay2 (E := E) (A := parA ths n ⟨hn1, hn2⟩ ht hK) n 0 FU g2 (by show 0 + n = n; omega) (by unfold FU; omega) (xR1.pkm c2') (fun j hj => by omega) q2
  have c3' : Ch PKm g2 g3 := c3.mono (fun k i hp => by
    simp only [Bool.or_eq_false_iff, Bool.and_eq_false_iff, beq_eq_false_iff_ne, ble_f] at hp ⊢; omega)
  obtain ⟨g4, e4, x4, l4, c4⟩ := lay24 ea eb ha hb n 0 FU g3 (by show 0 + n = n; omega) (by unfold FU; omega) x3 (fun i q a b _ _ _ _ _ h => by omega)
  have hKl : (parA ths n ⟨hn1, hn2⟩ ht hK).K ≤ 4 := (parA ths n ⟨hn1, hn2⟩ ht hK).hK.2
  have hpw := pow_le4 (K := (parA ths n ⟨hn1, hn2⟩ ht hK).K) (e := n) hKl hn2
  obtain ⟨g5, e5, c5⟩ := any114 (A := parA ths n ⟨hn1, hn2⟩ ht hK) ea eb ha hb hwt ((parA ths n ⟨hn1, hn2⟩ ht hK).K ^ n) 0 FU g4 (Nat.zero_add _) (by unfold FU; omega) x4 l4 (fun r2 h => by omega)
  refine SimK.fin hB hLR (resA E (parA ths n ⟨hn1, hn2⟩ ht hK) an bn what) ?_ ?_ x1 mg1 c1 (((c2'.trans c3').trans (p5_pkm c4)).trans (p5_pkm (p67_p5 c5)))
  · unfold m_X11_anyTalk m_X11_anyTalk_31
    rw [bitCountC, bd_some, if_pos ((set12 ths).mpr ht), if_neg (show ¬ nI (pcI ths) < 1 from nI_nlt (a := pcI ths) (b := 1) (by omega) (by omega)), if_neg (show ¬ 4 < nI (pcI ths) from nI_nlt (a := 4) (b := pcI ths) (by omega) (by omega)), if_neg one_ne, if_neg (show ¬ nI n < 1 from nI_nlt (a := n) (b := 1) (by omega) (by omega)), if_neg (show ¬ 5 < nI n from nI_nlt (a := 5) (b := n) (by omega) (by omega)), if_neg (by rw [i32_lt]; simp only [tIall]; omega), if_pos (by rw [i32_lt, sn]; omega), e1, bd_some]
  · have e59 : ∀ g, g = g1 → m_X12_anyTalk_59 FU ths (nI n) what 0 0 g = some (resA E (parA ths n ⟨hn1, hn2⟩ ht hK) an bn what, g5) := fun g hg => by
      subst hg
      rw [show m_X12_anyTalk_59 FU ths (nI n) what 0 0 g = _ from e2]
      unfold m_X12_laysAny
      rw [show m_X12_laysAny_2 FU (nI (klF ths 12).length) (nI n) 0 g2 = _ from e3]
      rw [show m_X12_laysAny_24 FU (nI (parA ths n ⟨hn1, hn2⟩ ht hK).K) (nI (parA ths n ⟨hn1, hn2⟩ ht hK).n) 0 g3 = _ from e4, bd_some]
      rw [show m_X12_powerOf (nI (klF ths 12).length) (nI n) g4 = some (nI ((klF ths 12).length ^ n), g4) from powM hKl hn2 g4, bd_some]
      exact e5
    unfold m_X12_anyTalk
    have hpos : 1 ≤ ths.toInt := by
      by_cases h0 : ths.toInt = 0
      · have : ths = 0 := by rw [i32_eq, h0]; rfl
        rw [this, pcI_zero] at hK; omega
      · omega
    rw [liesI, bd_some, b2i_t (by show (1 : Int) ≤ _ ∧ _ ≤ (4095 : Int); omega), if_neg one_ne, sizeOfM, bd_some, if_neg (show ¬ 4 < nI (pcI ths) from nI_nlt (a := 4) (b := pcI ths) (by omega) (by omega)), liesI, bd_some, b2i_t (by exact hn), if_neg one_ne]
    by_cases hm1 : what = -1
    · rw [if_pos hm1]; exact e59 g1 rfl
    · have hm2 : what.toInt ≠ -1 := fun z => hm1 (by rw [i32_eq, z]; rfl)
      have en1 : (nI n - 1).toInt = (n : Int) - 1 := nI_sub_toInt (c := 1) (by omega) (by omega)
      rw [if_neg hm1, liesI, bd_some, i32_64, en1, b2i_t (by show (0 : Int) ≤ _ ∧ _; omega), if_neg one_ne]; exact e59 g1 rfl
