/-! any talk: one place on -/
abbrev PVr (lv : Nat) : Nat → Nat → Bool := fun k i => PC k i || k == 32 || (k == 57 && Nat.ble ((lv + 1) * 25) i)
theorem pv_pvr {lv : Nat} {h g : AHp} (c : Ch PV h g) : Ch (PVr lv) h g := c.mono (fun k i hp => by
  simp only [Bool.or_eq_false_iff] at hp ⊢; exact hp.1)
theorem CX.c57 {E : En} {g : AHp} (x : CX E g) (i : Nat) (v : Int32) : CX E (sI g 57 i v) := x.po (Ch.rf.sI rfl)
section ADV
variable {E : En} {A : APar} {c lv q : Nat} {S : Nat → Nat → Bool}
/-- what is done: rows of b below B, and in row B the a below C -/
def Dn (E : En) (A : APar) (lv q : Nat) (S : Nat → Nat → Bool) (B C : Nat) (a b l : Nat) : Prop := a ≤ 24 ∧ b ≤ 24 ∧ l ≤ 24 ∧ (b < B ∨ (b = B ∧ a < C)) ∧ imgA E S a b = true ∧ FA E A lv q a b l = true
def AdI (E : En) (A : APar) (c lv q : Nat) (S : Nat → Nat → Bool) (B C : Nat) (fl : Bool) (g : AHp) : Prop := CX E g ∧ AX E A g ∧ MG g c (GA E A) ∧ RI E g lv S ∧ (fl = true ↔ ∃ a b l, Dn E A lv q S B C a b l) ∧ (∀ b2, b2 ≤ 24 → ∀ j, j < 32 → (tb (hI g 57 ((lv + 1) * 25 + b2)) j = true ↔ ∃ a b l, Dn E A lv q S B C a b l ∧ ka E l = j ∧ kb E a = b2))
theorem Dn_same {B C C2 : Nat} (h : ∀ a, C ≤ a → a < C2 → a ≤ 24 → ∀ l, l ≤ 24 → ¬ (imgA E S a B = true ∧ FA E A lv q a B l = true)) (hC : C ≤ C2) {a b l : Nat} : Dn E A lv q S B C a b l ↔ Dn E A lv q S B C2 a b l := by
  constructor
  · rintro ⟨h1, h2, h3, h4, h5⟩; exact ⟨h1, h2, h3, by omega, h5⟩
  · rintro ⟨h1, h2, h3, h4, h5⟩
    refine ⟨h1, h2, h3, ?_, h5⟩
    rcases h4 with h4 | ⟨h4, h6⟩
    · exact Or.inl h4
    · right
      refine ⟨h4, ?_⟩
      rcases Nat.lt_or_ge a C with z | z
      · exact z
      · subst h4; exact absurd h5 (h a z h6 h1 l h3)
theorem AdI.skip {B C C2 : Nat} {fl : Bool} {g : AHp} (x : AdI E A c lv q S B C fl g) (h : ∀ a, C ≤ a → a < C2 → a ≤ 24 → ∀ l, l ≤ 24 → ¬ (imgA E S a B = true ∧ FA E A lv q a B l = true)) (hC : C ≤ C2) : AdI E A c lv q S B C2 fl g := by
  obtain ⟨x1, x2, x3, x4, x5, x6⟩ := x
  refine ⟨x1, x2, x3, x4, ?_, fun b2 hb j hj => ?_⟩
  · rw [x5]
    exact ⟨fun ⟨a, b, l, z⟩ => ⟨a, b, l, (Dn_same h hC).mp z⟩, fun ⟨a, b, l, z⟩ => ⟨a, b, l, (Dn_same h hC).mpr z⟩⟩
  · rw [x6 b2 hb j hj]
    exact ⟨fun ⟨a, b, l, z, w⟩ => ⟨a, b, l, (Dn_same h hC).mp z, w⟩, fun ⟨a, b, l, z, w⟩ => ⟨a, b, l, (Dn_same h hC).mpr z, w⟩⟩
theorem AdI.row {B : Nat} {fl : Bool} {g : AHp} (x : AdI E A c lv q S B 25 fl g) : AdI E A c lv q S (B + 1) 0 fl g := by
  have e : ∀ a b l, Dn E A lv q S B 25 a b l ↔ Dn E A lv q S (B + 1) 0 a b l := fun a b l => by
    unfold Dn
    constructor
    · rintro ⟨h1, h2, h3, h4, h5⟩; exact ⟨h1, h2, h3, by omega, h5⟩
    · rintro ⟨h1, h2, h3, h4, h5⟩; exact ⟨h1, h2, h3, by omega, h5⟩
  obtain ⟨x1, x2, x3, x4, x5, x6⟩ := x
  refine ⟨x1, x2, x3, x4, ?_, fun b2 hb j hj => ?_⟩
  · rw [x5]; simp only [e]
  · rw [x6 b2 hb j hj]; simp only [e]
theorem adv59 (hlv : lv < A.n) (hq : q < A.K) (k12 : Int32 → Int32 → Int32 → Int32 → AHp → Option (Int32 × AHp)) {B : Nat} (hB : B ≤ 24) : ∀ (d C f : Nat) (fl : Bool) (g : AHp), C + d = 25 → d < f → AdI E A c lv q S B C fl g →
    (lv + 1 = A.n ∧ ∃ g1, m_X0_advance_59 k12 f (nI lv) (nI q) (if fl = true then 1 else 0) (nI B) (hI g 57 (lv * 25 + B)) (nI C) g = some (1, g1) ∧ CX E g1 ∧ AX E A g1 ∧ MG g1 c (GA E A) ∧ (∃ a b l, Dn E A lv q S 25 0 a b l) ∧ Ch (PVr lv) g g1) ∨
    (∃ fl2 g1, m_X0_advance_59 k12 f (nI lv) (nI q) (if fl = true then 1 else 0) (nI B) (hI g 57 (lv * 25 + B)) (nI C) g = k12 (nI lv) (nI q) (if fl2 = true then 1 else 0) (nI (B + 1)) g1 ∧ AdI E A c lv q S (B + 1) 0 fl2 g1 ∧ Ch (PVr lv) g g1) := by
  have hK := A.hK
  have hn := A.hn
  intro d
  induction d with
  | zero =>
    intro C f fl g hC hf inv
    obtain ⟨f, rfl⟩ : ∃ a, f = a + 1 := ⟨f - 1, by omega⟩
    have : C = 25 := by omega
    subst this
    right
    exact ⟨fl, g, by rw [m_X0_advance_59, if_pos (by decide), lt_eq, nI_1], inv.row, Ch.rf⟩
  | succ d ih =>
    intro C f fl g hC hf inv
    obtain ⟨f, rfl⟩ : ∃ a, f = a + 1 := ⟨f - 1, by omega⟩
    obtain ⟨x, ax, mg, ri, hfl, hrow⟩ := id inv
    rw [m_X0_advance_59, if_neg (show ¬ 25 ≤ nI C from nI_ge (a := C) (b := 25) (by omega) (by omega))]
    by_cases h0 : hI g 57 (lv * 25 + B) = 0
    · right
      refine ⟨fl, g, by rw [if_pos h0, lt_eq, nI_1], AdI.row (inv.skip (C2 := 25) (fun a h1 h2 h3 l h4 => ?_) (by omega)), Ch.rf⟩
      rintro ⟨h5, h6⟩
      have := ri B hB a (by omega)
      rw [h0, tb_zero, h5] at this; cases this
    rw [if_neg h0]
    unfold m_X0_advance_95 m_X0_advance_115
    have hbit := ri B hB C (by omega)
    /- behind this a -/
    have go : ∀ (fl2 : Bool) (g2 : AHp), AdI E A c lv q S B (C + 1) fl2 g2 → hI g2 57 (lv * 25 + B) = hI g 57 (lv * 25 + B) → Ch (PVr lv) g g2 →
        (lv + 1 = A.n ∧ ∃ g1, (if (if fl2 = true then (1 : Int32) else 0) = 0 then (lt (nI C + 1) fun v1 => (m_X0_advance_59 k12 f (nI lv) (nI q) (if fl2 = true then 1 else 0) (nI B) (hI g 57 (lv * 25 + B)) v1 g2)) else (if nI lv = ((hI g2 56 8) - 1) then (some (1, g2)) else (lt (nI C + 1) fun v2 => (m_X0_advance_59 k12 f (nI lv) (nI q) (if fl2 = true then 1 else 0) (nI B) (hI g 57 (lv * 25 + B)) v2 g2)))) = some (1, g1) ∧ CX E g1 ∧ AX E A g1 ∧ MG g1 c (GA E A) ∧ (∃ a b l, Dn E A lv q S 25 0 a b l) ∧ Ch (PVr lv) g g1) ∨
        (∃ fl3 g1, (if (if fl2 = true then (1 : Int32) else 0) = 0 then (lt (nI C + 1) fun v1 => (m_X0_advance_59 k12 f (nI lv) (nI q) (if fl2 = true then 1 else 0) (nI B) (hI g 57 (lv * 25 + B)) v1 g2)) else (if nI lv = ((hI g2 56 8) - 1) then (some (1, g2)) else (lt (nI C + 1) fun v2 => (m_X0_advance_59 k12 f (nI lv) (nI q) (if fl2 = true then 1 else 0) (nI B) (hI g 57 (lv * 25 + B)) v2 g2)))) = k12 (nI lv) (nI q) (if fl3 = true then 1 else 0) (nI (B + 1)) g1 ∧ AdI E A c lv q S (B + 1) 0 fl3 g1 ∧ Ch (PVr lv) g g1) := by
      intro fl2 g2 inv2 e57 c2
      have ihh := ih (C + 1) f fl2 g2 (by omega) (by omega) inv2
      rw [e57] at ihh
      have cont : (lv + 1 = A.n ∧ ∃ g1, m_X0_advance_59 k12 f (nI lv) (nI q) (if fl2 = true then 1 else 0) (nI B) (hI g 57 (lv * 25 + B)) (nI (C + 1)) g2 = some (1, g1) ∧ CX E g1 ∧ AX E A g1 ∧ MG g1 c (GA E A) ∧ (∃ a b l, Dn E A lv q S 25 0 a b l) ∧ Ch (PVr lv) g g1) ∨ (∃ fl3 g1, m_X0_advance_59 k12 f (nI lv) (nI q) (if fl2 = true then 1 else 0) (nI B) (hI g 57 (lv * 25 + B)) (nI (C + 1)) g2 = k12 (nI lv) (nI q) (if fl3 = true then 1 else 0) (nI (B + 1)) g1 ∧ AdI E A c lv q S (B + 1) 0 fl3 g1 ∧ Ch (PVr lv) g g1) := by
        rcases ihh with ⟨h1, g1, h2, h3, h4, h5, h6, h7⟩ | ⟨fl3, g1, h2, h3, h4⟩
        · exact Or.inl ⟨h1, g1, h2, h3, h4, h5, h6, c2.trans h7⟩
        · exact Or.inr ⟨fl3, g1, h2, h3, c2.trans h4⟩
      simp only [lt_eq, nI_1]
      cases fl2 with
      | false => rw [i01_f, if_pos rfl]; rw [i01_f] at cont; exact cont
      | true =>
        rw [i01_t, if_neg one_ne, inv2.2.1.1.2.1, show nI A.n - 1 = nI (A.n - 1) from pk_sub (a := A.n) (b := 1) (by omega)]
        rw [i01_t] at cont
        by_cases hl : lv + 1 = A.n
        · rw [if_pos (by rw [show A.n - 1 = lv by omega])]
          left
          obtain ⟨a, b, l, h1, h2, h3, h4, h5⟩ := inv2.2.2.2.2.1.mp rfl
          exact ⟨hl, g2, rfl, inv2.1, inv2.2.1, inv2.2.2.1, ⟨a, b, l, h1, h2, h3, Or.inl (by omega), h5⟩, c2⟩
        · rw [if_neg (by rw [i32_eq, nI_toInt (by omega), nI_toInt (by omega)]; omega)]; exact cont
    cases hbt : tb (hI g 57 (lv * 25 + B)) C with
    | false =>
      rw [if_pos ((hasC (by omega)).mpr hbt), if_pos rfl]
      rw [hbt] at hbit
      exact go fl g (inv.skip (C2 := C + 1) (fun a h1 h2 h3 l h4 z => by
        rw [show a = C by omega, ← hbit] at z; cases z.1) (by omega)) rfl Ch.rf
    | true =>
      rw [hbt] at hbit
      obtain ⟨y, g1, e1, hy, x1, ax1, mg1, c1⟩ := lenOfC (A := A) hlv hq (show C ≤ 24 by omega) hB x ax mg
      have e57 : ∀ z, hI g1 57 z = hI g 57 z := fun z => c1.i rfl
      rw [if_neg (fun z => by rw [(hasC (by omega)).mp z] at hbt; cases hbt), e1, bd_some]
      have ri1 : RI E g1 lv S := fun b hb j hj => by rw [e57]; exact ri b hb j hj
      by_cases hy0 : y = 0
      · rw [if_pos hy0]
        refine go fl g1 (AdI.skip (C := C) ⟨x1, ax1, mg1, ri1, hfl, fun b2 hb j hj => by rw [e57]; exact hrow b2 hb j hj⟩ (C2 := C + 1) (fun a h1 h2 h3 l h4 z => ?_) (by omega)) (e57 _) (pv_pvr c1)
        rw [show a = C by omega] at z
        have := hy l (by omega)
        rw [hy0, tb_zero, z.2] at this; cases this
      · rw [if_neg hy0, nI_1, reachedC (show lv + 1 ≤ 5 by omega) (show C ≤ 24 by omega) hy0 ax1, bd_some]
        have hk := kb_le (E := E) (show C ≤ 24 by omega)
        have hex : ∃ l, l ≤ 24 ∧ FA E A lv q C B l = true := by
          by_cases hex : ∃ l, l ≤ 24 ∧ FA E A lv q C B l = true
          · exact hex
          · exfalso; apply hy0
            rw [tb_eq0]; intro k hk
            rw [hy k hk]
            cases hFk : FA E A lv q C B k with
            | false => rfl
            | true => exact absurd ⟨k, (FA_b hq hk hFk).2, hFk⟩ hex
        have cW : Ch (PVr lv) g (sI g1 57 ((lv + 1) * 25 + kb E C) (hI g1 57 ((lv + 1) * 25 + kb E C) ||| (if fA E = true then y else 1))) := (pv_pvr c1).sI (by
          simp only [Bool.or_eq_true, Bool.and_eq_true, beq_self_eq_true, true_and]
          exact Or.inr (Nat.ble_eq_true_of_le (by omega)))
        have dn : ∀ a b l, Dn E A lv q S B (C + 1) a b l ↔ (Dn E A lv q S B C a b l ∨ (a = C ∧ b = B ∧ l ≤ 24 ∧ FA E A lv q C B l = true)) := fun a b l => by
          unfold Dn
          constructor
          · rintro ⟨h1, h2, h3, h4, h5, h6⟩
            by_cases hab : a = C ∧ b = B
            · obtain ⟨rfl, rfl⟩ := hab; exact Or.inr ⟨rfl, rfl, h3, h6⟩
            · exact Or.inl ⟨h1, h2, h3, by omega, h5, h6⟩
          · rintro (⟨h1, h2, h3, h4, h5, h6⟩ | ⟨rfl, rfl, h3, h4⟩)
            · exact ⟨h1, h2, h3, by omega, h5, h6⟩
            · exact ⟨by omega, hB, h3, by omega, hbit.symm, h4⟩
        have := go true (sI g1 57 ((lv + 1) * 25 + kb E C) (hI g1 57 ((lv + 1) * 25 + kb E C) ||| (if fA E = true then y else 1))) ⟨x1.c57 _ _, ax1.ch (P := fun k _ => k == 57) (Ch.rf.sI rfl) (fun _ => ⟨rfl, rfl⟩), mg1.ch (P := fun k _ => k == 57) (Ch.rf.sI rfl) rfl (fun _ => rfl), fun b hb j hj => by
            rw [hI_sI, if_neg (by omega)]; exact ri1 b hb j hj, by
            obtain ⟨l, h1, h2⟩ := hex
            exact ⟨fun _ => ⟨C, B, l, (dn C B l).mpr (Or.inr ⟨rfl, rfl, h1, h2⟩)⟩, fun _ => rfl⟩, fun b2 hb2 j hj => by
            have hold := hrow b2 hb2 j hj
            rw [hI_sI, e57, e57]
            by_cases hbb : b2 = kb E C
            · subst hbb
              rw [if_pos ⟨rfl, rfl⟩, tb_or, Bool.or_eq_true, hold]
              have hbits : tb (if fA E = true then y else 1) j = true ↔ ∃ l, l ≤ 24 ∧ FA E A lv q C B l = true ∧ ka E l = j := by
                unfold ka
                by_cases hA : fA E = true
                · rw [if_pos hA, hy j hj]
                  constructor
                  · intro h; exact ⟨j, (FA_b hq hj h).2, h, by rw [if_pos hA]⟩
                  · rintro ⟨l, h1, h2, h3⟩; rw [if_pos hA] at h3; rw [← h3]; exact h2
                · rw [if_neg hA, tb_one, decide_eq_true_eq]
                  constructor
                  · intro h; obtain ⟨l, h1, h2⟩ := hex; exact ⟨l, h1, h2, by rw [if_neg hA]; exact h.symm⟩
                  · rintro ⟨l, h1, h2, h3⟩; rw [if_neg hA] at h3; exact h3.symm
              rw [hbits]
              constructor
              · rintro (⟨a, b, l, h1, h2⟩ | ⟨l, h1, h2, h3⟩)
                · exact ⟨a, b, l, (dn a b l).mpr (Or.inl h1), h2⟩
                · exact ⟨C, B, l, (dn C B l).mpr (Or.inr ⟨rfl, rfl, h1, h2⟩), h3, rfl⟩
              · rintro ⟨a, b, l, h1, h2, h3⟩
                rcases (dn a b l).mp h1 with h | ⟨rfl, rfl, h5, h6⟩
                · exact Or.inl ⟨a, b, l, h, h2, h3⟩
                · exact Or.inr ⟨l, h5, h6, h2⟩
            · rw [if_neg (by omega), hold]
              constructor
              · rintro ⟨a, b, l, h1, h2⟩; exact ⟨a, b, l, (dn a b l).mpr (Or.inl h1), h2⟩
              · rintro ⟨a, b, l, h1, h2, h3⟩
                rcases (dn a b l).mp h1 with h | ⟨rfl, rfl, h5, h6⟩
                · exact ⟨a, b, l, h, h2, h3⟩
                · exact absurd h3.symm hbb⟩ (by rw [hI_sI, if_neg (by omega), e57]) cW
        rw [i01_t] at this
        exact this
theorem adv12 (hlv : lv < A.n) (hq : q < A.K) : ∀ (d B f : Nat) (fl : Bool) (g : AHp), B + d = 25 → d < f → AdI E A c lv q S B 0 fl g →
    ∃ fl2 g1, m_X0_advance_12 f (nI lv) (nI q) (if fl = true then 1 else 0) (nI B) g = some (if fl2 = true then 1 else 0, g1) ∧ (CX E g1 ∧ AX E A g1 ∧ MG g1 c (GA E A)) ∧ (fl2 = true ↔ ∃ a b l, Dn E A lv q S 25 0 a b l) ∧ (lv + 1 < A.n → AdI E A c lv q S 25 0 fl2 g1) ∧ Ch (PVr lv) g g1 := by
  have hn := A.hn
  intro d
  induction d with
  | zero =>
    intro B f fl g hB hf inv
    obtain ⟨f, rfl⟩ : ∃ a, f = a + 1 := ⟨f - 1, by omega⟩
    have : B = 25 := by omega
    subst this
    exact ⟨fl, g, by rw [m_X0_advance_12, if_pos (by decide), gd_pos (by cases fl <;> simp)], ⟨inv.1, inv.2.1, inv.2.2.1⟩, inv.2.2.2.2.1, fun _ => inv, Ch.rf⟩
  | succ d ih =>
    intro B f fl g hB hf inv
    obtain ⟨f, rfl⟩ : ∃ a, f = a + 1 := ⟨f - 1, by omega⟩
    have e : m_X0_advance_12 (f + 1) (nI lv) (nI q) (if fl = true then 1 else 0) (nI B) g = m_X0_advance_59 (m_X0_advance_12 f) FU (nI lv) (nI q) (if fl = true then 1 else 0) (nI B) (hI g 57 (lv * 25 + B)) (nI 0) g := by
      rw [m_X0_advance_12, if_neg (show ¬ 25 ≤ nI B from nI_ge (a := B) (b := 25) (by omega) (by omega)), show nI lv * 25 = nI (lv * 25) from pk_mul lv 25, nI_add, lt_eq, if_neg (nI_pos (by omega)), if_neg (show ¬ 150 ≤ nI (lv * 25 + B) from nI_ge (a := lv * 25 + B) (b := 150) (by omega) (by omega)), gd_pos (inb_nI (by omega) (by omega)), nI_clamp (by omega), lt_eq]; rfl
    rw [e]
    rcases adv59 hlv hq (m_X0_advance_12 f) (show B ≤ 24 by omega) 25 0 FU fl g (by omega) (by unfold FU; omega) inv with ⟨h1, g1, h2, h3, h4, h5, h6, h7⟩ | ⟨fl2, g1, h2, h3, h4⟩
    · exact ⟨true, g1, h2, ⟨h3, h4, h5⟩, ⟨fun _ => h6, fun _ => rfl⟩, fun h => by omega, h7⟩
    · obtain ⟨fl3, g3, u1, u2, u3, u4, u5⟩ := ih (B + 1) f fl2 g1 (by omega) (by omega) h3
      exact ⟨fl3, g3, by rw [h2, u1], u2, u3, u4, h4.trans u5⟩
theorem Dn_any (x : ∃ g, CX E g) (hq : q < A.K) : (∃ a b l, Dn E A lv q S 25 0 a b l) ↔ anyA (FA E A) lv q S = true := by
  obtain ⟨g, xg⟩ := x
  rw [anyA_iff]
  constructor
  · rintro ⟨a, b, l, h1, h2, h3, h4, h5, h6⟩
    obtain ⟨a0, b0, u1, u2, u3, u4, u5⟩ := imgA_iff.mp h5
    exact ⟨a0, b0, l, u1, u2, h3, u3, by rw [FA_dep xg lv q a0 b0 a b l (by rw [← u4, ka_ka]) (by rw [← u5, kb_kb])]; exact h6⟩
  · rintro ⟨a, b, l, h1, h2, h3, h4, h5⟩
    have := kb_le (E := E) h2
    exact ⟨ka E a, kb E b, l, ka_le h1, kb_le h2, h3, Or.inl (by omega), imgA_iff.mpr ⟨a, b, h1, h2, h4, rfl, rfl⟩, by rw [FA_dep xg lv q (ka E a) (kb E b) a b l (ka_ka a) (kb_kb b)]; exact h5⟩
theorem advanceC {g : AHp} (hlv : lv < A.n) (hq : q < A.K) (x : CX E g) (ax : AX E A g) (mg : MG g c (GA E A)) (ri : RI E g lv S) : ∃ g1, m_X0_advance (nI lv) (nI q) g = some (if anyA (FA E A) lv q S = true then 1 else 0, g1) ∧ CX E g1 ∧ AX E A g1 ∧ MG g1 c (GA E A) ∧ (lv + 1 < A.n → RI E g1 (lv + 1) (nxtA (FA E A) lv q S)) ∧ Ch (PVr lv) g g1 := by
  have hn := A.hn
  obtain ⟨g0, e0, z0, c0⟩ := clearC2 (E := E) (show lv + 1 ≤ 5 by omega) 25 0 FU g (by omega) (by unfold FU; omega) (fun b hb => by omega)
  have c0' : Ch (PVr lv) g g0 := c0.mono (fun k i hp => by
    simp only [Bool.or_eq_false_iff, Bool.and_eq_false_iff, beq_eq_false_iff_ne] at hp ⊢
    rcases hp.2 with h | h
    · exact Or.inl h
    · exact Or.inr (Or.inl h))
  have c0p : Ch PO g g0 := c0.mono (fun k i hp => by
    simp only [Bool.or_eq_false_iff, Bool.and_eq_false_iff, beq_eq_false_iff_ne, ble_f] at hp ⊢; omega)
  have o57 : ∀ z, z < (lv + 1) * 25 → hI g0 57 z = hI g 57 z := fun z hz => c0.i (by
    simp only [Bool.and_eq_false_iff]; right; left; exact ble_f.mpr hz)
  have inv0 : AdI E A c lv q S 0 0 false g0 := ⟨x.po c0p, ax.ch c0 (fun _ => ⟨rfl, rfl⟩), mg.ch c0 rfl (fun _ => rfl), fun b hb j hj => by rw [o57 _ (by omega)]; exact ri b hb j hj, ⟨(fun h => by cases h), fun ⟨a, b, l, _, _, _, h, _⟩ => by omega⟩, fun b2 hb j hj => by
    rw [z0 b2 hb, tb_zero]
    exact ⟨(fun h => by cases h), fun ⟨a, b, l, ⟨_, _, _, h, _⟩, _⟩ => by omega⟩⟩
  obtain ⟨fl, g1, e1, ⟨x1, ax1, mg1⟩, hfl, hinv, c1⟩ := adv12 hlv hq 25 0 FU false g0 (by omega) (by unfold FU; omega) inv0
  have hany : fl = anyA (FA E A) lv q S := by
    rw [Bool.eq_iff_iff, hfl, Dn_any ⟨g, x⟩ hq]
  refine ⟨g1, ?_, x1, ax1, mg1, fun hl => ?_, c0'.trans c1⟩
  · unfold m_X0_advance m_X0_clearLevel
    rw [nI_1]
    rw [show m_X0_clearLevel_2 FU (nI (lv + 1)) 0 g = _ from e0, bd_some]
    rw [i01_f] at e1
    rw [show m_X0_advance_12 FU (nI lv) (nI q) 0 0 g0 = _ from e1, hany]
  · obtain ⟨-, -, -, -, -, h6⟩ := hinv hl
    intro b2 hb j hj
    rw [Bool.eq_iff_iff, h6 b2 hb j hj, imgA_iff]
    constructor
    · rintro ⟨a, b, l, ⟨h1, h2, h3, h4, h5, h6⟩, h7, h8⟩
      obtain ⟨a0, b0, u1, u2, u3, u4, u5⟩ := imgA_iff.mp h5
      refine ⟨l, a0, h3, u1, nxtA_iff.mpr ⟨h3, u1, b0, u2, u3, ?_⟩, h7, by rw [← h8, ← u4, kb_ka]⟩
      rw [FA_dep x lv q a0 b0 a b l (by rw [← u4, ka_ka]) (by rw [← u5, kb_kb])]; exact h6
    · rintro ⟨l, a, h1, h2, h3, h4, h5⟩
      obtain ⟨_, _, b, u1, u2, u3⟩ := nxtA_iff.mp h3
      have := kb_le (E := E) u1
      exact ⟨ka E a, kb E b, l, ⟨ka_le h2, kb_le u1, h1, Or.inl (by omega), imgA_iff.mpr ⟨a, b, h2, u1, u2, rfl, rfl⟩, by rw [FA_dep x lv q (ka E a) (kb E b) a b l (ka_ka a) (kb_kb b)]; exact u3⟩, h4, by rw [kb_ka]; exact h5⟩
end ADV
