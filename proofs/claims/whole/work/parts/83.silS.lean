/-! silenced: both -/
abbrev PAll : Nat → Nat → Bool := fun k i => PK k i || PKm k i
theorem pk_all {h g : AHp} (c : Ch PK h g) : Ch PAll h g := c.mono (fun k i hp => (Bool.or_eq_false_iff.mp hp).1)
theorem pkm_all {h g : AHp} (c : Ch PKm h g) : Ch PAll h g := c.mono (fun k i hp => (Bool.or_eq_false_iff.mp hp).2)
theorem pbi_all {k i : Nat} (hp : PBI k i = true) : PAll k i = false := by
  simp only [Bool.or_eq_true, Bool.and_eq_true, beq_iff_eq] at hp
  simp only [Bool.or_eq_false_iff, Bool.and_eq_false_iff, beq_eq_false_iff_ne, ble_f]
  omega
theorem BI.all {h h2 : AHp} (hB : BI h) (c : Ch PAll h h2) : BI h2 := hB.chP c (fun hp => pbi_all hp)
def SimK {r : Type} (P : Nat → Nat → Bool) (c : Nat) (h : AHp) (C M : AHp → Option (r × AHp)) : Prop := ∃ (x : r) (h1 h2 : AHp), C h = some (x, h1) ∧ M h1 = some (x, h2) ∧ BI h2 ∧ LI h2 ∧ (MIx h2 c ∨ MIx h2 (c + 1)) ∧ Ch P h h2
theorem SimK.same {r : Type} {P : Nat → Nat → Bool} {c : Nat} {h : AHp} {C M : AHp → Option (r × AHp)} (hB : BI h) (hL : LI h) (hm : MIx h c) (x : r) (e1 : C h = some (x, h)) (e2 : M h = some (x, h)) : SimK P c h C M := ⟨x, h, h, e1, e2, hB, hL, Or.inl hm, Ch.rf⟩
theorem sameLM.all {h g : AHp} (c : Ch PAll h g) : sameLM h g := sameLM.ch c (fun k h1 h2 i => by simp only [Bool.or_eq_false_iff, Bool.and_eq_false_iff, beq_eq_false_iff_ne, ble_f]; omega)
theorem L2.pkm {h g : AHp} {cl0 cl1 : List Clz} {K0 K1 : Nat → Prop} {v0 v1 : Nat → Int32} (hL : L2 h cl0 cl1 K0 K1 v0 v1) (c : Ch PKm h g) : L2 g cl0 cl1 K0 K1 v0 v1 := hL.m c (fun k hk i => by
  simp only [Bool.or_eq_false_iff, Bool.and_eq_false_iff, beq_eq_false_iff_ne, ble_f]; omega)
theorem RX.pk {E : En} {h g : AHp} (x : RX E h) (c : Ch PK h g) : RX E g := x.ch c (fun {k i} hp => by
  simp only [Bool.or_eq_true, Bool.and_eq_true, beq_iff_eq] at hp
  simp only [Bool.or_eq_false_iff, Bool.and_eq_false_iff, beq_eq_false_iff_ne, ble_f]
  omega)
/-- the end of a search: the class came to g1, the reference to g2 -/
theorem SimK.fin {r : Type} {c : Nat} {E : En} {h g1 g2 : AHp} {C M : AHp → Option (r × AHp)} {R : Nat → Int32 → Prop} (hB : BI h) (hLR : LR h E.cl0 E.cl1 E.K0 E.K1 E.v0 E.v1) (v : r) (e1 : C h = some (v, g1)) (e2 : M g1 = some (v, g2)) (x1 : CX E g1) (mg : MG g1 (c + 1) R) (c1 : Ch PK h g1) (c2 : Ch PKm g1 g2) : SimK PAll c h C M := by
  have cc := (pk_all c1).trans (pkm_all c2)
  exact ⟨v, g1, g2, e1, e2, hB.all cc, ⟨E.cl0, E.cl1, E.K0, E.K1, E.v0, E.v1, x1.2.2.2.2.1.pkm c2, hLR.2.1.same (sameLM.all cc), hLR.2.2.same (sameLM.all cc)⟩, Or.inr ((mg.ch c2 rfl (fun _ => rfl)).ix), cc⟩
theorem tb_4096 {k : Nat} (hk : k < 32) : tb (-4096) k = decide (12 ≤ k) := by
  have : ∀ j : Fin 32, tb (-4096) j.val = decide (12 ≤ j.val) := by decide
  exact this ⟨k, hk⟩
theorem set12 (x : Int32) : x &&& (-4096) = 0 ↔ 0 ≤ x.toInt ∧ x.toInt ≤ 4095 := by
  have hlt := x.toBitVec.isLt
  have e : x.toBitVec.toNat < 4096 ↔ 0 ≤ x.toInt ∧ x.toInt ≤ 4095 := by
    have ei : x.toInt = if 2 * x.toBitVec.toNat < 2 ^ 32 then (x.toBitVec.toNat : Int) else (x.toBitVec.toNat : Int) - (2 ^ 32 : Nat) := by
      show x.toBitVec.toInt = _
      rw [BitVec.toInt_eq_toNat_cond]
    rw [ei]
    split <;> constructor <;> intro h <;> omega
  rw [← e, tb_eq0]
  constructor
  · intro h
    have : x.toBitVec.toNat < 2 ^ 12 := Nat.lt_pow_two_of_testBit _ (fun k hk => by
      by_cases h32 : k < 32
      · have := h k h32
        rw [tb_and, tb_4096 h32, decide_eq_true hk, Bool.and_true] at this
        exact this
      · exact Nat.testBit_lt_two_pow (Nat.lt_of_lt_of_le hlt (Nat.pow_le_pow_right (by omega) (by omega))))
    omega
  · intro h k hk
    rw [tb_and, tb_4096 hk]
    by_cases h12 : 12 ≤ k
    · have : tb x k = false := Nat.testBit_lt_two_pow (Nat.lt_of_lt_of_le h (Nat.pow_le_pow_right (n := 2) (by omega) h12))
      rw [this]; rfl
    · rw [decide_eq_false h12, Bool.and_false]
theorem sim_silenced {h : AHp} {c : Nat} (s ths q oth n what : Int32) (hB : BI h) (hI0 : LI h) (hmi : MIx h c) (hc : c < 1000000) : SimK PAll c h (m_X11_silenced s ths q oth n what) (m_X12_silenced s ths q oth n what) := by
  by_cases hbad : (0 ≤ s.toInt ∧ s.toInt ≤ 5) ∧ (0 ≤ q.toInt ∧ q.toInt ≤ 5) ∧ s ≠ q ∧ (0 ≤ ths.toInt ∧ ths.toInt ≤ 4095) ∧ (0 ≤ oth.toInt ∧ oth.toInt ≤ 4095) ∧ (1 ≤ n.toInt ∧ n.toInt ≤ 6) ∧ (0 ≤ what.toInt ∧ what.toInt ≤ 2)
  rotate_left
  · refine SimK.same hB hI0 hmi (-3) ?_ ?_
    · have e48 : ∀ x7 s0 : Int32, (x7 = 0 ∨ s0 = 0 ∨ ¬ ((1 ≤ n.toInt ∧ n.toInt ≤ 6) ∧ (0 ≤ what.toInt ∧ what.toInt ≤ 2))) → m_X11_silenced_48 s ths q oth n what x7 s0 h = some (-3, h) := fun x7 s0 hz => by
        unfold m_X11_silenced_48
        by_cases h7 : x7 = 0
        · rw [if_pos h7]
        rw [if_neg h7]
        by_cases h0 : s0 = 0
        · rw [if_pos h0]
        rw [if_neg h0]
        have hz2 : ¬ ((1 ≤ n.toInt ∧ n.toInt ≤ 6) ∧ (0 ≤ what.toInt ∧ what.toInt ≤ 2)) := by
          rcases hz with h | h | h
          · exact absurd h h7
          · exact absurd h h0
          · exact h
        clear hz
        simp only [i32_lt, i32_le, tIall]
        repeat' split
        all_goals first | rfl | omega
      have e24 : ∀ s0 : Int32, (s0 = 0 ∨ ¬ ((0 ≤ ths.toInt ∧ ths.toInt ≤ 4095) ∧ (0 ≤ oth.toInt ∧ oth.toInt ≤ 4095) ∧ (1 ≤ n.toInt ∧ n.toInt ≤ 6) ∧ (0 ≤ what.toInt ∧ what.toInt ≤ 2))) → m_X11_silenced_24 s ths q oth n what s0 h = some (-3, h) := fun s0 hz => by
        unfold m_X11_silenced_24
        by_cases h1 : ths &&& (-4096) = 0
        · rw [if_pos h1]
          by_cases h2 : oth &&& (-4096) = 0
          · rw [if_pos h2]
            refine e48 _ _ ?_
            rw [set12] at h1 h2
            rcases hz with h | h
            · exact Or.inl h
            · exact Or.inr (Or.inr (fun z => h ⟨h1, h2, z⟩))
          · rw [if_neg h2]; exact e48 _ _ (Or.inr (Or.inl rfl))
        · rw [if_neg h1]; exact e48 _ _ (Or.inr (Or.inl rfl))
      unfold m_X11_silenced
      rw [isSpeakerC, bd_some]
      by_cases hs : 0 ≤ s.toInt ∧ s.toInt ≤ 5
      · rw [b2i_t hs, if_neg one_ne, isSpeakerC, bd_some]
        by_cases hq : 0 ≤ q.toInt ∧ q.toInt ≤ 5
        · rw [b2i_t hq, if_neg one_ne]
          by_cases hsq : s = q
          · rw [if_pos hsq]; exact e24 _ (Or.inl rfl)
          · rw [if_neg hsq]; exact e24 _ (Or.inr (fun z => hbad ⟨hs, hq, hsq, z⟩))
        · rw [b2i_f hq, if_pos rfl]; exact e24 _ (Or.inl rfl)
      · rw [b2i_f hs, if_pos rfl]; exact e24 _ (Or.inl rfl)
    · unfold m_X12_silenced
      rw [isSpeakerM, bd_some]
      by_cases hs : 0 ≤ s.toInt ∧ s.toInt ≤ 5
      · rw [b2i_t hs, if_neg one_ne, isSpeakerM, bd_some]
        by_cases hq : 0 ≤ q.toInt ∧ q.toInt ≤ 5
        · rw [b2i_t hq, if_neg one_ne]
          by_cases hsq : s = q
          · rw [if_pos hsq]
          rw [if_neg hsq, liesI, bd_some]
          by_cases h1 : 0 ≤ ths.toInt ∧ ths.toInt ≤ 4095
          · rw [b2i_t (by exact h1), if_neg one_ne, liesI, bd_some]
            by_cases h2 : 0 ≤ oth.toInt ∧ oth.toInt ≤ 4095
            · rw [b2i_t (by exact h2), if_neg one_ne, liesI, bd_some]
              by_cases h3 : 1 ≤ n.toInt ∧ n.toInt ≤ 6
              · rw [b2i_t (by exact h3), if_neg one_ne, liesI, bd_some]
                rw [b2i_f (by intro h4; exact hbad ⟨hs, hq, hsq, h1, h2, h3, h4⟩), if_pos rfl]
              · rw [b2i_f (by exact h3), if_pos rfl]
            · rw [b2i_f (by exact h2), if_pos rfl]
          · rw [b2i_f (by exact h1), if_pos rfl]
        · rw [b2i_f hq, if_pos rfl]
      · rw [b2i_f hs, if_pos rfl]
  obtain ⟨hs, hq, hsq, h1, h2, hn, hw⟩ := hbad
  obtain ⟨n, rfl, hn1, hn2⟩ := nat_in (lo := 1) (hi := 6) hn
  obtain ⟨cl0, cl1, K0, K1, v0, v1, hLR⟩ := id hI0
  obtain ⟨E, xC, xR, ⟨rfl, rfl, rfl, rfl, rfl, rfl⟩, e701⟩ := hB.en hLR
  obtain ⟨an, ea, ha⟩ := E.a_nat
  obtain ⟨bn, eb, hb⟩ := E.b_nat
  obtain ⟨g0, g1, e0, e1, x1, sx1, mg1, c1⟩ := beginS (s := s) (q := q) (ths := ths) (oth := oth) ⟨hn1, hn2⟩ hc xC hmi
  obtain ⟨g2, e2, x2, mg2, c2⟩ := answerS (what := what) ⟨hn1, hn2⟩ hs hq ea ha eb hb x1 sx1 mg1
  have cK := (po_pk c1).trans (pv_pk c2)
  have xR2 := xR.pk cK
  obtain ⟨g3, e3, x3, w3, c3⟩ := sil76 (what := what) (s := s) (q := q) (ths := ths) (oth := oth) ⟨hn1, hn2⟩ n 0 FU g2 (by omega) (by unfold FU; omega) xR2 (fun j hj => by omega)
  obtain ⟨g4, e4, x4, w4, z4, c4⟩ := sil111 (what := what) (s := s) (q := q) (ths := ths) (oth := oth) ⟨hn1, hn2⟩ 625 0 FU g3 (by omega) (by unfold FU; omega) x3 w3 (fun z hz => by omega)
  obtain ⟨g5, e5, c5⟩ := sil146 (what := what) (s := s) (q := q) (ths := ths) (oth := oth) ⟨hn1, hn2⟩ hs hq ea eb ha hb n FU g4 (by omega) (by unfold FU; omega) x4 w4 (fun a b hr => by
    rw [z4 _ (by have := hr.1; have := hr.2.1; omega), Nat.sub_self]; rfl) (fun h0 => by omega)
  refine SimK.fin hB hLR (resS E s q ths oth n an bn what) ?_ ?_ x2 mg2 cK ((c3.trans (pko_pkm c4)).trans (pko_pkm c5))
  · unfold m_X11_silenced m_X11_silenced_24 m_X11_silenced_48
    rw [isSpeakerC, bd_some, b2i_t hs, if_neg one_ne, isSpeakerC, bd_some, b2i_t hq, if_neg one_ne, if_neg hsq, if_pos ((set12 ths).mpr h1), if_pos ((set12 oth).mpr h2), if_neg one_ne, if_neg one_ne, if_neg (show ¬ nI n < 1 from nI_nlt (a := n) (b := 1) (by omega) (by omega)), if_neg (show ¬ 6 < nI n from nI_nlt (a := 6) (b := n) (by omega) (by omega)), if_neg (by rw [i32_lt]; simp only [tIall]; omega), if_pos (by rw [i32_le]; simp only [tIall]; omega), e0, bd_some, e1, bd_some, e2, bd_some]
  · unfold m_X12_silenced
    rw [isSpeakerM, bd_some, b2i_t hs, if_neg one_ne, isSpeakerM, bd_some, b2i_t hq, if_neg one_ne, if_neg hsq, liesI, bd_some, b2i_t (by exact h1), if_neg one_ne, liesI, bd_some, b2i_t (by exact h2), if_neg one_ne, liesI, bd_some, b2i_t (by exact hn), if_neg one_ne, liesI, bd_some, b2i_t (by exact hw), if_neg one_ne]
    rw [show m_X12_silenced_76 FU s ths q oth (nI n) what 0 g2 = _ from e3]
    rw [show m_X12_silenced_111 FU s ths oth (nI n) what 0 g3 = _ from e4, e5]
