section MS2
variable {E : En} {a b q i l : Nat} {sp : Int32}
theorem ms_out (hq : q < 7) (hl : 1 ≤ l ∧ l ≤ 24) :
    ∀ (d s f : Nat) (g : AHp), s + d = 6 → d < f → RX E g → StM g (nI a) (nI b) (nI q - 1) (nI (E.m + i)) → (∀ s2, s2 < s → (tb sp s2 && wq E i a b q s2 l) = false) →
    ∃ g1, m_X12_maySay_2 f sp (nI l) (nI s) g = some (if anyT (fun s => tb sp s && wq E i a b q s l) 6 = true then 1 else 0, g1) ∧ Ch PWs g g1 ∧ RX E g1 ∧ StM g1 (nI a) (nI b) (nI q - 1) (nI (E.m + i)) := by
  intro d
  induction d with
  | zero =>
    intro s f g hs hf x st hno
    obtain ⟨f, rfl⟩ : ∃ a, f = a + 1 := ⟨f - 1, by omega⟩
    have : s = 6 := by omega
    subst this
    rw [m_X12_maySay_2, if_pos (by decide)]
    refine ⟨g, ?_, Ch.rf, x, st⟩
    rw [if_neg]
    rw [anyT_iff]
    rintro ⟨s, hs, hb⟩
    rw [hno s hs] at hb; cases hb
  | succ d ih =>
    intro s f g hs hf x st hno
    obtain ⟨f, rfl⟩ : ∃ a, f = a + 1 := ⟨f - 1, by omega⟩
    rw [m_X12_maySay_2, if_neg (show ¬ 6 ≤ nI s from nI_ge (a := s) (b := 6) (by omega) (by omega))]
    obtain ⟨g1, c1, x1, s1, r1⟩ := ms_in (E := E) (a := a) (b := b) (q := q) (i := i) (l := l) (sp := sp) hq hl (s := s) (by omega) (m_X12_maySay_2 f) 12 0 FU g (by omega) (by unfold FU; omega) x st (fun t h => by omega)
    rcases r1 with ⟨e1, h1, h2⟩ | ⟨e1, h1⟩
    · refine ⟨g1, ?_, c1, x1, s1⟩
      rw [if_pos ((anyT_iff 6).mpr ⟨s, by omega, by rw [h1, h2]; rfl⟩)]
      exact e1
    · obtain ⟨g2, e2, c2, x2, s2⟩ := ih (s + 1) f g1 (by omega) (by omega) x1 s1 (fun s2 h2 => by
        by_cases e : s2 = s
        · rw [e]
          cases hb : tb sp s with
          | false => rfl
          | true => rw [h1 hb]; rfl
        · exact hno s2 (by omega))
      refine ⟨g2, ?_, c1.trans c2, x2, s2⟩
      rw [← e2]; exact e1
theorem maySayM (hq : q < 7) (hl : 1 ≤ l ∧ l ≤ 24) {g : AHp} (x : RX E g) (st : StM g (nI a) (nI b) (nI q - 1) (nI (E.m + i))) :
    ∃ g1, m_X12_maySay sp (nI l) g = some (if anyT (fun s => tb sp s && wq E i a b q s l) 6 = true then 1 else 0, g1) ∧ Ch PWs g g1 ∧ RX E g1 ∧ StM g1 (nI a) (nI b) (nI q - 1) (nI (E.m + i)) :=
  ms_out hq hl 6 0 FU g (by omega) (by unfold FU; omega) x st (fun s h => by omega)
/-- the reference's number of a place -/
def kq (a b q : Nat) : Nat := 7 * (25 * a + b) + (if q = 0 then 6 else q - 1)
theorem kq_f (hq : q < 7) (ha : a < 25) (hb : b < 25) : kq a b q / 7 = 25 * a + b ∧ kq a b q % 7 = (if q = 0 then 6 else q - 1) ∧ kq a b q < 4375 := by
  unfold kq
  have h : (if q = 0 then 6 else q - 1) ≤ 6 := by split <;> omega
  generalize (if q = 0 then 6 else q - 1) = r at h
  omega
theorem standsInM (hq : q < 7) (ha : a < 25) (hb : b < 25) {g : AHp} (x : RX E g) : ∃ g1, m_X12_standsIn (nI (kq a b q)) (nI i) g = some ((), g1) ∧ Ch PSt g g1 ∧ RX E g1 ∧ StM g1 (nI a) (nI b) (nI q - 1) (nI (E.m + i)) := by
  obtain ⟨k1, k2, k3⟩ := kq_f hq ha hb
  have d1 : nI (kq a b q) / 7 = nI (25 * a + b) := by
    have := pk_div (a := kq a b q) (d := 7) (by omega) (by omega) (by omega)
    rw [k1] at this; exact this
  have d2 : nI (kq a b q) - nI (kq a b q) / 7 * 7 = nI (if q = 0 then 6 else q - 1) := by
    have := pk_rem (a := kq a b q) (d := 7) (by omega) (by omega) (by omega)
    rw [k2] at this; exact this
  unfold m_X12_standsIn
  rw [d2, d1, x.1, nI_add, pair_mod (by omega) (by omega), pair_div (by omega) (by omega)]
  simp only [lt_eq]
  by_cases h0 : q = 0
  · rw [if_pos h0, if_pos (by rfl), h0]
    have c : Ch PSt g (sI (sI (sI (sI g 70 39 (nI (E.m + i))) 70 36 (nI a)) 70 37 (nI b)) 70 38 (-1)) := (((Ch.rf.sI rfl).sI rfl).sI rfl).sI rfl
    exact ⟨_, rfl, c, x.pmo (pst_pmo c), rfl, rfl, by rfl, rfl⟩
  · rw [if_neg h0, if_neg (show ¬ nI (q - 1) = 6 by
      intro h
      have := congrArg Int32.toInt h
      rw [nI_toInt (by omega)] at this
      simp only [tIall] at this
      omega)]
    have e : nI q - 1 = nI (q - 1) := pk_sub (a := q) (b := 1) (by omega)
    rw [e]
    have c : Ch PSt g (sI (sI (sI (sI g 70 39 (nI (E.m + i))) 70 36 (nI a)) 70 37 (nI b)) 70 38 (nI (q - 1))) := (((Ch.rf.sI rfl).sI rfl).sI rfl).sI rfl
    exact ⟨_, rfl, c, x.pmo (pst_pmo c), rfl, rfl, rfl, rfl⟩
end MS2
