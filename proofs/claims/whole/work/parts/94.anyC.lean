/-! any talk: the class -/
def APar : Type := { d : Nat × Nat × (Nat → Nat) // (1 ≤ d.1 ∧ d.1 ≤ 4) ∧ (1 ≤ d.2.1 ∧ d.2.1 ≤ 5) ∧ ∀ j, j < d.1 → d.2.2 j ≤ 11 }
def APar.K (A : APar) : Nat := (Subtype.val A).1
def APar.n (A : APar) : Nat := (Subtype.val A).2.1
def APar.kd (A : APar) : Nat → Nat := (Subtype.val A).2.2
theorem APar.hK (A : APar) : 1 ≤ A.K ∧ A.K ≤ 4 := (Subtype.property A).1
theorem APar.hn (A : APar) : 1 ≤ A.n ∧ A.n ≤ 5 := (Subtype.property A).2.1
theorem APar.hkd (A : APar) : ∀ j, j < A.K → A.kd j ≤ 11 := (Subtype.property A).2.2
def whoA (i : Nat) : Int32 := nI (i % 2)
def rrA (E : En) (i : Nat) : Int32 := if i = 0 then E.r else nI ((i - 1) % 2)
def FA (E : En) (A : APar) (i q a b l : Nat) : Bool := tb (E.siz (A.kd q)) l && E.ok 1 (whoA i) (nI (A.kd q)) (nI a) (nI b) (rrA E i) (nI (E.m + i)) l
def ka (E : En) (a : Nat) : Nat := if fA E = true then a else 0
def kb (E : En) (b : Nat) : Nat := if fB E = true then b else 0
def fK (E : En) : Bool := tb (E.msk 1) 8
theorem fBA {E : En} (h : fB E = true) : fA E = true := by unfold fB at h; unfold fA; rw [h]; rfl
theorem kab {E : En} {a a2 : Nat} (h : ka E a = ka E a2) : kb E a = kb E a2 := by
  unfold kb
  by_cases hB : fB E = true
  · unfold ka at h; rw [if_pos (fBA hB), if_pos (fBA hB)] at h; rw [h]
  · rw [if_neg hB, if_neg hB]
theorem kb_ka {E : En} (a : Nat) : kb E (ka E a) = kb E a := by
  unfold kb
  by_cases hB : fB E = true
  · rw [if_pos hB, if_pos hB]; unfold ka; rw [if_pos (fBA hB)]
  · rw [if_neg hB, if_neg hB]
theorem ka_le {E : En} {a : Nat} (h : a ≤ 24) : ka E a ≤ 24 := by unfold ka; split <;> omega
theorem kb_le {E : En} {a : Nat} (h : a ≤ 24) : kb E a ≤ 24 := by unfold kb; split <;> omega
theorem ka_ka {E : En} (a : Nat) : ka E (ka E a) = ka E a := by unfold ka; split <;> simp
theorem kb_kb {E : En} (a : Nat) : kb E (kb E a) = kb E a := by unfold kb; split <;> simp
theorem FA_dep {E : En} {A : APar} {g : AHp} (x : CX E g) (i q a b a2 b2 l : Nat) (h4 : ka E a = ka E a2) (h5 : kb E b = kb E b2) : FA E A i q a b l = FA E A i q a2 b2 l := by
  unfold FA
  rw [show E.ok 1 (whoA i) (nI (A.kd q)) (nI a) (nI b) (rrA E i) (nI (E.m + i)) l = E.ok 1 (whoA i) (nI (A.kd q)) (nI a2) (nI b2) (rrA E i) (nI (E.m + i)) l from x.dep (fun i hi hb => mo_ab (fun z => by
    rw [z] at hb
    unfold ka at h4
    have : fA E = true := by unfold fA; rw [hb, Bool.or_true]
    rw [if_pos this, if_pos this] at h4; rw [h4]) (fun z => by
    rw [z] at hb
    unfold kb at h5
    rw [if_pos (show fB E = true from hb), if_pos (show fB E = true from hb)] at h5; rw [h5]))]
theorem mo_k {col : Nat → Int32} {s t a b r k k2 l : Int32} {i : Nat} (hi : i < 9) (h8 : i = 8 → k = k2) : mo col s t a b r k l i = mo col s t a b r k2 l i := by
  rcases i with _ | _ | _ | _ | _ | _ | _ | _ | i
  all_goals first | rfl | skip
  exact h8 (by omega)
def alA (E : En) (i : Nat) : Nat := if fK E = true ∨ i < 3 then i else i - 2
theorem FA_al {E : En} {A : APar} {g : AHp} (x : CX E g) (i q a b l : Nat) : FA E A (alA E i) q a b l = FA E A i q a b l := by
  unfold alA
  by_cases h : fK E = true ∨ i < 3
  · rw [if_pos h]
  · rw [if_neg h]
    have hk : ¬ fK E = true := fun z => h (Or.inl z)
    have h3 : 3 ≤ i := by
      rcases Nat.lt_or_ge i 3 with z | z
      · exact absurd (Or.inr z) h
      · exact z
    unfold FA
    rw [show whoA (i - 2) = whoA i by unfold whoA; rw [show (i - 2) % 2 = i % 2 by omega], show rrA E (i - 2) = rrA E i by unfold rrA; rw [if_neg (by omega), if_neg (by omega), show (i - 2 - 1) % 2 = (i - 1) % 2 by omega]]
    rw [show E.ok 1 (whoA i) (nI (A.kd q)) (nI a) (nI b) (rrA E i) (nI (E.m + (i - 2))) l = E.ok 1 (whoA i) (nI (A.kd q)) (nI a) (nI b) (rrA E i) (nI (E.m + i)) l from x.dep (fun j hj hb => mo_k hj (fun z => by rw [z] at hb; exact absurd hb hk))]
theorem FA_b {E : En} {A : APar} {i q a b l : Nat} (hq : q < A.K) (hl : l < 32) (h : FA E A i q a b l = true) : 1 ≤ l ∧ l ≤ 24 := by
  unfold FA at h
  rw [Bool.and_eq_true] at h
  exact E.hsz _ (by have := A.hkd q hq; omega) l hl h.1
def AX (E : En) (A : APar) (g : AHp) : Prop := (hI g 56 7 = nI A.K ∧ hI g 56 8 = nI A.n ∧ hI g 56 9 = E.r ∧ hI g 56 10 = nI E.m ∧ hI g 56 11 = (if fA E = true then 1 else 0) ∧ hI g 56 12 = (if fB E = true then 1 else 0) ∧ hI g 56 13 = (if fK E = true then 1 else 0)) ∧ ∀ j, j < A.K → hI g 61 j = nI (A.kd j)
theorem AX.ch {P : Nat → Nat → Bool} {E : En} {A : APar} {h g : AHp} (x : AX E A h) (c : Ch P h g) (hp : ∀ i, P 56 i = false ∧ P 61 i = false) : AX E A g := by
  unfold AX at x ⊢
  rw [c.r (k := 56) (fun i => (hp i).1), c.r (k := 61) (fun i => (hp i).2)]; exact x
def GA (E : En) (A : APar) (key : Nat) (v : Int32) : Prop := ∀ j, j < 32 → tb v j = FA E A (key / 2500) (key / 625 % 4) (key % 625 / 25) (key % 25) j
theorem lenOfC {E : En} {A : APar} {c lv q a b : Nat} {g : AHp} (hlv : lv < A.n) (hq : q < A.K) (ha : a ≤ 24) (hb : b ≤ 24) (x : CX E g) (ax : AX E A g) (mg : MG g c (GA E A)) : ∃ y g1, m_X0_lengthsOf (nI lv) (nI q) (nI a) (nI b) g = some (y, g1) ∧ (∀ j, j < 32 → tb y j = FA E A lv q a b j) ∧ CX E g1 ∧ AX E A g1 ∧ MG g1 c (GA E A) ∧ Ch PV g g1 := by
  have hK := A.hK
  have hn := A.hn
  have hm := E.hm
  have hal : alA E lv ≤ 4 := by unfold alA; split <;> omega
  have e19 : m_X0_lengthsOf (nI lv) (nI q) (nI a) (nI b) g = m_X0_lengthsOf_19 (nI lv) (nI q) (nI a) (nI b) (nI (alA E lv)) g := by
    unfold m_X0_lengthsOf alA
    rw [ax.1.2.2.2.2.2.2]
    cases hk : fK E with
    | true => rw [i01_t, if_neg one_ne, if_pos (Or.inl rfl)]
    | false =>
      rw [i01_f, if_pos rfl]
      by_cases h3 : lv < 3
      · rw [if_neg (show ¬ 3 ≤ nI lv from nI_ge (a := lv) (b := 3) (by omega) (by omega)), if_pos (Or.inr h3)]
      · rw [if_pos (show 3 ≤ nI lv from nI_le (a := 3) (by omega) (by omega)), if_neg (by rintro (h | h); cases h; omega), show nI lv - 2 = nI (lv - 2) from pk_sub (a := lv) (b := 2) (by omega)]
  have ekey : ((((nI (alA E lv) * 4) + nI q) * 625) + (nI a * 25)) + nI b = nI (((alA E lv * 4 + q) * 625) + a * 25 + b) := by
    rw [show nI (alA E lv) * 4 = nI (alA E lv * 4) from pk_mul _ 4, nI_add, show nI (alA E lv * 4 + q) * 625 = nI ((alA E lv * 4 + q) * 625) from pk_mul _ 625, show nI a * 25 = nI (a * 25) from pk_mul a 25, nI_add, nI_add]
  generalize hkey : (alA E lv * 4 + q) * 625 + a * 25 + b = key at ekey
  have hkb : key < 12500 := by omega
  have hR : ∀ v, GA E A key v ↔ ∀ j, j < 32 → tb v j = FA E A lv q a b j := fun v => by
    unfold GA
    rw [show key / 2500 = alA E lv by omega, show key / 625 % 4 = q by omega, show key % 625 / 25 = a by omega, show key % 25 = b by omega]
    constructor
    · intro h j hj; rw [h j hj, FA_al x]
    · intro h j hj; rw [h j hj, FA_al x]
  rw [e19]
  unfold m_X0_lengthsOf_19
  rw [ekey, lt_eq]
  rcases mg.hd hkb with hh | ⟨v, hv, -, hh, hget⟩
  rotate_left
  · refine ⟨v, g, ?_, (hR v).mp hv, x, ax, mg, Ch.rf⟩
    rw [hh, bd_some, if_neg one_ne, hget, bd_some]
  rw [hh, bd_some, if_pos rfl, if_neg (nI_pos (by omega)), if_pos (show nI q < 4 from nI_lt (b := 4) (by omega) (by omega))]
  have e2 : nI lv - nI lv / 2 * 2 = nI (lv % 2) := pk_rem (a := lv) (d := 2) (by omega) (by omega) (by omega)
  have hkd := A.hkd q hq
  have hs : 0 ≤ (whoA lv).toInt ∧ (whoA lv).toInt ≤ 5 := by unfold whoA; rw [nI_toInt (by omega)]; omega
  have hr : -1 ≤ (rrA E lv).toInt ∧ (rrA E lv).toInt ≤ 5 := by
    unfold rrA; split
    · exact E.hr
    · rw [nI_toInt (by omega)]; omega
  have ht : 0 ≤ (nI (A.kd q)).toInt ∧ (nI (A.kd q)).toInt ≤ 11 := by rw [nI_toInt (by omega)]; omega
  have ect : (nI (A.kd q)).toNatClampNeg = A.kd q := nI_clamp (by omega)
  obtain ⟨es, cs, xs, ss⟩ := x.stand (nI a) (nI b) (rrA E lv) (nI (E.m + lv))
  obtain ⟨y, g1, e1, c1, x1, s1, q1⟩ := xs.ask ss 1 (nI (A.kd q)) hs hr (E.siz (A.kd q)) (fun j hj hb => E.hsz _ (by omega) j hj hb)
  have c01 := cs.trans (PCl_PC c1)
  obtain ⟨g2, e3, m2, -, -, c2⟩ := (mg.ch c01 rfl (fun _ => rfl)).put hkb ((hR y).mpr (fun j hj => q1 j hj))
  have cc : Ch PV g g2 := (pc_pv c01).trans (c32_pv c2)
  have e109 : ∀ sp, sp = rrA E lv → m_X0_lengthsOf_109 (nI lv) (nI key) (nI (lv % 2)) (nI (A.kd q)) (nI a) (nI b) sp g = some (y, g2) := fun sp hsp => by
    unfold m_X0_lengthsOf_109
    rw [ax.1.2.2.2.1, nI_add, hsp, es, bd_some, sizesOfC, bd_some, if_pos ht, ect, xs.2.2.2.1.2]
    rw [show m_X9_lets 1 (nI (lv % 2)) (nI (A.kd q)) (E.siz (A.kd q)) (stH g (nI a) (nI b) (rrA E lv) (nI (E.m + lv))) = some (y, g1) from e1, bd_some, e3, bd_some]
  refine ⟨y, g2, ?_, fun j hj => q1 j hj, x1.po (c32_po c2), ax.ch cc (fun _ => ⟨rfl, rfl⟩), m2, cc⟩
  simp only [gd_pos (inb_nI (n := q) (N := 4) (by omega) (by omega)), nI_clamp (n := q) (show q < 2 ^ 31 by omega), lt_eq]
  rw [e2, ax.2 q hq]
  by_cases h0 : lv = 0
  · rw [if_pos (by rw [h0]; rfl)]
    exact e109 _ (by rw [ax.1.2.2.1]; unfold rrA; rw [if_pos h0])
  · rw [if_neg (fun z => h0 ((nI_zero_iff (by omega)).mp z))]
    refine e109 _ ?_
    unfold rrA
    rw [if_neg h0]
    by_cases hp : lv % 2 = 0
    · rw [hp, show (lv - 1) % 2 = 1 by omega]; rfl
    · rw [show lv % 2 = 1 by omega, show (lv - 1) % 2 = 0 by omega]; rfl
def imgA (E : En) (S : Nat → Nat → Bool) (a2 b2 : Nat) : Bool := anyT (fun a => anyT (fun b => S a b && (decide (ka E a = a2) && decide (kb E b = b2))) 25) 25
theorem imgA_iff {E : En} {S : Nat → Nat → Bool} {a2 b2 : Nat} : imgA E S a2 b2 = true ↔ ∃ a b, a ≤ 24 ∧ b ≤ 24 ∧ S a b = true ∧ ka E a = a2 ∧ kb E b = b2 := by
  unfold imgA
  rw [anyT_iff]
  constructor
  · rintro ⟨a, h1, h2⟩
    obtain ⟨b, h3, h4⟩ := (anyT_iff 25).mp h2
    rw [Bool.and_eq_true, Bool.and_eq_true, decide_eq_true_eq, decide_eq_true_eq] at h4
    exact ⟨a, b, by omega, by omega, h4.1, h4.2.1, h4.2.2⟩
  · rintro ⟨a, b, h1, h2, h3, h4, h5⟩
    exact ⟨a, by omega, (anyT_iff 25).mpr ⟨b, by omega, by rw [Bool.and_eq_true, Bool.and_eq_true, decide_eq_true_eq, decide_eq_true_eq]; exact ⟨h3, h4, h5⟩⟩⟩
theorem imgA_b {E : En} {S : Nat → Nat → Bool} {a2 b2 : Nat} (h : imgA E S a2 b2 = true) : a2 ≤ 24 ∧ b2 ≤ 24 := by
  obtain ⟨a, b, h1, h2, _, h4, h5⟩ := imgA_iff.mp h
  have := ka_le (E := E) h1
  have := kb_le (E := E) h2
  omega
def RI (E : En) (g : AHp) (lv : Nat) (S : Nat → Nat → Bool) : Prop := ∀ b, b ≤ 24 → ∀ j, j < 32 → tb (hI g 57 (lv * 25 + b)) j = imgA E S j b
theorem reachedC {E : En} {A : APar} {lv b : Nat} {y : Int32} {g : AHp} (hlv : lv ≤ 5) (hb : b ≤ 24) (hy : y ≠ 0) (ax : AX E A g) : m_X0_reached (nI lv) (nI b) y g = some ((), sI g 57 (lv * 25 + kb E b) (hI g 57 (lv * 25 + kb E b) ||| (if fA E = true then y else 1))) := by
  have hk := kb_le (E := E) hb
  have e16 : m_X0_reached_16 y (nI (lv * 25)) (nI (kb E b)) g = some ((), sI g 57 (lv * 25 + kb E b) (hI g 57 (lv * 25 + kb E b) ||| (if fA E = true then y else 1))) := by
    unfold m_X0_reached_16
    rw [nI_add, lt_eq, if_neg (nI_pos (by omega)), if_neg (show ¬ 150 ≤ nI (lv * 25 + kb E b) from nI_ge (a := lv * 25 + kb E b) (b := 150) (by omega) (by omega)), if_neg hy]
    simp only [gd_pos (inb_nI (n := lv * 25 + kb E b) (N := 150) (by omega) (by omega)), nI_clamp (n := lv * 25 + kb E b) (show lv * 25 + kb E b < 2 ^ 31 by omega), lt_eq]
    rw [ax.1.2.2.2.2.1]
    cases fA E with
    | true => rw [i01_t, if_neg one_ne, if_pos rfl]
    | false => rw [i01_f, if_pos rfl, if_neg (by simp)]
  unfold m_X0_reached
  rw [ax.1.2.2.2.2.2.1, show nI lv * 25 = nI (lv * 25) from pk_mul lv 25]
  cases hB : fB E with
  | true => rw [i01_t, if_neg one_ne]; unfold kb at e16 ⊢; rw [if_pos hB] at e16 ⊢; exact e16
  | false => rw [i01_f, if_pos rfl]; unfold kb at e16 ⊢; rw [if_neg (by rw [hB]; simp)] at e16 ⊢; exact e16
theorem clearC2 {E : En} {lv : Nat} (hlv : lv ≤ 5) : ∀ (d i f : Nat) (g : AHp), i + d = 25 → d < f → (∀ b, b < i → hI g 57 (lv * 25 + b) = 0) → ∃ g1, m_X0_clearLevel_2 f (nI lv) (nI i) g = some ((), g1) ∧ (∀ b, b ≤ 24 → hI g1 57 (lv * 25 + b) = 0) ∧ Ch (fun k z => k == 57 && (Nat.ble (lv * 25) z && Nat.ble z (lv * 25 + 24))) g g1 := by
  intro d
  induction d with
  | zero =>
    intro i f g hi hf hz
    obtain ⟨f, rfl⟩ : ∃ a, f = a + 1 := ⟨f - 1, by omega⟩
    have : i = 25 := by omega
    subst this
    exact ⟨g, by rw [m_X0_clearLevel_2, if_pos (by decide)], fun b hb => hz b (by omega), Ch.rf⟩
  | succ d ih =>
    intro i f g hi hf hz
    obtain ⟨f, rfl⟩ : ∃ a, f = a + 1 := ⟨f - 1, by omega⟩
    rw [m_X0_clearLevel_2, if_neg (show ¬ 25 ≤ nI i from nI_ge (a := i) (b := 25) (by omega) (by omega)), show nI lv * 25 = nI (lv * 25) from pk_mul lv 25, nI_add, lt_eq, if_neg (nI_pos (by omega)), if_neg (show ¬ 150 ≤ nI (lv * 25 + i) from nI_ge (a := lv * 25 + i) (b := 150) (by omega) (by omega)), gd_pos (inb_nI (by omega) (by omega)), nI_clamp (by omega), lt_eq, lt_eq, nI_1]
    obtain ⟨g1, e1, q1, c1⟩ := ih (i + 1) f (sI g 57 (lv * 25 + i) 0) (by omega) (by omega) (fun b hb => by
      rw [hI_sI]
      by_cases h : b = i
      · rw [if_pos ⟨rfl, by omega⟩]
      · rw [if_neg (by omega)]; exact hz b (by omega))
    exact ⟨g1, e1, q1, (Ch.rf.sI (by simp only [beq_self_eq_true, Bool.true_and, Bool.and_eq_true]; exact ⟨Nat.ble_eq_true_of_le (by omega), Nat.ble_eq_true_of_le (by omega)⟩) : Ch (fun k z => k == 57 && (Nat.ble (lv * 25) z && Nat.ble z (lv * 25 + 24))) g _).trans c1⟩
