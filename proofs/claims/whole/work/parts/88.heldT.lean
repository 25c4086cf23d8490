/-! held and coded: what is told -/
def dgb (md : Nat) (dg : Int32) : Nat → Int32
  | 0 => 0
  | l + 1 => if nI ((l + 1) % md) = dg then dgb md dg l ||| ((1 : Int32) <<< (nI (l + 1) &&& 31)) else dgb md dg l
theorem dgb_bits (md : Nat) (dg : Int32) : ∀ n k, n ≤ 24 → k < 32 → tb (dgb md dg n) k = decide (1 ≤ k ∧ k ≤ n ∧ nI (k % md) = dg)
  | 0, k, _, _ => by rw [dgb, tb_zero, decide_eq_false (by omega)]
  | n + 1, k, h1, h2 => by
    rw [dgb]
    have ih := dgb_bits md dg n k (by omega) h2
    by_cases hq : nI ((n + 1) % md) = dg
    · rw [if_pos hq, tb_or, tb_bit (by omega) h2, ih]
      by_cases hk : k = n + 1
      · subst hk; simp [hq]
      · rw [decide_eq_false hk, Bool.or_false]; exact decide_eq_decide.mpr ⟨fun z => ⟨z.1, by omega, z.2.2⟩, fun z => ⟨z.1, by omega, z.2.2⟩⟩
    · rw [if_neg hq, ih]
      by_cases hk : k = n + 1
      · subst hk; simp [hq]
      · exact decide_eq_decide.mpr ⟨fun z => ⟨z.1, by omega, z.2.2⟩, fun z => ⟨z.1, by omega, z.2.2⟩⟩
def parH (E : En) (laws : Int32) (n e md : Nat) (dgt : Nat → Int32) (hn : n ≤ 12) (hg : ∀ i, i < n → (isSp (E.ty (e * i)) && isTh (E.ty (e * i + 1))) = true) : HPar :=
  ⟨(laws, n, fun i => E.ty (e * i), fun i => E.ty (e * i + 1), fun i => E.siz (E.ty (e * i + 1)).toNatClampNeg &&& dgb md (dgt i) 24), ⟨hn, fun i hi => by
    have := hg i hi
    rw [Bool.and_eq_true] at this; exact of_decide_eq_true this.1, fun i hi k hk hb => by
    have hb2 : tb (E.siz (E.ty (e * i + 1)).toNatClampNeg &&& dgb md (dgt i) 24) k = true := hb
    rw [tb_and, Bool.and_eq_true, dgb_bits _ _ 24 k (by omega) hk] at hb2
    have := of_decide_eq_true hb2.2; omega⟩⟩
theorem tell17 {E : En} {md i : Nat} {sp th dg : Int32} (hi : i < 12) (hmd : 1 ≤ md ∧ md ≤ 5) (ht : 0 ≤ th.toInt ∧ th.toInt ≤ 11) : ∀ (d l f : Nat) (g : AHp), l + d = 25 → 1 ≤ l → d < f → CX E g → hI g 51 7 = nI md → m_X1_tell_17 f (nI i) sp th dg (dgb md dg (l - 1)) (nI l) g = some ((), sI (sI (sI g 52 i sp) 53 i th) 54 i (E.siz th.toNatClampNeg &&& dgb md dg 24)) := by
  intro d
  induction d with
  | zero =>
    intro l f g hl h1 hf x h7
    obtain ⟨f, rfl⟩ : ∃ a, f = a + 1 := ⟨f - 1, by omega⟩
    have : l = 25 := by omega
    subst this
    have gi : inb (nI i) 12 := inb_nI (by omega) (by omega)
    rw [m_X1_tell_17, if_pos (by decide)]
    simp only [gd_pos gi, nI_clamp (n := i) (show i < 2 ^ 31 by omega), lt_eq]
    rw [sizesOfC, bd_some, if_pos ht]
    have : hI (sI (sI g 52 i sp) 53 i th) 4 th.toNatClampNeg = E.siz th.toNatClampNeg := by
      rw [hI_sI, if_neg (by omega), hI_sI, if_neg (by omega), x.2.2.2.1.2]
    rw [this]
  | succ d ih =>
    intro l f g hl h1 hf x h7
    obtain ⟨f, rfl⟩ : ∃ a, f = a + 1 := ⟨f - 1, by omega⟩
    have hst : dgb md dg (l + 1 - 1) = if nI (l % md) = dg then dgb md dg (l - 1) ||| ((1 : Int32) <<< (nI l &&& 31)) else dgb md dg (l - 1) := by
      obtain ⟨m, rfl⟩ : ∃ m, l = m + 1 := ⟨l - 1, by omega⟩
      rfl
    have er : nI l - nI l / nI md * nI md = nI (l % md) := pk_rem (by omega) (by omega) (by omega)
    have hne : ¬ hI g 51 7 = 0 := by rw [h7]; exact nI_ne0 (by omega) (by omega)
    rw [m_X1_tell_17, if_neg (show ¬ 24 < nI l from nI_nlt (a := 24) (b := l) (by omega) (by omega)), if_neg (by rw [h7]; exact nI_nle (by omega) (by omega)), gd_pos hne, h7, er]
    simp only [lt_eq, nI_1, or0]
    have := ih (l + 1) f g (by omega) (by omega) (by omega) x h7
    rw [hst] at this
    by_cases hq : nI (l % md) = dg
    · rw [if_pos hq]; rw [if_pos hq] at this; exact this
    · rw [if_neg hq]; rw [if_neg hq] at this; exact this
theorem tellC {E : En} {md i : Nat} {sp th dg : Int32} {g : AHp} (hi : i < 12) (hmd : 1 ≤ md ∧ md ≤ 5) (ht : 0 ≤ th.toInt ∧ th.toInt ≤ 11) (x : CX E g) (h7 : hI g 51 7 = nI md) : m_X1_tell (nI i) sp th dg g = some ((), sI (sI (sI g 52 i sp) 53 i th) 54 i (E.siz th.toNatClampNeg &&& dgb md dg 24)) := by
  unfold m_X1_tell
  rw [if_neg (nI_pos (by omega)), if_pos (show nI i < 12 from nI_lt (b := 12) (by omega) (by omega))]
  exact tell17 hi hmd ht 24 1 FU g (by omega) (by omega) (by unfold FU; omega) x h7
abbrev PT3 : Nat → Nat → Bool := fun k _ => k == 52 || k == 53 || k == 54
theorem beginH {E : En} {laws : Int32} {n md : Nat} {h : AHp} (hn : 1 ≤ n ∧ n ≤ 12) (x : CX E h) : ∃ g, m_X1_begin laws (nI md) (nI n) h = some ((), g) ∧ Ch (fun k _ => k == 51) h g ∧ (hI g 51 6 = laws ∧ hI g 51 7 = nI md ∧ hI g 51 8 = nI n ∧ hI g 51 12 = (if (tb (E.msk laws) 5 || tb (E.msk laws) 4) = true then 1 else 0) ∧ hI g 51 13 = (if tb (E.msk laws) 5 = true then 1 else 0)) := by
  have en : (if (0 : Int32) < (if (12 : Int32) < nI n then 12 else nI n) then if (12 : Int32) < nI n then 12 else nI n else 0) = nI n := by
    rw [if_neg (show ¬ 12 < nI n from nI_nlt (a := 12) (b := n) (by omega) (by omega)), if_pos (show 0 < nI n from nI_lt (a := 0) (by omega) (by omega))]
  have c3 : Ch (fun k _ => k == 51) h (sI (sI (sI h 51 6 laws) 51 7 (nI md)) 51 8 (nI n)) := ((Ch.rf.sI rfl).sI rfl).sI rfl
  have x3 : CX E (sI (sI (sI h 51 6 laws) 51 7 (nI md)) 51 8 (nI n)) := x.po (((Ch.rf.sI rfl).sI rfl).sI rfl)
  have eb : m_X1_begin laws (nI md) (nI n) h = some ((), sI (sI (sI (sI (sI h 51 6 laws) 51 7 (nI md)) 51 8 (nI n)) 51 13 (if tb (E.msk laws) 5 = true then 1 else 0)) 51 12 (if (tb (E.msk laws) 5 || tb (E.msk laws) 4) = true then 1 else 0)) := by
    unfold m_X1_begin m_X1_begin_48
    simp only [lt_eq]
    rw [en, x3.asks, bd_some]
    cases h5 : tb (E.msk laws) 5 with
    | false =>
      rw [if_pos ((tb_lit (n := 5) (by omega) (by decide)).mpr h5), gd_pos (Or.inl trivial), sI_same, if_pos rfl]
      cases h4 : tb (E.msk laws) 4 with
      | false => rw [if_pos ((tb_lit (n := 4) (by omega) (by decide)).mpr h4)]; rfl
      | true => rw [if_neg (fun z => by rw [(tb_lit (n := 4) (by omega) (by decide)).mp z] at h4; cases h4)]; rfl
    | true =>
      rw [if_neg (fun z => by rw [(tb_lit (n := 5) (by omega) (by decide)).mp z] at h5; cases h5), gd_pos (Or.inr trivial), sI_same, if_neg one_ne]; rfl
  refine ⟨_, eb, (c3.sI rfl).sI rfl, ?_⟩
  simp only [hI_sI, Nat.reduceEqDiff, false_and, and_false, true_and, and_true, reduceIte, and_self]
/-- the loop that tells the places, for held (e = 2) and coded (e = 3) -/
theorem tells57 {E : En} {n md : Nat} {what : Int32} (hn : n ≤ 12) (hc : 2 * n ≤ E.c) (hmd : 1 ≤ md ∧ md ≤ 5) (hg : ∀ i, i < n → (isSp (E.ty (2 * i)) && isTh (E.ty (2 * i + 1))) = true) : ∀ (d i f : Nat) (g : AHp), i + d = n → d < f → CX E g → hI g 51 7 = nI md → (∀ j, j < i → hI g 52 j = E.ty (2 * j) ∧ hI g 53 j = E.ty (2 * j + 1) ∧ hI g 54 j = (E.siz (E.ty (2 * j + 1)).toNatClampNeg &&& dgb md 0 24)) → ∃ g1, m_X11_held_57 f (nI n) what (nI i) g = (bd (m_X1_answer what g1) fun r1 h2 => (bd (m_X8_clear h2) fun r3 h4 => (some (r1, h4)))) ∧ CX E g1 ∧ Ch PT3 g g1 ∧ (∀ j, j < n → hI g1 52 j = E.ty (2 * j) ∧ hI g1 53 j = E.ty (2 * j + 1) ∧ hI g1 54 j = (E.siz (E.ty (2 * j + 1)).toNatClampNeg &&& dgb md 0 24)) := by
  have hcc := E.hc
  intro d
  induction d with
  | zero =>
    intro i f g hi hf x h7 hd
    obtain ⟨f, rfl⟩ : ∃ a, f = a + 1 := ⟨f - 1, by omega⟩
    have : i = n := by omega
    subst this
    exact ⟨g, by rw [m_X11_held_57, if_pos (nI_le (Nat.le_refl _) (by omega))], x, Ch.rf, hd⟩
  | succ d ih =>
    intro i f g hi hf x h7 hd
    obtain ⟨f, rfl⟩ : ∃ a, f = a + 1 := ⟨f - 1, by omega⟩
    have hgi := hg i (by omega)
    rw [Bool.and_eq_true] at hgi
    have c : Ch PT3 g (sI (sI (sI g 52 i (E.ty (2 * i))) 53 i (E.ty (2 * i + 1))) 54 i (E.siz (E.ty (2 * i + 1)).toNatClampNeg &&& dgb md 0 24)) := ((Ch.rf.sI rfl).sI rfl).sI rfl
    rw [m_X11_held_57, if_neg (nI_ge (by omega) (by omega)), show (2 : Int32) * nI i = nI (2 * i) from pk_mul 2 i, x.byte (by omega), bd_some, nI_1, x.byte (by omega), bd_some, tellC (by omega) hmd (of_decide_eq_true hgi.2) x h7, bd_some, lt_eq, nI_1]
    obtain ⟨g1, e1, x1, c1, d1⟩ := ih (i + 1) f _ (by omega) (by omega) (x.po (((Ch.rf.sI rfl).sI rfl).sI rfl)) (by rw [c.i rfl, h7]) (fun j hj => by
      simp only [hI_sI, Nat.reduceEqDiff, false_and, and_false, true_and, and_true, reduceIte]
      by_cases hji : j = i
      · subst hji; simp
      · simp only [if_neg hji]; exact hd j (by omega))
    exact ⟨g1, e1, x1, c.trans c1, d1⟩
theorem tells66 {E : En} {n md : Nat} {what : Int32} (hn : n ≤ 12) (hc : 3 * n ≤ E.c) (hmd : 1 ≤ md ∧ md ≤ 5) (hg : ∀ i, i < n → (isSp (E.ty (3 * i)) && isTh (E.ty (3 * i + 1))) = true) : ∀ (d i f : Nat) (g : AHp), i + d = n → d < f → CX E g → hI g 51 7 = nI md → (∀ j, j < i → hI g 52 j = E.ty (3 * j) ∧ hI g 53 j = E.ty (3 * j + 1) ∧ hI g 54 j = (E.siz (E.ty (3 * j + 1)).toNatClampNeg &&& dgb md (E.ty (3 * j + 2)) 24)) → ∃ g1, m_X11_coded_66 f (nI n) what (nI i) g = (bd (m_X1_answer what g1) fun r1 h2 => (bd (m_X8_clear h2) fun r3 h4 => (some (r1, h4)))) ∧ CX E g1 ∧ Ch PT3 g g1 ∧ (∀ j, j < n → hI g1 52 j = E.ty (3 * j) ∧ hI g1 53 j = E.ty (3 * j + 1) ∧ hI g1 54 j = (E.siz (E.ty (3 * j + 1)).toNatClampNeg &&& dgb md (E.ty (3 * j + 2)) 24)) := by
  have hcc := E.hc
  intro d
  induction d with
  | zero =>
    intro i f g hi hf x h7 hd
    obtain ⟨f, rfl⟩ : ∃ a, f = a + 1 := ⟨f - 1, by omega⟩
    have : i = n := by omega
    subst this
    exact ⟨g, by rw [m_X11_coded_66, if_pos (nI_le (Nat.le_refl _) (by omega))], x, Ch.rf, hd⟩
  | succ d ih =>
    intro i f g hi hf x h7 hd
    obtain ⟨f, rfl⟩ : ∃ a, f = a + 1 := ⟨f - 1, by omega⟩
    have hgi := hg i (by omega)
    rw [Bool.and_eq_true] at hgi
    have c : Ch PT3 g (sI (sI (sI g 52 i (E.ty (3 * i))) 53 i (E.ty (3 * i + 1))) 54 i (E.siz (E.ty (3 * i + 1)).toNatClampNeg &&& dgb md (E.ty (3 * i + 2)) 24)) := ((Ch.rf.sI rfl).sI rfl).sI rfl
    rw [m_X11_coded_66, if_neg (nI_ge (by omega) (by omega)), show (3 : Int32) * nI i = nI (3 * i) from pk_mul 3 i, x.byte (by omega), bd_some, nI_1, x.byte (by omega), bd_some, show nI (3 * i) + 2 = nI (3 * i + 2) from nI_add _ 2, x.byte (by omega), bd_some, tellC (by omega) hmd (of_decide_eq_true hgi.2) x h7, bd_some, lt_eq, nI_1]
    obtain ⟨g1, e1, x1, c1, d1⟩ := ih (i + 1) f _ (by omega) (by omega) (x.po (((Ch.rf.sI rfl).sI rfl).sI rfl)) (by rw [c.i rfl, h7]) (fun j hj => by
      simp only [hI_sI, Nat.reduceEqDiff, false_and, and_false, true_and, and_true, reduceIte]
      by_cases hji : j = i
      · subst hji; simp
      · simp only [if_neg hji]; exact hd j (by omega))
    exact ⟨g1, e1, x1, c.trans c1, d1⟩
theorem tellsDigC {E : En} {g : AHp} {n md : Nat} (x : CX E g) (hn : 3 * n ≤ E.c) : ∀ (d i f : Nat), i + d = n → d < f → m_X11_tellsDigits_2 f (nI md) (nI n) (nI i) g = some (if okF (fun i => decide (E.ty (3 * i + 2) < nI md)) i d = true then 1 else 0, g) := by
  have hc := E.hc
  intro d
  induction d with
  | zero =>
    intro i f hi hf
    obtain ⟨f, rfl⟩ : ∃ a, f = a + 1 := ⟨f - 1, by omega⟩
    rw [m_X11_tellsDigits_2, if_pos (nI_le (by omega) (by omega))]; rfl
  | succ d ih =>
    intro i f hi hf
    obtain ⟨f, rfl⟩ : ∃ a, f = a + 1 := ⟨f - 1, by omega⟩
    rw [m_X11_tellsDigits_2, if_neg (nI_ge (by omega) (by omega)), show (3 : Int32) * nI i = nI (3 * i) from pk_mul 3 i, show nI (3 * i) + 2 = nI (3 * i + 2) from nI_add _ 2, x.byte (by omega), bd_some, okF]
    by_cases hq : E.ty (3 * i + 2) < nI md
    · rw [if_pos hq, lt_eq, nI_1, ih (i + 1) f (by omega) (by omega), decide_eq_true hq, Bool.true_and]
    · rw [if_neg hq, decide_eq_false hq]; simp
