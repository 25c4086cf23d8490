/-! LAWS, by what they mean. A moment gives the nine letters l t s c a b r d k; a clause: whether it bans, what is paid, its condition (none: refused; 1: holds), its letters as bits -/
abbrev Mom : Type := Nat → Int32
abbrev Clz : Type := Bool × (Mom → Option Int32) × (Mom → Option Int32) × Int32
/-- the reference's moment -/
def momM (h : AHp) : Mom := fun i => match i with
  | 0 => hI h 70 33
  | 1 => hI h 70 34
  | 2 => hI h 70 35
  | 3 => hI h 91 (hI h 70 35).toNatClampNeg
  | 4 => hI h 70 36
  | 5 => hI h 70 37
  | 6 => if 0 ≤ hI h 70 38 then hI h 70 38 else 0
  | 7 => if 0 ≤ hI h 70 38 then hI h 91 (hI h 70 38).toNatClampNeg else 0
  | _ => hI h 70 39
def okM (h : AHp) : Prop := (0 ≤ (hI h 70 35).toInt ∧ (hI h 70 35).toInt ≤ 5) ∧ (-1 ≤ (hI h 70 38).toInt ∧ (hI h 70 38).toInt ≤ 5)
abbrev PW : Nat → Nat → Bool := fun k _ => k == 92 || k == 93
theorem momM_ch {h h1 : AHp} (c : Ch PW h h1) : momM h1 = momM h := by
  funext i
  unfold momM
  simp only [c.i (k := 70) (i := 33) rfl, c.i (k := 70) (i := 34) rfl, c.i (k := 70) (i := 35) rfl, c.i (k := 70) (i := 36) rfl, c.i (k := 70) (i := 37) rfl, c.i (k := 70) (i := 38) rfl, c.i (k := 70) (i := 39) rfl, c.r (k := 91) (fun _ => rfl)]
theorem okM_ch {h h1 : AHp} (c : Ch PW h h1) (hk : okM h) : okM h1 := by
  unfold okM at hk ⊢
  rw [c.i (k := 70) (i := 35) rfl, c.i (k := 70) (i := 38) rfl]; exact hk
/-- the codes from a to b work out D -/
def SegM (h : AHp) (w : Nat) (a b : Int32) (D : Mom → Option Int32) : Prop := ∀ g : AHp, (∀ i, 200 * w ≤ i → i < 200 * w + 200 → hI g 82 i = hI h 82 i) → (∀ i, 200 * w ≤ i → i < 200 * w + 200 → hI g 83 i = hI h 83 i) → okM g →
  ∃ g1, m_X12_works a b g = some ((), g1) ∧ Ch PW g g1 ∧ (D (momM g) = none → ¬ hI g1 93 0 = 0) ∧ ∀ v, D (momM g) = some v → hI g1 93 0 = 0 ∧ hI g1 92 0 = v
def LawM (h : AHp) (w : Nat) (cl : List Clz) : Prop := cl.length ≤ 14 ∧ hI h 77 w = nI cl.length ∧ ∀ (i : Nat) (q : Clz), cl[i]? = some q → hI h 78 (14 * w + i) = (if q.1 = true then 110 else 112) ∧ SegM h w (hI h 80 (14 * w + i)) (hI h 81 (14 * w + i)) q.2.2.1 ∧ (q.1 = false → SegM h w (hI h 79 (14 * w + i)) (hI h 80 (14 * w + i)) q.2.1)
/-- the cells in which the reference's laws lie -/
def sameLM (h g : AHp) : Prop := ∀ k, 77 ≤ k → k ≤ 83 → ∀ i, hI g k i = hI h k i
theorem SegM.same {h g : AHp} {w : Nat} {a b : Int32} {D : Mom → Option Int32} (hs : sameLM h g) (x : SegM h w a b D) : SegM g w a b D := fun g2 h1 h2 hk => x g2 (fun i u1 u2 => by rw [h1 i u1 u2, hs 82 (by omega) (by omega)]) (fun i u1 u2 => by rw [h2 i u1 u2, hs 83 (by omega) (by omega)]) hk
theorem LawM.same {h g : AHp} {w : Nat} {cl : List Clz} (hs : sameLM h g) (x : LawM h w cl) : LawM g w cl := by
  refine ⟨x.1, by rw [hs 77 (by omega) (by omega)]; exact x.2.1, fun i q hq => ?_⟩
  obtain ⟨x1, x2, x3⟩ := x.2.2 i q hq
  rw [hs 78 (by omega) (by omega), hs 79 (by omega) (by omega), hs 80 (by omega) (by omega), hs 81 (by omega) (by omega)]
  exact ⟨x1, x2.same hs, fun hb => (x3 hb).same hs⟩
theorem sameLM.ch {P : Nat → Nat → Bool} {h g : AHp} (c : Ch P h g) (hp : ∀ k, 77 ≤ k → k ≤ 83 → ∀ i, P k i = false) : sameLM h g := fun k h1 h2 i => c.i (hp k h1 h2 i)
theorem sameLM.pw {h g : AHp} (c : Ch PW h g) : sameLM h g := sameLM.ch c (fun k h1 h2 i => by simp only [Bool.or_eq_false_iff, beq_eq_false_iff_ne]; omega)
theorem holdsM {h : AHp} {w i : Nat} {cl : List Clz} {q : Clz} (hL : LawM h w cl) (hw : w ≤ 1) (hq : cl[i]? = some q) (hk : okM h) : ∃ h1, m_X12_holds (nI (14 * w + i)) h = some (b2i (q.2.2.1 (momM h) = some 1), h1) ∧ Ch PW h h1 := by
  have hi : i < cl.length := (List.getElem?_eq_some_iff.mp hq).1
  have h14 := hL.1
  obtain ⟨g1, e1, c1, n1, s1⟩ := (hL.2.2 i q hq).2.1 h (fun _ _ _ => rfl) (fun _ _ _ => rfl) hk
  refine ⟨g1, ?_, c1⟩
  have gi : inb (nI (14 * w + i)) 28 := inb_nI (by omega) (by omega)
  unfold m_X12_holds
  rw [gd_pos gi, gd_pos gi, nI_clamp (by omega), e1, bd_some, show (0 : Int32).toNatClampNeg = 0 from rfl]
  cases hd : q.2.2.1 (momM h) with
  | none => rw [if_neg (n1 hd), b2i_f (by simp)]
  | some v =>
    rw [if_pos (s1 v hd).1, (s1 v hd).2]
    by_cases hv : v = 1
    · rw [if_pos hv, b2i_t (by rw [hv])]
    · rw [if_neg hv, b2i_f (by simpa using hv)]
theorem b2i_congr {p q : Prop} [Decidable p] [Decidable q] (h : p ↔ q) : b2i p = b2i q := by unfold b2i; simp only [h]
/-- whether a law lets it -/
def letsD (cl : List Clz) (e : Mom) : Bool := cl.all (fun q => !(q.1 && (q.2.2.1 e == some 1)))
theorem letsD_cons (q : Clz) (cl : List Clz) (e : Mom) : letsD (q :: cl) e = (!(q.1 && (q.2.2.1 e == some 1)) && letsD cl e) := by
  unfold letsD; rw [List.all_cons]
theorem letsM_l {w : Nat} {cl : List Clz} (hw : w ≤ 1) : ∀ (d i f : Nat) (h : AHp), LawM h w cl → okM h → i + d = cl.length → d < f → ∃ h1, m_X12_lets_5 f (nI w) (nI (14 * w + i)) h = some (if letsD (cl.drop i) (momM h) = true then 1 else 0, h1) ∧ Ch PW h h1 := by
  intro d
  induction d with
  | zero =>
    intro i f h hL hk hi hf
    obtain ⟨f, rfl⟩ : ∃ a, f = a + 1 := ⟨f - 1, by omega⟩
    have h14 := hL.1
    refine ⟨h, ?_, Ch.rf⟩
    rw [m_X12_lets_5, gd_pos (inb_nI (n := w) (N := 2) (by omega) (by omega)), nI_clamp (by omega), hL.2.1, show (14 : Int32) * nI w = nI (14 * w) from pk_mul 14 w, nI_add, if_pos (nI_le (by omega) (by omega)), List.drop_of_length_le (by omega)]
    rfl
  | succ d ih =>
    intro i f h hL hk hi hf
    obtain ⟨f, rfl⟩ : ∃ a, f = a + 1 := ⟨f - 1, by omega⟩
    have h14 := hL.1
    have hlt : i < cl.length := by omega
    obtain ⟨q, hq⟩ : ∃ q, cl[i]? = some q := ⟨cl[i], List.getElem?_eq_getElem hlt⟩
    have hdr : cl.drop i = q :: cl.drop (i + 1) := by
      rw [List.drop_eq_getElem_cons hlt]
      congr 1
      rw [List.getElem?_eq_getElem hlt] at hq
      exact Option.some.inj hq
    rw [m_X12_lets_5, gd_pos (inb_nI (n := w) (N := 2) (by omega) (by omega)), nI_clamp (by omega), hL.2.1, show (14 : Int32) * nI w = nI (14 * w) from pk_mul 14 w, nI_add, if_neg (nI_ge (by omega) (by omega)), gd_pos (inb_nI (n := 14 * w + i) (N := 28) (by omega) (by omega)), nI_clamp (n := 14 * w + i) (by omega), (hL.2.2 i q hq).1, hdr]
    simp only [lt_eq, nI_1]
    cases hb : q.1 with
    | false =>
      obtain ⟨h1, e1, c1⟩ := ih (i + 1) f h hL hk (by omega) (by omega)
      refine ⟨h1, ?_, c1⟩
      rw [if_neg (by simp)]
      rw [show 14 * w + i + 1 = 14 * w + (i + 1) by omega, e1]
      rw [letsD_cons, hb, Bool.false_and, Bool.not_false, Bool.true_and]
    | true =>
      obtain ⟨h1, e1, c1⟩ := holdsM hL hw hq hk
      rw [if_pos (by simp), e1, bd_some]
      by_cases hh : q.2.2.1 (momM h) = some 1
      · refine ⟨h1, ?_, c1⟩
        rw [b2i_t hh, if_neg one_ne, letsD_cons, hb, hh]
        rfl
      · obtain ⟨h2, e2, c2⟩ := ih (i + 1) f h1 (hL.same (sameLM.pw c1)) (okM_ch c1 hk) (by omega) (by omega)
        refine ⟨h2, ?_, c1.trans c2⟩
        rw [b2i_f hh, if_pos rfl, show 14 * w + i + 1 = 14 * w + (i + 1) by omega, e2, momM_ch c1, letsD_cons, hb, show (q.2.2.1 (momM h) == some 1) = false from beq_eq_false_iff_ne.mpr hh, Bool.and_false, Bool.not_false, Bool.true_and]
theorem letsM {w : Nat} {cl : List Clz} {h : AHp} (hw : w ≤ 1) (hL : LawM h w cl) (hk : okM h) : ∃ h1, m_X12_lets (nI w) h = some (if letsD cl (momM h) = true then 1 else 0, h1) ∧ Ch PW h h1 := by
  have h14 := hL.1
  obtain ⟨h1, e1, c1⟩ := letsM_l hw cl.length 0 FU h hL hk (by omega) (by unfold FU; omega)
  refine ⟨h1, ?_, c1⟩
  unfold m_X12_lets
  rw [lt_eq, show (14 : Int32) * nI w = nI (14 * w) from pk_mul 14 w]
  exact e1
