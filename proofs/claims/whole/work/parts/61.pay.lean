/-! what is paid -/
def clampP (o : Option Int32) : Int32 := match o with
  | none => 0
  | some v => if 0 ≤ v then (if v ≤ 999 then v else 999) else 0
def payD : List Clz → Mom → Int32
  | [], _ => 0
  | q :: cl, e => if q.1 = false ∧ q.2.2.1 e = some 1 then clampP (q.2.1 e) else payD cl e
theorem pays69 (v : Int32) (h : AHp) : m_X12_pays_69 v h = some (clampP (some v), h) := by
  unfold m_X12_pays_69 clampP
  simp only
  split
  · split <;> rfl
  · rfl
theorem paysM_l {cl : List Clz} : ∀ (d i f : Nat) (h : AHp), LawM h 0 cl → okM h → i + d = cl.length → d < f → ∃ h1, m_X12_pays_2 f (nI i) h = some (payD (cl.drop i) (momM h), h1) ∧ Ch PW h h1 := by
  intro d
  induction d with
  | zero =>
    intro i f h hL hk hi hf
    obtain ⟨f, rfl⟩ : ∃ a, f = a + 1 := ⟨f - 1, by omega⟩
    have h14 := hL.1
    refine ⟨h, ?_, Ch.rf⟩
    rw [m_X12_pays_2, show (0 : Int32).toNatClampNeg = 0 from rfl, hL.2.1, if_pos (nI_le (by omega) (by omega)), List.drop_of_length_le (by omega)]
    rfl
  | succ d ih =>
    intro i f h hL hk hi hf
    obtain ⟨f, rfl⟩ : ∃ a, f = a + 1 := ⟨f - 1, by omega⟩
    have h14 := hL.1
    have hlt : i < cl.length := by omega
    obtain ⟨q, hq⟩ : ∃ q, cl[i]? = some q := ⟨cl[i], List.getElem?_eq_getElem hlt⟩
    have hdr : cl.drop i = q :: cl.drop (i + 1) := by
      rw [List.drop_eq_getElem_cons hlt]
      congr 1
      rw [List.getElem?_eq_getElem hlt] at hq
      exact Option.some.inj hq
    have gi : inb (nI i) 28 := inb_nI (by omega) (by omega)
    have e0 : ∀ k : Nat, 14 * 0 + k = k := fun k => by omega
    obtain ⟨m1, m2, m3⟩ := hL.2.2 i q hq
    rw [e0] at m1 m2 m3
    rw [m_X12_pays_2, show (0 : Int32).toNatClampNeg = 0 from rfl, hL.2.1, if_neg (nI_ge (by omega) (by omega)), hdr]
    simp only [gd_pos gi, nI_clamp (show i < 2 ^ 31 by omega), lt_eq, nI_1]
    rw [m1]
    cases hb : q.1 with
    | true =>
      obtain ⟨h1, e1, c1⟩ := ih (i + 1) f h hL hk (by omega) (by omega)
      refine ⟨h1, ?_, c1⟩
      rw [if_neg (by simp), e1, payD, if_neg (by simp [hb])]
    | false =>
      obtain ⟨h1, e1, c1⟩ := holdsM hL (by omega) hq hk
      rw [e0] at e1
      rw [if_pos (by simp), e1, bd_some]
      by_cases hh : q.2.2.1 (momM h) = some 1
      · rw [b2i_t hh, if_neg one_ne]
        have hL1 := hL.same (sameLM.pw c1)
        obtain ⟨g1, f1, d1, n1, s1⟩ := (m3 hb).same (sameLM.pw c1) h1 (fun _ _ _ => rfl) (fun _ _ _ => rfl) (okM_ch c1 hk)
        have x1 : hI h1 79 i = hI h 79 i := c1.i rfl
        have x2 : hI h1 80 i = hI h 80 i := c1.i rfl
        rw [momM_ch c1] at n1 s1
        refine ⟨g1, ?_, c1.trans d1⟩
        have ep : payD (q :: cl.drop (i + 1)) (momM h) = clampP (q.2.1 (momM h)) := by rw [payD, if_pos ⟨hb, hh⟩]
        rw [x1, x2, f1, bd_some, ep]
        cases hd : q.2.1 (momM h) with
        | none => rw [if_neg (n1 hd), pays69]; rfl
        | some v => rw [if_pos (s1 v hd).1, (s1 v hd).2, pays69]
      · obtain ⟨h2, e2, c2⟩ := ih (i + 1) f h1 (hL.same (sameLM.pw c1)) (okM_ch c1 hk) (by omega) (by omega)
        refine ⟨h2, ?_, c1.trans c2⟩
        rw [b2i_f hh, if_pos rfl, e2, momM_ch c1, payD, if_neg (fun z => hh z.2)]
theorem paysM {cl : List Clz} {h : AHp} (hL : LawM h 0 cl) (hk : okM h) : ∃ h1, m_X12_pays h = some (payD cl (momM h), h1) ∧ Ch PW h h1 := by
  have h14 := hL.1
  exact paysM_l cl.length 0 FU h hL hk (by omega) (by unfold FU; omega)
theorem eL_self (e : Mom) : eL e (e 0) = e := by
  funext i
  unfold eL
  by_cases h : i = 0
  · rw [if_pos h, h]
  · rw [if_neg h]
theorem pay91 (j : Nat) {rg : Nat} (hr : rg < 256) (h : AHp) : m_X2_pay_91 j (nI rg) 0 h = some (clampP (some (hI h (j + 2) rg)), h) := by
  have h999 : (999 : Int32).toInt = 999 := rfl
  unfold m_X2_pay_91 clampP
  rw [if_pos rfl, gd_pos (inb_nI hr (by omega)), nI_clamp (by omega)]
  simp only [i32_lt, i32_le, tIall]
  congr 2
  repeat' split
  all_goals first | rfl | omega | (rw [i32_eq]; simp only [tIall]; omega)
theorem payC_l {h : AHp} {j : Nat} {cl : List Clz} {Kc : Nat → Prop} {kv : Nat → Int32} {e : Mom} (hL : LawC h j cl Kc kv) :
    ∀ (d i f : Nat) (g : AHp), i + d = cl.length → d < f → GI h j Kc kv e g → hI g (j + 2) 0 = e 0 → ∃ g1, m_X2_pay_14 j f (nI i) g = some (payD (cl.drop i) e, g1) ∧ GI h j Kc kv e g1 := by
  have h14 := hL.2.1
  intro d
  induction d with
  | zero =>
    intro i f g hi hf hg h0
    obtain ⟨f, rfl⟩ : ∃ a, f = a + 1 := ⟨f - 1, by omega⟩
    refine ⟨g, ?_, hg⟩
    rw [m_X2_pay_14, hg.o (by omega), hL.2.2.1, if_pos (nI_le (by omega) (by omega)), List.drop_of_length_le (by omega)]
    rfl
  | succ d ih =>
    intro i f g hi hf hg h0
    obtain ⟨f, rfl⟩ : ∃ a, f = a + 1 := ⟨f - 1, by omega⟩
    have hlt : i < cl.length := by omega
    obtain ⟨q, hq⟩ : ∃ q, cl[i]? = some q := ⟨cl[i], List.getElem?_eq_getElem hlt⟩
    have hdr : cl.drop i = q :: cl.drop (i + 1) := by
      rw [List.drop_eq_getElem_cons hlt]
      congr 1
      rw [List.getElem?_eq_getElem hlt] at hq
      exact Option.some.inj hq
    have gi : inb (nI i) 14 := inb_nI (by omega) (by omega)
    obtain ⟨m1, m2, m3, m4, m5⟩ := hL.2.2.2.2.2 i q hq
    have full : ∀ g2, GI h j Kc kv e g2 → hI g2 (j + 2) 0 = e 0 → ∀ i, i < 9 → hI g2 (j + 2) i = e i := fun g2 hg2 z i hi => by
      by_cases hz : i = 0
      · rw [hz, z]
      · exact hg2.2.2 i (by omega) hi
    rw [m_X2_pay_14, hg.o (by omega), hL.2.2.1, if_neg (nI_ge (by omega) (by omega)), if_neg (by exact nI_ge (a := i) (b := 14) (by omega) (by omega)), hdr]
    simp only [gd_pos gi, nI_clamp (show i < 2 ^ 31 by omega), lt_eq, nI_1]
    rw [hg.o (k := j + 6) (by omega)]
    cases hb : q.1 with
    | true =>
      rw [m4 hb, if_pos (by decide), payD, if_neg (by simp [hb])]
      exact ih (i + 1) f g (by omega) (by omega) hg h0
    | false =>
      obtain ⟨rg, r1, r2, r3⟩ := m5 hb
      rw [r2, if_neg (nI_pos (by omega)), if_neg (by exact nI_ge (a := rg) (b := 256) (by omega) (by omega)), hg.o (k := j + 4) (by omega), hg.o (k := j + 5) (by omega)]
      obtain ⟨x, g1, e1, c1, k1, t1, n1, s1⟩ := m3 g e (fun i => hg.o (by omega) i) hg.2.1 (full g hg h0)
      have hg1 : GI h j Kc kv e g1 := ⟨hg.1.trans c1, k1, fun i _ h2 => t1 i h2⟩
      have h01 : hI g1 (j + 2) 0 = e 0 := t1 0 (by omega)
      rw [e1, bd_some]
      by_cases hh : q.2.2.1 e = some 1
      · rw [if_pos (s1 1 hh), payD, if_pos ⟨hb, hh⟩, hg1.o (k := j + 3) (by omega), hg1.o (k := j + 4) (by omega)]
        obtain ⟨y, g2, e2, c2, k2, t2, n2, s2⟩ := r3 g1 e (fun i => hg1.o (by omega) i) hg1.2.1 (full g1 hg1 h01)
        refine ⟨g2, ?_, ⟨hg1.1.trans c2, k2, fun i _ h2 => t2 i h2⟩⟩
        rw [e2, bd_some]
        cases hd : q.2.1 e with
        | none => rw [if_pos (n2 hd)]; rfl
        | some v => rw [if_neg (s2 v hd).1, pay91 j r1, (s2 v hd).2]
      · have hx : ¬ x = 1 := by
          cases hd : q.2.2.1 e with
          | none => rw [n1 hd]; decide
          | some v => rw [s1 v hd]; intro hv; exact hh (by rw [hd, hv])
        rw [if_neg hx, payD, if_neg (fun z => hh z.2)]
        exact ih (i + 1) f g1 (by omega) (by omega) hg1 h01
theorem payC {h : AHp} {j : Nat} {cl : List Clz} {Kc : Nat → Prop} {kv : Nat → Int32} (hL : LawC h j cl Kc kv) : ∃ h1, m_X2_pay j h = some (payD cl (hI h 6), h1) ∧ Ch (PR j) h h1 ∧ LawC h1 j cl Kc kv := by
  have h14 := hL.2.1
  have hKc := hL.2.2.2.2.1
  have hg : GI h j Kc kv (hI h 6) (sR h (j + 2) (va_cpy (hI h 6) (hI h (j + 2)) 0 0 9)) := by
    refine ⟨Ch.rf.sR (fun i => by simp), fun r hr => ?_, fun i h1 h2 => ?_⟩
    · rw [hI_sR, if_pos rfl, cpyN, if_neg (by have := (hKc r hr).1; omega)]; exact (hKc r hr).2
    · rw [hI_sR, if_pos rfl, cpyN, if_pos h2]
  obtain ⟨g1, e1, q1⟩ := payC_l (e := hI h 6) hL cl.length 0 FU _ (by omega) (by unfold FU; omega) hg (by rw [hI_sR, if_pos rfl, cpyN, if_pos (by omega)])
  refine ⟨g1, ?_, q1.1, hL.next (fun k _ _ hk i => q1.o hk i) q1.2.1⟩
  unfold m_X2_pay
  rw [lt_eq]
  exact e1
