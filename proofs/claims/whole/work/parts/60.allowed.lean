/-! the class's laws by what they mean -/
abbrev PR (j : Nat) : Nat → Nat → Bool := fun k _ => k == j + 2
def SegC (h : AHp) (j : Nat) (Kc : Nat → Prop) (kv : Nat → Int32) (a b : Int32) (D : Mom → Option Int32) : Prop := ∀ (g : AHp) (e : Mom), (∀ i, hI g (j + 1) i = hI h (j + 1) i) → (∀ r, Kc r → hI g (j + 2) r = kv r) → (∀ i, i < 9 → hI g (j + 2) i = e i) →
  ∃ x g1, m_X2_run j a b g = some (x, g1) ∧ Ch (PR j) g g1 ∧ (∀ r, Kc r → hI g1 (j + 2) r = kv r) ∧ (∀ i, i < 9 → hI g1 (j + 2) i = e i) ∧ (D e = none → x = -1) ∧ ∀ v, D e = some v → x = v
/-- for a price: the register in which it stands -/
def SegP (h : AHp) (j : Nat) (Kc : Nat → Prop) (kv : Nat → Int32) (a b : Int32) (rg : Nat) (D : Mom → Option Int32) : Prop := ∀ (g : AHp) (e : Mom), (∀ i, hI g (j + 1) i = hI h (j + 1) i) → (∀ r, Kc r → hI g (j + 2) r = kv r) → (∀ i, i < 9 → hI g (j + 2) i = e i) →
  ∃ x g1, m_X2_run j a b g = some (x, g1) ∧ Ch (PR j) g g1 ∧ (∀ r, Kc r → hI g1 (j + 2) r = kv r) ∧ (∀ i, i < 9 → hI g1 (j + 2) i = e i) ∧ (D e = none → x = -1) ∧ ∀ v, D e = some v → ¬ x = -1 ∧ hI g1 (j + 2) rg = v
/-- a condition asks the letters of its mask alone -/
def depOn (D : Mom → Option Int32) (m : Int32) : Prop := ∀ e e2 : Mom, (∀ i, i < 9 → tb m i = true → e i = e2 i) → D e = D e2
def dep9 (D : Mom → Option Int32) : Prop := ∀ e e2 : Mom, (∀ i, i < 9 → e i = e2 i) → D e = D e2
def maskB (cl : List Clz) : Int32 := cl.foldl (fun a q => if q.1 = true then a ||| q.2.2.2 else a) 0
def LawC (h : AHp) (j : Nat) (cl : List Clz) (Kc : Nat → Prop) (kv : Nat → Int32) : Prop := isLaw j ∧ cl.length ≤ 14 ∧ hI h j 9 = nI cl.length ∧ hI h j 11 = maskB cl ∧ (∀ r, Kc r → 9 ≤ r ∧ hI h (j + 2) r = kv r) ∧
  ∀ (i : Nat) (q : Clz), cl[i]? = some q → hI h (j + 7) i = q.2.2.2 ∧ (depOn q.2.2.1 q.2.2.2 ∧ dep9 q.2.1) ∧ SegC h j Kc kv (hI h (j + 4) i) (hI h (j + 5) i) q.2.2.1 ∧ (q.1 = true → hI h (j + 6) i = -1) ∧ (q.1 = false → ∃ rg, rg < 256 ∧ hI h (j + 6) i = nI rg ∧ SegP h j Kc kv (hI h (j + 3) i) (hI h (j + 4) i) rg q.2.1)
def eL (e : Mom) (l : Int32) : Mom := fun i => if i = 0 then l else e i
/-- the picture while a law is asked -/
def GI (h : AHp) (j : Nat) (Kc : Nat → Prop) (kv : Nat → Int32) (e : Mom) (g : AHp) : Prop := Ch (PR j) h g ∧ (∀ r, Kc r → hI g (j + 2) r = kv r) ∧ ∀ i, 1 ≤ i → i < 9 → hI g (j + 2) i = e i
theorem GI.o {h g : AHp} {j : Nat} {Kc : Nat → Prop} {kv : Nat → Int32} {e : Mom} (x : GI h j Kc kv e g) {k : Nat} (hk : k ≠ j + 2) (i : Nat) : hI g k i = hI h k i := x.1.i (by simpa using hk)
theorem runC {h g : AHp} {j i : Nat} {cl : List Clz} {q : Clz} {Kc : Nat → Prop} {kv : Nat → Int32} {e : Mom} (hL : LawC h j cl Kc kv) (hq : cl[i]? = some q) (hg : GI h j Kc kv e g) : ∃ x g1, m_X2_run j (hI g (j + 4) i) (hI g (j + 5) i) g = some (x, g1) ∧ GI h j Kc kv e g1 ∧ (x = 1 ↔ q.2.2.1 (eL e (hI g (j + 2) 0)) = some 1) := by
  obtain ⟨l1, l2, l3, l4, l5, l6⟩ := hL
  obtain ⟨-, -, sg, -, -⟩ := l6 i q hq
  obtain ⟨x, g1, e1, c1, k1, r1, n1, s1⟩ := sg g (eL e (hI g (j + 2) 0)) (fun i => hg.o (by omega) i) hg.2.1 (fun i hi => by
    unfold eL
    by_cases h0 : i = 0
    · rw [if_pos h0, h0]
    · rw [if_neg h0]; exact hg.2.2 i (by omega) hi)
  rw [hg.o (by omega), hg.o (by omega)]
  refine ⟨x, g1, e1, ⟨hg.1.trans c1, k1, fun i h1 h2 => by rw [r1 i h2]; unfold eL; rw [if_neg (by omega)]⟩, ?_⟩
  cases hd : q.2.2.1 (eL e (hI g (j + 2) 0)) with
  | none => rw [n1 hd]; simp
  | some v => rw [s1 v hd]; simp
theorem GI.l {h g : AHp} {j : Nat} {Kc : Nat → Prop} {kv : Nat → Int32} {e : Mom} (hKc : ∀ r, Kc r → 9 ≤ r) (x : GI h j Kc kv e g) (l : Int32) : GI h j Kc kv e (sI g (j + 2) 0 l) := by
  refine ⟨x.1.sI (by simp), fun r hr => ?_, fun i h1 h2 => ?_⟩
  · rw [hI_sI, if_neg (by have := hKc r hr; omega)]; exact x.2.1 r hr
  · rw [hI_sI, if_neg (by omega)]; exact x.2.2 i h1 h2
theorem tb_clear (x : Int32) {l k : Nat} (hl : l < 32) (hk : k < 32) : tb (x &&& (((1 : Int32) <<< (nI l &&& 31)) ^^^ (-1))) k = (tb x k && !decide (k = l)) := by
  rw [tb_and, tb_xor, tb_bit hl hk, tb_m1 hk]; simp
theorem a111_l {h : AHp} {j i : Nat} {cl : List Clz} {q : Clz} {Kc : Nat → Prop} {kv : Nat → Int32} {e : Mom} (hL : LawC h j cl Kc kv) (hq : cl[i]? = some q) (hi : i < 14) (k17 : Int32 → Int32 → AHp → Option (Int32 × AHp)) :
    ∀ (d l f : Nat) (x3 : Int32) (g : AHp), l + d = 25 → 1 ≤ l → d < f → GI h j Kc kv e g → ∃ x g1, m_X2_allowed_111 j k17 f x3 (nI i) 1 1 (nI l) g = k17 x (nI (i + 1)) g1 ∧ GI h j Kc kv e g1 ∧ ∀ k, k < 32 → tb x k = (tb x3 k && !(decide (l ≤ k ∧ k ≤ 24) && (q.2.2.1 (eL e (nI k)) == some 1))) := by
  have hKc : ∀ r, Kc r → 9 ≤ r := fun r hr => (hL.2.2.2.2.1 r hr).1
  intro d
  induction d with
  | zero =>
    intro l f x3 g hl h1 hf hg
    obtain ⟨f, rfl⟩ : ∃ a, f = a + 1 := ⟨f - 1, by omega⟩
    have hl25 : l = 25 := by omega
    subst hl25
    refine ⟨x3, g, ?_, hg, fun k hk => ?_⟩
    · rw [m_X2_allowed_111, if_neg one_ne, if_neg one_ne, if_pos (by decide), lt_eq, nI_1]
    · rw [decide_eq_false (by omega)]; simp
  | succ d ih =>
    intro l f x3 g hl h1 hf hg
    obtain ⟨f, rfl⟩ : ∃ a, f = a + 1 := ⟨f - 1, by omega⟩
    have gi : inb (nI i) 14 := inb_nI (by omega) (by omega)
    have hg4 := hg.l hKc (nI l)
    have e0 : hI (sI g (j + 2) 0 (nI l)) (j + 2) 0 = nI l := by simp [hI_sI]
    rw [m_X2_allowed_111, if_neg one_ne, if_neg one_ne, if_neg (by exact nI_nlt (a := 24) (b := l) (by omega) (by omega)), lt_eq, show (0 : Int32).toNatClampNeg = 0 from rfl, has_iff x3 (by omega)]
    simp only [lt_eq, nI_1, gd_pos gi, nI_clamp (show i < 2 ^ 31 by omega)]
    have step : ∀ (x2 : Int32) (g2 : AHp), GI h j Kc kv e g2 → (∀ k, k < 32 → tb x2 k = (tb x3 k && !(decide (k = l) && (q.2.2.1 (eL e (nI k)) == some 1)))) → ∃ x g1, m_X2_allowed_111 j k17 f x2 (nI i) 1 1 (nI (l + 1)) g2 = k17 x (nI (i + 1)) g1 ∧ GI h j Kc kv e g1 ∧ ∀ k, k < 32 → tb x k = (tb x3 k && !(decide (l ≤ k ∧ k ≤ 24) && (q.2.2.1 (eL e (nI k)) == some 1))) := by
      intro x2 g2 hg2 hx2
      obtain ⟨x, g1, e1, q1, b1⟩ := ih (l + 1) f x2 g2 (by omega) (by omega) (by omega) hg2
      refine ⟨x, g1, e1, q1, fun k hk => ?_⟩
      rw [b1 k hk, hx2 k hk]
      by_cases hkl : k = l
      · subst hkl
        rw [decide_eq_false (show ¬ (k + 1 ≤ k ∧ k ≤ 24) by omega), decide_eq_true (show k ≤ k ∧ k ≤ 24 by omega)]; simp
      · rw [decide_eq_false hkl, show decide (l + 1 ≤ k ∧ k ≤ 24) = decide (l ≤ k ∧ k ≤ 24) from decide_eq_decide.mpr (by omega)]; simp
    cases hb : tb x3 l with
    | false =>
      rw [i01_f, if_pos rfl]
      refine step x3 _ hg4 (fun k hk => ?_)
      by_cases hkl : k = l
      · subst hkl; simp [hb]
      · rw [decide_eq_false hkl]; simp
    | true =>
      rw [i01_t, if_neg one_ne]
      obtain ⟨x, g1, e1, q1, i1⟩ := runC hL hq hg4
      rw [e0] at i1
      rw [e1, bd_some]
      by_cases hx : x = 1
      · rw [if_pos hx]
        refine step _ g1 q1 (fun k hk => ?_)
        rw [tb_clear _ (by omega) hk]
        by_cases hkl : k = l
        · subst hkl; rw [i1.mp hx]; simp
        · rw [decide_eq_false hkl]; simp
      · rw [if_neg hx]
        refine step _ g1 q1 (fun k hk => ?_)
        by_cases hkl : k = l
        · subst hkl
          rw [show (q.2.2.1 (eL e (nI k)) == some 1) = false from beq_eq_false_iff_ne.mpr (fun z => hx (i1.mpr z))]; simp
        · rw [decide_eq_false hkl]; simp
theorem tb_first (x : Int32) : (x &&& 1 = 0) ↔ tb x 0 = false := by
  have e := has_iff x (s := 0) (by omega)
  have e2 : x >>> (nI 0 &&& 31) = x := by
    apply Int32.toBitVec_inj.mp
    rw [shr_bv (by omega)]; simp
  rw [e2] at e
  rw [e]
  cases tb x 0 <;> simp
theorem a17_l {h : AHp} {j : Nat} {cl : List Clz} {Kc : Nat → Prop} {kv : Nat → Int32} {e : Mom} (hL : LawC h j cl Kc kv) :
    ∀ (d i f : Nat) (x3 : Int32) (g : AHp), i + d = cl.length → d < f → (∀ k, k < 32 → tb x3 k = true → 1 ≤ k ∧ k ≤ 24) → GI h j Kc kv e g → ∃ x g1, m_X2_allowed_17 j f x3 (nI i) g = some (x, g1) ∧ GI h j Kc kv e g1 ∧ ∀ k, k < 32 → tb x k = (tb x3 k && letsD (cl.drop i) (eL e (nI k))) := by
  have h14 := hL.2.1
  intro d
  induction d with
  | zero =>
    intro i f x3 g hi hf hx hg
    obtain ⟨f, rfl⟩ : ∃ a, f = a + 1 := ⟨f - 1, by omega⟩
    refine ⟨x3, g, ?_, hg, fun k hk => ?_⟩
    · rw [m_X2_allowed_17, hg.o (by omega), hL.2.2.1, if_pos (nI_le (by omega) (by omega))]
    · rw [List.drop_of_length_le (by omega)]; simp [letsD]
  | succ d ih =>
    intro i f x3 g hi hf hx hg
    obtain ⟨f, rfl⟩ : ∃ a, f = a + 1 := ⟨f - 1, by omega⟩
    have hlt : i < cl.length := by omega
    obtain ⟨q, hq⟩ : ∃ q, cl[i]? = some q := ⟨cl[i], List.getElem?_eq_getElem hlt⟩
    have hdr : cl.drop i = q :: cl.drop (i + 1) := by
      rw [List.drop_eq_getElem_cons hlt]
      congr 1
      rw [List.getElem?_eq_getElem hlt] at hq
      exact Option.some.inj hq
    have gi : inb (nI i) 14 := inb_nI (by omega) (by omega)
    rw [m_X2_allowed_17, hg.o (by omega), hL.2.2.1, if_neg (nI_ge (by omega) (by omega)), if_neg (by exact nI_ge (a := i) (b := 14) (by omega) (by omega))]
    by_cases hz : x3 = 0
    · rw [if_pos hz]
      refine ⟨x3, g, rfl, hg, fun k hk => ?_⟩
      rw [hz, tb_zero, Bool.false_and]
    rw [if_neg hz, gd_pos gi, nI_clamp (by omega), hg.o (by omega)]
    obtain ⟨m1, m2, m3, m4, m5⟩ := hL.2.2.2.2.2 i q hq
    /- behind the clause -/
    have next : ∀ (x2 : Int32) (g2 : AHp), GI h j Kc kv e g2 → (∀ k, k < 32 → tb x2 k = (tb x3 k && !(q.1 && (q.2.2.1 (eL e (nI k)) == some 1)))) → ∃ x g1, m_X2_allowed_17 j f x2 (nI (i + 1)) g2 = some (x, g1) ∧ GI h j Kc kv e g1 ∧ ∀ k, k < 32 → tb x k = (tb x3 k && letsD (cl.drop i) (eL e (nI k))) := by
      intro x2 g2 hg2 hx2
      obtain ⟨x, g1, e1, q1, b1⟩ := ih (i + 1) f x2 g2 (by omega) (by omega) (fun k hk ht => hx k hk (by rw [hx2 k hk] at ht; simp at ht; exact ht.1)) hg2
      refine ⟨x, g1, e1, q1, fun k hk => ?_⟩
      rw [b1 k hk, hx2 k hk, hdr, letsD_cons, Bool.and_assoc]
    cases hb : q.1 with
    | false =>
      obtain ⟨rg, r1, r2, -⟩ := m5 hb
      rw [r2, if_neg (nI_ne_m1 (by omega))]
      have e1 : ∀ s0, m_X2_allowed_72 j (m_X2_allowed_17 j f) x3 (nI i) 0 s0 g = m_X2_allowed_17 j f x3 (nI (i + 1)) g := fun s0 => by
        unfold m_X2_allowed_72 FU
        rw [if_pos rfl, m_X2_allowed_111, if_pos rfl, lt_eq, nI_1]
      unfold m_X2_allowed_53
      rw [gd_pos gi, e1, e1]
      rw [ite_self]
      exact next x3 g hg (fun k hk => by rw [hb]; simp)
    | true =>
      rw [m4 hb, if_pos rfl]
      unfold m_X2_allowed_53
      rw [gd_pos gi, nI_clamp (by omega), hg.o (by omega), m1]
      by_cases hm : q.2.2.2 &&& 1 = 0
      · rw [if_pos hm]
        obtain ⟨x, g1, e1, q1, i1⟩ := runC hL hq hg
        have hd : ∀ l1 l2 : Int32, q.2.2.1 (eL e l1) = q.2.2.1 (eL e l2) := fun l1 l2 => m2.1 _ _ (fun i hi ht => by
          unfold eL
          by_cases h0 : i = 0
          · rw [h0, (tb_first _).mp hm] at ht; cases ht
          · rw [if_neg h0, if_neg h0])
        have e2 : ∀ x2 g2, m_X2_allowed_111 j (m_X2_allowed_17 j f) FU x2 (nI i) 1 0 1 g2 = m_X2_allowed_17 j f x2 (nI (i + 1)) g2 := fun x2 g2 => by
          unfold FU
          rw [m_X2_allowed_111, if_neg one_ne, if_pos rfl, lt_eq, nI_1]
        unfold m_X2_allowed_72
        rw [if_neg one_ne, if_pos rfl, gd_pos gi, gd_pos gi, nI_clamp (by omega), e1, bd_some, e2, e2]
        by_cases hx1 : x = 1
        · rw [if_pos hx1]
          refine next 0 g1 q1 (fun k hk => ?_)
          rw [tb_zero, hb, hd (nI k) (hI g (j + 2) 0), i1.mp hx1]; simp
        · rw [if_neg hx1]
          refine next x3 g1 q1 (fun k hk => ?_)
          rw [hb, hd (nI k) (hI g (j + 2) 0), show (q.2.2.1 (eL e (hI g (j + 2) 0)) == some 1) = false from beq_eq_false_iff_ne.mpr (fun z => hx1 (i1.mpr z))]; simp
      · rw [if_neg hm]
        unfold m_X2_allowed_72
        rw [if_neg one_ne, if_neg one_ne]
        obtain ⟨x, g1, e1, q1, b1⟩ := a111_l hL hq (by omega) (m_X2_allowed_17 j f) 24 1 FU x3 g (by omega) (by omega) (by unfold FU; omega) hg
        rw [show m_X2_allowed_111 j (m_X2_allowed_17 j f) FU x3 (nI i) 1 1 1 g = _ from e1]
        refine next x g1 q1 (fun k hk => ?_)
        rw [b1 k hk, hb]
        by_cases ht : tb x3 k = true
        · rw [decide_eq_true (hx k hk ht)]
        · simp at ht; rw [ht]; simp
theorem LawC.next {h g : AHp} {j : Nat} {cl : List Clz} {Kc : Nat → Prop} {kv : Nat → Int32} (hL : LawC h j cl Kc kv) (c : ∀ k, j ≤ k → k ≤ j + 7 → k ≠ j + 2 → ∀ i, hI g k i = hI h k i) (hr : ∀ r, Kc r → hI g (j + 2) r = kv r) : LawC g j cl Kc kv := by
  obtain ⟨l1, l2, l3, l4, l5, l6⟩ := hL
  refine ⟨l1, l2, by rw [c j (by omega) (by omega) (by omega)]; exact l3, by rw [c j (by omega) (by omega) (by omega)]; exact l4, fun r hk => ⟨(l5 r hk).1, hr r hk⟩, fun i q hq => ?_⟩
  obtain ⟨m1, m2, m3, m4, m5⟩ := l6 i q hq
  have e1 : ∀ i, hI g (j + 1) i = hI h (j + 1) i := c (j + 1) (by omega) (by omega) (by omega)
  rw [c (j + 7) (by omega) (by omega) (by omega), c (j + 4) (by omega) (by omega) (by omega), c (j + 5) (by omega) (by omega) (by omega), c (j + 6) (by omega) (by omega) (by omega), c (j + 3) (by omega) (by omega) (by omega)]
  refine ⟨m1, m2, fun g2 e h1 => m3 g2 e (fun i => by rw [h1, e1]), m4, fun hb => ?_⟩
  obtain ⟨rg, r1, r2, r3⟩ := m5 hb
  exact ⟨rg, r1, r2, fun g2 e h1 => r3 g2 e (fun i => by rw [h1, e1])⟩
theorem allowedC {h : AHp} {j : Nat} {cl : List Clz} {Kc : Nat → Prop} {kv : Nat → Int32} (hL : LawC h j cl Kc kv) (x : Int32) (hx : ∀ k, k < 32 → tb x k = true → 1 ≤ k ∧ k ≤ 24) : ∃ r h1, m_X2_allowed j x h = some (r, h1) ∧ Ch (PR j) h h1 ∧ LawC h1 j cl Kc kv ∧ ∀ k, k < 32 → tb r k = (tb x k && letsD cl (eL (hI h 6) (nI k))) := by
  have h14 := hL.2.1
  have hKc := hL.2.2.2.2.1
  have hg : GI h j Kc kv (hI h 6) (sR h (j + 2) (va_cpy (hI h 6) (hI h (j + 2)) 0 0 9)) := by
    refine ⟨Ch.rf.sR (fun i => by simp), fun r hr => ?_, fun i h1 h2 => ?_⟩
    · rw [hI_sR, if_pos rfl, cpyN, if_neg (by have := (hKc r hr).1; omega)]; exact (hKc r hr).2
    · rw [hI_sR, if_pos rfl, cpyN, if_pos h2]
  obtain ⟨r, g1, e1, q1, b1⟩ := a17_l (e := hI h 6) hL cl.length 0 FU x _ (by omega) (by unfold FU; omega) hx hg
  refine ⟨r, g1, ?_, q1.1, hL.next (fun k _ _ hk i => q1.o hk i) q1.2.1, fun k hk => ?_⟩
  · unfold m_X2_allowed
    rw [lt_eq]
    exact e1
  · rw [b1 k hk, List.drop_zero]
theorem depOn.nine {D : Mom → Option Int32} {m : Int32} (h : depOn D m) : dep9 D := fun e e2 he => h e e2 (fun i hi _ => he i hi)
theorem letsD_nine {h : AHp} {j : Nat} {cl : List Clz} {Kc : Nat → Prop} {kv : Nat → Int32} (hL : LawC h j cl Kc kv) {e e2 : Mom} (he : ∀ i, i < 9 → e i = e2 i) : letsD cl e = letsD cl e2 := by
  have hd : ∀ q ∈ cl, q.2.2.1 e = q.2.2.1 e2 := fun q hq => by
    obtain ⟨i, hi⟩ := List.mem_iff_getElem?.mp hq
    exact (hL.2.2.2.2.2 i q hi).2.1.1.nine e e2 he
  unfold letsD
  rw [Bool.eq_iff_iff, List.all_eq_true, List.all_eq_true]
  constructor
  · intro a q hq; rw [← hd q hq]; exact a q hq
  · intro a q hq; rw [hd q hq]; exact a q hq
