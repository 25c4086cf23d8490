/-! rounds: the class's following and thinning -/
def FR (E : En) (t s a b l : Nat) : Bool := decide (l < 32) && (tb (E.siz t) l && E.ok 1 (nI s) (nI t) (nI a) (nI b) (nI (1 - s)) (nI E.m) l)
theorem FR_b {E : En} {t : Nat} (ht : t ≤ 11) : ∀ s a b l, FR E t s a b l = true → (1 ≤ l ∧ l ≤ 24) ∧ l < 32 := fun s a b l h => by
  unfold FR at h
  rw [Bool.and_eq_true, Bool.and_eq_true, decide_eq_true_eq] at h
  exact ⟨E.hsz t (by omega) l h.1 h.2.1, h.1⟩
theorem FR_siz {E : En} {t s a b l : Nat} (h : FR E t s a b l = true) : tb (E.siz t) l = true := by
  unfold FR at h
  rw [Bool.and_eq_true, Bool.and_eq_true] at h
  exact h.2.1
def qA (E : En) : Bool := tb (E.msk 1) 4
def qB (E : En) : Bool := tb (E.msk 1) 5
theorem FR_dep {E : En} {t : Nat} {g : AHp} (x : CX E g) (s a b a2 b2 l : Nat) (h4 : qA E = true → a = a2) (h5 : qB E = true → b = b2) : FR E t s a b l = FR E t s a2 b2 l := by
  unfold FR
  rw [show E.ok 1 (nI s) (nI t) (nI a) (nI b) (nI (1 - s)) (nI E.m) l = E.ok 1 (nI s) (nI t) (nI a2) (nI b2) (nI (1 - s)) (nI E.m) l from x.dep (fun i hi hb => mo_ab (fun z => by rw [z] at hb; rw [h4 hb]) (fun z => by rw [z] at hb; rw [h5 hb]))]
def keyR (E : En) (s a b : Nat) : Nat := s * 625 + (if qA E = true then a * 25 else 0) + (if qB E = true then b else 0)
/-- below 1250: what may follow; beyond: no way on for the start that is told -/
def GR (E : En) (t : Nat) (key : Nat) (v : Int32) : Prop := (key < 1250 → ∀ j, j < 32 → tb v j = FR E t (key / 625) (key % 625 / 25) (key % 25) j) ∧ (1250 ≤ key → ∀ n r0 r1, n ≤ 6 → r0 ≤ 24 → r1 ≤ 24 → v = nI (n * 625 + r0 * 25 + r1) → ext (FR E t) r0 r1 (n - (key - 1250) / 625) ((key - 1250) / 625) ((key - 1250) % 625 / 25) ((key - 1250) % 25) = false)
def RdX (E : En) (t : Nat) (g : AHp) : Prop := hI g 67 4 = nI t ∧ hI g 67 5 = nI E.m ∧ hI g 67 7 = (if qA E = true then 1 else 0) ∧ hI g 67 8 = (if qB E = true then 1 else 0)
theorem RdX.ch {P : Nat → Nat → Bool} {E : En} {t : Nat} {h g : AHp} (x : RdX E t h) (c : Ch P h g) (hp : P 67 4 = false ∧ P 67 5 = false ∧ P 67 7 = false ∧ P 67 8 = false) : RdX E t g := by
  unfold RdX at x ⊢
  rw [c.i hp.1, c.i hp.2.1, c.i hp.2.2.1, c.i hp.2.2.2]; exact x
theorem folC {E : En} {t c s a b : Nat} {g : AHp} (ht : t ≤ 11) (hs : s ≤ 1) (ha : a ≤ 24) (hb : b ≤ 24) (x : CX E g) (rx : RdX E t g) (mg : MG g c (GR E t)) : ∃ y g1, m_X5_following (nI s) (nI a) (nI b) g = some (y, g1) ∧ (∀ j, j < 32 → tb y j = FR E t s a b j) ∧ CX E g1 ∧ MG g1 c (GR E t) ∧ Ch PV g g1 := by
  have hm := E.hm
  have hkb : keyR E s a b < 1250 := by
    unfold keyR
    have h1 : (if qA E = true then a * 25 else 0) ≤ 600 := by split <;> omega
    have h2 : (if qB E = true then b else 0) ≤ 24 := by split <;> omega
    omega
  have hkd : keyR E s a b / 625 = s ∧ keyR E s a b % 625 / 25 = (if qA E = true then a else 0) ∧ keyR E s a b % 25 = (if qB E = true then b else 0) := by
    unfold keyR
    cases qA E <;> cases qB E <;> simp only [if_true, if_neg (show ¬ (false = true) by simp)] <;> omega
  have hR : ∀ v, GR E t (keyR E s a b) v ↔ ∀ j, j < 32 → tb v j = FR E t s a b j := fun v => by
    unfold GR
    rw [hkd.1, hkd.2.1, hkd.2.2]
    have hd : ∀ j, FR E t s (if qA E = true then a else 0) (if qB E = true then b else 0) j = FR E t s a b j := fun j => FR_dep x s _ _ a b j (fun z => by rw [if_pos z]) (fun z => by rw [if_pos z])
    constructor
    · intro h j hj; rw [h.1 hkb j hj, hd j]
    · intro h; exact ⟨fun _ j hj => by rw [h j hj, hd j], fun h2 => by omega⟩
  have e33 : m_X5_following (nI s) (nI a) (nI b) g = (bd (m_X3_has (nI (keyR E s a b)) g) fun r2 h3 => (if r2 = 0 then (bd (m_X9_stand (nI a) (nI b) (1 - nI s) (hI h3 67 5) h3) fun r4 h5 => (bd (m_X9_sizesOf (hI h5 67 4) h5) fun r6 h7 => (bd (m_X9_lets 1 (nI s) (hI h5 67 4) r6 h7) fun r8 h9 => (bd (m_X3_put (nI (keyR E s a b)) r8 h9) fun r10 h11 => (some (r8, h11)))))) else (bd (m_X3_get (nI (keyR E s a b)) h3) fun r12 h13 => (some (r12, h13))))) := by
    obtain ⟨-, -, s7, s8⟩ := rx
    unfold m_X5_following m_X5_following_33 keyR
    rw [s7, s8, show nI s * 625 = nI (s * 625) from pk_mul s 625, show nI a * 25 = nI (a * 25) from pk_mul a 25]
    cases hA : qA E with
    | false =>
      rw [i01_f, if_pos rfl]
      cases hB : qB E with
      | false => rw [i01_f, if_pos rfl, lt_eq, show nI (s * 625) + 0 = nI (s * 625 + 0) from nI_add _ 0, show nI (s * 625 + 0) + 0 = nI (s * 625 + 0 + 0) from nI_add _ 0]; rfl
      | true => rw [i01_t, if_neg one_ne, lt_eq, show nI (s * 625) + 0 = nI (s * 625 + 0) from nI_add _ 0, nI_add]; rfl
    | true =>
      rw [i01_t, if_neg one_ne]
      cases hB : qB E with
      | false => rw [i01_f, if_pos rfl, lt_eq, nI_add, show nI (s * 625 + a * 25) + 0 = nI (s * 625 + a * 25 + 0) from nI_add _ 0]; rfl
      | true => rw [i01_t, if_neg one_ne, lt_eq, nI_add, nI_add]; rfl
  rw [e33]
  rcases mg.hd (show keyR E s a b < 12500 by omega) with hh | ⟨v, hv, -, hh, hget⟩
  rotate_left
  · refine ⟨v, g, ?_, (hR v).mp hv, x, mg, Ch.rf⟩
    rw [hh, bd_some, if_neg one_ne, hget, bd_some]
  have e1s : (1 : Int32) - nI s = nI (1 - s) := pk_sub (a := 1) (b := s) hs
  have hss : 0 ≤ (nI s).toInt ∧ (nI s).toInt ≤ 5 := by rw [nI_toInt (by omega)]; omega
  have hrr : -1 ≤ (nI (1 - s)).toInt ∧ (nI (1 - s)).toInt ≤ 5 := by rw [nI_toInt (by omega)]; omega
  have htt : 0 ≤ (nI t).toInt ∧ (nI t).toInt ≤ 11 := by rw [nI_toInt (by omega)]; omega
  have ect : (nI t).toNatClampNeg = t := nI_clamp (by omega)
  obtain ⟨es, cs, xs, ss⟩ := x.stand (nI a) (nI b) (nI (1 - s)) (nI E.m)
  obtain ⟨y, g1, e1, c1, x1, s1, q1⟩ := xs.ask ss 1 (nI t) hss hrr (E.siz t) (fun j hj hb => E.hsz t (by omega) j hj hb)
  have c01 := cs.trans (PCl_PC c1)
  have hy : ∀ j, j < 32 → tb y j = FR E t s a b j := fun j hj => by rw [q1 j hj]; unfold FR; rw [decide_eq_true hj, Bool.true_and]
  obtain ⟨g2, e3, m2, -, -, c2⟩ := (mg.ch c01 rfl (fun _ => rfl)).put (show keyR E s a b < 12500 by omega) ((hR y).mpr hy)
  refine ⟨y, g2, ?_, hy, x1.po (c32_po c2), m2, (pc_pv c01).trans (c32_pv c2)⟩
  rw [hh, bd_some, if_pos rfl, rx.2.1, e1s, es, bd_some]
  rw [show hI (stH g (nI a) (nI b) (nI (1 - s)) (nI E.m)) 67 4 = nI t from rx.1, sizesOfC, bd_some, if_pos htt, ect, xs.2.2.2.1.2, e1, bd_some, e3, bd_some]
/-- all that lies on a circle is alive; what is alive is of the thing's lengths -/
def Alv (E : En) (t : Nat) (g : AHp) : Prop := (∀ s a b, s ≤ 1 → OnC (FR E t) s a b → tb (hI g 69 (s * 25 + b)) a = true) ∧ ∀ s b a, s ≤ 1 → b ≤ 24 → a < 32 → tb (hI g 69 (s * 25 + b)) a = true → tb (E.siz t) a = true ∧ tb (E.siz t) b = true
theorem OnC_b {E : En} {t s a b : Nat} (ht : t ≤ 11) (hs : s ≤ 1) (h : OnC (FR E t) s a b) : (1 ≤ a ∧ a ≤ 24) ∧ (1 ≤ b ∧ b ≤ 24) := h.lens (fun s a b l _ h => (FR_b ht s a b l h).1) (fun s a b l h => (FR_b ht s a b l h).2) hs
abbrev PVt : Nat → Nat → Bool := fun k i => PC k i || k == 32 || k == 69
theorem pv_pvt {h g : AHp} (c : Ch PV h g) : Ch PVt h g := c.mono (fun k i hp => (Bool.or_eq_false_iff.mp hp).1)
theorem thin46 {E : En} {t c s a : Nat} (ht : t ≤ 11) (hs : s ≤ 1) (ha : 1 ≤ a ∧ a ≤ 24) : ∀ (d b f : Nat) (x5 x6 : Int32) (g : AHp), b + d = 25 → 1 ≤ b → d < f → (x5 = 0 ∨ x5 = 1) → CX E g → RdX E t g → MG g c (GR E t) → Alv E t g → (∀ u l, 1 ≤ u → u < b → OnC (FR E t) s a u → FR E t s a u l = true → OnC (FR E t) (1 - s) l a → tb x6 l = true) →
    ∃ v g1, m_X5_thinOutBehind_46 f (nI s) (nI a) (nI (s * 25)) (nI ((1 - s) * 25 + a)) x5 x6 (nI b) g = some (v, g1) ∧ (v = 0 ∨ v = 1) ∧ CX E g1 ∧ RdX E t g1 ∧ MG g1 c (GR E t) ∧ Alv E t g1 ∧ Ch PVt g g1 := by
  have g4 : inb (nI ((1 - s) * 25 + a)) 50 := inb_nI (by omega) (by omega)
  have e4 : (nI ((1 - s) * 25 + a)).toNatClampNeg = (1 - s) * 25 + a := nI_clamp (by omega)
  intro d
  induction d with
  | zero =>
    intro b f x5 x6 g hb h1 hf h5 x rx mg al hq
    obtain ⟨f, rfl⟩ : ∃ a, f = a + 1 := ⟨f - 1, by omega⟩
    have : b = 25 := by omega
    subst this
    have fin : ∀ s1 : Int32, (s1 = 0 ∨ s1 = 1) → ∃ v g1, m_X5_thinOutBehind_147 (nI ((1 - s) * 25 + a)) x6 x5 s1 g = some (v, g1) ∧ (v = 0 ∨ v = 1) ∧ CX E g1 ∧ RdX E t g1 ∧ MG g1 c (GR E t) ∧ Alv E t g1 ∧ Ch PVt g g1 := fun s1 h1 => by
      have hv : (x5 ||| s1 = 0 ∨ x5 ||| s1 = 1) := by rcases h5 with rfl | rfl <;> rcases h1 with rfl | rfl <;> decide
      unfold m_X5_thinOutBehind_147
      simp only [lt_eq, gd_pos g4, e4, gd_pos hv]
      have cw : Ch (fun k _ => k == 69) g (sI g 69 ((1 - s) * 25 + a) (hI g 69 ((1 - s) * 25 + a) &&& x6)) := Ch.rf.sI rfl
      refine ⟨_, _, rfl, hv, x.po (Ch.rf.sI rfl), rx.ch cw ⟨rfl, rfl, rfl, rfl⟩, mg.ch cw rfl (fun _ => rfl), ⟨fun s2 a2 b2 hs2 hon => ?_, fun s2 b2 a2 hs2 hb2 ha2 htb => ?_⟩, Ch.rf.sI (by simp)⟩
      · have hab := OnC_b ht hs2 hon
        rw [hI_sI]
        by_cases he : s2 * 25 + b2 = (1 - s) * 25 + a
        · have hs2' : s2 = 1 - s := by omega
          have hb2' : b2 = a := by omega
          subst hs2' hb2'
          rw [if_pos ⟨rfl, rfl⟩, tb_and, al.1 _ _ _ (by omega) hon, Bool.true_and]
          obtain ⟨s3, c3, u0, u1, u2, u3⟩ := hon.prev (by omega)
          have hs3 : s3 = s := by omega
          have hc3 := OnC_b ht u0 u3
          subst hs3
          exact hq c3 a2 hc3.2.1 (by omega) u3 u1 hon
        · rw [if_neg (by omega)]; exact al.1 _ _ _ hs2 hon
      · rw [hI_sI] at htb
        by_cases he : s2 * 25 + b2 = (1 - s) * 25 + a
        · rw [if_pos ⟨rfl, he⟩, tb_and, Bool.and_eq_true] at htb
          have : s2 = 1 - s ∧ b2 = a := by omega
          rw [this.2]
          exact al.2 (1 - s) a a2 (by omega) (by omega) ha2 htb.1
        · rw [if_neg (by omega)] at htb; exact al.2 s2 b2 a2 hs2 hb2 ha2 htb
    rw [m_X5_thinOutBehind_46, if_pos (by decide), gd_pos g4]
    split
    · exact fin 0 (Or.inl rfl)
    · exact fin 1 (Or.inr rfl)
  | succ d ih =>
    intro b f x5 x6 g hb h1 hf h5 x rx mg al hq
    obtain ⟨f, rfl⟩ : ∃ a, f = a + 1 := ⟨f - 1, by omega⟩
    have e3 : nI (s * 25) + nI b = nI (s * 25 + b) := nI_add _ _
    rw [m_X5_thinOutBehind_46, if_neg (show ¬ 25 ≤ nI b from nI_ge (a := b) (b := 25) (by omega) (by omega))]
    simp only [e3, gd_pos (inb_nI (n := s * 25 + b) (N := 50) (by omega) (by omega)), nI_clamp (n := s * 25 + b) (show s * 25 + b < 2 ^ 31 by omega), gd_pos g4, e4, lt_eq, nI_1]
    cases hbt : tb (hI g 69 (s * 25 + b)) a with
    | false =>
      rw [if_pos ((hasC (by omega)).mpr hbt)]
      refine ih (b + 1) f x5 x6 g (by omega) (by omega) (by omega) h5 x rx mg al (fun u l h2 h3 h4 h6 h7 => ?_)
      by_cases hu : u = b
      · subst hu; have := al.1 _ _ _ hs h4; rw [hbt] at this; cases this
      · exact hq u l h2 (by omega) h4 h6 h7
    | true =>
      obtain ⟨y, g1, e1, hy, x1, mg1, c1⟩ := folC ht hs (show a ≤ 24 by omega) (show b ≤ 24 by omega) x rx mg
      rw [if_neg (fun z => by rw [(hasC (by omega)).mp z] at hbt; cases hbt), e1, bd_some]
      have e69 : ∀ z, hI g1 69 z = hI g 69 z := fun z => c1.i rfl
      have rx1 := rx.ch c1 ⟨rfl, rfl, rfl, rfl⟩
      have al1 : Alv E t g1 := ⟨fun s2 a2 b2 h1 h2 => by rw [e69]; exact al.1 s2 a2 b2 h1 h2, fun s2 b2 a2 h1 h2 h3 h4 => by rw [e69] at h4; exact al.2 s2 b2 a2 h1 h2 h3 h4⟩
      have hv12 : ∀ j, j < 32 → tb (y &&& hI g1 69 ((1 - s) * 25 + a)) j = (FR E t s a b j && tb (hI g 69 ((1 - s) * 25 + a)) j) := fun j hj => by rw [tb_and, hy j hj, e69]
      have hqn : ∀ u l, 1 ≤ u → u < b + 1 → OnC (FR E t) s a u → FR E t s a u l = true → OnC (FR E t) (1 - s) l a → tb (x6 ||| (y &&& hI g1 69 ((1 - s) * 25 + a))) l = true := fun u l h2 h3 h4 h6 h7 => by
        rw [tb_or]
        by_cases hu : u = b
        · subst hu
          have hl := (FR_b ht _ _ _ _ h6).2
          rw [hv12 l hl, h6, al.1 _ _ _ (by omega) h7]; simp
        · rw [hq u l h2 (by omega) h4 h6 h7]; rfl
      by_cases h0 : y &&& hI g1 69 ((1 - s) * 25 + a) = 0
      · rw [if_pos h0]
        have cw : Ch PVt g (sI g1 69 (s * 25 + b) (hI g1 69 (s * 25 + b) &&& (((1 : Int32) <<< (nI a &&& 31)) ^^^ (-1)))) := (pv_pvt c1).sI (by simp)
        have cw1 : Ch (fun k _ => k == 69) g1 (sI g1 69 (s * 25 + b) (hI g1 69 (s * 25 + b) &&& (((1 : Int32) <<< (nI a &&& 31)) ^^^ (-1)))) := Ch.rf.sI rfl
        have al2 : Alv E t (sI g1 69 (s * 25 + b) (hI g1 69 (s * 25 + b) &&& (((1 : Int32) <<< (nI a &&& 31)) ^^^ (-1)))) := ⟨fun s2 a2 b2 hs2 hon => by
            have hab := OnC_b ht hs2 hon
            rw [hI_sI]
            by_cases he : s2 * 25 + b2 = s * 25 + b
            · have hs2' : s2 = s := by omega
              have hb2' : b2 = b := by omega
              subst hs2' hb2'
              rw [if_pos ⟨rfl, rfl⟩, tb_clear _ (by omega) (by omega), al1.1 _ _ _ hs2 hon, Bool.true_and]
              by_cases haa : a2 = a
              · subst haa
                obtain ⟨l, u1, u2⟩ := hon.next
                have hl := (FR_b ht _ _ _ _ u1).2
                have := hv12 l hl
                rw [h0, tb_zero, u1, al.1 _ _ _ (by omega) u2] at this; cases this
              · rw [decide_eq_false haa]; rfl
            · rw [if_neg (by omega)]; exact al1.1 _ _ _ hs2 hon, fun s2 b2 a2 hs2 hb2 ha2 htb => by
            rw [hI_sI] at htb
            by_cases he : s2 * 25 + b2 = s * 25 + b
            · rw [if_pos ⟨rfl, he⟩, tb_and, Bool.and_eq_true] at htb
              have : s2 = s ∧ b2 = b := by omega
              rw [this.2]
              exact al1.2 s b a2 hs (by omega) ha2 htb.1
            · rw [if_neg (by omega)] at htb; exact al1.2 s2 b2 a2 hs2 hb2 ha2 htb⟩
        obtain ⟨v, g2, u1, u2, u3, u4, u5, u6, u7⟩ := ih (b + 1) f 1 (x6 ||| (y &&& hI g1 69 ((1 - s) * 25 + a))) _ (by omega) (by omega) (by omega) (Or.inr rfl) (x1.po (Ch.rf.sI rfl)) (rx1.ch cw1 ⟨rfl, rfl, rfl, rfl⟩) (mg1.ch cw1 rfl (fun _ => rfl)) al2 hqn
        exact ⟨v, g2, u1, u2, u3, u4, u5, u6, cw.trans u7⟩
      · rw [if_neg h0]
        obtain ⟨v, g2, u1, u2, u3, u4, u5, u6, u7⟩ := ih (b + 1) f x5 (x6 ||| (y &&& hI g1 69 ((1 - s) * 25 + a))) g1 (by omega) (by omega) (by omega) h5 x1 rx1 mg1 al1 hqn
        exact ⟨v, g2, u1, u2, u3, u4, u5, u6, (pv_pvt c1).trans u7⟩
