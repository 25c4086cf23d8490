/-! held, coded: both -/
def okTk (E : En) (e m : Nat) (i : Nat) : Bool := isSp (E.ty (e * i)) && isTh (E.ty (e * i + 1)) && (decide (e < 3) || decide (E.ty (3 * i + 2) < nI m))
def dgE (E : En) (e i : Nat) : Int32 := if e = 3 then E.ty (3 * i + 2) else 0
abbrev P97 : Nat → Nat → Bool := fun k _ => k == 97 || k == 98 || k == 99
theorem p97_pkm {h g : AHp} (c : Ch P97 h g) : Ch PKm h g := c.mono (fun k i hp => by
  simp only [Bool.or_eq_false_iff, Bool.and_eq_false_iff, beq_eq_false_iff_ne, ble_f] at hp ⊢; omega)
theorem takes11 {E : En} {n e m : Nat} (he : e = 2 ∨ e = 3) (hn : n ≤ 12) (hc : n * e ≤ E.c) : ∀ (d i f : Nat) (fl : Bool) (g : AHp), i + d = n → d < f → RX E g → (∀ j, j < i → hI g 97 j = E.ty (e * j) ∧ hI g 98 j = E.ty (e * j + 1) ∧ hI g 99 j = dgE E e j) → ∃ g1, m_X12_takesTalk_11 f (nI n) (nI e) (nI m) (if fl = true then 1 else 0) (nI i) g = some (if (fl && okF (okTk E e m) i d) = true then 1 else 0, g1) ∧ RX E g1 ∧ Ch P97 g g1 ∧ (∀ j, j < n → hI g1 97 j = E.ty (e * j) ∧ hI g1 98 j = E.ty (e * j + 1) ∧ hI g1 99 j = dgE E e j) := by
  have hcc := E.hc
  intro d
  induction d with
  | zero =>
    intro i f fl g hi hf x hd
    obtain ⟨f, rfl⟩ : ∃ a, f = a + 1 := ⟨f - 1, by omega⟩
    have : i = n := by omega
    subst this
    refine ⟨g, ?_, x, Ch.rf, hd⟩
    rw [m_X12_takesTalk_11, if_pos (nI_le (Nat.le_refl _) (by omega)), okF, Bool.and_true, gd_pos (by cases fl <;> simp)]
  | succ d ih =>
    intro i f fl g hi hf x hd
    obtain ⟨f, rfl⟩ : ∃ a, f = a + 1 := ⟨f - 1, by omega⟩
    have hei : e * i + e ≤ n * e := by
      have : e * (i + 1) ≤ e * n := Nat.mul_le_mul_left e (by omega)
      rw [Nat.mul_add, Nat.mul_one, Nat.mul_comm e n] at this; exact this
    have gi : inb (nI i) 12 := inb_nI (by omega) (by omega)
    have eci : (nI i).toNatClampNeg = i := nI_clamp (by omega)
    have wr : ∀ (g : AHp) (k : Nat) (v : Int32), (k = 97 ∨ k = 98 ∨ k = 99) → RX E g → RX E (sI g k i v) := fun g k v hk xg => xg.pkm (p97_pkm (Ch.rf.sI (by rcases hk with rfl | rfl | rfl <;> rfl)))
    have x1 := wr g 97 (E.ty (e * i)) (by omega) x
    have x2 := wr _ 98 (E.ty (e * i + 1)) (by omega) x1
    have x3 := wr _ 99 (dgE E e i) (by omega) x2
    have c3 : Ch P97 g (sI (sI (sI g 97 i (E.ty (e * i))) 98 i (E.ty (e * i + 1))) 99 i (dgE E e i)) := ((Ch.rf.sI rfl).sI rfl).sI rfl
    have hd3 : ∀ j, j < i + 1 → hI (sI (sI (sI g 97 i (E.ty (e * i))) 98 i (E.ty (e * i + 1))) 99 i (dgE E e i)) 97 j = E.ty (e * j) ∧ hI (sI (sI (sI g 97 i (E.ty (e * i))) 98 i (E.ty (e * i + 1))) 99 i (dgE E e i)) 98 j = E.ty (e * j + 1) ∧ hI (sI (sI (sI g 97 i (E.ty (e * i))) 98 i (E.ty (e * i + 1))) 99 i (dgE E e i)) 99 j = dgE E e j := fun j hj => by
      simp only [hI_sI, Nat.reduceEqDiff, false_and, and_false, true_and, and_true, reduceIte]
      by_cases hji : j = i
      · subst hji; simp
      · simp only [if_neg hji]; exact hd j (by omega)
    have next : ∀ fl2 : Bool, ∃ g1, m_X12_takesTalk_11 f (nI n) (nI e) (nI m) (if fl2 = true then 1 else 0) (nI (i + 1)) (sI (sI (sI g 97 i (E.ty (e * i))) 98 i (E.ty (e * i + 1))) 99 i (dgE E e i)) = some (if (fl2 && okF (okTk E e m) (i + 1) d) = true then 1 else 0, g1) ∧ RX E g1 ∧ Ch P97 g g1 ∧ (∀ j, j < n → hI g1 97 j = E.ty (e * j) ∧ hI g1 98 j = E.ty (e * j + 1) ∧ hI g1 99 j = dgE E e j) := fun fl2 => by
      obtain ⟨g1, e1, y1, c1, d1⟩ := ih (i + 1) f fl2 _ (by omega) (by omega) x3 hd3
      exact ⟨g1, e1, y1, c3.trans c1, d1⟩
    have e74 : ∃ g1, m_X12_takesTalk_74 (m_X12_takesTalk_11 f) (nI n) (nI e) (nI m) (if fl = true then 1 else 0) (nI i) (nI i) (dgE E e i) (sI (sI g 97 i (E.ty (e * i))) 98 i (E.ty (e * i + 1))) = some (if (fl && okF (okTk E e m) i (d + 1)) = true then 1 else 0, g1) ∧ RX E g1 ∧ Ch P97 g g1 ∧ (∀ j, j < n → hI g1 97 j = E.ty (e * j) ∧ hI g1 98 j = E.ty (e * j + 1) ∧ hI g1 99 j = dgE E e j) := by
      have f0 := next false
      have f1 := next true
      rw [Bool.false_and, i01_f] at f0
      rw [Bool.true_and, i01_t] at f1
      obtain ⟨h97, h98, h99⟩ := hd3 i (by omega)
      unfold m_X12_takesTalk_74
      simp only [gd_pos gi, eci, lt_eq, nI_1]
      rw [okF]
      cases fl with
      | false => rw [i01_f, if_pos rfl, Bool.false_and, i01_f]; exact f0
      | true =>
        rw [i01_t, if_neg one_ne, h97, isSpeakerM, bd_some, isSp_b]
        rw [show okTk E e m i = (isSp (E.ty (e * i)) && isTh (E.ty (e * i + 1)) && (decide (e < 3) || decide (E.ty (3 * i + 2) < nI m))) from rfl]
        cases hs : isSp (E.ty (e * i)) with
        | false => rw [i01_f, if_pos rfl]; simp only [Bool.false_and, Bool.and_false]; rw [i01_f]; exact f0
        | true =>
          rw [i01_t, if_neg one_ne, h98, isThingM, bd_some, isTh_b]
          cases ht : isTh (E.ty (e * i + 1)) with
          | false => rw [i01_f, if_pos rfl]; simp only [Bool.false_and, Bool.and_false]; rw [i01_f]; exact f0
          | true =>
            rw [i01_t, if_neg one_ne]
            by_cases he3 : e < 3
            · rw [if_pos (show nI e < 3 from nI_lt (b := 3) he3 (by omega)), decide_eq_true he3]
              simp only [Bool.true_or, Bool.true_and]; exact f1
            · rw [if_neg (show ¬ nI e < 3 from nI_nlt (a := e) (b := 3) (by omega) (by omega)), decide_eq_false he3, h99]
              have hdg : dgE E e i = E.ty (3 * i + 2) := if_pos (by omega)
              rw [hdg] at f0 f1 ⊢
              by_cases hm : E.ty (3 * i + 2) < nI m
              · rw [if_neg (by rw [i32_lt] at hm; rw [i32_le]; omega), decide_eq_true hm]
                simp only [Bool.or_true, Bool.true_and]; exact f1
              · rw [if_pos (by rw [i32_lt] at hm; rw [i32_le]; omega), decide_eq_false hm]
                simp only [Bool.or_false, Bool.and_false, Bool.false_and]; rw [i01_f]; exact f0
    rw [m_X12_takesTalk_11, if_neg (nI_ge (by omega) (by omega)), show nI e * nI i = nI (e * i) from pk_mul e i, x.byte (by omega), bd_some]
    simp only [gd_pos gi, eci, lt_eq, nI_1]
    rw [x1.byte (by omega), bd_some]
    rcases he with rfl | rfl
    · rw [if_neg (show ¬ nI 2 = 3 from by decide)]; exact e74
    · rw [if_pos (show nI 3 = 3 from rfl), show nI (3 * i) + 2 = nI (3 * i + 2) from nI_add _ 2, x2.byte (by omega), bd_some]; exact e74
theorem okF_and {p q : Nat → Bool} : ∀ d i, okF (fun i => p i && q i) i d = (okF p i d && okF q i d)
  | 0, i => rfl
  | d + 1, i => by
    rw [okF, okF, okF, okF_and d (i + 1)]
    cases p i <;> cases q i <;> simp
abbrev PAT : Nat → Nat → Bool := fun k i => PAll k i || (k == 1 && i == 1) || (k == 70 && i == 1)
theorem all_at {h g : AHp} (c : Ch PAll h g) : Ch PAT h g := c.mono (fun k i hp => by
  simp only [Bool.or_eq_false_iff] at hp ⊢; exact ⟨hp.1.1.1, hp.1.1.2⟩)
theorem BI.at {h g : AHp} (hB : BI h) (c : Ch PAT h g) (e1 : hI g 1 1 = 0) (e2 : hI g 70 1 = 0) : BI g := hB.clr c (fun {k i} hp h1 h2 => by
  have := pbi_all hp
  simp only [Bool.or_eq_false_iff, Bool.and_eq_false_iff, beq_eq_false_iff_ne]
  simp only [Bool.or_eq_false_iff, Bool.and_eq_false_iff, beq_eq_false_iff_ne] at this
  exact ⟨⟨this, by omega⟩, by omega⟩) e1 e2
theorem sameLM.at {h g : AHp} (c : Ch PAT h g) : sameLM h g := sameLM.ch c (fun k h1 h2 i => by simp only [Bool.or_eq_false_iff, Bool.and_eq_false_iff, beq_eq_false_iff_ne, ble_f]; omega)
theorem SimK.mono {r : Type} {P Q : Nat → Nat → Bool} {c : Nat} {h : AHp} {C M : AHp → Option (r × AHp)} (x : SimK P c h C M) (hq : ∀ k i, Q k i = false → P k i = false) : SimK Q c h C M := by
  obtain ⟨v, h1, h2, e1, e2, b, l, m, ch⟩ := x
  exact ⟨v, h1, h2, e1, e2, b, l, m, ch.mono hq⟩
/-- the end of a search that takes the tape -/
theorem SimK.tape {r : Type} {c : Nat} {E : En} {h g1 g2 : AHp} {C M : AHp → Option (r × AHp)} (hB : BI h) (hLR : LR h E.cl0 E.cl1 E.K0 E.K1 E.v0 E.v1) (v : r) (e1 : C h = some (v, sI g1 1 1 0)) (e2 : M (sI g1 1 1 0) = some (v, g2)) (x1 : CX E g1) (hmi : MIx g1 c ∨ MIx g1 (c + 1)) (c1 : Ch PK h g1) (c2 : Ch PKm (sI (sI g1 1 1 0) 70 1 0) g2) : SimK PAT c h C M := by
  have c3 : Ch PAT h (sI (sI g1 1 1 0) 70 1 0) := ((all_at (pk_all c1)).sI rfl).sI rfl
  have cc := c3.trans (all_at (pkm_all c2))
  have hm2 : ∀ q, MIx g1 q → MIx g2 q := fun q hq => MIx.ch (MIx.ch (P := fun k i => k == 1 || k == 70) hq ((Ch.rf.sI rfl).sI rfl) rfl (fun _ => rfl)) c2 rfl (fun _ => rfl)
  exact ⟨v, sI g1 1 1 0, g2, e1, e2, hB.at cc (by rw [c2.i rfl]; rfl) (by rw [c2.i rfl]; rfl), ⟨E.cl0, E.cl1, E.K0, E.K1, E.v0, E.v1, ((x1.2.2.2.2.1.clr (by omega) _).clr (by omega) _).pkm c2, hLR.2.1.same (sameLM.at cc), hLR.2.2.same (sameLM.at cc)⟩, hmi.imp (hm2 c) (hm2 (c + 1)), cc⟩
theorem xR_tape {E : En} {h g1 : AHp} (x : RX E h) (c1 : Ch PK h g1) : RX E (sI (sI g1 1 1 0) 70 1 0) := (x.pk c1).ch (P := fun k i => (k == 1 && i == 1) || (k == 70 && i == 1)) ((Ch.rf.sI rfl).sI rfl) (fun {k i} hp => by
  simp only [Bool.or_eq_true, Bool.and_eq_true, beq_iff_eq] at hp
  simp only [Bool.or_eq_false_iff, Bool.and_eq_false_iff, beq_eq_false_iff_ne]
  omega)
theorem heldPlaceC {n : Nat} (w : Int32) (hn : 1 ≤ n ∧ n ≤ 12) (h : AHp) : m_X11_isHeldPlace (nI n) w h = some (b2i (w = -1 ∨ w = 20 ∨ (0 ≤ w.toInt ∧ w.toInt < n)), h) := by
  unfold m_X11_isHeldPlace b2i
  by_cases h1 : w = -1
  · rw [if_pos h1, if_pos (Or.inl h1)]
  rw [if_neg h1]
  by_cases h2 : w = 20
  · rw [if_pos h2, if_pos (Or.inr (Or.inl h2))]
  rw [if_neg h2]
  simp only [i32_lt, i32_le, tIall, nI_toInt (show n < 2 ^ 31 by omega)]
  by_cases h3 : w.toInt < 0
  · rw [if_pos h3, if_neg (by rintro (h | h | h); exact h1 h; exact h2 h; omega)]
  rw [if_neg h3]
  by_cases h4 : (n : Int) ≤ w.toInt
  · rw [if_pos h4, if_neg (by rintro (h | h | h); exact h1 h; exact h2 h; omega)]
  · rw [if_neg h4, if_pos (Or.inr (Or.inr ⟨by omega, by omega⟩))]
theorem wt_of {n : Nat} {w : Int32} (h : w = -1 ∨ w = 20 ∨ (0 ≤ w.toInt ∧ w.toInt < n)) (hn : n ≤ 12) : w = -1 ∨ w = 20 ∨ ∃ wt, w = nI wt ∧ wt < n := by
  rcases h with h | h | h
  · exact Or.inl h
  · exact Or.inr (Or.inl h)
  · exact Or.inr (Or.inr ⟨w.toInt.toNat, by rw [i32_eq, nI_toInt (by omega)]; omega, by omega⟩)
def parM (E : En) (laws : Int32) (n e md mr : Nat) (hn : n ≤ 12) (hg : ∀ i, i < n → (isSp (E.ty (e * i)) && isTh (E.ty (e * i + 1))) = true) (hmr : mr ≤ 5) (hmd : mr = 0 ∧ md = 1 ∧ e ≠ 3 ∨ mr = md ∧ 1 ≤ mr) : MPar E (parH E laws n e md (dgE E e) hn hg) mr :=
  ⟨dgE E e, ⟨hmr, fun i hi => by
    have := hg i hi
    rw [Bool.and_eq_true] at this; exact of_decide_eq_true this.2, fun i hi k hk => by
    have ht := hg i hi
    rw [Bool.and_eq_true] at ht
    have ht2 := of_decide_eq_true ht.2
    show tb (E.siz (E.ty (e * i + 1)).toNatClampNeg &&& dgb md (dgE E e i) 24) k = _
    rw [tb_and, dgb_bits _ _ 24 k (by omega) hk]
    show _ = (tb (E.siz (E.ty (e * i + 1)).toNatClampNeg) k && _)
    cases hs : tb (E.siz (E.ty (e * i + 1)).toNatClampNeg) k with
    | false => rfl
    | true =>
      have := E.hsz _ (clamp_lt ht2.1 (by omega)) k hk hs
      rw [Bool.true_and, Bool.true_and]
      apply decide_eq_decide.mpr
      rcases hmd with ⟨h1, h2, h3⟩ | ⟨h1, h2⟩
      · subst h1 h2
        refine ⟨fun _ => Or.inl rfl, fun _ => ⟨this.1, this.2, ?_⟩⟩
        rw [Nat.mod_one]; unfold dgE; rw [if_neg h3]; rfl
      · subst h1
        constructor
        · intro h; exact Or.inr h.2.2
        · rintro (h | h)
          · omega
          · exact ⟨this.1, this.2, h⟩⟩⟩
theorem sim_held {h : AHp} {c : Nat} (laws n w : Int32) (hB : BI h) (hI0 : LI h) (hmi : MIx h c) (hc0 : c < 1000000) : SimK PAT c h (m_X11_held laws n w) (m_X12_held laws n w) := by
  by_cases hlw : 1 ≤ laws.toInt ∧ laws.toInt ≤ 3
  rotate_left
  · refine SimK.same hB hI0 hmi (-1) ?_ ?_
    · unfold m_X11_held
      simp only [i32_lt, tIall]
      by_cases h1 : laws.toInt < 1
      · rw [if_pos h1]
      · rw [if_neg h1, if_pos (by omega)]
    · unfold m_X12_held; rw [liesI, bd_some, b2i_f (by exact hlw), if_pos rfl]
  have eC0 : ∀ g, m_X11_held laws n w g = (bd (m_X11_isOnTape n 12 2 g) fun r12 h13 => (if r12 = 0 then (some ((-1), h13)) else (bd (m_X11_isHeldPlace n w h13) fun r14 h15 => (if r14 = 0 then (some ((-1), h15)) else (bd (m_X11_tellsSpeakersAndThings n 2 h15) fun r16 h17 => (if r16 = 0 then (bd (m_X8_clear h17) fun r18 h19 => (some ((-3), h19))) else (bd (m_X1_begin laws 1 n h17) fun r20 h21 => (m_X11_held_57 FU n w 0 h21)))))))) := fun g => by
    unfold m_X11_held
    rw [if_neg (by rw [i32_lt]; simp only [tIall]; omega), if_neg (by rw [i32_lt]; simp only [tIall]; omega)]
  by_cases hn : 1 ≤ n.toInt ∧ n.toInt ≤ 12
  rotate_left
  · refine SimK.same hB hI0 hmi (-1) ?_ ?_
    · rw [eC0, show m_X11_isOnTape n 12 2 h = some (0, h) from onTape_no (lim := 12) (grp := 2) (by omega) hn, bd_some, if_pos rfl]
    · unfold m_X12_held; rw [liesI, bd_some, b2i_t (by exact hlw), if_neg one_ne, liesI, bd_some, b2i_f (by exact hn), if_pos rfl]
  obtain ⟨n, rfl, hn1, hn2⟩ := nat_in (lo := 1) (hi := 12) hn
  obtain ⟨cl0, cl1, K0, K1, v0, v1, hLR⟩ := id hI0
  obtain ⟨E, xC, xR, ⟨rfl, rfl, rfl, rfl, rfl, rfl⟩, e701⟩ := hB.en hLR
  have hc := E.hc
  have eT : m_X11_isOnTape (nI n) 12 2 h = some (if n * 2 ≤ E.c then 1 else 0, h) := onTape_n (lim := 12) (grp := 2) xC.2.1 hc hn1 hn2 (by omega) (by omega)
  have e2n : (2 : Int32) * nI n = nI (2 * n) := pk_mul 2 n
  have en1 : (nI n - 1).toInt = (n : Int) - 1 := nI_sub_toInt (c := 1) (by omega) (by omega)
  have eP := heldPlaceC w ⟨hn1, hn2⟩ h
  by_cases hp : w = -1 ∨ w = 20 ∨ (0 ≤ w.toInt ∧ w.toInt < n)
  rotate_left
  · refine SimK.same hB hI0 hmi (-1) ?_ ?_
    · rw [eC0, eT, bd_some]
      by_cases hq : n * 2 ≤ E.c
      · rw [if_pos hq, if_neg one_ne, eP, bd_some, b2i_f hp, if_pos rfl]
      · rw [if_neg hq, if_pos rfl]
    · unfold m_X12_held; rw [liesI, bd_some, b2i_t (by exact hlw), if_neg one_ne, liesI, bd_some, b2i_t (by exact hn), if_neg one_ne, if_neg (fun z => hp (Or.inl z)), if_neg (fun z => hp (Or.inr (Or.inl z))), liesI, bd_some, i32_64, en1, b2i_f (fun z => hp (Or.inr (Or.inr ⟨z.1, by have := z.2; omega⟩))), if_pos rfl]
  have eRef : ∀ g, m_X12_held laws (nI n) w g = m_X12_held_48 laws (nI n) w g := fun g => by
    unfold m_X12_held; rw [liesI, bd_some, b2i_t (by exact hlw), if_neg one_ne, liesI, bd_some, b2i_t (by exact hn), if_neg one_ne]
    by_cases h1 : w = -1
    · rw [if_pos h1]
    · rw [if_neg h1]
      by_cases h2 : w = 20
      · rw [if_pos h2]
      · rw [if_neg h2, liesI, bd_some, i32_64, en1]
        have h3 : 0 ≤ w.toInt ∧ w.toInt < n := by
          rcases hp with h | h | h
          · exact absurd h h1
          · exact absurd h h2
          · exact h
        rw [b2i_t (by show (0 : Int) ≤ _ ∧ _; omega), if_neg one_ne]
  by_cases hq : n * 2 ≤ E.c
  rotate_left
  · rw [if_neg hq] at eT
    refine SimK.same hB hI0 hmi (-1) ?_ ?_
    · rw [eC0, eT, bd_some, if_pos rfl]
    · rw [eRef]; unfold m_X12_held_48; rw [e2n, e701, if_neg (nI_ge (by omega) (by omega))]
  rw [if_pos hq] at eT
  have eTl := tellsC (n := n) (e := 2) xC (by omega) hq n 0 FU (by omega) (by unfold FU; omega)
  have eTk : okF (okTk E 2 0) 0 n = okF (fun i => isSp (E.ty (2 * i)) && isTh (E.ty (2 * i + 1))) 0 n := by
    congr 1; funext i; unfold okTk; simp
  have eRef2 : ∀ g, hI g 70 1 = nI E.c → m_X12_held laws (nI n) w g = (bd (m_X12_takesTalk_11 FU (nI n) 2 0 1 0 (sI g 70 1 0)) fun r1 h2 => (if r1 = 0 then (some ((-3), h2)) else (bd (m_X12_heldBy laws (nI n) 0 w h2) fun r3 h4 => (some (r3, h4))))) := fun g eg => by
    rw [eRef]; unfold m_X12_held_48 m_X12_takesTalk; rw [e2n, eg, if_pos (nI_le (by omega) (by omega)), lt_eq]
  cases hok : okF (fun i => isSp (E.ty (2 * i)) && isTh (E.ty (2 * i + 1))) 0 n with
  | false =>
    rw [hok, i01_f] at eTl
    have xR2 := xR_tape xR (Ch.rf : Ch PK h h)
    obtain ⟨g2, e2, x2, c2, -⟩ := takes11 (n := n) (e := 2) (m := 0) (Or.inl rfl) hn2 hq n 0 FU true _ (by omega) (by unfold FU; omega) xR2 (fun j hj => by omega)
    rw [eTk, hok, Bool.true_and, i01_f] at e2
    refine SimK.tape hB hLR (-3) ?_ ?_ xC (Or.inl hmi) Ch.rf (p97_pkm c2)
    · rw [eC0, eT, bd_some, if_neg one_ne, eP, bd_some, b2i_t hp, if_neg one_ne]
      unfold m_X11_tellsSpeakersAndThings
      rw [show m_X11_tellsSpeakersAndThings_2 FU (nI n) 2 0 h = some (0, h) from eTl, bd_some, if_pos rfl, clearC, bd_some]
    · rw [eRef2 (sI h 1 1 0) e701]
      rw [show m_X12_takesTalk_11 FU (nI n) 2 0 1 0 (sI (sI h 1 1 0) 70 1 0) = some (0, g2) from e2, bd_some, if_pos rfl]
  | true =>
    rw [hok, i01_t] at eTl
    have hg : ∀ i, i < n → (isSp (E.ty (2 * i)) && isTh (E.ty (2 * i + 1))) = true := fun i hi => okF_all n 0 hok i (by omega) (by omega)
    obtain ⟨an, ea, ha⟩ := E.a_nat
    obtain ⟨bn, eb, hbn⟩ := E.b_nat
    obtain ⟨g1, e1, c1, f6, f7, f8, f12, f13⟩ := beginH (laws := laws) (md := 1) ⟨hn1, hn2⟩ xC
    have c1' : Ch PO h g1 := c1.mono (fun k i hp => by
      simp only [Bool.or_eq_false_iff, Bool.and_eq_false_iff, beq_eq_false_iff_ne, ble_f] at hp ⊢; omega)
    have x1 := xC.po c1'
    obtain ⟨g2, e2, x2, c2, d2⟩ := tells57 (n := n) (md := 1) (what := w) hn2 (by omega) (by omega) hg n 0 FU g1 (by omega) (by unfold FU; omega) x1 f7 (fun j hj => by omega)
    have c2' : Ch PO g1 g2 := c2.mono (fun k i hp => by
      simp only [Bool.or_eq_false_iff, Bool.and_eq_false_iff, beq_eq_false_iff_ne, ble_f] at hp ⊢; omega)
    have hx2 : HX0 E (parH E laws n 2 1 (dgE E 2) hn2 hg) g2 := ⟨⟨by rw [c2.i rfl, f6]; rfl, by rw [c2.i rfl, f8]; rfl, by rw [c2.i rfl, f12]; rfl, by rw [c2.i rfl, f13]; rfl⟩, fun i hi => d2 i hi⟩
    have mi2 : MIx g2 c := (hmi.ch c1 rfl (fun _ => rfl)).ch c2 rfl (fun _ => rfl)
    obtain ⟨g3, R, e3, x3, mg3, c3⟩ := answerH (c := c) (what := w) (H := parH E laws n 2 1 (dgE E 2) hn2 hg) hn1 hc0 ea ha eb hbn (wt_of hp hn2) x2 hx2 mi2
    have cK := ((po_pk c1').trans (po_pk c2')).trans c3
    have xR2 := xR_tape xR cK
    obtain ⟨g4, e4, x4, c4, d4⟩ := takes11 (n := n) (e := 2) (m := 0) (Or.inl rfl) hn2 hq n 0 FU true _ (by omega) (by unfold FU; omega) xR2 (fun j hj => by omega)
    rw [eTk, hok, Bool.true_and, i01_t] at e4
    obtain ⟨g5, e5, c5⟩ := heldByM (what := w) (M := parM E laws n 2 1 0 hn2 hg (by omega) (Or.inl ⟨rfl, rfl, by omega⟩)) (g := g4) hn1 ea eb ha hbn (wt_of hp hn2) x4 (fun i hi => d4 i hi)
    refine SimK.tape hB hLR (resH E (parH E laws n 2 1 (dgE E 2) hn2 hg) an bn w) ?_ ?_ x3 (Or.inr mg3.ix) cK ((p97_pkm c4).trans (pr3_pkm c5))
    · rw [eC0, eT, bd_some, if_neg one_ne, eP, bd_some, b2i_t hp, if_neg one_ne]
      unfold m_X11_tellsSpeakersAndThings
      rw [show m_X11_tellsSpeakersAndThings_2 FU (nI n) 2 0 h = some (1, h) from eTl, bd_some, if_neg one_ne]
      rw [show m_X1_begin laws 1 (nI n) h = some ((), g1) from e1, bd_some]
      rw [show m_X11_held_57 FU (nI n) w 0 g1 = _ from e2, e3, bd_some, clearC, bd_some]
    · rw [eRef2 _ (by rw [hI_sI, if_neg (by omega), cK.i rfl, e701])]
      rw [show m_X12_takesTalk_11 FU (nI n) 2 0 1 0 (sI (sI g3 1 1 0) 70 1 0) = some (1, g4) from e4, bd_some, if_neg one_ne]
      rw [show m_X12_heldBy laws (nI n) 0 w g4 = _ from e5, bd_some]
theorem sim_coded {h : AHp} {c : Nat} (mq n w : Int32) (hB : BI h) (hI0 : LI h) (hmi : MIx h c) (hc0 : c < 1000000) : SimK PAT c h (m_X11_coded mq n w) (m_X12_coded mq n w) := by
  by_cases hlw : 2 ≤ mq.toInt ∧ mq.toInt ≤ 5
  rotate_left
  · refine SimK.same hB hI0 hmi (-1) ?_ ?_
    · unfold m_X11_coded
      simp only [i32_lt, tIall]
      by_cases h1 : mq.toInt < 2
      · rw [if_pos h1]
      · rw [if_neg h1, if_pos (by omega)]
    · unfold m_X12_coded; rw [liesI, bd_some, b2i_f (by exact hlw), if_pos rfl]
  have eC0 : ∀ g, m_X11_coded mq n w g = (bd (m_X11_isOnTape n 12 3 g) fun r14 h15 => (if r14 = 0 then (some ((-1), h15)) else (bd (m_X11_isHeldPlace n w h15) fun r16 h17 => (if r16 = 0 then (some ((-1), h17)) else (bd (m_X11_tellsSpeakersAndThings n 3 h17) fun r18 h19 => (if r18 = 0 then (bd (m_X8_clear h19) fun r20 h21 => (some ((-3), h21))) else (bd (m_X11_tellsDigits mq n h19) fun r22 h23 => (if r22 = 0 then (bd (m_X8_clear h23) fun r24 h25 => (some ((-3), h25))) else (bd (m_X1_begin 1 mq n h23) fun r26 h27 => (m_X11_coded_66 FU n w 0 h27)))))))))) := fun g => by
    unfold m_X11_coded
    rw [if_neg (by rw [i32_lt]; simp only [tIall]; omega), if_neg (by rw [i32_lt]; simp only [tIall]; omega)]
  by_cases hn : 1 ≤ n.toInt ∧ n.toInt ≤ 12
  rotate_left
  · refine SimK.same hB hI0 hmi (-1) ?_ ?_
    · rw [eC0, show m_X11_isOnTape n 12 3 h = some (0, h) from onTape_no (lim := 12) (grp := 3) (by omega) hn, bd_some, if_pos rfl]
    · unfold m_X12_coded; rw [liesI, bd_some, b2i_t (by exact hlw), if_neg one_ne, liesI, bd_some, b2i_f (by exact hn), if_pos rfl]
  obtain ⟨m, rfl, hm1, hm2⟩ := nat_in (lo := 2) (hi := 5) hlw
  obtain ⟨n, rfl, hn1, hn2⟩ := nat_in (lo := 1) (hi := 12) hn
  obtain ⟨cl0, cl1, K0, K1, v0, v1, hLR⟩ := id hI0
  obtain ⟨E, xC, xR, ⟨rfl, rfl, rfl, rfl, rfl, rfl⟩, e701⟩ := hB.en hLR
  have hc := E.hc
  have eT : m_X11_isOnTape (nI n) 12 3 h = some (if n * 3 ≤ E.c then 1 else 0, h) := onTape_n (lim := 12) (grp := 3) xC.2.1 hc hn1 hn2 (by omega) (by omega)
  have e2n : (3 : Int32) * nI n = nI (3 * n) := pk_mul 3 n
  have en1 : (nI n - 1).toInt = (n : Int) - 1 := nI_sub_toInt (c := 1) (by omega) (by omega)
  have eP := heldPlaceC w ⟨hn1, hn2⟩ h
  by_cases hp : w = -1 ∨ w = 20 ∨ (0 ≤ w.toInt ∧ w.toInt < n)
  rotate_left
  · refine SimK.same hB hI0 hmi (-1) ?_ ?_
    · rw [eC0, eT, bd_some]
      by_cases hq : n * 3 ≤ E.c
      · rw [if_pos hq, if_neg one_ne, eP, bd_some, b2i_f hp, if_pos rfl]
      · rw [if_neg hq, if_pos rfl]
    · unfold m_X12_coded; rw [liesI, bd_some, b2i_t (by exact hlw), if_neg one_ne, liesI, bd_some, b2i_t (by exact hn), if_neg one_ne, if_neg (fun z => hp (Or.inl z)), if_neg (fun z => hp (Or.inr (Or.inl z))), liesI, bd_some, i32_64, en1, b2i_f (fun z => hp (Or.inr (Or.inr ⟨z.1, by have := z.2; omega⟩))), if_pos rfl]
  have eRef : ∀ g, m_X12_coded (nI m) (nI n) w g = m_X12_coded_50 (nI m) (nI n) w g := fun g => by
    unfold m_X12_coded; rw [liesI, bd_some, b2i_t (by exact hlw), if_neg one_ne, liesI, bd_some, b2i_t (by exact hn), if_neg one_ne]
    by_cases h1 : w = -1
    · rw [if_pos h1]
    · rw [if_neg h1]
      by_cases h2 : w = 20
      · rw [if_pos h2]
      · rw [if_neg h2, liesI, bd_some, i32_64, en1]
        have h3 : 0 ≤ w.toInt ∧ w.toInt < n := by
          rcases hp with h | h | h
          · exact absurd h h1
          · exact absurd h h2
          · exact h
        rw [b2i_t (by show (0 : Int) ≤ _ ∧ _; omega), if_neg one_ne]
  by_cases hq : n * 3 ≤ E.c
  rotate_left
  · rw [if_neg hq] at eT
    refine SimK.same hB hI0 hmi (-1) ?_ ?_
    · rw [eC0, eT, bd_some, if_pos rfl]
    · rw [eRef]; unfold m_X12_coded_50; rw [e2n, e701, if_neg (nI_ge (by omega) (by omega))]
  rw [if_pos hq] at eT
  have eTl := tellsC (n := n) (e := 3) xC (by omega) hq n 0 FU (by omega) (by unfold FU; omega)
  have eDg := tellsDigC (n := n) (md := m) xC (by omega) n 0 FU (by omega) (by unfold FU; omega)
  have eTk : okF (okTk E 3 m) 0 n = (okF (fun i => isSp (E.ty (3 * i)) && isTh (E.ty (3 * i + 1))) 0 n && okF (fun i => decide (E.ty (3 * i + 2) < nI m)) 0 n) := by
    rw [← okF_and]; congr 1
  have eRef2 : ∀ g, hI g 70 1 = nI E.c → m_X12_coded (nI m) (nI n) w g = (bd (m_X12_takesTalk_11 FU (nI n) 3 (nI m) 1 0 (sI g 70 1 0)) fun r1 h2 => (if r1 = 0 then (some ((-3), h2)) else (bd (m_X12_heldBy 1 (nI n) (nI m) w h2) fun r3 h4 => (some (r3, h4))))) := fun g eg => by
    rw [eRef]; unfold m_X12_coded_50 m_X12_takesTalk; rw [e2n, eg, if_pos (nI_le (by omega) (by omega)), lt_eq]
  have bad : okF (okTk E 3 m) 0 n = false → m_X11_coded (nI m) (nI n) w h = some (-3, sI h 1 1 0) → SimK PAT c h (m_X11_coded (nI m) (nI n) w) (m_X12_coded (nI m) (nI n) w) := fun hbad hcl => by
    have xR2 := xR_tape xR (Ch.rf : Ch PK h h)
    obtain ⟨g2, e2, x2, c2, -⟩ := takes11 (n := n) (e := 3) (m := m) (Or.inr rfl) hn2 hq n 0 FU true _ (by omega) (by unfold FU; omega) xR2 (fun j hj => by omega)
    rw [hbad, Bool.true_and, i01_f] at e2
    refine SimK.tape hB hLR (-3) hcl ?_ xC (Or.inl hmi) Ch.rf (p97_pkm c2)
    rw [eRef2 (sI h 1 1 0) e701]
    rw [show m_X12_takesTalk_11 FU (nI n) 3 (nI m) 1 0 (sI (sI h 1 1 0) 70 1 0) = some (0, g2) from e2, bd_some, if_pos rfl]
  cases hok : okF (fun i => isSp (E.ty (3 * i)) && isTh (E.ty (3 * i + 1))) 0 n with
  | false =>
    rw [hok, i01_f] at eTl
    refine bad (by rw [eTk, hok]; rfl) ?_
    rw [eC0, eT, bd_some, if_neg one_ne, eP, bd_some, b2i_t hp, if_neg one_ne]
    unfold m_X11_tellsSpeakersAndThings
    rw [show m_X11_tellsSpeakersAndThings_2 FU (nI n) 3 0 h = some (0, h) from eTl, bd_some, if_pos rfl, clearC, bd_some]
  | true =>
    rw [hok, i01_t] at eTl
    cases hod : okF (fun i => decide (E.ty (3 * i + 2) < nI m)) 0 n with
    | false =>
      rw [hod, i01_f] at eDg
      refine bad (by rw [eTk, hok, hod]; rfl) ?_
      rw [eC0, eT, bd_some, if_neg one_ne, eP, bd_some, b2i_t hp, if_neg one_ne]
      unfold m_X11_tellsSpeakersAndThings m_X11_tellsDigits
      rw [show m_X11_tellsSpeakersAndThings_2 FU (nI n) 3 0 h = some (1, h) from eTl, bd_some, if_neg one_ne]
      rw [show m_X11_tellsDigits_2 FU (nI m) (nI n) 0 h = some (0, h) from eDg, bd_some, if_pos rfl, clearC, bd_some]
    | true =>
      rw [hod, i01_t] at eDg
      have hg : ∀ i, i < n → (isSp (E.ty (3 * i)) && isTh (E.ty (3 * i + 1))) = true := fun i hi => okF_all n 0 hok i (by omega) (by omega)
      obtain ⟨an, ea, ha⟩ := E.a_nat
      obtain ⟨bn, eb, hbn⟩ := E.b_nat
      obtain ⟨g1, e1, c1, f6, f7, f8, f12, f13⟩ := beginH (laws := 1) (md := m) ⟨hn1, hn2⟩ xC
      have c1' : Ch PO h g1 := c1.mono (fun k i hp => by
        simp only [Bool.or_eq_false_iff, Bool.and_eq_false_iff, beq_eq_false_iff_ne, ble_f] at hp ⊢; omega)
      have x1 := xC.po c1'
      obtain ⟨g2, e2, x2, c2, d2⟩ := tells66 (n := n) (md := m) (what := w) hn2 (by omega) (by omega) hg n 0 FU g1 (by omega) (by unfold FU; omega) x1 f7 (fun j hj => by omega)
      have c2' : Ch PO g1 g2 := c2.mono (fun k i hp => by
        simp only [Bool.or_eq_false_iff, Bool.and_eq_false_iff, beq_eq_false_iff_ne, ble_f] at hp ⊢; omega)
      have hx2 : HX0 E (parH E 1 n 3 m (dgE E 3) hn2 hg) g2 := ⟨⟨by rw [c2.i rfl, f6]; rfl, by rw [c2.i rfl, f8]; rfl, by rw [c2.i rfl, f12]; rfl, by rw [c2.i rfl, f13]; rfl⟩, fun i hi => d2 i hi⟩
      have mi2 : MIx g2 c := (hmi.ch c1 rfl (fun _ => rfl)).ch c2 rfl (fun _ => rfl)
      obtain ⟨g3, R, e3, x3, mg3, c3⟩ := answerH (c := c) (what := w) (H := parH E 1 n 3 m (dgE E 3) hn2 hg) hn1 hc0 ea ha eb hbn (wt_of hp hn2) x2 hx2 mi2
      have cK := ((po_pk c1').trans (po_pk c2')).trans c3
      have xR2 := xR_tape xR cK
      obtain ⟨g4, e4, x4, c4, d4⟩ := takes11 (n := n) (e := 3) (m := m) (Or.inr rfl) hn2 hq n 0 FU true _ (by omega) (by unfold FU; omega) xR2 (fun j hj => by omega)
      rw [eTk, hok, hod, Bool.true_and, Bool.true_and, i01_t] at e4
      obtain ⟨g5, e5, c5⟩ := heldByM (what := w) (M := parM E 1 n 3 m m hn2 hg (by omega) (Or.inr ⟨rfl, by omega⟩)) (g := g4) hn1 ea eb ha hbn (wt_of hp hn2) x4 (fun i hi => d4 i hi)
      refine SimK.tape hB hLR (resH E (parH E 1 n 3 m (dgE E 3) hn2 hg) an bn w) ?_ ?_ x3 (Or.inr mg3.ix) cK ((p97_pkm c4).trans (pr3_pkm c5))
      · rw [eC0, eT, bd_some, if_neg one_ne, eP, bd_some, b2i_t hp, if_neg one_ne]
        unfold m_X11_tellsSpeakersAndThings m_X11_tellsDigits
        rw [show m_X11_tellsSpeakersAndThings_2 FU (nI n) 3 0 h = some (1, h) from eTl, bd_some, if_neg one_ne]
        rw [show m_X11_tellsDigits_2 FU (nI m) (nI n) 0 h = some (1, h) from eDg, bd_some, if_neg one_ne]
        rw [show m_X1_begin 1 (nI m) (nI n) h = some ((), g1) from e1, bd_some]
        rw [show m_X11_coded_66 FU (nI n) w 0 g1 = _ from e2, e3, bd_some, clearC, bd_some]
      · rw [eRef2 _ (by rw [hI_sI, if_neg (by omega), cK.i rfl, e701])]
        rw [show m_X12_takesTalk_11 FU (nI n) 3 (nI m) 1 0 (sI (sI g3 1 1 0) 70 1 0) = some (1, g4) from e4, bd_some, if_neg one_ne]
        rw [show m_X12_heldBy 1 (nI n) (nI m) w g4 = _ from e5, bd_some]
