/-! silenced: the class's search -/
def whoS (s q : Int32) (i : Nat) : Int32 := if i % 2 = 0 then s else q
def rrS (E : En) (s q : Int32) (i : Nat) : Int32 := if i = 0 then E.r else whoS s q (i - 1)
def FS (E : En) (s q ths oth : Int32) (i a b l : Nat) : Bool := E.anyOk (whoS s q i) (whoS ths oth i) (nI a) (nI b) (rrS E s q i) (nI (E.m + i)) l
theorem mo_ab {col : Nat → Int32} {s t a b a2 b2 r k l : Int32} {i : Nat} (h4 : i = 4 → a = a2) (h5 : i = 5 → b = b2) : mo col s t a b r k l i = mo col s t a2 b2 r k l i := by
  rcases i with _ | _ | _ | _ | _ | _ | _ | _ | i
  · rfl
  · rfl
  · rfl
  · rfl
  · exact h4 rfl
  · exact h5 rfl
  all_goals rfl
theorem FS_dep {E : En} {g : AHp} (x : CX E g) {s q ths oth : Int32} (i a b a2 b2 l : Nat) (h4 : tb (E.msk 1) 4 = true → a = a2) (h5 : tb (E.msk 1) 5 = true → b = b2) : FS E s q ths oth i a b l = FS E s q ths oth i a2 b2 l := by
  unfold FS En.anyOk
  refine anyT_congr 12 (fun t _ => ?_)
  rw [show E.ok 1 (whoS s q i) (nI t) (nI a) (nI b) (rrS E s q i) (nI (E.m + i)) l = E.ok 1 (whoS s q i) (nI t) (nI a2) (nI b2) (rrS E s q i) (nI (E.m + i)) l from x.dep (fun i hi hb => mo_ab (fun z => by rw [z] at hb; rw [h4 hb]) (fun z => by rw [z] at hb; rw [h5 hb]))]
def fB (E : En) : Bool := tb (E.msk 1) 5
def fA (E : En) : Bool := tb (E.msk 1) 5 || tb (E.msk 1) 4
def keyS (E : En) (i a b : Nat) : Nat := i * 625 + (if fA E = true then a * 25 else 0) + (if fB E = true then b else 0)
def GS (E : En) (s q ths oth : Int32) (n : Nat) (key : Nat) (v : Int32) : Prop := v = sv (FS E s q ths oth) (n - key / 625) (key / 625) (key % 625 / 25) (key % 25)
theorem GS_key {E : En} {g : AHp} (x : CX E g) {s q ths oth : Int32} {n i a b : Nat} (ha : a ≤ 24) (hb : b ≤ 24) (v : Int32) : GS E s q ths oth n (keyS E i a b) v ↔ v = sv (FS E s q ths oth) (n - i) i a b := by
  have hd := sv_dep (F := FS E s q ths oth) (pa := tb (E.msk 1) 4 = true) (pb := tb (E.msk 1) 5 = true) (fun i a b a2 b2 l h1 h2 => FS_dep x i a b a2 b2 l h1 h2) (n - i) i a b
  unfold GS keyS
  cases hA : fA E with
  | false =>
    unfold fA at hA
    rw [Bool.or_eq_false_iff] at hA
    have hB : fB E = false := hA.1
    rw [hB]
    simp only [if_neg (show ¬ (false = true) by simp)]
    rw [show (i * 625 + 0 + 0) / 625 = i by omega, show (i * 625 + 0 + 0) % 625 / 25 = 0 by omega, show (i * 625 + 0 + 0) % 25 = 0 by omega, hd 0 0 (fun z => by rw [hA.1, hA.2] at z; simp at z) (fun z => by rw [hA.1] at z; cases z)]
  | true =>
    cases hB : fB E with
    | false =>
      simp only [if_neg (show ¬ (false = true) by simp), if_true]
      rw [show (i * 625 + a * 25 + 0) / 625 = i by omega, show (i * 625 + a * 25 + 0) % 625 / 25 = a by omega, show (i * 625 + a * 25 + 0) % 25 = 0 by omega, hd a 0 (fun _ => rfl) (fun z => by unfold fB at hB; rw [hB] at z; cases z)]
    | true =>
      simp only [if_true]
      rw [show (i * 625 + a * 25 + b) / 625 = i by omega, show (i * 625 + a * 25 + b) % 625 / 25 = a by omega, show (i * 625 + a * 25 + b) % 25 = b by omega]
def SlX (E : En) (s q ths oth : Int32) (n : Nat) (g : AHp) : Prop := hI g 62 6 = nI n ∧ hI g 62 2 = s ∧ hI g 62 3 = ths ∧ hI g 62 4 = q ∧ hI g 62 5 = oth ∧ hI g 62 7 = E.r ∧ hI g 62 8 = E.a ∧ hI g 62 9 = E.b ∧ hI g 62 10 = nI E.m ∧ hI g 62 11 = (if fA E = true then 1 else 0) ∧ hI g 62 12 = (if fB E = true then 1 else 0)
theorem SlX.ch {P : Nat → Nat → Bool} {E : En} {s q ths oth : Int32} {n : Nat} {h g : AHp} (x : SlX E s q ths oth n h) (c : Ch P h g) (hp : ∀ i, P 62 i = false) : SlX E s q ths oth n g := by
  unfold SlX at x ⊢
  rw [c.r (k := 62) hp]; exact x
abbrev PV : Nat → Nat → Bool := fun k i => PC k i || k == 32
theorem pc_pv {h g : AHp} (c : Ch PC h g) : Ch PV h g := c.mono (fun k i hp => (Bool.or_eq_false_iff.mp hp).1)
theorem c32_pv {h g : AHp} (c : Ch (fun k _ => k == 32) h g) : Ch PV h g := c.mono (fun k i hp => (Bool.or_eq_false_iff.mp hp).2)
theorem pv_pk {h g : AHp} (c : Ch PV h g) : Ch PK h g := c.mono (fun k i hp => by
  simp only [Bool.or_eq_false_iff] at hp ⊢; exact ⟨hp.1, hp.2.1.2⟩)
theorem whoS_sp {s q : Int32} (hs : 0 ≤ s.toInt ∧ s.toInt ≤ 5) (hq : 0 ≤ q.toInt ∧ q.toInt ≤ 5) (i : Nat) : 0 ≤ (whoS s q i).toInt ∧ (whoS s q i).toInt ≤ 5 := by unfold whoS; split <;> assumption
theorem rrS_b {E : En} {s q : Int32} (hs : 0 ≤ s.toInt ∧ s.toInt ≤ 5) (hq : 0 ≤ q.toInt ∧ q.toInt ≤ 5) (i : Nat) : -1 ≤ (rrS E s q i).toInt ∧ (rrS E s q i).toInt ≤ 5 := by
  unfold rrS; split
  · exact E.hr
  · have := whoS_sp hs hq (i - 1); omega
theorem bst_some0 {p : Nat → Bool} (h : ∃ l, 1 ≤ l ∧ l ≤ 24 ∧ p l = true) : bst p (fun _ => 0) 24 = 0 := by
  obtain ⟨l, h1, h2, h3⟩ := h
  exact (bst_isB p _).uniq ⟨by decide, Or.inr ⟨l, h1, h2, h3, by show (0 : Int32) = -(0 : Int32); decide⟩, fun _ _ _ _ => by show (-(0 : Int32)).toInt ≤ (0 : Int32).toInt; decide⟩
theorem valueC {E : En} {s q ths oth : Int32} {n c : Nat} (hn : n ≤ 6) (hs : 0 ≤ s.toInt ∧ s.toInt ≤ 5) (hq : 0 ≤ q.toInt ∧ q.toInt ≤ 5) : ∀ (d i a b f : Nat) (g : AHp), i + d = n → d < f → a ≤ 24 → b ≤ 24 → CX E g → SlX E s q ths oth n g → MG g c (GS E s q ths oth n) →
    ∃ g1, m_X6_value f (nI i) (nI a) (nI b) g = some (sv (FS E s q ths oth) d i a b, g1) ∧ CX E g1 ∧ SlX E s q ths oth n g1 ∧ MG g1 c (GS E s q ths oth n) ∧ Ch PV g g1 := by
  have hm := E.hm
  intro d
  induction d with
  | zero =>
    intro i a b f g hi hf ha hb x sx mg
    obtain ⟨f, rfl⟩ : ∃ a, f = a + 1 := ⟨f - 1, by omega⟩
    refine ⟨g, ?_, x, sx, mg, Ch.rf⟩
    rw [m_X6_value]; unfold m_X6_value_b
    rw [sx.1, if_neg (nI_nlt (by omega) (by omega))]; rfl
  | succ d ih =>
    intro i a b f g hi hf ha hb x sx mg
    obtain ⟨f, rfl⟩ : ∃ a, f = a + 1 := ⟨f - 1, by omega⟩
    have hkb : keyS E i a b < 12500 := by
      unfold keyS
      have h1 : (if fA E = true then a * 25 else 0) ≤ 600 := by split <;> omega
      have h2 : (if fB E = true then b else 0) ≤ 24 := by split <;> omega
      omega
    have hki := GS_key x (s := s) (q := q) (ths := ths) (oth := oth) (n := n) (i := i) ha hb
    have hni : n - i = d + 1 := by omega
    rw [hni] at hki
    have e0 : m_X6_value (f + 1) (nI i) (nI a) (nI b) g = (bd (m_X3_has (nI (keyS E i a b)) g) fun r17 h18 => (if r17 = 0 then (if (nI i - nI i / 2 * 2) = 0 then (m_X6_value_b_79 (m_X6_value f) (nI i) (nI a) (nI b) (nI (keyS E i a b)) 1 h18) else (m_X6_value_b_79 (m_X6_value f) (nI i) (nI a) (nI b) (nI (keyS E i a b)) 0 h18)) else (bd (m_X3_get (nI (keyS E i a b)) h18) fun r19 h20 => (some (r19, h20))))) := by
      rw [m_X6_value]; unfold m_X6_value_b
      obtain ⟨s6, -, -, -, -, -, -, -, -, s11, s12⟩ := sx
      rw [s6, if_pos (nI_lt (by omega) (by omega)), s11, s12, show nI i * 625 = nI (i * 625) from pk_mul i 625, show nI a * 25 = nI (a * 25) from pk_mul a 25]
      unfold keyS m_X6_value_b_43
      cases hA : fA E with
      | false =>
        rw [i01_f, if_pos rfl]
        cases hB : fB E with
        | false =>
          rw [i01_f, if_pos rfl, lt_eq, show nI (i * 625) + 0 = nI (i * 625 + 0) from nI_add _ 0, show nI (i * 625 + 0) + 0 = nI (i * 625 + 0 + 0) from nI_add _ 0]; rfl
        | true =>
          rw [i01_t, if_neg one_ne, lt_eq, show nI (i * 625) + 0 = nI (i * 625 + 0) from nI_add _ 0, nI_add]; rfl
      | true =>
        rw [i01_t, if_neg one_ne]
        cases hB : fB E with
        | false =>
          rw [i01_f, if_pos rfl, lt_eq, nI_add, show nI (i * 625 + a * 25) + 0 = nI (i * 625 + a * 25 + 0) from nI_add _ 0]; rfl
        | true =>
          rw [i01_t, if_neg one_ne, lt_eq, nI_add, nI_add]; rfl
    rw [e0]
    rcases mg.hd hkb with hh | ⟨v, hv, -, hh, hget⟩
    rotate_left
    · refine ⟨g, ?_, x, sx, mg, Ch.rf⟩
      rw [hh, bd_some, if_neg one_ne, hget, bd_some, (hki v).mp hv]
    rw [hh, bd_some, if_pos rfl]
    obtain ⟨es, cs, xs, ss⟩ := x.stand (nI a) (nI b) (rrS E s q i) (nI (E.m + i))
    have sxs := sx.ch cs (fun _ => rfl)
    have mgs := mg.ch cs rfl (fun _ => rfl)
    obtain ⟨y, g1, e1, c1, x1, s1, q1⟩ := xs.any (things := whoS ths oth i) (L := 33554430) ss (whoS_sp hs hq i) (rrS_b hs hq i) (fun j hj hb => by rw [tb_mask hj] at hb; exact of_decide_eq_true hb)
    have c1' := PCl_PC c1
    have sx1 := sxs.ch c1' (fun _ => rfl)
    have mg1 := mgs.ch c1' rfl (fun _ => rfl)
    have c01 := cs.trans c1'
    have hy : ∀ j, j < 32 → tb y j = (decide (1 ≤ j ∧ j ≤ 24) && FS E s q ths oth i a b j) := fun j hj => by rw [q1 j hj, tb_mask hj]; rfl
    /- the loop over lengths -/
    have loop : ∀ (e l f2 : Nat) (g2 : AHp), l + e = 25 → 1 ≤ l → e < f2 → CX E g2 → SlX E s q ths oth n g2 → MG g2 c (GS E s q ths oth n) → ∃ g3, m_X6_value_b_197 (m_X6_value f) f2 (nI i) (nI a) (nI (keyS E i a b)) y (bst (FS E s q ths oth i a b) (fun l => sv (FS E s q ths oth) d (i + 1) l a) (l - 1)) (nI l) g2 = some (sv (FS E s q ths oth) (d + 1) i a b, g3) ∧ CX E g3 ∧ SlX E s q ths oth n g3 ∧ MG g3 c (GS E s q ths oth n) ∧ Ch PV g2 g3 := by
      have done : ∀ (g2 : AHp) (w : Int32), w = sv (FS E s q ths oth) (d + 1) i a b → CX E g2 → SlX E s q ths oth n g2 → MG g2 c (GS E s q ths oth n) → ∃ g3, (bd (m_X3_put (nI (keyS E i a b)) w g2) fun r1 h2 => (some (w, h2))) = some (sv (FS E s q ths oth) (d + 1) i a b, g3) ∧ CX E g3 ∧ SlX E s q ths oth n g3 ∧ MG g3 c (GS E s q ths oth n) ∧ Ch PV g2 g3 := by
        intro g2 w hw x2 sx2 mg2
        obtain ⟨g3, e3, m3, -, -, c3⟩ := mg2.put hkb ((hki w).mpr hw)
        exact ⟨g3, by rw [e3, bd_some, hw], x2.po (c32_po c3), sx2.ch c3 (fun _ => rfl), m3, c32_pv c3⟩
      intro e
      induction e with
      | zero =>
        intro l f2 g2 hl h1 hf2 x2 sx2 mg2
        obtain ⟨f2, rfl⟩ : ∃ a, f2 = a + 1 := ⟨f2 - 1, by omega⟩
        have : l = 25 := by omega
        subst this
        rw [m_X6_value_b_197, if_pos (by decide)]
        exact done g2 _ rfl x2 sx2 mg2
      | succ e ihe =>
        intro l f2 g2 hl h1 hf2 x2 sx2 mg2
        obtain ⟨f2, rfl⟩ : ∃ a, f2 = a + 1 := ⟨f2 - 1, by omega⟩
        rw [m_X6_value_b_197, if_neg (show ¬ 24 < nI l from nI_nlt (a := 24) (b := l) (by omega) (by omega))]
        by_cases htop : 1 ≤ bst (FS E s q ths oth i a b) (fun l => sv (FS E s q ths oth) d (i + 1) l a) (l - 1)
        · rw [if_pos htop]
          refine done g2 _ ?_ x2 sx2 mg2
          have := bst_top (p := FS E s q ths oth i a b) (v := fun l => sv (FS E s q ths oth) d (i + 1) l a) (fun l => sv_tri _ _ _ _ _) (25 - l) (l - 1) (by rw [i32_le] at htop; exact htop)
          rw [show l - 1 + (25 - l) = 24 by omega] at this
          rw [← this]; rfl
        · rw [if_neg htop]
          have hbl : bst (FS E s q ths oth i a b) (fun l => sv (FS E s q ths oth) d (i + 1) l a) (l + 1 - 1) = if FS E s q ths oth i a b l = true then (if bst (FS E s q ths oth i a b) (fun l => sv (FS E s q ths oth) d (i + 1) l a) (l - 1) < -(sv (FS E s q ths oth) d (i + 1) l a) then -(sv (FS E s q ths oth) d (i + 1) l a) else bst (FS E s q ths oth i a b) (fun l => sv (FS E s q ths oth) d (i + 1) l a) (l - 1)) else bst (FS E s q ths oth i a b) (fun l => sv (FS E s q ths oth) d (i + 1) l a) (l - 1) := by
            obtain ⟨m, rfl⟩ : ∃ m, l = m + 1 := ⟨l - 1, by omega⟩
            rfl
          have hyl := hy l (by omega)
          rw [decide_eq_true (by omega), Bool.true_and] at hyl
          cases hF : FS E s q ths oth i a b l with
          | false =>
            rw [hF] at hyl hbl
            rw [if_neg (by simp)] at hbl
            rw [if_pos ((hasC (by omega)).mpr hyl), lt_eq, nI_1, ← hbl]
            exact ihe (l + 1) f2 g2 (by omega) (by omega) (by omega) x2 sx2 mg2
          | true =>
            rw [hF] at hyl hbl
            rw [if_pos rfl] at hbl
            obtain ⟨g3, e3, x3, sx3, mg3, c3⟩ := ih (i + 1) l a f g2 (by omega) (by omega) (by omega) ha x2 sx2 mg2
            rw [if_neg (fun z => by rw [(hasC (by omega)).mp z] at hyl; cases hyl), nI_1, e3, bd_some, lt_eq, lt_eq, nI_1, ← hbl]
            obtain ⟨g4, e4, x4, sx4, mg4, c4⟩ := ihe (l + 1) f2 g3 (by omega) (by omega) (by omega) x3 sx3 mg3
            exact ⟨g4, e4, x4, sx4, mg4, c3.trans c4⟩
    /- up to the loop -/
    have e63 : ∀ hh : AHp, hh = stH g (nI a) (nI b) (rrS E s q i) (nI (E.m + i)) → ∃ g3, m_X6_value_b_163 (m_X6_value f) (nI i) (nI a) (nI (keyS E i a b)) (whoS s q i) (whoS ths oth i) hh = some (sv (FS E s q ths oth) (d + 1) i a b, g3) ∧ CX E g3 ∧ SlX E s q ths oth n g3 ∧ MG g3 c (GS E s q ths oth n) ∧ Ch PV g g3 := by
      intro hh ehh
      subst ehh
      unfold m_X6_value_b_163
      rw [e1, bd_some]
      obtain ⟨g3, e3, x3, sx3, mg3, c3⟩ := loop 24 1 FU g1 (by omega) (by omega) (by unfold FU; omega) x1 sx1 mg1
      have e3' : m_X6_value_b_197 (m_X6_value f) FU (nI i) (nI a) (nI (keyS E i a b)) y (-1) 1 g1 = some (sv (FS E s q ths oth) (d + 1) i a b, g3) := e3
      by_cases hy0 : y = 0
      · rw [if_pos hy0]
        exact ⟨g3, e3', x3, sx3, mg3, (pc_pv c01).trans c3⟩
      · rw [if_neg hy0, sx1.1, show nI n - 1 = nI (n - 1) from pk_sub (a := n) (b := 1) (by omega)]
        by_cases hl : d = 0
        · subst hl
          have hex : ∃ l, 1 ≤ l ∧ l ≤ 24 ∧ FS E s q ths oth i a b l = true := by
            by_cases hex : ∃ l, 1 ≤ l ∧ l ≤ 24 ∧ FS E s q ths oth i a b l = true
            · exact hex
            · exfalso; apply hy0
              rw [tb_eq0]; intro k hk
              rw [hy k hk]
              by_cases hk2 : 1 ≤ k ∧ k ≤ 24
              · cases hFk : FS E s q ths oth i a b k with
                | false => simp
                | true => exact absurd ⟨k, hk2.1, hk2.2, hFk⟩ hex
              · rw [decide_eq_false hk2]; rfl
          have hv : (0 : Int32) = sv (FS E s q ths oth) (0 + 1) i a b := by
            rw [sv]; exact (bst_some0 hex).symm
          rw [if_pos (by rw [show n - 1 = i by omega])]
          obtain ⟨g4, e4, m4, -, -, c4⟩ := mg1.put hkb ((hki 0).mpr hv)
          exact ⟨g4, by rw [e4, bd_some, ← hv], x1.po (c32_po c4), sx1.ch c4 (fun _ => rfl), m4, (pc_pv c01).trans (c32_pv c4)⟩
        · rw [if_neg (by rw [i32_eq, nI_toInt (by omega), nI_toInt (by omega)]; omega)]
          exact ⟨g3, e3', x3, sx3, mg3, (pc_pv c01).trans c3⟩
    have sx' := sx
    obtain ⟨s6, s2, s3, s4, s5, s7, s8, s9, s10, s11, s12⟩ := sx'
    have e2i : nI i - nI i / 2 * 2 = nI (i % 2) := pk_rem (a := i) (d := 2) (by omega) (by omega) (by omega)
    rw [e2i]
    have st0 : ∀ sp, sp = rrS E s q i → m_X9_stand (nI a) (nI b) sp ((hI g 62 10) + nI i) g = some ((), stH g (nI a) (nI b) (rrS E s q i) (nI (E.m + i))) := fun sp hsp => by rw [s10, nI_add, hsp]; exact es
    obtain ⟨t6, t2, t3, t4, t5, -⟩ := sxs
    by_cases hpar : i % 2 = 0
    · rw [if_pos (by rw [hpar]; rfl)]
      unfold m_X6_value_b_79
      have h108 : ∀ sp, sp = rrS E s q i → ∃ g3, m_X6_value_b_108 (m_X6_value f) (nI i) (nI a) (nI b) (nI (keyS E i a b)) 1 sp g = some (sv (FS E s q ths oth) (d + 1) i a b, g3) ∧ CX E g3 ∧ SlX E s q ths oth n g3 ∧ MG g3 c (GS E s q ths oth n) ∧ Ch PV g g3 := fun sp hsp => by
        unfold m_X6_value_b_108
        rw [st0 sp hsp, bd_some, if_neg one_ne, if_neg one_ne, t2, t3]
        have := e63 _ rfl
        rw [show whoS s q i = s from if_pos hpar, show whoS ths oth i = ths from if_pos hpar] at this
        exact this
      by_cases hi0 : i = 0
      · rw [if_pos (by rw [hi0]; rfl)]
        exact h108 _ (by rw [s7]; unfold rrS; rw [if_pos hi0])
      · rw [if_neg (fun z => hi0 ((nI_zero_iff (by omega)).mp z)), if_neg one_ne]
        exact h108 _ (by rw [s4]; unfold rrS whoS; rw [if_neg hi0, if_neg (by omega)])
    · rw [if_neg (fun z => hpar ((nI_zero_iff (by omega)).mp z))]
      unfold m_X6_value_b_79
      have h108 : ∀ sp, sp = rrS E s q i → ∃ g3, m_X6_value_b_108 (m_X6_value f) (nI i) (nI a) (nI b) (nI (keyS E i a b)) 0 sp g = some (sv (FS E s q ths oth) (d + 1) i a b, g3) ∧ CX E g3 ∧ SlX E s q ths oth n g3 ∧ MG g3 c (GS E s q ths oth n) ∧ Ch PV g g3 := fun sp hsp => by
        unfold m_X6_value_b_108
        rw [st0 sp hsp, bd_some, if_pos rfl, if_pos rfl, t4, t5]
        have := e63 _ rfl
        rw [show whoS s q i = q from if_neg hpar, show whoS ths oth i = oth from if_neg hpar] at this
        exact this
      rw [if_neg (fun z => by have := (nI_zero_iff (n := i) (by omega)).mp z; omega), if_pos rfl]
      exact h108 _ (by rw [s2]; unfold rrS whoS; rw [if_neg (by omega), if_pos (by omega)])
