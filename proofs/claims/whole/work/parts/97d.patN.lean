section RM2
variable {ty : Nat → Int32} {n p d : Nat} {g : AHp} {W N c X : Int32} {f : Nat}
theorem bgI_f {s : Int32} (h : bgI s = false) : ¬ (97 ≤ s.toInt ∧ s.toInt ≤ 122) ∧ ¬ s = 40 ∧ ¬ s = 91 := by
  unfold bgI wrd at h
  simp only [Bool.or_eq_false_iff, decide_eq_false_iff_not] at h
  exact ⟨h.1.1, h.1.2, h.2⟩
theorem cl41_bad {F : Int32} (x : hI g 70 6 = F) (hF : ¬ F = 0) (cc : Int32) : m_X12_closes_41 cc g = some ((), g) := by
  unfold m_X12_closes_41
  rw [badM x hF, bd_some, if_pos rfl]
theorem closesBad (x : TM ty n p d g) {cc : Int32} (h : d = 0 ∨ ¬ hI g 75 d = (if cc = 41 then 40 else 91)) : m_X12_closes cc g = some ((), sI g 70 6 (flt 1 p)) := by
  have hpn := x.2.1
  have hne : ¬ flt 1 p = 0 := flt_ne (k := 1) (by omega) (by omega) (by omega)
  have hb : ∀ cc, m_X12_closes_41 cc (sI g 70 6 (flt 1 p)) = some ((), sI g 70 6 (flt 1 p)) := fun cc => cl41_bad (F := flt 1 p) (by rw [hI_sI, if_pos ⟨rfl, rfl⟩]) hne cc
  unfold m_X12_closes m_X12_closes_29
  rw [x.1.2.2.2]
  by_cases h0 : d = 0
  · rw [if_pos (by rw [h0]; rfl), x.1.1, wrongsM x.1.2.2.1, bd_some, hb]
  · rw [if_neg (nI_ne0 (by omega) (by omega)), gd_pos (inb_nI (by omega) (by omega)), nI_clamp (by omega)]
    have h1 := h.resolve_left h0
    by_cases h41 : cc = 41
    · rw [if_pos h41] at h1
      rw [if_pos h41, if_neg h1, x.1.1, wrongsM x.1.2.2.1, bd_some, hb]
    · rw [if_neg h41] at h1
      rw [if_neg h41, if_neg h1, x.1.1, wrongsM x.1.2.2.1, bd_some, hb]
theorem closesTo (x : TM ty n p d g) (hd : 0 < d) {cc : Int32} (h : hI g 75 d = (if cc = 41 then 40 else 91)) : m_X12_closes cc g = m_X12_closes_41 cc g := by
  have hpn := x.2.1
  unfold m_X12_closes m_X12_closes_29
  rw [x.1.2.2.2, if_neg (nI_ne0 (by omega) (by omega)), gd_pos (inb_nI (by omega) (by omega)), nI_clamp (by omega), h]
  by_cases h41 : cc = 41
  · rw [if_pos h41, if_pos h41, if_pos rfl]
  · rw [if_neg h41, if_neg h41, if_pos rfl]
theorem closesEmpty (x : TM ty n p d g) (fr : Fr d W N 0 g) (cc : Int32) : ∃ g1, m_X12_closes_41 cc g = some ((), g1) ∧ hI g1 70 6 = flt 1 p ∧ Ch (Pd d) g g1 := by
  have hpn := x.2.1
  have hne : ¬ flt 1 p = 0 := flt_ne (k := 1) (by omega) (by omega) (by omega)
  obtain ⟨g1, e1, h1, c1⟩ := endsF x fr
  refine ⟨g1, ?_, h1, c1⟩
  unfold m_X12_closes_41
  rw [goodM x.1.2.2.1, bd_some, if_neg one_ne, e1, bd_some, badM h1 hne, bd_some, if_pos rfl]
theorem closesGood (x : TM ty n p (d + 1) g) (hp : p < n) (fr : Fr (d + 1) W N c g) (hc : ¬ c = 0) {W2 N2 c2 : Int32} (fr2 : Fr d W2 N2 c2 g) {cc b : Int32} (hb : (cc = 93 ∧ b = (W ||| N) ||| 1) ∨ (¬ cc = 93 ∧ b = W ||| N)) (hm : msk24 b) :
    ∃ g1, m_X12_closes_41 cc g = some ((), g1) ∧ TM ty n (tmS ty n b (p + 1)).2 d g1 ∧ Fr d W2 (jn N2 (tmS ty n b (p + 1)).1) 1 g1 ∧ Ch (Pd d) g g1 ∧ p < (tmS ty n b (p + 1)).2 := by
  have hpn := x.2.1
  obtain ⟨g1, e1, x1, f1, c1⟩ := endsM x fr hc
  have fr3 : Fr d W2 N2 c2 g1 := fr2.ch c1
  have e16 : nI (d + 1) - 1 = nI d := nI_pred d
  have x2 : TM ty n (p + 1) d (sI (sI g1 70 16 (nI d)) 70 4 (nI (p + 1))) := by
    obtain ⟨⟨y1, y2, y3, y4⟩, ⟨y5, y6, y7⟩, y8⟩ := x1
    exact ⟨⟨rfl, y2, y3, rfl⟩, ⟨by omega, y6, by omega⟩, y8⟩
  have fr4 : Fr d W2 N2 c2 (sI (sI g1 70 16 (nI d)) 70 4 (nI (p + 1))) := fr3
  obtain ⟨g2, e2, x3, f3, c3, l3⟩ := addsM x2 fr4 hm
  have c2' : Ch (Pd d) g1 (sI (sI g1 70 16 (nI d)) 70 4 (nI (p + 1))) := (Ch.rf.sI (by simp)).sI (by simp)
  refine ⟨g2, ?_, x3, f3, ((pd_up (by omega) c1).trans c2').trans c3, by omega⟩
  have h81 : ∀ s1 : Int32, (W ||| N) ||| s1 = b → m_X12_closes_81 (W ||| N) s1 g1 = some ((), g2) := fun s1 hs => by
    unfold m_X12_closes_81
    rw [hs, lt_eq, lt_eq, x1.1.2.2.2, e16, lt_eq, hI_sI, if_neg (by omega), x1.1.1, nI_1, e2, bd_some]
  unfold m_X12_closes_41
  rw [goodM x.1.2.2.1, bd_some, if_neg one_ne, e1, bd_some, goodM x1.1.2.2.1, bd_some, if_neg one_ne, x1.1.2.2.2, gd_pos (inb_nI (by omega) (by omega)), nI_clamp (by omega), f1.1]
  rcases hb with ⟨h1, h2⟩ | ⟨h1, h2⟩
  · rw [if_pos h1]; exact h81 1 h2.symm
  · rw [if_neg h1]; exact h81 0 (by rw [h2, or0])
/-- no item where one is due -/
theorem noItemM (x : TM ty n p d g) (fr : Fr d W N 0 g) (hb : bgI (sg ty n p) = false) (hf : n - p + 1 < f) : ∃ g1, m_X12_thing_58 f X g = some (flt 1 p, g1) ∧ Ch (Pd 0) g g1 := by
  have hpn := x.2.1
  have hne : ¬ flt 1 p = 0 := flt_ne (k := 1) (by omega) (by omega) (by omega)
  obtain ⟨f, rfl⟩ : ∃ a, f = a + 1 := ⟨f - 1, by omega⟩
  by_cases hp : p < n
  rotate_left
  · rw [t58_end x hp]
    by_cases hd : 0 < d
    · rw [t83_open x hd]; exact ⟨_, rfl, Ch.rf.sI (by simp)⟩
    · obtain ⟨g1, e1, h1, c1⟩ := endsF x fr
      refine ⟨g1, ?_, pd_up (by omega) c1⟩
      unfold m_X12_thing_83
      rw [goodM x.1.2.2.1, bd_some, if_neg one_ne, x.1.2.2.2, if_pos (by rw [show d = 0 by omega]; decide), goodM x.1.2.2.1, bd_some, if_neg one_ne, e1, bd_some, t117_bad h1 hne]
  · obtain ⟨f, rfl⟩ : ∃ a, f = a + 1 := ⟨f - 1, by omega⟩
    obtain ⟨b1, b2, b3⟩ := bgI_f hb
    have key : ∃ g1, m_X12_sign g = some ((), g1) ∧ hI g1 70 6 = flt 1 p ∧ Ch (Pd 0) g g1 := by
      unfold m_X12_sign
      rw [hereM x, bd_some, sg_sz hp, liesI, bd_some, b2i_f (by exact b1), if_pos rfl, if_neg b2, if_neg b3]
      by_cases h124 : sg ty n p = 124
      · obtain ⟨g1, e1, h1, c1⟩ := endsF x fr
        rw [if_pos h124, e1, bd_some, lt_eq]
        exact ⟨_, rfl, by rw [hI_sI, if_neg (by omega)]; exact h1, (pd_up (by omega) c1).sI (by simp)⟩
      · rw [if_neg h124]
        have cl : ∀ cc, ∃ g1, m_X12_closes cc g = some ((), g1) ∧ hI g1 70 6 = flt 1 p ∧ Ch (Pd 0) g g1 := fun cc => by
          by_cases hd : d = 0 ∨ ¬ hI g 75 d = (if cc = 41 then 40 else 91)
          · rw [closesBad x hd]
            exact ⟨_, rfl, by rw [hI_sI, if_pos ⟨rfl, rfl⟩], Ch.rf.sI (by simp)⟩
          · have hd2 := not_or.mp hd
            rw [closesTo x (by omega) (Decidable.not_not.mp hd2.2)]
            obtain ⟨g1, e1, h1, c1⟩ := closesEmpty x fr cc
            exact ⟨g1, e1, h1, pd_up (by omega) c1⟩
        obtain ⟨g1, e1, h1, c1⟩ := cl (sg ty n p)
        by_cases h41 : sg ty n p = 41
        · rw [if_pos h41, e1, bd_some]; exact ⟨g1, rfl, h1, c1⟩
        · rw [if_neg h41]
          by_cases h93 : sg ty n p = 93
          · rw [if_pos h93, e1, bd_some]; exact ⟨g1, rfl, h1, c1⟩
          · rw [if_neg h93, x.1.1, wrongsM x.1.2.2.1, bd_some]
            exact ⟨_, rfl, by rw [hI_sI, if_pos ⟨rfl, rfl⟩], Ch.rf.sI (by simp)⟩
    obtain ⟨g1, e1, h1, c1⟩ := key
    rw [t58_go x hp, e1, bd_some, t58_bad h1 hne]
    exact ⟨g1, rfl, c1⟩
/-- what closes is not there: a fault where the text stands -/
theorem stopM (x : TM ty n p d g) (hd : 0 < d) (hb : bgI (sg ty n p) = false) (h124 : ¬ sg ty n p = 124) (hcl : ¬ ((sg ty n p = 41 ∧ hI g 75 d = 40) ∨ (sg ty n p = 93 ∧ hI g 75 d = 91))) (hf : n - p + 1 < f) : ∃ g1, m_X12_thing_58 f X g = some (flt 1 p, g1) ∧ Ch (Pd 0) g g1 := by
  have hpn := x.2.1
  have hne : ¬ flt 1 p = 0 := flt_ne (k := 1) (by omega) (by omega) (by omega)
  obtain ⟨f, rfl⟩ : ∃ a, f = a + 1 := ⟨f - 1, by omega⟩
  by_cases hp : p < n
  rotate_left
  · rw [t58_end x hp, t83_open x hd]; exact ⟨_, rfl, Ch.rf.sI (by simp)⟩
  · obtain ⟨f, rfl⟩ : ∃ a, f = a + 1 := ⟨f - 1, by omega⟩
    obtain ⟨b1, b2, b3⟩ := bgI_f hb
    have hz : hI (sI g 70 6 (flt 1 p)) 70 6 = flt 1 p := by rw [hI_sI, if_pos ⟨rfl, rfl⟩]
    have key : m_X12_sign g = some ((), sI g 70 6 (flt 1 p)) := by
      unfold m_X12_sign
      rw [hereM x, bd_some, sg_sz hp, liesI, bd_some, b2i_f (by exact b1), if_pos rfl, if_neg b2, if_neg b3, if_neg h124]
      by_cases h41 : sg ty n p = 41
      · rw [if_pos h41, closesBad x (Or.inr (by rw [if_pos h41]; exact fun h => hcl (Or.inl ⟨h41, h⟩))), bd_some]
      · rw [if_neg h41]
        by_cases h93 : sg ty n p = 93
        · rw [if_pos h93, closesBad x (Or.inr (by rw [if_neg h41]; exact fun h => hcl (Or.inr ⟨h93, h⟩))), bd_some]
        · rw [if_neg h93, x.1.1, wrongsM x.1.2.2.1, bd_some]
    rw [t58_go x hp, key, bd_some, t58_bad hz hne]
    exact ⟨_, rfl, Ch.rf.sI (by simp)⟩
end RM2
def OutI (ty : Nat → Int32) (n p d : Nat) (W N X : Int32) (f : Nat) (g : AHp) (r : RSp) : Prop := match r with
  | .inl F => ∃ g1, m_X12_thing_58 f X g = some (F, g1) ∧ Ch (Pd 0) g g1
  | .inr y => ∃ f' g1, m_X12_thing_58 f X g = m_X12_thing_58 f' X g1 ∧ n - y.2 + 1 < f' ∧ TM ty n y.2 d g1 ∧ Fr d W (jn N y.1) 1 g1 ∧ Ch (Pd d) g g1 ∧ msk24 y.1 ∧ p < y.2
/-- way: stands behind it, no item follows -/
def OutY (ty : Nat → Int32) (n p d : Nat) (W X : Int32) (f : Nat) (g : AHp) (r : RSp) : Prop := match r with
  | .inl F => ∃ g1, m_X12_thing_58 f X g = some (F, g1) ∧ Ch (Pd 0) g g1
  | .inr y => ∃ f' g1, m_X12_thing_58 f X g = m_X12_thing_58 f' X g1 ∧ n - y.2 + 1 < f' ∧ TM ty n y.2 d g1 ∧ Fr d W y.1 1 g1 ∧ Ch (Pd d) g g1 ∧ msk24 y.1 ∧ p ≤ y.2 ∧ bgI (sg ty n y.2) = false
def OutW (ty : Nat → Int32) (n p d : Nat) (X : Int32) (f : Nat) (g : AHp) (r : RSp) : Prop := match r with
  | .inl F => ∃ g1, m_X12_thing_58 f X g = some (F, g1) ∧ Ch (Pd 0) g g1
  | .inr y => ∃ f' g1 W N, m_X12_thing_58 f X g = m_X12_thing_58 f' X g1 ∧ n - y.2 + 1 < f' ∧ TM ty n y.2 d g1 ∧ Fr d W N 1 g1 ∧ W ||| N = y.1 ∧ Ch (Pd d) g g1 ∧ msk24 y.1 ∧ p ≤ y.2 ∧ bgI (sg ty n y.2) = false ∧ ¬ sg ty n y.2 = 124
def RecM (ty : Nat → Int32) (n : Nat) (X : Int32) (srec : Nat → Nat → RSp) (o : Nat) : Prop := ∀ p g f, TM ty n p o g → Fr o 0 1 0 g → n - p + 1 < f → OutW ty n p o X f g (srec o p)
section RM3
variable {ty : Nat → Int32} {n d : Nat} {X : Int32} {srec : Nat → Nat → RSp}
theorem itemM (hrec : d < 6 → RecM ty n X srec (d + 1)) {p f : Nat} {g : AHp} {W N c : Int32} (x : TM ty n p d g) (fr : Fr d W N c g) (hb : bgI (sg ty n p) = true) (hf : n - p + 1 < f) : OutI ty n p d W N X f g (itS ty n srec d p) := by
  have hpn := x.2.1
  have hp : p < n := sg_lt (fun h => by rw [h] at hb; revert hb; decide)
  obtain ⟨f, rfl⟩ : ∃ a, f = a + 1 := ⟨f - 1, by omega⟩
  obtain ⟨f, rfl⟩ : ∃ a, f = a + 1 := ⟨f - 1, by omega⟩
  have hgo := t58_go x hp (f + 1) X
  unfold m_X12_sign at hgo
  rw [hereM x, bd_some, sg_sz hp, liesI, bd_some] at hgo
  unfold itS
  cases hw : wrd (sg ty n p) with
  | true =>
    have hw2 : 97 ≤ (sg ty n p).toInt ∧ (sg ty n p).toInt ≤ 122 := of_decide_eq_true hw
    have h2 : msk24 2 := by unfold msk24; decide
    have x1 : TM ty n (p + 1) d (sI g 70 4 (nI (p + 1))) := x.at (by omega)
    have f1 : Fr d W N c (sI g 70 4 (nI (p + 1))) := fr
    obtain ⟨g2, e2, x2, f2, c2, l2⟩ := addsM x1 f1 h2
    rw [b2i_t (by exact hw2), if_neg one_ne, lt_eq, x.1.1, nI_1, e2, bd_some, bd_some] at hgo
    rw [if_pos rfl]
    exact ⟨f + 1, g2, hgo, by have := x2.2.1; omega, x2, f2, (Ch.rf.sI (by simp)).trans c2, tmS_msk h2, by omega⟩
  | false =>
    have hw2 : ¬ (97 ≤ (sg ty n p).toInt ∧ (sg ty n p).toInt ≤ 122) := of_decide_eq_false hw
    have hs : sg ty n p = 40 ∨ sg ty n p = 91 := by
      unfold bgI at hb
      rw [hw, Bool.false_or, Bool.or_eq_true, decide_eq_true_iff, decide_eq_true_iff] at hb
      exact hb
    have hgo2 : m_X12_thing_58 (f + 1 + 1) X g = bd (m_X12_sign_49 (sg ty n p) g) (fun _ h => m_X12_thing_58 (f + 1) X h) := by
      rw [hgo, b2i_f (by exact hw2), if_pos rfl]
      by_cases h40 : sg ty n p = 40
      · rw [if_pos h40]
      · rw [if_neg h40, if_pos (hs.resolve_left h40)]
    rw [if_neg (show ¬ (false = true) by decide), if_pos hs]
    unfold m_X12_sign_49 m_X12_sign_67 at hgo2
    rw [x.1.2.2.2] at hgo2
    by_cases hd : d < 6
    · rw [if_pos hd]
      rw [if_neg (show ¬ nI d = 6 by rw [show (6 : Int32) = nI 6 from rfl, nI_eq (by omega) (by omega)]; omega), goodM x.1.2.2.1, bd_some, if_neg one_ne, x.1.2.2.2, lt_eq, nI_1, hI_sI, if_pos ⟨rfl, rfl⟩, gd_pos (inb_nI (by omega) (by omega)), nI_clamp (by omega), lt_eq, hI_sI, if_neg (by omega), hI_sI, if_neg (by omega), x.1.1, nI_1, lt_eq] at hgo2
      -- the frame opened
      have hx0 : TM ty n (p + 1) (d + 1) (sI (sI (sI g 70 16 (nI (d + 1))) 75 (d + 1) (sg ty n p)) 70 4 (nI (p + 1))) := by
        obtain ⟨⟨y1, y2, y3, y4⟩, ⟨y5, y6, y7⟩, y8⟩ := x
        refine ⟨⟨rfl, ?_, ?_, ?_⟩, ⟨by omega, y6, by omega⟩, fun i hi => ?_⟩
        · rw [hI_sI, if_neg (by omega), hI_sI, if_neg (by omega), hI_sI, if_neg (by omega)]; exact y2
        · rw [hI_sI, if_neg (by omega), hI_sI, if_neg (by omega), hI_sI, if_neg (by omega)]; exact y3
        · rw [hI_sI, if_neg (by omega), hI_sI, if_neg (by omega), hI_sI, if_pos ⟨rfl, rfl⟩]
        · rw [hI_sI, if_neg (by omega), hI_sI, if_neg (by omega), hI_sI, if_neg (by omega)]; exact y8 i hi
      have c0 : Ch (fun k i => (k == 70 && (i == 4 || i == 16)) || (k == 75 && i == d + 1)) g (sI (sI (sI g 70 16 (nI (d + 1))) 75 (d + 1) (sg ty n p)) 70 4 (nI (p + 1))) := ((Ch.rf.sI (by simp)).sI (by simp)).sI (by simp)
      have h75 : hI (sI (sI (sI g 70 16 (nI (d + 1))) 75 (d + 1) (sg ty n p)) 70 4 (nI (p + 1))) 75 (d + 1) = sg ty n p := by
        rw [hI_sI, if_neg (by omega), hI_sI, if_pos ⟨rfl, rfl⟩]
      generalize sI (sI (sI g 70 16 (nI (d + 1))) 75 (d + 1) (sg ty n p)) 70 4 (nI (p + 1)) = g0 at hgo2 hx0 c0 h75
      have hbg : ∃ g1, m_X12_begins g0 = some ((), g1) ∧ Fr (d + 1) 0 1 0 g1 ∧ Ch (fun k i => (k == 73 || k == 74 || k == 76) && i == d + 1) g0 g1 := by
        have gi : inb (nI (d + 1)) 7 := inb_nI (by omega) (by omega)
        have ec : (nI (d + 1)).toNatClampNeg = d + 1 := nI_clamp (by omega)
        refine ⟨sI (sI (sI g0 73 (d + 1) 0) 74 (d + 1) 1) 76 (d + 1) 0, ?_, ⟨?_, ?_, ?_⟩, ((Ch.rf.sI (by simp)).sI (by simp)).sI (by simp)⟩
        · unfold m_X12_begins
          rw [hx0.1.2.2.2, gd_pos gi, ec, lt_eq, hI_sI, if_neg (by omega), hx0.1.2.2.2, gd_pos gi, ec, lt_eq, hI_sI, if_neg (by omega), hI_sI, if_neg (by omega), hx0.1.2.2.2, gd_pos gi, ec, vb0, lt_eq]
        · rw [hI_sI, if_neg (by omega), hI_sI, if_neg (by omega), hI_sI, if_pos ⟨rfl, rfl⟩]
        · rw [hI_sI, if_neg (by omega), hI_sI, if_pos ⟨rfl, rfl⟩]
        · rw [hI_sI, if_pos ⟨rfl, rfl⟩]
      obtain ⟨g1, e1, f1, c1⟩ := hbg
      rw [e1, bd_some, bd_some] at hgo2
      have x1 : TM ty n (p + 1) (d + 1) g1 := hx0.ch c1 (by simp) (fun i => by simp)
      have h751 : hI g1 75 (d + 1) = sg ty n p := by rw [c1.i (k := 75) (i := d + 1) rfl, h75]
      have c01 : Ch (Pd d) g g1 := (c0.mono (fun k i hp => by
        simp only [Bool.or_eq_false_iff, Bool.and_eq_false_iff, beq_eq_false_iff_ne, ble_f] at hp ⊢; omega)).trans (pd_up (by omega) (frd_pd c1))
      have frd : Fr d W N c g1 := by
        have h1 := c0.i (k := 73) (i := d) rfl
        have h2 := c0.i (k := 74) (i := d) rfl
        have h3 := c0.i (k := 76) (i := d) rfl
        unfold Fr at fr ⊢
        rw [c1.i (k := 73) (i := d) (by simp), c1.i (k := 74) (i := d) (by simp), c1.i (k := 76) (i := d) (by simp), h1, h2, h3]; exact fr
      have hrs := hrec hd (p + 1) g1 (f + 1) x1 f1 (by omega)
      cases hr : srec (d + 1) (p + 1) with
      | inl F =>
        rw [hr] at hrs
        obtain ⟨g2, e2, c2⟩ := hrs
        rw [rsb_l]
        exact ⟨g2, by rw [hgo2, e2], (pd_up (by omega) c01).trans c2⟩
      | inr y =>
        obtain ⟨b, q⟩ := y
        rw [hr] at hrs
        obtain ⟨f', g2, W2, N2, e2, hf2, x2, f2, hWN, c2, m2, l2, b2, n2⟩ := hrs
        simp only [] at hf2 x2 hWN m2 l2 b2 n2
        have hqn := x2.2.1
        have h752 : hI g2 75 (d + 1) = sg ty n p := by rw [c2.i (pd_f (d + 1)).2.2.2, h751]
        have fr2 : Fr d W N c g2 := frd.ch c2
        rw [rsb_r]
        by_cases hcl : sg ty n q = (if sg ty n p = 40 then 41 else 93)
        · rw [if_pos hcl]
          have hq : q < n := sg_lt (fun h => by
            rw [h] at hcl
            revert hcl
            by_cases h40 : sg ty n p = 40
            · rw [if_pos h40]; decide
            · rw [if_neg h40]; decide)
          obtain ⟨f'', rfl⟩ : ∃ a, f' = a + 1 := ⟨f' - 1, by omega⟩
          have hm : msk24 (if sg ty n p = 91 then b ||| 1 else b) := by
            split
            · exact or_msk m2 (by unfold msk24; decide)
            · exact m2
          have hbb : (sg ty n q = 93 ∧ (if sg ty n p = 91 then b ||| 1 else b) = (W2 ||| N2) ||| 1) ∨ (¬ sg ty n q = 93 ∧ (if sg ty n p = 91 then b ||| 1 else b) = W2 ||| N2) := by
            by_cases h40 : sg ty n p = 40
            · rw [if_pos h40] at hcl
              exact Or.inr ⟨by rw [hcl]; decide, by rw [if_neg (by rw [h40]; decide), hWN]⟩
            · rw [if_neg h40] at hcl
              exact Or.inl ⟨hcl, by rw [if_pos (hs.resolve_left h40), hWN]⟩
          obtain ⟨g3, e3, x3, f3, c3, l3⟩ := closesGood x2 hq f2 one_ne fr2 hbb hm
          have ho : hI g2 75 (d + 1) = (if sg ty n q = 41 then 40 else 91) := by
            rw [h752]
            by_cases h40 : sg ty n p = 40
            · rw [if_pos h40] at hcl; rw [hcl, if_pos rfl, h40]
            · rw [if_neg h40] at hcl; rw [hcl, if_neg (by decide)]; exact hs.resolve_left h40
          have hsn : m_X12_sign g2 = some ((), g3) := by
            obtain ⟨z1, z2, z3⟩ := bgI_f b2
            unfold m_X12_sign
            rw [hereM x2, bd_some, sg_sz hq, liesI, bd_some, b2i_f (by exact z1), if_pos rfl, if_neg z2, if_neg z3, if_neg n2]
            by_cases h40 : sg ty n p = 40
            · rw [if_pos h40] at hcl
              rw [if_pos hcl, closesTo x2 (by omega) ho, e3, bd_some]
            · rw [if_neg h40] at hcl
              rw [if_neg (by rw [hcl]; decide), if_pos hcl, closesTo x2 (by omega) ho, e3, bd_some]
          refine ⟨f'', g3, ?_, by have := x3.2.1; omega, x3, f3, (c01.trans (pd_up (by omega) c2)).trans c3, tmS_msk hm, by omega⟩
          rw [hgo2, e2, t58_go x2 hq, hsn, bd_some]
        · rw [if_neg hcl]
          obtain ⟨g3, e3, c3⟩ := stopM (X := X) x2 (by omega) b2 n2 (by
            rw [h752]
            rintro (⟨h1, h2⟩ | ⟨h1, h2⟩)
            · exact hcl (by rw [if_pos h2, h1])
            · exact hcl (by rw [if_neg (by rw [h2]; decide), h1])) hf2
          exact ⟨g3, by rw [hgo2, e2, e3], ((pd_up (by omega) c01).trans (pd_up (by omega) c2)).trans c3⟩
    · have hne : ¬ flt 5 p = 0 := flt_ne (k := 5) (by omega) (by omega) (by omega)
      have hz : hI (sI g 70 6 (flt 5 p)) 70 6 = flt 5 p := by rw [hI_sI, if_pos ⟨rfl, rfl⟩]
      rw [if_neg hd]
      rw [if_pos (show nI d = 6 by rw [show d = 6 by omega]; rfl), x.1.1, wrongsM x.1.2.2.1, bd_some, badM hz hne, bd_some, if_pos rfl, bd_some, t58_bad hz hne] at hgo2
      exact ⟨_, hgo2, Ch.rf.sI (by simp)⟩
end RM3
