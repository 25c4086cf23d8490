/-! held and coded: the class's answer -/
def pl (F : Nat → Nat → Nat → Nat → Bool) (n : Nat) : Nat → Nat → Nat → Nat → Nat
  | 0, _, a, _ => a
  | d + 1, i, a, b => match bo F (n - i - 1) i a b with
    | some (_, j) => pl F n d (i + 1) j a
    | none => 0
theorem lengthAtC {E : En} {H : HPar} {c B D : Nat} {wt : Nat} {g : AHp} (hwt : wt < H.n) (x : CX E g) (hx : HX E H g) (hj : HJ E H c B D g) : ∀ (d i a b f : Nat), i + d = wt + 1 → d < f → a ≤ 24 → b ≤ 24 → wd (FH E H) (H.n - i) i a b ≠ none → (i < H.n → ∃ v, MP g c (keyH E H i a b) v) → m_X1_lengthAt_9 f (nI wt) (nI a) (nI b) (nI i) g = some (nI (pl (FH E H) H.n d i a b), g) := by
  have hn := H.hn
  intro d
  induction d with
  | zero =>
    intro i a b f hi hf ha hb hw hp
    obtain ⟨f, rfl⟩ : ∃ a, f = a + 1 := ⟨f - 1, by omega⟩
    rw [m_X1_lengthAt_9, if_pos (nI_lt (by omega) (by omega))]; rfl
  | succ d ih =>
    intro i a b f hi hf ha hb hw hp
    obtain ⟨f, rfl⟩ : ∃ a, f = a + 1 := ⟨f - 1, by omega⟩
    have hkb := keyH_lt (E := E) (H := H) (i := i) (show i < 12 by omega) ha hb
    obtain ⟨v, hv⟩ := hp (by omega)
    have hR : GH E H (keyH E H i a b) v := by
      rcases hj.2.2.1.2.2 _ hkb with h1 | ⟨u, h1, h2⟩
      · rw [show hL g 32 (keyH E H i a b) = pack c v from hv, pack_high hj.2.2.1.2.1] at h1; omega
      · rw [hv.uniq h1]; exact h2
    rw [GH_key x ha hb] at hR
    rw [show H.n - i = (H.n - i - 1) + 1 by omega, wd_bo] at hw
    cases hb2 : bo (FH E H) (H.n - i - 1) i a b with
    | none => rw [hb2] at hw; exact absurd rfl hw
    | some wj =>
      obtain ⟨w, j⟩ := wj
      have hbb := bo_b (show H.n - i - 1 ≤ 12 by omega) hb2
      rw [hb2] at hR
      obtain ⟨⟨a1, a2, a3, r, a4, a5⟩, -⟩ := bw_some 24 _ j hb2
      obtain ⟨kd1, kd2, kd3⟩ := keyH_dec (E := E) (H := H) (i := i) ha hb
      have hcl := (hj.2.2.2 _ v hkb hv (by rw [kd1]; omega)).2 w j (by
        rw [kd1, kd2, kd3]
        rw [← bo_dep (F := FH E H) (fun i a b a2 b2 l h1 h2 => FH_dep x i a b a2 b2 l h1 h2) (H.n - i - 1) i a b _ _ (col_same a b).1 (col_same a b).2]; exact hb2)
      rw [kd1, kd2, keyH_next] at hcl
      rw [m_X1_lengthAt_9, if_neg (nI_nlt (by omega) (by omega)), hx.1.2.1, if_neg (nI_ge (by omega) (by omega)), keyOfC hx, bd_some, hv.get hkb, bd_some, hR, encV_and (by omega) (by omega), lt_eq, lt_eq, nI_1]
      rw [ih (i + 1) j a f (by omega) (by omega) (by omega) ha (by rw [show H.n - (i + 1) = H.n - i - 1 by omega, show wd (FH E H) (H.n - i - 1) (i + 1) j a = some r from a4]; simp) (fun h => hcl (by omega))]
      rw [pl, hb2]
theorem place_none {x : Int32} (h : x = 0) (g : AHp) : ∀ (d l f : Nat), l + d = 25 → d < f → m_X11_placeOfBit_4 f x 0 (nI l) g = some (-1, g)
  | 0, l, f, hl, hf => by
    obtain ⟨f, rfl⟩ : ∃ a, f = a + 1 := ⟨f - 1, by omega⟩
    have : l = 25 := by omega
    subst this
    rw [m_X11_placeOfBit_4, if_pos (by decide)]
  | d + 1, l, f, hl, hf => by
    obtain ⟨f, rfl⟩ : ∃ a, f = a + 1 := ⟨f - 1, by omega⟩
    rw [m_X11_placeOfBit_4, if_neg (show ¬ 25 ≤ nI l from nI_ge (a := l) (b := 25) (by omega) (by omega)), if_pos ((hasC (by omega)).mpr (by rw [h, tb_zero])), lt_eq, nI_1]
    exact place_none h g d (l + 1) f (by omega) (by omega)
theorem mlC (H : HPar) {i : Nat} (hi : i < H.n) (g : AHp) : ∃ r, m_X11_placeOfBit (H.len i) 0 g = some (r, g) ∧ (if 0 < r then r else 0) = nI (mlH H i) := by
  unfold m_X11_placeOfBit mlH
  by_cases h0 : H.len i = 0
  · exact ⟨-1, place_none h0 g 25 0 FU (by omega) (by unfold FU; omega), by rw [if_neg (by decide), if_pos h0]; rfl⟩
  · have h25 : ∀ k, 25 ≤ k → k < 32 → tb (H.len i) k = false := fun k h1 h2 => by
      cases hb : tb (H.len i) k with
      | false => rfl
      | true => have := H.hl i hi k h2 hb; omega
    have hc : 0 < cntF (H.len i) 0 := by rw [cntF_all]; exact Nat.pos_of_ne_zero (fun z => h0 ((pcI_eq0 _).mp z))
    have hs := nthB_spec h25 25 0 0 (by omega) hc
    have := (H.hl i hi _ (by omega) hs.2.2)
    refine ⟨nI (nthB (H.len i) 25 0 0), placeC h25 g 25 0 0 FU (by omega) (by omega) hc (by unfold FU; omega), ?_⟩
    rw [if_neg h0, if_pos (show 0 < nI (nthB (H.len i) 25 0 0) from nI_lt (a := 0) (by omega) (by omega))]
theorem sumLeastC {E : En} {H : HPar} : ∀ (k f : Nat) (g : AHp), k ≤ 13 → k < f → CX E g → hI g 51 8 = nI H.n → (∀ i, i < H.n → hI g 54 i = H.len i) → (∀ i, k ≤ i → i ≤ H.n → hI g 55 i = nI (lsD H (H.n - i) i)) → ∃ g1, m_X1_sumLeast_3 f (nI k + (-1)) g = some ((), g1) ∧ (∀ i, i ≤ H.n → hI g1 55 i = nI (lsD H (H.n - i) i)) ∧ Ch (fun k _ => k == 55) g g1 := by
  have hn := H.hn
  intro k
  induction k with
  | zero =>
    intro f g hk hf x h8 h54 h55
    obtain ⟨f, rfl⟩ : ∃ a, f = a + 1 := ⟨f - 1, by omega⟩
    exact ⟨g, by rw [m_X1_sumLeast_3, if_pos (by decide)], fun i hi => h55 i (by omega) hi, Ch.rf⟩
  | succ k ih =>
    intro f g hk hf x h8 h54 h55
    obtain ⟨f, rfl⟩ : ∃ a, f = a + 1 := ⟨f - 1, by omega⟩
    have ek : nI (k + 1) + (-1) = nI k := by rw [nI_dec (by omega), Nat.add_sub_cancel]
    have step : ∀ v, (k ≤ H.n → v = nI (lsD H (H.n - k) k)) → ∃ g1, m_X1_sumLeast_3 f (nI k + (-1)) (sI g 55 k v) = some ((), g1) ∧ (∀ i, i ≤ H.n → hI g1 55 i = nI (lsD H (H.n - i) i)) ∧ Ch (fun k _ => k == 55) g g1 := fun v hv => by
      have c : Ch (fun k _ => k == 55) g (sI g 55 k v) := Ch.rf.sI rfl
      obtain ⟨g1, e1, q1, c1⟩ := ih f (sI g 55 k v) (by omega) (by omega) (x.po (Ch.rf.sI rfl)) (by rw [c.i rfl, h8]) (fun i hi => by rw [c.i rfl, h54 i hi]) (fun i h1 h2 => by
        rw [hI_sI]
        by_cases hik : i = k
        · rw [if_pos ⟨rfl, hik⟩, hik]; exact hv (by omega)
        · rw [if_neg (by omega)]; exact h55 i (by omega) h2)
      exact ⟨g1, e1, q1, c.trans c1⟩
    rw [ek, m_X1_sumLeast_3, if_neg (nI_pos (by omega)), h8]
    by_cases hkn : H.n ≤ k
    · rw [if_pos (nI_le hkn (by omega)), gd_pos (inb_nI (by omega) (by omega)), nI_clamp (by omega), lt_eq, lt_eq]
      exact step 0 (fun h => by rw [show H.n - k = 0 by omega]; rfl)
    · obtain ⟨r, er, hr⟩ := mlC H (show k < H.n by omega) g
      rw [if_neg (nI_ge (by omega) (by omega))]
      simp only [nI_1, gd_pos (inb_nI (n := k + 1) (N := 13) (by omega) (by omega)), gd_pos (inb_nI (n := k) (N := 12) (by omega) (by omega)), gd_pos (inb_nI (n := k) (N := 13) (by omega) (by omega)), nI_clamp (n := k) (show k < 2 ^ 31 by omega), nI_clamp (n := k + 1) (show k + 1 < 2 ^ 31 by omega), lt_eq]
      rw [h54 k (by omega), er, bd_some, hr, h55 (k + 1) (by omega) (by omega), nI_add]
      exact step _ (fun _ => by rw [show H.n - k = (H.n - (k + 1)) + 1 by omega, lsD])
/-- what is answered -/
def resH (E : En) (H : HPar) (an bn : Nat) (what : Int32) : Int32 := if what = 20 then nI (dr (FH E H) H.n 0 an bn) else match wd (FH E H) H.n 0 an bn with
  | none => -2
  | some w => if what = -1 then nI w else nI (pl (FH E H) H.n (what.toNatClampNeg + 1) 0 an bn)
/-- all but the least lengths and the deepest place -/
def HX0 (E : En) (H : HPar) (g : AHp) : Prop := (hI g 51 6 = H.laws ∧ hI g 51 8 = nI H.n ∧ hI g 51 12 = (if gA E H = true then 1 else 0) ∧ hI g 51 13 = (if gB E H = true then 1 else 0)) ∧ (∀ i, i < H.n → hI g 52 i = H.who i ∧ hI g 53 i = H.wat i ∧ hI g 54 i = H.len i)
theorem answerH {E : En} {H : HPar} {c an bn : Nat} {what : Int32} {h : AHp} (h1n : 1 ≤ H.n) (hc : c < 1000000) (ea : E.a = nI an) (ha : an ≤ 24) (eb : E.b = nI bn) (hb : bn ≤ 24) (hwt : what = -1 ∨ what = 20 ∨ ∃ wt, what = nI wt ∧ wt < H.n) (x : CX E h) (hx : HX0 E H h) (mi : MIx h c) :
    ∃ g R, m_X1_answer what h = some (resH E H an bn what, g) ∧ CX E g ∧ MG g (c + 1) R ∧ Ch PK h g := by
  have hn := H.hn
  obtain ⟨g0, e0, mg0, c0⟩ := memo_begin mi hc (GH E H)
  have c0' := c31_po c0
  have x0 := x.po c0'
  have wr : ∀ (g : AHp) (i : Nat) (v : Int32), CX E g → CX E (sI g 51 i v) := fun g i v xg => xg.po (Ch.rf.sI rfl)
  have x1 := wr g0 9 E.r x0
  have x2 := wr _ 10 (nI E.m) x1
  have x3 := wr _ 11 0 x2
  have c3 : Ch (fun k i => k == 51 && (i == 9 || i == 10 || i == 11)) g0 (sI (sI (sI g0 51 9 E.r) 51 10 (nI E.m)) 51 11 0) := ((Ch.rf.sI rfl).sI rfl).sI rfl
  generalize hg3 : sI (sI (sI g0 51 9 E.r) 51 10 (nI E.m)) 51 11 0 = g3 at x3 c3
  have f51 : ∀ i, (i = 6 ∨ i = 8 ∨ i = 12 ∨ i = 13) → hI g3 51 i = hI h 51 i := fun i hi => by rw [c3.i (by simp; omega), c0.i rfl]
  have fA : ∀ k i, k = 52 ∨ k = 53 ∨ k = 54 → hI g3 k i = hI h k i := fun k i hk => by rw [c3.i (by simp; omega), c0.i (by simp; omega)]
  obtain ⟨g4, e4, q4, c4⟩ := sumLeastC (E := E) (H := H) 13 FU g3 (by omega) (by unfold FU; omega) x3 (by rw [f51 8 (by omega), hx.1.2.1]) (fun i hi => by rw [fA 54 i (by omega), (hx.2 i hi).2.2]) (fun i h1 h2 => by omega)
  have c4' : Ch PO g3 g4 := c4.mono (fun k i hp => by
    simp only [Bool.or_eq_false_iff, Bool.and_eq_false_iff, beq_eq_false_iff_ne, ble_f] at hp ⊢; omega)
  have c3' : Ch PO g0 g3 := c3.mono (fun k i hp => by
    simp only [Bool.or_eq_false_iff, Bool.and_eq_false_iff, beq_eq_false_iff_ne, ble_f] at hp ⊢; omega)
  have x4 := x3.po c4'
  have hx4 : HX E H g4 := by
    refine ⟨⟨?_, ?_, ?_, ?_, ?_, ?_⟩, fun i hi => ?_, q4⟩
    · rw [c4.i rfl, f51 6 (by omega), hx.1.1]
    · rw [c4.i rfl, f51 8 (by omega), hx.1.2.1]
    · rw [c4.i rfl, ← hg3]; rfl
    · rw [c4.i rfl, ← hg3]; rfl
    · rw [c4.i rfl, f51 12 (by omega), hx.1.2.2.1]
    · rw [c4.i rfl, f51 13 (by omega), hx.1.2.2.2]
    · rw [c4.i rfl, c4.i rfl, c4.i rfl, fA 52 i (by omega), fA 53 i (by omega), fA 54 i (by omega)]; exact hx.2 i hi
  have eL : ∀ key, hL g4 32 key = hL h 32 key := fun key => by
    rw [(c4 32 key rfl).2.1, (c3 32 key rfl).2.1, (c0 32 key rfl).2.1]
  have hj4 : HJ E H (c + 1) (dr (FH E H) H.n 0 an bn) 0 g4 := by
    refine ⟨by rw [c4.i rfl, ← hg3]; rfl, by omega, (mg0.ch c3 rfl (fun _ => rfl)).ch c4 rfl (fun _ => rfl), fun key v hk hm _ => ?_⟩
    exfalso
    have h1 : hL g4 32 key = pack (c + 1) v := hm
    have h2 := mi.2 key hk
    rw [← eL key, h1, pack_high (by omega)] at h2
    omega
  obtain ⟨D, g5, e5, x5, hx5, hj5, hD, hdr5, p5, pr5, c5⟩ := fewC (c := c + 1) (B := dr (FH E H) H.n 0 an bn) (by have := dr_le (F := FH E H) H.n 0 an bn; omega) H.n 0 an bn 14 0 g4 (by omega) (by omega) ha hb x4 hx4 hj4 (Nat.le_refl _)
  have hDe : D = dr (FH E H) H.n 0 an bn := by have := hj5.2.1; omega
  refine ⟨g5, GH E H, ?_, x5, hj5.2.2.1, ((po_pk c0').trans (po_pk c3')).trans ((po_pk c4').trans (pvh_pk c5))⟩
  unfold m_X1_answer
  rw [e0, bd_some, x0.spkA, bd_some]
  simp only [lt_eq]
  rw [x1.1, hg3]
  unfold m_X1_sumLeast
  rw [show m_X1_sumLeast_3 FU 12 g3 = some ((), g4) from e4, bd_some, x4.spanA, bd_some, x4.spanB, bd_some, ea, eb]
  rw [show m_X1_fewest 14 0 (nI an) (nI bn) g4 = _ from e5, bd_some]
  unfold resH
  by_cases h20 : what = 20
  · rw [if_pos h20, if_pos h20, hj5.1, hDe]
  rw [if_neg h20, if_neg h20]
  cases hw : wd (FH E H) H.n 0 an bn with
  | none => simp only []; rw [show encW none = -1 from rfl, if_neg (by decide)]
  | some w =>
    simp only []
    have := wd_le H.n 0 an bn w hw
    rw [show encW (some w) = nI w from rfl, if_pos (by rw [i32_le, nI_toInt (by omega)]; simp only [tIall]; omega)]
    by_cases hm1 : what = -1
    · rw [if_pos hm1, if_pos hm1]
    · rw [if_neg hm1, if_neg hm1]
      obtain ⟨wt, hwt1, hwt2⟩ : ∃ wt, what = nI wt ∧ wt < H.n := by
        rcases hwt with h | h | h
        · exact absurd h hm1
        · exact absurd h h20
        · exact h
      have e6 := lengthAtC (wt := wt) hwt2 x5 hx5 hj5 (wt + 1) 0 an bn FU (by omega) (by unfold FU; omega) ha hb (by rw [Nat.sub_zero, hw]; simp) (fun h => p5 h)
      unfold m_X1_lengthAt
      rw [hwt1, show m_X1_lengthAt_9 FU (nI wt) (nI an) (nI bn) 0 g5 = _ from e6, bd_some, nI_clamp (by omega)]
