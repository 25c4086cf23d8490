/-! waited: both -/
theorem WR_no {Sp : Nat → Prop} {Q : Nat → Nat → Nat → Nat → Nat → Nat → Prop} {l : Nat} (h : ∀ i a b q s, ¬ Q i a b q s l) : ∀ n i F v, WR Sp Q l n i F v → v = -2 := by
  intro n
  induction n with
  | zero => intro i F v hr; exact hr
  | succ n ih =>
    intro i F v hr
    rcases hr with ⟨⟨a, b, q, s, _, _, _, hq⟩, _⟩ | ⟨_, hr⟩
    · exact absurd hq (h i a b q s)
    · exact ih (i + 1) _ v hr
section WB
variable {E : En} {l : Nat} {sp : Int32}
def Q0 (E : En) (q0 : Nat) : Prop := (E.m = 0 ∧ q0 = 0) ∨ (1 ≤ E.m ∧ E.r = nI (q0 - 1) ∧ 1 ≤ q0)
theorem wtm_start {a0 b0 q0 : Nat} (ha : E.a = nI a0) (hb : E.b = nI b0) (hq : Q0 E q0) (ha2 : a0 ≤ 24) (hb2 : b0 ≤ 24) (hq2 : q0 ≤ 6) :
    ∀ (d t f : Nat) (g : AHp), t + d = 4375 → d < f → RX E g → (∀ n, n < t → hI g 109 n = 0) →
    ∃ g1, m_X12_waited_23 f sp (nI l) (nI t) g = m_X12_waited_82 FU sp (nI l) 0 g1 ∧ Ch PVw g g1 ∧ RX E g1 ∧ ∀ n, n < 4375 → hI g1 109 n = (if n = kq a0 b0 q0 then 1 else 0) := by
  have hm := E.hm
  have hk : kq a0 b0 q0 < 4375 := (kq_f (q := q0) (a := a0) (b := b0) (by omega) (by omega) (by omega)).2.2
  intro d
  induction d with
  | zero =>
    intro t f g ht hf x hz
    obtain ⟨f, rfl⟩ : ∃ a, f = a + 1 := ⟨f - 1, by omega⟩
    have : t = 4375 := by omega
    subst this
    have c0 : Ch PVw g (sI g 109 (kq a0 b0 q0) 1) := Ch.rf.sI (by rfl)
    have hr : ∀ n, n < 4375 → hI (sI g 109 (kq a0 b0 q0) 1) 109 n = (if n = kq a0 b0 q0 then 1 else 0) := fun n hn => by
      rw [hI_sI]
      by_cases e : n = kq a0 b0 q0
      · rw [if_pos ⟨rfl, e⟩, if_pos e]
      · rw [if_neg (fun h => e h.2), if_neg e, hz n hn]
    have h7 : (7 : Int32) * nI (25 * a0 + b0) = nI (7 * (25 * a0 + b0)) := pk_mul 7 _
    rw [m_X12_waited_23, if_pos (by decide), startPairM x ha hb, bd_some, x.1, h7]
    rcases hq with ⟨h0, hq0⟩ | ⟨h1, hr1, hq1⟩
    · have ek : nI (7 * (25 * a0 + b0)) + 6 = nI (kq a0 b0 q0) := by
        rw [show nI (7 * (25 * a0 + b0)) + 6 = nI (7 * (25 * a0 + b0) + 6) from nI_add _ 6]; unfold kq; rw [if_pos hq0]
      rw [if_pos (by rw [h0]; decide), ek, gd_pos (inb_nI hk (by omega)), nI_clamp (by omega), vb1, lt_eq]
      exact ⟨_, rfl, c0, x.pv c0, hr⟩
    · have e1 : nI E.m - 1 = nI (E.m - 1) := pk_sub (a := E.m) (b := 1) h1
      have er : hI g 94 (E.m - 1) = nI (q0 - 1) := by
        have := x.2.2.2.2.2.2
        unfold spkR at this
        rw [if_pos h1] at this
        rw [this, hr1]
      have ek : nI (7 * (25 * a0 + b0)) + nI (q0 - 1) = nI (kq a0 b0 q0) := by
        rw [nI_add]; unfold kq; rw [if_neg (by omega)]
      rw [if_neg (nI_nle (by omega) (by omega)), e1, gd_pos (inb_nI (by omega) (by omega)), nI_clamp (show E.m - 1 < 2 ^ 31 by omega), er, ek, gd_pos (inb_nI hk (by omega)), nI_clamp (by omega), vb1, lt_eq]
      exact ⟨_, rfl, c0, x.pv c0, hr⟩
  | succ d ih =>
    intro t f g ht hf x hz
    obtain ⟨f, rfl⟩ : ∃ a, f = a + 1 := ⟨f - 1, by omega⟩
    rw [m_X12_waited_23, if_neg (show ¬ 4375 ≤ nI t from nI_ge (a := t) (b := 4375) (by omega) (by omega)), gd_pos (inb_nI (by omega) (by omega)), lt_eq, lt_eq, nI_1, nI_clamp (by omega), vb0]
    have c0 : Ch PVw g (sI g 109 t 0) := Ch.rf.sI (by rfl)
    obtain ⟨g1, e1, c1, x1, r1⟩ := ih (t + 1) f (sI g 109 t 0) (by omega) (by omega) (x.pv c0) (fun n hn => by
      rw [hI_sI]
      by_cases e : n = t
      · rw [if_pos ⟨rfl, e⟩]
      · rw [if_neg (fun h => e h.2)]; exact hz n (by omega))
    exact ⟨g1, e1, c0.trans c1, x1, r1⟩
theorem ms_start {a0 b0 q0 : Nat} (ha2 : a0 ≤ 24) (hb2 : b0 ≤ 24) (hq2 : q0 ≤ 6) {g : AHp} (h : ∀ n, n < 4375 → hI g 109 n = (if n = kq a0 b0 q0 then 1 else 0)) (a b q : Nat) : MS 109 g a b q ↔ (a = a0 ∧ b = b0 ∧ q = q0) := by
  constructor
  · rintro ⟨ha, hb, hq, hn⟩
    obtain ⟨k1, k2, k3⟩ := kq_f hq ha hb
    obtain ⟨j1, j2, j3⟩ := kq_f (q := q0) (a := a0) (b := b0) (by omega) (by omega) (by omega)
    rw [h _ k3] at hn
    by_cases e : kq a b q = kq a0 b0 q0
    · rw [e] at k1 k2
      have e1 : 25 * a + b = 25 * a0 + b0 := k1.symm.trans j1
      have e2 : (if q = 0 then 6 else q - 1) = (if q0 = 0 then 6 else q0 - 1) := k2.symm.trans j2
      refine ⟨by omega, by omega, ?_⟩
      by_cases hq0 : q = 0
      · rw [if_pos hq0] at e2
        by_cases hq1 : q0 = 0
        · omega
        · rw [if_neg hq1] at e2; omega
      · rw [if_neg hq0] at e2
        by_cases hq1 : q0 = 0
        · rw [if_pos hq1] at e2; omega
        · rw [if_neg hq1] at e2; omega
    · rw [if_neg e] at hn; exact absurd rfl hn
  · rintro ⟨rfl, rfl, rfl⟩
    obtain ⟨j1, j2, j3⟩ := kq_f (q := q) (a := a) (b := b) (by omega) (by omega) (by omega)
    refine ⟨by omega, by omega, by omega, ?_⟩
    rw [h _ j3, if_pos rfl]; exact one_ne
/-- both answer the same -/
theorem wait_both {g0 g1 : AHp} {T : Int32} {a0 b0 q0 : Nat} (ha2 : a0 ≤ 24) (hb2 : b0 ≤ 24) (hq2 : q0 ≤ 6) {v w : Int} (x : CX E g0) (hT : DF E (fl (E.msk 1) 68) (fl (E.msk 1) 136) sp T)
    (hm : ∀ n, n < 4375 → hI g1 109 n = (if n = kq a0 b0 q0 then 1 else 0))
    (hr : WR (fun s => tb sp s = true) (fun i a b q s z => wq E i a b q s z = true) l 6 0 (MS 109 g1) v)
    (hc : WC (fl (E.msk 1) 32 || fl (E.msk 1) 16) (fl (E.msk 1) 32) (fl (E.msk 1) 192) (fl (E.msk 1) 256) (fun s => tb T s = true) (fun i a b q s z => wq E i a b q s z = true) l 6 0
      (St1 (fl (E.msk 1) 32 || fl (E.msk 1) 16) (fl (E.msk 1) 32) (fl (E.msk 1) 192) a0 b0 q0) (St1 (fl (E.msk 1) 32 || fl (E.msk 1) 16) (fl (E.msk 1) 32) (fl (E.msk 1) 192) a0 b0 q0) w) : v = w := by
  refine wait_same _ _ _ _ _ _ _ l (sEq E (fl (E.msk 1) 68) (fl (E.msk 1) 136)) (fun h => by rw [h]; rfl) (fun q => ⟨fun _ => rfl, fun _ => rfl⟩) (fun s hs h => ?_) (fun s hs h => hT.1 s hs h) (fun i a b q a' b' q' s s' z h1 h2 h3 h4 => ?_) (fun hk i j a b q s z hs h => ?_) 6 0 _ _ _ v w (fun a b q h => ?_) (fun a b q h => ?_) (fun _ a b q h => h) (fun _ a b q h => Or.inl h) hr hc
  · obtain ⟨s', h1, h2, h3, h4⟩ := hT.2 s hs h
    exact ⟨s', h1, h2, fun e => by rw [h3 e], fun e => by rw [dq_s hs, dq_s h1]; exact h4 e⟩
  · exact Bool.eq_iff_iff.mp (wq_Q x h1 h2 h3 h4)
  · rw [← wq_K x hk i j a b q s z hs]; exact h
  · obtain ⟨ea, eb, eq⟩ := h
    refine ⟨a0, b0, q0, (ms_start ha2 hb2 hq2 hm _ _ _).mpr ⟨rfl, rfl, rfl⟩, fun h => ?_, fun h => ?_, fun h => ?_⟩
    · rw [ea, if_pos h]
    · rw [eb, if_pos h]
    · rw [eq, if_pos h]; exact ⟨fun _ => rfl, fun _ => rfl⟩
  · obtain ⟨ea, eb, eq⟩ := (ms_start ha2 hb2 hq2 hm _ _ _).mp h
    refine ⟨_, _, _, Or.inl ⟨rfl, rfl, rfl⟩, fun h => ?_, fun h => ?_, fun h => ?_⟩
    · rw [ea, if_pos h]
    · rw [eb, if_pos h]
    · rw [eq, if_pos h]; exact ⟨fun _ => rfl, fun _ => rfl⟩
end WB
abbrev PW4 : Nat → Nat → Bool := fun k i => PC k i || k == 63 || k == 64 || k == 65 || k == 66
theorem pw4_pk {h g : AHp} (c : Ch PW4 h g) : Ch PK h g := c.mono (fun k i hp => by
  simp only [Bool.or_eq_false_iff, Bool.and_eq_false_iff, beq_eq_false_iff_ne, ble_f] at hp ⊢; omega)
theorem pw3_4 {h g : AHp} (c : Ch PW3 h g) : Ch PW4 h g := c.mono (fun k i hp => by
  simp only [Bool.or_eq_false_iff, Bool.and_eq_false_iff, beq_eq_false_iff_ne, ble_f] at hp ⊢; omega)
theorem p3_4 {h g : AHp} (c : Ch P3 h g) : Ch PW4 h g := c.mono (fun k i hp => by
  simp only [Bool.or_eq_false_iff, Bool.and_eq_false_iff, beq_eq_false_iff_ne, ble_f] at hp ⊢; omega)
theorem pv_pkm {h g : AHp} (c : Ch PVw h g) : Ch PKm h g := c.mono (fun k i hp => by
  simp only [Bool.or_eq_false_iff, Bool.and_eq_false_iff, beq_eq_false_iff_ne, ble_f] at hp ⊢; omega)
theorem sim_waited {h : AHp} {c : Nat} (sp l : Int32) (hB : BI h) (hI0 : LI h) (hmi : MIx h c) : SimK PAll c h (m_X11_waited sp l) (m_X12_waited sp l) := by
  by_cases hs : 1 ≤ sp.toInt ∧ sp.toInt ≤ 63
  rotate_left
  · refine SimK.same hB hI0 hmi (-1) ?_ ?_
    · unfold m_X11_waited
      by_cases h1 : sp < 1
      · rw [if_pos h1]
      · rw [if_neg h1, if_pos]
        rw [i32_lt] at h1 ⊢
        simp only [tIall] at h1 ⊢
        omega
    · unfold m_X12_waited; rw [liesI, bd_some, b2i_f (by exact hs), if_pos rfl]
  by_cases hl : 1 ≤ l.toInt ∧ l.toInt ≤ 24
  rotate_left
  · refine SimK.same hB hI0 hmi (-1) ?_ ?_
    · unfold m_X11_waited
      rw [if_neg (by rw [i32_lt]; simp only [tIall]; omega), if_neg (by rw [i32_lt]; simp only [tIall]; omega)]
      by_cases h1 : l < 1
      · rw [if_pos h1]
      · rw [if_neg h1, if_neg]
        rw [i32_lt] at h1
        rw [i32_le]
        simp only [tIall] at h1 ⊢
        omega
    · unfold m_X12_waited; rw [liesI, bd_some, b2i_t (by exact hs), if_neg one_ne, isSizeM, bd_some, b2i_f hl, if_pos rfl]
  have hguC : m_X11_waited sp l h = bd (m_X10_answer sp l h) fun r1 h2 => (some (r1, h2)) := by
    unfold m_X11_waited
    rw [if_neg (by rw [i32_lt]; simp only [tIall]; omega), if_neg (by rw [i32_lt]; simp only [tIall]; omega), if_neg (by rw [i32_lt]; simp only [tIall]; omega), if_pos (by rw [i32_le]; simp only [tIall]; omega)]
  have hguM : ∀ g, m_X12_waited sp l g = m_X12_waited_23 FU sp l 0 g := fun g => by
    unfold m_X12_waited; rw [liesI, bd_some, b2i_t (by exact hs), if_neg one_ne, isSizeM, bd_some, b2i_t hl, if_neg one_ne]
  obtain ⟨l, rfl, hl1, hl2⟩ := nat_in (lo := 1) (hi := 24) hl
  obtain ⟨cl0, cl1, K0, K1, v0, v1, hLR⟩ := id hI0
  obtain ⟨E, xC, xR, ⟨rfl, rfl, rfl, rfl, rfl, rfl⟩, e701⟩ := hB.en hLR
  obtain ⟨a0, ea, ha⟩ := E.a_nat
  obtain ⟨b0, eb, hb⟩ := E.b_nat
  have hcol : ∀ i, i < 6 → 0 ≤ (E.col i).toInt ∧ (E.col i).toInt ≤ 3 := fun i hi => by
    rw [← xC.2.2.2.1.1]; exact (hB.2.2.1 i hi).2
  have hq : ∃ q0, q0 ≤ 6 ∧ Q0 E q0 ∧ E.r + 1 = nI q0 := by
    have hsp := xC.2.2.2.2.2.2.2
    unfold spkR at hsp
    by_cases h1 : 1 ≤ E.m
    · rw [if_pos h1] at hsp
      have hm := E.hm
      have := (hB.2.2.2.1.2.2.2.2 (E.m - 1) (by rw [xC.1, nI_toInt (by omega)]; omega)).1.2
      rw [hsp] at this
      obtain ⟨q, hq, _, hq5⟩ := nat_in (x := E.r) (lo := 0) (hi := 5) this
      exact ⟨q + 1, by omega, Or.inr ⟨h1, hq, by omega⟩, by rw [hq, nI_1]⟩
    · rw [if_neg h1] at hsp
      exact ⟨0, by omega, Or.inl ⟨by omega, rfl⟩, by rw [← hsp]; rfl⟩
  obtain ⟨q0, hq6, hQ0, hqr⟩ := hq
  -- what the class's part ends with
  have fin : ∀ (v : Int32) (g1 : AHp), m_X10_answer sp (nI l) h = some (v, g1) → CX E g1 → Ch PW4 h g1 →
      (∀ g2 w, (∀ n, n < 4375 → hI g2 109 n = (if n = kq a0 b0 q0 then 1 else 0)) → WR (fun s => tb sp s = true) (fun i a b q s z => wq E i a b q s z = true) l 6 0 (MS 109 g2) w → w = v.toInt) →
      SimK PAll c h (m_X11_waited sp (nI l)) (m_X12_waited sp (nI l)) := fun v g1 e1 x1 c1 hv => by
    obtain ⟨g2, e2, c2, x2, r2⟩ := wtm_start (sp := sp) (l := l) ea eb hQ0 ha hb hq6 4375 0 FU g1 (by omega) (by unfold FU; omega) (xR.pk (pw4_pk c1)) (fun n hn => by omega)
    obtain ⟨w, g3, e3, c3, x3, r3⟩ := wtm_82 (E := E) (sp := sp) (l := l) ⟨hl1, hl2⟩ 6 0 FU g2 (by omega) (by unfold FU; omega) x2
    have hw : w = v := i32_eq.mpr (hv g2 _ r2 r3)
    have cm := pv_pkm (c2.trans c3)
    have cc := (pk_all (pw4_pk c1)).trans (pkm_all cm)
    refine ⟨v, g1, g3, ?_, ?_, hB.all cc, ⟨E.cl0, E.cl1, E.K0, E.K1, E.v0, E.v1, x1.2.2.2.2.1.pkm cm, hLR.2.1.same (sameLM.all cc), hLR.2.2.same (sameLM.all cc)⟩, Or.inl ((hmi.ch c1 rfl (fun _ => rfl)).ch cm rfl (fun _ => rfl)), cc⟩
    · rw [hguC, e1, bd_some]
    · rw [hguM, show m_X12_waited_23 FU sp (nI l) 0 g1 = _ from e2, show m_X12_waited_82 FU sp (nI l) 0 g2 = _ from e3, hw]
  have c0 : Ch PW4 h (sI h 63 5 ((1 : Int32) <<< (nI l &&& 31))) := Ch.rf.sI (by rfl)
  have x0 : CX E (sI h 63 5 ((1 : Int32) <<< (nI l &&& 31))) := xC.po (Ch.rf.sI (by rfl))
  obtain ⟨y, ey, hy⟩ := x0.sizes
  by_cases hno : tb y l = false
  · refine fin (-2) (sI h 63 5 ((1 : Int32) <<< (nI l &&& 31))) ?_ x0 c0 (fun g2 w r2 r3 => ?_)
    · unfold m_X10_answer
      rw [lt_eq, ey, bd_some, sI_same, if_pos ((one_bit0 y (by omega)).mpr hno)]
    · refine WR_no (fun i a b q s hw => ?_) 6 0 _ w r3
      unfold wq En.anyOk at hw
      rw [anyT_iff] at hw
      obtain ⟨t, ht, hw⟩ := hw
      rw [hy l (by omega)] at hno
      have : anyT (fun t => tb (E.siz t) l) 12 = true := (anyT_iff 12).mpr ⟨t, ht, by
        simp only [Bool.and_eq_true] at hw
        exact hw.1.2⟩
      rw [this] at hno; cases hno
  · obtain ⟨T, g1, e1, c1, x1, hT, wx, s64, s66⟩ := beginC (W := (1 : Int32) <<< (nI l &&& 31)) x0 hcol sp (sI_same _ _ _ _) ea eb hqr ha hb hq6
    obtain ⟨v, g2, e2, c2, x2, r2⟩ := waitC (E := E) (l := l) ⟨hl1, hl2⟩ rfl (fun hk i a b q s s2 z h1 h2 => wq_S x1 hk i a b q s s2 z h1 h2) 6 0 FU g1 (by omega) (by unfold FU; omega) x1 wx
    rw [s64, s66] at r2
    refine fin v g2 ?_ x2 ((c0.trans (p3_4 c1)).trans (pw3_4 c2)) (fun g3 w r3 r4 => wait_both (sp := sp) ha hb hq6 x0 hT r3 r4 r2)
    unfold m_X10_answer
    rw [lt_eq, ey, bd_some, sI_same, if_neg (fun z => hno ((one_bit0 y (by omega)).mp z)), e1, bd_some]
    exact e2
