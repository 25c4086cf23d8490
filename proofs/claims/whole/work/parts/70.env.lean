/-! what a call finds, told once for both sides -/
abbrev EnD : Type := Nat × Nat × (Nat → Int32) × (Nat → Int32) × (Nat → Int32) × List Clz × List Clz × (Nat → Prop) × (Nat → Prop) × (Nat → Int32) × (Nat → Int32) × Int32 × Int32 × Int32
def EnOK (m c : Nat) (ty siz : Nat → Int32) (a b r : Int32) : Prop := m ≤ 200 ∧ c ≤ 220 ∧ (∀ i, i < c → 0 ≤ (ty i).toInt ∧ (ty i).toInt ≤ 255) ∧ (∀ i, i < 12 → ∀ k, k < 32 → tb (siz i) k = true → 1 ≤ k ∧ k ≤ 24) ∧ (-1 ≤ r.toInt ∧ r.toInt ≤ 5) ∧ (0 ≤ a.toInt ∧ a.toInt ≤ 24) ∧ (0 ≤ b.toInt ∧ b.toInt ≤ 24)
abbrev En : Type := { d : EnD // EnOK d.1 d.2.1 d.2.2.1 d.2.2.2.2.1 d.2.2.2.2.2.2.2.2.2.2.2.1 d.2.2.2.2.2.2.2.2.2.2.2.2.1 d.2.2.2.2.2.2.2.2.2.2.2.2.2 }
def En.m (E : En) : Nat := E.1.1
def En.c (E : En) : Nat := E.1.2.1
def En.ty (E : En) : Nat → Int32 := E.1.2.2.1
def En.col (E : En) : Nat → Int32 := E.1.2.2.2.1
def En.siz (E : En) : Nat → Int32 := E.1.2.2.2.2.1
def En.cl0 (E : En) : List Clz := E.1.2.2.2.2.2.1
def En.cl1 (E : En) : List Clz := E.1.2.2.2.2.2.2.1
def En.K0 (E : En) : Nat → Prop := E.1.2.2.2.2.2.2.2.1
def En.K1 (E : En) : Nat → Prop := E.1.2.2.2.2.2.2.2.2.1
def En.v0 (E : En) : Nat → Int32 := E.1.2.2.2.2.2.2.2.2.2.1
def En.v1 (E : En) : Nat → Int32 := E.1.2.2.2.2.2.2.2.2.2.2.1
def En.a (E : En) : Int32 := E.1.2.2.2.2.2.2.2.2.2.2.2.1
def En.b (E : En) : Int32 := E.1.2.2.2.2.2.2.2.2.2.2.2.2.1
def En.r (E : En) : Int32 := E.1.2.2.2.2.2.2.2.2.2.2.2.2.2
theorem En.hm (E : En) : E.m ≤ 200 := E.2.1
theorem En.hc (E : En) : E.c ≤ 220 := E.2.2.1
theorem En.hty (E : En) : ∀ i, i < E.c → 0 ≤ (E.ty i).toInt ∧ (E.ty i).toInt ≤ 255 := E.2.2.2.1
theorem En.hsz (E : En) : ∀ i, i < 12 → ∀ k, k < 32 → tb (E.siz i) k = true → 1 ≤ k ∧ k ≤ 24 := E.2.2.2.2.1
theorem En.hr (E : En) : -1 ≤ E.r.toInt ∧ E.r.toInt ≤ 5 := E.2.2.2.2.2.1
theorem En.ha (E : En) : 0 ≤ E.a.toInt ∧ E.a.toInt ≤ 24 := E.2.2.2.2.2.2.1
theorem En.hb (E : En) : 0 ≤ E.b.toInt ∧ E.b.toInt ≤ 24 := E.2.2.2.2.2.2.2
def CX (E : En) (g : AHp) : Prop := hI g 42 3 = nI E.m ∧ hI g 1 1 = nI E.c ∧ (∀ i, i < E.c → hI g 2 i = E.ty i) ∧ (hI g 5 = E.col ∧ hI g 4 = E.siz) ∧ L2 g E.cl0 E.cl1 E.K0 E.K1 E.v0 E.v1 ∧ (lenA g 45 E.m = E.a ∧ lenB g 45 E.m = E.b ∧ spkR g 43 E.m = E.r)
def RX (E : En) (g : AHp) : Prop := hI g 70 3 = nI E.m ∧ (∀ i, i < E.c → hI g 71 i &&& 255 = E.ty i) ∧ ((∀ i, i < 6 → hI g 91 i = E.col i) ∧ ∀ i, i < 12 → hI g 72 i = E.siz i) ∧ (LawM g 0 E.cl0 ∧ LawM g 1 E.cl1) ∧ (lenA g 96 E.m = E.a ∧ lenB g 96 E.m = E.b ∧ spkR g 94 E.m = E.r)
theorem and255 (x : Int32) : 0 ≤ (x &&& 255).toInt ∧ (x &&& 255).toInt ≤ 255 := by
  have h : (x &&& 255).toBitVec.toNat ≤ 255 := by
    rw [Int32.toBitVec_and, BitVec.toNat_and]
    exact Nat.and_le_right
  have e : (x &&& 255).toInt = ((x &&& 255).toBitVec.toNat : Int) := by
    show (x &&& 255).toBitVec.toInt = _
    rw [BitVec.toInt_eq_toNat_of_lt (by omega)]
  rw [e]; omega
theorem BI.en {h : AHp} {cl0 cl1 : List Clz} {K0 K1 : Nat → Prop} {v0 v1 : Nat → Int32} (hB : BI h) (hL : LR h cl0 cl1 K0 K1 v0 v1) : ∃ E : En, CX E h ∧ RX E h ∧ (E.cl0 = cl0 ∧ E.cl1 = cl1 ∧ E.K0 = K0 ∧ E.K1 = K1 ∧ E.v0 = v0 ∧ E.v1 = v1) ∧ hI h 70 1 = nI E.c := by
  obtain ⟨m, a, b, r, hT⟩ := hB.tf
  obtain ⟨a1, a2, a3, a4, a5, a6⟩ := hB
  obtain ⟨c, ec, ec2, hc⟩ := nat_of a1.2.1
  have hc220 : c ≤ 220 := by have := a1.2.2.1; omega
  refine ⟨⟨(m, c, fun i => hI h 71 i &&& 255, hI h 5, hI h 4, cl0, cl1, K0, K1, v0, v1, a, b, r), ⟨hT.1.2.1, hc220, fun i _ => and255 _, fun i hi k hk hb => a2.bits hi hk hb, hT.2.2.2.1, hT.2.2.2.2.1, hT.2.2.2.2.2⟩⟩, ⟨hT.1.1, ec, fun i hi => a1.2.2.2 i (by have : i < c := hi; omega), ⟨rfl, rfl⟩, hL.1, hT.2.1⟩, ⟨hT.1.2.2, fun _ _ => rfl, ⟨fun i hi => (a3 i hi).1, fun i hi => (a2 i hi).1⟩, hL.2, hT.2.2.1⟩, ⟨rfl, rfl, rfl, rfl, rfl, rfl⟩, by rw [a1.1, ec]; rfl⟩
abbrev PCX : Nat → Nat → Bool := fun k i => (k == 42 && i == 3) || (k == 1 && i == 1) || k == 2 || k == 5 || k == 4 || k == 43 || k == 45 || k == 6
abbrev PRX : Nat → Nat → Bool := fun k i => (k == 70 && i == 3) || k == 71 || k == 91 || k == 72 || k == 94 || k == 96 || k == 77 || k == 78 || k == 79 || k == 80 || k == 81 || k == 82 || k == 83
theorem CX.ch {P : Nat → Nat → Bool} {E : En} {h g : AHp} (x : CX E h) (c : Ch P h g) (hp : ∀ {k i}, PCX k i = true → k ≠ 6 → P k i = false) (l : L2 g E.cl0 E.cl1 E.K0 E.K1 E.v0 E.v1) : CX E g := by
  obtain ⟨x1, x2, x3, x4, x5, x6⟩ := x
  refine ⟨by rw [c.i (hp rfl (by decide)), x1], by rw [c.i (hp rfl (by decide)), x2], fun i hi => by rw [c.i (hp rfl (by decide)), x3 i hi], ?_, l, ?_⟩
  · rw [c.r (k := 5) (fun _ => hp rfl (by decide)), c.r (k := 4) (fun _ => hp rfl (by decide))]; exact x4
  · unfold lenA lenB spkR at x6 ⊢
    rw [c.r (k := 45) (fun _ => hp rfl (by decide)), c.r (k := 43) (fun _ => hp rfl (by decide))]; exact x6
theorem RX.ch {P : Nat → Nat → Bool} {E : En} {h g : AHp} (x : RX E h) (c : Ch P h g) (hp : ∀ {k i}, PRX k i = true → P k i = false) : RX E g := by
  obtain ⟨x1, x2, x3, x4, x5⟩ := x
  have sm : sameLM h g := sameLM.ch c (fun k h1 h2 i => hp (by
    simp only [Bool.or_eq_true, Bool.and_eq_true, beq_iff_eq]; omega))
  refine ⟨by rw [c.i (hp rfl), x1], fun i hi => by rw [c.i (hp rfl), x2 i hi], ⟨fun i hi => by rw [c.i (hp rfl), x3.1 i hi], fun i hi => by rw [c.i (hp rfl), x3.2 i hi]⟩, ⟨x4.1.same sm, x4.2.same sm⟩, ?_⟩
  unfold lenA lenB spkR at x5 ⊢
  rw [c.r (k := 96) (fun _ => hp rfl), c.r (k := 94) (fun _ => hp rfl)]; exact x5
theorem CX.pc {E : En} {h g : AHp} (x : CX E h) (c : Ch PC h g) (l : L2 g E.cl0 E.cl1 E.K0 E.K1 E.v0 E.v1) : CX E g := x.ch c (fun {k i} hp h6 => by
  simp only [Bool.or_eq_true, Bool.and_eq_true, beq_iff_eq] at hp
  simp only [Bool.or_eq_false_iff, Bool.and_eq_false_iff, beq_eq_false_iff_ne]
  omega) l
/-- the class's own cells beyond the laws: nothing below 42 is told of them -/
theorem CX.hi {P : Nat → Nat → Bool} {E : En} {h g : AHp} (x : CX E h) (c : Ch P h g) (hp : ∀ k i, k ≤ 30 ∨ (33 ≤ k ∧ k ≤ 45) → P k i = false) : CX E g := x.ch c (fun {k i} hk h6 => hp k i (by
  simp only [Bool.or_eq_true, Bool.and_eq_true, beq_iff_eq] at hk; omega)) (by
    obtain ⟨l0, l1, hne⟩ := x.2.2.2.2.1
    have e3 : hM g 3 3 = hM h 3 3 := (c 3 3 (hp 3 3 (by omega))).2.2
    have e4 : hM g 3 4 = hM h 3 4 := (c 3 4 (hp 3 4 (by omega))).2.2
    have key : ∀ j, isLaw j → ∀ k, j ≤ k → k ≤ j + 7 → ∀ i, P k i = false := fun j hj k h1 h2 i => hp k i (by
      rcases hj with rfl | rfl | rfl | rfl <;> omega)
    unfold L2
    rw [e3, e4]
    exact ⟨l0.next (fun k a b _ i => c.i (key _ l0.1 k a b i)) (fun r hr => by rw [c.i (key _ l0.1 _ (by omega) (by omega) _)]; exact (l0.2.2.2.2.1 r hr).2), l1.next (fun k a b _ i => c.i (key _ l1.1 k a b i)) (fun r hr => by rw [c.i (key _ l1.1 _ (by omega) (by omega) _)]; exact (l1.2.2.2.2.1 r hr).2), hne⟩)
def En.ok (E : En) (laws s t a b r k : Int32) (l : Nat) : Bool := AL E.cl0 E.cl1 E.col laws s t a b r k l
theorem CX.stand {E : En} {g : AHp} (x : CX E g) (a b r k : Int32) : m_X9_stand a b r k g = some ((), stH g a b r k) ∧ Ch PC g (stH g a b r k) ∧ CX E (stH g a b r k) ∧ StC (stH g a b r k) a b r k :=
  ⟨standC a b r k g, stH_pc g a b r k, x.pc (stH_pc g a b r k) (x.2.2.2.2.1.st a b r k), StC.st g a b r k⟩
theorem CX.ask {E : En} {g : AHp} {a b r k : Int32} (x : CX E g) (hst : StC g a b r k) (laws t : Int32) {s : Int32} (hs : 0 ≤ s.toInt ∧ s.toInt ≤ 5) (hr : -1 ≤ r.toInt ∧ r.toInt ≤ 5) (z : Int32) (hz : ∀ j, j < 32 → tb z j = true → 1 ≤ j ∧ j ≤ 24) :
    ∃ y g1, m_X9_lets laws s t z g = some (y, g1) ∧ Ch PCl g g1 ∧ CX E g1 ∧ StC g1 a b r k ∧ ∀ j, j < 32 → tb y j = (tb z j && E.ok laws s t a b r k j) := by
  obtain ⟨y, g1, e1, c1, l1, s1, q1⟩ := askC x.2.2.2.2.1 hst laws t hs hr z hz
  refine ⟨y, g1, e1, c1, x.pc (PCl_PC c1) l1, s1, fun j hj => ?_⟩
  rw [q1 j hj, x.2.2.2.1.1]; rfl
def StM (g : AHp) (a b r k : Int32) : Prop := hI g 70 36 = a ∧ hI g 70 37 = b ∧ hI g 70 38 = r ∧ hI g 70 39 = k
theorem StM.ch {P : Nat → Nat → Bool} {h g : AHp} {a b r k : Int32} (x : StM h a b r k) (c : Ch P h g) (hp : P 70 36 = false ∧ P 70 37 = false ∧ P 70 38 = false ∧ P 70 39 = false) : StM g a b r k :=
  ⟨by rw [c.i hp.1, x.1], by rw [c.i hp.2.1, x.2.1], by rw [c.i hp.2.2.1, x.2.2.1], by rw [c.i hp.2.2.2, x.2.2.2]⟩
theorem RX.pmo {E : En} {h g : AHp} (x : RX E h) (c : Ch PMo h g) : RX E g := x.ch c (fun {k i} hp => by
  simp only [Bool.or_eq_true, Bool.and_eq_true, beq_iff_eq] at hp
  simp only [Bool.or_eq_false_iff, Bool.and_eq_false_iff, beq_eq_false_iff_ne]
  omega)
theorem RX.ask {E : En} {g : AHp} {a b r k : Int32} (x : RX E g) (hst : StM g a b r k) (laws : Int32) {s t : Int32} (hs : 0 ≤ s.toInt ∧ s.toInt ≤ 5) (ht : 0 ≤ t.toInt ∧ t.toInt ≤ 11) (hr : -1 ≤ r.toInt ∧ r.toInt ≤ 5) :
    ∃ y g1, m_X12_waysBy laws s t g = some (y, g1) ∧ Ch PWs g g1 ∧ RX E g1 ∧ StM g1 a b r k ∧ ∀ j, j < 32 → tb y j = (tb (E.siz t.toNatClampNeg) j && E.ok laws s t a b r k j) := by
  have ht12 : t.toNatClampNeg < 12 := clamp_lt ht.1 (by omega)
  obtain ⟨y, g1, e1, c1, q1⟩ := askM (laws := laws) hs ht x.2.2.2.1.1 x.2.2.2.1.2 (by unfold okL; rw [hst.2.2.1]; exact hr)
  refine ⟨y, g1, e1, c1, x.pmo (pws_pmo c1), hst.ch c1 ⟨rfl, rfl, rfl, rfl⟩, fun j hj => ?_⟩
  rw [q1 j hj, hst.1, hst.2.1, hst.2.2.1, hst.2.2.2, x.2.2.1.2 _ ht12, AL_col x.2.2.1.1 hs hr]
  by_cases hb : tb (E.siz t.toNatClampNeg) j = true
  · rw [decide_eq_true (E.hsz _ ht12 j hj hb), Bool.true_and]; rfl
  · simp at hb; rw [hb]; simp
theorem RX.ask1 {E : En} {g : AHp} {a b r k : Int32} {w l : Nat} (x : RX E g) (hst : StM g a b r k) (hw : w ≤ 1) {s t : Int32} (hs : 0 ≤ s.toInt ∧ s.toInt ≤ 5) (hr : -1 ≤ r.toInt ∧ r.toInt ≤ 5) :
    ∃ g1, m_X12_lets (nI w) (sI (sI (sI g 70 35 s) 70 34 t) 70 33 (nI l)) = some (if E.ok (lawsOf w) s t a b r k l = true then 1 else 0, g1) ∧ Ch PWs g g1 ∧ RX E g1 ∧ StM g1 a b r k := by
  obtain ⟨g1, e1, c1⟩ := askM1 (g := g) (s := s) (t := t) (l := l) hw hs x.2.2.2.1.1 x.2.2.2.1.2 (by unfold okL; rw [hst.2.2.1]; exact hr)
  rw [saysM, bd_some, hst.1, hst.2.1, hst.2.2.1, hst.2.2.2, AL_col x.2.2.1.1 hs hr] at e1
  exact ⟨g1, e1, c1, x.pmo (pws_pmo c1), hst.ch c1 ⟨rfl, rfl, rfl, rfl⟩⟩
section NOW
variable {E : En} {g : AHp}
theorem CX.spanA (x : CX E g) : m_X7_spanAt ((hI g 42 3) - 1) g = some (E.a, g) := by
  have s1 : (nI E.m - 1).toInt = (E.m : Int) - 1 := nI_sub_toInt (c := 1) E.hm (by omega)
  rw [x.1, spanG x.1 E.hm, ← x.2.2.2.2.2.1]
  unfold lenA; rw [clamp_toNat, s1]
  by_cases h1 : 1 ≤ E.m
  · rw [if_pos (by omega), if_pos h1, show ((E.m : Int) - 1).toNat = E.m - 1 by omega]
  · rw [if_neg (by omega), if_neg h1]
theorem CX.spanB (x : CX E g) : m_X7_spanAt ((hI g 42 3) - 2) g = some (E.b, g) := by
  have s1 : (nI E.m - 2).toInt = (E.m : Int) - 2 := nI_sub_toInt (c := 2) E.hm (by omega)
  rw [x.1, spanG x.1 E.hm, ← x.2.2.2.2.2.2.1]
  unfold lenB; rw [clamp_toNat, s1]
  by_cases h1 : 2 ≤ E.m
  · rw [if_pos (by omega), if_pos h1, show ((E.m : Int) - 2).toNat = E.m - 2 by omega]
  · rw [if_neg (by omega), if_neg h1]
theorem CX.spkA (x : CX E g) : m_X7_speakerAt ((hI g 42 3) - 1) g = some (E.r, g) := by
  have s1 : (nI E.m - 1).toInt = (E.m : Int) - 1 := nI_sub_toInt (c := 1) E.hm (by omega)
  rw [x.1, speakG x.1 E.hm, ← x.2.2.2.2.2.2.2]
  unfold spkR; rw [clamp_toNat, s1]
  by_cases h1 : 1 ≤ E.m
  · rw [if_pos (by omega), if_pos h1, show ((E.m : Int) - 1).toNat = E.m - 1 by omega]
  · rw [if_neg (by omega), if_neg h1]
theorem RX.lenAM (x : RX E g) : m_X12_lengthAt ((hI g 70 3) - 1) g = some (E.a, g) := by
  have s1 : (nI E.m - 1).toInt = (E.m : Int) - 1 := nI_sub_toInt (c := 1) E.hm (by omega)
  have hm := E.hm
  rw [x.1, lengthG _ (by rw [s1]; omega), ← x.2.2.2.2.1]
  unfold lenA; rw [clamp_toNat, s1]
  by_cases h1 : 1 ≤ E.m
  · rw [if_pos (by omega), if_pos h1, show ((E.m : Int) - 1).toNat = E.m - 1 by omega]
  · rw [if_neg (by omega), if_neg h1]
theorem RX.lenBM (x : RX E g) : m_X12_lengthAt ((hI g 70 3) - 2) g = some (E.b, g) := by
  have s1 : (nI E.m - 2).toInt = (E.m : Int) - 2 := nI_sub_toInt (c := 2) E.hm (by omega)
  have hm := E.hm
  rw [x.1, lengthG _ (by rw [s1]; omega), ← x.2.2.2.2.2.1]
  unfold lenB; rw [clamp_toNat, s1]
  by_cases h1 : 2 ≤ E.m
  · rw [if_pos (by omega), if_pos h1, show ((E.m : Int) - 2).toNat = E.m - 2 by omega]
  · rw [if_neg (by omega), if_neg h1]
theorem RX.now (x : RX E g) : ∃ g1, m_X12_standsAt (hI g 70 3) g = some ((), g1) ∧ Ch PSt g g1 ∧ RX E g1 ∧ StM g1 E.a E.b E.r (nI E.m) := by
  obtain ⟨h1, e1, c1, q1, q2, q3, q4⟩ := standsAtM (h := g) E.hm
  rw [x.1]
  exact ⟨h1, e1, c1, x.pmo (pst_pmo c1), by rw [q2, x.2.2.2.2.1], by rw [q3, x.2.2.2.2.2.1], by rw [q4, x.2.2.2.2.2.2], q1⟩
theorem CX.byte (x : CX E g) {i : Nat} (hi : i < E.c) : m_X8_byteAt (nI i) g = some (E.ty i, g) := by
  have hc := E.hc
  unfold m_X8_byteAt
  simp only [i32_lt, i32_le, tIall, x.2.1, nI_toInt (show i < 2 ^ 31 by omega), nI_toInt (show E.c < 2 ^ 31 by omega)]
  rw [if_neg (by omega), if_neg (by omega), if_neg (by omega), gd_pos (inb_nI (by omega) (by omega)), nI_clamp (by omega), x.2.2.1 i hi]
theorem RX.byte (x : RX E g) {i : Nat} (hi : i < E.c) : m_X12_byteAt (nI i) g = some (E.ty i, g) := by
  have hc := E.hc
  unfold m_X12_byteAt
  rw [gd_pos (inb_nI (by omega) (by omega)), nI_clamp (by omega), x.2.1 i hi]
end NOW
theorem BI.clr {P : Nat → Nat → Bool} {h g : AHp} (hB : BI h) (c : Ch P h g) (hp : ∀ {k i}, PBI k i = true → ¬ (k = 1 ∧ i = 1) → ¬ (k = 70 ∧ i = 1) → P k i = false) (e1 : hI g 1 1 = 0) (e2 : hI g 70 1 = 0) : BI g := by
  obtain ⟨a1, a2, a3, a4, a5, a6⟩ := hB
  have f : ∀ {k i}, PBI k i = true → (k ≠ 1 ∧ k ≠ 70) → P k i = false := fun p q => hp p (by omega) (by omega)
  have f7 : ∀ {i}, PBI 70 i = true → i ≠ 1 → P 70 i = false := fun p q => hp p (by omega) (by omega)
  refine ⟨?_, a2.ch c (fun _ => f rfl (by decide)) (fun _ => f rfl (by decide)), a3.ch c (fun _ => f rfl (by decide)) (fun _ => f rfl (by decide)), a4.ch c ⟨f7 rfl (by decide), f rfl (by decide), f rfl (by decide)⟩ (fun _ => f rfl (by decide)) (fun _ => f rfl (by decide)) (fun _ => f rfl (by decide)) (fun _ => f rfl (by decide)) (fun _ => f rfl (by decide)) (fun _ => f rfl (by decide)), a5.ch c ⟨f7 rfl (by decide), f rfl (by decide)⟩, a6.ch c ⟨f7 rfl (by decide), f rfl (by decide), f7 rfl (by decide), f rfl (by decide), f rfl (by decide), f7 rfl (by decide), f rfl (by decide)⟩ (fun _ => ⟨f rfl (by decide), f rfl (by decide), f rfl (by decide), f rfl (by decide), f rfl (by decide), f rfl (by decide), f rfl (by decide), f rfl (by decide)⟩)⟩
  unfold BT
  rw [e1, e2]
  exact ⟨rfl, by decide, by decide, fun i hi => by simp only [tIall] at hi; omega⟩
