/-! the memo -/
def pack (c : Nat) (v : Int32) : Int64 := (((nI c).toInt64) <<< (((32 : Int32)).toInt64 &&& 63)) ||| (v.toInt64 &&& 4294967295)
theorem sh32 : ((((32 : Int32)).toInt64 &&& 63).toBitVec.smod 64) = 32#64 := by decide
theorem mask32 {i : Nat} (h : i < 64) : (4294967295 : Int64).toBitVec.getLsbD i = decide (i < 32) := by
  have : ∀ j : Fin 64, (4294967295 : Int64).toBitVec.getLsbD j.val = decide (j.val < 32) := by decide
  exact this ⟨i, h⟩
theorem pack_bit (c : Nat) (v : Int32) {i : Nat} (h : i < 64) : (pack c v).toBitVec.getLsbD i = if i < 32 then v.toBitVec.getLsbD i else (nI c).toBitVec.getLsbD (i - 32) := by
  unfold pack
  rw [Int64.toBitVec_or, BitVec.getLsbD_or, Int64.toBitVec_and, BitVec.getLsbD_and, Int64.toBitVec_shiftLeft, sh32, BitVec.shiftLeft_eq', BitVec.getLsbD_shiftLeft, mask32 h, show (32#64).toNat = 32 from rfl]
  by_cases h1 : i < 32
  · rw [if_pos h1, decide_eq_true h1, decide_eq_true h]
    rw [Bool.not_true, Bool.and_false, Bool.false_and, Bool.false_or, Bool.and_true, Int32.toBitVec_toInt64, BitVec.getLsbD_signExtend, decide_eq_true h, if_pos h1, Bool.true_and]
  · rw [if_neg h1, decide_eq_false h1, decide_eq_true h]
    have : i - 32 < 32 := by omega
    have h2 : i - 32 < 64 := by omega
    rw [Int32.toBitVec_toInt64, Int32.toBitVec_toInt64, BitVec.getLsbD_signExtend, BitVec.getLsbD_signExtend, decide_eq_true h2, if_pos this]
    simp [h1]
theorem pack_low (c : Nat) (v : Int32) : (pack c v).toInt32 = v := by
  apply Int32.toBitVec_inj.mp
  rw [Int64.toBitVec_toInt32]
  apply BitVec.eq_of_getLsbD_eq
  intro i hi
  rw [BitVec.getLsbD_signExtend, decide_eq_true hi, Bool.true_and, if_pos (by omega), pack_bit c v (by omega), if_pos hi]
theorem pack_high {c : Nat} (hc : c < 1073741824) (v : Int32) : ((pack c v) >>> (((32 : Int32)).toInt64 &&& 63)).toInt = c := by
  have e : (pack c v) >>> (((32 : Int32)).toInt64 &&& 63) = (nI c).toInt64 := by
    apply Int64.toBitVec_inj.mp
    rw [Int64.toBitVec_shiftRight, sh32, BitVec.sshiftRight_eq', show (32#64).toNat = 32 from rfl]
    apply BitVec.eq_of_getLsbD_eq
    intro i hi
    have hc31 : (nI c).toBitVec.getLsbD 31 = false := by
      have hz : (nI c).toBitVec.toNat = c := by
        show (Int32.ofNat c).toBitVec.toNat = _
        rw [Int32.toBitVec_ofNat', BitVec.toNat_ofNat, Nat.mod_eq_of_lt (by omega)]
      show (nI c).toBitVec.toNat.testBit 31 = false
      rw [hz]
      exact Nat.testBit_lt_two_pow (by omega)
    have hmsb : (pack c v).toBitVec.msb = false := by
      rw [BitVec.msb_eq_getLsbD_last, pack_bit c v (by omega), if_neg (by omega)]
      exact hc31
    rw [BitVec.getLsbD_sshiftRight, hmsb, Int32.toBitVec_toInt64, BitVec.getLsbD_signExtend]
    by_cases h1 : i < 32
    · rw [if_pos (by omega), pack_bit c v (by omega), if_neg (by omega), if_pos h1]
      simp [hi]
    · rw [if_neg (by omega), if_neg h1, BitVec.msb_eq_getLsbD_last]
      rw [show (nI c).toBitVec.getLsbD (32 - 1) = false from hc31]
      simp
  rw [e, i32_64, nI_toInt (by omega)]
/-- the memo: every cell is of an earlier search, or holds what R says of its key -/
def MG (h : AHp) (c : Nat) (R : Nat → Int32 → Prop) : Prop := hI h 31 1 = nI c ∧ c < 1073741824 ∧ ∀ key, key < 12500 → (hL h 32 key >>> (((32 : Int32)).toInt64 &&& 63)).toInt < c ∨ ∃ v, hL h 32 key = pack c v ∧ R key v
/-- a cell of this search -/
def MP (h : AHp) (c key : Nat) (v : Int32) : Prop := hL h 32 key = pack c v
def MIx (h : AHp) (c : Nat) : Prop := hI h 31 1 = nI c ∧ ∀ key, key < 12500 → (hL h 32 key >>> (((32 : Int32)).toInt64 &&& 63)).toInt ≤ c
theorem MG.ix {h : AHp} {c : Nat} {R : Nat → Int32 → Prop} (x : MG h c R) : MIx h c := ⟨x.1, fun key hk => by
  rcases x.2.2 key hk with h1 | ⟨v, h1, _⟩
  · omega
  · rw [h1, pack_high x.2.1]; omega⟩
theorem memo_begin {h : AHp} {c : Nat} (x : MIx h c) (hc : c < 1000000) (R : Nat → Int32 → Prop) : ∃ g, m_X3_begin h = some ((), g) ∧ MG g (c + 1) R ∧ Ch (fun k _ => k == 31) h g := by
  refine ⟨sI h 31 1 (nI (c + 1)), ?_, ⟨sI_same _ _ _ _, by omega, fun key hk => Or.inl ?_⟩, Ch.rf.sI rfl⟩
  · unfold m_X3_begin; rw [x.1, nI_1, lt_eq]
  · rw [hL_sI]; have := x.2 key hk; omega
theorem MG.hd {h : AHp} {c : Nat} {R : Nat → Int32 → Prop} (x : MG h c R) {key : Nat} (hk : key < 12500) : m_X3_has (nI key) h = some (0, h) ∨ ∃ v, R key v ∧ MP h c key v ∧ m_X3_has (nI key) h = some (1, h) ∧ m_X3_get (nI key) h = some (v, h) := by
  have e1 : m_X3_has (nI key) h = (if (lg_cmp ((hL h 32 key) >>> (((32 : Int32)).toInt64 &&& 63)) ((nI c).toInt64)) = 0 then (some (1, h)) else (some (0, h))) := by
    unfold m_X3_has
    rw [if_neg (nI_pos (by omega)), if_neg (show ¬ 12500 ≤ nI key from nI_ge (a := key) (b := 12500) (by omega) (by omega)), gd_pos (inb_nI (by omega) (by omega)), nI_clamp (by omega), x.1]
  rcases x.2.2 key hk with h1 | ⟨v, h1, h2⟩
  · left
    rw [e1, if_neg]
    rw [lgc_eq, i32_64, nI_toInt (by have := x.2.1; omega)]; omega
  · right
    refine ⟨v, h2, h1, ?_, ?_⟩
    · rw [e1, if_pos]
      rw [lgc_eq, h1, pack_high x.2.1, i32_64, nI_toInt (by have := x.2.1; omega)]
    · unfold m_X3_get
      rw [if_neg (nI_pos (by omega)), if_neg (show ¬ 12500 ≤ nI key from nI_ge (a := key) (b := 12500) (by omega) (by omega)), gd_pos (inb_nI (by omega) (by omega)), nI_clamp (by omega), h1, pack_low]
theorem MP.get {h : AHp} {c key : Nat} {v : Int32} (hk : key < 12500) (x : MP h c key v) : m_X3_get (nI key) h = some (v, h) := by
  unfold m_X3_get
  rw [if_neg (nI_pos (by omega)), if_neg (show ¬ 12500 ≤ nI key from nI_ge (a := key) (b := 12500) (by omega) (by omega)), gd_pos (inb_nI (by omega) (by omega)), nI_clamp (by omega), show hL h 32 key = _ from x, pack_low]
theorem MG.put {h : AHp} {c : Nat} {R : Nat → Int32 → Prop} (x : MG h c R) {key : Nat} (hk : key < 12500) {v : Int32} (hv : R key v) : ∃ g, m_X3_put (nI key) v h = some ((), g) ∧ MG g c R ∧ MP g c key v ∧ (∀ q, q ≠ key → hL g 32 q = hL h 32 q) ∧ Ch (fun k _ => k == 32) h g := by
  refine ⟨sL h 32 key (pack c v), ?_, ⟨x.1, x.2.1, fun q hq => ?_⟩, ?_, fun q hq => ?_, Ch.rf.sL rfl⟩
  · unfold m_X3_put
    rw [if_neg (nI_pos (by omega)), if_neg (show ¬ 12500 ≤ nI key from nI_ge (a := key) (b := 12500) (by omega) (by omega)), gd_pos (inb_nI (by omega) (by omega)), nI_clamp (by omega), x.1, lt_eq]
    rfl
  · rw [hL_sL]
    by_cases hqk : q = key
    · rw [if_pos ⟨rfl, hqk⟩, hqk]; exact Or.inr ⟨v, rfl, hv⟩
    · rw [if_neg (by omega)]; exact x.2.2 q hq
  · show hL (sL h 32 key (pack c v)) 32 key = _
    rw [hL_sL, if_pos ⟨rfl, rfl⟩]
  · rw [hL_sL, if_neg (by omega)]
theorem MG.ch {P : Nat → Nat → Bool} {h g : AHp} {c : Nat} {R : Nat → Int32 → Prop} (x : MG h c R) (ch : Ch P h g) (p1 : P 31 1 = false) (p2 : ∀ i, P 32 i = false) : MG g c R := by
  refine ⟨by rw [ch.i p1]; exact x.1, x.2.1, fun key hk => ?_⟩
  rw [(ch 32 key (p2 key)).2.1]; exact x.2.2 key hk
theorem MP.ch {P : Nat → Nat → Bool} {h g : AHp} {c key : Nat} {v : Int32} (x : MP h c key v) (ch : Ch P h g) (p2 : ∀ i, P 32 i = false) : MP g c key v := by
  unfold MP; rw [(ch 32 key (p2 key)).2.1]; exact x
theorem MP.uniq {h : AHp} {c key : Nat} {v w : Int32} (x : MP h c key v) (y : MP h c key w) : v = w := by
  rw [← pack_low c v, ← pack_low c w, ← show hL h 32 key = pack c v from x, ← show hL h 32 key = pack c w from y]
theorem MIx.ch {P : Nat → Nat → Bool} {h g : AHp} {c : Nat} (x : MIx h c) (ch : Ch P h g) (p1 : P 31 1 = false) (p2 : ∀ i, P 32 i = false) : MIx g c := by
  refine ⟨by rw [ch.i p1]; exact x.1, fun key hk => ?_⟩
  rw [(ch 32 key (p2 key)).2.1]; exact x.2 key hk
/-! what searches may change -/
abbrev PO : Nat → Nat → Bool := fun k _ => k == 31 || k == 32 || (Nat.ble 51 k && Nat.ble k 69)
abbrev PK : Nat → Nat → Bool := fun k i => PC k i || PO k i
abbrev PKm : Nat → Nat → Bool := fun k i => PMo k i || (Nat.ble 97 k && Nat.ble k 113)
theorem ble_iff {a b : Nat} : Nat.ble a b = true ↔ a ≤ b := ⟨Nat.le_of_ble_eq_true, Nat.ble_eq_true_of_le⟩
theorem ble_f {a b : Nat} : Nat.ble a b = false ↔ b < a := by
  constructor
  · intro h
    rcases Nat.lt_or_ge b a with h1 | h1
    · exact h1
    · rw [Nat.ble_eq_true_of_le h1] at h; cases h
  · intro h
    cases h1 : Nat.ble a b with
    | false => rfl
    | true => have := Nat.le_of_ble_eq_true h1; omega
theorem CX.po {E : En} {g g1 : AHp} (x : CX E g) (c : Ch PO g g1) : CX E g1 := x.hi c (fun k i hk => by
  simp only [Bool.or_eq_false_iff, Bool.and_eq_false_iff, beq_eq_false_iff_ne, ble_f]; omega)
theorem pc_pk {h g : AHp} (c : Ch PC h g) : Ch PK h g := c.mono (fun k i hp => (Bool.or_eq_false_iff.mp hp).1)
theorem po_pk {h g : AHp} (c : Ch PO h g) : Ch PK h g := c.mono (fun k i hp => (Bool.or_eq_false_iff.mp hp).2)
theorem c31_po {h g : AHp} (c : Ch (fun k _ => k == 31) h g) : Ch PO h g := c.mono (fun k i hp => by
  simp only [Bool.or_eq_false_iff] at hp; exact hp.1.1)
theorem c32_po {h g : AHp} (c : Ch (fun k _ => k == 32) h g) : Ch PO h g := c.mono (fun k i hp => by
  simp only [Bool.or_eq_false_iff] at hp; exact hp.1.2)
theorem pmo_pkm {h g : AHp} (c : Ch PMo h g) : Ch PKm h g := c.mono (fun k i hp => (Bool.or_eq_false_iff.mp hp).1)
theorem RX.pkm {E : En} {h g : AHp} (x : RX E h) (c : Ch PKm h g) : RX E g := x.ch c (fun {k i} hp => by
  simp only [Bool.or_eq_true, Bool.and_eq_true, beq_iff_eq] at hp
  simp only [Bool.or_eq_false_iff, Bool.and_eq_false_iff, beq_eq_false_iff_ne, ble_f]
  omega)
/-! letters that are not asked -/
theorem maskB_mem {q : Clz} {k : Nat} : ∀ (cl : List Clz) (a : Int32), tb (cl.foldl (fun a q => if q.1 = true then a ||| q.2.2.2 else a) a) k = true ↔ (tb a k = true ∨ ∃ q ∈ cl, q.1 = true ∧ tb q.2.2.2 k = true)
  | [], a => by simp
  | p :: cl, a => by
    rw [List.foldl_cons, maskB_mem (q := q) cl]
    by_cases hp : p.1 = true
    · rw [if_pos hp, tb_or]
      simp only [Bool.or_eq_true, List.mem_cons]
      constructor
      · rintro ((h | h) | ⟨r, h1, h2⟩)
        · exact Or.inl h
        · exact Or.inr ⟨p, Or.inl rfl, hp, h⟩
        · exact Or.inr ⟨r, Or.inr h1, h2⟩
      · rintro (h | ⟨r, h1 | h1, h2⟩)
        · exact Or.inl (Or.inl h)
        · subst h1; exact Or.inl (Or.inr h2.2)
        · exact Or.inr ⟨r, h1, h2⟩
    · rw [if_neg hp]
      simp only [List.mem_cons]
      constructor
      · rintro (h | ⟨r, h1, h2⟩)
        · exact Or.inl h
        · exact Or.inr ⟨r, Or.inr h1, h2⟩
      · rintro (h | ⟨r, h1 | h1, h2⟩)
        · exact Or.inl h
        · subst h1; exact absurd h2.1 hp
        · exact Or.inr ⟨r, h1, h2⟩
theorem letsD_dep {h : AHp} {j : Nat} {cl : List Clz} {Kc : Nat → Prop} {kv : Nat → Int32} (hL : LawC h j cl Kc kv) {e e2 : Mom} (he : ∀ i, i < 9 → tb (maskB cl) i = true → e i = e2 i) : letsD cl e = letsD cl e2 := by
  have hd : ∀ q ∈ cl, q.1 = true → q.2.2.1 e = q.2.2.1 e2 := fun q hq hb => by
    obtain ⟨i, hi⟩ := List.mem_iff_getElem?.mp hq
    exact (hL.2.2.2.2.2 i q hi).2.1.1 e e2 (fun n hn ht => he n hn ((maskB_mem (q := q) cl 0).mpr (Or.inr ⟨q, hq, hb, ht⟩)))
  unfold letsD
  rw [Bool.eq_iff_iff, List.all_eq_true, List.all_eq_true]
  constructor
  · intro a q hq
    have := a q hq
    cases hb : q.1 with
    | false => simp
    | true => rw [hb, hd q hq hb] at this; exact this
  · intro a q hq
    have := a q hq
    cases hb : q.1 with
    | false => simp
    | true => rw [hb, ← hd q hq hb] at this; exact this
def En.msk (E : En) (laws : Int32) : Int32 := (if tb laws 0 = true then maskB E.cl0 else 0) ||| (if tb laws 1 = true then maskB E.cl1 else 0)
theorem CX.dep {E : En} {g : AHp} (x : CX E g) {laws s t a b r k s2 t2 a2 b2 r2 k2 : Int32} {l : Nat} (he : ∀ i, i < 9 → tb (E.msk laws) i = true → mo E.col s t a b r k (nI l) i = mo E.col s2 t2 a2 b2 r2 k2 (nI l) i) : E.ok laws s t a b r k l = E.ok laws s2 t2 a2 b2 r2 k2 l := by
  unfold En.ok AL ok2
  have h0 : tb laws 0 = true → letsD E.cl0 (mo E.col s t a b r k (nI l)) = letsD E.cl0 (mo E.col s2 t2 a2 b2 r2 k2 (nI l)) := fun hb => letsD_dep x.2.2.2.2.1.1 (fun i hi ht => he i hi (by unfold En.msk; rw [tb_or, if_pos hb, ht]; rfl))
  have h1 : tb laws 1 = true → letsD E.cl1 (mo E.col s t a b r k (nI l)) = letsD E.cl1 (mo E.col s2 t2 a2 b2 r2 k2 (nI l)) := fun hb => letsD_dep x.2.2.2.2.1.2.1 (fun i hi ht => he i hi (by unfold En.msk; rw [tb_or, if_pos hb, ht, Bool.or_true]))
  cases hb0 : tb laws 0 with
  | false =>
    cases hb1 : tb laws 1 with
    | false => rfl
    | true => rw [h1 hb1]; rfl
  | true =>
    cases hb1 : tb laws 1 with
    | false => rw [h0 hb0]; rfl
    | true => rw [h0 hb0, h1 hb1]
theorem CX.asks {E : En} {g : AHp} (x : CX E g) (laws : Int32) : m_X9_asks laws g = some (E.msk laws, g) := by
  obtain ⟨l0, l1, -⟩ := x.2.2.2.2.1
  unfold m_X9_asks m_X9_asks_17 En.msk
  have or0' : ∀ x : Int32, 0 ||| x = x := fun x => tb_ext (fun k hk => by rw [tb_or, tb_zero, Bool.false_or])
  cases hb0 : tb laws 0 with
  | false =>
    rw [if_pos ((tb_first laws).mpr hb0)]
    cases hb1 : tb laws 1 with
    | false => rw [if_pos ((tb_second laws).mpr hb1), if_neg (by simp), if_neg (by simp), or0]
    | true => rw [if_neg (fun z => by rw [(tb_second laws).mp z] at hb1; cases hb1), gd_pos l1.1, l1.2.2.2.1, if_neg (by simp), if_pos rfl]
  | true =>
    rw [if_neg (fun z => by rw [(tb_first laws).mp z] at hb0; cases hb0), gd_pos l0.1, l0.2.2.2.1]
    cases hb1 : tb laws 1 with
    | false => rw [if_pos ((tb_second laws).mpr hb1), if_pos rfl, if_neg (by simp), or0]
    | true => rw [if_neg (fun z => by rw [(tb_second laws).mp z] at hb1; cases hb1), gd_pos l1.1, l1.2.2.2.1, if_pos rfl, if_pos rfl]
theorem tb_lit {x : Int32} {c : Int32} {n : Nat} (hn : n < 32) (hc : c = (1 : Int32) <<< (nI n &&& 31)) : (x &&& c = 0) ↔ tb x n = false := by rw [hc]; exact one_bit0 x hn
