/-! held and coded: the class's search -/
abbrev HParD : Type := Int32 × Nat × (Nat → Int32) × (Nat → Int32) × (Nat → Int32)
def HParOK (n : Nat) (who len : Nat → Int32) : Prop := n ≤ 12 ∧ (∀ i, i < n → 0 ≤ (who i).toInt ∧ (who i).toInt ≤ 5) ∧ ∀ i, i < n → ∀ k, k < 32 → tb (len i) k = true → 1 ≤ k ∧ k ≤ 24
abbrev HPar : Type := { d : HParD // HParOK d.2.1 d.2.2.1 d.2.2.2.2 }
def HPar.laws (H : HPar) : Int32 := H.1.1
def HPar.n (H : HPar) : Nat := H.1.2.1
def HPar.who (H : HPar) : Nat → Int32 := H.1.2.2.1
def HPar.wat (H : HPar) : Nat → Int32 := H.1.2.2.2.1
def HPar.len (H : HPar) : Nat → Int32 := H.1.2.2.2.2
theorem HPar.hn (H : HPar) : H.n ≤ 12 := H.2.1
theorem HPar.hw (H : HPar) : ∀ i, i < H.n → 0 ≤ (H.who i).toInt ∧ (H.who i).toInt ≤ 5 := H.2.2.1
theorem HPar.hl (H : HPar) : ∀ i, i < H.n → ∀ k, k < 32 → tb (H.len i) k = true → 1 ≤ k ∧ k ≤ 24 := H.2.2.2
def rrH (E : En) (H : HPar) (i : Nat) : Int32 := if i = 0 then E.r else H.who (i - 1)
def FH (E : En) (H : HPar) (i a b l : Nat) : Bool := tb (H.len i) l && E.ok H.laws (H.who i) (H.wat i) (nI a) (nI b) (rrH E H i) (nI (E.m + i)) l
theorem FH_dep {E : En} {H : HPar} {g : AHp} (x : CX E g) (i a b a2 b2 l : Nat) (h4 : tb (E.msk H.laws) 4 = true → a = a2) (h5 : tb (E.msk H.laws) 5 = true → b = b2) : FH E H i a b l = FH E H i a2 b2 l := by
  unfold FH
  rw [show E.ok H.laws (H.who i) (H.wat i) (nI a) (nI b) (rrH E H i) (nI (E.m + i)) l = E.ok H.laws (H.who i) (H.wat i) (nI a2) (nI b2) (rrH E H i) (nI (E.m + i)) l from x.dep (fun i hi hb => mo_ab (fun z => by rw [z] at hb; rw [h4 hb]) (fun z => by rw [z] at hb; rw [h5 hb]))]
def gB (E : En) (H : HPar) : Bool := tb (E.msk H.laws) 5
def gA (E : En) (H : HPar) : Bool := tb (E.msk H.laws) 5 || tb (E.msk H.laws) 4
def keyH (E : En) (H : HPar) (i a b : Nat) : Nat := i * 625 + (if gA E H = true then a * 25 else 0) + (if gB E H = true then b else 0)
theorem keyH_dec {E : En} {H : HPar} {i a b : Nat} (ha : a ≤ 24) (hb : b ≤ 24) : keyH E H i a b / 625 = i ∧ keyH E H i a b % 625 / 25 = (if gA E H = true then a else 0) ∧ keyH E H i a b % 25 = (if gB E H = true then b else 0) := by
  unfold keyH
  cases gA E H <;> cases gB E H <;> simp only [if_true, if_neg (show ¬ (false = true) by simp)] <;> omega
theorem keyH_lt {E : En} {H : HPar} {i a b : Nat} (hi : i < 12) (ha : a ≤ 24) (hb : b ≤ 24) : keyH E H i a b < 12500 := by
  unfold keyH
  have h1 : (if gA E H = true then a * 25 else 0) ≤ 600 := by split <;> omega
  have h2 : (if gB E H = true then b else 0) ≤ 24 := by split <;> omega
  omega
theorem col_same {E : En} {H : HPar} (a b : Nat) : (tb (E.msk H.laws) 4 = true ∨ tb (E.msk H.laws) 5 = true → a = (if gA E H = true then a else 0)) ∧ (tb (E.msk H.laws) 5 = true → b = (if gB E H = true then b else 0)) := by
  constructor
  · intro h
    rw [if_pos]
    unfold gA
    rcases h with h | h <;> rw [h] <;> simp
  · intro h; rw [if_pos (show gB E H = true from h)]
def encV : Option (Nat × Nat) → Int32
  | none => -32
  | some (w, j) => nI (32 * w + j)
def encW : Option Nat → Int32
  | none => -1
  | some w => nI w
def GH (E : En) (H : HPar) (key : Nat) (v : Int32) : Prop := v = encV (bo (FH E H) (H.n - key / 625 - 1) (key / 625) (key % 625 / 25) (key % 25))
theorem GH_key {E : En} {H : HPar} {g : AHp} (x : CX E g) {i a b : Nat} (ha : a ≤ 24) (hb : b ≤ 24) (v : Int32) : GH E H (keyH E H i a b) v ↔ v = encV (bo (FH E H) (H.n - i - 1) i a b) := by
  obtain ⟨k1, k2, k3⟩ := keyH_dec (E := E) (H := H) (i := i) ha hb
  unfold GH
  rw [k1, k2, k3, ← bo_dep (F := FH E H) (fun i a b a2 b2 l h1 h2 => FH_dep x i a b a2 b2 l h1 h2) (H.n - i - 1) i a b _ _ (col_same a b).1 (col_same a b).2]
/-- the least length of a place -/
def mlH (H : HPar) (i : Nat) : Nat := if H.len i = 0 then 0 else nthB (H.len i) 25 0 0
def lsD (H : HPar) : Nat → Nat → Nat
  | 0, _ => 0
  | d + 1, i => lsD H d (i + 1) + mlH H i
theorem nthB_le {x : Int32} : ∀ d l j, l ≤ j → j < l + d → tb x j = true → nthB x d l 0 ≤ j
  | 0, l, j, h1, h2, _ => by omega
  | d + 1, l, j, h1, h2, h3 => by
    rw [nthB]
    by_cases ht : tb x l = true
    · rw [if_pos ht, if_pos rfl]; exact h1
    · rw [if_neg ht]
      exact nthB_le d (l + 1) j (by
        rcases Nat.lt_or_ge l j with h | h
        · exact h
        · rw [show l = j by omega] at ht; exact absurd h3 ht) (by omega) h3
theorem ml_le {E : En} {H : HPar} {i a b l : Nat} (h2 : l ≤ 24) (hF : FH E H i a b l = true) : mlH H i ≤ l := by
  unfold FH at hF
  rw [Bool.and_eq_true] at hF
  unfold mlH
  by_cases h0 : H.len i = 0
  · rw [if_pos h0]; omega
  · rw [if_neg h0]; exact nthB_le 25 0 l (by omega) (by omega) hF.1
theorem ls_le {E : En} {H : HPar} : ∀ d i a b w, wd (FH E H) d i a b = some w → lsD H d i ≤ w
  | 0, i, a, b, w, h => by simp [lsD]
  | d + 1, i, a, b, w, h => by
    rw [wd_bo] at h
    cases hb : bo (FH E H) d i a b with
    | none => rw [hb] at h; cases h
    | some wj =>
      obtain ⟨w1, j⟩ := wj
      rw [hb] at h; cases h
      obtain ⟨⟨a1, a2, a3, r, a4, a5⟩, -⟩ := bw_some 24 _ j hb
      have := ls_le d (i + 1) j a r a4
      have := ml_le a2 a3
      show lsD H d (i + 1) + mlH H i ≤ w1
      omega
theorem ml_24 (H : HPar) {i : Nat} (hi : i < H.n) : mlH H i ≤ 24 := by
  unfold mlH
  split
  · omega
  · rename_i h0
    exact (nthB_spec (x := H.len i) (fun k h1 h2 => by
      cases hb : tb (H.len i) k with
      | false => rfl
      | true => have := H.hl i hi k h2 hb; omega) 25 0 0 (by omega) (by rw [cntF_all]; exact Nat.pos_of_ne_zero (fun z => h0 ((pcI_eq0 _).mp z)))).2.1
theorem ls_b (H : HPar) : ∀ d i, i + d = H.n → lsD H d i ≤ 24 * d
  | 0, i, _ => by simp [lsD]
  | d + 1, i, h => by
    have h1 := ls_b H d (i + 1) (by omega)
    have h2 := ml_24 H (show i < H.n by omega)
    rw [lsD]; omega
def HX (E : En) (H : HPar) (g : AHp) : Prop := (hI g 51 6 = H.laws ∧ hI g 51 8 = nI H.n ∧ hI g 51 9 = E.r ∧ hI g 51 10 = nI E.m ∧ hI g 51 12 = (if gA E H = true then 1 else 0) ∧ hI g 51 13 = (if gB E H = true then 1 else 0)) ∧ (∀ i, i < H.n → hI g 52 i = H.who i ∧ hI g 53 i = H.wat i ∧ hI g 54 i = H.len i) ∧ ∀ i, i ≤ H.n → hI g 55 i = nI (lsD H (H.n - i) i)
abbrev PVh : Nat → Nat → Bool := fun k i => PC k i || k == 32 || (k == 51 && i == 11)
theorem HX.ch {P : Nat → Nat → Bool} {E : En} {H : HPar} {h g : AHp} (x : HX E H h) (c : Ch P h g) (p1 : P 51 6 = false ∧ P 51 8 = false ∧ P 51 9 = false ∧ P 51 10 = false ∧ P 51 12 = false ∧ P 51 13 = false) (p2 : ∀ i, P 52 i = false ∧ P 53 i = false ∧ P 54 i = false ∧ P 55 i = false) : HX E H g := by
  unfold HX at x ⊢
  rw [c.i p1.1, c.i p1.2.1, c.i p1.2.2.1, c.i p1.2.2.2.1, c.i p1.2.2.2.2.1, c.i p1.2.2.2.2.2, c.r (k := 52) (fun i => (p2 i).1), c.r (k := 53) (fun i => (p2 i).2.1), c.r (k := 54) (fun i => (p2 i).2.2.1), c.r (k := 55) (fun i => (p2 i).2.2.2)]
  exact x
theorem HX.pvh {E : En} {H : HPar} {h g : AHp} (x : HX E H h) (c : Ch PVh h g) : HX E H g := x.ch c ⟨rfl, rfl, rfl, rfl, rfl, rfl⟩ (fun _ => ⟨rfl, rfl, rfl, rfl⟩)
theorem pc_pvh {h g : AHp} (c : Ch PC h g) : Ch PVh h g := c.mono (fun k i hp => by
  simp only [Bool.or_eq_false_iff] at hp ⊢; exact hp.1.1)
theorem c32_pvh {h g : AHp} (c : Ch (fun k _ => k == 32) h g) : Ch PVh h g := c.mono (fun k i hp => by
  simp only [Bool.or_eq_false_iff] at hp ⊢; exact hp.1.2)
theorem pvh_pk {h g : AHp} (c : Ch PVh h g) : Ch PK h g := c.mono (fun k i hp => by
  simp only [Bool.or_eq_false_iff, Bool.and_eq_false_iff, beq_eq_false_iff_ne, ble_f] at hp ⊢; omega)
/-- the memo while fewest is sought: D is the deepest place so far -/
def HJ (E : En) (H : HPar) (c B D : Nat) (g : AHp) : Prop := hI g 51 11 = nI D ∧ D ≤ B ∧ MG g c (GH E H) ∧ ∀ key v, key < 12500 → MP g c key v → key / 625 < H.n → dr (FH E H) (H.n - key / 625) (key / 625) (key % 625 / 25) (key % 25) ≤ D ∧ ∀ w j, bo (FH E H) (H.n - key / 625 - 1) (key / 625) (key % 625 / 25) (key % 25) = some (w, j) → key / 625 + 1 < H.n → ∃ v2, MP g c (keyH E H (key / 625 + 1) j (key % 625 / 25)) v2
theorem HJ.ch {P : Nat → Nat → Bool} {E : En} {H : HPar} {c B D : Nat} {h g : AHp} (x : HJ E H c B D h) (ch : Ch P h g) (p0 : P 51 11 = false) (p1 : P 31 1 = false) (p2 : ∀ i, P 32 i = false) : HJ E H c B D g := by
  obtain ⟨x1, x2, x3, x4⟩ := x
  have e : ∀ key v, MP g c key v ↔ MP h c key v := fun key v => by unfold MP; rw [(ch 32 key (p2 key)).2.1]
  refine ⟨by rw [ch.i p0, x1], x2, x3.ch ch p1 p2, fun key v hk hm hn => ?_⟩
  obtain ⟨y1, y2⟩ := x4 key v hk ((e key v).mp hm) hn
  refine ⟨y1, fun w j h1 h2 => ?_⟩
  obtain ⟨v2, h3⟩ := y2 w j h1 h2
  exact ⟨v2, (e _ _).mpr h3⟩
theorem HJ.deep {E : En} {H : HPar} {c B D D2 : Nat} {h : AHp} (x : HJ E H c B D h) (hD : D ≤ D2) (hB : D2 ≤ B) : HJ E H c B D2 (sI h 51 11 (nI D2)) := by
  obtain ⟨x1, x2, x3, x4⟩ := x
  refine ⟨sI_same _ _ _ _, hB, x3.ch (P := fun k i => k == 51) (Ch.rf.sI rfl) rfl (fun _ => rfl), fun key v hk hm hn => ?_⟩
  obtain ⟨y1, y2⟩ := x4 key v hk hm hn
  exact ⟨by omega, y2⟩
theorem sh5 : (((5 : Int32) &&& 31).toBitVec.smod 32).toNat = 5 := by decide
theorem encV_shr {d : Nat} {o : Option (Nat × Nat)} (hw : ∀ w j, o = some (w, j) → w ≤ 500 ∧ j ≤ 24) : (encV o) >>> ((5 : Int32) &&& 31) = encW (o.map Prod.fst) := by
  cases o with
  | none => decide
  | some wj =>
    obtain ⟨w, j⟩ := wj
    have := hw w j rfl
    show nI (32 * w + j) >>> _ = nI w
    rw [pk_shrN (by omega) _ 5 sh5, show (32 * w + j) / 2 ^ 5 = w by omega]
theorem encV_and {w j : Nat} (hw : w ≤ 500) (hj : j ≤ 24) : (encV (some (w, j))) &&& 31 = nI j := by
  show nI (32 * w + j) &&& 31 = nI j
  rw [pk_andN (n := 32 * w + j) (by omega) 5 (by decide), show (32 * w + j) % 2 ^ 5 = j by omega]
theorem nI_bv {n : Nat} (h : n < 2 ^ 32) : (nI n).toBitVec.toNat = n := by
  show (Int32.ofNat n).toBitVec.toNat = _
  rw [Int32.toBitVec_ofNat', BitVec.toNat_ofNat, Nat.mod_eq_of_lt h]
theorem encV_mk {w j : Nat} (hw : w ≤ 500) (hj : j ≤ 24) : (nI w <<< ((5 : Int32) &&& 31)) ||| nI j = encV (some (w, j)) := by
  apply bv_nat
  rw [Int32.toBitVec_or, BitVec.toNat_or, pk_shl _ _ 5 sh5, nI_bv (by omega), nI_bv (by omega)]
  show _ = (nI (32 * w + j)).toBitVec.toNat
  rw [nI_bv (by omega), Nat.mod_eq_of_lt (by omega), show w * 2 ^ 5 = 2 ^ 5 * w by omega, ← Nat.two_pow_add_eq_or_of_lt (show j < 2 ^ 5 by omega)]
theorem keyOfC {E : En} {H : HPar} {g : AHp} (hx : HX E H g) (i a b : Nat) : m_X1_keyOf (nI i) (nI a) (nI b) g = some (nI (keyH E H i a b), g) := by
  obtain ⟨⟨-, -, -, -, s11, s12⟩, -⟩ := hx
  unfold m_X1_keyOf keyH
  rw [s11, s12, show nI i * 625 = nI (i * 625) from pk_mul i 625, show nI a * 25 = nI (a * 25) from pk_mul a 25]
  cases hA : gA E H with
  | false =>
    rw [i01_f, if_pos rfl]
    cases hB : gB E H with
    | false => rw [i01_f, if_pos rfl, show nI (i * 625) + 0 = nI (i * 625 + 0) from nI_add _ 0, show nI (i * 625 + 0) + 0 = nI (i * 625 + 0 + 0) from nI_add _ 0]; rfl
    | true => rw [i01_t, if_neg one_ne, show nI (i * 625) + 0 = nI (i * 625 + 0) from nI_add _ 0, nI_add]; rfl
  | true =>
    rw [i01_t, if_neg one_ne]
    cases hB : gB E H with
    | false => rw [i01_f, if_pos rfl, nI_add, show nI (i * 625 + a * 25) + 0 = nI (i * 625 + a * 25 + 0) from nI_add _ 0]; rfl
    | true => rw [i01_t, if_neg one_ne, nI_add, nI_add]; rfl
theorem keyH_next {E : En} {H : HPar} (i j a : Nat) : keyH E H i j (if gA E H = true then a else 0) = keyH E H i j a := by
  unfold keyH
  cases hA : gA E H with
  | true => rfl
  | false =>
    have hB : gB E H = false := by unfold gA at hA; rw [Bool.or_eq_false_iff] at hA; exact hA.1
    rw [hB]; rfl
