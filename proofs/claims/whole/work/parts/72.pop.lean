/-! how many bits: both sides -/
def pcN : Nat → Nat → Nat
  | 0, _ => 0
  | k + 1, n => n % 2 + pcN k (n / 2)
def pcI (x : Int32) : Nat := pcN 32 x.toBitVec.toNat
theorem pcN_le : ∀ k n, pcN k n ≤ k
  | 0, _ => Nat.le_refl _
  | k + 1, n => by have := pcN_le k (n / 2); rw [pcN]; omega
theorem and16 (d e q r : Nat) (hd : d < 16) (he : e < 16) : (d + 16 * q) &&& (e + 16 * r) = (d &&& e) + 16 * (q &&& r) := by
  have h1 : ((d + 16 * q) &&& (e + 16 * r)) % 2 ^ 4 = d &&& e := by
    rw [Nat.and_mod_two_pow, show (d + 16 * q) % 2 ^ 4 = d by omega, show (e + 16 * r) % 2 ^ 4 = e by omega]
  have h2 : ((d + 16 * q) &&& (e + 16 * r)) / 2 ^ 4 = q &&& r := by
    rw [Nat.and_div_two_pow, show (d + 16 * q) / 2 ^ 4 = q by omega, show (e + 16 * r) / 2 ^ 4 = r by omega]
  omega
def v16 : List Nat → Nat
  | [] => 0
  | d :: ds => d + 16 * v16 ds
theorem and_v16 : ∀ (ds es : List Nat), ds.length = es.length → (∀ d ∈ ds, d < 16) → (∀ e ∈ es, e < 16) → v16 ds &&& v16 es = v16 (List.zipWith (· &&& ·) ds es)
  | [], [], _, _, _ => by simp [v16]
  | d :: ds, e :: es, hl, h1, h2 => by
    rw [v16, v16, and16 _ _ _ _ (h1 d List.mem_cons_self) (h2 e List.mem_cons_self), and_v16 ds es (by simpa using hl) (fun x hx => h1 x (List.mem_cons_of_mem _ hx)) (fun x hx => h2 x (List.mem_cons_of_mem _ hx))]
    rfl
theorem sw1 : ∀ d e : Fin 16, (d.val / 2 + 8 * (e.val % 2)) &&& 5 = (d.val / 2) &&& 5 ∧ ((d.val / 2) &&& 5) ≤ d.val := by decide
def s1 (d : Nat) : Nat := d - ((d / 2) &&& 5)
theorem sw2 : ∀ d e : Fin 16, (s1 d.val &&& 3) + ((s1 d.val / 4 + 4 * (s1 e.val % 4)) &&& 3) = pcN 4 d.val ∧ s1 d.val < 16 := by decide
theorem pc4 : ∀ d : Fin 16, pcN 4 d.val ≤ 4 := by decide
theorem pc_16 (k d q : Nat) (hd : d < 16) : pcN (k + 4) (d + 16 * q) = pcN 4 d + pcN k q := by
  show (d + 16 * q) % 2 + ((d + 16 * q) / 2 % 2 + ((d + 16 * q) / 2 / 2 % 2 + ((d + 16 * q) / 2 / 2 / 2 % 2 + pcN k ((d + 16 * q) / 2 / 2 / 2 / 2)))) = (d % 2 + (d / 2 % 2 + (d / 2 / 2 % 2 + (d / 2 / 2 / 2 % 2 + 0)))) + pcN k q
  rw [show (d + 16 * q) / 2 / 2 / 2 / 2 = q by omega]
  omega
section SWAR
variable (d0 d1 d2 d3 d4 d5 d6 d7 : Nat)
theorem swar_nat (h0 : d0 < 16) (h1 : d1 < 16) (h2 : d2 < 16) (h3 : d3 < 16) (h4 : d4 < 16) (h5 : d5 < 16) (h6 : d6 < 16) (h7 : d7 < 16) :
    v16 [d0, d1, d2, d3, d4, d5, d6, d7] - ((v16 [d0, d1, d2, d3, d4, d5, d6, d7] / 2) &&& 1431655765) = v16 [s1 d0, s1 d1, s1 d2, s1 d3, s1 d4, s1 d5, s1 d6, s1 d7] ∧ ((v16 [d0, d1, d2, d3, d4, d5, d6, d7] / 2) &&& 1431655765) ≤ v16 [d0, d1, d2, d3, d4, d5, d6, d7] := by
  have e : v16 [d0, d1, d2, d3, d4, d5, d6, d7] / 2 = v16 [d0 / 2 + 8 * (d1 % 2), d1 / 2 + 8 * (d2 % 2), d2 / 2 + 8 * (d3 % 2), d3 / 2 + 8 * (d4 % 2), d4 / 2 + 8 * (d5 % 2), d5 / 2 + 8 * (d6 % 2), d6 / 2 + 8 * (d7 % 2), d7 / 2 + 8 * (0 % 2)] := by
    simp only [v16]; omega
  have em : 1431655765 = v16 [5, 5, 5, 5, 5, 5, 5, 5] := by decide
  rw [e, em, and_v16 _ _ (by rfl) (by
    intro d hd
    simp only [List.mem_cons, List.not_mem_nil, or_false] at hd
    omega) (by decide)]
  simp only [List.zipWith]
  have q0 := sw1 ⟨d0, h0⟩ ⟨d1, h1⟩
  have q1 := sw1 ⟨d1, h1⟩ ⟨d2, h2⟩
  have q2 := sw1 ⟨d2, h2⟩ ⟨d3, h3⟩
  have q3 := sw1 ⟨d3, h3⟩ ⟨d4, h4⟩
  have q4 := sw1 ⟨d4, h4⟩ ⟨d5, h5⟩
  have q5 := sw1 ⟨d5, h5⟩ ⟨d6, h6⟩
  have q6 := sw1 ⟨d6, h6⟩ ⟨d7, h7⟩
  have q7 := sw1 ⟨d7, h7⟩ ⟨0, by omega⟩
  simp only at q0 q1 q2 q3 q4 q5 q6 q7
  rw [q0.1, q1.1, q2.1, q3.1, q4.1, q5.1, q6.1, q7.1]
  simp only [v16, s1]
  omega
theorem swar_two (h0 : d0 < 16) (h1 : d1 < 16) (h2 : d2 < 16) (h3 : d3 < 16) (h4 : d4 < 16) (h5 : d5 < 16) (h6 : d6 < 16) (h7 : d7 < 16) :
    (v16 [s1 d0, s1 d1, s1 d2, s1 d3, s1 d4, s1 d5, s1 d6, s1 d7] &&& 858993459) + ((v16 [s1 d0, s1 d1, s1 d2, s1 d3, s1 d4, s1 d5, s1 d6, s1 d7] / 4) &&& 858993459) = v16 [pcN 4 d0, pcN 4 d1, pcN 4 d2, pcN 4 d3, pcN 4 d4, pcN 4 d5, pcN 4 d6, pcN 4 d7] := by
  have q0 := sw2 ⟨d0, h0⟩ ⟨d1, h1⟩
  have q1 := sw2 ⟨d1, h1⟩ ⟨d2, h2⟩
  have q2 := sw2 ⟨d2, h2⟩ ⟨d3, h3⟩
  have q3 := sw2 ⟨d3, h3⟩ ⟨d4, h4⟩
  have q4 := sw2 ⟨d4, h4⟩ ⟨d5, h5⟩
  have q5 := sw2 ⟨d5, h5⟩ ⟨d6, h6⟩
  have q6 := sw2 ⟨d6, h6⟩ ⟨d7, h7⟩
  have q7 := sw2 ⟨d7, h7⟩ ⟨0, by omega⟩
  simp only at q0 q1 q2 q3 q4 q5 q6 q7
  have e : v16 [s1 d0, s1 d1, s1 d2, s1 d3, s1 d4, s1 d5, s1 d6, s1 d7] / 4 = v16 [s1 d0 / 4 + 4 * (s1 d1 % 4), s1 d1 / 4 + 4 * (s1 d2 % 4), s1 d2 / 4 + 4 * (s1 d3 % 4), s1 d3 / 4 + 4 * (s1 d4 % 4), s1 d4 / 4 + 4 * (s1 d5 % 4), s1 d5 / 4 + 4 * (s1 d6 % 4), s1 d6 / 4 + 4 * (s1 d7 % 4), s1 d7 / 4 + 4 * (s1 0 % 4)] := by
    simp only [v16]
    have : s1 0 = 0 := rfl
    omega
  have em : 858993459 = v16 [3, 3, 3, 3, 3, 3, 3, 3] := by decide
  rw [e, em, and_v16 _ _ (by rfl) (by
    intro d hd
    simp only [List.mem_cons, List.not_mem_nil, or_false] at hd
    omega) (by decide), and_v16 _ _ (by rfl) (by
    intro d hd
    simp only [List.mem_cons, List.not_mem_nil, or_false] at hd
    omega) (by decide)]
  simp only [List.zipWith]
  rw [← q0.1, ← q1.1, ← q2.1, ← q3.1, ← q4.1, ← q5.1, ← q6.1, ← q7.1]
  simp only [v16]
  omega
theorem swar_four (h0 : d0 ≤ 4) (h1 : d1 ≤ 4) (h2 : d2 ≤ 4) (h3 : d3 ≤ 4) (h4 : d4 ≤ 4) (h5 : d5 ≤ 4) (h6 : d6 ≤ 4) (h7 : d7 ≤ 4) :
    (v16 [d0, d1, d2, d3, d4, d5, d6, d7] + v16 [d0, d1, d2, d3, d4, d5, d6, d7] / 16) &&& 252645135 = v16 [d0 + d1, 0, d2 + d3, 0, d4 + d5, 0, d6 + d7, 0] := by
  have e : v16 [d0, d1, d2, d3, d4, d5, d6, d7] + v16 [d0, d1, d2, d3, d4, d5, d6, d7] / 16 = v16 [d0 + d1, d1 + d2, d2 + d3, d3 + d4, d4 + d5, d5 + d6, d6 + d7, d7] := by
    simp only [v16]; omega
  have em : 252645135 = v16 [15, 0, 15, 0, 15, 0, 15, 0] := by decide
  have a15 : ∀ x, x < 16 → x &&& 15 = x := fun x hx => by
    have : ∀ y : Fin 16, y.val &&& 15 = y.val := by decide
    exact this ⟨x, hx⟩
  rw [e, em, and_v16 _ _ (by rfl) (by
    intro d hd
    simp only [List.mem_cons, List.not_mem_nil, or_false] at hd
    omega) (by decide)]
  simp only [List.zipWith, Nat.and_zero]
  rw [a15 _ (by omega), a15 _ (by omega), a15 _ (by omega), a15 _ (by omega)]
end SWAR
theorem ushr_nat (x : Int32) (s : Nat) (hs : s < 32) (c : Int32) (hc : c.toUInt32 &&& (31 : Int32).toUInt32 = UInt32.ofNat s) : ((x.toUInt32 >>> (c.toUInt32 &&& (31 : Int32).toUInt32)).toInt32).toBitVec.toNat = x.toBitVec.toNat / 2 ^ s := by
  rw [hc]
  show (x.toUInt32 >>> UInt32.ofNat s).toNat = _
  rw [UInt32.toNat_shiftRight, UInt32.toNat_ofNat', Nat.mod_eq_of_lt (show s < 2 ^ 32 by omega), Nat.mod_eq_of_lt hs, Nat.shiftRight_eq_div_pow]
  rfl
theorem digits (n : Nat) (h : n < 2 ^ 32) : ∃ d0 d1 d2 d3 d4 d5 d6 d7, n = v16 [d0, d1, d2, d3, d4, d5, d6, d7] ∧ d0 < 16 ∧ d1 < 16 ∧ d2 < 16 ∧ d3 < 16 ∧ d4 < 16 ∧ d5 < 16 ∧ d6 < 16 ∧ d7 < 16 :=
  ⟨n % 16, n / 16 % 16, n / 256 % 16, n / 4096 % 16, n / 65536 % 16, n / 1048576 % 16, n / 16777216 % 16, n / 268435456 % 16, by simp only [v16]; omega, by omega, by omega, by omega, by omega, by omega, by omega, by omega, by omega⟩
theorem bv_nat (x y : Int32) (h : x.toBitVec.toNat = y.toBitVec.toNat) : x = y := Int32.toBitVec_inj.mp (BitVec.eq_of_toNat_eq h)
theorem nat_sub32 (x y : Int32) (h : y.toBitVec.toNat ≤ x.toBitVec.toNat) : (x - y).toBitVec.toNat = x.toBitVec.toNat - y.toBitVec.toNat := by
  rw [Int32.toBitVec_sub, BitVec.toNat_sub]
  have := x.toBitVec.isLt
  have := y.toBitVec.isLt
  omega
theorem nat_add32 (x y : Int32) (h : x.toBitVec.toNat + y.toBitVec.toNat < 2 ^ 32) : (x + y).toBitVec.toNat = x.toBitVec.toNat + y.toBitVec.toNat := by
  rw [Int32.toBitVec_add, BitVec.toNat_add]
  omega
theorem nat_and32 (x y : Int32) : (x &&& y).toBitVec.toNat = x.toBitVec.toNat &&& y.toBitVec.toNat := by
  rw [Int32.toBitVec_and, BitVec.toNat_and]
theorem kons : (1431655765 : Int32).toBitVec.toNat = 1431655765 ∧ (858993459 : Int32).toBitVec.toNat = 858993459 ∧ (252645135 : Int32).toBitVec.toNat = 252645135 ∧ (63 : Int32).toBitVec.toNat = 63 := by decide
theorem kshr : (1 : Int32).toUInt32 &&& (31 : Int32).toUInt32 = UInt32.ofNat 1 ∧ (2 : Int32).toUInt32 &&& (31 : Int32).toUInt32 = UInt32.ofNat 2 ∧ (4 : Int32).toUInt32 &&& (31 : Int32).toUInt32 = UInt32.ofNat 4 ∧ (8 : Int32).toUInt32 &&& (31 : Int32).toUInt32 = UInt32.ofNat 8 ∧ (16 : Int32).toUInt32 &&& (31 : Int32).toUInt32 = UInt32.ofNat 16 := by decide
section BC
variable {d0 d1 d2 d3 d4 d5 d6 d7 : Nat}
theorem bc1 (x : Int32) (h0 : d0 < 16) (h1 : d1 < 16) (h2 : d2 < 16) (h3 : d3 < 16) (h4 : d4 < 16) (h5 : d5 < 16) (h6 : d6 < 16) (h7 : d7 < 16) (en : x.toBitVec.toNat = v16 [d0, d1, d2, d3, d4, d5, d6, d7]) : (x - (((x.toUInt32 >>> ((1 : Int32).toUInt32 &&& (31 : Int32).toUInt32)).toInt32) &&& 1431655765)).toBitVec.toNat = v16 [s1 d0, s1 d1, s1 d2, s1 d3, s1 d4, s1 d5, s1 d6, s1 d7] := by
  have w1 := swar_nat d0 d1 d2 d3 d4 d5 d6 d7 h0 h1 h2 h3 h4 h5 h6 h7
  have e1 : (((x.toUInt32 >>> ((1 : Int32).toUInt32 &&& (31 : Int32).toUInt32)).toInt32) &&& 1431655765).toBitVec.toNat = (v16 [d0, d1, d2, d3, d4, d5, d6, d7] / 2) &&& 1431655765 := by
    rw [nat_and32, ushr_nat x 1 (by omega) 1 kshr.1, en, kons.1, Nat.pow_one]
  rw [nat_sub32 _ _ (by rw [e1, en]; exact w1.2), e1, en]; exact w1.1
theorem bc2 (x : Int32) (h0 : d0 < 16) (h1 : d1 < 16) (h2 : d2 < 16) (h3 : d3 < 16) (h4 : d4 < 16) (h5 : d5 < 16) (h6 : d6 < 16) (h7 : d7 < 16) (p0 : pcN 4 d0 ≤ 4) (p1 : pcN 4 d1 ≤ 4) (p2 : pcN 4 d2 ≤ 4) (p3 : pcN 4 d3 ≤ 4) (p4 : pcN 4 d4 ≤ 4) (p5 : pcN 4 d5 ≤ 4) (p6 : pcN 4 d6 ≤ 4) (p7 : pcN 4 d7 ≤ 4) (en : x.toBitVec.toNat = v16 [s1 d0, s1 d1, s1 d2, s1 d3, s1 d4, s1 d5, s1 d6, s1 d7]) : ((x &&& 858993459) + (((x.toUInt32 >>> ((2 : Int32).toUInt32 &&& (31 : Int32).toUInt32)).toInt32) &&& 858993459)).toBitVec.toNat = v16 [pcN 4 d0, pcN 4 d1, pcN 4 d2, pcN 4 d3, pcN 4 d4, pcN 4 d5, pcN 4 d6, pcN 4 d7] := by
  have w2 := swar_two d0 d1 d2 d3 d4 d5 d6 d7 h0 h1 h2 h3 h4 h5 h6 h7
  have e1 : (x &&& 858993459).toBitVec.toNat = v16 [s1 d0, s1 d1, s1 d2, s1 d3, s1 d4, s1 d5, s1 d6, s1 d7] &&& 858993459 := by rw [nat_and32, en, kons.2.1]
  have e2 : (((x.toUInt32 >>> ((2 : Int32).toUInt32 &&& (31 : Int32).toUInt32)).toInt32) &&& 858993459).toBitVec.toNat = (v16 [s1 d0, s1 d1, s1 d2, s1 d3, s1 d4, s1 d5, s1 d6, s1 d7] / 4) &&& 858993459 := by rw [nat_and32, ushr_nat x 2 (by omega) 2 kshr.2.1, en, kons.2.1, show 2 ^ 2 = 4 from rfl]
  rw [nat_add32 _ _ (by rw [e1, e2, w2]; simp only [v16]; omega), e1, e2, w2]
theorem bc3 (x : Int32) (p0 : d0 ≤ 4) (p1 : d1 ≤ 4) (p2 : d2 ≤ 4) (p3 : d3 ≤ 4) (p4 : d4 ≤ 4) (p5 : d5 ≤ 4) (p6 : d6 ≤ 4) (p7 : d7 ≤ 4) (en : x.toBitVec.toNat = v16 [d0, d1, d2, d3, d4, d5, d6, d7]) : ((x + ((x.toUInt32 >>> ((4 : Int32).toUInt32 &&& (31 : Int32).toUInt32)).toInt32)) &&& 252645135).toBitVec.toNat = v16 [d0 + d1, 0, d2 + d3, 0, d4 + d5, 0, d6 + d7, 0] := by
  have e4 : ((x.toUInt32 >>> ((4 : Int32).toUInt32 &&& (31 : Int32).toUInt32)).toInt32).toBitVec.toNat = v16 [d0, d1, d2, d3, d4, d5, d6, d7] / 16 := by rw [ushr_nat x 4 (by omega) 4 kshr.2.2.1, en, show 2 ^ 4 = 16 from rfl]
  rw [nat_and32, nat_add32 _ _ (by rw [e4, en]; simp only [v16]; omega), e4, en, kons.2.2.1, swar_four _ _ _ _ _ _ _ _ p0 p1 p2 p3 p4 p5 p6 p7]
theorem bc4 (x : Int32) {p0 p1 p2 p3 : Nat} (h0 : p0 ≤ 8) (h1 : p1 ≤ 8) (h2 : p2 ≤ 8) (h3 : p3 ≤ 8) (en : x.toBitVec.toNat = p0 + 256 * p1 + 65536 * p2 + 16777216 * p3) : (((x + ((x.toUInt32 >>> ((8 : Int32).toUInt32 &&& (31 : Int32).toUInt32)).toInt32)) + (((x + ((x.toUInt32 >>> ((8 : Int32).toUInt32 &&& (31 : Int32).toUInt32)).toInt32)).toUInt32 >>> ((16 : Int32).toUInt32 &&& (31 : Int32).toUInt32)).toInt32)) &&& 63).toBitVec.toNat = p0 + p1 + p2 + p3 := by
  have e8 : ((x.toUInt32 >>> ((8 : Int32).toUInt32 &&& (31 : Int32).toUInt32)).toInt32).toBitVec.toNat = x.toBitVec.toNat / 256 := by rw [ushr_nat x 8 (by omega) 8 kshr.2.2.2.1, show 2 ^ 8 = 256 from rfl]
  have n4 := nat_add32 x ((x.toUInt32 >>> ((8 : Int32).toUInt32 &&& (31 : Int32).toUInt32)).toInt32) (by rw [e8]; omega)
  rw [e8] at n4
  generalize x + ((x.toUInt32 >>> ((8 : Int32).toUInt32 &&& (31 : Int32).toUInt32)).toInt32) = v4 at n4 ⊢
  have e16 : ((v4.toUInt32 >>> ((16 : Int32).toUInt32 &&& (31 : Int32).toUInt32)).toInt32).toBitVec.toNat = v4.toBitVec.toNat / 65536 := by rw [ushr_nat v4 16 (by omega) 16 kshr.2.2.2.2, show 2 ^ 16 = 65536 from rfl]
  rw [nat_and32, nat_add32 _ _ (by rw [e16]; omega), e16, kons.2.2.2, show 63 = 2 ^ 6 - 1 from rfl, Nat.and_two_pow_sub_one_eq_mod]
  have a1 : x.toBitVec.toNat / 256 = p1 + 256 * p2 + 65536 * p3 := by omega
  have a2 : v4.toBitVec.toNat = (p0 + p1) + 256 * (p1 + p2) + 65536 * (p2 + p3 + 256 * p3) := by omega
  have a3 : v4.toBitVec.toNat / 65536 = p2 + p3 + 256 * p3 := by omega
  rw [a3, a2]
  omega
end BC
theorem pc8 (d0 d1 d2 d3 d4 d5 d6 d7 : Nat) (h0 : d0 < 16) (h1 : d1 < 16) (h2 : d2 < 16) (h3 : d3 < 16) (h4 : d4 < 16) (h5 : d5 < 16) (h6 : d6 < 16) (h7 : d7 < 16) : pcN 32 (v16 [d0, d1, d2, d3, d4, d5, d6, d7]) = pcN 4 d0 + (pcN 4 d1 + (pcN 4 d2 + (pcN 4 d3 + (pcN 4 d4 + (pcN 4 d5 + (pcN 4 d6 + pcN 4 d7)))))) := by
  rw [v16, show 32 = 28 + 4 from rfl, pc_16 _ _ _ h0, v16, show 28 = 24 + 4 from rfl, pc_16 _ _ _ h1, v16, show 24 = 20 + 4 from rfl, pc_16 _ _ _ h2, v16, show 20 = 16 + 4 from rfl, pc_16 _ _ _ h3, v16, show 16 = 12 + 4 from rfl]
  rw [pc_16 _ _ _ h4, v16, show 12 = 8 + 4 from rfl, pc_16 _ _ _ h5, v16, show 8 = 4 + 4 from rfl, pc_16 _ _ _ h6, v16, v16, Nat.mul_zero, Nat.add_zero]
theorem bitCountC (x : Int32) (h : AHp) : m_J6_bitCount_0f7a4 x h = some (nI (pcI x), h) := by
  obtain ⟨d0, d1, d2, d3, d4, d5, d6, d7, en, h0, h1, h2, h3, h4, h5, h6, h7⟩ := digits x.toBitVec.toNat x.toBitVec.isLt
  unfold m_J6_bitCount_0f7a4
  simp only [lt_eq]
  have p0 := pcN_le 4 d0
  have p1 := pcN_le 4 d1
  have p2 := pcN_le 4 d2
  have p3 := pcN_le 4 d3
  have p4 := pcN_le 4 d4
  have p5 := pcN_le 4 d5
  have p6 := pcN_le 4 d6
  have p7 := pcN_le 4 d7
  have b1 := bc1 x h0 h1 h2 h3 h4 h5 h6 h7 en
  have b2 := bc2 _ h0 h1 h2 h3 h4 h5 h6 h7 p0 p1 p2 p3 p4 p5 p6 p7 b1
  have b3 := bc3 _ p0 p1 p2 p3 p4 p5 p6 p7 b2
  have np : pcI x = (pcN 4 d0 + pcN 4 d1) + (pcN 4 d2 + pcN 4 d3) + (pcN 4 d4 + pcN 4 d5) + (pcN 4 d6 + pcN 4 d7) := by
    unfold pcI; rw [en, pc8 _ _ _ _ _ _ _ _ h0 h1 h2 h3 h4 h5 h6 h7]; omega
  have b4 := bc4 _ (p0 := pcN 4 d0 + pcN 4 d1) (p1 := pcN 4 d2 + pcN 4 d3) (p2 := pcN 4 d4 + pcN 4 d5) (p3 := pcN 4 d6 + pcN 4 d7) (by omega) (by omega) (by omega) (by omega) (by rw [b3]; simp only [v16]; omega)
  rw [← np] at b4
  have hp : pcI x ≤ 32 := pcN_le 32 _
  have nn : (nI (pcI x)).toBitVec.toNat = pcI x := by
    show (Int32.ofNat (pcI x)).toBitVec.toNat = _
    rw [Int32.toBitVec_ofNat', BitVec.toNat_ofNat, Nat.mod_eq_of_lt (by omega)]
  rw [bv_nat _ (nI (pcI x)) (b4.trans nn.symm)]
