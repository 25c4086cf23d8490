/-! PURE: reading behind a write; the option's words -/
theorem hI_sI (h : AHp) (k i a b : Nat) (v : Int32) : hI (sI h k i v) a b = if a = k ∧ b = i then v else hI h a b := rfl
theorem hI_sR (h : AHp) (k a b : Nat) (f : Nat → Int32) : hI (sR h k f) a b = if a = k then f b else hI h a b := rfl
theorem hI_sL (h : AHp) (k i a b : Nat) (v : Int64) : hI (sL h k i v) a b = hI h a b := rfl
theorem hI_sM (h : AHp) (k i a b v : Nat) : hI (sM h k i v) a b = hI h a b := rfl
theorem hL_sI (h : AHp) (k i a b : Nat) (v : Int32) : hL (sI h k i v) a b = hL h a b := rfl
theorem hL_sR (h : AHp) (k a b : Nat) (f : Nat → Int32) : hL (sR h k f) a b = hL h a b := rfl
theorem hL_sL (h : AHp) (k i a b : Nat) (v : Int64) : hL (sL h k i v) a b = if a = k ∧ b = i then v else hL h a b := rfl
theorem hL_sM (h : AHp) (k i a b v : Nat) : hL (sM h k i v) a b = hL h a b := rfl
theorem hM_sI (h : AHp) (k i a b : Nat) (v : Int32) : hM (sI h k i v) a b = hM h a b := rfl
theorem hM_sR (h : AHp) (k a b : Nat) (f : Nat → Int32) : hM (sR h k f) a b = hM h a b := rfl
theorem hM_sL (h : AHp) (k i a b : Nat) (v : Int64) : hM (sL h k i v) a b = hM h a b := rfl
theorem hM_sM (h : AHp) (k i a b v : Nat) : hM (sM h k i v) a b = if a = k ∧ b = i then v else hM h a b := rfl
theorem bd_some {a r : Type} (x : a) (h : AHp) (F : a → AHp → Option r) : bd (some (x, h)) F = F x h := rfl
theorem lt_eq {a b : Type} (x : a) (f : a → b) : lt x f = f x := rfl
theorem gd_pos {r : Type} {c : Prop} {dc : Decidable c} (hc : c) (o : Option r) : @gd r c dc o = o := by unfold gd; rw [if_pos hc]
/-! what a call may change -/
def Ch (P : Nat → Nat → Bool) (h h1 : AHp) : Prop := ∀ k i, P k i = false → hI h1 k i = hI h k i ∧ hL h1 k i = hL h k i ∧ hM h1 k i = hM h k i
theorem Ch.rf {P : Nat → Nat → Bool} {h : AHp} : Ch P h h := fun _ _ _ => ⟨rfl, rfl, rfl⟩
theorem Ch.trans {P : Nat → Nat → Bool} {h h1 h2 : AHp} (a : Ch P h h1) (b : Ch P h1 h2) : Ch P h h2 := fun k i hp => by
  obtain ⟨a1, a2, a3⟩ := a k i hp
  obtain ⟨b1, b2, b3⟩ := b k i hp
  exact ⟨b1.trans a1, b2.trans a2, b3.trans a3⟩
theorem Ch.mono {P Q : Nat → Nat → Bool} {h h1 : AHp} (a : Ch P h h1) (hq : ∀ k i, Q k i = false → P k i = false) : Ch Q h h1 := fun k i hp => a k i (hq k i hp)
theorem Ch.sI {P : Nat → Nat → Bool} {h h1 : AHp} (a : Ch P h h1) {k i : Nat} {v : Int32} (hp : P k i = true) : Ch P h (sI h1 k i v) := fun k2 i2 h2 => by
  obtain ⟨a1, a2, a3⟩ := a k2 i2 h2
  refine ⟨?_, a2, a3⟩
  rw [hI_sI, if_neg, a1]
  rintro ⟨rfl, rfl⟩
  rw [hp] at h2; cases h2
theorem Ch.sL {P : Nat → Nat → Bool} {h h1 : AHp} (a : Ch P h h1) {k i : Nat} {v : Int64} (hp : P k i = true) : Ch P h (sL h1 k i v) := fun k2 i2 h2 => by
  obtain ⟨a1, a2, a3⟩ := a k2 i2 h2
  refine ⟨a1, ?_, a3⟩
  rw [hL_sL, if_neg, a2]
  rintro ⟨rfl, rfl⟩
  rw [hp] at h2; cases h2
theorem Ch.sM {P : Nat → Nat → Bool} {h h1 : AHp} (a : Ch P h h1) {k i v : Nat} (hp : P k i = true) : Ch P h (sM h1 k i v) := fun k2 i2 h2 => by
  obtain ⟨a1, a2, a3⟩ := a k2 i2 h2
  refine ⟨a1, a2, ?_⟩
  rw [hM_sM, if_neg, a3]
  rintro ⟨rfl, rfl⟩
  rw [hp] at h2; cases h2
theorem Ch.sR {P : Nat → Nat → Bool} {h h1 : AHp} (a : Ch P h h1) {k : Nat} {f : Nat → Int32} (hp : ∀ i, P k i = true) : Ch P h (sR h1 k f) := fun k2 i2 h2 => by
  obtain ⟨a1, a2, a3⟩ := a k2 i2 h2
  refine ⟨?_, a2, a3⟩
  rw [hI_sR, if_neg, a1]
  rintro rfl
  rw [hp] at h2; cases h2
/-! numbers -/
theorem i32_lt {x y : Int32} : x < y ↔ x.toInt < y.toInt := Int32.lt_iff_toInt_lt
theorem i32_le {x y : Int32} : x ≤ y ↔ x.toInt ≤ y.toInt := Int32.le_iff_toInt_le
theorem i32_eq {x y : Int32} : x = y ↔ x.toInt = y.toInt := Int32.toInt_inj.symm
theorem i64_lt {x y : Int64} : x < y ↔ x.toInt < y.toInt := Int64.lt_iff_toInt_lt
theorem i64_le {x y : Int64} : x ≤ y ↔ x.toInt ≤ y.toInt := Int64.le_iff_toInt_le
theorem i64_eq {x y : Int64} : x = y ↔ x.toInt = y.toInt := Int64.toInt_inj.symm
theorem i32_64 (x : Int32) : x.toInt64.toInt = x.toInt := Int32.toInt_toInt64 x
theorem i32_bd (x : Int32) : -2147483648 ≤ x.toInt ∧ x.toInt ≤ 2147483647 := ⟨Int32.le_toInt x, by have := Int32.toInt_lt x; omega⟩
theorem tIall : ((-4096) : Int32).toInt = -4096 ∧ ((-1000) : Int32).toInt = -1000 ∧ ((-8) : Int32).toInt = -8 ∧ ((-3) : Int32).toInt = -3 ∧ ((-2) : Int32).toInt = -2 ∧ ((-1) : Int32).toInt = -1 ∧ ((0) : Int32).toInt = 0 ∧ ((1) : Int32).toInt = 1 ∧ ((2) : Int32).toInt = 2 ∧ ((3) : Int32).toInt = 3 ∧ ((4) : Int32).toInt = 4 ∧ ((5) : Int32).toInt = 5 ∧ ((6) : Int32).toInt = 6 ∧ ((7) : Int32).toInt = 7 ∧ ((8) : Int32).toInt = 8 ∧ ((9) : Int32).toInt = 9 ∧ ((10) : Int32).toInt = 10 ∧ ((11) : Int32).toInt = 11 ∧ ((12) : Int32).toInt = 12 ∧ ((13) : Int32).toInt = 13 ∧ ((14) : Int32).toInt = 14 ∧ ((15) : Int32).toInt = 15 ∧ ((16) : Int32).toInt = 16 ∧ ((17) : Int32).toInt = 17 ∧ ((18) : Int32).toInt = 18 ∧ ((19) : Int32).toInt = 19 ∧ ((20) : Int32).toInt = 20 ∧ ((21) : Int32).toInt = 21 ∧ ((22) : Int32).toInt = 22 ∧ ((23) : Int32).toInt = 23 ∧ ((24) : Int32).toInt = 24 ∧ ((25) : Int32).toInt = 25 ∧ ((26) : Int32).toInt = 26 ∧ ((27) : Int32).toInt = 27 ∧ ((28) : Int32).toInt = 28 ∧ ((29) : Int32).toInt = 29 ∧ ((30) : Int32).toInt = 30 ∧ ((31) : Int32).toInt = 31 ∧ ((32) : Int32).toInt = 32 ∧ ((33) : Int32).toInt = 33 ∧ ((34) : Int32).toInt = 34 ∧ ((35) : Int32).toInt = 35 ∧ ((36) : Int32).toInt = 36 ∧ ((37) : Int32).toInt = 37 ∧ ((38) : Int32).toInt = 38 ∧ ((39) : Int32).toInt = 39 ∧ ((40) : Int32).toInt = 40 ∧ ((41) : Int32).toInt = 41 ∧ ((42) : Int32).toInt = 42 ∧ ((43) : Int32).toInt = 43 ∧ ((44) : Int32).toInt = 44 ∧ ((45) : Int32).toInt = 45 ∧ ((46) : Int32).toInt = 46 ∧ ((47) : Int32).toInt = 47 ∧ ((48) : Int32).toInt = 48 ∧ ((49) : Int32).toInt = 49 ∧ ((50) : Int32).toInt = 50 ∧ ((51) : Int32).toInt = 51 ∧ ((52) : Int32).toInt = 52 ∧ ((53) : Int32).toInt = 53 ∧ ((54) : Int32).toInt = 54 ∧ ((55) : Int32).toInt = 55 ∧ ((56) : Int32).toInt = 56 ∧ ((57) : Int32).toInt = 57 ∧ ((58) : Int32).toInt = 58 ∧ ((59) : Int32).toInt = 59 ∧ ((60) : Int32).toInt = 60 ∧ ((61) : Int32).toInt = 61 ∧ ((62) : Int32).toInt = 62 ∧ ((63) : Int32).toInt = 63 ∧ ((64) : Int32).toInt = 64 ∧ ((65) : Int32).toInt = 65 ∧ ((66) : Int32).toInt = 66 ∧ ((67) : Int32).toInt = 67 ∧ ((68) : Int32).toInt = 68 ∧ ((69) : Int32).toInt = 69 ∧ ((70) : Int32).toInt = 70 ∧ ((71) : Int32).toInt = 71 ∧ ((72) : Int32).toInt = 72 ∧ ((73) : Int32).toInt = 73 ∧ ((74) : Int32).toInt = 74 ∧ ((75) : Int32).toInt = 75 ∧ ((76) : Int32).toInt = 76 ∧ ((77) : Int32).toInt = 77 ∧ ((78) : Int32).toInt = 78 ∧ ((79) : Int32).toInt = 79 ∧ ((80) : Int32).toInt = 80 ∧ ((81) : Int32).toInt = 81 ∧ ((82) : Int32).toInt = 82 ∧ ((83) : Int32).toInt = 83 ∧ ((84) : Int32).toInt = 84 ∧ ((85) : Int32).toInt = 85 ∧ ((86) : Int32).toInt = 86 ∧ ((87) : Int32).toInt = 87 ∧ ((88) : Int32).toInt = 88 ∧ ((89) : Int32).toInt = 89 ∧ ((90) : Int32).toInt = 90 ∧ ((91) : Int32).toInt = 91 ∧ ((92) : Int32).toInt = 92 ∧ ((93) : Int32).toInt = 93 ∧ ((94) : Int32).toInt = 94 ∧ ((95) : Int32).toInt = 95 ∧ ((96) : Int32).toInt = 96 ∧ ((97) : Int32).toInt = 97 ∧ ((98) : Int32).toInt = 98 ∧ ((99) : Int32).toInt = 99 ∧ ((100) : Int32).toInt = 100 ∧ ((101) : Int32).toInt = 101 ∧ ((102) : Int32).toInt = 102 ∧ ((103) : Int32).toInt = 103 ∧ ((104) : Int32).toInt = 104 ∧ ((105) : Int32).toInt = 105 ∧ ((106) : Int32).toInt = 106 ∧ ((107) : Int32).toInt = 107 ∧ ((108) : Int32).toInt = 108 ∧ ((109) : Int32).toInt = 109 ∧ ((110) : Int32).toInt = 110 ∧ ((111) : Int32).toInt = 111 ∧ ((112) : Int32).toInt = 112 ∧ ((113) : Int32).toInt = 113 ∧ ((114) : Int32).toInt = 114 ∧ ((115) : Int32).toInt = 115 ∧ ((116) : Int32).toInt = 116 ∧ ((117) : Int32).toInt = 117 ∧ ((122) : Int32).toInt = 122 ∧ ((124) : Int32).toInt = 124 ∧ ((136) : Int32).toInt = 136 ∧ ((150) : Int32).toInt = 150 ∧ ((175) : Int32).toInt = 175 ∧ ((192) : Int32).toInt = 192 ∧ ((200) : Int32).toInt = 200 ∧ ((220) : Int32).toInt = 220 ∧ ((240) : Int32).toInt = 240 ∧ ((255) : Int32).toInt = 255 ∧ ((256) : Int32).toInt = 256 ∧ ((400) : Int32).toInt = 400 ∧ ((625) : Int32).toInt = 625 ∧ ((999) : Int32).toInt = 999 ∧ ((1000) : Int32).toInt = 1000 ∧ ((1250) : Int32).toInt = 1250 ∧ ((4095) : Int32).toInt = 4095 ∧ ((4375) : Int32).toInt = 4375 ∧ ((7500) : Int32).toInt = 7500 ∧ ((8125) : Int32).toInt = 8125 ∧ ((12500) : Int32).toInt = 12500 ∧ ((13849) : Int32).toInt = 13849 ∧ ((20000) : Int32).toInt = 20000 ∧ ((25173) : Int32).toInt = 25173 ∧ ((65535) : Int32).toInt = 65535 ∧ ((65536) : Int32).toInt = 65536 ∧ ((33554430) : Int32).toInt = 33554430 ∧ ((33554431) : Int32).toInt = 33554431 ∧ ((252645135) : Int32).toInt = 252645135 ∧ ((858993459) : Int32).toInt = 858993459 ∧ ((1000000000) : Int32).toInt = 1000000000 ∧ ((1431655765) : Int32).toInt = 1431655765 := by refine ⟨rfl, rfl, rfl, rfl, rfl, rfl, rfl, rfl, rfl, rfl, rfl, rfl, rfl, rfl, rfl, rfl, rfl, rfl, rfl, rfl, rfl, rfl, rfl, rfl, rfl, rfl, rfl, rfl, rfl, rfl, rfl, rfl, rfl, rfl, rfl, rfl, rfl, rfl, rfl, rfl, rfl, rfl, rfl, rfl, rfl, rfl, rfl, rfl, rfl, rfl, rfl, rfl, rfl, rfl, rfl, rfl, rfl, rfl, rfl, rfl, rfl, rfl, rfl, rfl, rfl, rfl, rfl, rfl, rfl, rfl, rfl, rfl, rfl, rfl, rfl, rfl, rfl, rfl, rfl, rfl, rfl, rfl, rfl, rfl, rfl, rfl, rfl, rfl, rfl, rfl, rfl, rfl, rfl, rfl, rfl, rfl, rfl, rfl, rfl, rfl, rfl, rfl, rfl, rfl, rfl, rfl, rfl, rfl, rfl, rfl, rfl, rfl, rfl, rfl, rfl, rfl, rfl, rfl, rfl, rfl, rfl, rfl, rfl, rfl, rfl, rfl, rfl, rfl, rfl, rfl, rfl, rfl, rfl, rfl, rfl, rfl, rfl, rfl, rfl, rfl, rfl, rfl, rfl, rfl, rfl, rfl, rfl, rfl, rfl, rfl, rfl, rfl, rfl, rfl, rfl, rfl⟩
theorem clamp_toNat (x : Int32) : x.toNatClampNeg = x.toInt.toNat := rfl
theorem inb_iff {i : Int32} {n : Nat} : inb i n ↔ 0 ≤ i.toInt ∧ i.toInt < n := by
  unfold inb
  rw [i32_lt, clamp_toNat, show (0 : Int32).toInt = 0 from rfl]
  omega
def b2i (p : Prop) [Decidable p] : Int32 := if p then 1 else 0
theorem lgc_lt (x y : Int64) : lg_cmp x y < 0 ↔ x.toInt < y.toInt := by
  unfold lg_cmp
  simp only [gt_iff_lt, i64_lt, i64_eq]
  split
  · rename_i h; constructor
    · intro q; exact absurd q (by decide)
    · intro q; omega
  · split
    · rename_i h1 h; constructor
      · intro q; exact absurd q (by decide)
      · intro q; omega
    · rename_i h1 h; constructor
      · intro q; omega
      · intro q; decide
theorem lgc_gt (x y : Int64) : 0 < lg_cmp x y ↔ y.toInt < x.toInt := by
  unfold lg_cmp
  simp only [gt_iff_lt, i64_lt, i64_eq]
  split
  · rename_i h; exact ⟨fun _ => h, fun _ => by decide⟩
  · split
    · rename_i h1 h; constructor
      · intro q; exact absurd q (by decide)
      · intro q; omega
    · rename_i h1 h; constructor
      · intro q; exact absurd q (by decide)
      · intro q; omega
theorem lies_eq (x lo hi : Int64) (h : AHp) : m_X12_lies x lo hi h = some (b2i (lo.toInt ≤ x.toInt ∧ x.toInt ≤ hi.toInt), h) := by
  unfold m_X12_lies b2i
  by_cases h1 : x.toInt < lo.toInt
  · rw [if_pos ((lgc_lt x lo).mpr h1), if_neg (by omega)]
  · rw [if_neg (fun q => h1 ((lgc_lt x lo).mp q))]
    by_cases h2 : hi.toInt < x.toInt
    · rw [if_pos ((lgc_gt x hi).mpr h2), if_neg (by omega)]
    · rw [if_neg (fun q => h2 ((lgc_gt x hi).mp q)), if_pos (by omega)]
theorem b2i_01 (p : Prop) [Decidable p] : b2i p = 0 ∨ b2i p = 1 := by unfold b2i; split <;> simp
theorem b2i_t {p : Prop} [Decidable p] (h : p) : b2i p = 1 := if_pos h
theorem b2i_f {p : Prop} [Decidable p] (h : ¬ p) : b2i p = 0 := if_neg h
theorem one_ne : ¬ ((1 : Int32) = 0) := by decide
theorem liesI (x : Int32) (lo hi : Int64) (h : AHp) : m_X12_lies x.toInt64 lo hi h = some (b2i (lo.toInt ≤ x.toInt ∧ x.toInt ≤ hi.toInt), h) := by rw [lies_eq, i32_64]
theorem isThingM (x : Int32) (h : AHp) : m_X12_isThing x h = some (b2i (0 ≤ x.toInt ∧ x.toInt ≤ 11), h) := by
  unfold m_X12_isThing; rw [liesI, bd_some, gd_pos (b2i_01 _)]; rfl
theorem isSpeakerM (x : Int32) (h : AHp) : m_X12_isSpeaker x h = some (b2i (0 ≤ x.toInt ∧ x.toInt ≤ 5), h) := by
  unfold m_X12_isSpeaker; rw [liesI, bd_some, gd_pos (b2i_01 _)]; rfl
theorem isSizeM (x : Int32) (h : AHp) : m_X12_isSize x h = some (b2i (1 ≤ x.toInt ∧ x.toInt ≤ 24), h) := by
  unfold m_X12_isSize; rw [liesI, bd_some, gd_pos (b2i_01 _)]; rfl
theorem isLawM (x : Int32) (h : AHp) : m_X12_isLaw x h = some (b2i (0 ≤ x.toInt ∧ x.toInt ≤ 1), h) := by
  unfold m_X12_isLaw; rw [liesI, bd_some, gd_pos (b2i_01 _)]; rfl
theorem lt_lit {x c : Int32} {k : Int} (hc : c.toInt = k) : x < c ↔ x.toInt < k := by rw [i32_lt, hc]
theorem lit_le {x c : Int32} {k : Int} (hc : c.toInt = k) : c ≤ x ↔ k ≤ x.toInt := by rw [i32_le, hc]
theorem isThingC (x : Int32) (h : AHp) : m_X11_isThing x h = some (b2i (0 ≤ x.toInt ∧ x.toInt ≤ 11), h) := by
  unfold m_X11_isThing b2i
  simp only [i32_lt, i32_le, tIall]
  repeat' split
  all_goals first | rfl | omega
theorem isSpeakerC (x : Int32) (h : AHp) : m_X11_isSpeaker x h = some (b2i (0 ≤ x.toInt ∧ x.toInt ≤ 5), h) := by
  unfold m_X11_isSpeaker b2i
  simp only [i32_lt, i32_le, tIall]
  repeat' split
  all_goals first | rfl | omega
theorem isLawC (x : Int32) (h : AHp) : m_X11_isLaw x h = some (b2i (0 ≤ x.toInt ∧ x.toInt ≤ 1), h) := by
  unfold m_X11_isLaw b2i
  simp only [i32_eq (y := 0), i32_eq (y := 1), show (0 : Int32).toInt = 0 from rfl, show (1 : Int32).toInt = 1 from rfl]
  repeat' split
  all_goals first | rfl | omega
