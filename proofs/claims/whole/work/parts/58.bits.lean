/-! BITS of an int -/
def tb (x : Int32) (k : Nat) : Bool := x.toBitVec.getLsbD k
theorem tb_ext {x y : Int32} (h : ∀ k, k < 32 → tb x k = tb y k) : x = y := by
  apply Int32.toBitVec_inj.mp
  exact BitVec.eq_of_getLsbD_eq (fun i hi => h i hi)
theorem tb_or (x y : Int32) (k : Nat) : tb (x ||| y) k = (tb x k || tb y k) := by
  unfold tb; rw [Int32.toBitVec_or, BitVec.getLsbD_or]
theorem tb_and (x y : Int32) (k : Nat) : tb (x &&& y) k = (tb x k && tb y k) := by
  unfold tb; rw [Int32.toBitVec_and, BitVec.getLsbD_and]
theorem tb_xor (x y : Int32) (k : Nat) : tb (x ^^^ y) k = (tb x k ^^ tb y k) := by
  unfold tb; rw [Int32.toBitVec_xor, BitVec.getLsbD_xor]
theorem tb_m1 {k : Nat} (hk : k < 32) : tb (-1) k = true := by
  have : ∀ j : Fin 32, tb (-1) j.val = true := by decide
  exact this ⟨k, hk⟩
theorem tb_zero (k : Nat) : tb 0 k = false := by
  unfold tb
  show (0#32).getLsbD k = false
  simp
theorem and31 {k : Nat} (hk : k < 32) : (nI k &&& 31).toBitVec = BitVec.ofNat 32 k := by
  have : ∀ j : Fin 32, (nI j.val &&& 31).toBitVec = BitVec.ofNat 32 j.val := by decide
  exact this ⟨k, hk⟩
theorem smod32 {k : Nat} (hk : k < 32) : (BitVec.ofNat 32 k).smod 32 = BitVec.ofNat 32 k := by
  have : ∀ j : Fin 32, (BitVec.ofNat 32 j.val).smod 32 = BitVec.ofNat 32 j.val := by decide
  exact this ⟨k, hk⟩
theorem tb_shl (x : Int32) {s : Nat} (hs : s < 32) (k : Nat) : tb (x <<< (nI s &&& 31)) k = (decide (k < 32) && !decide (k < s) && tb x (k - s)) := by
  unfold tb
  rw [shl_bv s hs (nI s) x (and31 hs), BitVec.getLsbD_shiftLeft]
theorem tb_one (k : Nat) : tb 1 k = decide (k = 0) := by
  unfold tb
  show (1#32).getLsbD k = _
  rw [BitVec.getLsbD_one]; simp
theorem tb_bit {s : Nat} (hs : s < 32) {k : Nat} (hk : k < 32) : tb ((1 : Int32) <<< (nI s &&& 31)) k = decide (k = s) := by
  rw [tb_shl 1 hs, tb_one]
  by_cases h : k = s
  · subst h; simp [hk]
  · by_cases h2 : k < s
    · simp [h, h2]
    · simp [h, hk]; omega
theorem shr_bv {s : Nat} (hs : s < 32) (x : Int32) : (x >>> (nI s &&& 31)).toBitVec = x.toBitVec.sshiftRight s := by
  rw [Int32.toBitVec_shiftRight, and31 hs, smod32 hs, BitVec.sshiftRight_eq', BitVec.toNat_ofNat, Nat.mod_eq_of_lt (by omega)]
theorem has_iff (x : Int32) {s : Nat} (hs : s < 32) : ((x >>> (nI s &&& 31)) &&& 1) = if tb x s = true then 1 else 0 := by
  apply tb_ext
  intro k hk
  rw [tb_and, tb_one]
  have e : tb (x >>> (nI s &&& 31)) 0 = tb x s := by
    unfold tb
    rw [shr_bv hs, BitVec.getLsbD_sshiftRight]
    simp [hs]
  by_cases h0 : k = 0
  · subst h0
    rw [e]
    by_cases hx : tb x s = true
    · rw [if_pos hx, hx]; rfl
    · rw [if_neg hx]; simp at hx; rw [hx]; rfl
  · simp [h0]
    split
    · rw [tb_one]; simp [h0]
    · rw [tb_zero]
theorem hasM (x : Int32) {s : Nat} (hs : s < 32) (h : AHp) : m_X12_has x (nI s) h = some (if tb x s = true then 1 else 0, h) := by
  unfold m_X12_has
  rw [has_iff x hs]
  by_cases hx : tb x s = true
  · simp only [if_pos hx, if_true]
  · simp only [if_neg hx]; rfl
