/-! the small steps of the class's laws -/
theorem tb_nI (x : Nat) {k : Nat} (hk : k < 32) : tb (nI x) k = x.testBit k := by
  unfold tb
  show (Int32.ofNat x).toBitVec.getLsbD k = _
  rw [Int32.toBitVec_ofNat', BitVec.getLsbD_ofNat, decide_eq_true hk, Bool.true_and]
theorem nI_or (a b : Nat) : nI a ||| nI b = nI (a ||| b) := tb_ext (fun k hk => by
  rw [tb_or, tb_nI a hk, tb_nI b hk, tb_nI _ hk, Nat.testBit_or])
theorem nI_orS {a k : Nat} (c : Nat) (h : a < 2 ^ k) : nI a ||| nI (c * 2 ^ k) = nI (a + c * 2 ^ k) := by
  rw [nI_or, Nat.or_comm, Nat.mul_comm c, ← Nat.two_pow_add_eq_or_of_lt h, Nat.add_comm]
/-- a step with two registers and its result's -/
def pkc (op x y r : Nat) : Int32 := nI (op + 16 * x + 4096 * y + 1048576 * r)
section PKC
variable {op x y r : Nat}
theorem pkc_op (ho : op < 16) (hx : x < 256) (hy : y < 256) (hr : r < 256) : pkc op x y r &&& 15 = nI op := by
  unfold pkc
  rw [pk_andN (by omega) 4 (by decide), show (op + 16 * x + 4096 * y + 1048576 * r) % 2 ^ 4 = op by omega]
theorem pkc_x (ho : op < 16) (hx : x < 256) (hy : y < 256) (hr : r < 256) : (pkc op x y r >>> ((4 : Int32) &&& 31)) &&& 255 = nI x := by
  unfold pkc
  rw [pk_shrN (by omega) _ 4 (by decide), pk_andN (by omega) 8 (by decide), show (op + 16 * x + 4096 * y + 1048576 * r) / 2 ^ 4 % 2 ^ 8 = x by omega]
theorem pkc_y (ho : op < 16) (hx : x < 256) (hy : y < 256) (hr : r < 256) : (pkc op x y r >>> ((12 : Int32) &&& 31)) &&& 255 = nI y := by
  unfold pkc
  rw [pk_shrN (by omega) _ 12 (by decide), pk_andN (by omega) 8 (by decide), show (op + 16 * x + 4096 * y + 1048576 * r) / 2 ^ 12 % 2 ^ 8 = y by omega]
theorem pkc_r (ho : op < 16) (hx : x < 256) (hy : y < 256) (hr : r < 256) : (pkc op x y r >>> ((20 : Int32) &&& 31)) &&& 255 = nI r := by
  unfold pkc
  rw [pk_shrN (by omega) _ 20 (by decide), pk_andN (by omega) 8 (by decide), show (op + 16 * x + 4096 * y + 1048576 * r) / 2 ^ 20 % 2 ^ 8 = r by omega]
theorem pkc_mk (ho : op < 16) (hx : x < 256) (hy : y < 256) (hr : r < 256) : ((nI op ||| (nI x <<< ((4 : Int32) &&& 31))) ||| (nI y <<< ((12 : Int32) &&& 31))) ||| (nI r <<< ((20 : Int32) &&& 31)) = pkc op x y r := by
  rw [pk_shlN _ 4 (by decide) (by omega), pk_shlN _ 12 (by decide) (by omega), pk_shlN _ 20 (by decide) (by omega), nI_orS x (by omega), nI_orS y (by omega), nI_orS r (by omega)]
  unfold pkc
  congr 1
  omega
/-- a jump -/
def jmc (op L : Nat) : Int32 := nI (op + 16 * L)
theorem jmc_op {L : Nat} (ho : op < 16) (hL : L < 65536) : jmc op L &&& 15 = nI op := by
  unfold jmc
  rw [pk_andN (by omega) 4 (by decide), show (op + 16 * L) % 2 ^ 4 = op by omega]
theorem jmc_to {L : Nat} (ho : op < 16) (hL : L < 65536) : jmc op L >>> ((4 : Int32) &&& 31) = nI L := by
  unfold jmc
  rw [pk_shrN (by omega) _ 4 (by decide), show (op + 16 * L) / 2 ^ 4 = L by omega]
theorem jmc_mk {L : Nat} (ho : op < 16) (hL : L < 65536) : nI op ||| (nI L <<< ((4 : Int32) &&& 31)) = jmc op L := by
  rw [pk_shlN _ 4 (by decide) (by omega), nI_orS L (by omega)]
  unfold jmc
  congr 1
  omega
theorem in256 (x : Int32) : inb (x &&& 255) 256 := by
  obtain ⟨j, hj, e⟩ := pk_andE x (m := 255) 8 (by decide)
  rw [e]; exact inb_nI (by omega) (by omega)
end PKC
/-- what stands in the steps from a to b, in the numbers' registers among lo .. hi, in the letters -/
def PreR (j : Nat) (cd : Nat → Int32) (cst : Nat → Option Int32) (a b lo hi : Nat) (g : AHp) (e : Mom) : Prop := (∀ k, a ≤ k → k < b → hI g (j + 1) k = cd k) ∧ (∀ q v, lo ≤ q → q < hi → cst q = some v → hI g (j + 2) q = v) ∧ ∀ q, q < 9 → hI g (j + 2) q = e q
def KeepR (j : Nat) (cst : Nat → Option Int32) (lo hi : Nat) (g g1 : AHp) : Prop := Ch (PR j) g g1 ∧ ∀ q, (q < lo ∨ hi ≤ q ∨ ∃ v, cst q = some v) → hI g1 (j + 2) q = hI g (j + 2) q
def RunE (j : Nat) (cd : Nat → Int32) (cst : Nat → Option Int32) (a b lo hi r : Nat) (D : Dmn) : Prop := (a ≤ b ∧ b ≤ 256 ∧ 9 ≤ lo ∧ lo ≤ hi ∧ hi ≤ 256 ∧ r < hi) ∧
  ∀ (g : AHp) (e : Mom) (to i f : Nat) (x3 : Int32), PreR j cd cst a b lo hi g e → b ≤ to → to ≤ 256 → i + (b - a) ≤ 256 → b - a < f →
    ∃ g1, KeepR j cst lo hi g g1 ∧ ((D e = none ∧ m_X2_run_8 j f (nI to) x3 (nI a) (nI i) g = some (-1, g1)) ∨
      ∃ v f' i', D e = some v ∧ hI g1 (j + 2) r = v ∧ f ≤ f' + (b - a) ∧ i' ≤ i + (b - a) ∧ m_X2_run_8 j f (nI to) x3 (nI a) (nI i) g = m_X2_run_8 j f' (nI to) x3 (nI b) (nI i') g1)
def RunB (j : Nat) (cd : Nat → Int32) (cst : Nat → Option Int32) (a b lo hi : Nat) (D : Dmn) : Prop := (a ≤ b ∧ b ≤ 256 ∧ 9 ≤ lo ∧ lo ≤ hi ∧ hi ≤ 256) ∧
  ∀ (g : AHp) (e : Mom) (to i f : Nat) (x3 : Int32), PreR j cd cst a b lo hi g e → b ≤ to → to ≤ 256 → i + (b - a) ≤ 256 → b - a < f →
    ∃ g1, KeepR j cst lo hi g g1 ∧ ((D e = none ∧ m_X2_run_8 j f (nI to) x3 (nI a) (nI i) g = some (-1, g1)) ∨
      ∃ v f' i', D e = some v ∧ f ≤ f' + (b - a) ∧ i' ≤ i + (b - a) ∧ m_X2_run_8 j f (nI to) x3 (nI a) (nI i) g = m_X2_run_8 j f' (nI to) v (nI b) (nI i') g1)
section STEP
variable {j : Nat} {g : AHp} {to k i f op x y r : Nat} {x3 c : Int32}
def opA (c : Int32) : Nat := if c = 43 then 1 else if c = 45 then 2 else if c = 42 then 3 else if c = 47 then 4 else 5
def opK (c : Int32) : Nat := if c = 60 then 6 else if c = 62 then 7 else 8
theorem opA_lt (c : Int32) : opA c < 16 := by
  unfold opA
  repeat' split
  all_goals omega
theorem opK_lt (c : Int32) : opK c < 16 := by
  unfold opK
  repeat' split
  all_goals omega
theorem arO_47 (a b : Int32) : arO 47 a b = if b = 0 then none else some (a / b) := by
  unfold arO
  rw [if_neg (show ¬ ((47 : Int32) = 43) by decide), if_neg (show ¬ ((47 : Int32) = 45) by decide), if_neg (show ¬ ((47 : Int32) = 42) by decide), if_pos (show (47 : Int32) = 47 from rfl)]
theorem arO_37 (a b : Int32) : arO 37 a b = if b = 0 then none else some (a - a / b * b) := by
  unfold arO
  rw [if_neg (show ¬ ((37 : Int32) = 43) by decide), if_neg (show ¬ ((37 : Int32) = 45) by decide), if_neg (show ¬ ((37 : Int32) = 42) by decide), if_neg (show ¬ ((37 : Int32) = 47) by decide)]
theorem cmO_60 (a b : Int32) : cmO 60 a b = if b ≤ a then 0 else 1 := by
  unfold cmO
  rw [if_pos (show (60 : Int32) = 60 from rfl)]
theorem cmO_62 (a b : Int32) : cmO 62 a b = if a ≤ b then 0 else 1 := by
  unfold cmO
  rw [if_neg (show ¬ ((62 : Int32) = 60) by decide), if_pos (show (62 : Int32) = 62 from rfl)]
theorem cmO_61 (a b : Int32) : cmO 61 a b = if a = b then 1 else 0 := by
  unfold cmO
  rw [if_neg (show ¬ ((61 : Int32) = 60) by decide), if_neg (show ¬ ((61 : Int32) = 62) by decide)]
theorem nI_lit {a : Nat} (b : Nat) (ha : a < 256) (hb : b < 256) : (nI a = nI b) ↔ a = b := nI_eq (by omega) (by omega)
theorem step_ar (hc : isT c = true ∨ isP c = true) (hx : x < 256) (hy : y < 256) (hr : r < 256) (hk : k < to) (hto : to ≤ 256) (hi : i < 256) (he : hI g (j + 1) k = pkc (opA c) x y r) :
    m_X2_run_8 j (f + 1) (nI to) x3 (nI k) (nI i) g = (match arO c (hI g (j + 2) x) (hI g (j + 2) y) with
      | none => some (-1, g)
      | some v => m_X2_run_8 j f (nI to) x3 (nI (k + 1)) (nI (i + 1)) (sI g (j + 2) r v)) := by
  have ho := opA_lt c
  rw [m_X2_run_8, if_neg (show ¬ 256 ≤ nI i from nI_ge (a := i) (b := 256) (by omega) (by omega)), if_neg (nI_pos (by omega)), if_neg (nI_ge hk (by omega)), if_neg (show ¬ 256 ≤ nI k from nI_ge (a := k) (b := 256) (by omega) (by omega)), gd_pos (inb_nI (by omega) (by omega)), nI_clamp (by omega), he, lt_eq]
  simp only [pkc_op ho hx hy hr, pkc_x ho hx hy hr, pkc_y ho hx hy hr, pkc_r ho hx hy hr, gd_pos (inb_nI hx (by omega)), gd_pos (inb_nI hy (by omega)), gd_pos (inb_nI hr (by omega)), lt_eq, nI_1, nI_clamp (show x < 2 ^ 31 by omega), nI_clamp (show y < 2 ^ 31 by omega), nI_clamp (show r < 2 ^ 31 by omega)]
  have key : c = 43 ∨ c = 45 ∨ c = 42 ∨ c = 47 ∨ c = 37 := by
    unfold isT isP at hc
    simp only [Bool.or_eq_true, decide_eq_true_iff] at hc
    rcases hc with ((h | h) | h) | (h | h)
    · exact Or.inr (Or.inr (Or.inl h))
    · exact Or.inr (Or.inr (Or.inr (Or.inl h)))
    · exact Or.inr (Or.inr (Or.inr (Or.inr h)))
    · exact Or.inl h
    · exact Or.inr (Or.inl h)
  generalize hI g (j + 2) x = X
  generalize hI g (j + 2) y = Y
  rcases key with rfl | rfl | rfl | rfl | rfl
  · rw [show opA 43 = 1 from rfl, if_pos (by decide)]; rfl
  · rw [show opA 45 = 2 from rfl, if_neg (by decide), if_pos (by decide)]; rfl
  · rw [show opA 42 = 3 from rfl, if_neg (by decide), if_neg (by decide), if_pos (by decide)]; rfl
  · rw [show opA 47 = 4 from rfl, if_neg (by decide), if_neg (by decide), if_neg (by decide), if_pos (by decide)]
    rw [arO_47]
    by_cases h0 : Y = 0
    · rw [if_pos h0, if_pos h0]
    · rw [if_neg h0, if_neg h0, gd_pos h0]
  · rw [show opA 37 = 5 from rfl, if_neg (by decide), if_neg (by decide), if_neg (by decide), if_neg (by decide), if_pos (by decide)]
    rw [arO_37]
    by_cases h0 : Y = 0
    · rw [if_pos h0, if_pos h0]
    · rw [if_neg h0, if_neg h0, gd_pos h0]
theorem step_cm (hc : isC c = true) (hx : x < 256) (hy : y < 256) (hr : r < 256) (hk : k < to) (hto : to ≤ 256) (hi : i < 256) (he : hI g (j + 1) k = pkc (opK c) x y r) :
    m_X2_run_8 j (f + 1) (nI to) x3 (nI k) (nI i) g = m_X2_run_8 j f (nI to) (cmO c (hI g (j + 2) x) (hI g (j + 2) y)) (nI (k + 1)) (nI (i + 1)) g := by
  have ho := opK_lt c
  rw [m_X2_run_8, if_neg (show ¬ 256 ≤ nI i from nI_ge (a := i) (b := 256) (by omega) (by omega)), if_neg (nI_pos (by omega)), if_neg (nI_ge hk (by omega)), if_neg (show ¬ 256 ≤ nI k from nI_ge (a := k) (b := 256) (by omega) (by omega)), gd_pos (inb_nI (by omega) (by omega)), nI_clamp (by omega), he, lt_eq]
  simp only [pkc_op ho hx hy hr, pkc_x ho hx hy hr, pkc_y ho hx hy hr, pkc_r ho hx hy hr, gd_pos (inb_nI hx (by omega)), gd_pos (inb_nI hy (by omega)), gd_pos (inb_nI hr (by omega)), lt_eq, nI_1, nI_clamp (show x < 2 ^ 31 by omega), nI_clamp (show y < 2 ^ 31 by omega), nI_clamp (show r < 2 ^ 31 by omega)]
  have key : c = 60 ∨ c = 62 ∨ c = 61 := by
    unfold isC at hc
    simp only [Bool.or_eq_true, decide_eq_true_iff] at hc
    rcases hc with (h | h) | h
    · exact Or.inl h
    · exact Or.inr (Or.inl h)
    · exact Or.inr (Or.inr h)
  generalize hI g (j + 2) x = X
  generalize hI g (j + 2) y = Y
  rcases key with rfl | rfl | rfl
  · rw [show opK 60 = 6 from rfl, cmO_60, if_neg (show ¬ (nI 6 = 1) by decide), if_neg (show ¬ (nI 6 = 2) by decide), if_neg (show ¬ (nI 6 = 3) by decide), if_neg (show ¬ (nI 6 = 4) by decide), if_neg (show ¬ (nI 6 = 5) by decide), if_pos (show nI 6 = 6 from rfl)]
    by_cases h : Y ≤ X
    · rw [if_pos h, if_pos h]
    · rw [if_neg h, if_neg h]
  · rw [show opK 62 = 7 from rfl, cmO_62, if_neg (show ¬ (nI 7 = 1) by decide), if_neg (show ¬ (nI 7 = 2) by decide), if_neg (show ¬ (nI 7 = 3) by decide), if_neg (show ¬ (nI 7 = 4) by decide), if_neg (show ¬ (nI 7 = 5) by decide), if_neg (show ¬ (nI 7 = 6) by decide), if_pos (show nI 7 = 7 from rfl)]
    by_cases h : X ≤ Y
    · rw [if_pos h, if_pos h]
    · rw [if_neg h, if_neg h]
  · rw [show opK 61 = 8 from rfl, cmO_61, if_neg (show ¬ (nI 8 = 1) by decide), if_neg (show ¬ (nI 8 = 2) by decide), if_neg (show ¬ (nI 8 = 3) by decide), if_neg (show ¬ (nI 8 = 4) by decide), if_neg (show ¬ (nI 8 = 5) by decide), if_neg (show ¬ (nI 8 = 6) by decide), if_neg (show ¬ (nI 8 = 7) by decide), if_pos (show nI 8 = 8 from rfl)]
    by_cases h : X = Y
    · rw [if_pos h, if_pos h]
    · rw [if_neg h, if_neg h]
theorem step_nt (hr : r < 256) (hk : k < to) (hto : to ≤ 256) (hi : i < 256) (he : hI g (j + 1) k = pkc 9 0 0 r) (h3 : x3 = 0 ∨ x3 = 1) :
    m_X2_run_8 j (f + 1) (nI to) x3 (nI k) (nI i) g = m_X2_run_8 j f (nI to) (1 - x3) (nI (k + 1)) (nI (i + 1)) g := by
  rw [m_X2_run_8, if_neg (show ¬ 256 ≤ nI i from nI_ge (a := i) (b := 256) (by omega) (by omega)), if_neg (nI_pos (by omega)), if_neg (nI_ge hk (by omega)), if_neg (show ¬ 256 ≤ nI k from nI_ge (a := k) (b := 256) (by omega) (by omega)), gd_pos (inb_nI (by omega) (by omega)), nI_clamp (by omega), he, lt_eq]
  simp only [pkc_op (op := 9) (x := 0) (y := 0) (by omega) (by omega) (by omega) hr, gd_pos (in256 _), lt_eq, nI_1]
  rw [if_neg (by decide), if_neg (by decide), if_neg (by decide), if_neg (by decide), if_neg (by decide), if_neg (by decide), if_neg (by decide), if_neg (by decide), if_pos (by decide)]
  rcases h3 with rfl | rfl
  · rw [if_neg (by decide)]; rfl
  · rw [if_pos rfl]; rfl
theorem step_j {jv : Int32} {oj : Nat} (hj : (jv = 1 ∧ oj = 10) ∨ (jv = 0 ∧ oj = 11)) {L : Nat} (hL : L ≤ 256) (hk : k < to) (hto : to ≤ 256) (hi : i < 256) (he : hI g (j + 1) k = jmc oj L) (h3 : x3 = 0 ∨ x3 = 1) :
    m_X2_run_8 j (f + 1) (nI to) x3 (nI k) (nI i) g = m_X2_run_8 j f (nI to) x3 (if x3 = jv then nI L else nI (k + 1)) (nI (i + 1)) g := by
  have ho : oj < 16 := by rcases hj with ⟨_, h⟩ | ⟨_, h⟩ <;> omega
  rw [m_X2_run_8, if_neg (show ¬ 256 ≤ nI i from nI_ge (a := i) (b := 256) (by omega) (by omega)), if_neg (nI_pos (by omega)), if_neg (nI_ge hk (by omega)), if_neg (show ¬ 256 ≤ nI k from nI_ge (a := k) (b := 256) (by omega) (by omega)), gd_pos (inb_nI (by omega) (by omega)), nI_clamp (by omega), he, lt_eq]
  simp only [jmc_op ho (show L < 65536 by omega), jmc_to ho (show L < 65536 by omega), gd_pos (in256 _), lt_eq, nI_1]
  rcases hj with ⟨rfl, rfl⟩ | ⟨rfl, rfl⟩
  · rw [if_neg (by decide), if_neg (by decide), if_neg (by decide), if_neg (by decide), if_neg (by decide), if_neg (by decide), if_neg (by decide), if_neg (by decide), if_neg (by decide), if_pos (by decide)]
    by_cases h : x3 = 1
    · rw [if_pos h, if_pos h]
    · rw [if_neg h, if_neg h]
  · rw [if_neg (by decide), if_neg (by decide), if_neg (by decide), if_neg (by decide), if_neg (by decide), if_neg (by decide), if_neg (by decide), if_neg (by decide), if_neg (by decide), if_neg (by decide)]
    rcases h3 with rfl | rfl
    · rw [if_neg (by decide), if_pos rfl]
    · rw [if_pos rfl, if_neg (by decide)]
end STEP
