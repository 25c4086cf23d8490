/-! the class's laws by what they mean -/
abbrev PR (j : Nat) : Nat → Nat → Bool := fun k _ => k == j + 2
def SegC (h : AHp) (j : Nat) (Kc : Nat → Prop) (kv : Nat → Int32) (a b : Int32) (D : Mom → Option Int32) : Prop := ∀ (g : AHp) (e : Mom), (∀ i, hI g (j + 1) i = hI h (j + 1) i) → (∀ r, Kc r → hI g (j + 2) r = kv r) → (∀ i, i < 9 → hI g (j + 2) i = e i) →
  ∃ x g1, m_X2_run j a b g = some (x, g1) ∧ Ch (PR j) g g1 ∧ (∀ r, Kc r → hI g1 (j + 2) r = kv r) ∧ (∀ i, i < 9 → hI g1 (j + 2) i = e i) ∧ (D e = none → x = -1) ∧ ∀ v, D e = some v → x = v
/-- for a price: the register in which it stands -/
def SegP (h : AHp) (j : Nat) (Kc : Nat → Prop) (kv : Nat → Int32) (a b : Int32) (rg : Nat) (D : Mom → Option Int32) : Prop := ∀ (g : AHp) (e : Mom), (∀ i, hI g (j + 1) i = hI h (j + 1) i) → (∀ r, Kc r → hI g (j + 2) r = kv r) → (∀ i, i < 9 → hI g (j + 2) i = e i) →
  ∃ x g1, m_X2_run j a b g = some (x, g1) ∧ Ch (PR j) g g1 ∧ (∀ r, Kc r → hI g1 (j + 2) r = kv r) ∧ (∀ i, i < 9 → hI g1 (j + 2) i = e i) ∧ (D e = none → x = -1) ∧ ∀ v, D e = some v → ¬ x = -1 ∧ hI g1 (j + 2) rg = v
/-- a condition asks the letters of its mask alone -/
def depOn (D : Mom → Option Int32) (m : Int32) : Prop := ∀ e e2 : Mom, (∀ i, i < 9 → tb m i = true → e i = e2 i) → D e = D e2
def maskB (cl : List Clz) : Int32 := cl.foldl (fun a q => if q.1 = true then a ||| q.2.2.2 else a) 0
def LawC (h : AHp) (j : Nat) (cl : List Clz) (Kc : Nat → Prop) (kv : Nat → Int32) : Prop := isLaw j ∧ cl.length ≤ 14 ∧ hI h j 9 = nI cl.length ∧ hI h j 11 = maskB cl ∧ (∀ r, Kc r → 9 ≤ r ∧ hI h (j + 2) r = kv r) ∧
  ∀ (i : Nat) (q : Clz), cl[i]? = some q → hI h (j + 7) i = q.2.2.2 ∧ depOn q.2.2.1 q.2.2.2 ∧ SegC h j Kc kv (hI h (j + 4) i) (hI h (j + 5) i) q.2.2.1 ∧ (q.1 = true → hI h (j + 6) i = -1) ∧ (q.1 = false → ∃ rg, rg < 256 ∧ hI h (j + 6) i = nI rg ∧ SegP h j Kc kv (hI h (j + 3) i) (hI h (j + 4) i) rg q.2.1)
def eL (e : Mom) (l : Int32) : Mom := fun i => if i = 0 then l else e i
/-- the picture while a law is asked -/
def GI (h : AHp) (j : Nat) (Kc : Nat → Prop) (kv : Nat → Int32) (e : Mom) (g : AHp) : Prop := Ch (PR j) h g ∧ (∀ r, Kc r → hI g (j + 2) r = kv r) ∧ ∀ i, 1 ≤ i → i < 9 → hI g (j + 2) i = e i
theorem GI.o {h g : AHp} {j : Nat} {Kc : Nat → Prop} {kv : Nat → Int32} {e : Mom} (x : GI h j Kc kv e g) {k : Nat} (hk : k ≠ j + 2) (i : Nat) : hI g k i = hI h k i := x.1.i (by simpa using hk)
theorem runC {h g : AHp} {j i : Nat} {cl : List Clz} {q : Clz} {Kc : Nat → Prop} {kv : Nat → Int32} {e : Mom} (hL : LawC h j cl Kc kv) (hq : cl[i]? = some q) (hg : GI h j Kc kv e g) : ∃ x g1, m_X2_run j (hI g (j + 4) i) (hI g (j + 5) i) g = some (x, g1) ∧ GI h j Kc kv e g1 ∧ (x = 1 ↔ q.2.2.1 (eL e (hI g (j + 2) 0)) = some 1) := by
  obtain ⟨l1, l2, l3, l4, l5, l6⟩ := hL
  obtain ⟨-, -, sg, -, -⟩ := l6 i q hq
  obtain ⟨x, g1, e1, c1, k1, r1, n1, s1⟩ := sg g (eL e (hI g (j + 2) 0)) (fun i => hg.o (by omega) i) hg.2.1 (fun i hi => by
    unfold eL
    by_cases h0 : i = 0
    · rw [if_pos h0, h0]
    · rw [if_neg h0]; exact hg.2.2 i (by omega) hi)
  rw [hg.o (by omega), hg.o (by omega)]
  refine ⟨x, g1, e1, ⟨hg.1.trans c1, k1, fun i h1 h2 => by rw [r1 i h2]; unfold eL; rw [if_neg (by omega)]⟩, ?_⟩
  cases hd : q.2.2.1 (eL e (hI g (j + 2) 0)) with
  | none => rw [n1 hd]; simp
  | some v => rw [s1 v hd]; simp
