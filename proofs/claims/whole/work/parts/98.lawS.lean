/-! LAWS: what a text says, by its meaning -/
abbrev Dmn : Type := Mom → Option Int32
abbrev VSp : Type := Int32 ⊕ (Dmn × Int32 × Nat)
def vsb (r : VSp) (k : Dmn → Int32 → Nat → VSp) : VSp := match r with
  | .inl F => .inl F
  | .inr x => k x.1 x.2.1 x.2.2
theorem vsb_l (F : Int32) (k : Dmn → Int32 → Nat → VSp) : vsb (.inl F) k = .inl F := rfl
theorem vsb_r (D : Dmn) (m : Int32) (q : Nat) (k : Dmn → Int32 → Nat → VSp) : vsb (.inr (D, m, q)) k = k D m q := rfl
def dgt (s : Int32) : Bool := decide (48 ≤ s.toInt ∧ s.toInt ≤ 57)
def lix (s : Int32) : Nat := if s = 108 then 0 else if s = 116 then 1 else if s = 115 then 2 else if s = 99 then 3 else if s = 97 then 4 else if s = 98 then 5 else if s = 114 then 6 else if s = 100 then 7 else if s = 107 then 8 else 9
def isT (s : Int32) : Bool := decide (s = 42) || decide (s = 47) || decide (s = 37)
def isP (s : Int32) : Bool := decide (s = 43) || decide (s = 45)
def isC (s : Int32) : Bool := decide (s = 60) || decide (s = 62) || decide (s = 61)
def arO (c a b : Int32) : Option Int32 := if c = 43 then some (a + b) else if c = 45 then some (a - b) else if c = 42 then some (a * b) else if b = 0 then none else if c = 47 then some (a / b) else some (a - a / b * b)
def cmO (c a b : Int32) : Int32 := if c = 60 then (if b ≤ a then 0 else 1) else if c = 62 then (if a ≤ b then 0 else 1) else (if a = b then 1 else 0)
def arD (c : Int32) (A B : Dmn) : Dmn := fun e => match A e with
  | none => none
  | some a => match B e with
    | none => none
    | some b => arO c a b
def cmD (c : Int32) (A B : Dmn) : Dmn := fun e => match A e with
  | none => none
  | some a => match B e with
    | none => none
    | some b => some (cmO c a b)
def ntD (A : Dmn) : Dmn := fun e => match A e with
  | none => none
  | some a => some (1 - a)
def jD (jv : Int32) (A B : Dmn) : Dmn := fun e => match A e with
  | none => none
  | some a => if a = jv then some a else B e
/-- it answers 0 or 1, or is refused -/
def bD (A : Dmn) : Prop := ∀ e v, A e = some v → v = 0 ∨ v = 1
theorem cmO_01 (c a b : Int32) : cmO c a b = 0 ∨ cmO c a b = 1 := by
  unfold cmO
  repeat' split
  all_goals first | exact Or.inl rfl | exact Or.inr rfl
theorem cmD_b (c : Int32) (A B : Dmn) : bD (cmD c A B) := fun e v h => by
  unfold cmD at h
  cases hA : A e with
  | none => rw [hA] at h; cases h
  | some a =>
    rw [hA] at h
    cases hB : B e with
    | none => rw [hB] at h; cases h
    | some b => rw [hB] at h; cases h; exact cmO_01 c a b
theorem ntD_b {A : Dmn} (hA : bD A) : bD (ntD A) := fun e v h => by
  unfold ntD at h
  cases ha : A e with
  | none => rw [ha] at h; cases h
  | some a =>
    rw [ha] at h; cases h
    rcases hA e a ha with rfl | rfl
    · exact Or.inr rfl
    · exact Or.inl rfl
theorem jD_b {jv : Int32} {A B : Dmn} (hA : bD A) (hB : bD B) : bD (jD jv A B) := fun e v h => by
  unfold jD at h
  cases ha : A e with
  | none => rw [ha] at h; cases h
  | some a =>
    rw [ha] at h
    simp only [] at h
    by_cases hj : a = jv
    · rw [if_pos hj] at h; cases h; exact hA e _ ha
    · rw [if_neg hj] at h; exact hB e v h
theorem depOn.or {A : Dmn} {m : Int32} (h : depOn A m) (m2 : Int32) : depOn A (m ||| m2) := fun e e2 he => h e e2 (fun i hi hb => he i hi (by rw [tb_or, hb]; rfl))
theorem depOn.or2 {A : Dmn} {m2 : Int32} (h : depOn A m2) (m : Int32) : depOn A (m ||| m2) := fun e e2 he => h e e2 (fun i hi hb => he i hi (by rw [tb_or, hb, Bool.or_true]))
theorem arD_dep {c : Int32} {A B : Dmn} {m m2 : Int32} (h1 : depOn A m) (h2 : depOn B m2) : depOn (arD c A B) (m ||| m2) := fun e e2 he => by
  unfold arD
  rw [h1.or m2 e e2 he, h2.or2 m e e2 he]
theorem cmD_dep {c : Int32} {A B : Dmn} {m m2 : Int32} (h1 : depOn A m) (h2 : depOn B m2) : depOn (cmD c A B) (m ||| m2) := fun e e2 he => by
  unfold cmD
  rw [h1.or m2 e e2 he, h2.or2 m e e2 he]
theorem jD_dep {jv : Int32} {A B : Dmn} {m m2 : Int32} (h1 : depOn A m) (h2 : depOn B m2) : depOn (jD jv A B) (m ||| m2) := fun e e2 he => by
  unfold jD
  rw [h1.or m2 e e2 he, h2.or2 m e e2 he]
theorem ntD_dep {A : Dmn} {m : Int32} (h1 : depOn A m) : depOn (ntD A) m := fun e e2 he => by
  unfold ntD
  rw [h1 e e2 he]
section LSPEC
variable (ty : Nat → Int32) (n : Nat)
def nmS : Nat → Int32 → Nat → RSp
  | 0, v, p => if dgt (sg ty n p) = true then .inl (flt 2 p) else .inr (v, p)
  | k + 1, v, p => if dgt (sg ty n p) = true then nmS k (v * 10 + sg ty n p - 48) (p + 1) else .inr (v, p)
def ncS (r : RSp) : VSp := match r with
  | .inl F => .inl F
  | .inr y => .inr (fun _ => some y.1, 0, y.2)
def fcS (rec : Nat → Nat → VSp) (o p : Nat) : VSp :=
  if dgt (sg ty n p) = true then ncS (nmS ty n 5 0 p)
  else if sg ty n p = 91 then (if o < 6 then vsb (rec (o + 1) (p + 1)) (fun D m q => if sg ty n q = 93 then .inr (D, m, q + 1) else .inl (flt 1 q)) else .inl (flt 5 p))
  else if lix (sg ty n p) < 9 then .inr (fun e => some (e (lix (sg ty n p))), (1 : Int32) <<< (nI (lix (sg ty n p)) &&& 31), p + 1) else .inl (flt 1 p)
def trL (rec : Nat → Nat → VSp) (o : Nat) : Nat → Dmn → Int32 → Nat → VSp
  | 0, _, _, _ => .inl 0
  | f + 1, A, m, p => if isT (sg ty n p) = true then vsb (fcS ty n rec o (p + 1)) (fun B m2 q => trL rec o f (arD (sg ty n p) A B) (m ||| m2) q) else .inr (A, m, p)
def trS (rec : Nat → Nat → VSp) (o p : Nat) : VSp := vsb (fcS ty n rec o p) (fun A m q => trL ty n rec o 300 A m q)
def smL (rec : Nat → Nat → VSp) (o : Nat) : Nat → Dmn → Int32 → Nat → VSp
  | 0, _, _, _ => .inl 0
  | f + 1, A, m, p => if isP (sg ty n p) = true then vsb (trS ty n rec o (p + 1)) (fun B m2 q => smL rec o f (arD (sg ty n p) A B) (m ||| m2) q) else .inr (A, m, p)
def smS (rec : Nat → Nat → VSp) (o p : Nat) : VSp := vsb (trS ty n rec o p) (fun A m q => smL ty n rec o 300 A m q)
def SMs : Nat → Nat → Nat → VSp
  | 0, _, _ => .inl 0
  | f + 1, o, p => smS ty n (SMs f) o p
def paL (rec : Nat → Nat → VSp) (o : Nat) : Nat → Dmn → Int32 → Nat → VSp
  | 0, _, _, _ => .inl 0
  | f + 1, A, m, p => if sg ty n p = 38 then vsb (rec o (p + 1)) (fun B m2 q => paL rec o f (jD 0 A B) (m ||| m2) q) else .inr (A, m, p)
def paS (rec : Nat → Nat → VSp) (o p : Nat) : VSp := vsb (rec o p) (fun A m q => paL ty n rec o 300 A m q)
def cdL (rec : Nat → Nat → VSp) (o : Nat) : Nat → Dmn → Int32 → Nat → VSp
  | 0, _, _, _ => .inl 0
  | f + 1, A, m, p => if sg ty n p = 124 then vsb (paS ty n rec o (p + 1)) (fun B m2 q => cdL rec o f (jD 1 A B) (m ||| m2) q) else .inr (A, m, p)
def cdS (rec : Nat → Nat → VSp) (o p : Nat) : VSp := vsb (paS ty n rec o p) (fun A m q => cdL ty n rec o 300 A m q)
def pcS (rec : Nat → Nat → VSp) (o p : Nat) : VSp :=
  if sg ty n p = 33 ∨ sg ty n p = 40 then
    (if o < 6 then
      (if sg ty n p = 33 then vsb (rec (o + 1) (p + 1)) (fun A m q => .inr (ntD A, m, q))
       else vsb (cdS ty n rec (o + 1) (p + 1)) (fun A m q => if sg ty n q = 41 then .inr (A, m, q + 1) else .inl (flt 1 q)))
     else .inl (flt 5 p))
  else vsb (SMs ty n 10 o p) (fun A m q => if isC (sg ty n q) = true then vsb (SMs ty n 10 o (q + 1)) (fun B m2 q2 => .inr (cmD (sg ty n q) A B, m ||| m2, q2)) else .inl (flt 1 q))
def PCs : Nat → Nat → Nat → VSp
  | 0, _, _ => .inl 0
  | f + 1, o, p => pcS ty n (PCs f) o p
abbrev CSp : Type := Int32 ⊕ (Clz × Nat)
/-- the condition of a clause, with what is ahead of it -/
def c2S (ban : Bool) (P : Dmn) (q : Nat) : CSp := if sg ty n q = 40 then (match cdS ty n (PCs ty n 12) 1 (q + 1) with
    | .inl F => .inl F
    | .inr y => if sg ty n y.2.2 = 41 then .inr ((ban, P, y.1, y.2.1), y.2.2 + 1) else .inl (flt 1 y.2.2)) else .inl (flt 1 q)
def clS (k p : Nat) : CSp := if sg ty n p = 110 ∨ sg ty n p = 112 then
    (if k < 14 then (if sg ty n p = 112 then (match SMs ty n 10 0 (p + 1) with
        | .inl F => .inl F
        | .inr y => c2S ty n false y.1 y.2.2) else c2S ty n true (fun _ => none) (p + 1))
     else .inl (flt 4 p))
  else .inl (flt 1 p)
def lwS : Nat → List Clz → Nat → Int32 ⊕ List Clz
  | 0, _, _ => .inl 0
  | f + 1, acc, p => match clS ty n acc.length p with
    | .inl F => .inl F
    | .inr y => if sg ty n y.2 = 59 then lwS f (acc ++ [y.1]) (y.2 + 1) else if y.2 < n then .inl (flt 1 y.2) else .inr (acc ++ [y.1])
end LSPEC
