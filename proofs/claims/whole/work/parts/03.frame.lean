/-! THE CELLS, in the order in which the two constructors make them: a class by its number, or an array by its type and length -/
abbrev KD : Type := Nat ⊕ (FieldType × Nat)
def kdL : List KD := [.inl 11, .inl 8, .inr (.int, 220), .inl 9, .inr (.int, 12), .inr (.int, 6), .inr (.int, 9), .inl 2, .inr (.int, 256), .inr (.int, 256), .inr (.int, 14), .inr (.int, 14), .inr (.int, 14), .inr (.int, 14), .inr (.int, 14), .inl 2, .inr (.int, 256), .inr (.int, 256), .inr (.int, 14), .inr (.int, 14), .inr (.int, 14), .inr (.int, 14), .inr (.int, 14), .inl 2, .inr (.int, 256), .inr (.int, 256), .inr (.int, 14), .inr (.int, 14), .inr (.int, 14), .inr (.int, 14), .inr (.int, 14), .inl 3, .inr (.long, 12500), .inl 4, .inl 2, .inr (.int, 256), .inr (.int, 256), .inr (.int, 14), .inr (.int, 14), .inr (.int, 14), .inr (.int, 14), .inr (.int, 14), .inl 7, .inr (.int, 200), .inr (.int, 200), .inr (.int, 200), .inl 7, .inr (.int, 200), .inr (.int, 200), .inr (.int, 200), .inr (.int, 6), .inl 1, .inr (.int, 12), .inr (.int, 12), .inr (.int, 12), .inr (.int, 13), .inl 0, .inr (.int, 150), .inr (.int, 1000), .inr (.int, 5), .inr (.int, 5), .inr (.int, 4), .inl 6, .inl 10, .inr (.int, 175), .inr (.int, 175), .inr (.int, 175), .inl 5, .inr (.int, 6), .inr (.int, 50), .inl 12, .inr (.byte, 220), .inr (.int, 12), .inr (.int, 7), .inr (.int, 7), .inr (.int, 7), .inr (.boolean, 7), .inr (.int, 2), .inr (.int, 28), .inr (.int, 28), .inr (.int, 28), .inr (.int, 28), .inr (.int, 400), .inr (.int, 400), .inr (.int, 14), .inr (.int, 14), .inr (.int, 14), .inr (.int, 14), .inr (.int, 200), .inr (.int, 200), .inr (.int, 240), .inr (.int, 6), .inr (.int, 240), .inr (.boolean, 240), .inr (.int, 200), .inr (.int, 200), .inr (.int, 200), .inr (.int, 12), .inr (.int, 12), .inr (.int, 12), .inr (.int, 7500), .inr (.int, 8125), .inr (.boolean, 8125), .inr (.int, 8), .inr (.int, 4), .inr (.int, 12500), .inr (.boolean, 625), .inr (.boolean, 625), .inr (.int, 4375), .inr (.boolean, 4375), .inr (.boolean, 4375), .inr (.int, 1250), .inr (.boolean, 4375), .inr (.int, 8), .inr (.int, 200), .inr (.int, 200), .inr (.int, 200), .inr (.int, 6)]
def kd (k : Nat) : Option KD := kdL[k]?
/-- what the final fields refer to (0: no reference) -/
def rfL : List (List Nat) := [[1, 33, 3, 42, 46, 50, 51, 56, 62, 63, 67, 0, 0, 0], [2, 0, 0, 0, 0], [], [4, 5, 6, 7, 15, 23], [], [], [], [8, 9, 10, 11, 12, 13, 14, 0, 0, 0, 0, 0], [], [], [], [], [], [], [], [16, 17, 18, 19, 20, 21, 22, 0, 0, 0, 0, 0], [], [], [], [], [], [], [], [24, 25, 26, 27, 28, 29, 30, 0, 0, 0, 0, 0], [], [], [], [], [], [], [], [32, 0], [], [1, 34], [35, 36, 37, 38, 39, 40, 41, 0, 0, 0, 0, 0], [], [], [], [], [], [], [], [43, 44, 45, 0, 0], [], [], [], [47, 48, 49, 0, 0], [], [], [], [], [3, 31, 52, 53, 54, 55, 0, 0, 0, 0, 0, 0, 0, 0], [], [], [], [], [3, 31, 57, 58, 59, 60, 61, 0, 0, 0, 0, 0, 0, 0], [], [], [], [], [], [3, 31, 0, 0, 0, 0, 0, 0, 0, 0, 0, 0, 0], [3, 64, 65, 66, 0, 0, 0, 0, 0, 0, 0], [], [], [], [3, 31, 68, 69, 0, 0, 0, 0, 0], [], [], [71, 0, 0, 0, 0, 0, 0, 0, 0, 0, 0, 72, 73, 74, 75, 76, 0, 77, 78, 79, 80, 81, 82, 83, 84, 85, 86, 87, 88, 89, 0, 0, 90, 0, 0, 0, 0, 0, 0, 0, 91, 92, 93, 94, 95, 96, 97, 98, 99, 100, 101, 102, 103, 104, 105, 106, 107, 108, 109, 110, 111, 112, 113, 0, 0, 0, 114, 115, 116, 117], [], [], [], [], [], [], [], [], [], [], [], [], [], [], [], [], [], [], [], [], [], [], [], [], [], [], [], [], [], [], [], [], [], [], [], [], [], [], [], [], [], [], [], [], [], [], []]
def rho0 (k i : Nat) : Nat := (rfL.getD k []).getD i 0
def fty (ci : Nat) : Nat → FieldType := match ci with
  | 0 => tyX0
  | 1 => tyX1
  | 2 => tyX2
  | 3 => tyX3
  | 4 => tyX4
  | 5 => tyX5
  | 6 => tyX6
  | 7 => tyX7
  | 8 => tyX8
  | 9 => tyX9
  | 10 => tyX10
  | 11 => tyX11
  | _ => tyX12
def nF (ci : Nat) : Nat := ((vwCl.map (fun q => q.2.2)).getD ci 0)
/-- fields that hold a reference and change -/
def isMut (ci i : Nat) : Bool := (ci == 4 && i == 1) || (ci == 9 && i == 3) || (ci == 9 && i == 4) || (ci == 9 && i == 5)
/-- the values of a heap that both classes live in: a cell by its number, a place in it -/
abbrev AHp : Type := (Nat → Nat → Int32) × (Nat → Nat → Int64) × (Nat → Nat → Nat)
def hI (h : AHp) (k i : Nat) : Int32 := h.1 k i
def hL (h : AHp) (k i : Nat) : Int64 := h.2.1 k i
def hM (h : AHp) (k i : Nat) : Nat := h.2.2 k i
def sI (h : AHp) (k i : Nat) (v : Int32) : AHp := (fun a b => if a = k ∧ b = i then v else h.1 a b, h.2)
def sL (h : AHp) (k i : Nat) (v : Int64) : AHp := (h.1, fun a b => if a = k ∧ b = i then v else h.2.1 a b, h.2.2)
def sM (h : AHp) (k i v : Nat) : AHp := (h.1, h.2.1, fun a b => if a = k ∧ b = i then v else h.2.2 a b)
def sR (h : AHp) (k : Nat) (f : Nat → Int32) : AHp := (fun a b => if a = k then f b else h.1 a b, h.2)
/-! the world of cells -/
def isI (ty : FieldType) : Bool := match ty with
  | .int => true
  | .boolean => true
  | _ => false
def ev (ad : Nat → Nat) (k : Nat) : Value := if k = 0 then .null else .ref (ad k)
def fvl (ad : Nat → Nat) (rho : Nat → Nat → Nat) (h : AHp) (ci k i : Nat) : Value :=
  if isI (fty ci i) = true then .int (hI h k i) else ev ad (if isMut ci i = true then hM h k i else rho k i)
def wE (ad : Nat → Nat) (ca : Nat → ClassId) (rho : Nat → Nat → Nat) (h : AHp) (k : Nat) : va_E := match kd k with
  | some (.inl ci) => .inr (ci, (List.range (nF ci)).map (fvl ad rho h ci k))
  | some (.inr (.long, n)) => .inl (ca k, n, .inr (.inl (hL h k)))
  | some (.inr (_, n)) => .inl (ca k, n, .inl (hI h k))
  | none => .inr (0, [])
def wl (ad : Nat → Nat) (ca : Nat → ClassId) (rho : Nat → Nat → Nat) (h : AHp) (n : Nat) : va_W := (List.range n).map (fun k => (ad k, wE ad ca rho h k))
def tyA (ca : Nat → ClassId) (k : Nat) : Option (ClassId × FieldType) := match kd k with
  | some (.inr (ty, _)) => some (ca k, ty)
  | _ => none
def tl (ca : Nat → ClassId) (n : Nat) : List (ClassId × FieldType) := (List.range n).filterMap (tyA ca)
theorem wl_get {ad : Nat → Nat} {ca : Nat → ClassId} {rho : Nat → Nat → Nat} {h : AHp} {n k : Nat} (hk : k < n) : (wl ad ca rho h n)[k]? = some (ad k, wE ad ca rho h k) := by
  simp [wl, hk]
theorem wl_len {ad : Nat → Nat} {ca : Nat → ClassId} {rho : Nat → Nat → Nat} {h : AHp} {n : Nat} : (wl ad ca rho h n).length = n := by
  simp [wl]
theorem wE_congr {ad : Nat → Nat} {ca : Nat → ClassId} {rho rho' : Nat → Nat → Nat} {h h' : AHp} {j : Nat} (hi : ∀ b, hI h' j b = hI h j b) (hl : ∀ b, hL h' j b = hL h j b) (hm : ∀ b, hM h' j b = hM h j b) (hr : ∀ b, rho' j b = rho j b) : wE ad ca rho' h' j = wE ad ca rho h j := by
  have e1 : hI h' j = hI h j := funext hi
  have e2 : hL h' j = hL h j := funext hl
  have e3 : ∀ ci, fvl ad rho' h' ci j = fvl ad rho h ci j := fun ci => funext fun b => by unfold fvl; rw [hi, hm, hr]
  unfold wE
  rw [e1, e2]
  simp only [e3]
theorem wl_set {ad : Nat → Nat} {ca : Nat → ClassId} {rho rho' : Nat → Nat → Nat} {h h' : AHp} {n k : Nat} {E : va_E} (hk : k < n) (hE : wE ad ca rho' h' k = E) (hj : ∀ j, j ≠ k → wE ad ca rho' h' j = wE ad ca rho h j) : (wl ad ca rho h n).set k (ad k, E) = wl ad ca rho' h' n := by
  apply List.ext_getElem?
  intro j
  rw [List.getElem?_set]
  by_cases hjk : k = j
  · subst hjk
    rw [if_pos rfl, if_pos (by rw [wl_len]; exact hk), wl_get hk, hE]
  · rw [if_neg hjk]
    by_cases hjn : j < n
    · rw [wl_get hjn, wl_get hjn, hj j (fun e => hjk e.symm)]
    · rw [List.getElem?_eq_none (by rw [wl_len]; omega), List.getElem?_eq_none (by rw [wl_len]; omega)]
theorem wE_obj {ad : Nat → Nat} {ca : Nat → ClassId} {rho : Nat → Nat → Nat} {h : AHp} {k ci : Nat} (hk : kd k = some (.inl ci)) : wE ad ca rho h k = .inr (ci, (List.range (nF ci)).map (fvl ad rho h ci k)) := by
  unfold wE; rw [hk]
theorem wE_arr {ad : Nat → Nat} {ca : Nat → ClassId} {rho : Nat → Nat → Nat} {h : AHp} {k n : Nat} {ty : FieldType} (hk : kd k = some (.inr (ty, n))) (ht : ty ≠ .long) : wE ad ca rho h k = .inl (ca k, n, .inl (hI h k)) := by
  unfold wE; rw [hk]; cases ty <;> first | rfl | exact absurd rfl ht
theorem wE_arrL {ad : Nat → Nat} {ca : Nat → ClassId} {rho : Nat → Nat → Nat} {h : AHp} {k n : Nat} (hk : kd k = some (.inr (.long, n))) : wE ad ca rho h k = .inl (ca k, n, .inr (.inl (hL h k))) := by
  unfold wE; rw [hk]
theorem tl_at {ca : Nat → ClassId} {n k m : Nat} {ty : FieldType} (hkn : k < n) (hk : kd k = some (.inr (ty, m))) : ∃ t0 : Nat, (tl ca n)[t0]? = some (ca k, ty) := by
  have h1 : (ca k, ty) ∈ tl ca n := List.mem_filterMap.mpr ⟨k, List.mem_range.mpr hkn, by unfold tyA; rw [hk]⟩
  exact List.mem_iff_getElem?.mp h1
theorem kd_lt {k : Nat} {q : KD} (hk : kd k = some q) : k < 118 := by
  have h1 := (List.getElem?_eq_some_iff.mp hk).1
  exact h1
theorem hI_sI_ne {h : AHp} {k i : Nat} {v : Int32} {j : Nat} (hj : j ≠ k) (b : Nat) : hI (sI h k i v) j b = hI h j b := by
  simp [hI, sI, hj]
theorem wl_sI_obj {ad : Nat → Nat} {ca : Nat → ClassId} {rho : Nat → Nat → Nat} {h : AHp} {n k ci i : Nat} {v : Int32} (hkn : k < n) (hk : kd k = some (.inl ci)) (hi : i < nF ci) (ht : isI (fty ci i) = true) :
    (wl ad ca rho h n).set k (ad k, .inr (ci, ((List.range (nF ci)).map (fvl ad rho h ci k)).set i (.int v))) = wl ad ca rho (sI h k i v) n := by
  refine wl_set hkn ?_ (fun j hj => wE_congr (fun b => hI_sI_ne hj b) (fun _ => rfl) (fun _ => rfl) (fun _ => rfl))
  rw [wE_obj hk]
  congr 2
  apply List.ext_getElem?
  intro j
  rw [List.getElem?_set, List.length_map, List.length_range]
  by_cases hij : i = j
  · subst hij
    rw [if_pos rfl, if_pos hi, List.getElem?_map, List.getElem?_range hi]
    simp [fvl, ht, hI, sI]
  · rw [if_neg hij]
    by_cases hj : j < nF ci
    · rw [List.getElem?_map, List.getElem?_range hj, List.getElem?_map, List.getElem?_range hj]
      have hji : ¬ j = i := fun e => hij e.symm
      have e1 : hI (sI h k i v) k j = hI h k j := by simp [hI, sI, hji]
      show some (fvl ad rho (sI h k i v) ci k j) = some (fvl ad rho h ci k j)
      unfold fvl
      rw [e1]
      rfl
    · rw [List.getElem?_eq_none (by simp; omega), List.getElem?_eq_none (by simp; omega)]
theorem wl_sM {ad : Nat → Nat} {ca : Nat → ClassId} {rho : Nat → Nat → Nat} {h : AHp} {n k ci i v : Nat} (hkn : k < n) (hk : kd k = some (.inl ci)) (hi : i < nF ci) (ht : isI (fty ci i) = false) (hmu : isMut ci i = true) :
    (wl ad ca rho h n).set k (ad k, .inr (ci, ((List.range (nF ci)).map (fvl ad rho h ci k)).set i (ev ad v))) = wl ad ca rho (sM h k i v) n := by
  refine wl_set hkn ?_ (fun j hj => wE_congr (fun _ => rfl) (fun _ => rfl) (fun b => by simp [hM, sM, hj]) (fun _ => rfl))
  rw [wE_obj hk]
  congr 2
  apply List.ext_getElem?
  intro j
  rw [List.getElem?_set, List.length_map, List.length_range]
  by_cases hij : i = j
  · subst hij
    rw [if_pos rfl, if_pos hi, List.getElem?_map, List.getElem?_range hi]
    simp [fvl, ht, hmu, hM, sM]
  · rw [if_neg hij]
    by_cases hj : j < nF ci
    · rw [List.getElem?_map, List.getElem?_range hj, List.getElem?_map, List.getElem?_range hj]
      have hji : ¬ j = i := fun e => hij e.symm
      have e1 : hM (sM h k i v) k j = hM h k j := by simp [hM, sM, hji]
      show some (fvl ad rho (sM h k i v) ci k j) = some (fvl ad rho h ci k j)
      unfold fvl
      rw [e1]
      rfl
    · rw [List.getElem?_eq_none (by simp; omega), List.getElem?_eq_none (by simp; omega)]
theorem wl_sI_arr {ad : Nat → Nat} {ca : Nat → ClassId} {rho : Nat → Nat → Nat} {h : AHp} {n k m i : Nat} {ty : FieldType} {v : Int32} (hkn : k < n) (hk : kd k = some (.inr (ty, m))) (ht : ty ≠ .long) :
    (wl ad ca rho h n).set k (ad k, .inl (ca k, m, .inl (upd (hI h k) i v))) = wl ad ca rho (sI h k i v) n := by
  refine wl_set hkn ?_ (fun j hj => wE_congr (fun b => hI_sI_ne hj b) (fun _ => rfl) (fun _ => rfl) (fun _ => rfl))
  rw [wE_arr hk ht]
  have e : hI (sI h k i v) k = upd (hI h k) i v := funext fun b => by simp [hI, sI, upd]
  rw [e]
theorem wl_sL {ad : Nat → Nat} {ca : Nat → ClassId} {rho : Nat → Nat → Nat} {h : AHp} {n k m i : Nat} {v : Int64} (hkn : k < n) (hk : kd k = some (.inr (.long, m))) :
    (wl ad ca rho h n).set k (ad k, .inl (ca k, m, .inr (.inl (vp_updL (hL h k) i v)))) = wl ad ca rho (sL h k i v) n := by
  refine wl_set hkn ?_ (fun j hj => wE_congr (fun _ => rfl) (fun b => by simp [hL, sL, hj]) (fun _ => rfl) (fun _ => rfl))
  rw [wE_arrL hk]
  have e : hL (sL h k i v) k = vp_updL (hL h k) i v := funext fun b => by simp [hL, sL, vp_updL]
  rw [e]
theorem wl_sR {ad : Nat → Nat} {ca : Nat → ClassId} {rho : Nat → Nat → Nat} {h : AHp} {n k m : Nat} {ty : FieldType} {f : Nat → Int32} (hkn : k < n) (hk : kd k = some (.inr (ty, m))) (ht : ty ≠ .long) :
    (wl ad ca rho h n).set k (ad k, .inl (ca k, m, .inl f)) = wl ad ca rho (sR h k f) n := by
  refine wl_set hkn ?_ (fun j hj => wE_congr (fun b => by simp [hI, sR, hj]) (fun _ => rfl) (fun _ => rfl) (fun _ => rfl))
  rw [wE_arr hk ht]
  have e : hI (sR h k f) k = f := funext fun b => by simp [hI, sR]
  rw [e]
/-! THE WORDS of the tables: those that stay with every callee; those of nest mates -/
def zN (w : Cond) : Bool := match w with
  | .fieldLinkNest .. => true
  | .methodLinkNest .. => true
  | _ => false
def gtbl : List Cond := lw_tbl.filter goodWord
def ntbl : List Cond := lw_tbl.filter zN
theorem gt_of {w : Cond} (i : Nat) (h : lw_tbl[i]? = some w) (hg : goodWord w = true) : w ∈ gtbl := List.mem_filter.mpr ⟨List.mem_of_getElem? h, hg⟩
theorem nt_of {w : Cond} (i : Nat) (h : lw_tbl[i]? = some w) (hg : zN w = true) : w ∈ ntbl := List.mem_filter.mpr ⟨List.mem_of_getElem? h, hg⟩
theorem gt_good {w : Cond} (h : w ∈ gtbl) : w ∈ gtbl ∧ ((w.onTables && w.keeps) = true ∨ ∃ ty, w = .arrayClass ty) := ⟨h, good_of_word (List.mem_filter.mp h).2⟩
def NX (U : State) : Prop := ∀ w ∈ ntbl, va_Nw w U
theorem NX.same {u U : State} (hv : u.vm = U.vm) (h : NX u) : NX U := fun w hw => by
  have h1 := h w hw
  have h2 := (List.mem_filter.mp hw).2
  cases w <;> first | exact Bool.noConfusion (show false = true from h2) | exact va_Nw.same rfl hv h1
theorem NX.warm {s U : State} (hW : s.WarmedH U.vm) (h : NX s) : NX U := fun w hw => by
  have h1 := h w hw
  have h2 := (List.mem_filter.mp hw).2
  cases w <;> first | exact Bool.noConfusion (show false = true from h2) | exact va_Nw.warmF hW h1 | exact va_Nw.warmM hW h1
/-- the text LETTERS at the cells 9000 and 9001 -/
def SX (ad : Nat → Nat) (A : Nat → Prop) (U : State) (H : Heap) : Prop := vk_R "NoEcho$Reader" 142 "ltscabrdk" (ad 9000) U ∧ vk_S 1 [9] [[108, 116, 115, 99, 97, 98, 114, 100, 107]] (fun _ => ad 9000) (fun _ => ad 9001) A U H ∧ va_Z "java/lang/String" "COMPACT_STRINGS" "Z" (.int 1) A U H
theorem SX.same {ad : Nat → Nat} {A : Nat → Prop} {u U : State} {H : Heap} (hv : U.vm = u.vm) (h : SX ad A u H) : SX ad A U H := by
  have ha : u.vm.Alike U.vm := by rw [hv]; exact Vm.Alike.refl u.vm
  exact ⟨vk_R.same hv h.1, vk_S.moved ha h.2.1, va_Z.moved ha h.2.2⟩
theorem SX.warm {ad : Nat → Nat} {A : Nat → Prop} {s U : State} {H : Heap} (hW : s.WarmedH U.vm) (h : SX ad A s H) : SX ad A U H := ⟨vk_R.warm hW h.1, vk_S.moved hW.alike h.2.1, va_Z.moved hW.alike h.2.2⟩
theorem SX.kept {ad : Nat → Nat} {A : Nat → Prop} {U : State} {H H1 : Heap} (h : SX ad A U H) (hq : ∀ a : Nat, a < H.size → ¬ A a → H1[a]? = H[a]?) : SX ad A U H1 := ⟨h.1, h.2.1.kept hq, h.2.2.kept hq⟩
/-! A METHOD: its class, name, code, locals, what it returns; the law's script -/
abbrev QM : Type := String × MethodName × ByteArray × Nat × Option FieldType × Option (Nat × (Nat → Int32))
abbrev qOwn (Y : QM) : String := Y.1
abbrev qY (Y : QM) : MethodName := Y.2.1
abbrev qC (Y : QM) : ByteArray := Y.2.2.1
abbrev qN (Y : QM) : Nat := Y.2.2.2.1
abbrev qR (Y : QM) : Option FieldType := Y.2.2.2.2.1
abbrev qX (Y : QM) : Option (Nat × (Nat → Int32)) := Y.2.2.2.2.2
def cwd (Y : QM) : Cond := .code (qY Y) (qC Y) (qN Y) (qR Y)
def cv (ad : Nat → Nat) (v : Value) : Value := match v with
  | .ref k => .ref (ad k)
  | w => w
theorem cv_cat (ad : Nat → Nat) (v : Value) : (cv ad v).category = v.category := by cases v <;> rfl
def cvL (ad : Nat → Nat) (lv : List (Nat × Value)) : List (Nat × Value) := lv.map (fun q => (q.1, cv ad q.2))
theorem cvL_args (ad : Nat → Nat) (vs : List Value) : ∀ i, lv_args i (vs.map (cv ad)) = cvL ad (lv_args i vs) := by
  induction vs with
  | nil => intro i; rfl
  | cons v vs ih =>
    intro i
    show (i, cv ad v) :: lv_args (if (cv ad v).category = 2 then i + 2 else i + 1) (vs.map (cv ad)) = (i, cv ad v) :: cvL ad (lv_args (if v.category = 2 then i + 2 else i + 1) vs)
    rw [cv_cat, ih]
theorem cvL_filter (ad : Nat → Nat) (f : Nat → Nat → Bool) (lv : List (Nat × Value)) : (cvL ad lv).filter (fun q => f q.1 q.2.category) = cvL ad (lv.filter (fun q => f q.1 q.2.category)) := by
  induction lv with
  | nil => rfl
  | cons q lv ih =>
    show (List.filter (fun q => f q.1 q.2.category) ((q.1, cv ad q.2) :: cvL ad lv)) = cvL ad (List.filter (fun q => f q.1 q.2.category) (q :: lv))
    rw [List.filter_cons, List.filter_cons, ih]
    simp only [cv_cat]
    cases f q.1 q.2.category <;> rfl
theorem cvL_at {ad : Nat → Nat} {lv : List (Nat × Value)} {k i : Nat} {v : Value} (h : lv[k]? = some (i, v)) : (cvL ad lv)[k]? = some (i, cv ad v) := by
  unfold cvL; rw [List.getElem?_map, h]; rfl
theorem cv_sum (ad : Nat → Nat) (st : List Value) : ((st.map (cv ad)).map fun v => v.category).sum = (st.map fun v => v.category).sum := by
  rw [List.map_map]; congr 1; exact List.map_congr_left (fun v _ => cv_cat ad v)
theorem lg_cv (ad : Nat → Nat) (vs : List Value) : (lg_sl (vs.map (cv ad))).length = (lg_sl vs).length := by
  induction vs with
  | nil => rfl
  | cons v vs ih =>
    unfold lg_sl at ih ⊢
    rw [List.map_cons, List.flatMap_cons, List.flatMap_cons, List.length_append, List.length_append, ih, cv_cat]
    split <;> rfl
abbrev wz (ad : Nat → Nat) (ca : Nat → ClassId) (h : AHp) : va_W := wl ad ca rho0 h 118
/-- all that stays while a method runs, and the picture h in the heap H -/
def Cz (Y : QM) (d : Nat) (h : AHp) (p : Program) (R : Room) (s : State) (m : MethodId) (args : Array Value) (meth : Method) (c : Code) (D : va_G) (ad : Nat → Nat) (ca : Nat → ClassId) (A : Nat → Prop) (cells slots : Nat) (H : Heap) (locs : List Loc) : Prop :=
  (p.tables.exec = Jvm.exec ∧ c.code = qC Y ∧ c.maxLocals = qN Y ∧ meth.sig.returnType = qR Y ∧ s.vm.findClass (qOwn Y) = some m.cls ∧ (∀ w ∈ gtbl, w.before args s = true) ∧ meth.locks = false) ∧
  (d ≤ R.frames ∧ 100 * d ≤ R.locals ∧ cells ≤ R.cells ∧ slots ≤ R.slots) ∧
  (NX s ∧ SX ad A s s.heap ∧ ∀ L xs, qX Y = some (L, xs) → va_X (ad 9002) L xs s s.heap ∧ ad 9002 < s.heap.size ∧ ¬ A (ad 9002)) ∧
  (∀ q, s.heap.size ≤ q → A q) ∧ va_K D vwCl (tl ca 118) s ∧ va_P D vwCl (wz ad ca h) H ∧ va_D A (wz ad ca h) ∧ va_S A s.heap H locs
/-- at a return -/
def xd (Y : QM) (pc : Nat) (rv : List Value) : Prop :=
  (∃ v : Int32, rv = [.int v] ∧ decode (qC Y) pc = .ok (.ireturn, 1) ∧ ∃ ty, qR Y = some ty ∧ narrow ty (.int v) = .int v) ∨
  (∃ v : Int64, rv = [.long v] ∧ decode (qC Y) pc = .ok (.lreturn, 1) ∧ qR Y = some .long) ∨
  (rv = [] ∧ decode (qC Y) pc = .ok (.return_, 1) ∧ qR Y = none)
/-- from here the method comes to a return with rv on its stack and the picture h' -/
def WA (Y : QM) (d pc : Nat) (lv : List (Nat × Value)) (st : List Value) (h : AHp) (rv : List Value) (h' : AHp) : Prop :=
  ∀ {p : Program} {l : Launch} {e : Env} {R : Room} {s : State} {m : MethodId} {args : Array Value} {below : List Frame} {meth : Method} {c : Code} {D : va_G} {ad : Nat → Nat} {ca : Nat → ClassId} {A : Nat → Prop} {cells slots : Nat} {Q : State → Prop} {H : Heap} {locs : List Loc} {ls : Array Slot},
    Cz Y d h p R s m args meth c D ad ca A cells slots H locs → lv_has ls (qN Y) (cvL ad lv) →
    (∀ (H' : Heap) (locs' : List Loc) (pc' : Nat) (ls' : Array Slot), Cz Y d h' p R s m args meth c D ad ca A cells slots H' locs' → xd Y pc' rv → W p l e R s m args below meth c H' locs' cells slots Q (F0 m pc' ls' (rv.map (cv ad)))) →
    W p l e R s m args below meth c H locs cells slots Q (F0 m pc ls (st.map (cv ad)))
def WO {r : Type} (tv : r → List Value) (Y : QM) (d pc : Nat) (lv : List (Nat × Value)) (st : List Value) (h : AHp) (o : Option (r × AHp)) : Prop :=
  ∀ (x : r) (h' : AHp), o = some (x, h') → WA Y d pc lv st h (tv x) h'
def tvI (x : Int32) : List Value := [.int x]
def tvL (x : Int64) : List Value := [.long x]
def tvV (_ : Unit) : List Value := []
abbrev inb (i : Int32) (n : Nat) : Prop := ¬ (i < 0 ∨ n ≤ i.toNatClampNeg)
def gd {r : Type} (c : Prop) [Decidable c] (o : Option r) : Option r := if c then o else none
def bd {a r : Type} (o : Option (a × AHp)) (F : a → AHp → Option r) : Option r := match o with
  | some (x, h) => F x h
  | none => none
def lt {a b : Type} (x : a) (f : a → b) : b := f x
