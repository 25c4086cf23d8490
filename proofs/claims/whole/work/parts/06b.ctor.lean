/-! MAKING: worlds that grow. n cells are there; rho: what the final fields refer to -/
def uR (rho : Nat → Nat → Nat) (k i v : Nat) : Nat → Nat → Nat := fun a b => if a = k ∧ b = i then v else rho a b
def Zn (n : Nat) (rho : Nat → Nat → Nat) (h : AHp) : Prop := (∀ k, n ≤ k → ∀ i, hI h k i = 0 ∧ hL h k i = 0 ∧ hM h k i = 0 ∧ rho k i = 0) ∧ ∀ k i, (rho k i < n ∨ rho k i = 0) ∧ (hM h k i < n ∨ hM h k i = 0)
def agr (n : Nat) (ad ad2 : Nat → Nat) : Prop := ∀ k, k < n ∨ 9000 ≤ k → ad2 k = ad k
def rok (n : Nat) (v : Value) : Bool := match v with
  | .ref k => decide (k < n) || decide (9000 ≤ k)
  | _ => true
theorem cv_agr {n : Nat} {ad ad2 : Nat → Nat} (ha : agr n ad ad2) {v : Value} (hv : rok n v = true) : cv ad2 v = cv ad v := by
  cases v with
  | ref k =>
    simp only [rok, Bool.or_eq_true, decide_eq_true_eq] at hv
    show Value.ref (ad2 k) = Value.ref (ad k)
    rw [ha k hv]
  | _ => rfl
theorem cvs_agr {n : Nat} {ad ad2 : Nat → Nat} (ha : agr n ad ad2) {st : List Value} (hv : st.all (rok n) = true) : st.map (cv ad2) = st.map (cv ad) :=
  List.map_congr_left (fun v h => cv_agr ha (List.all_eq_true.mp hv v h))
theorem cvL_agr {n : Nat} {ad ad2 : Nat → Nat} (ha : agr n ad ad2) {lv : List (Nat × Value)} (hv : lv.all (fun q => rok n q.2) = true) : cvL ad2 lv = cvL ad lv :=
  List.map_congr_left (fun q h => by rw [cv_agr ha (List.all_eq_true.mp hv q h)])
theorem agr.trans {n n2 : Nat} {ad ad2 ad3 : Nat → Nat} (h1 : agr n ad ad2) (h2 : agr n2 ad2 ad3) (hn : n ≤ n2) : agr n ad ad3 := fun k hk => by
  rw [h2 k (by omega), h1 k hk]
theorem agr.rf {n : Nat} {ad : Nat → Nat} : agr n ad ad := fun _ _ => rfl
theorem SX.agr {n : Nat} {ad ad2 : Nat → Nat} {A : Nat → Prop} {U : State} {H : Heap} (ha : agr n ad ad2) (h : SX ad A U H) : SX ad2 A U H := by
  unfold SX at h ⊢
  rw [ha 9000 (by omega), ha 9001 (by omega)]
  exact h
theorem ev_agr {n x : Nat} {ad ad2 : Nat → Nat} (ha : agr n ad ad2) (hx : x < n ∨ x = 0) : ev ad2 x = ev ad x := by
  unfold ev
  by_cases h0 : x = 0
  · simp [h0]
  · rw [if_neg h0, if_neg h0, ha x (by omega)]
theorem fm_congr {a b : Type} {f g : a → Option b} (l : List a) (h : ∀ x ∈ l, f x = g x) : l.filterMap f = l.filterMap g := by
  induction l with
  | nil => rfl
  | cons x l ih =>
    rw [List.filterMap_cons, List.filterMap_cons, h x List.mem_cons_self, ih (fun y hy => h y (List.mem_cons_of_mem _ hy))]
theorem wE_agr {n : Nat} {ad ad2 : Nat → Nat} {ca ca2 : Nat → ClassId} {rho : Nat → Nat → Nat} {h : AHp} {k : Nat} (ha : agr n ad ad2) (hc : ca2 k = ca k) (hz : ∀ k i, (rho k i < n ∨ rho k i = 0) ∧ (hM h k i < n ∨ hM h k i = 0)) : wE ad2 ca2 rho h k = wE ad ca rho h k := by
  have e3 : ∀ ci, fvl ad2 rho h ci k = fvl ad rho h ci k := fun ci => funext fun b => by
    unfold fvl
    split
    · rfl
    · split
      · exact ev_agr ha (hz k b).2
      · exact ev_agr ha (hz k b).1
  unfold wE
  rw [hc]
  simp only [e3]
theorem wl_grow {n : Nat} {ad : Nat → Nat} {ca : Nat → ClassId} {rho : Nat → Nat → Nat} {h : AHp} {q : Nat} {cA : ClassId} {E : va_E} (hz : ∀ k i, (rho k i < n ∨ rho k i = 0) ∧ (hM h k i < n ∨ hM h k i = 0)) (hn : n < 9000) (hE : wE (fun k => if k = n then q else ad k) (fun k => if k = n then cA else ca k) rho h n = E) :
    wl (fun k => if k = n then q else ad k) (fun k => if k = n then cA else ca k) rho h (n + 1) = wl ad ca rho h n ++ [(q, E)] := by
  unfold wl
  rw [List.range_succ, List.map_append]
  congr 1
  · refine List.map_congr_left (fun k hk => ?_)
    have hk := List.mem_range.mp hk
    have hne : ¬ k = n := by omega
    simp only [if_neg hne]
    rw [wE_agr (n := n) (ad := ad) (ca := ca) (fun k hk => by show (if k = n then q else ad k) = ad k; rw [if_neg (by omega)]) (by show (if k = n then cA else ca k) = ca k; rw [if_neg hne]) hz]
  · simp only [List.map_cons, List.map_nil, if_true]
    rw [hE]
theorem tl_grow {n N : Nat} {ca : Nat → ClassId} {cA : ClassId} {ty : FieldType} (hk : kd n = some (.inr (ty, N))) : tl (fun k => if k = n then cA else ca k) (n + 1) = tl ca n ++ [(cA, ty)] := by
  unfold tl
  rw [List.range_succ, List.filterMap_append]
  congr 1
  · refine fm_congr _ (fun k hk => ?_)
    have hk := List.mem_range.mp hk
    simp only [tyA, if_neg (show ¬ k = n by omega)]
  · simp [tyA, hk]
theorem tl_grow0 {n ci : Nat} {ca : Nat → ClassId} {cA : ClassId} (hk : kd n = some (.inl ci)) : tl (fun k => if k = n then cA else ca k) (n + 1) = tl ca n := by
  unfold tl
  rw [List.range_succ, List.filterMap_append]
  have e : ([n].filterMap (tyA (fun k => if k = n then cA else ca k))) = [] := by simp [tyA, hk]
  rw [e, List.append_nil]
  refine fm_congr _ (fun k hk => ?_)
  have hk := List.mem_range.mp hk
  simp only [tyA, if_neg (show ¬ k = n by omega)]
theorem Zn.succ {n : Nat} {rho : Nat → Nat → Nat} {h : AHp} (hz : Zn n rho h) : Zn (n + 1) rho h := ⟨fun k hk i => hz.1 k (by omega) i, fun k i => ⟨by have := (hz.2 k i).1; omega, by have := (hz.2 k i).2; omega⟩⟩
theorem Zn.uR {n k i v : Nat} {rho : Nat → Nat → Nat} {h : AHp} (hz : Zn n rho h) (hk : k < n) (hv : v < n) : Zn n (uR rho k i v) h := by
  refine ⟨fun a ha b => ⟨(hz.1 a ha b).1, (hz.1 a ha b).2.1, (hz.1 a ha b).2.2.1, ?_⟩, fun a b => ⟨?_, (hz.2 a b).2⟩⟩
  · show (if a = k ∧ b = i then v else rho a b) = 0
    rw [if_neg (by omega)]; exact (hz.1 a ha b).2.2.2
  · show (if a = k ∧ b = i then v else rho a b) < n ∨ (if a = k ∧ b = i then v else rho a b) = 0
    split
    · exact Or.inl hv
    · exact (hz.2 a b).1
theorem Zn.sM {n k i v : Nat} {rho : Nat → Nat → Nat} {h : AHp} (hz : Zn n rho h) (hk : k < n) (hv : v < n) : Zn n rho (sM h k i v) := by
  refine ⟨fun a ha b => ⟨(hz.1 a ha b).1, (hz.1 a ha b).2.1, ?_, (hz.1 a ha b).2.2.2⟩, fun a b => ⟨(hz.2 a b).1, ?_⟩⟩
  · show (if a = k ∧ b = i then v else h.2.2 a b) = 0
    rw [if_neg (by omega)]; exact (hz.1 a ha b).2.2.1
  · show (if a = k ∧ b = i then v else h.2.2 a b) < n ∨ (if a = k ∧ b = i then v else h.2.2 a b) = 0
    split
    · exact Or.inl hv
    · exact (hz.2 a b).2
theorem Zn.sI {n k i : Nat} {v : Int32} {rho : Nat → Nat → Nat} {h : AHp} (hz : Zn n rho h) (hk : k < n) : Zn n rho (sI h k i v) := by
  refine ⟨fun a ha b => ⟨?_, (hz.1 a ha b).2.1, (hz.1 a ha b).2.2.1, (hz.1 a ha b).2.2.2⟩, fun a b => hz.2 a b⟩
  rw [hI_sI_ne (by omega)]; exact (hz.1 a ha b).1
theorem wl_uR {ad : Nat → Nat} {ca : Nat → ClassId} {rho : Nat → Nat → Nat} {h : AHp} {n k ci i v : Nat} (hkn : k < n) (hk : kd k = some (.inl ci)) (hi : i < nF ci) (ht : isI (fty ci i) = false) (hmu : isMut ci i = false) :
    (wl ad ca rho h n).set k (ad k, .inr (ci, ((List.range (nF ci)).map (fvl ad rho h ci k)).set i (ev ad v))) = wl ad ca (uR rho k i v) h n := by
  refine wl_set hkn ?_ (fun j hj => wE_congr (fun _ => rfl) (fun _ => rfl) (fun _ => rfl) (fun b => by simp [uR, hj]))
  rw [wE_obj hk]
  congr 2
  apply List.ext_getElem?
  intro j
  rw [List.getElem?_set, List.length_map, List.length_range]
  by_cases hij : i = j
  · subst hij
    rw [if_pos rfl, if_pos hi, List.getElem?_map, List.getElem?_range hi]
    simp [fvl, ht, hmu, uR]
  · rw [if_neg hij]
    by_cases hj : j < nF ci
    · rw [List.getElem?_map, List.getElem?_range hj, List.getElem?_map, List.getElem?_range hj]
      have hji : ¬ j = i := fun e => hij e.symm
      have e1 : uR rho k i v k j = rho k j := by simp [uR, hji]
      show some (fvl ad (uR rho k i v) h ci k j) = some (fvl ad rho h ci k j)
      unfold fvl
      rw [e1]
    · rw [List.getElem?_eq_none (by simp; omega), List.getElem?_eq_none (by simp; omega)]
def FF (own : String) (idx ci i : Nat) : Prop := ∃ (C : String) (T : u_T) (N : Nat), CB ci C T N ∧ i < N ∧ (T i).2.2.2 = true ∧ (T i).1 = own ∧ Cond.fieldLink own idx (T i).1 (T i).2.1 (T i).2.2.1 ∈ gtbl
def Cb (Y : QM) (d n : Nat) (rho : Nat → Nat → Nat) (h : AHp) (cE sE : Nat) (p : Program) (R : Room) (s : State) (m : MethodId) (args : Array Value) (meth : Method) (c : Code) (D : va_G) (ad : Nat → Nat) (ca : Nat → ClassId) (A : Nat → Prop) (H : Heap) (locs : List Loc) : Prop :=
  (p.tables.exec = Jvm.exec ∧ c.code = qC Y ∧ c.maxLocals = qN Y ∧ meth.sig.returnType = qR Y ∧ s.vm.findClass (qOwn Y) = some m.cls ∧ (∀ w ∈ gtbl, w.before args s = true) ∧ meth.locks = false ∧ ((qY Y).name = "<init>" → meth.name = "<init>")) ∧
  (d ≤ R.frames ∧ 100 * d ≤ R.locals ∧ cE ≤ R.cells ∧ sE ≤ R.slots) ∧
  (NX s ∧ SX ad A s s.heap ∧ Zn n rho h) ∧
  (∀ q, s.heap.size ≤ q → A q) ∧ va_K D vwCl (tl ca n) s ∧ va_P D vwCl (wl ad ca rho h n) H ∧ va_D A (wl ad ca rho h n) ∧ va_S A s.heap H locs
/-- from here to the place pcE with nE cells made, cE cells and sE slots in all -/
def WB (Y : QM) (d pc : Nat) (lv : List (Nat × Value)) (st : List Value) (n : Nat) (rho : Nat → Nat → Nat) (h : AHp) (cells slots pcE : Nat) (lvE : List (Nat × Value)) (nE : Nat) (rhoE : Nat → Nat → Nat) (hE : AHp) (cE sE : Nat) : Prop :=
  ∀ (p : Program) {l : Launch} {e : Env} {R : Room} {s : State} {m : MethodId} {args : Array Value} {below : List Frame} {meth : Method} {c : Code} {D : va_G} {ad : Nat → Nat} {ca : Nat → ClassId} {A : Nat → Prop} {Q : State → Prop} {H : Heap} {locs : List Loc} {ls : Array Slot},
    Cb Y d n rho h cE sE p R s m args meth c D ad ca A H locs → lv_has ls (qN Y) (cvL ad lv) →
    (∀ (H2 : Heap) (locs2 : List Loc) (ls2 : Array Slot) (ad2 : Nat → Nat) (ca2 : Nat → ClassId), agr n ad ad2 → Cb Y d nE rhoE hE cE sE p R s m args meth c D ad2 ca2 A H2 locs2 → lv_has ls2 (qN Y) (cvL ad2 lvE) → W p l e R s m args below meth c H2 locs2 cE sE Q (F0 m pcE ls2 [])) →
    W p l e R s m args below meth c H locs cells slots Q (F0 m pc ls (st.map (cv ad)))
section ZB
variable {Y : QM} {d pc : Nat} {lv : List (Nat × Value)} {st : List Value} {n : Nat} {rho : Nat → Nat → Nat} {h : AHp} {cells slots pcE : Nat} {lvE : List (Nat × Value)} {nE : Nat} {rhoE : Nat → Nat → Nat} {hE : AHp} {cE sE : Nat}
theorem y_done : WB Y d pc lv [] n rho h cE sE pc lv n rho h cE sE := by
  intro p l e R s m args below meth c D ad ca A Q H locs ls C hl hX
  exact hX H locs ls ad ca agr.rf C hl
theorem y_iconst {i : Int} {v : Int32} (hd : decode (qC Y) pc = .ok (.iconst i, 1)) (hv : Int32.ofInt i = v) (k : WB Y d (pc + 1) lv (.int v :: st) n rho h cells slots pcE lvE nE rhoE hE cE sE) : WB Y d pc lv (st) n rho h cells slots pcE lvE nE rhoE hE cE sE := by
  intro p l e R s m args below meth c D ad ca A Q H locs ls C hl hX
  exact lv_iconst C.1.1 C.1.2.1 hd hv (k _ C hl hX)
theorem y_bipush {i : Int} {v : Int32} (hd : decode (qC Y) pc = .ok (.bipush i, 2)) (hv : (Int8.ofInt i).toInt32 = v) (k : WB Y d (pc + 2) lv (.int v :: st) n rho h cells slots pcE lvE nE rhoE hE cE sE) : WB Y d pc lv (st) n rho h cells slots pcE lvE nE rhoE hE cE sE := by
  intro p l e R s m args below meth c D ad ca A Q H locs ls C hl hX
  exact lv_bipush C.1.1 C.1.2.1 hd hv (k _ C hl hX)
theorem y_sipush {i : Int} {v : Int32} (hd : decode (qC Y) pc = .ok (.sipush i, 3)) (hv : (Int16.ofInt i).toInt32 = v) (k : WB Y d (pc + 3) lv (.int v :: st) n rho h cells slots pcE lvE nE rhoE hE cE sE) : WB Y d pc lv (st) n rho h cells slots pcE lvE nE rhoE hE cE sE := by
  intro p l e R s m args below meth c D ad ca A Q H locs ls C hl hX
  exact lv_sipush C.1.1 C.1.2.1 hd hv (k _ C hl hX)
theorem y_aload_n {k4 : Fin 4} {x : Nat} (hd : decode (qC Y) pc = .ok (.aload_n k4, 1)) (q : Nat) (hq : lv[q]? = some ((k4 : Nat), .ref x)) (k : WB Y d (pc + 1) lv (.ref x :: st) n rho h cells slots pcE lvE nE rhoE hE cE sE) : WB Y d pc lv st n rho h cells slots pcE lvE nE rhoE hE cE sE := by
  intro p l e R s m args below meth c D ad ca A Q H locs ls C hl hX
  exact lv_aload_n C.1.1 C.1.2.1 hd rfl (lv_at hl q (cvL_at hq)) (k _ C hl hX)
theorem y_dup {va : Value} (hd : decode (qC Y) pc = .ok (.dup, 1)) (hv : va.category = 1) (k : WB Y d (pc + 1) lv (va :: va :: st) n rho h cells slots pcE lvE nE rhoE hE cE sE) : WB Y d pc lv (va :: st) n rho h cells slots pcE lvE nE rhoE hE cE sE := by
  intro p l e R s m args below meth c D ad ca A Q H locs ls C hl hX
  exact lv_dup C.1.1 C.1.2.1 hd (by rw [cv_cat]; exact hv) (k _ C hl hX)
theorem y_astore_n {k4 : Fin 4} {x : Nat} {lv2 : List (Nat × Value)} (hd : decode (qC Y) pc = .ok (.astore_n k4, 1)) (hn : (k4 : Nat) < qN Y) (hs : ls1 (k4 : Nat) (.ref x) lv = lv2) (k : WB Y d (pc + 1) lv2 st n rho h cells slots pcE lvE nE rhoE hE cE sE) : WB Y d pc lv (.ref x :: st) n rho h cells slots pcE lvE nE rhoE hE cE sE := by
  intro p l e R s m args below meth c D ad ca A Q H locs ls C hl hX
  refine lv_astore_n (lv' := cvL ad lv2) C.1.1 C.1.2.1 hd rfl hl hn ?_ (fun ls2 hl2 => k _ C hl2 hX)
  rw [← hs]
  have e := cvL_filter ad (fun a b => !(a == (k4 : Nat)) && !(a + 1 == (k4 : Nat) && b == 2)) lv
  exact congrArg (List.cons _) e
theorem y_istore_n {k4 : Fin 4} {x : Int32} {lv2 : List (Nat × Value)} (hd : decode (qC Y) pc = .ok (.istore_n k4, 1)) (hn : (k4 : Nat) < qN Y) (hs : ls1 (k4 : Nat) (.int x) lv = lv2) (k : WB Y d (pc + 1) lv2 st n rho h cells slots pcE lvE nE rhoE hE cE sE) : WB Y d pc lv (.int x :: st) n rho h cells slots pcE lvE nE rhoE hE cE sE := by
  intro p l e R s m args below meth c D ad ca A Q H locs ls C hl hX
  refine lv_istore_n (lv' := cvL ad lv2) C.1.1 C.1.2.1 hd rfl hl hn ?_ (fun ls2 hl2 => k _ C hl2 hX)
  rw [← hs]
  have e := cvL_filter ad (fun a b => !(a == (k4 : Nat)) && !(a + 1 == (k4 : Nat) && b == 2)) lv
  exact congrArg (List.cons _) e
theorem y_objInit {idx k : Nat} (hd : decode (qC Y) pc = .ok (.invokespecial idx, 3)) (h1 : Cond.methodLink (qOwn Y) idx objectInit ∈ gtbl) (h2 : Cond.instanceMethod objectInit ∈ gtbl ∧ Cond.code objectInit ⟨#[0xb1]⟩ 1 none ∈ gtbl) (hd1 : 1 ≤ d) (hc8 : (st.map fun v => v.category).sum ≤ 8) (kk : WB Y d (pc + 3) lv st n rho h cells slots pcE lvE nE rhoE hE cE sE) : WB Y d pc lv (.ref k :: st) n rho h cells slots pcE lvE nE rhoE hE cE sE := by
  intro p l e R s m args below meth c D ad ca A Q H locs ls C hl hX
  obtain ⟨⟨hx, hb, hml, hr, hown, hts, hlk0, hnm⟩, hRm, ⟨hN, hSx, hZ⟩, hA, hK, hP, hD, hS⟩ := id C
  refine W.objInit hx hb hown (hts _ h1) (hts _ h2.1) (hts _ h2.2) rfl (hl.1.trans hml.symm) (a := ad k) (rest := st.map (cv ad)) rfl hd (Nat.le_trans hd1 hRm.1) ?_ ?_
  · have e := cv_sum ad st
    have e2 : 2 * (F0 m pc ls ((Value.ref k :: st).map (cv ad))).monitorRoom = 0 := rfl
    omega
  · exact kk _ C hl hX
theorem y_newa_int {N : Nat} {v : Int32} (hk : kd n = some (.inr (.int, N))) (hd : decode (qC Y) pc = .ok (.newarray .int, 2)) (hw : Cond.arrayClass .int ∈ gtbl) (hv : ¬ v < 0 ∧ v.toNatClampNeg = N ∧ N * componentBytes .int ≤ 536870912) (hc : cells + 1 ≤ cE ∧ slots + N ≤ sE) (hok : lv.all (fun q => rok n q.2) = true ∧ st.all (rok n) = true) (kk : WB Y d (pc + 2) lv (.ref n :: st) (n + 1) rho h (cells + 1) (slots + N) pcE lvE nE rhoE hE cE sE) : WB Y d pc lv (.int v :: st) n rho h cells slots pcE lvE nE rhoE hE cE sE := by
  intro p l e R s m args below meth c D ad ca A Q H locs ls C hl hX
  obtain ⟨⟨hx, hb, hml, hr, hown, hts, hlk0, hnm⟩, hRm, ⟨hN, hSx, hZ⟩, hA, hK, hP, hD, hS⟩ := id C
  have hz : hI h n = fun _ => 0 := funext fun i => (hZ.1 n (Nat.le_refl n) i).1
  refine va_newa (atype := .int) (ty := .int) (N' := N) (a0 := (N, .inl (fun _ => 0))) hx hb (hts _ hw) rfl hK hP hD hS hA (fun _ => rfl) hv.1 hv.2.1 hv.2.2 (Nat.le_trans hc.1 hRm.2.2.1) (Nat.le_trans hc.2 hRm.2.2.2) hd (fun q cA H1 hK1 hP1 hD1 hS1 => ?_)
  have hlt := kd_lt hk
  have hag : agr n ad (fun k => if k = n then q else ad k) := fun k hk => by show (if k = n then q else ad k) = ad k; rw [if_neg (by omega)]
  have e8 := wl_grow (n := n) (ad := ad) (ca := ca) (rho := rho) (h := h) (q := q) (cA := cA) (E := .inl (cA, N, .inl (fun _ => 0))) hZ.2 (by omega) (by rw [wE_arr hk (by decide), hz]; simp)
  rw [← e8] at hP1 hD1
  rw [← tl_grow hk] at hK1
  have k2 := kk _ (ad := fun k => if k = n then q else ad k) (ca := fun k => if k = n then cA else ca k) (Q := Q) (H := H1) (locs := locs) (ls := ls) (l := l) (e := e) (below := below) ⟨C.1, C.2.1, ⟨hN, hSx.agr hag, hZ.succ⟩, hA, hK1, hP1, hD1, hS1⟩ (by rw [cvL_agr hag hok.1]; exact hl) (fun H2 locs2 ls2 ad2 ca2 ha2 C2 hl2 => hX H2 locs2 ls2 ad2 ca2 (hag.trans ha2 (Nat.le_succ n)) C2 hl2)
  have e3 : (Value.ref n :: st).map (cv fun k => if k = n then q else ad k) = Value.ref q :: st.map (cv ad) := by
    rw [List.map_cons, cvs_agr hag hok.2]
    simp [cv]
  rw [e3] at k2
  exact k2
theorem y_newa_byte {N : Nat} {v : Int32} (hk : kd n = some (.inr (.byte, N))) (hd : decode (qC Y) pc = .ok (.newarray .byte, 2)) (hw : Cond.arrayClass .byte ∈ gtbl) (hv : ¬ v < 0 ∧ v.toNatClampNeg = N ∧ N * componentBytes .byte ≤ 536870912) (hc : cells + 1 ≤ cE ∧ slots + N ≤ sE) (hok : lv.all (fun q => rok n q.2) = true ∧ st.all (rok n) = true) (kk : WB Y d (pc + 2) lv (.ref n :: st) (n + 1) rho h (cells + 1) (slots + N) pcE lvE nE rhoE hE cE sE) : WB Y d pc lv (.int v :: st) n rho h cells slots pcE lvE nE rhoE hE cE sE := by
  intro p l e R s m args below meth c D ad ca A Q H locs ls C hl hX
  obtain ⟨⟨hx, hb, hml, hr, hown, hts, hlk0, hnm⟩, hRm, ⟨hN, hSx, hZ⟩, hA, hK, hP, hD, hS⟩ := id C
  have hz : hI h n = fun _ => 0 := funext fun i => (hZ.1 n (Nat.le_refl n) i).1
  refine va_newa (atype := .byte) (ty := .byte) (N' := N) (a0 := (N, .inl (fun _ => 0))) hx hb (hts _ hw) rfl hK hP hD hS hA (fun _ => rfl) hv.1 hv.2.1 hv.2.2 (Nat.le_trans hc.1 hRm.2.2.1) (Nat.le_trans hc.2 hRm.2.2.2) hd (fun q cA H1 hK1 hP1 hD1 hS1 => ?_)
  have hlt := kd_lt hk
  have hag : agr n ad (fun k => if k = n then q else ad k) := fun k hk => by show (if k = n then q else ad k) = ad k; rw [if_neg (by omega)]
  have e8 := wl_grow (n := n) (ad := ad) (ca := ca) (rho := rho) (h := h) (q := q) (cA := cA) (E := .inl (cA, N, .inl (fun _ => 0))) hZ.2 (by omega) (by rw [wE_arr hk (by decide), hz]; simp)
  rw [← e8] at hP1 hD1
  rw [← tl_grow hk] at hK1
  have k2 := kk _ (ad := fun k => if k = n then q else ad k) (ca := fun k => if k = n then cA else ca k) (Q := Q) (H := H1) (locs := locs) (ls := ls) (l := l) (e := e) (below := below) ⟨C.1, C.2.1, ⟨hN, hSx.agr hag, hZ.succ⟩, hA, hK1, hP1, hD1, hS1⟩ (by rw [cvL_agr hag hok.1]; exact hl) (fun H2 locs2 ls2 ad2 ca2 ha2 C2 hl2 => hX H2 locs2 ls2 ad2 ca2 (hag.trans ha2 (Nat.le_succ n)) C2 hl2)
  have e3 : (Value.ref n :: st).map (cv fun k => if k = n then q else ad k) = Value.ref q :: st.map (cv ad) := by
    rw [List.map_cons, cvs_agr hag hok.2]
    simp [cv]
  rw [e3] at k2
  exact k2
theorem y_newa_boolean {N : Nat} {v : Int32} (hk : kd n = some (.inr (.boolean, N))) (hd : decode (qC Y) pc = .ok (.newarray .boolean, 2)) (hw : Cond.arrayClass .boolean ∈ gtbl) (hv : ¬ v < 0 ∧ v.toNatClampNeg = N ∧ N * componentBytes .boolean ≤ 536870912) (hc : cells + 1 ≤ cE ∧ slots + N ≤ sE) (hok : lv.all (fun q => rok n q.2) = true ∧ st.all (rok n) = true) (kk : WB Y d (pc + 2) lv (.ref n :: st) (n + 1) rho h (cells + 1) (slots + N) pcE lvE nE rhoE hE cE sE) : WB Y d pc lv (.int v :: st) n rho h cells slots pcE lvE nE rhoE hE cE sE := by
  intro p l e R s m args below meth c D ad ca A Q H locs ls C hl hX
  obtain ⟨⟨hx, hb, hml, hr, hown, hts, hlk0, hnm⟩, hRm, ⟨hN, hSx, hZ⟩, hA, hK, hP, hD, hS⟩ := id C
  have hz : hI h n = fun _ => 0 := funext fun i => (hZ.1 n (Nat.le_refl n) i).1
  refine va_newa (atype := .boolean) (ty := .boolean) (N' := N) (a0 := (N, .inl (fun _ => 0))) hx hb (hts _ hw) rfl hK hP hD hS hA (fun _ => rfl) hv.1 hv.2.1 hv.2.2 (Nat.le_trans hc.1 hRm.2.2.1) (Nat.le_trans hc.2 hRm.2.2.2) hd (fun q cA H1 hK1 hP1 hD1 hS1 => ?_)
  have hlt := kd_lt hk
  have hag : agr n ad (fun k => if k = n then q else ad k) := fun k hk => by show (if k = n then q else ad k) = ad k; rw [if_neg (by omega)]
  have e8 := wl_grow (n := n) (ad := ad) (ca := ca) (rho := rho) (h := h) (q := q) (cA := cA) (E := .inl (cA, N, .inl (fun _ => 0))) hZ.2 (by omega) (by rw [wE_arr hk (by decide), hz]; simp)
  rw [← e8] at hP1 hD1
  rw [← tl_grow hk] at hK1
  have k2 := kk _ (ad := fun k => if k = n then q else ad k) (ca := fun k => if k = n then cA else ca k) (Q := Q) (H := H1) (locs := locs) (ls := ls) (l := l) (e := e) (below := below) ⟨C.1, C.2.1, ⟨hN, hSx.agr hag, hZ.succ⟩, hA, hK1, hP1, hD1, hS1⟩ (by rw [cvL_agr hag hok.1]; exact hl) (fun H2 locs2 ls2 ad2 ca2 ha2 C2 hl2 => hX H2 locs2 ls2 ad2 ca2 (hag.trans ha2 (Nat.le_succ n)) C2 hl2)
  have e3 : (Value.ref n :: st).map (cv fun k => if k = n then q else ad k) = Value.ref q :: st.map (cv ad) := by
    rw [List.map_cons, cvs_agr hag hok.2]
    simp [cv]
  rw [e3] at k2
  exact k2
theorem y_newa_long {N : Nat} {v : Int32} (hk : kd n = some (.inr (.long, N))) (hd : decode (qC Y) pc = .ok (.newarray .long, 2)) (hw : Cond.arrayClass .long ∈ gtbl) (hv : ¬ v < 0 ∧ v.toNatClampNeg = N ∧ N * componentBytes .long ≤ 536870912) (hc : cells + 1 ≤ cE ∧ slots + N ≤ sE) (hok : lv.all (fun q => rok n q.2) = true ∧ st.all (rok n) = true) (kk : WB Y d (pc + 2) lv (.ref n :: st) (n + 1) rho h (cells + 1) (slots + N) pcE lvE nE rhoE hE cE sE) : WB Y d pc lv (.int v :: st) n rho h cells slots pcE lvE nE rhoE hE cE sE := by
  intro p l e R s m args below meth c D ad ca A Q H locs ls C hl hX
  obtain ⟨⟨hx, hb, hml, hr, hown, hts, hlk0, hnm⟩, hRm, ⟨hN, hSx, hZ⟩, hA, hK, hP, hD, hS⟩ := id C
  have hz : hL h n = fun _ => 0 := funext fun i => (hZ.1 n (Nat.le_refl n) i).2.1
  refine va_newa (atype := .long) (ty := .long) (N' := N) (a0 := (N, .inr (.inl (fun _ => 0)))) hx hb (hts _ hw) rfl hK hP hD hS hA (fun _ => rfl) hv.1 hv.2.1 hv.2.2 (Nat.le_trans hc.1 hRm.2.2.1) (Nat.le_trans hc.2 hRm.2.2.2) hd (fun q cA H1 hK1 hP1 hD1 hS1 => ?_)
  have hlt := kd_lt hk
  have hag : agr n ad (fun k => if k = n then q else ad k) := fun k hk => by show (if k = n then q else ad k) = ad k; rw [if_neg (by omega)]
  have e8 := wl_grow (n := n) (ad := ad) (ca := ca) (rho := rho) (h := h) (q := q) (cA := cA) (E := .inl (cA, N, .inr (.inl (fun _ => 0)))) hZ.2 (by omega) (by rw [wE_arrL hk, hz]; simp)
  rw [← e8] at hP1 hD1
  rw [← tl_grow hk] at hK1
  have k2 := kk _ (ad := fun k => if k = n then q else ad k) (ca := fun k => if k = n then cA else ca k) (Q := Q) (H := H1) (locs := locs) (ls := ls) (l := l) (e := e) (below := below) ⟨C.1, C.2.1, ⟨hN, hSx.agr hag, hZ.succ⟩, hA, hK1, hP1, hD1, hS1⟩ (by rw [cvL_agr hag hok.1]; exact hl) (fun H2 locs2 ls2 ad2 ca2 ha2 C2 hl2 => hX H2 locs2 ls2 ad2 ca2 (hag.trans ha2 (Nat.le_succ n)) C2 hl2)
  have e3 : (Value.ref n :: st).map (cv fun k => if k = n then q else ad k) = Value.ref q :: st.map (cv ad) := by
    rw [List.map_cons, cvs_agr hag hok.2]
    simp [cv]
  rw [e3] at k2
  exact k2
theorem df_ok : ∀ ci, ci < 13 → ∀ j, j < nF ci → defaultValue (fty ci j) = if isI (fty ci j) = true then .int 0 else .null := by decide +kernel
theorem y_new {idx ci N : Nat} {C0 : String} {T : u_T} (hB : CB ci C0 T N) (hci : ci < 13) (hk : kd n = some (.inl ci)) (hd : decode (qC Y) pc = .ok (.new idx, 3)) (hw : Cond.classLink (qOwn Y) idx C0 ∈ gtbl ∧ Cond.instantiable C0 N ∈ gtbl ∧ Cond.initialized C0 ∈ gtbl) (hc : cells + 1 ≤ cE ∧ slots + N ≤ sE) (hok : lv.all (fun q => rok n q.2) = true ∧ st.all (rok n) = true) (kk : WB Y d (pc + 3) lv (.ref n :: st) (n + 1) rho h (cells + 1) (slots + N) pcE lvE nE rhoE hE cE sE) : WB Y d pc lv st n rho h cells slots pcE lvE nE rhoE hE cE sE := by
  intro p l e R s m args below meth c D ad ca A Q H locs ls C hl hX
  obtain ⟨⟨hx, hb, hml, hr, hown, hts, hlk0, hnm⟩, hRm, ⟨hN, hSx, hZ⟩, hA, hK, hP, hD, hS⟩ := id C
  obtain ⟨c1, c2, c3, c4, c5⟩ := hB
  have hlt := kd_lt hk
  refine va_new (ci := ci) (fs := (List.range (nF ci)).map (fvl ad rho h ci n)) hx hb hts c3 (fty ci) c4 hown (hts _ hw.1) (hts _ hw.2.1) (hts _ hw.2.2) hK hP hD hS hA c1 (fun j hj => ?_) (Nat.le_trans hc.1 hRm.2.2.1) (Nat.le_trans hc.2 hRm.2.2.2) hd (fun q H1 hP1 hD1 hS1 => ?_)
  · rw [df_ok ci hci j (by rw [c2]; exact hj)]
    unfold vp_V
    rw [List.getD_eq_getElem?_getD, fv_at c2 hj]
    have z := hZ.1 n (Nat.le_refl n) j
    unfold fvl
    split
    · rw [z.1]; rfl
    · simp [ev, z.2.2.1, z.2.2.2]
  · have hag : agr n ad (fun k => if k = n then q else ad k) := fun k hk => by show (if k = n then q else ad k) = ad k; rw [if_neg (by omega)]
    have e8 := wl_grow (n := n) (ad := ad) (ca := ca) (rho := rho) (h := h) (q := q) (cA := ca n) (E := .inr (ci, (List.range (nF ci)).map (fvl ad rho h ci n))) hZ.2 (by omega) (by rw [wE_agr (n := n) (ad := ad) (ca := ca) hag (by simp) hZ.2, wE_obj hk])
    rw [← e8] at hP1 hD1
    rw [← tl_grow0 (cA := ca n) hk] at hK
    have k2 := kk _ (ad := fun k => if k = n then q else ad k) (ca := fun k => if k = n then ca n else ca k) (Q := Q) (H := H1) (locs := locs) (ls := ls) (l := l) (e := e) (below := below) ⟨C.1, C.2.1, ⟨hN, hSx.agr hag, hZ.succ⟩, hA, hK, hP1, hD1, hS1⟩ (by rw [cvL_agr hag hok.1]; exact hl) (fun H2 locs2 ls2 ad2 ca2 ha2 C2 hl2 => hX H2 locs2 ls2 ad2 ca2 (hag.trans ha2 (Nat.le_succ n)) C2 hl2)
    have e3 : (Value.ref n :: st).map (cv fun k => if k = n then q else ad k) = Value.ref q :: st.map (cv ad) := by
      rw [List.map_cons, cvs_agr hag hok.2]
      simp [cv]
    rw [e3] at k2
    exact k2
theorem y_putF {idx ci i k : Nat} {v : Nat}  (hF : FF (qOwn Y) idx ci i) (hk : kd k = some (.inl ci)) (hkn : k < n) (hv : ¬ v = 0 ∧ v < n) (ht : isI (fty ci i) = false) (hmu : isMut ci i = false) (hin0 : (qY Y).name = "<init>") (hnr : narrow (fty ci i) (.ref 0) = .ref 0 ∧ ∀ a, narrow (fty ci i) (.ref a) = .ref a ∧ fits (fty ci i) (.ref a) = true) (hd : decode (qC Y) pc = .ok (.putfield idx, 3)) (kk : WB Y d (pc + 3) lv st n (uR rho k i v) h cells slots pcE lvE nE rhoE hE cE sE) : WB Y d pc lv (.ref v :: .ref k :: st) n rho h cells slots pcE lvE nE rhoE hE cE sE := by
  intro p l e R s m args below meth c D ad ca A Q H locs ls C hl hX
  obtain ⟨⟨hx, hb, hml, hr, hown, hts, hlk0, hnm⟩, hRm, ⟨hN, hSx, hZ⟩, hA, hK, hP, hD, hS⟩ := id C
  obtain ⟨Cn, T, N, ⟨c1, c2, c3, c4, c5⟩, hi, hfin, hdc, hlk1⟩ := hF
  have he := wl_get (ad := ad) (ca := ca) (rho := rho) (h := h) hkn
  rw [wE_obj hk] at he
  refine va_putF (q0 := k) hx hb hts c3 (fty ci) c4 c5 hown hK hP hD hS he c1 i hi (hts _ hlk1) (fun _ h9 => h9) hfin (hnm hin0) hdc (ty := fty ci i) (c4 i hi) (by exact (hnr.2 _).1) (by exact (hnr.2 _).2) (by rw [List.length_map, List.length_range, c2]; exact hi) hd (fun H1 locs1 hP1 hD1 hS1 => ?_)
  have e9 := wl_uR (ad := ad) (ca := ca) (rho := rho) (h := h) (v := v) hkn hk (by rw [c2]; exact hi) ht hmu
  rw [show cv ad (.ref v) = ev ad v from by simp [cv, ev, hv.1], e9] at hP1 hD1
  exact kk _ ⟨C.1, C.2.1, ⟨hN, hSx, hZ.uR hkn hv.2⟩, hA, hK, hP1, hD1, hS1⟩ hl hX
theorem y_putM {idx ci i k : Nat} {v : Nat}  (hF : FL (qOwn Y) idx ci i false) (hk : kd k = some (.inl ci)) (hkn : k < n) (hv : ¬ v = 0 ∧ v < n) (ht : isI (fty ci i) = false) (hmu : isMut ci i = true) (hnr : ∀ a, narrow (fty ci i) (.ref a) = .ref a ∧ fits (fty ci i) (.ref a) = true) (hd : decode (qC Y) pc = .ok (.putfield idx, 3)) (kk : WB Y d (pc + 3) lv st n rho (sM h k i v) cells slots pcE lvE nE rhoE hE cE sE) : WB Y d pc lv (.ref v :: .ref k :: st) n rho h cells slots pcE lvE nE rhoE hE cE sE := by
  intro p l e R s m args below meth c D ad ca A Q H locs ls C hl hX
  obtain ⟨⟨hx, hb, hml, hr, hown, hts, hlk0, hnm⟩, hRm, ⟨hN, hSx, hZ⟩, hA, hK, hP, hD, hS⟩ := id C
  obtain ⟨Cn, T, N, ⟨c1, c2, c3, c4, c5⟩, hi, hfin, hlk1⟩ := hF
  have he := wl_get (ad := ad) (ca := ca) (rho := rho) (h := h) hkn
  rw [wE_obj hk] at he
  refine va_put (q0 := k) hx hb hts c3 (fty ci) c4 c5 hown hK hP hD hS he c1 i hi (hts _ hlk1) (fun _ h9 => h9) hfin (ty := fty ci i) (c4 i hi) (by exact (hnr _).1) (by exact (hnr _).2) (by rw [List.length_map, List.length_range, c2]; exact hi) hd (fun H1 locs1 hP1 hD1 hS1 => ?_)
  have e9 := wl_sM (ad := ad) (ca := ca) (rho := rho) (h := h) (v := v) hkn hk (by rw [c2]; exact hi) ht hmu
  rw [show cv ad (.ref v) = ev ad v from by simp [cv, ev, hv.1], e9] at hP1 hD1
  exact kk _ ⟨C.1, C.2.1, ⟨hN, hSx, hZ.sM hkn hv.2⟩, hA, hK, hP1, hD1, hS1⟩ hl hX
theorem y_putI {idx ci i k : Nat} {v : Int32}  (hF : FL (qOwn Y) idx ci i false) (hk : kd k = some (.inl ci)) (hkn : k < n) (ht : fty ci i = .int) (hd : decode (qC Y) pc = .ok (.putfield idx, 3)) (kk : WB Y d (pc + 3) lv st n rho (sI h k i v) cells slots pcE lvE nE rhoE hE cE sE) : WB Y d pc lv (.int v :: .ref k :: st) n rho h cells slots pcE lvE nE rhoE hE cE sE := by
  intro p l e R s m args below meth c D ad ca A Q H locs ls C hl hX
  obtain ⟨⟨hx, hb, hml, hr, hown, hts, hlk0, hnm⟩, hRm, ⟨hN, hSx, hZ⟩, hA, hK, hP, hD, hS⟩ := id C
  obtain ⟨Cn, T, N, ⟨c1, c2, c3, c4, c5⟩, hi, hfin, hlk1⟩ := hF
  have he := wl_get (ad := ad) (ca := ca) (rho := rho) (h := h) hkn
  rw [wE_obj hk] at he
  refine va_put (q0 := k) hx hb hts c3 (fty ci) c4 c5 hown hK hP hD hS he c1 i hi (hts _ hlk1) (fun _ h9 => h9) hfin (ty := fty ci i) (c4 i hi) (by rw [ht]; exact narrowI v) (by rw [ht]; exact fitsI v) (by rw [List.length_map, List.length_range, c2]; exact hi) hd (fun H1 locs1 hP1 hD1 hS1 => ?_)
  have e9 := wl_sI_obj (ad := ad) (ca := ca) (rho := rho) (h := h) (v := v) hkn hk (by rw [c2]; exact hi) (by rw [ht]; rfl)
  rw [show cv ad (.int v) = .int v from rfl, e9] at hP1 hD1
  exact kk _ ⟨C.1, C.2.1, ⟨hN, hSx, hZ.sI hkn⟩, hA, hK, hP1, hD1, hS1⟩ hl hX
/-! a constructor's contract -/
def Pb (D : va_G) (ad : Nat → Nat) (ca : Nat → ClassId) (A : Nat → Prop) (sz n : Nat) (rho : Nat → Nat → Nat) (h : AHp) (U : State) : Prop := U.heap.size = sz ∧ va_P D vwCl (wl ad ca rho h n) U.heap ∧ va_K D vwCl (tl ca n) U ∧ va_D A (wl ad ca rho h n) ∧ NX U ∧ SX ad A U U.heap ∧ Zn n rho h
def Bb (D : va_G) (u : (Nat → Nat) × (Nat → ClassId)) (A : Nat → Prop) (n : Nat) (rho : Nat → Nat → Nat) (h : AHp) (t : State) : Prop := va_P D vwCl (wl u.1 u.2 rho h n) t.heap ∧ va_K D vwCl (tl u.2 n) t ∧ va_D A (wl u.1 u.2 rho h n) ∧ Zn n rho h
def MB (Y : QM) (d : Nat) (av : List Value) (n : Nat) (rho : Nat → Nat → Nat) (h : AHp) (nE : Nat) (rhoE : Nat → Nat → Nat) (hE : AHp) (cE sE : Nat) : Prop := ∀ (l : Launch) (D : va_G) (ad : Nat → Nat) (ca : Nat → ClassId) (A : Nat → Prop) (sz : Nat), (∀ q, sz ≤ q → A q) →
  Met l (qY Y) (cwd Y :: gtbl) { frames := d, cells := cE, slots := sE, locals := 100 * d } (va_Pc (av.map (cv ad)) (Pb D ad ca A sz n rho h)) (va_Qv (fun (u : (Nat → Nat) × (Nat → ClassId)) => agr n ad u.1) (fun u t => Bb D u A nE rhoE hE t) A) cE sE A
theorem Pb_blind (av : List Value) (D : va_G) (ad : Nat → Nat) (ca : Nat → ClassId) (A : Nat → Prop) (sz n : Nat) (rho : Nat → Nat → Nat) (h : AHp) : FrameBlind (va_Pc av (Pb D ad ca A sz n rho h)) := by
  intro a U g mk q
  obtain ⟨q0, q1, q2, q3, q4, q5, q6, q7⟩ := q
  exact ⟨q0, q1, q2, va_K.moved (u := U) (U := U.calling g mk a) (Vm.Alike.refl U.vm) q3, q4, NX.same (u := U) (U := U.calling g mk a) rfl q5, SX.same (u := U) (U := U.calling g mk a) rfl q6, q7⟩
theorem MB.of {av : List Value} (hp : plainName (qY Y).cls = true) (hown0 : qOwn Y = (qY Y).cls) (hret : qR Y = none) (hlen : (lg_sl av).length ≤ qN Y) (hd : decode (qC Y) pcE = .ok (.return_, 1)) (hw : WB Y d 0 (lv_args 0 av) [] n rho h 0 0 pcE [] nE rhoE hE cE sE) : MB Y d av n rho h nE rhoE hE cE sE := by
  intro l D ad ca A sz hA
  refine Met.ofW (cc := qC Y) (maxL := qN Y) (ret := qR Y) hp rfl ?_
  intro p e s m args below meth c s₁ B hml hv
  obtain ⟨rfl, hsz, hP, hK, hD, hN, hSx, hZ⟩ := hv
  have hts := atoms_spec (ws := cwd Y :: gtbl) B.pre
  have hown : s.vm.findClass (qOwn Y) = some m.cls := by rw [hown0]; exact findClass_of_methodNamed B.named
  subst hsz
  have hl := lv_entry (av.map (cv ad)) (n := qN Y) (by rw [lg_cv]; exact hlen)
  rw [cvL_args] at hl
  rw [lg_entry_eq]
  refine hw _ (D := D) (ad := ad) (ca := ca) (A := A) (H := s.heap) (locs := []) ⟨⟨B.exec, B.bytes, hml, B.returns, hown, fun w hw => hts w (List.mem_cons_of_mem _ hw), B.notSynchronized, fun hi => (name_of_methodNamed B.named B.method).1.trans hi⟩, ⟨Nat.le_refl _, Nat.le_refl _, Nat.le_refl _, Nat.le_refl _⟩, ⟨hN, hSx, hZ⟩, hA, hK, hP, hD, va_S.rf⟩ hl ?_
  intro H2 locs2 ls2 ad2 ca2 ha2 C2 hl2
  exact W.vret (free := A) C2.1.1 C2.1.2.1 (C2.1.2.2.2.1.trans hret) (fun t ht hW => ⟨⟨(ad2, ca2), rfl, ha2, by rw [ht]; exact C2.2.2.2.2.2.1, va_K.moved hW.alike C2.2.2.2.2.1, C2.2.2.2.2.2.2.1, C2.2.2.1.2.2⟩, C2.2.2.2.2.2.2.2.F ht⟩) C2.2.2.2.2.2.2.2.2.2 hd C2.1.2.2.2.2.2.2.1
def mbI (Y : QM) (n : Nat) : Prop := mb Y n ∧ Cond.instanceMethod (qY Y) ∈ gtbl ∧ (qY Y).name = "<init>" ∧ qR Y = none
theorem y_call {Y2 : QM} {d2 a9 idx k n2 c2 s2 : Nat} {av rest : List Value} {rho2 : Nat → Nat → Nat} {h2 : AHp} (hd : decode (qC Y) pc = .ok (.invokespecial idx, 3)) (hM : MB Y2 d2 (.ref k :: av) n rho h n2 rho2 h2 c2 s2) (hB : mbI Y2 a9) (hlk : Cond.methodLink (qOwn Y) idx (qY Y2) ∈ gtbl) (hn : av.length = a9) (hst : st = av.reverse ++ .ref k :: rest) (hc8 : (rest.map fun v => v.category).sum ≤ 8) (hdd : d2 + 1 ≤ d) (hc : cells + c2 ≤ cE ∧ slots + s2 ≤ sE) (hnn : n ≤ n2) (hok : lv.all (fun q => rok n q.2) = true ∧ rest.all (rok n) = true) (kk : WB Y d (pc + 3) lv rest n2 rho2 h2 (cells + c2) (slots + s2) pcE lvE nE rhoE hE cE sE) : WB Y d pc lv st n rho h cells slots pcE lvE nE rhoE hE cE sE := by
  intro p l e R s m args below meth c D ad ca A Q H locs ls C hl hX
  obtain ⟨⟨hx, hb, hml, hr, hown, hts, hlk0, hnm⟩, hRm, ⟨hN, hSx, hZ⟩, hA, hK, hP, hD, hS⟩ := id C
  subst hst
  obtain ⟨hb0, hin, hini, hrn⟩ := hB
  have hM1 := hM l D ad ca A H.size (fun q hq => hA q (Nat.le_trans hS.1 hq))
  have hrun : va_Run p l e R s m args below meth c H locs cells slots c2 s2 (F0 m pc ls ((av.reverse ++ .ref k :: rest).map (cv ad))) (rest.map (cv ad)) (va_Qv (fun (u : (Nat → Nat) × (Nat → ClassId)) => agr n ad u.1) (fun u t => Bb D u A n2 rho2 h2 t) A (Value.ref (ad k) :: av.map (cv ad)).toArray) A := by
    refine va_runI (bytes := qC Y2) (maxL := qN Y2) (nL := qN Y) (b := ad k) (As := av.map (cv ad)) (rest := rest.map (cv ad)) ⟨hx, hb, hml, hown, hts⟩ hM1 ⟨callB_of a9 hts (mb_good hb0) (by unfold cwd; rw [hrn]) rfl rfl (hts _ hb0.2.1) (hts _ hlk) ⟨hb0.2.2.1, hb0.2.2.2.1, hb0.2.2.2.2.1⟩ ⟨?_, ?_⟩, hini, hts _ hin⟩ ⟨Pb_blind _ D ad ca A H.size n rho h, fun U hU hW => ⟨rfl, by rw [hU], by rw [hU]; exact hP, va_K.moved hW.alike hK, hD, hN.warm hW, by rw [hU]; exact (hSx.warm hW).kept hS.2.1, hZ⟩⟩ rfl (by rw [List.length_map]; exact hn) hl.1 ?_ (lv_room (by rw [cv_sum]; exact hc8)) hd ⟨Nat.le_trans hc.1 hRm.2.2.1, Nat.le_trans hc.2 hRm.2.2.2⟩
    · show d2 + 1 ≤ R.frames; omega
    · show 8 + (qN Y2 + 11) + 100 * d2 ≤ R.locals; have := hb0.2.2.2.2.2; omega
    · show (av.reverse ++ .ref k :: rest).map (cv ad) = _
      rw [List.map_append, List.map_reverse]; rfl
  refine va_callv hrun hS (fun q _ h9 => h9) (fun q h9 => h9) (fun u t H1 locs1 ht hvm hw hB1 hz1 hk1 hS1 => ?_)
  obtain ⟨b1, b2, b3, b4⟩ := hB1
  rw [ht] at b1
  have k2 := kk _ (ad := u.1) (ca := u.2) (Q := Q) (H := H1) (locs := locs1) (ls := ls) (l := l) (e := e) (below := below) ⟨C.1, C.2.1, ⟨hN, hSx.agr hw, b4⟩, hA, va_K.moved hvm.symm b2, b1, b3, hS1⟩ (by rw [cvL_agr hw hok.1]; exact hl) (fun H2 locs2 ls2 ad2 ca2 ha2 C2 hl2 => hX H2 locs2 ls2 ad2 ca2 (hw.trans ha2 hnn) C2 hl2)
  rw [cvs_agr hw hok.2] at k2
  exact k2
theorem y_callN {Y2 : QM} {d2 a9 idx k n2 c2 s2 : Nat} {av rest : List Value} {rho2 : Nat → Nat → Nat} {h2 : AHp} (hd : decode (qC Y) pc = .ok (.invokespecial idx, 3)) (hM : MB Y2 d2 (.ref k :: av) n rho h n2 rho2 h2 c2 s2) (hB : mbI Y2 a9) {host : String} (hlk : Cond.methodLinkNest (qOwn Y) idx (qY Y2) host ∈ ntbl) (hn : av.length = a9) (hst : st = av.reverse ++ .ref k :: rest) (hc8 : (rest.map fun v => v.category).sum ≤ 8) (hdd : d2 + 1 ≤ d) (hc : cells + c2 ≤ cE ∧ slots + s2 ≤ sE) (hnn : n ≤ n2) (hok : lv.all (fun q => rok n q.2) = true ∧ rest.all (rok n) = true) (kk : WB Y d (pc + 3) lv rest n2 rho2 h2 (cells + c2) (slots + s2) pcE lvE nE rhoE hE cE sE) : WB Y d pc lv st n rho h cells slots pcE lvE nE rhoE hE cE sE := by
  intro p l e R s m args below meth c D ad ca A Q H locs ls C hl hX
  obtain ⟨⟨hx, hb, hml, hr, hown, hts, hlk0, hnm⟩, hRm, ⟨hN, hSx, hZ⟩, hA, hK, hP, hD, hS⟩ := id C
  subst hst
  obtain ⟨hb0, hin, hini, hrn⟩ := hB
  have hM1 := hM l D ad ca A H.size (fun q hq => hA q (Nat.le_trans hS.1 hq))
  have hrun : va_Run p l e R s m args below meth c H locs cells slots c2 s2 (F0 m pc ls ((av.reverse ++ .ref k :: rest).map (cv ad))) (rest.map (cv ad)) (va_Qv (fun (u : (Nat → Nat) × (Nat → ClassId)) => agr n ad u.1) (fun u t => Bb D u A n2 rho2 h2 t) A (Value.ref (ad k) :: av.map (cv ad)).toArray) A := by
    refine va_runIN (bytes := qC Y2) (maxL := qN Y2) (nL := qN Y) (b := ad k) (As := av.map (cv ad)) (rest := rest.map (cv ad)) ⟨hx, hb, hml, hown, hts⟩ hM1 ⟨va_cnB a9 hts (mb_good hb0) (by unfold cwd; rw [hrn]) rfl rfl (hN _ hlk) (hts _ hb0.2.1) ⟨hb0.2.2.1, hb0.2.2.2.1, hb0.2.2.2.2.1⟩ ⟨?_, ?_⟩, hini, hts _ hin⟩ ⟨Pb_blind _ D ad ca A H.size n rho h, fun U hU hW => ⟨rfl, by rw [hU], by rw [hU]; exact hP, va_K.moved hW.alike hK, hD, hN.warm hW, by rw [hU]; exact (hSx.warm hW).kept hS.2.1, hZ⟩⟩ rfl (by rw [List.length_map]; exact hn) hl.1 ?_ (lv_room (by rw [cv_sum]; exact hc8)) hd ⟨Nat.le_trans hc.1 hRm.2.2.1, Nat.le_trans hc.2 hRm.2.2.2⟩
    · show d2 + 1 ≤ R.frames; omega
    · show 8 + (qN Y2 + 11) + 100 * d2 ≤ R.locals; have := hb0.2.2.2.2.2; omega
    · show (av.reverse ++ .ref k :: rest).map (cv ad) = _
      rw [List.map_append, List.map_reverse]; rfl
  refine va_callv hrun hS (fun q _ h9 => h9) (fun q h9 => h9) (fun u t H1 locs1 ht hvm hw hB1 hz1 hk1 hS1 => ?_)
  obtain ⟨b1, b2, b3, b4⟩ := hB1
  rw [ht] at b1
  have k2 := kk _ (ad := u.1) (ca := u.2) (Q := Q) (H := H1) (locs := locs1) (ls := ls) (l := l) (e := e) (below := below) ⟨C.1, C.2.1, ⟨hN, hSx.agr hw, b4⟩, hA, va_K.moved hvm.symm b2, b1, b3, hS1⟩ (by rw [cvL_agr hw hok.1]; exact hl) (fun H2 locs2 ls2 ad2 ca2 ha2 C2 hl2 => hX H2 locs2 ls2 ad2 ca2 (hw.trans ha2 hnn) C2 hl2)
  rw [cvs_agr hw hok.2] at k2
  exact k2
end ZB
