section ZR2
variable {r : Type} {tv : r → List Value} {Y : QM} {d pc : Nat} {lv : List (Nat × Value)} {st : List Value} {h : AHp} {o : Option (r × AHp)}
/-! FIELDS -/
def CB (ci : Nat) (C : String) (T : u_T) (N : Nat) : Prop := vwCl[ci]? = some (C, T, N) ∧ nF ci = N ∧ (∀ w ∈ u_ws C T N, w ∈ gtbl) ∧ (∀ k, k < N → parseFieldDescriptor (T k).2.2.1 = some (fty ci k)) ∧ ∀ a, a < N → ∀ b, b < N → a ≠ b → (T a).2.1 ≠ (T b).2.1
/-- the entry idx of the class own is the field i of the class number ci -/
def FL (own : String) (idx ci i : Nat) (fin : Bool) : Prop := ∃ (C : String) (T : u_T) (N : Nat), CB ci C T N ∧ i < N ∧ (T i).2.2.2 = fin ∧ Cond.fieldLink own idx (T i).1 (T i).2.1 (T i).2.2.1 ∈ gtbl
def FN (own : String) (idx ci i : Nat) (fin : Bool) : Prop := ∃ (C : String) (T : u_T) (N : Nat) (host : String), CB ci C T N ∧ i < N ∧ (T i).2.2.2 = fin ∧ Cond.fieldLinkNest own idx (T i).1 (T i).2.1 (T i).2.2.1 host ∈ ntbl
theorem fv_at {ad : Nat → Nat} {rho : Nat → Nat → Nat} {h : AHp} {ci k i N : Nat} (hN : nF ci = N) (hi : i < N) : ((List.range (nF ci)).map (fvl ad rho h ci k))[i]? = some (fvl ad rho h ci k i) := by
  rw [List.getElem?_map, hN, List.getElem?_range hi]; rfl
theorem narrowI (v : Int32) : narrow .int (.int v) = .int v := rfl
theorem fitsI (v : Int32) : fits .int (.int v) = true := rfl
theorem narrowZ {v : Int32} (h : v = 0 ∨ v = 1) : narrow .boolean (.int v) = .int v := by rcases h with rfl | rfl <;> decide
theorem fitsZ {v : Int32} (h : v = 0 ∨ v = 1) : fits .boolean (.int v) = true := by rcases h with rfl | rfl <;> decide
theorem z_getI {idx ci i k : Nat} {fin : Bool}  (hF : FL (qOwn Y) idx ci i fin) (hk : kd k = some (.inl ci)) (ht : isI (fty ci i) = true) (hd : decode (qC Y) pc = .ok (.getfield idx, 3)) (kk : WO tv Y d (pc + 3) lv (.int (hI h k i) :: st) h o) : WO tv Y d pc lv (.ref k :: st) h o := by
  intro x0 h0 ho p l e R s m args below meth c D ad ca A cells slots Q H locs ls C hl hE
  obtain ⟨⟨hx, hb, hml, hr, hown, hts, hlk⟩, hRm, hNS, hA, hK, hP, hD, hS⟩ := id C
  obtain ⟨Cn, T, N, ⟨c1, c2, c3, c4, c5⟩, hi, hfin, hlk1⟩ := hF
  have he := wl_get (ad := ad) (ca := ca) (rho := rho0) (h := h) (kd_lt hk)
  rw [wE_obj hk] at he
  refine va_get (q0 := k) hx hb hts c3 hown hK hP he c1 i hi (hts _ hlk1) (fun _ h9 => h9) (fv_at c2 hi) hd ?_
  rw [show fvl ad rho0 h ci k i = .int (hI h k i) from by unfold fvl; rw [if_pos ht]]
  exact kk x0 h0 ho C hl hE
theorem z_getR {idx ci i k : Nat} {fin : Bool} {j : Nat} (hF : FL (qOwn Y) idx ci i fin) (hk : kd k = some (.inl ci)) (ht : isI (fty ci i) = false) (hmu : isMut ci i = false) (hj : rho0 k i = j) (hj0 : j ≠ 0) (hd : decode (qC Y) pc = .ok (.getfield idx, 3)) (kk : WO tv Y d (pc + 3) lv (.ref j :: st) h o) : WO tv Y d pc lv (.ref k :: st) h o := by
  intro x0 h0 ho p l e R s m args below meth c D ad ca A cells slots Q H locs ls C hl hE
  obtain ⟨⟨hx, hb, hml, hr, hown, hts, hlk⟩, hRm, hNS, hA, hK, hP, hD, hS⟩ := id C
  obtain ⟨Cn, T, N, ⟨c1, c2, c3, c4, c5⟩, hi, hfin, hlk1⟩ := hF
  have he := wl_get (ad := ad) (ca := ca) (rho := rho0) (h := h) (kd_lt hk)
  rw [wE_obj hk] at he
  refine va_get (q0 := k) hx hb hts c3 hown hK hP he c1 i hi (hts _ hlk1) (fun _ h9 => h9) (fv_at c2 hi) hd ?_
  rw [show fvl ad rho0 h ci k i = .ref (ad j) from by unfold fvl; rw [ht, hmu, hj]; simp [ev, hj0]]
  exact kk x0 h0 ho C hl hE
theorem z_getM {idx ci i k : Nat} {fin : Bool}  (hF : FL (qOwn Y) idx ci i fin) (hk : kd k = some (.inl ci)) (ht : isI (fty ci i) = false) (hmu : isMut ci i = true) (hj0 : ¬ hM h k i = 0) (hd : decode (qC Y) pc = .ok (.getfield idx, 3)) (kk : WO tv Y d (pc + 3) lv (.ref (hM h k i) :: st) h o) : WO tv Y d pc lv (.ref k :: st) h o := by
  intro x0 h0 ho p l e R s m args below meth c D ad ca A cells slots Q H locs ls C hl hE
  obtain ⟨⟨hx, hb, hml, hr, hown, hts, hlk⟩, hRm, hNS, hA, hK, hP, hD, hS⟩ := id C
  obtain ⟨Cn, T, N, ⟨c1, c2, c3, c4, c5⟩, hi, hfin, hlk1⟩ := hF
  have he := wl_get (ad := ad) (ca := ca) (rho := rho0) (h := h) (kd_lt hk)
  rw [wE_obj hk] at he
  refine va_get (q0 := k) hx hb hts c3 hown hK hP he c1 i hi (hts _ hlk1) (fun _ h9 => h9) (fv_at c2 hi) hd ?_
  rw [show fvl ad rho0 h ci k i = .ref (ad (hM h k i)) from by unfold fvl; rw [ht, hmu]; simp [ev, hj0]]
  exact kk x0 h0 ho C hl hE
theorem z_putI {idx ci i k : Nat} {v : Int32} (hF : FL (qOwn Y) idx ci i false) (hk : kd k = some (.inl ci)) (ht : fty ci i = .int) (hd : decode (qC Y) pc = .ok (.putfield idx, 3)) (kk : WO tv Y d (pc + 3) lv st (sI h k i v) o) : WO tv Y d pc lv (.int v :: .ref k :: st) h o := by
  intro x0 h0 ho p l e R s m args below meth c D ad ca A cells slots Q H locs ls C hl hE
  obtain ⟨⟨hx, hb, hml, hr, hown, hts, hlk⟩, hRm, hNS, hA, hK, hP, hD, hS⟩ := id C
  obtain ⟨Cn, T, N, ⟨c1, c2, c3, c4, c5⟩, hi, hfin, hlk1⟩ := hF
  have he := wl_get (ad := ad) (ca := ca) (rho := rho0) (h := h) (kd_lt hk)
  rw [wE_obj hk] at he
  refine va_put (q0 := k) hx hb hts c3 (fty ci) c4 c5 hown hK hP hD hS he c1 i hi (hts _ hlk1) (fun _ h9 => h9) hfin (ty := fty ci i) (c4 i hi) (by rw [ht]; exact narrowI v) (by rw [ht]; exact fitsI v) (by rw [List.length_map, List.length_range, c2]; exact hi) hd (fun H1 locs1 hP1 hD1 hS1 => ?_)
  have e9 := wl_sI_obj (ad := ad) (ca := ca) (rho := rho0) (h := h) (v := v) (kd_lt hk) hk (by rw [c2]; exact hi) (by rw [ht]; rfl)
  rw [show cv ad (.int v) = .int v from rfl, e9] at hP1 hD1
  exact kk x0 h0 ho ⟨C.1, C.2.1, C.2.2.1, C.2.2.2.1, hK, hP1, hD1, hS1⟩ hl hE
theorem z_putZ {idx ci i k : Nat} {v : Int32} (hF : FL (qOwn Y) idx ci i false) (hk : kd k = some (.inl ci)) (ht : fty ci i = .boolean) (hz : v = 0 ∨ v = 1) (hd : decode (qC Y) pc = .ok (.putfield idx, 3)) (kk : WO tv Y d (pc + 3) lv st (sI h k i v) o) : WO tv Y d pc lv (.int v :: .ref k :: st) h o := by
  intro x0 h0 ho p l e R s m args below meth c D ad ca A cells slots Q H locs ls C hl hE
  obtain ⟨⟨hx, hb, hml, hr, hown, hts, hlk⟩, hRm, hNS, hA, hK, hP, hD, hS⟩ := id C
  obtain ⟨Cn, T, N, ⟨c1, c2, c3, c4, c5⟩, hi, hfin, hlk1⟩ := hF
  have he := wl_get (ad := ad) (ca := ca) (rho := rho0) (h := h) (kd_lt hk)
  rw [wE_obj hk] at he
  refine va_put (q0 := k) hx hb hts c3 (fty ci) c4 c5 hown hK hP hD hS he c1 i hi (hts _ hlk1) (fun _ h9 => h9) hfin (ty := fty ci i) (c4 i hi) (by rw [ht]; exact narrowZ hz) (by rw [ht]; exact fitsZ hz) (by rw [List.length_map, List.length_range, c2]; exact hi) hd (fun H1 locs1 hP1 hD1 hS1 => ?_)
  have e9 := wl_sI_obj (ad := ad) (ca := ca) (rho := rho0) (h := h) (v := v) (kd_lt hk) hk (by rw [c2]; exact hi) (by rw [ht]; rfl)
  rw [show cv ad (.int v) = .int v from rfl, e9] at hP1 hD1
  exact kk x0 h0 ho ⟨C.1, C.2.1, C.2.2.1, C.2.2.2.1, hK, hP1, hD1, hS1⟩ hl hE
theorem z_putM {idx ci i k : Nat} {v : Nat} {cn : String} (hF : FL (qOwn Y) idx ci i false) (hk : kd k = some (.inl ci)) (ht : fty ci i = .object cn) (hmu : isMut ci i = true) (hv0 : ¬ v = 0) (hd : decode (qC Y) pc = .ok (.putfield idx, 3)) (kk : WO tv Y d (pc + 3) lv st (sM h k i v) o) : WO tv Y d pc lv (.ref v :: .ref k :: st) h o := by
  intro x0 h0 ho p l e R s m args below meth c D ad ca A cells slots Q H locs ls C hl hE
  obtain ⟨⟨hx, hb, hml, hr, hown, hts, hlk⟩, hRm, hNS, hA, hK, hP, hD, hS⟩ := id C
  obtain ⟨Cn, T, N, ⟨c1, c2, c3, c4, c5⟩, hi, hfin, hlk1⟩ := hF
  have he := wl_get (ad := ad) (ca := ca) (rho := rho0) (h := h) (kd_lt hk)
  rw [wE_obj hk] at he
  refine va_put (q0 := k) hx hb hts c3 (fty ci) c4 c5 hown hK hP hD hS he c1 i hi (hts _ hlk1) (fun _ h9 => h9) hfin (ty := fty ci i) (c4 i hi) (by rw [ht]; rfl) (by rw [ht]; rfl) (by rw [List.length_map, List.length_range, c2]; exact hi) hd (fun H1 locs1 hP1 hD1 hS1 => ?_)
  have e9 := wl_sM (ad := ad) (ca := ca) (rho := rho0) (h := h) (v := v) (kd_lt hk) hk (by rw [c2]; exact hi) (by rw [ht]; rfl) hmu
  rw [show cv ad (.ref v) = ev ad v from by simp [cv, ev, hv0], e9] at hP1 hD1
  exact kk x0 h0 ho ⟨C.1, C.2.1, C.2.2.1, C.2.2.2.1, hK, hP1, hD1, hS1⟩ hl hE
theorem z_getIN {idx ci i k : Nat} {fin : Bool}  (hF : FN (qOwn Y) idx ci i fin) (hk : kd k = some (.inl ci)) (ht : isI (fty ci i) = true) (hd : decode (qC Y) pc = .ok (.getfield idx, 3)) (kk : WO tv Y d (pc + 3) lv (.int (hI h k i) :: st) h o) : WO tv Y d pc lv (.ref k :: st) h o := by
  intro x0 h0 ho p l e R s m args below meth c D ad ca A cells slots Q H locs ls C hl hE
  obtain ⟨⟨hx, hb, hml, hr, hown, hts, hlk⟩, hRm, hNS, hA, hK, hP, hD, hS⟩ := id C
  obtain ⟨Cn, T, N, host, ⟨c1, c2, c3, c4, c5⟩, hi, hfin, hlk1⟩ := hF
  have he := wl_get (ad := ad) (ca := ca) (rho := rho0) (h := h) (kd_lt hk)
  rw [wE_obj hk] at he
  refine va_getN (q0 := k) hx hb hts c3 hown hK hP he c1 i hi ((hNS.1 _ hlk1).use rfl) (fun _ h9 => h9) (fv_at c2 hi) hd ?_
  rw [show fvl ad rho0 h ci k i = .int (hI h k i) from by unfold fvl; rw [if_pos ht]]
  exact kk x0 h0 ho C hl hE
theorem z_getRN {idx ci i k : Nat} {fin : Bool} {j : Nat} (hF : FN (qOwn Y) idx ci i fin) (hk : kd k = some (.inl ci)) (ht : isI (fty ci i) = false) (hmu : isMut ci i = false) (hj : rho0 k i = j) (hj0 : j ≠ 0) (hd : decode (qC Y) pc = .ok (.getfield idx, 3)) (kk : WO tv Y d (pc + 3) lv (.ref j :: st) h o) : WO tv Y d pc lv (.ref k :: st) h o := by
  intro x0 h0 ho p l e R s m args below meth c D ad ca A cells slots Q H locs ls C hl hE
  obtain ⟨⟨hx, hb, hml, hr, hown, hts, hlk⟩, hRm, hNS, hA, hK, hP, hD, hS⟩ := id C
  obtain ⟨Cn, T, N, host, ⟨c1, c2, c3, c4, c5⟩, hi, hfin, hlk1⟩ := hF
  have he := wl_get (ad := ad) (ca := ca) (rho := rho0) (h := h) (kd_lt hk)
  rw [wE_obj hk] at he
  refine va_getN (q0 := k) hx hb hts c3 hown hK hP he c1 i hi ((hNS.1 _ hlk1).use rfl) (fun _ h9 => h9) (fv_at c2 hi) hd ?_
  rw [show fvl ad rho0 h ci k i = .ref (ad j) from by unfold fvl; rw [ht, hmu, hj]; simp [ev, hj0]]
  exact kk x0 h0 ho C hl hE
theorem z_getMN {idx ci i k : Nat} {fin : Bool}  (hF : FN (qOwn Y) idx ci i fin) (hk : kd k = some (.inl ci)) (ht : isI (fty ci i) = false) (hmu : isMut ci i = true) (hj0 : ¬ hM h k i = 0) (hd : decode (qC Y) pc = .ok (.getfield idx, 3)) (kk : WO tv Y d (pc + 3) lv (.ref (hM h k i) :: st) h o) : WO tv Y d pc lv (.ref k :: st) h o := by
  intro x0 h0 ho p l e R s m args below meth c D ad ca A cells slots Q H locs ls C hl hE
  obtain ⟨⟨hx, hb, hml, hr, hown, hts, hlk⟩, hRm, hNS, hA, hK, hP, hD, hS⟩ := id C
  obtain ⟨Cn, T, N, host, ⟨c1, c2, c3, c4, c5⟩, hi, hfin, hlk1⟩ := hF
  have he := wl_get (ad := ad) (ca := ca) (rho := rho0) (h := h) (kd_lt hk)
  rw [wE_obj hk] at he
  refine va_getN (q0 := k) hx hb hts c3 hown hK hP he c1 i hi ((hNS.1 _ hlk1).use rfl) (fun _ h9 => h9) (fv_at c2 hi) hd ?_
  rw [show fvl ad rho0 h ci k i = .ref (ad (hM h k i)) from by unfold fvl; rw [ht, hmu]; simp [ev, hj0]]
  exact kk x0 h0 ho C hl hE
theorem z_putIN {idx ci i k : Nat} {v : Int32} (hF : FN (qOwn Y) idx ci i false) (hk : kd k = some (.inl ci)) (ht : fty ci i = .int) (hd : decode (qC Y) pc = .ok (.putfield idx, 3)) (kk : WO tv Y d (pc + 3) lv st (sI h k i v) o) : WO tv Y d pc lv (.int v :: .ref k :: st) h o := by
  intro x0 h0 ho p l e R s m args below meth c D ad ca A cells slots Q H locs ls C hl hE
  obtain ⟨⟨hx, hb, hml, hr, hown, hts, hlk⟩, hRm, hNS, hA, hK, hP, hD, hS⟩ := id C
  obtain ⟨Cn, T, N, host, ⟨c1, c2, c3, c4, c5⟩, hi, hfin, hlk1⟩ := hF
  have he := wl_get (ad := ad) (ca := ca) (rho := rho0) (h := h) (kd_lt hk)
  rw [wE_obj hk] at he
  refine va_putN (q0 := k) hx hb hts c3 (fty ci) c4 c5 hown hK hP hD hS he c1 i hi ((hNS.1 _ hlk1).use rfl) (fun _ h9 => h9) hfin (ty := fty ci i) (c4 i hi) (by rw [ht]; exact narrowI v) (by rw [ht]; exact fitsI v) (by rw [List.length_map, List.length_range, c2]; exact hi) hd (fun H1 locs1 hP1 hD1 hS1 => ?_)
  have e9 := wl_sI_obj (ad := ad) (ca := ca) (rho := rho0) (h := h) (v := v) (kd_lt hk) hk (by rw [c2]; exact hi) (by rw [ht]; rfl)
  rw [show cv ad (.int v) = .int v from rfl, e9] at hP1 hD1
  exact kk x0 h0 ho ⟨C.1, C.2.1, C.2.2.1, C.2.2.2.1, hK, hP1, hD1, hS1⟩ hl hE
theorem z_putZN {idx ci i k : Nat} {v : Int32} (hF : FN (qOwn Y) idx ci i false) (hk : kd k = some (.inl ci)) (ht : fty ci i = .boolean) (hz : v = 0 ∨ v = 1) (hd : decode (qC Y) pc = .ok (.putfield idx, 3)) (kk : WO tv Y d (pc + 3) lv st (sI h k i v) o) : WO tv Y d pc lv (.int v :: .ref k :: st) h o := by
  intro x0 h0 ho p l e R s m args below meth c D ad ca A cells slots Q H locs ls C hl hE
  obtain ⟨⟨hx, hb, hml, hr, hown, hts, hlk⟩, hRm, hNS, hA, hK, hP, hD, hS⟩ := id C
  obtain ⟨Cn, T, N, host, ⟨c1, c2, c3, c4, c5⟩, hi, hfin, hlk1⟩ := hF
  have he := wl_get (ad := ad) (ca := ca) (rho := rho0) (h := h) (kd_lt hk)
  rw [wE_obj hk] at he
  refine va_putN (q0 := k) hx hb hts c3 (fty ci) c4 c5 hown hK hP hD hS he c1 i hi ((hNS.1 _ hlk1).use rfl) (fun _ h9 => h9) hfin (ty := fty ci i) (c4 i hi) (by rw [ht]; exact narrowZ hz) (by rw [ht]; exact fitsZ hz) (by rw [List.length_map, List.length_range, c2]; exact hi) hd (fun H1 locs1 hP1 hD1 hS1 => ?_)
  have e9 := wl_sI_obj (ad := ad) (ca := ca) (rho := rho0) (h := h) (v := v) (kd_lt hk) hk (by rw [c2]; exact hi) (by rw [ht]; rfl)
  rw [show cv ad (.int v) = .int v from rfl, e9] at hP1 hD1
  exact kk x0 h0 ho ⟨C.1, C.2.1, C.2.2.1, C.2.2.2.1, hK, hP1, hD1, hS1⟩ hl hE
theorem z_putMN {idx ci i k : Nat} {v : Nat} {cn : String} (hF : FN (qOwn Y) idx ci i false) (hk : kd k = some (.inl ci)) (ht : fty ci i = .object cn) (hmu : isMut ci i = true) (hv0 : ¬ v = 0) (hd : decode (qC Y) pc = .ok (.putfield idx, 3)) (kk : WO tv Y d (pc + 3) lv st (sM h k i v) o) : WO tv Y d pc lv (.ref v :: .ref k :: st) h o := by
  intro x0 h0 ho p l e R s m args below meth c D ad ca A cells slots Q H locs ls C hl hE
  obtain ⟨⟨hx, hb, hml, hr, hown, hts, hlk⟩, hRm, hNS, hA, hK, hP, hD, hS⟩ := id C
  obtain ⟨Cn, T, N, host, ⟨c1, c2, c3, c4, c5⟩, hi, hfin, hlk1⟩ := hF
  have he := wl_get (ad := ad) (ca := ca) (rho := rho0) (h := h) (kd_lt hk)
  rw [wE_obj hk] at he
  refine va_putN (q0 := k) hx hb hts c3 (fty ci) c4 c5 hown hK hP hD hS he c1 i hi ((hNS.1 _ hlk1).use rfl) (fun _ h9 => h9) hfin (ty := fty ci i) (c4 i hi) (by rw [ht]; rfl) (by rw [ht]; rfl) (by rw [List.length_map, List.length_range, c2]; exact hi) hd (fun H1 locs1 hP1 hD1 hS1 => ?_)
  have e9 := wl_sM (ad := ad) (ca := ca) (rho := rho0) (h := h) (v := v) (kd_lt hk) hk (by rw [c2]; exact hi) (by rw [ht]; rfl) hmu
  rw [show cv ad (.ref v) = ev ad v from by simp [cv, ev, hv0], e9] at hP1 hD1
  exact kk x0 h0 ho ⟨C.1, C.2.1, C.2.2.1, C.2.2.2.1, hK, hP1, hD1, hS1⟩ hl hE
/-! ARRAYS -/
theorem z_iald {k n : Nat} {i : Int32} (hk : kd k = some (.inr (.int, n))) (hd : decode (qC Y) pc = .ok (.iaload, 1)) (hin : inb i n) (kk : WO tv Y d (pc + 1) lv (.int (hI h k i.toNatClampNeg) :: st) h o) : WO tv Y d pc lv (.int i :: .ref k :: st) h o := by
  intro x0 h0 ho p l e R s m args below meth c D ad ca A cells slots Q H locs ls C hl hE
  obtain ⟨⟨hx, hb, hml, hr, hown, hts, hlk⟩, hRm, hNS, hA, hK, hP, hD, hS⟩ := id C
  have he := wl_get (ad := ad) (ca := ca) (rho := rho0) (h := h) (kd_lt hk)
  rw [wE_arr hk (by decide)] at he
  obtain ⟨t0, ht0⟩ := tl_at (ca := ca) (kd_lt hk) hk
  exact va_iald hx hb hK hP k t0 he ht0 hin hd (kk x0 h0 ho C hl hE)
theorem z_bald {k n : Nat} {i : Int32} (hk : kd k = some (.inr (.byte, n))) (hd : decode (qC Y) pc = .ok (.baload, 1)) (hin : inb i n) (kk : WO tv Y d (pc + 1) lv (.int (hI h k i.toNatClampNeg) :: st) h o) : WO tv Y d pc lv (.int i :: .ref k :: st) h o := by
  intro x0 h0 ho p l e R s m args below meth c D ad ca A cells slots Q H locs ls C hl hE
  obtain ⟨⟨hx, hb, hml, hr, hown, hts, hlk⟩, hRm, hNS, hA, hK, hP, hD, hS⟩ := id C
  have he := wl_get (ad := ad) (ca := ca) (rho := rho0) (h := h) (kd_lt hk)
  rw [wE_arr hk (by decide)] at he
  obtain ⟨t0, ht0⟩ := tl_at (ca := ca) (kd_lt hk) hk
  exact va_bald hx hb hK hP k t0 he ht0 hin hd (kk x0 h0 ho C hl hE)
theorem z_zald {k n : Nat} {i : Int32} (hk : kd k = some (.inr (.boolean, n))) (hd : decode (qC Y) pc = .ok (.baload, 1)) (hin : inb i n) (kk : WO tv Y d (pc + 1) lv (.int (hI h k i.toNatClampNeg) :: st) h o) : WO tv Y d pc lv (.int i :: .ref k :: st) h o := by
  intro x0 h0 ho p l e R s m args below meth c D ad ca A cells slots Q H locs ls C hl hE
  obtain ⟨⟨hx, hb, hml, hr, hown, hts, hlk⟩, hRm, hNS, hA, hK, hP, hD, hS⟩ := id C
  have he := wl_get (ad := ad) (ca := ca) (rho := rho0) (h := h) (kd_lt hk)
  rw [wE_arr hk (by decide)] at he
  obtain ⟨t0, ht0⟩ := tl_at (ca := ca) (kd_lt hk) hk
  exact va_zald hx hb hK hP k t0 he ht0 hin hd (kk x0 h0 ho C hl hE)
theorem z_iast {k n : Nat} {i x : Int32} (hk : kd k = some (.inr (.int, n))) (hd : decode (qC Y) pc = .ok (.iastore, 1)) (hin : inb i n) (kk : WO tv Y d (pc + 1) lv st (sI h k i.toNatClampNeg x) o) : WO tv Y d pc lv (.int x :: .int i :: .ref k :: st) h o := by
  intro x0 h0 ho p l e R s m args below meth c D ad ca A cells slots Q H locs ls C hl hE
  obtain ⟨⟨hx, hb, hml, hr, hown, hts, hlk⟩, hRm, hNS, hA, hK, hP, hD, hS⟩ := id C
  have he := wl_get (ad := ad) (ca := ca) (rho := rho0) (h := h) (kd_lt hk)
  rw [wE_arr hk (by decide)] at he
  obtain ⟨t0, ht0⟩ := tl_at (ca := ca) (kd_lt hk) hk
  refine va_iast hx hb hK hP hD hS k t0 he ht0 hin hd (fun H1 locs1 hP1 hD1 hS1 => ?_)
  rw [wl_sI_arr (kd_lt hk) hk (by decide)] at hP1 hD1
  exact kk x0 h0 ho ⟨C.1, C.2.1, C.2.2.1, C.2.2.2.1, hK, hP1, hD1, hS1⟩ hl hE
theorem z_bast {k n : Nat} {i x : Int32} (hk : kd k = some (.inr (.byte, n))) (hd : decode (qC Y) pc = .ok (.bastore, 1)) (hin : inb i n) (kk : WO tv Y d (pc + 1) lv st (sI h k i.toNatClampNeg (vp_nar .byte x)) o) : WO tv Y d pc lv (.int x :: .int i :: .ref k :: st) h o := by
  intro x0 h0 ho p l e R s m args below meth c D ad ca A cells slots Q H locs ls C hl hE
  obtain ⟨⟨hx, hb, hml, hr, hown, hts, hlk⟩, hRm, hNS, hA, hK, hP, hD, hS⟩ := id C
  have he := wl_get (ad := ad) (ca := ca) (rho := rho0) (h := h) (kd_lt hk)
  rw [wE_arr hk (by decide)] at he
  obtain ⟨t0, ht0⟩ := tl_at (ca := ca) (kd_lt hk) hk
  refine va_bast hx hb hK hP hD hS k t0 he ht0 hin hd (fun H1 locs1 hP1 hD1 hS1 => ?_)
  rw [wl_sI_arr (kd_lt hk) hk (by decide)] at hP1 hD1
  exact kk x0 h0 ho ⟨C.1, C.2.1, C.2.2.1, C.2.2.2.1, hK, hP1, hD1, hS1⟩ hl hE
theorem z_zast {k n : Nat} {i x : Int32} (hk : kd k = some (.inr (.boolean, n))) (hd : decode (qC Y) pc = .ok (.bastore, 1)) (hin : inb i n) (kk : WO tv Y d (pc + 1) lv st (sI h k i.toNatClampNeg (vp_nar .boolean x)) o) : WO tv Y d pc lv (.int x :: .int i :: .ref k :: st) h o := by
  intro x0 h0 ho p l e R s m args below meth c D ad ca A cells slots Q H locs ls C hl hE
  obtain ⟨⟨hx, hb, hml, hr, hown, hts, hlk⟩, hRm, hNS, hA, hK, hP, hD, hS⟩ := id C
  have he := wl_get (ad := ad) (ca := ca) (rho := rho0) (h := h) (kd_lt hk)
  rw [wE_arr hk (by decide)] at he
  obtain ⟨t0, ht0⟩ := tl_at (ca := ca) (kd_lt hk) hk
  refine va_zast hx hb hK hP hD hS k t0 he ht0 hin hd (fun H1 locs1 hP1 hD1 hS1 => ?_)
  rw [wl_sI_arr (kd_lt hk) hk (by decide)] at hP1 hD1
  exact kk x0 h0 ho ⟨C.1, C.2.1, C.2.2.1, C.2.2.2.1, hK, hP1, hD1, hS1⟩ hl hE
theorem z_lald {k n : Nat} {i : Int32} (hk : kd k = some (.inr (.long, n))) (hd : decode (qC Y) pc = .ok (.laload, 1)) (hin : inb i n) (kk : WO tv Y d (pc + 1) lv (.long (hL h k i.toNatClampNeg) :: st) h o) : WO tv Y d pc lv (.int i :: .ref k :: st) h o := by
  intro x0 h0 ho p l e R s m args below meth c D ad ca A cells slots Q H locs ls C hl hE
  obtain ⟨⟨hx, hb, hml, hr, hown, hts, hlk⟩, hRm, hNS, hA, hK, hP, hD, hS⟩ := id C
  have he := wl_get (ad := ad) (ca := ca) (rho := rho0) (h := h) (kd_lt hk)
  rw [wE_arrL hk] at he
  obtain ⟨t0, ht0⟩ := tl_at (ca := ca) (kd_lt hk) hk
  exact va_lald hx hb hK hP k t0 he ht0 hin hd (kk x0 h0 ho C hl hE)
theorem z_last {k n : Nat} {i : Int32} {x : Int64} (hk : kd k = some (.inr (.long, n))) (hd : decode (qC Y) pc = .ok (.lastore, 1)) (hin : inb i n) (kk : WO tv Y d (pc + 1) lv st (sL h k i.toNatClampNeg x) o) : WO tv Y d pc lv (.long x :: .int i :: .ref k :: st) h o := by
  intro x0 h0 ho p l e R s m args below meth c D ad ca A cells slots Q H locs ls C hl hE
  obtain ⟨⟨hx, hb, hml, hr, hown, hts, hlk⟩, hRm, hNS, hA, hK, hP, hD, hS⟩ := id C
  have he := wl_get (ad := ad) (ca := ca) (rho := rho0) (h := h) (kd_lt hk)
  rw [wE_arrL hk] at he
  obtain ⟨t0, ht0⟩ := tl_at (ca := ca) (kd_lt hk) hk
  refine va_last hx hb hK hP hD hS k t0 he ht0 hin hd (fun H1 locs1 hP1 hD1 hS1 => ?_)
  rw [wl_sL (kd_lt hk) hk] at hP1 hD1
  exact kk x0 h0 ho ⟨C.1, C.2.1, C.2.2.1, C.2.2.2.1, hK, hP1, hD1, hS1⟩ hl hE
theorem z_alen {k n : Nat} {ty : FieldType} {v : Int32} (hk : kd k = some (.inr (ty, n))) (hty : ty ≠ .long) (hv : Int32.ofNat n = v) (hd : decode (qC Y) pc = .ok (.arraylength, 1)) (kk : WO tv Y d (pc + 1) lv (.int v :: st) h o) : WO tv Y d pc lv (.ref k :: st) h o := by
  intro x0 h0 ho p l e R s m args below meth c D ad ca A cells slots Q H locs ls C hl hE
  obtain ⟨⟨hx, hb, hml, hr, hown, hts, hlk⟩, hRm, hNS, hA, hK, hP, hD, hS⟩ := id C
  have he := wl_get (ad := ad) (ca := ca) (rho := rho0) (h := h) (kd_lt hk)
  rw [wE_arr hk hty] at he
  obtain ⟨t0, ht0⟩ := tl_at (ca := ca) (kd_lt hk) hk
  exact va_alen hx hb hK hP k t0 he ht0 hv hd (kk x0 h0 ho C hl hE)
theorem z_sld {L : Nat} {xs : Nat → Int32} {i : Int32} (hX : qX Y = some (L, xs)) (hin : inb i L) (hd : decode (qC Y) pc = .ok (.iaload, 1)) (kk : WO tv Y d (pc + 1) lv (.int (xs i.toNatClampNeg) :: st) h o) : WO tv Y d pc lv (.int i :: .ref 9002 :: st) h o := by
  intro x0 h0 ho p l e R s m args below meth c D ad ca A cells slots Q H locs ls C hl hE
  obtain ⟨⟨hx, hb, hml, hr, hown, hts, hlk⟩, hRm, hNS, hA, hK, hP, hD, hS⟩ := id C
  obtain ⟨hX1, hX2, hX3⟩ := hNS.2.2 L xs hX
  exact va_sld hx hb hX1 hX2 hX3 hS hin hd (kk x0 h0 ho C hl hE)
theorem z_slen {L : Nat} {xs : Nat → Int32} (hX : qX Y = some (L, xs)) (hd : decode (qC Y) pc = .ok (.arraylength, 1)) (kk : WO tv Y d (pc + 1) lv (.int (Int32.ofNat L) :: st) h o) : WO tv Y d pc lv (.ref 9002 :: st) h o := by
  intro x0 h0 ho p l e R s m args below meth c D ad ca A cells slots Q H locs ls C hl hE
  obtain ⟨⟨hx, hb, hml, hr, hown, hts, hlk⟩, hRm, hNS, hA, hK, hP, hD, hS⟩ := id C
  obtain ⟨hX1, hX2, hX3⟩ := hNS.2.2 L xs hX
  exact va_slen hx hb hX1 hX2 hX3 hS hd (kk x0 h0 ho C hl hE)
theorem z_mmax {idx : Nat} {x y : Int32} (hd : decode (qC Y) pc = .ok (.invokestatic idx, 3)) (hl1 : Cond.methodLink (qOwn Y) idx Lib.Math.max.name ∈ gtbl) (hw : Cond.static Lib.Math.max.name ∈ gtbl ∧ Cond.initialized "java/lang/Math" ∈ gtbl ∧ Cond.code Lib.Math.max.name Lib.Math.max.code 2 (some .int) ∈ gtbl) (hd1 : 1 ≤ d) (hc8 : (st.map fun v => v.category).sum ≤ 8) (kk : WO tv Y d (pc + 3) lv (.int (if x < y then y else x) :: st) h o) : WO tv Y d pc lv (.int y :: .int x :: st) h o := by
  intro x0 h0 ho p l e R s m args below meth c D ad ca A cells slots Q H locs ls C hl hE
  obtain ⟨⟨hx, hb, hml, hr, hown, hts, hlk⟩, hRm, hNS, hA, hK, hP, hD, hS⟩ := id C
  obtain ⟨w1, w2, w3⟩ := hw
  refine va_mmax hx hb (hml.trans hl.1.symm) hown (hts _ hl1) (hts _ w1) (hts _ w2) (hts _ w3) (Nat.le_trans hd1 hRm.1) (by rw [cv_sum]; omega) hRm.2.2.1 hRm.2.2.2 hd ?_
  exact kk x0 h0 ho C hl hE
theorem z_mmin {idx : Nat} {x y : Int32} (hd : decode (qC Y) pc = .ok (.invokestatic idx, 3)) (hl1 : Cond.methodLink (qOwn Y) idx Lib.Math.min.name ∈ gtbl) (hw : Cond.static Lib.Math.min.name ∈ gtbl ∧ Cond.initialized "java/lang/Math" ∈ gtbl ∧ Cond.code Lib.Math.min.name Lib.Math.min.code 2 (some .int) ∈ gtbl) (hd1 : 1 ≤ d) (hc8 : (st.map fun v => v.category).sum ≤ 8) (kk : WO tv Y d (pc + 3) lv (.int (if y < x then y else x) :: st) h o) : WO tv Y d pc lv (.int y :: .int x :: st) h o := by
  intro x0 h0 ho p l e R s m args below meth c D ad ca A cells slots Q H locs ls C hl hE
  obtain ⟨⟨hx, hb, hml, hr, hown, hts, hlk⟩, hRm, hNS, hA, hK, hP, hD, hS⟩ := id C
  obtain ⟨w1, w2, w3⟩ := hw
  refine va_mmin hx hb (hml.trans hl.1.symm) hown (hts _ hl1) (hts _ w1) (hts _ w2) (hts _ w3) (Nat.le_trans hd1 hRm.1) (by rw [cv_sum]; omega) hRm.2.2.1 hRm.2.2.2 hd ?_
  exact kk x0 h0 ho C hl hE
theorem z_copy {idx k0 k1 n0 n1 : Nat} {sp dp n : Int32} (hk0 : kd k0 = some (.inr (.int, n0))) (hk1 : kd k1 = some (.inr (.int, n1))) (hd : decode (qC Y) pc = .ok (.invokestatic idx, 3)) (hl1 : Cond.methodLink (qOwn Y) idx arraycopyName ∈ gtbl) (hw : Cond.native arraycopyName ∈ gtbl ∧ Cond.static arraycopyName ∈ gtbl ∧ Cond.initialized "java/lang/System" ∈ gtbl) (hd1 : 1 ≤ d) (hc8 : (st.map fun v => v.category).sum ≤ 8)
    (hc : ¬ sp < 0 ∧ ¬ dp < 0 ∧ ¬ n < 0 ∧ sp.toNatClampNeg + n.toNatClampNeg ≤ n0 ∧ dp.toNatClampNeg + n.toNatClampNeg ≤ n1) (kk : WO tv Y d (pc + 3) lv st (sR h k1 (va_cpy (hI h k0) (hI h k1) sp.toNatClampNeg dp.toNatClampNeg n.toNatClampNeg)) o) : WO tv Y d pc lv (.int n :: .int dp :: .ref k1 :: .int sp :: .ref k0 :: st) h o := by
  intro x0 h0 ho p l e R s m args below meth c D ad ca A cells slots Q H locs ls C hl hE
  obtain ⟨⟨hx, hb, hml, hr, hown, hts, hlk⟩, hRm, hNS, hA, hK, hP, hD, hS⟩ := id C
  obtain ⟨w1, w2, w3⟩ := hw
  obtain ⟨h1, h2, h3, h4, h5⟩ := hc
  have he0 := wl_get (ad := ad) (ca := ca) (rho := rho0) (h := h) (kd_lt hk0)
  rw [wE_arr hk0 (by decide)] at he0
  obtain ⟨t0, ht0⟩ := tl_at (ca := ca) (kd_lt hk0) hk0
  have he1 := wl_get (ad := ad) (ca := ca) (rho := rho0) (h := h) (kd_lt hk1)
  rw [wE_arr hk1 (by decide)] at he1
  obtain ⟨t1, ht1⟩ := tl_at (ca := ca) (kd_lt hk1) hk1
  refine va_copyi hx hb (hml.trans hl.1.symm) hown (hts _ hl1) (hts _ w1) (hts _ w2) (hts _ w3) hK hP hD hS k0 k1 t0 t1 he0 he1 ht0 ht1 rfl h1 h2 h3 h4 h5 (fun _ _ => rfl) (Nat.le_trans hd1 hRm.1) ?_ hd (fun H1 locs1 hP1 hD1 hS1 => ?_)
  · rw [cv_sum]
    have : nativeFrameWords "java/lang/System" "arraycopy" 5 + 11 ≤ 60 := by decide
    omega
  · rw [wl_sR (kd_lt hk1) hk1 (by decide)] at hP1 hD1
    exact kk x0 h0 ho ⟨C.1, C.2.1, C.2.2.1, C.2.2.2.1, hK, hP1, hD1, hS1⟩ hl hE
/-! CALLS -/
abbrev rmz (d : Nat) : Room := { frames := d, cells := 0, slots := 0, locals := 100 * d }
def Pz (D : va_G) (ad : Nat → Nat) (ca : Nat → ClassId) (A : Nat → Prop) (sz : Nat) (h : AHp) (U : State) : Prop := U.heap.size = sz ∧ va_P D vwCl (wz ad ca h) U.heap ∧ va_K D vwCl (tl ca 118) U ∧ va_D A (wz ad ca h) ∧ NX U ∧ SX ad A U U.heap
def Bz (D : va_G) (ad : Nat → Nat) (ca : Nat → ClassId) (A : Nat → Prop) (h : AHp) (t : State) : Prop := va_P D vwCl (wz ad ca h) t.heap ∧ va_K D vwCl (tl ca 118) t ∧ va_D A (wz ad ca h)
def MI (Y : QM) (d : Nat) (av : List Value) (h : AHp) (o : Option (Int32 × AHp)) : Prop := ∀ (x : Int32) (h' : AHp), o = some (x, h') → ∀ (l : Launch) (D : va_G) (ad : Nat → Nat) (ca : Nat → ClassId) (A : Nat → Prop) (sz : Nat), (∀ q, sz ≤ q → A q) →
  Met l (qY Y) (cwd Y :: gtbl) (rmz d) (va_Pc (av.map (cv ad)) (Pz D ad ca A sz h)) (va_Qi (fun (y : Int32) (_ : Unit) => y = x) (fun _ t => Bz D ad ca A h' t) A) 0 0 A
def ML (Y : QM) (d : Nat) (av : List Value) (h : AHp) (o : Option (Int64 × AHp)) : Prop := ∀ (x : Int64) (h' : AHp), o = some (x, h') → ∀ (l : Launch) (D : va_G) (ad : Nat → Nat) (ca : Nat → ClassId) (A : Nat → Prop) (sz : Nat), (∀ q, sz ≤ q → A q) →
  Met l (qY Y) (cwd Y :: gtbl) (rmz d) (va_Pc (av.map (cv ad)) (Pz D ad ca A sz h)) (va_Ql (fun (y : Int64) (_ : Unit) => y = x) (fun _ t => Bz D ad ca A h' t) A) 0 0 A
def MV (Y : QM) (d : Nat) (av : List Value) (h : AHp) (o : Option (Unit × AHp)) : Prop := ∀ (x : Unit) (h' : AHp), o = some (x, h') → ∀ (l : Launch) (D : va_G) (ad : Nat → Nat) (ca : Nat → ClassId) (A : Nat → Prop) (sz : Nat), (∀ q, sz ≤ q → A q) →
  Met l (qY Y) (cwd Y :: gtbl) (rmz d) (va_Pc (av.map (cv ad)) (Pz D ad ca A sz h)) (va_Qv (fun (_ : Unit) => True) (fun _ t => Bz D ad ca A h' t) A) 0 0 A
theorem Pz_blind (av : List Value) (D : va_G) (ad : Nat → Nat) (ca : Nat → ClassId) (A : Nat → Prop) (sz : Nat) (h : AHp) : FrameBlind (va_Pc av (Pz D ad ca A sz h)) := by
  intro a U g mk q
  obtain ⟨q0, q1, q2, q3, q4, q5, q6⟩ := q
  exact ⟨q0, q1, q2, va_K.moved (u := U) (U := U.calling g mk a) (Vm.Alike.refl U.vm) q3, q4, NX.same (u := U) (U := U.calling g mk a) rfl q5, SX.same (u := U) (U := U.calling g mk a) rfl q6⟩
/-- a callee: its words; n: how many arguments (without the receiver) -/
def mb (Y : QM) (n : Nat) : Prop := cwd Y ∈ gtbl ∧ Cond.initialized (qY Y).cls ∈ gtbl ∧ (qY Y).cls ≠ "java/lang/invoke/MethodHandle" ∧ (qY Y).cls ≠ "java/lang/invoke/VarHandle" ∧ (parseMethodDescriptor (qY Y).desc).map (fun d => d.parameters.length) = some n ∧ qN Y ≤ 80
def mbV (Y : QM) (n ci : Nat) : Prop := mb Y n ∧ Cond.instanceMethod (qY Y) ∈ gtbl ∧ Cond.selects (qY Y).cls (qY Y) (qY Y) ∈ gtbl ∧ ∃ (T : u_T) (N : Nat), vwCl[ci]? = some ((qY Y).cls, T, N)
def mbS (Y : QM) (n : Nat) : Prop := mb Y n ∧ Cond.static (qY Y) ∈ gtbl
theorem mb_good {Y : QM} {n : Nat} (hB : mb Y n) : GoodIn gtbl (cwd Y :: gtbl) := fun w hw => by
  rcases List.mem_cons.mp hw with rfl | hw
  · exact gt_good hB.1
  · exact gt_good hw
theorem Cz.pre {Y : QM} {d : Nat} {h : AHp} {p : Program} {R : Room} {s : State} {m : MethodId} {args : Array Value} {meth : Method} {c : Code} {D : va_G} {ad : Nat → Nat} {ca : Nat → ClassId} {A : Nat → Prop} {cells slots : Nat} {H : Heap} {locs : List Loc} (C : Cz Y d h p R s m args meth c D ad ca A cells slots H locs) {U : State} (hU : U.heap = H) (hW : s.WarmedH U.vm) : Pz D ad ca A H.size h U := by
  obtain ⟨-, -, hNS, hA, hK, hP, hD, hS⟩ := C
  exact ⟨by rw [hU], by rw [hU]; exact hP, va_K.moved hW.alike hK, hD, hNS.1.warm hW, by rw [hU]; exact (hNS.2.1.warm hW).kept hS.2.1⟩
theorem Cz.post {Y : QM} {d : Nat} {h h1 : AHp} {p : Program} {R : Room} {s : State} {m : MethodId} {args : Array Value} {meth : Method} {c : Code} {D : va_G} {ad : Nat → Nat} {ca : Nat → ClassId} {A : Nat → Prop} {cells slots : Nat} {H H1 : Heap} {locs locs1 : List Loc} (C : Cz Y d h p R s m args meth c D ad ca A cells slots H locs) {t : State} (ht : t.heap = H1) (hB : Bz D ad ca A h1 t) (hS : va_S A s.heap H1 locs1) : Cz Y d h1 p R s m args meth c D ad ca A cells slots H1 locs1 := by
  obtain ⟨h1, h2, h3⟩ := hB
  rw [ht] at h1
  exact ⟨C.1, C.2.1, C.2.2.1, C.2.2.2.1, C.2.2.2.2.1, h1, h3, hS⟩
section ZRUN
variable {p : Program} {l : Launch} {e : Env} {R : Room} {s : State} {m : MethodId} {args : Array Value} {below : List Frame} {meth : Method} {c : Code} {D : va_G} {ad : Nat → Nat} {ca : Nat → ClassId} {A : Nat → Prop} {cells slots : Nat} {H : Heap} {locs : List Loc} {ls : Array Slot} {Y Y' : QM} {d d' n ci k idx pc : Nat} {h : AHp} {av rest : List Value} {lv : List (Nat × Value)} {Qc : Array Value → State → Outcome → State → Prop}
theorem zr_V (C : Cz Y d h p R s m args meth c D ad ca A cells slots H locs) (hl : lv_has ls (qN Y) (cvL ad lv)) (hM : Met l (qY Y') (cwd Y' :: gtbl) (rmz d') (va_Pc ((.ref k :: av).map (cv ad)) (Pz D ad ca A H.size h)) Qc 0 0 A) (hB : mbV Y' n ci) (hlk : Cond.methodLink (qOwn Y) idx (qY Y') ∈ gtbl) (hk : kd k = some (.inl ci)) (hn : av.length = n) (hc8 : (rest.map fun v => v.category).sum ≤ 8) (hdd : d' + 1 ≤ d) (hdg : decode (qC Y) pc = .ok (.invokevirtual idx, 3)) :
    va_Run p l e R s m args below meth c H locs cells slots 0 0 (F0 m pc ls ((av.reverse ++ .ref k :: rest).map (cv ad))) (rest.map (cv ad)) (Qc (Value.ref (ad k) :: av.map (cv ad)).toArray) A := by
  obtain ⟨⟨hx, hb, hml, hr, hown, hts, hlk1⟩, hRm, hNS, hA, hK, hP, hD, hS⟩ := id C
  obtain ⟨hb0, hin, hse, T, N, hci⟩ := hB
  have hg : GoodIn gtbl (wsV (qOwn Y) idx (qY Y').cls (qY Y') (cwd Y' :: gtbl)) := by
    intro w hw
    rcases List.mem_append.mp hw with hw | hw
    · simp only [List.mem_cons, List.not_mem_nil, or_false] at hw
      rcases hw with rfl | rfl | rfl | rfl
      · exact gt_good hlk
      · exact gt_good hin
      · exact gt_good hse
      · exact gt_good hb0.2.1
    · exact mb_good hb0 w hw
  have he := wl_get (ad := ad) (ca := ca) (rho := rho0) (h := h) (kd_lt hk)
  rw [wE_obj hk] at he
  refine va_runV (nL := qN Y) (C := (qY Y').cls) (b := ad k) (As := av.map (cv ad)) (rest := rest.map (cv ad)) ⟨hx, hb, hml, hown, hts⟩ hM (cwV n hts hg rfl rfl rfl ⟨rfl, hb0.2.2.1, hb0.2.2.2.1, hb0.2.2.2.2.1⟩ ⟨?_, ?_⟩) ⟨Pz_blind _ D ad ca A H.size h, va_recv hK hP hci he, fun U hU hW => ⟨rfl, C.pre hU hW⟩⟩ rfl (by rw [List.length_map]; exact hn) hl.1 ?_ (lv_room (by rw [cv_sum]; exact hc8)) hdg ⟨hRm.2.2.1, hRm.2.2.2⟩
  · show d' + 1 ≤ R.frames; omega
  · show 8 + (qN Y' + 11) + 100 * d' ≤ R.locals; have := hb0.2.2.2.2.2; omega
  · show (av.reverse ++ .ref k :: rest).map (cv ad) = _
    rw [List.map_append, List.map_reverse]; rfl
theorem zr_S (C : Cz Y d h p R s m args meth c D ad ca A cells slots H locs) (hl : lv_has ls (qN Y) (cvL ad lv)) (hM : Met l (qY Y') (cwd Y' :: gtbl) (rmz d') (va_Pc (av.map (cv ad)) (Pz D ad ca A H.size h)) Qc 0 0 A) (hB : mbS Y' n) (hlk : Cond.methodLink (qOwn Y) idx (qY Y') ∈ gtbl) (hn : av.length = n) (hc8 : (rest.map fun v => v.category).sum ≤ 8) (hdd : d' + 1 ≤ d) (hdg : decode (qC Y) pc = .ok (.invokestatic idx, 3)) :
    va_Run p l e R s m args below meth c H locs cells slots 0 0 (F0 m pc ls ((av.reverse ++ rest).map (cv ad))) (rest.map (cv ad)) (Qc (av.map (cv ad)).toArray) A := by
  obtain ⟨⟨hx, hb, hml, hr, hown, hts, hlk1⟩, hRm, hNS, hA, hK, hP, hD, hS⟩ := id C
  obtain ⟨hb0, hst⟩ := hB
  refine va_runS (nL := qN Y) (As := av.map (cv ad)) (rest := rest.map (cv ad)) ⟨hx, hb, hml, hown, hts⟩ hM ⟨callB_of n hts (mb_good hb0) rfl rfl rfl (hts _ hb0.2.1) (hts _ hlk) ⟨hb0.2.2.1, hb0.2.2.2.1, hb0.2.2.2.2.1⟩ ⟨?_, ?_⟩, hts _ hst⟩ ⟨Pz_blind _ D ad ca A H.size h, fun U hU hW => ⟨rfl, C.pre hU hW⟩⟩ rfl (by rw [List.length_map]; exact hn) hl.1 ?_ (lv_room (by rw [cv_sum]; exact hc8)) hdg ⟨hRm.2.2.1, hRm.2.2.2⟩
  · show d' + 1 ≤ R.frames; omega
  · show 8 + (qN Y' + 11) + 100 * d' ≤ R.locals; have := hb0.2.2.2.2.2; omega
  · show (av.reverse ++ rest).map (cv ad) = _
    rw [List.map_append, List.map_reverse]
theorem zr_SN (C : Cz Y d h p R s m args meth c D ad ca A cells slots H locs) (hl : lv_has ls (qN Y) (cvL ad lv)) (hM : Met l (qY Y') (cwd Y' :: gtbl) (rmz d') (va_Pc (av.map (cv ad)) (Pz D ad ca A H.size h)) Qc 0 0 A) (hB : mbS Y' n) {host : String} (hlk : Cond.methodLinkNest (qOwn Y) idx (qY Y') host ∈ ntbl) (hn : av.length = n) (hc8 : (rest.map fun v => v.category).sum ≤ 8) (hdd : d' + 1 ≤ d) (hdg : decode (qC Y) pc = .ok (.invokestatic idx, 3)) :
    va_Run p l e R s m args below meth c H locs cells slots 0 0 (F0 m pc ls ((av.reverse ++ rest).map (cv ad))) (rest.map (cv ad)) (Qc (av.map (cv ad)).toArray) A := by
  obtain ⟨⟨hx, hb, hml, hr, hown, hts, hlk1⟩, hRm, hNS, hA, hK, hP, hD, hS⟩ := id C
  obtain ⟨hb0, hst⟩ := hB
  refine va_runSN (nL := qN Y) (host := host) (As := av.map (cv ad)) (rest := rest.map (cv ad)) ⟨hx, hb, hml, hown, hts⟩ hM ⟨va_cnB n hts (mb_good hb0) rfl rfl rfl (hNS.1 _ hlk) (hts _ hb0.2.1) ⟨hb0.2.2.1, hb0.2.2.2.1, hb0.2.2.2.2.1⟩ ⟨?_, ?_⟩, hts _ hst, trivial⟩ ⟨Pz_blind _ D ad ca A H.size h, fun U hU hW => ⟨rfl, C.pre hU hW⟩⟩ rfl (by rw [List.length_map]; exact hn) hl.1 ?_ (lv_room (by rw [cv_sum]; exact hc8)) hdg ⟨hRm.2.2.1, hRm.2.2.2⟩
  · show d' + 1 ≤ R.frames; omega
  · show 8 + (qN Y' + 11) + 100 * d' ≤ R.locals; have := hb0.2.2.2.2.2; omega
  · show (av.reverse ++ rest).map (cv ad) = _
    rw [List.map_append, List.map_reverse]
end ZRUN
theorem z_callVI {Y' : QM} {d' n ci k idx : Nat} {av rest : List Value} {o1 : Option (Int32 × AHp)} {F : Int32 → AHp → Option (r × AHp)} (hd : decode (qC Y) pc = .ok (.invokevirtual idx, 3)) (hM : MI Y' d' (.ref k :: av) h o1) (hB : mbV Y' n ci) (hlk : Cond.methodLink (qOwn Y) idx (qY Y') ∈ gtbl) (hk : kd k = some (.inl ci)) (hn : av.length = n) (hst : st = av.reverse ++ .ref k :: rest) (hc8 : (rest.map fun v => v.category).sum ≤ 8) (hdd : d' + 1 ≤ d) (kk : ∀ (x1 : Int32) (h1 : AHp), WO tv Y d (pc + 3) lv (.int x1 :: rest) h1 (F x1 h1)) : WO tv Y d pc lv st h (bd o1 F) := by
  intro x0 h0 ho p l e R s m args below meth c D ad ca A cells slots Q H locs ls C hl hE
  cases o1 with
  | none => cases ho
  | some q =>
  obtain ⟨x1, h1⟩ := q
  subst hst
  have hM1 := hM x1 h1 rfl l D ad ca A H.size (fun q hq => C.2.2.2.1 q (Nat.le_trans C.2.2.2.2.2.2.2.1 hq))
  refine va_calli (zr_V (rest := rest) C hl hM1 hB hlk hk hn hc8 hdd hd) C.2.2.2.2.2.2.2 (fun q _ h9 => h9) (fun q h9 => h9) (fun x1 u t H1 locs1 ht hvm hw hB1 hz1 hk1 hS1 => ?_)
  cases hw
  exact kk _ _ x0 h0 ho (C.post ht hB1 hS1) hl hE
theorem z_callVL {Y' : QM} {d' n ci k idx : Nat} {av rest : List Value} {o1 : Option (Int64 × AHp)} {F : Int64 → AHp → Option (r × AHp)} (hd : decode (qC Y) pc = .ok (.invokevirtual idx, 3)) (hM : ML Y' d' (.ref k :: av) h o1) (hB : mbV Y' n ci) (hlk : Cond.methodLink (qOwn Y) idx (qY Y') ∈ gtbl) (hk : kd k = some (.inl ci)) (hn : av.length = n) (hst : st = av.reverse ++ .ref k :: rest) (hc8 : (rest.map fun v => v.category).sum ≤ 8) (hdd : d' + 1 ≤ d) (kk : ∀ (x1 : Int64) (h1 : AHp), WO tv Y d (pc + 3) lv (.long x1 :: rest) h1 (F x1 h1)) : WO tv Y d pc lv st h (bd o1 F) := by
  intro x0 h0 ho p l e R s m args below meth c D ad ca A cells slots Q H locs ls C hl hE
  cases o1 with
  | none => cases ho
  | some q =>
  obtain ⟨x1, h1⟩ := q
  subst hst
  have hM1 := hM x1 h1 rfl l D ad ca A H.size (fun q hq => C.2.2.2.1 q (Nat.le_trans C.2.2.2.2.2.2.2.1 hq))
  refine va_calll (zr_V (rest := rest) C hl hM1 hB hlk hk hn hc8 hdd hd) C.2.2.2.2.2.2.2 (fun q _ h9 => h9) (fun q h9 => h9) (fun x1 u t H1 locs1 ht hvm hw hB1 hz1 hk1 hS1 => ?_)
  cases hw
  exact kk _ _ x0 h0 ho (C.post ht hB1 hS1) hl hE
theorem z_callVV {Y' : QM} {d' n ci k idx : Nat} {av rest : List Value} {o1 : Option (Unit × AHp)} {F : Unit → AHp → Option (r × AHp)} (hd : decode (qC Y) pc = .ok (.invokevirtual idx, 3)) (hM : MV Y' d' (.ref k :: av) h o1) (hB : mbV Y' n ci) (hlk : Cond.methodLink (qOwn Y) idx (qY Y') ∈ gtbl) (hk : kd k = some (.inl ci)) (hn : av.length = n) (hst : st = av.reverse ++ .ref k :: rest) (hc8 : (rest.map fun v => v.category).sum ≤ 8) (hdd : d' + 1 ≤ d) (kk : ∀ (x1 : Unit) (h1 : AHp), WO tv Y d (pc + 3) lv (rest) h1 (F x1 h1)) : WO tv Y d pc lv st h (bd o1 F) := by
  intro x0 h0 ho p l e R s m args below meth c D ad ca A cells slots Q H locs ls C hl hE
  cases o1 with
  | none => cases ho
  | some q =>
  obtain ⟨x1, h1⟩ := q
  subst hst
  have hM1 := hM x1 h1 rfl l D ad ca A H.size (fun q hq => C.2.2.2.1 q (Nat.le_trans C.2.2.2.2.2.2.2.1 hq))
  refine va_callv (zr_V (rest := rest) C hl hM1 hB hlk hk hn hc8 hdd hd) C.2.2.2.2.2.2.2 (fun q _ h9 => h9) (fun q h9 => h9) (fun u t H1 locs1 ht hvm hw hB1 hz1 hk1 hS1 => ?_)
  exact kk _ _ x0 h0 ho (C.post ht hB1 hS1) hl hE
theorem z_callSI {Y' : QM} {d' n idx : Nat} {av rest : List Value} {o1 : Option (Int32 × AHp)} {F : Int32 → AHp → Option (r × AHp)} (hd : decode (qC Y) pc = .ok (.invokestatic idx, 3)) (hM : MI Y' d' av h o1) (hB : mbS Y' n) (hlk : Cond.methodLink (qOwn Y) idx (qY Y') ∈ gtbl) (hn : av.length = n) (hst : st = av.reverse ++ rest) (hc8 : (rest.map fun v => v.category).sum ≤ 8) (hdd : d' + 1 ≤ d) (kk : ∀ (x1 : Int32) (h1 : AHp), WO tv Y d (pc + 3) lv (.int x1 :: rest) h1 (F x1 h1)) : WO tv Y d pc lv st h (bd o1 F) := by
  intro x0 h0 ho p l e R s m args below meth c D ad ca A cells slots Q H locs ls C hl hE
  cases o1 with
  | none => cases ho
  | some q =>
  obtain ⟨x1, h1⟩ := q
  subst hst
  have hM1 := hM x1 h1 rfl l D ad ca A H.size (fun q hq => C.2.2.2.1 q (Nat.le_trans C.2.2.2.2.2.2.2.1 hq))
  refine va_calli (zr_S (rest := rest) C hl hM1 hB hlk hn hc8 hdd hd) C.2.2.2.2.2.2.2 (fun q _ h9 => h9) (fun q h9 => h9) (fun x1 u t H1 locs1 ht hvm hw hB1 hz1 hk1 hS1 => ?_)
  cases hw
  exact kk _ _ x0 h0 ho (C.post ht hB1 hS1) hl hE
theorem z_callSL {Y' : QM} {d' n idx : Nat} {av rest : List Value} {o1 : Option (Int64 × AHp)} {F : Int64 → AHp → Option (r × AHp)} (hd : decode (qC Y) pc = .ok (.invokestatic idx, 3)) (hM : ML Y' d' av h o1) (hB : mbS Y' n) (hlk : Cond.methodLink (qOwn Y) idx (qY Y') ∈ gtbl) (hn : av.length = n) (hst : st = av.reverse ++ rest) (hc8 : (rest.map fun v => v.category).sum ≤ 8) (hdd : d' + 1 ≤ d) (kk : ∀ (x1 : Int64) (h1 : AHp), WO tv Y d (pc + 3) lv (.long x1 :: rest) h1 (F x1 h1)) : WO tv Y d pc lv st h (bd o1 F) := by
  intro x0 h0 ho p l e R s m args below meth c D ad ca A cells slots Q H locs ls C hl hE
  cases o1 with
  | none => cases ho
  | some q =>
  obtain ⟨x1, h1⟩ := q
  subst hst
  have hM1 := hM x1 h1 rfl l D ad ca A H.size (fun q hq => C.2.2.2.1 q (Nat.le_trans C.2.2.2.2.2.2.2.1 hq))
  refine va_calll (zr_S (rest := rest) C hl hM1 hB hlk hn hc8 hdd hd) C.2.2.2.2.2.2.2 (fun q _ h9 => h9) (fun q h9 => h9) (fun x1 u t H1 locs1 ht hvm hw hB1 hz1 hk1 hS1 => ?_)
  cases hw
  exact kk _ _ x0 h0 ho (C.post ht hB1 hS1) hl hE
theorem z_callSV {Y' : QM} {d' n idx : Nat} {av rest : List Value} {o1 : Option (Unit × AHp)} {F : Unit → AHp → Option (r × AHp)} (hd : decode (qC Y) pc = .ok (.invokestatic idx, 3)) (hM : MV Y' d' av h o1) (hB : mbS Y' n) (hlk : Cond.methodLink (qOwn Y) idx (qY Y') ∈ gtbl) (hn : av.length = n) (hst : st = av.reverse ++ rest) (hc8 : (rest.map fun v => v.category).sum ≤ 8) (hdd : d' + 1 ≤ d) (kk : ∀ (x1 : Unit) (h1 : AHp), WO tv Y d (pc + 3) lv (rest) h1 (F x1 h1)) : WO tv Y d pc lv st h (bd o1 F) := by
  intro x0 h0 ho p l e R s m args below meth c D ad ca A cells slots Q H locs ls C hl hE
  cases o1 with
  | none => cases ho
  | some q =>
  obtain ⟨x1, h1⟩ := q
  subst hst
  have hM1 := hM x1 h1 rfl l D ad ca A H.size (fun q hq => C.2.2.2.1 q (Nat.le_trans C.2.2.2.2.2.2.2.1 hq))
  refine va_callv (zr_S (rest := rest) C hl hM1 hB hlk hn hc8 hdd hd) C.2.2.2.2.2.2.2 (fun q _ h9 => h9) (fun q h9 => h9) (fun u t H1 locs1 ht hvm hw hB1 hz1 hk1 hS1 => ?_)
  exact kk _ _ x0 h0 ho (C.post ht hB1 hS1) hl hE
theorem z_callSNI {Y' : QM} {d' n idx : Nat} {av rest : List Value} {o1 : Option (Int32 × AHp)} {F : Int32 → AHp → Option (r × AHp)} (hd : decode (qC Y) pc = .ok (.invokestatic idx, 3)) (hM : MI Y' d' av h o1) {host : String} (hB : mbS Y' n) (hlk : Cond.methodLinkNest (qOwn Y) idx (qY Y') host ∈ ntbl) (hn : av.length = n) (hst : st = av.reverse ++ rest) (hc8 : (rest.map fun v => v.category).sum ≤ 8) (hdd : d' + 1 ≤ d) (kk : ∀ (x1 : Int32) (h1 : AHp), WO tv Y d (pc + 3) lv (.int x1 :: rest) h1 (F x1 h1)) : WO tv Y d pc lv st h (bd o1 F) := by
  intro x0 h0 ho p l e R s m args below meth c D ad ca A cells slots Q H locs ls C hl hE
  cases o1 with
  | none => cases ho
  | some q =>
  obtain ⟨x1, h1⟩ := q
  subst hst
  have hM1 := hM x1 h1 rfl l D ad ca A H.size (fun q hq => C.2.2.2.1 q (Nat.le_trans C.2.2.2.2.2.2.2.1 hq))
  refine va_calli (zr_SN (rest := rest) C hl hM1 hB hlk hn hc8 hdd hd) C.2.2.2.2.2.2.2 (fun q _ h9 => h9) (fun q h9 => h9) (fun x1 u t H1 locs1 ht hvm hw hB1 hz1 hk1 hS1 => ?_)
  cases hw
  exact kk _ _ x0 h0 ho (C.post ht hB1 hS1) hl hE
theorem z_callSNL {Y' : QM} {d' n idx : Nat} {av rest : List Value} {o1 : Option (Int64 × AHp)} {F : Int64 → AHp → Option (r × AHp)} (hd : decode (qC Y) pc = .ok (.invokestatic idx, 3)) (hM : ML Y' d' av h o1) {host : String} (hB : mbS Y' n) (hlk : Cond.methodLinkNest (qOwn Y) idx (qY Y') host ∈ ntbl) (hn : av.length = n) (hst : st = av.reverse ++ rest) (hc8 : (rest.map fun v => v.category).sum ≤ 8) (hdd : d' + 1 ≤ d) (kk : ∀ (x1 : Int64) (h1 : AHp), WO tv Y d (pc + 3) lv (.long x1 :: rest) h1 (F x1 h1)) : WO tv Y d pc lv st h (bd o1 F) := by
  intro x0 h0 ho p l e R s m args below meth c D ad ca A cells slots Q H locs ls C hl hE
  cases o1 with
  | none => cases ho
  | some q =>
  obtain ⟨x1, h1⟩ := q
  subst hst
  have hM1 := hM x1 h1 rfl l D ad ca A H.size (fun q hq => C.2.2.2.1 q (Nat.le_trans C.2.2.2.2.2.2.2.1 hq))
  refine va_calll (zr_SN (rest := rest) C hl hM1 hB hlk hn hc8 hdd hd) C.2.2.2.2.2.2.2 (fun q _ h9 => h9) (fun q h9 => h9) (fun x1 u t H1 locs1 ht hvm hw hB1 hz1 hk1 hS1 => ?_)
  cases hw
  exact kk _ _ x0 h0 ho (C.post ht hB1 hS1) hl hE
theorem z_callSNV {Y' : QM} {d' n idx : Nat} {av rest : List Value} {o1 : Option (Unit × AHp)} {F : Unit → AHp → Option (r × AHp)} (hd : decode (qC Y) pc = .ok (.invokestatic idx, 3)) (hM : MV Y' d' av h o1) {host : String} (hB : mbS Y' n) (hlk : Cond.methodLinkNest (qOwn Y) idx (qY Y') host ∈ ntbl) (hn : av.length = n) (hst : st = av.reverse ++ rest) (hc8 : (rest.map fun v => v.category).sum ≤ 8) (hdd : d' + 1 ≤ d) (kk : ∀ (x1 : Unit) (h1 : AHp), WO tv Y d (pc + 3) lv (rest) h1 (F x1 h1)) : WO tv Y d pc lv st h (bd o1 F) := by
  intro x0 h0 ho p l e R s m args below meth c D ad ca A cells slots Q H locs ls C hl hE
  cases o1 with
  | none => cases ho
  | some q =>
  obtain ⟨x1, h1⟩ := q
  subst hst
  have hM1 := hM x1 h1 rfl l D ad ca A H.size (fun q hq => C.2.2.2.1 q (Nat.le_trans C.2.2.2.2.2.2.2.1 hq))
  refine va_callv (zr_SN (rest := rest) C hl hM1 hB hlk hn hc8 hdd hd) C.2.2.2.2.2.2.2 (fun q _ h9 => h9) (fun q h9 => h9) (fun u t H1 locs1 ht hvm hw hB1 hz1 hk1 hS1 => ?_)
  exact kk _ _ x0 h0 ho (C.post ht hB1 hS1) hl hE
theorem MI.of {Y : QM} {d : Nat} {av : List Value} {h : AHp} {o : Option (Int32 × AHp)} (hp : plainName (qY Y).cls = true) (hown0 : qOwn Y = (qY Y).cls) (hX : qX Y = none) (hlen : (lg_sl av).length ≤ qN Y) (hw : WO tvI Y d 0 (lv_args 0 av) [] h o) : MI Y d av h o := by
  intro x0 h0 ho l D ad ca A sz hA
  refine Met.ofW (cc := qC Y) (maxL := qN Y) (ret := qR Y) hp rfl ?_
  intro p e s m args below meth c s₁ B hml hv
  obtain ⟨rfl, hsz, hP, hK, hD, hN, hSx⟩ := hv
  have hts := atoms_spec (ws := cwd Y :: gtbl) B.pre
  have hown : s.vm.findClass (qOwn Y) = some m.cls := by rw [hown0]; exact findClass_of_methodNamed B.named
  subst hsz
  have hl := lv_entry (av.map (cv ad)) (n := qN Y) (by rw [lg_cv]; exact hlen)
  rw [cvL_args] at hl
  rw [lg_entry_eq]
  refine hw x0 h0 ho (D := D) (ad := ad) (ca := ca) (A := A) (H := s.heap) (locs := []) ⟨⟨B.exec, B.bytes, hml, B.returns, hown, fun w hw => hts w (List.mem_cons_of_mem _ hw), B.notSynchronized⟩, ⟨Nat.le_refl _, Nat.le_refl _, Nat.le_refl _, Nat.le_refl _⟩, ⟨hN, hSx, fun L xs hq => by rw [hX] at hq; cases hq⟩, hA, hK, hP, hD, va_S.rf⟩ hl ?_
  intro H2 locs2 pc2 ls2 C2 hxd
  rcases hxd with ⟨v, hv, hdg, hrt⟩ | ⟨v, hv, hdg, hrt⟩ | ⟨hv, hdg, hrt⟩
  · cases hv
    obtain ⟨ty, hrt, hz⟩ := hrt
    exact W.zret (free := A) C2.1.1 C2.1.2.1 (C2.1.2.2.2.1.trans hrt) hz (fun t ht hW => ⟨⟨x0, (), rfl, rfl, by rw [ht]; exact C2.2.2.2.2.2.1, va_K.moved hW.alike C2.2.2.2.2.1, C2.2.2.2.2.2.2.1⟩, C2.2.2.2.2.2.2.2.F ht⟩) C2.2.2.2.2.2.2.2.2.2 hdg C2.1.2.2.2.2.2.2
  · cases hv
  · cases hv
theorem ML.of {Y : QM} {d : Nat} {av : List Value} {h : AHp} {o : Option (Int64 × AHp)} (hp : plainName (qY Y).cls = true) (hown0 : qOwn Y = (qY Y).cls) (hX : qX Y = none) (hlen : (lg_sl av).length ≤ qN Y) (hw : WO tvL Y d 0 (lv_args 0 av) [] h o) : ML Y d av h o := by
  intro x0 h0 ho l D ad ca A sz hA
  refine Met.ofW (cc := qC Y) (maxL := qN Y) (ret := qR Y) hp rfl ?_
  intro p e s m args below meth c s₁ B hml hv
  obtain ⟨rfl, hsz, hP, hK, hD, hN, hSx⟩ := hv
  have hts := atoms_spec (ws := cwd Y :: gtbl) B.pre
  have hown : s.vm.findClass (qOwn Y) = some m.cls := by rw [hown0]; exact findClass_of_methodNamed B.named
  subst hsz
  have hl := lv_entry (av.map (cv ad)) (n := qN Y) (by rw [lg_cv]; exact hlen)
  rw [cvL_args] at hl
  rw [lg_entry_eq]
  refine hw x0 h0 ho (D := D) (ad := ad) (ca := ca) (A := A) (H := s.heap) (locs := []) ⟨⟨B.exec, B.bytes, hml, B.returns, hown, fun w hw => hts w (List.mem_cons_of_mem _ hw), B.notSynchronized⟩, ⟨Nat.le_refl _, Nat.le_refl _, Nat.le_refl _, Nat.le_refl _⟩, ⟨hN, hSx, fun L xs hq => by rw [hX] at hq; cases hq⟩, hA, hK, hP, hD, va_S.rf⟩ hl ?_
  intro H2 locs2 pc2 ls2 C2 hxd
  rcases hxd with ⟨v, hv, hdg, hrt⟩ | ⟨v, hv, hdg, hrt⟩ | ⟨hv, hdg, hrt⟩
  · cases hv
  · cases hv
    exact W.lret (free := A) C2.1.1 C2.1.2.1 (C2.1.2.2.2.1.trans hrt) (fun t ht hW => ⟨⟨x0, (), rfl, rfl, by rw [ht]; exact C2.2.2.2.2.2.1, va_K.moved hW.alike C2.2.2.2.2.1, C2.2.2.2.2.2.2.1⟩, C2.2.2.2.2.2.2.2.F ht⟩) C2.2.2.2.2.2.2.2.2.2 hdg C2.1.2.2.2.2.2.2
  · cases hv
theorem MV.of {Y : QM} {d : Nat} {av : List Value} {h : AHp} {o : Option (Unit × AHp)} (hp : plainName (qY Y).cls = true) (hown0 : qOwn Y = (qY Y).cls) (hX : qX Y = none) (hlen : (lg_sl av).length ≤ qN Y) (hw : WO tvV Y d 0 (lv_args 0 av) [] h o) : MV Y d av h o := by
  intro x0 h0 ho l D ad ca A sz hA
  refine Met.ofW (cc := qC Y) (maxL := qN Y) (ret := qR Y) hp rfl ?_
  intro p e s m args below meth c s₁ B hml hv
  obtain ⟨rfl, hsz, hP, hK, hD, hN, hSx⟩ := hv
  have hts := atoms_spec (ws := cwd Y :: gtbl) B.pre
  have hown : s.vm.findClass (qOwn Y) = some m.cls := by rw [hown0]; exact findClass_of_methodNamed B.named
  subst hsz
  have hl := lv_entry (av.map (cv ad)) (n := qN Y) (by rw [lg_cv]; exact hlen)
  rw [cvL_args] at hl
  rw [lg_entry_eq]
  refine hw x0 h0 ho (D := D) (ad := ad) (ca := ca) (A := A) (H := s.heap) (locs := []) ⟨⟨B.exec, B.bytes, hml, B.returns, hown, fun w hw => hts w (List.mem_cons_of_mem _ hw), B.notSynchronized⟩, ⟨Nat.le_refl _, Nat.le_refl _, Nat.le_refl _, Nat.le_refl _⟩, ⟨hN, hSx, fun L xs hq => by rw [hX] at hq; cases hq⟩, hA, hK, hP, hD, va_S.rf⟩ hl ?_
  intro H2 locs2 pc2 ls2 C2 hxd
  rcases hxd with ⟨v, hv, hdg, hrt⟩ | ⟨v, hv, hdg, hrt⟩ | ⟨hv, hdg, hrt⟩
  · cases hv
  · cases hv
  · exact W.vret (free := A) C2.1.1 C2.1.2.1 (C2.1.2.2.2.1.trans hrt) (fun t ht hW => ⟨⟨(), rfl, trivial, by rw [ht]; exact C2.2.2.2.2.2.1, va_K.moved hW.alike C2.2.2.2.2.1, C2.2.2.2.2.2.2.1⟩, C2.2.2.2.2.2.2.2.F ht⟩) C2.2.2.2.2.2.2.2.2.2 hdg C2.1.2.2.2.2.2.2
theorem z_istore_nL {k4 : Fin 4} {x : Int32} {lv2 : Int32 → List (Nat × Value)} {f : Int32 → Option (r × AHp)} (hd : decode (qC Y) pc = .ok (.istore_n k4, 1)) (hn : (k4 : Nat) < qN Y) (hs : ∀ v, ls1 (k4 : Nat) (.int v) lv = lv2 v) (k : ∀ v : Int32, WO tv Y d (pc + 1) (lv2 v) st h (f v)) : WO tv Y d pc lv (.int x :: st) h (lt x f) := z_istore_n hd hn (hs x) (k x)
theorem z_istoreL {i : Nat} {x : Int32} {lv2 : Int32 → List (Nat × Value)} {f : Int32 → Option (r × AHp)} (hd : decode (qC Y) pc = .ok (.istore i, 2)) (hn : i < qN Y) (hs : ∀ v, ls1 i (.int v) lv = lv2 v) (k : ∀ v : Int32, WO tv Y d (pc + 2) (lv2 v) st h (f v)) : WO tv Y d pc lv (.int x :: st) h (lt x f) := z_istore hd hn (hs x) (k x)
theorem z_lstore_nL {k4 : Fin 4} {x : Int64} {lv2 : Int64 → List (Nat × Value)} {f : Int64 → Option (r × AHp)} (hd : decode (qC Y) pc = .ok (.lstore_n k4, 1)) (hn : (k4 : Nat) + 1 < qN Y) (hs : ∀ v, ls2 (k4 : Nat) (.long v) lv = lv2 v) (k : ∀ v : Int64, WO tv Y d (pc + 1) (lv2 v) st h (f v)) : WO tv Y d pc lv (.long x :: st) h (lt x f) := z_lstore_n hd hn (hs x) (k x)
theorem z_lstoreL {i : Nat} {x : Int64} {lv2 : Int64 → List (Nat × Value)} {f : Int64 → Option (r × AHp)} (hd : decode (qC Y) pc = .ok (.lstore i, 2)) (hn : i + 1 < qN Y) (hs : ∀ v, ls2 i (.long v) lv = lv2 v) (k : ∀ v : Int64, WO tv Y d (pc + 2) (lv2 v) st h (f v)) : WO tv Y d pc lv (.long x :: st) h (lt x f) := z_lstore hd hn (hs x) (k x)
theorem z_iincL {i : Nat} {n : Int} {x y : Int32} {lv2 : Int32 → List (Nat × Value)} {f : Int32 → Option (r × AHp)} (hd : decode (qC Y) pc = .ok (.iinc i n, 3)) (q : Nat) (hq : lv[q]? = some (i, .int x)) (hv : x + Int32.ofInt n = y) (hn : i < qN Y) (hs : ∀ v, ls1 i (.int v) lv = lv2 v) (k : ∀ v : Int32, WO tv Y d (pc + 3) (lv2 v) st h (f v)) : WO tv Y d pc lv st h (lt y f) := z_iinc hd q hq hv hn (hs y) (k y)
/-! THE TEXT LETTERS and String's own methods on it -/
def ltrs : List Int32 := [108, 116, 115, 99, 97, 98, 114, 100, 107]
theorem z_ldcS (hd : decode (qC Y) pc = .ok (.ldc 142, 2)) (hq : qOwn Y = "NoEcho$Reader") (k : WO tv Y d (pc + 2) lv (.ref 9000 :: st) h o) : WO tv Y d pc lv st h o := by
  intro x0 h0 ho p l e R s m args below meth c D ad ca A cells slots Q H locs ls C hl hE
  obtain ⟨⟨hx, hb, hml, hr, hown, hts, hlk⟩, hRm, hNS, hA, hK, hP, hD, hS⟩ := id C
  exact va_ldcS hx hb (own := "NoEcho$Reader") (by rw [← hq]; exact hown) hNS.2.1.1 hd (k x0 h0 ho C hl hE)
theorem z_strV {idx : Nat} (hd : decode (qC Y) pc = .ok (.getfield idx, 3)) (hw : Cond.fieldLink (qOwn Y) idx "java/lang/String" "value" "[B" ∈ gtbl) (k : WO tv Y d (pc + 3) lv (.ref 9001 :: st) h o) : WO tv Y d pc lv (.ref 9000 :: st) h o := by
  intro x0 h0 ho p l e R s m args below meth c D ad ca A cells slots Q H locs ls C hl hE
  obtain ⟨⟨hx, hb, hml, hr, hown, hts, hlk⟩, hRm, hNS, hA, hK, hP, hD, hS⟩ := id C
  exact vk_getf hx hb (hNS.2.1.2.1.1 0 (by decide)).2.2.1 hS hown (hts _ hw) (fun _ h9 => h9) hd (k x0 h0 ho C hl hE)
theorem z_strC {idx : Nat} (hd : decode (qC Y) pc = .ok (.getfield idx, 3)) (hw : Cond.fieldLink (qOwn Y) idx "java/lang/String" "coder" "B" ∈ gtbl) (k : WO tv Y d (pc + 3) lv (.int 0 :: st) h o) : WO tv Y d pc lv (.ref 9000 :: st) h o := by
  intro x0 h0 ho p l e R s m args below meth c D ad ca A cells slots Q H locs ls C hl hE
  obtain ⟨⟨hx, hb, hml, hr, hown, hts, hlk⟩, hRm, hNS, hA, hK, hP, hD, hS⟩ := id C
  exact vk_getf hx hb (hNS.2.1.2.1.1 0 (by decide)).2.1 hS hown (hts _ hw) (fun _ h9 => h9) hd (k x0 h0 ho C hl hE)
theorem z_strZ {idx : Nat} (hd : decode (qC Y) pc = .ok (.getstatic idx, 3)) (hw : Cond.fieldLink (qOwn Y) idx "java/lang/String" "COMPACT_STRINGS" "Z" ∈ gtbl) (k : WO tv Y d (pc + 3) lv (.int 1 :: st) h o) : WO tv Y d pc lv st h o := by
  intro x0 h0 ho p l e R s m args below meth c D ad ca A cells slots Q H locs ls C hl hE
  obtain ⟨⟨hx, hb, hml, hr, hown, hts, hlk⟩, hRm, hNS, hA, hK, hP, hD, hS⟩ := id C
  exact va_gets hx hb hNS.2.1.2.2 hS hown (hts _ hw) (fun _ h9 => h9) hd (k x0 h0 ho C hl hE)
theorem z_tb {i : Int32} (hd : decode (qC Y) pc = .ok (.baload, 1)) (hin : inb i 9) (k : WO tv Y d (pc + 1) lv (.int (ltrs.getD i.toNatClampNeg 0) :: st) h o) : WO tv Y d pc lv (.int i :: .ref 9001 :: st) h o := by
  intro x0 h0 ho p l e R s m args below meth c D ad ca A cells slots Q H locs ls C hl hE
  obtain ⟨⟨hx, hb, hml, hr, hown, hts, hlk⟩, hRm, hNS, hA, hK, hP, hD, hS⟩ := id C
  exact va_tb hx hb (hNS.2.1.2.1.1 0 (by decide)).2.2.2 hS hin rfl hd (k x0 h0 ho C hl hE)
theorem z_tlen (hd : decode (qC Y) pc = .ok (.arraylength, 1)) (k : WO tv Y d (pc + 1) lv (.int 9 :: st) h o) : WO tv Y d pc lv (.ref 9001 :: st) h o := by
  intro x0 h0 ho p l e R s m args below meth c D ad ca A cells slots Q H locs ls C hl hE
  obtain ⟨⟨hx, hb, hml, hr, hown, hts, hlk⟩, hRm, hNS, hA, hK, hP, hD, hS⟩ := id C
  exact va_tlen hx hb (hNS.2.1.2.1.1 0 (by decide)).2.2.2 hS rfl hd (k x0 h0 ho C hl hE)
def mbT (Y : QM) (n : Nat) : Prop := mb Y n ∧ Cond.instanceMethod (qY Y) ∈ gtbl ∧ Cond.selects (qY Y).cls (qY Y) (qY Y) ∈ gtbl ∧ (qY Y).cls = "java/lang/String"
theorem z_callTI {Y' : QM} {d' n idx : Nat} {av rest : List Value} {o1 : Option (Int32 × AHp)} {F : Int32 → AHp → Option (r × AHp)} (hd : decode (qC Y) pc = .ok (.invokevirtual idx, 3)) (hM : MI Y' d' (.ref 9000 :: av) h o1) (hB : mbT Y' n) (hlk : Cond.methodLink (qOwn Y) idx (qY Y') ∈ gtbl) (hn : av.length = n) (hst : st = av.reverse ++ .ref 9000 :: rest) (hc8 : (rest.map fun v => v.category).sum ≤ 8) (hdd : d' + 1 ≤ d) (kk : ∀ (x1 : Int32) (h1 : AHp), WO tv Y d (pc + 3) lv (.int x1 :: rest) h1 (F x1 h1)) : WO tv Y d pc lv st h (bd o1 F) := by
  intro x0 h0 ho p l e R s m args below meth c D ad ca A cells slots Q H locs ls C hl hE
  cases o1 with
  | none => cases ho
  | some q =>
  obtain ⟨x1, h1⟩ := q
  subst hst
  obtain ⟨⟨hx, hb, hml, hr, hown, hts, hlk1⟩, hRm, hNS, hA, hK, hP, hD, hS⟩ := id C
  obtain ⟨hb0, hin, hse, hcl⟩ := hB
  have hM1 := hM x1 h1 rfl l D ad ca A H.size (fun q hq => hA q (Nat.le_trans hS.1 hq))
  have hg : GoodIn gtbl (wsV (qOwn Y) idx (qY Y').cls (qY Y') (cwd Y' :: gtbl)) := by
    intro w hw
    rcases List.mem_append.mp hw with hw | hw
    · simp only [List.mem_cons, List.not_mem_nil, or_false] at hw
      rcases hw with rfl | rfl | rfl | rfl
      · exact gt_good hlk
      · exact gt_good hin
      · exact gt_good hse
      · exact gt_good hb0.2.1
    · exact mb_good hb0 w hw
  have hrun : va_Run p l e R s m args below meth c H locs cells slots 0 0 (F0 m pc ls ((av.reverse ++ .ref 9000 :: rest).map (cv ad))) (rest.map (cv ad)) (va_Qi (fun (y : Int32) (_ : Unit) => y = x1) (fun _ t => Bz D ad ca A h1 t) A (Value.ref (ad 9000) :: av.map (cv ad)).toArray) A := by
    refine va_runV (nL := qN Y) (C := (qY Y').cls) (b := ad 9000) (As := av.map (cv ad)) (rest := rest.map (cv ad)) ⟨hx, hb, hml, hown, hts⟩ hM1 (cwV n hts hg rfl rfl rfl ⟨rfl, hb0.2.2.1, hb0.2.2.2.1, hb0.2.2.2.2.1⟩ ⟨?_, ?_⟩) ⟨Pz_blind _ D ad ca A H.size h, by rw [hcl]; exact vk_recv (adK := fun _ => ad 9000) (i := 0) hNS.2.1.2.1 (by decide) hS, fun U hU hW => ⟨rfl, C.pre hU hW⟩⟩ rfl (by rw [List.length_map]; exact hn) hl.1 ?_ (lv_room (by rw [cv_sum]; exact hc8)) hd ⟨hRm.2.2.1, hRm.2.2.2⟩
    · show d' + 1 ≤ R.frames; omega
    · show 8 + (qN Y' + 11) + 100 * d' ≤ R.locals; have := hb0.2.2.2.2.2; omega
    · show (av.reverse ++ .ref 9000 :: rest).map (cv ad) = _
      rw [List.map_append, List.map_reverse]; rfl
  refine va_calli hrun hS (fun q _ h9 => h9) (fun q h9 => h9) (fun x1 u t H1 locs1 ht hvm hw hB1 hz1 hk1 hS1 => ?_)
  cases hw
  exact kk _ _ x0 h0 ho (C.post ht hB1 hS1) hl hE
theorem n32 {x c : Int32} {k : Int} (h : ¬ x = c) (hc : c.toInt = k) : x.toInt ≠ k := fun e => h (Int32.toInt_inj.mp (e.trans hc.symm))
abbrev isLaw (j : Nat) : Prop := j = 7 ∨ j = 15 ∨ j = 23 ∨ j = 34
theorem law_ne {j : Nat} (h : isLaw j) : ¬ j = 0 := by rcases h with rfl | rfl | rfl | rfl <;> decide
theorem law_k {j : Nat} (h : isLaw j) : kd j = some (.inl 2) := by rcases h with rfl | rfl | rfl | rfl <;> rfl
theorem law_k0 {j : Nat} (h : isLaw j) : kd (j + 1) = some (.inr (.int, 256)) := by rcases h with rfl | rfl | rfl | rfl <;> rfl
theorem law_r0 {j : Nat} (h : isLaw j) : rho0 j 0 = j + 1 := by rcases h with rfl | rfl | rfl | rfl <;> rfl
theorem law_k1 {j : Nat} (h : isLaw j) : kd (j + 2) = some (.inr (.int, 256)) := by rcases h with rfl | rfl | rfl | rfl <;> rfl
theorem law_r1 {j : Nat} (h : isLaw j) : rho0 j 1 = j + 2 := by rcases h with rfl | rfl | rfl | rfl <;> rfl
theorem law_k2 {j : Nat} (h : isLaw j) : kd (j + 3) = some (.inr (.int, 14)) := by rcases h with rfl | rfl | rfl | rfl <;> rfl
theorem law_r2 {j : Nat} (h : isLaw j) : rho0 j 2 = j + 3 := by rcases h with rfl | rfl | rfl | rfl <;> rfl
theorem law_k3 {j : Nat} (h : isLaw j) : kd (j + 4) = some (.inr (.int, 14)) := by rcases h with rfl | rfl | rfl | rfl <;> rfl
theorem law_r3 {j : Nat} (h : isLaw j) : rho0 j 3 = j + 4 := by rcases h with rfl | rfl | rfl | rfl <;> rfl
theorem law_k4 {j : Nat} (h : isLaw j) : kd (j + 5) = some (.inr (.int, 14)) := by rcases h with rfl | rfl | rfl | rfl <;> rfl
theorem law_r4 {j : Nat} (h : isLaw j) : rho0 j 4 = j + 5 := by rcases h with rfl | rfl | rfl | rfl <;> rfl
theorem law_k5 {j : Nat} (h : isLaw j) : kd (j + 6) = some (.inr (.int, 14)) := by rcases h with rfl | rfl | rfl | rfl <;> rfl
theorem law_r5 {j : Nat} (h : isLaw j) : rho0 j 5 = j + 6 := by rcases h with rfl | rfl | rfl | rfl <;> rfl
theorem law_k6 {j : Nat} (h : isLaw j) : kd (j + 7) = some (.inr (.int, 14)) := by rcases h with rfl | rfl | rfl | rfl <;> rfl
theorem law_r6 {j : Nat} (h : isLaw j) : rho0 j 6 = j + 7 := by rcases h with rfl | rfl | rfl | rfl <;> rfl
theorem kc_0 : kd 0 = some (.inl 11) := rfl
theorem kc_1 : kd 1 = some (.inl 8) := rfl
theorem kc_2 : kd 2 = some (.inr (.int, 220)) := rfl
theorem kc_3 : kd 3 = some (.inl 9) := rfl
theorem kc_4 : kd 4 = some (.inr (.int, 12)) := rfl
theorem kc_5 : kd 5 = some (.inr (.int, 6)) := rfl
theorem kc_6 : kd 6 = some (.inr (.int, 9)) := rfl
theorem kc_7 : kd 7 = some (.inl 2) := rfl
theorem kc_8 : kd 8 = some (.inr (.int, 256)) := rfl
theorem kc_9 : kd 9 = some (.inr (.int, 256)) := rfl
theorem kc_10 : kd 10 = some (.inr (.int, 14)) := rfl
theorem kc_11 : kd 11 = some (.inr (.int, 14)) := rfl
theorem kc_12 : kd 12 = some (.inr (.int, 14)) := rfl
theorem kc_13 : kd 13 = some (.inr (.int, 14)) := rfl
theorem kc_14 : kd 14 = some (.inr (.int, 14)) := rfl
theorem kc_15 : kd 15 = some (.inl 2) := rfl
theorem kc_16 : kd 16 = some (.inr (.int, 256)) := rfl
theorem kc_17 : kd 17 = some (.inr (.int, 256)) := rfl
theorem kc_18 : kd 18 = some (.inr (.int, 14)) := rfl
theorem kc_19 : kd 19 = some (.inr (.int, 14)) := rfl
theorem kc_20 : kd 20 = some (.inr (.int, 14)) := rfl
theorem kc_21 : kd 21 = some (.inr (.int, 14)) := rfl
theorem kc_22 : kd 22 = some (.inr (.int, 14)) := rfl
theorem kc_23 : kd 23 = some (.inl 2) := rfl
theorem kc_24 : kd 24 = some (.inr (.int, 256)) := rfl
theorem kc_25 : kd 25 = some (.inr (.int, 256)) := rfl
theorem kc_26 : kd 26 = some (.inr (.int, 14)) := rfl
theorem kc_27 : kd 27 = some (.inr (.int, 14)) := rfl
theorem kc_28 : kd 28 = some (.inr (.int, 14)) := rfl
theorem kc_29 : kd 29 = some (.inr (.int, 14)) := rfl
theorem kc_30 : kd 30 = some (.inr (.int, 14)) := rfl
theorem kc_31 : kd 31 = some (.inl 3) := rfl
theorem kc_32 : kd 32 = some (.inr (.long, 12500)) := rfl
theorem kc_33 : kd 33 = some (.inl 4) := rfl
theorem kc_34 : kd 34 = some (.inl 2) := rfl
theorem kc_35 : kd 35 = some (.inr (.int, 256)) := rfl
theorem kc_36 : kd 36 = some (.inr (.int, 256)) := rfl
theorem kc_37 : kd 37 = some (.inr (.int, 14)) := rfl
theorem kc_38 : kd 38 = some (.inr (.int, 14)) := rfl
theorem kc_39 : kd 39 = some (.inr (.int, 14)) := rfl
theorem kc_40 : kd 40 = some (.inr (.int, 14)) := rfl
theorem kc_41 : kd 41 = some (.inr (.int, 14)) := rfl
theorem kc_42 : kd 42 = some (.inl 7) := rfl
theorem kc_43 : kd 43 = some (.inr (.int, 200)) := rfl
theorem kc_44 : kd 44 = some (.inr (.int, 200)) := rfl
theorem kc_45 : kd 45 = some (.inr (.int, 200)) := rfl
theorem kc_46 : kd 46 = some (.inl 7) := rfl
theorem kc_47 : kd 47 = some (.inr (.int, 200)) := rfl
theorem kc_48 : kd 48 = some (.inr (.int, 200)) := rfl
theorem kc_49 : kd 49 = some (.inr (.int, 200)) := rfl
theorem kc_50 : kd 50 = some (.inr (.int, 6)) := rfl
theorem kc_51 : kd 51 = some (.inl 1) := rfl
theorem kc_52 : kd 52 = some (.inr (.int, 12)) := rfl
theorem kc_53 : kd 53 = some (.inr (.int, 12)) := rfl
theorem kc_54 : kd 54 = some (.inr (.int, 12)) := rfl
theorem kc_55 : kd 55 = some (.inr (.int, 13)) := rfl
theorem kc_56 : kd 56 = some (.inl 0) := rfl
theorem kc_57 : kd 57 = some (.inr (.int, 150)) := rfl
theorem kc_58 : kd 58 = some (.inr (.int, 1000)) := rfl
theorem kc_59 : kd 59 = some (.inr (.int, 5)) := rfl
theorem kc_60 : kd 60 = some (.inr (.int, 5)) := rfl
theorem kc_61 : kd 61 = some (.inr (.int, 4)) := rfl
theorem kc_62 : kd 62 = some (.inl 6) := rfl
theorem kc_63 : kd 63 = some (.inl 10) := rfl
theorem kc_64 : kd 64 = some (.inr (.int, 175)) := rfl
theorem kc_65 : kd 65 = some (.inr (.int, 175)) := rfl
theorem kc_66 : kd 66 = some (.inr (.int, 175)) := rfl
theorem kc_67 : kd 67 = some (.inl 5) := rfl
theorem kc_68 : kd 68 = some (.inr (.int, 6)) := rfl
theorem kc_69 : kd 69 = some (.inr (.int, 50)) := rfl
theorem kc_70 : kd 70 = some (.inl 12) := rfl
theorem kc_71 : kd 71 = some (.inr (.byte, 220)) := rfl
theorem kc_72 : kd 72 = some (.inr (.int, 12)) := rfl
theorem kc_73 : kd 73 = some (.inr (.int, 7)) := rfl
theorem kc_74 : kd 74 = some (.inr (.int, 7)) := rfl
theorem kc_75 : kd 75 = some (.inr (.int, 7)) := rfl
theorem kc_76 : kd 76 = some (.inr (.boolean, 7)) := rfl
theorem kc_77 : kd 77 = some (.inr (.int, 2)) := rfl
theorem kc_78 : kd 78 = some (.inr (.int, 28)) := rfl
theorem kc_79 : kd 79 = some (.inr (.int, 28)) := rfl
theorem kc_80 : kd 80 = some (.inr (.int, 28)) := rfl
theorem kc_81 : kd 81 = some (.inr (.int, 28)) := rfl
theorem kc_82 : kd 82 = some (.inr (.int, 400)) := rfl
theorem kc_83 : kd 83 = some (.inr (.int, 400)) := rfl
theorem kc_84 : kd 84 = some (.inr (.int, 14)) := rfl
theorem kc_85 : kd 85 = some (.inr (.int, 14)) := rfl
theorem kc_86 : kd 86 = some (.inr (.int, 14)) := rfl
theorem kc_87 : kd 87 = some (.inr (.int, 14)) := rfl
theorem kc_88 : kd 88 = some (.inr (.int, 200)) := rfl
theorem kc_89 : kd 89 = some (.inr (.int, 200)) := rfl
theorem kc_90 : kd 90 = some (.inr (.int, 240)) := rfl
theorem kc_91 : kd 91 = some (.inr (.int, 6)) := rfl
theorem kc_92 : kd 92 = some (.inr (.int, 240)) := rfl
theorem kc_93 : kd 93 = some (.inr (.boolean, 240)) := rfl
theorem kc_94 : kd 94 = some (.inr (.int, 200)) := rfl
theorem kc_95 : kd 95 = some (.inr (.int, 200)) := rfl
theorem kc_96 : kd 96 = some (.inr (.int, 200)) := rfl
theorem kc_97 : kd 97 = some (.inr (.int, 12)) := rfl
theorem kc_98 : kd 98 = some (.inr (.int, 12)) := rfl
theorem kc_99 : kd 99 = some (.inr (.int, 12)) := rfl
theorem kc_100 : kd 100 = some (.inr (.int, 7500)) := rfl
theorem kc_101 : kd 101 = some (.inr (.int, 8125)) := rfl
theorem kc_102 : kd 102 = some (.inr (.boolean, 8125)) := rfl
theorem kc_103 : kd 103 = some (.inr (.int, 8)) := rfl
theorem kc_104 : kd 104 = some (.inr (.int, 4)) := rfl
theorem kc_105 : kd 105 = some (.inr (.int, 12500)) := rfl
theorem kc_106 : kd 106 = some (.inr (.boolean, 625)) := rfl
theorem kc_107 : kd 107 = some (.inr (.boolean, 625)) := rfl
theorem kc_108 : kd 108 = some (.inr (.int, 4375)) := rfl
theorem kc_109 : kd 109 = some (.inr (.boolean, 4375)) := rfl
theorem kc_110 : kd 110 = some (.inr (.boolean, 4375)) := rfl
theorem kc_111 : kd 111 = some (.inr (.int, 1250)) := rfl
theorem kc_112 : kd 112 = some (.inr (.boolean, 4375)) := rfl
theorem kc_113 : kd 113 = some (.inr (.int, 8)) := rfl
theorem kc_114 : kd 114 = some (.inr (.int, 200)) := rfl
theorem kc_115 : kd 115 = some (.inr (.int, 200)) := rfl
theorem kc_116 : kd 116 = some (.inr (.int, 200)) := rfl
theorem kc_117 : kd 117 = some (.inr (.int, 6)) := rfl
end ZR2
