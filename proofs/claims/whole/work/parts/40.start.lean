def R_law : String := "NoEchoLaw"
def lw_P (b : Addr) (xs : List Int32) (args : Array Value) (s : State) : Prop := args = #[.ref b] ∧ s.IntsAt b xs ∧ xs.length ≤ 3584 ∧ (Jvm.Cond.and given_1 narrow_1).before args s = true
def lw_Q (_ : Array Value) (s : State) (o : Outcome) (t : State) : Prop := o = .returned (some (.int 1)) ∧ Framed s o t [] 600000 7302250
def lw_Z (below : List Frame) (a : Array Value) (s : State) : State → Prop := fun t => ∃ o, t.status = .running ∧ Ended t below o ∧ lw_Q a s o t
/-- the law's own end, with 1 on the stack, nothing written that was there before, its room as the claim has it -/
theorem lw_ret {p : Program} {l : Launch} {e : Env} {s : State} {m : MethodId} {below : List Frame} {meth : Method} {c : Code} {b : Nat} (hx : p.tables.exec = Jvm.exec) (hb : c.code = code) (hr : meth.sig.returnType = ret) (hlocks : meth.locks = false) {pc : Nat} {H : Heap} {ls : Array Slot} (hdg : decode code pc = .ok (.ireturn, 1)) : W p l e room_1 s m #[Value.ref b] below meth c H [] 600000 7302250 (lw_Z below #[Value.ref b] s) (F0 m pc ls [.int 1]) := by
  intro T hT X
  obtain ⟨fs, hret, hrun, hended, hW, hframe⟩ := X.leave (v := some (.int 1)) (hlocks := hlocks) (fun h => by rw [hr] at h; cases h)
  have hmeth' : T.vm.method? m = some meth := X.method'
  refine ⟨T.setFrames fs, ?_, .returned (some (.int 1)), hrun, hended, rfl, ⟨_, rfl⟩, hW, hframe⟩
  jvm_step X.here [X.here.top, hx, hb, hdg, hmeth', hr, ret, narrow_b1]
  (try refine ⟨rfl, ?_⟩); (try refine ⟨rfl, ?_⟩)
  first | (intro acts; rw [hret _ acts rfl rfl rfl]) | rw [hret _ _ rfl rfl rfl]
  exact Steps.refl _
/-- what holds at the law's entry: the machine, the code, the tables' words (any of lw_tbl by 'hts w (by decide +kernel)'), the script of L ints xs at the cell b, what the Statement gives of the start (any of its parts by flat_of_before) -/
def lw_At (p : Program) (s : State) (m : MethodId) (meth : Method) (c : Code) (b L : Nat) (xs : Nat → Int32) : Prop :=
  p.tables.exec = Jvm.exec ∧ c.code = code ∧ meth.sig.returnType = ret ∧ c.maxLocals = 4 ∧ s.vm.findClass R_law = some m.cls ∧ (∀ w ∈ lw_tbl, w.before #[Value.ref b] s = true) ∧ va_X b L xs s s.heap ∧ b < s.heap.size ∧ meth.locks = false ∧ (Jvm.Cond.and given_1 narrow_1).before #[Value.ref b] s = true
theorem rho_ok : (List.range 118).all (fun k => match kd k with
  | some (.inl ci) => (List.range (nF ci)).all (fun i => isMut ci i || rhoE k i == rho0 k i)
  | _ => true) = true := by decide +kernel
theorem wl_rho (ad : Nat → Nat) (ca : Nat → ClassId) (h : AHp) : wl ad ca rhoE h 118 = wl ad ca rho0 h 118 := by
  unfold wl
  refine List.map_congr_left (fun k hk => ?_)
  have h1 := List.all_eq_true.mp rho_ok k hk
  congr 1
  unfold wE
  cases hkd : kd k with
  | none => rfl
  | some q =>
    cases q with
    | inr a => obtain ⟨ty, n⟩ := a; cases ty <;> rfl
    | inl ci =>
      rw [hkd] at h1
      simp only
      congr 2
      refine List.map_congr_left (fun i hi => ?_)
      have h2 := List.all_eq_true.mp h1 i hi
      simp only [Bool.or_eq_true, beq_iff_eq] at h2
      unfold fvl
      rcases h2 with h2 | h2
      · rw [h2]; rfl
      · rw [h2]
theorem known_all {args : Array Value} {s : State} (hg : ∀ w ∈ gtbl, w.before args s = true) : ∃ D : va_G, ∀ (k : Nat) (q : vw_C), vwCl[k]? = some q → u_Kn s q.1 q.2.1 q.2.2 (D.1 k) (D.2 k) := by
  have h0 : ∀ k : Nat, ∃ z : ClassId × (Nat → Nat), ∀ q : vw_C, vwCl[k]? = some q → u_Kn s q.1 q.2.1 q.2.2 z.1 z.2 := by
    intro k
    match k with
    | 0 => exact let ⟨c, i, h⟩ := u_known (C := RX0) (T := TX0) (N := 14) (n := 14) hg cbX0.2.2.1 (hg _ nX11_58.2.1); ⟨(c, i), fun q hq => by cases hq; exact h⟩
    | 1 => exact let ⟨c, i, h⟩ := u_known (C := RX1) (T := TX1) (N := 14) (n := 14) hg cbX1.2.2.1 (hg _ nX11_49.2.1); ⟨(c, i), fun q hq => by cases hq; exact h⟩
    | 2 => exact let ⟨c, i, h⟩ := u_known (C := RX2) (T := TX2) (N := 12) (n := 12) hg cbX2.2.2.1 (hg _ nX9_21.2.1); ⟨(c, i), fun q hq => by cases hq; exact h⟩
    | 3 => exact let ⟨c, i, h⟩ := u_known (C := RX3) (T := TX3) (N := 2) (n := 2) hg cbX3.2.2.1 (hg _ nX11_15.2.1); ⟨(c, i), fun q hq => by cases hq; exact h⟩
    | 4 => exact let ⟨c, i, h⟩ := u_known (C := RX4) (T := TX4) (N := 2) (n := 2) hg cbX4.2.2.1 (hg _ nX11_22.2.1); ⟨(c, i), fun q hq => by cases hq; exact h⟩
    | 5 => exact let ⟨c, i, h⟩ := u_known (C := RX5) (T := TX5) (N := 9) (n := 9) hg cbX5.2.2.1 (hg _ nX11_81.2.1); ⟨(c, i), fun q hq => by cases hq; exact h⟩
    | 6 => exact let ⟨c, i, h⟩ := u_known (C := RX6) (T := TX6) (N := 13) (n := 13) hg cbX6.2.2.1 (hg _ nX11_65.2.1); ⟨(c, i), fun q hq => by cases hq; exact h⟩
    | 7 => exact let ⟨c, i, h⟩ := u_known (C := RX7) (T := TX7) (N := 5) (n := 5) hg cbX7.2.2.1 (hg _ nX11_35.2.1); ⟨(c, i), fun q hq => by cases hq; exact h⟩
    | 8 => exact let ⟨c, i, h⟩ := u_known (C := RX8) (T := TX8) (N := 5) (n := 5) hg cbX8.2.2.1 (hg _ nX11_9.2.1); ⟨(c, i), fun q hq => by cases hq; exact h⟩
    | 9 => exact let ⟨c, i, h⟩ := u_known (C := RX9) (T := TX9) (N := 6) (n := 6) hg cbX9.2.2.1 (hg _ nX11_12.2.1); ⟨(c, i), fun q hq => by cases hq; exact h⟩
    | 10 => exact let ⟨c, i, h⟩ := u_known (C := RX10) (T := TX10) (N := 11) (n := 11) hg cbX10.2.2.1 (hg _ nX11_72.2.1); ⟨(c, i), fun q hq => by cases hq; exact h⟩
    | 11 => exact let ⟨c, i, h⟩ := u_known (C := RX11) (T := TX11) (N := 14) (n := 14) hg cbX11.2.2.1 (hg _ nL_7.2.1); ⟨(c, i), fun q hq => by cases hq; exact h⟩
    | 12 => exact let ⟨c, i, h⟩ := u_known (C := RX12) (T := TX12) (N := 70) (n := 70) hg cbX12.2.2.1 (hg _ nL_10.2.1); ⟨(c, i), fun q hq => by cases hq; exact h⟩
    | k + 13 => exact ⟨(0, fun _ => 0), fun q hq => by simp [vwCl] at hq⟩
  obtain ⟨f, hf⟩ := Classical.axiomOfChoice h0
  exact ⟨(fun k => (f k).1, fun k => (f k).2), fun k q hq => hf k q hq⟩
theorem text_all {b : Nat} {s : State} (hts : ∀ w ∈ lw_tbl, w.before #[Value.ref b] s = true) (hgv : (Jvm.Cond.and given_1 narrow_1).before #[Value.ref b] s = true) : ∃ aS aV : Nat, ∀ ad : Nat → Nat, ad 9000 = aS → ad 9001 = aV → SX ad (fun q => s.heap.size ≤ q) s s.heap := by
  have hs := flat_of_before _ hgv
  have hA : ∀ a : Nat, a < s.heap.size → ¬ (fun q => s.heap.size ≤ q) a := fun a h => Nat.not_le.mpr h
  obtain ⟨adK, adV, hS, hT⟩ := vk_Sof (args := #[Value.ref b]) (s := s) (N := 1) (tm := fun _ => Term.string "NoEcho$Reader" 142) (len := [9]) (byt := [[108, 116, 115, 99, 97, 98, 114, 100, 107]]) (A := fun q => s.heap.size ≤ q)
    (fun i hi => by have : i = 0 := by omega
                    subst this; decide)
    (fun i hi => hs _ (by decide +kernel)) (fun i hi => hs _ (by decide +kernel)) (fun i hi => hs _ (by decide +kernel))
    (fun i hi => by have : i = 0 := by omega
                    subst this; exact hs _ (by decide +kernel))
    (fun i hi j hj => by
      have : i = 0 := by omega
      subst this
      have hj : j < 9 := hj
      match j, hj with
        | 0, _ => exact hs _ (by decide +kernel)
        | 1, _ => exact hs _ (by decide +kernel)
        | 2, _ => exact hs _ (by decide +kernel)
        | 3, _ => exact hs _ (by decide +kernel)
        | 4, _ => exact hs _ (by decide +kernel)
        | 5, _ => exact hs _ (by decide +kernel)
        | 6, _ => exact hs _ (by decide +kernel)
        | 7, _ => exact hs _ (by decide +kernel)
        | 8, _ => exact hs _ (by decide +kernel)
        | j + 9, hj => exact absurd hj (by omega))
    (fun i j hi hj hne => absurd (by omega : i = j) hne) hA
  refine ⟨adK 0, adV 0, fun ad h1 h2 => ⟨?_, ?_, ?_⟩⟩
  · rw [h1]
    exact vk_R.of (hts _ (List.mem_of_getElem? (i := 729) (by decide +kernel))) (hT 0 (by decide))
  · rw [h1, h2]
    refine ⟨fun i hi => ?_, fun i j hi hj _ => by omega⟩
    have : i = 0 := by omega
    subst this
    exact hS.1 0 (by decide)
  · exact va_Zof (args := #[Value.ref b]) (hts _ (List.mem_of_getElem? (i := 743) (by decide +kernel))) (hts _ (List.mem_of_getElem? (i := 128) (by decide +kernel))) (va_eqt (hs _ (by decide +kernel))) hA
set_option maxHeartbeats 4000000 in
set_option maxRecDepth 100000 in
/-- the law's walk, out of what its functional text answers -/
theorem start_of {p : Program} {e : Env} {s : State} {m : MethodId} {below : List Frame} {meth : Method} {c : Code} (l : Launch) {b L : Nat} {xs : Nat → Int32} {h1 : AHp} (hpure : m_L_law_18 L xs FU 0 hE0 = some (1, h1)) (C0 : lw_At p s m meth c b L xs) : W p l e room_1 s m #[Value.ref b] below meth c s.heap [] 0 0 (lw_Z below #[Value.ref b] s) (entryFrame m ([Value.ref b] : List Value).toArray 4) := by
  obtain ⟨hx, hb, hr, hml, hown, hts, hX, hbl, hlocks, hgv⟩ := C0
  have hg : ∀ w ∈ gtbl, w.before #[Value.ref b] s = true := fun w hw => hts w (List.mem_filter.mp hw).1
  obtain ⟨D, hD0⟩ := known_all hg
  obtain ⟨aS, aV, hSx⟩ := text_all hts hgv
  have hNX : NX s := fun w hw => by
    have h2 := (List.mem_filter.mp hw).2
    have h3 := hts w (List.mem_filter.mp hw).1
    cases w <;> first | exact Bool.noConfusion (show false = true from h2) | exact va_Nw.of rfl h3
  obtain ⟨ad, ha0, ha1, ha2⟩ : ∃ ad : Nat → Nat, ad 9000 = aS ∧ ad 9001 = aV ∧ ad 9002 = b := ⟨fun k => if k = 9000 then aS else if k = 9001 then aV else b, rfl, rfl, rfl⟩
  have hl := lv_entry ([.ref b]) (n := 4) (Nat.le_of_ble_eq_true rfl)
  rw [lg_entry_eq]
  generalize (lg_sl ([.ref b]) ++ List.replicate (4 - (lg_sl ([.ref b])).length) Slot.unset).toArray = ls at hl ⊢
  have hl : lv_has ls 4 (cvL ad [(0, .ref 9002)]) := by
    show lv_has ls 4 [(0, .ref (ad 9002))]
    rw [ha2]; exact hl
  refine mk_law L xs p (D := D) (ad := ad) (ca := fun _ => 0) (A := fun q => s.heap.size ≤ q) (H := s.heap) (locs := []) ⟨⟨hx, hb, hml, hr, hown, hg, hlocks, fun h => absurd (show ("law" : String) = "<init>" from h) (by decide)⟩, ⟨Nat.le_of_ble_eq_true rfl, Nat.le_of_ble_eq_true rfl, Nat.le_of_ble_eq_true rfl, Nat.le_of_ble_eq_true rfl⟩, ⟨hNX, hSx ad ha0 ha1, fun _ _ _ => ⟨rfl, rfl, rfl, rfl⟩, fun _ _ => ⟨Or.inr rfl, Or.inr rfl⟩⟩, fun _ h => h, ⟨hD0, fun k q h => by simp [tl] at h⟩, fun k q h => by simp [wl] at h, ⟨fun i j p q h => by simp [wl] at h, fun k q h => by simp [wl] at h⟩, va_S.rf⟩ hl ?_
  intro H2 locs2 ls2 ad2 ca2 hag C2 hl2
  obtain ⟨⟨_, _, _, _, _, _, _, _⟩, hRm, ⟨hN2, hSx2, _⟩, hA2, hK2, hP2, hD2, hS2⟩ := id C2
  rw [wl_rho] at hP2 hD2
  have hb2 : ad2 9002 = b := by rw [hag 9002 (by omega), ha2]
  refine w_L_law_18 L xs FU 0 hE0 1 h1 hpure (D := D) (ad := ad2) (ca := ca2) (A := fun q => s.heap.size ≤ q) (H := H2) (locs := locs2) ⟨⟨hx, hb, hml, hr, hown, hg, hlocks⟩, ⟨Nat.le_of_ble_eq_true rfl, Nat.le_of_ble_eq_true rfl, Nat.le_of_ble_eq_true rfl, Nat.le_of_ble_eq_true rfl⟩, ⟨hN2, hSx2, fun L2 xs2 hq => ?_⟩, hA2, hK2, hP2, hD2, hS2⟩ ?_ ?_
  · cases hq
    rw [hb2]
    exact ⟨hX, hbl, Nat.not_le.mpr hbl⟩
  · exact (lv_sub hl2 [3, 2, 1, 0] rfl)
  · intro H3 locs3 pc3 ls3 C3 hxd
    rcases hxd with ⟨v, hv, hdg, _⟩ | ⟨v, hv, hdg, _⟩ | ⟨hv, hdg, _⟩
    · cases hv
      refine va_forget (fun q hq => C3.2.2.2.2.2.2.2.2.2 q hq) ?_
      refine W.widen (k := 600000) (n := 7302250) (Nat.le_of_ble_eq_true rfl) (Nat.le_of_ble_eq_true rfl) ?_
      exact lw_ret hx hb hr hlocks hdg
    · cases hv
    · cases hv
