/-! all pairs of calls, put together -/
def Inv (n : Nat) (h : AHp) : Prop := BI h ∧ LI h ∧ SPR h ∧ ∃ c, c ≤ n ∧ MIx h c
/-- what a pair of calls may change without touching the laws and the memo -/
def PFree (P : Nat → Nat → Bool) : Prop := P 3 3 = false ∧ P 3 4 = false ∧ P 3 5 = false ∧ P 31 1 = false ∧ ∀ i, P 32 i = false
theorem SPR.ch {P : Nat → Nat → Bool} {h g : AHp} (x : SPR h) (c : Ch P h g) (p : PFree P) : SPR g := by
  unfold SPR at x ⊢
  rw [(c 3 3 p.1).2.2, (c 3 4 p.2.1).2.2, (c 3 5 p.2.2.1).2.2]; exact x
theorem Inv.step {n : Nat} {h : AHp} (x : Inv n h) : Inv (n + 1) h := ⟨x.1, x.2.1, x.2.2.1, by
  obtain ⟨c, h1, h2⟩ := x.2.2.2
  exact ⟨c, by omega, h2⟩⟩
section PUT
variable {n : Nat} {h : AHp} {r : Type} {P : Nat → Nat → Bool} {C M : AHp → Option (r × AHp)}
theorem SimB.inv (x : Inv n h) (s : SimB P h C M) (p : PFree P) (p2 : ∀ k i, 7 ≤ k → k ≤ 41 → P k i = false) (p3 : ∀ k i, 77 ≤ k → k ≤ 83 → P k i = false) : Sim (Inv (n + 1)) h C M := by
  obtain ⟨v, h1, h2, e1, e2, b, c⟩ := s
  obtain ⟨x1, ⟨cl0, cl1, K0, K1, v0, v1, lr⟩, x3, cc, x4, x5⟩ := x
  have sm : sameLM h h2 := sameLM.ch c (fun k u1 u2 i => p3 k i u1 u2)
  exact ⟨v, h1, h2, e1, e2, b, ⟨cl0, cl1, K0, K1, v0, v1, lr.1.pc c ⟨p.1, p.2.1⟩ (fun k u1 u2 i => p2 k i u1 u2), lr.2.1.same sm, lr.2.2.same sm⟩, x3.ch c p, cc, by omega, x5.ch c p.2.2.2.1 p.2.2.2.2⟩
theorem SimL.inv (x : Inv n h) (s : SimL P h C M) (p : PFree P) : Sim (Inv (n + 1)) h C M := by
  obtain ⟨v, h1, h2, e1, e2, b, l, c⟩ := s
  obtain ⟨x1, x2, x3, cc, x4, x5⟩ := x
  exact ⟨v, h1, h2, e1, e2, b, l, x3.ch c p, cc, by omega, x5.ch c p.2.2.2.1 p.2.2.2.2⟩
theorem SimK.inv (x : Inv n h) (hn : n < 512) (s : ∀ c, c < 1000000 → MIx h c → SimK P c h C M) (p : P 3 3 = false ∧ P 3 4 = false ∧ P 3 5 = false) : Sim (Inv (n + 1)) h C M := by
  obtain ⟨x1, x2, x3, cc, x4, x5⟩ := x
  obtain ⟨v, h1, h2, e1, e2, b, l, m, c⟩ := s cc (by omega) x5
  refine ⟨v, h1, h2, e1, e2, b, l, ?_, ?_⟩
  · unfold SPR at x3 ⊢
    rw [(c 3 3 p.1).2.2, (c 3 4 p.2.1).2.2, (c 3 5 p.2.2).2.2]; exact x3
  · rcases m with m | m
    · exact ⟨cc, by omega, m⟩
    · exact ⟨cc + 1, by omega, m⟩
end PUT
theorem LI.cn {h : AHp} (x : LI h) : LCn h := by
  obtain ⟨cl0, cl1, K0, K1, v0, v1, ⟨⟨l0, l1, hne⟩, m0, m1⟩⟩ := x
  exact ⟨⟨l0.1, by rw [l0.2.2.1, m0.2.1]⟩, l1.1, by rw [l1.2.2.1, m1.2.1]⟩
theorem inv_sims {n : Nat} {h : AHp} (x : Inv n h) (hn : n < 512) : Sims (Inv (n + 1)) h := by
  have hB := x.1
  have hL := x.2.1
  have fr : ∀ {Q : Nat → Nat → Bool}, (∀ k i, k = 3 ∨ k = 31 ∨ k = 32 → Q k i = false) → PFree Q := fun hq => ⟨hq 3 3 (by omega), hq 3 4 (by omega), hq 3 5 (by omega), hq 31 1 (by omega), fun i => hq 32 i (by omega)⟩
  refine ⟨?_, ?_, ?_, ?_, ?_, ?_, ?_, ?_, ?_, ?_, ?_, ?_, ?_, ?_, ?_, ?_, ?_, ?_, ?_, ?_, ?_, ?_, ?_, ?_⟩
  · intro a1 a2 a3 a4 a5
    refine SimB.inv x (sim_feed a1 a2 a3 a4 a5 hB) (fr (fun k i hk => ?_)) (fun k i u1 u2 => ?_) (fun k i u1 u2 => ?_)
    all_goals (simp only [Bool.or_eq_false_iff, Bool.and_eq_false_iff, beq_eq_false_iff_ne]; omega)
  · intro a1 a2
    refine SimL.inv x (sim_thing a1 a2 hB hL) (fr (fun k i hk => ?_))
    simp only [Bool.or_eq_false_iff, Bool.and_eq_false_iff, beq_eq_false_iff_ne, ble_f]; omega
  · intro a1
    exact SimB.inv x (sim_lengths a1 hB) (fr (fun k i hk => rfl)) (fun k i u1 u2 => rfl) (fun k i u1 u2 => rfl)
  · intro a1 a2
    refine SimB.inv x (sim_colour a1 a2 hB) (fr (fun k i hk => ?_)) (fun k i u1 u2 => ?_) (fun k i u1 u2 => ?_)
    all_goals (simp only [Bool.or_eq_false_iff, Bool.and_eq_false_iff, beq_eq_false_iff_ne]; omega)
  · intro a1 a2
    obtain ⟨v, h1, h2, e1, e2, b, l, s, c⟩ := sim_law a1 a2 hB hL x.2.2.1
    obtain ⟨cc, x4, x5⟩ := x.2.2.2
    refine ⟨v, h1, h2, e1, e2, b, l, s, cc, by omega, x5.ch c (by rfl) (fun i => ?_)⟩
    simp only [Bool.or_eq_false_iff, Bool.and_eq_false_iff, beq_eq_false_iff_ne, ble_f]; omega
  · intro a1 a2 a3 a4
    refine SimL.inv x (sim_may a1 a2 a3 a4 hB hL) (fr (fun k i hk => ?_))
    simp only [Bool.or_eq_false_iff, Bool.and_eq_false_iff, beq_eq_false_iff_ne, ble_f]; omega
  · intro a1 a2 a3
    refine SimL.inv x (sim_ways a1 a2 a3 hB hL) (fr (fun k i hk => ?_))
    simp only [Bool.or_eq_false_iff, Bool.and_eq_false_iff, beq_eq_false_iff_ne, ble_f]; omega
  · intro a1 a2 a3
    refine SimL.inv x (sim_say a1 a2 a3 hB hL) (fr (fun k i hk => ?_))
    simp only [Bool.or_eq_false_iff, Bool.and_eq_false_iff, beq_eq_false_iff_ne, ble_f]; omega
  · intro a1 a2
    refine SimL.inv x (sim_said a1 a2 hB hL) (fr (fun k i hk => ?_))
    simp only [Bool.or_eq_false_iff, Bool.and_eq_false_iff, beq_eq_false_iff_ne, ble_f]; omega
  · intro a1
    refine SimL.inv x (sim_paid a1 hB hL) (fr (fun k i hk => ?_))
    simp only [Bool.or_eq_false_iff, Bool.and_eq_false_iff, beq_eq_false_iff_ne, ble_f]; omega
  · intro a1 a2
    refine SimL.inv x (sim_judged a1 a2 hB hL) (fr (fun k i hk => ?_))
    simp only [Bool.or_eq_false_iff, Bool.and_eq_false_iff, beq_eq_false_iff_ne, ble_f]; omega
  · intro a1 a2 a3
    exact SimK.inv x hn (fun c hc hm => sim_held a1 a2 a3 hB hL hm hc) ⟨by rfl, by rfl, by rfl⟩
  · intro a1 a2 a3
    exact SimK.inv x hn (fun c hc hm => sim_coded a1 a2 a3 hB hL hm hc) ⟨by rfl, by rfl, by rfl⟩
  · intro a1 a2
    refine SimL.inv x (sim_heard a1 a2 hB hL) (fr (fun k i hk => ?_))
    simp only [Bool.or_eq_false_iff, Bool.and_eq_false_iff, beq_eq_false_iff_ne, ble_f]; omega
  · intro a1 a2 a3
    exact SimK.inv x hn (fun c hc hm => sim_anyTalk a1 a2 a3 hB hL hm hc) ⟨by rfl, by rfl, by rfl⟩
  · intro a1 a2 a3 a4 a5 a6
    exact SimK.inv x hn (fun c hc hm => sim_silenced a1 a2 a3 a4 a5 a6 hB hL hm hc) ⟨by rfl, by rfl, by rfl⟩
  · intro a1 a2
    exact SimK.inv x hn (fun c hc hm => sim_waited a1 a2 hB hL hm) ⟨by rfl, by rfl, by rfl⟩
  · intro a1 a2
    exact SimK.inv x hn (fun c hc hm => sim_round a1 a2 hB hL hm hc) ⟨by rfl, by rfl, by rfl⟩
  · intro a1
    refine SimB.inv x (sim_seed a1 hB) (fr (fun k i hk => ?_)) (fun k i u1 u2 => ?_) (fun k i u1 u2 => ?_)
    all_goals (simp only [Bool.or_eq_false_iff, Bool.and_eq_false_iff, beq_eq_false_iff_ne]; omega)
  · intro a1
    refine SimL.inv x (sim_draw a1 hB hL) (fr (fun k i hk => ?_))
    simp only [Bool.or_eq_false_iff, Bool.and_eq_false_iff, beq_eq_false_iff_ne, ble_f]; omega
  · refine SimB.inv x (sim_keep hB) (fr (fun k i hk => ?_)) (fun k i u1 u2 => ?_) (fun k i u1 u2 => ?_)
    all_goals (simp only [Bool.or_eq_false_iff, Bool.and_eq_false_iff, beq_eq_false_iff_ne]; omega)
  · refine SimB.inv x (sim_undo hB) (fr (fun k i hk => ?_)) (fun k i u1 u2 => ?_) (fun k i u1 u2 => ?_)
    all_goals (simp only [Bool.or_eq_false_iff, Bool.and_eq_false_iff, beq_eq_false_iff_ne]; omega)
  · intro a1
    refine SimB.inv x (sim_check a1 hB) (fr (fun k i hk => ?_)) (fun k i u1 u2 => ?_) (fun k i u1 u2 => ?_)
    all_goals (simp only [Bool.or_eq_false_iff, Bool.and_eq_false_iff, beq_eq_false_iff_ne]; omega)
  · intro a1
    exact SimB.inv x (sim_count a1 hB hL.cn) (fr (fun k i hk => rfl)) (fun k i u1 u2 => rfl) (fun k i u1 u2 => rfl)
