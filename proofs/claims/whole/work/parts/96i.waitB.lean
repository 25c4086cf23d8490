theorem mask0 {L m : Int32} {n : Nat} (h : L &&& m = 0) (hm : tb m n = true) : tb L n = false := by
  have := tb_and L m n
  rw [h, tb_zero, hm, Bool.and_true] at this
  exact this.symm
def fl (L m : Int32) : Bool := !decide (L &&& m = 0)
theorem fl_t {L m : Int32} {n : Nat} (hm : tb m n = true) (h : tb L n = true) : fl L m = true := by
  unfold fl
  cases hd : decide (L &&& m = 0) with
  | false => rfl
  | true => rw [mask0 (of_decide_eq_true hd) hm] at h; cases h
theorem fl_f {L m : Int32} (h : L &&& m = 0) : fl L m = false := by unfold fl; rw [decide_eq_true h]; rfl
theorem fl_n {L m : Int32} (h : ¬ L &&& m = 0) : fl L m = true := by unfold fl; rw [decide_eq_false h]; rfl
def dq (E : En) (q : Nat) : Int32 := if 0 ≤ nI q - 1 then E.col (nI q - 1).toNatClampNeg else 0
theorem dq_s {E : En} {s : Nat} (hs : s < 6) : dq E (s + 1) = E.col s := by
  unfold dq
  have e : nI (s + 1) - 1 = nI s := pk_sub (a := s + 1) (b := 1) (by omega)
  rw [e, if_pos (show 0 ≤ nI s by rw [i32_le, nI_toInt (by omega)]; simp only [tIall]; omega), nI_clamp (by omega)]
def sEq (E : En) (w c : Bool) (q q' : Nat) : Prop := (w = true → q = q') ∧ (c = true → dq E q = dq E q')
theorem wq_dep {E : En} {g : AHp} (x : CX E g) {i j a b q s a' b' q' s' z : Nat} (hs : s < 6) (hs' : s' < 6)
    (h2 : tb (E.msk 1) 2 = true → s = s') (h3 : tb (E.msk 1) 3 = true → E.col s = E.col s') (h4 : tb (E.msk 1) 4 = true → a = a') (h5 : tb (E.msk 1) 5 = true → b = b')
    (h6 : tb (E.msk 1) 6 = true → q = q') (h7 : tb (E.msk 1) 7 = true → dq E q = dq E q') (h8 : tb (E.msk 1) 8 = true → i = j) : wq E i a b q s z = wq E j a' b' q' s' z := by
  unfold wq En.anyOk
  refine anyT_congr 12 (fun t ht => ?_)
  rw [show E.ok 1 (nI s) (nI t) (nI a) (nI b) (nI q - 1) (nI (E.m + i)) z = E.ok 1 (nI s') (nI t) (nI a') (nI b') (nI q' - 1) (nI (E.m + j)) z from x.dep (fun n hn hb => ?_)]
  have hc : ∀ u, u < 6 → (nI u).toNatClampNeg = u := fun u hu => nI_clamp (by omega)
  match n, hn, hb with
  | 0, _, _ => rfl
  | 1, _, _ => rfl
  | 2, _, hb => show nI s = nI s'; rw [h2 hb]
  | 3, _, hb => show E.col (nI s).toNatClampNeg = E.col (nI s').toNatClampNeg; rw [hc s hs, hc s' hs', h3 hb]
  | 4, _, hb => show nI a = nI a'; rw [h4 hb]
  | 5, _, hb => show nI b = nI b'; rw [h5 hb]
  | 6, _, hb => show (if 0 ≤ nI q - 1 then nI q - 1 else 0) = (if 0 ≤ nI q' - 1 then nI q' - 1 else 0); rw [h6 hb]
  | 7, _, hb => exact h7 hb
  | 8, _, hb => show nI (E.m + i) = nI (E.m + j); rw [h8 hb]
section BG
variable {E : En} {g : AHp}
theorem wq_S (x : CX E g) (hk : fl (E.msk 1) 12 = false) (i a b q s s2 z : Nat) (h1 : s < 6) (h2 : s2 < 6) : wq E i a b q s z = wq E i a b q s2 z :=
  wq_dep x h1 h2 (fun h => by rw [fl_t (m := 12) (by decide) h] at hk; cases hk) (fun h => by rw [fl_t (m := 12) (by decide) h] at hk; cases hk) (fun _ => rfl) (fun _ => rfl) (fun _ => rfl) (fun _ => rfl) (fun _ => rfl)
theorem wq_K (x : CX E g) (hk : fl (E.msk 1) 256 = false) (i j a b q s z : Nat) (h1 : s < 6) : wq E i a b q s z = wq E j a b q s z :=
  wq_dep x h1 h1 (fun _ => rfl) (fun _ => rfl) (fun _ => rfl) (fun _ => rfl) (fun _ => rfl) (fun _ => rfl) (fun h => by rw [fl_t (m := 256) (by decide) h] at hk; cases hk)
theorem wq_Q (x : CX E g) {i a b q a' b' q' s s' z : Nat} (hs : s < 6) (hs' : s' < 6) (h : wSim (fl (E.msk 1) 32 || fl (E.msk 1) 16) (fl (E.msk 1) 32) (fl (E.msk 1) 192) (sEq E (fl (E.msk 1) 68) (fl (E.msk 1) 136)) a b q a' b' q') (he : sEq E (fl (E.msk 1) 68) (fl (E.msk 1) 136) (s + 1) (s' + 1)) : wq E i a b q s z = wq E i a' b' q' s' z := by
  refine wq_dep x hs hs' (fun h2 => ?_) (fun h3 => ?_) (fun h4 => ?_) (fun h5 => ?_) (fun h6 => ?_) (fun h7 => ?_) (fun _ => rfl)
  · have := he.1 (fl_t (by decide) h2); omega
  · have := he.2 (fl_t (by decide) h3); rw [dq_s hs, dq_s hs'] at this; exact this
  · exact h.1 (by rw [fl_t (m := 16) (by decide) h4, Bool.or_true])
  · exact h.2.1 (fl_t (by decide) h5)
  · exact (h.2.2 (fl_t (by decide) h6)).1 (fl_t (by decide) h6)
  · exact (h.2.2 (fl_t (by decide) h7)).2 (fl_t (by decide) h7)
end BG
