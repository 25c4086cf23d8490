/-! held and coded: fewest -/
theorem bo_b {E : En} {H : HPar} {d i a b w j : Nat} (hd : d ≤ 12) (h : bo (FH E H) d i a b = some (w, j)) : w ≤ 500 ∧ j ≤ 24 ∧ 1 ≤ j := by
  obtain ⟨⟨a1, a2, a3, r, a4, a5⟩, -⟩ := bw_some 24 _ j h
  have := wd_le d (i + 1) j a r a4
  omega
def encB : Option (Nat × Nat) → Int32
  | none => -1
  | some (w, _) => nI w
def encJ : Option (Nat × Nat) → Int32
  | none => 0
  | some (_, j) => nI j
theorem encV_put {o : Option (Nat × Nat)} (hw : ∀ w j, o = some (w, j) → w ≤ 500 ∧ j ≤ 24) : ((encB o) <<< ((5 : Int32) &&& 31)) ||| encJ o = encV o := by
  cases o with
  | none => decide
  | some wj => obtain ⟨w, j⟩ := wj; have := hw w j rfl; exact encV_mk this.1 this.2
theorem encB_map (o : Option (Nat × Nat)) : encB o = encW (o.map Prod.fst) := by
  cases o with
  | none => rfl
  | some wj => rfl
theorem fewC {E : En} {H : HPar} {c B : Nat} (hB12 : B ≤ H.n) : ∀ (d i a b f : Nat) (D : Nat) (g : AHp), i + d = H.n → d < f → a ≤ 24 → b ≤ 24 → CX E g → HX E H g → HJ E H c B D g → dr (FH E H) d i a b ≤ B →
    ∃ D2 g1, m_X1_fewest f (nI i) (nI a) (nI b) g = some (encW (wd (FH E H) d i a b), g1) ∧ CX E g1 ∧ HX E H g1 ∧ HJ E H c B D2 g1 ∧ D ≤ D2 ∧ dr (FH E H) d i a b ≤ D2 ∧ (i < H.n → ∃ v, MP g1 c (keyH E H i a b) v) ∧ (∀ key, (∃ v, MP g c key v) → ∃ v, MP g1 c key v) ∧ Ch PVh g g1 := by
  have hm := E.hm
  have hn := H.hn
  intro d
  induction d with
  | zero =>
    intro i a b f D g hi hf ha hb x hx hj hdr
    obtain ⟨f, rfl⟩ : ∃ a, f = a + 1 := ⟨f - 1, by omega⟩
    have hi2 : i ≤ B := hdr
    have c0 : Ch PVh g (sI g 51 11 (nI (max D i))) := Ch.rf.sI rfl
    refine ⟨max D i, sI g 51 11 (nI (max D i)), ?_, x.po (Ch.rf.sI rfl), hx.pvh c0, hj.deep (Nat.le_max_left _ _) (Nat.max_le.mpr ⟨hj.2.1, hi2⟩), Nat.le_max_left _ _, Nat.le_max_right _ _, fun h => by omega, fun key h => h, c0⟩
    rw [m_X1_fewest]; unfold m_X1_fewest_b
    have emax : (if (hI g 51 11) < nI i then nI i else hI g 51 11) = nI (max D i) := by
      rw [hj.1]
      have := hj.2.1
      by_cases h : D < i
      · rw [if_pos (nI_lt h (by omega)), Nat.max_eq_right (by omega)]
      · rw [if_neg (nI_nlt (by omega) (by omega)), Nat.max_eq_left (by omega)]
    rw [emax, lt_eq, if_neg (nI_pos (by omega)), if_pos]
    · rfl
    · rw [hI_sI, if_neg (by omega), hx.1.2.1]; exact nI_le (by omega) (by omega)
  | succ d ih =>
    intro i a b f D g hi hf ha hb x hx hj hdr
    obtain ⟨f, rfl⟩ : ∃ a, f = a + 1 := ⟨f - 1, by omega⟩
    have hi2 : i ≤ B := Nat.le_trans (dr_ge (F := FH E H) (d + 1) i a b) hdr
    have hkb := keyH_lt (E := E) (H := H) (i := i) (show i < 12 by omega) ha hb
    have hki := GH_key (H := H) x (i := i) ha hb
    have hni : H.n - i - 1 = d := by omega
    rw [hni] at hki
    obtain ⟨kd1, kd2, kd3⟩ := keyH_dec (E := E) (H := H) (i := i) ha hb
    have hdrk : dr (FH E H) (H.n - keyH E H i a b / 625) (keyH E H i a b / 625) (keyH E H i a b % 625 / 25) (keyH E H i a b % 25) = dr (FH E H) (d + 1) i a b := by
      rw [kd1, kd2, kd3, show H.n - i = d + 1 by omega]
      exact (dr_dep (F := FH E H) (fun i a b a2 b2 l h1 h2 => FH_dep x i a b a2 b2 l h1 h2) (d + 1) i a b _ _ (col_same a b).1 (col_same a b).2).symm
    have hbok : bo (FH E H) (H.n - keyH E H i a b / 625 - 1) (keyH E H i a b / 625) (keyH E H i a b % 625 / 25) (keyH E H i a b % 25) = bo (FH E H) d i a b := by
      rw [kd1, kd2, kd3, hni]
      exact (bo_dep (F := FH E H) (fun i a b a2 b2 l h1 h2 => FH_dep x i a b a2 b2 l h1 h2) d i a b _ _ (col_same a b).1 (col_same a b).2).symm
    have hbob : ∀ w j, bo (FH E H) d i a b = some (w, j) → w ≤ 500 ∧ j ≤ 24 := fun w j h => by have := bo_b (show d ≤ 12 by omega) h; omega
    /- the deepest -/
    have emax : (if (hI g 51 11) < nI i then nI i else hI g 51 11) = nI (max D i) := by
      rw [hj.1]
      have := hj.2.1
      by_cases h : D < i
      · rw [if_pos (nI_lt h (by omega)), Nat.max_eq_right (by omega)]
      · rw [if_neg (nI_nlt (by omega) (by omega)), Nat.max_eq_left (by omega)]
    have c0 : Ch PVh g (sI g 51 11 (nI (max D i))) := Ch.rf.sI rfl
    have x0 : CX E (sI g 51 11 (nI (max D i))) := x.po (Ch.rf.sI rfl)
    have hx0 := hx.pvh c0
    have hj0 := hj.deep (D2 := max D i) (Nat.le_max_left _ _) (Nat.max_le.mpr ⟨hj.2.1, hi2⟩)
    have pr0 : ∀ key, (∃ v, MP g c key v) → ∃ v, MP (sI g 51 11 (nI (max D i))) c key v := fun key h => h
    have e0 : m_X1_fewest (f + 1) (nI i) (nI a) (nI b) g = (bd (m_X1_keyOf (nI i) (nI a) (nI b) (sI g 51 11 (nI (max D i)))) fun r20 h21 => (bd (m_X3_has r20 h21) fun r22 h23 => (if r22 = 0 then (if nI i = 0 then (m_X1_fewest_b_90 (m_X1_fewest f) (nI i) (nI a) r20 (nI a) (nI b) (hI h23 51 9) h23) else (gd (inb (nI i - 1) 12) (m_X1_fewest_b_90 (m_X1_fewest f) (nI i) (nI a) r20 (nI a) (nI b) (hI h23 52 (nI i - 1).toNatClampNeg) h23))) else (bd (m_X3_get r20 h23) fun r25 h26 => (some (r25 >>> ((5 : Int32) &&& 31), h26)))))) := by
      rw [m_X1_fewest]; unfold m_X1_fewest_b
      rw [emax, lt_eq, if_neg (nI_pos (by omega)), if_neg (by rw [hx0.1.2.1]; exact nI_ge (by omega) (by omega)), if_pos (show nI i < 12 from nI_lt (b := 12) (by omega) (by omega))]
    rw [e0]
    generalize sI g 51 11 (nI (max D i)) = g0 at c0 x0 hx0 hj0 pr0
    have hDi : i ≤ max D i := Nat.le_max_right _ _
    have hDD : D ≤ max D i := Nat.le_max_left _ _
    generalize max D i = D0 at hj0 hDi hDD
    rw [keyOfC hx0, bd_some]
    rcases hj0.2.2.1.hd hkb with hh | ⟨v, hv, hmp, hh, hget⟩
    rotate_left
    · have h4 := (hj0.2.2.2 _ v hkb hmp (by rw [kd1]; omega)).1
      rw [hdrk] at h4
      refine ⟨D0, g0, ?_, x0, hx0, hj0, hDD, h4, fun _ => ⟨v, hmp⟩, pr0, c0⟩
      rw [hh, bd_some, if_neg one_ne, hget, bd_some, (hki v).mp hv, encV_shr (d := d) hbob]; rfl
    rw [hh, bd_some, if_pos rfl]
    /- asked -/
    obtain ⟨es, cs, xs, ss⟩ := x0.stand (nI a) (nI b) (rrH E H i) (nI (E.m + i))
    have hrr : -1 ≤ (rrH E H i).toInt ∧ (rrH E H i).toInt ≤ 5 := by
      unfold rrH; split
      · exact E.hr
      · have := H.hw (i - 1) (by omega); omega
    obtain ⟨y, g1, e1, c1, x1, s1, q1⟩ := xs.ask ss H.laws (H.wat i) (H.hw i (by omega)) hrr (H.len i) (fun j hj hb => H.hl i (by omega) j hj hb)
    have c1' := PCl_PC c1
    have c01 := cs.trans c1'
    have hx1 := hx0.pvh (pc_pvh c01)
    have hj1 := hj0.ch c01 rfl rfl (fun _ => rfl)
    have pr1 : ∀ key, (∃ v, MP g0 c key v) → ∃ v, MP g1 c key v := fun key ⟨v, h⟩ => ⟨v, h.ch c01 (fun _ => rfl)⟩
    have hy : ∀ j, j < 32 → tb y j = FH E H i a b j := fun j hj => by rw [q1 j hj]; rfl
    have gi : inb (nI i) 12 := inb_nI (by omega) (by omega)
    have e90 : ∀ sp, sp = rrH E H i → m_X1_fewest_b_90 (m_X1_fewest f) (nI i) (nI a) (nI (keyH E H i a b)) (nI a) (nI b) sp g0 = m_X1_fewest_b_139 (m_X1_fewest f) FU (nI i) (nI a) (nI (keyH E H i a b)) y (-1) 0 1 g1 := fun sp hsp => by
      have hxs := hx0.pvh (pc_pvh cs)
      unfold m_X1_fewest_b_90
      rw [hx0.1.2.2.2.1, nI_add, hsp, es, bd_some, gd_pos gi, gd_pos gi, gd_pos gi, nI_clamp (by omega), hxs.1.1, (hxs.2.1 i (by omega)).1, (hxs.2.1 i (by omega)).2.1, (hxs.2.1 i (by omega)).2.2, e1, bd_some]
    have e139 : (if nI i = 0 then (m_X1_fewest_b_90 (m_X1_fewest f) (nI i) (nI a) (nI (keyH E H i a b)) (nI a) (nI b) (hI g0 51 9) g0) else (gd (inb (nI i - 1) 12) (m_X1_fewest_b_90 (m_X1_fewest f) (nI i) (nI a) (nI (keyH E H i a b)) (nI a) (nI b) (hI g0 52 (nI i - 1).toNatClampNeg) g0))) = m_X1_fewest_b_139 (m_X1_fewest f) FU (nI i) (nI a) (nI (keyH E H i a b)) y (-1) 0 1 g1 := by
      by_cases hi0 : i = 0
      · rw [if_pos (by rw [hi0]; rfl)]
        exact e90 _ (by rw [hx0.1.2.2.1]; unfold rrH; rw [if_pos hi0])
      · rw [if_neg (fun z => hi0 ((nI_zero_iff (by omega)).mp z)), show nI i - 1 = nI (i - 1) from pk_sub (a := i) (b := 1) (by omega), gd_pos (inb_nI (by omega) (by omega)), nI_clamp (by omega)]
        exact e90 _ (by rw [(hx0.2.1 (i - 1) (by omega)).1]; unfold rrH; rw [if_neg hi0])
    rw [e139]
    /- the end: what was found is put -/
    have done : ∀ (D2 : Nat) (g2 : AHp), CX E g2 → HX E H g2 → HJ E H c B D2 g2 → dr (FH E H) (d + 1) i a b ≤ D2 → (∀ w j, bo (FH E H) d i a b = some (w, j) → i + 1 < H.n → ∃ v, MP g2 c (keyH E H (i + 1) j a) v) → ∃ g3, m_X1_fewest_b_233 (m_X1_fewest f) (nI (keyH E H i a b)) (encB (bo (FH E H) d i a b)) (encJ (bo (FH E H) d i a b)) g2 = some (encW (wd (FH E H) (d + 1) i a b), g3) ∧ CX E g3 ∧ HX E H g3 ∧ HJ E H c B D2 g3 ∧ (∃ v, MP g3 c (keyH E H i a b) v) ∧ (∀ key, (∃ v, MP g2 c key v) → ∃ v, MP g3 c key v) ∧ Ch PVh g2 g3 := by
      intro D2 g2 x2 hx2 hj2 hd2 hcl
      obtain ⟨g3, e3, m3, p3, o3, c3⟩ := hj2.2.2.1.put hkb ((hki (encV (bo (FH E H) d i a b))).mpr rfl)
      have pr3 : ∀ key, (∃ v, MP g2 c key v) → ∃ v, MP g3 c key v := fun key ⟨v, h⟩ => by
        by_cases hk : key = keyH E H i a b
        · rw [hk]; exact ⟨_, p3⟩
        · exact ⟨v, by unfold MP; rw [o3 key hk]; exact h⟩
      refine ⟨g3, ?_, x2.po (c32_po c3), hx2.pvh (c32_pvh c3), ⟨by rw [c3.i rfl]; exact hj2.1, hj2.2.1, m3, fun key v hk hmp hkn => ?_⟩, ⟨_, p3⟩, pr3, c32_pvh c3⟩
      · unfold m_X1_fewest_b_233
        rw [encV_put hbob, e3, bd_some, encB_map]; rfl
      · by_cases hkk : key = keyH E H i a b
        · subst hkk
          rw [hdrk, hbok, kd1, kd2]
          refine ⟨hd2, fun w j h1 h2 => ?_⟩
          rw [keyH_next]
          exact pr3 _ (hcl w j h1 h2)
        · have hmp2 : MP g2 c key v := by unfold MP; rw [← o3 key hkk]; exact hmp
          obtain ⟨y1, y2⟩ := hj2.2.2.2 key v hk hmp2 hkn
          exact ⟨y1, fun w j h1 h2 => pr3 _ (y2 w j h1 h2)⟩
    /- the loop over lengths -/
    have loop : ∀ (e l f2 D2 : Nat) (g2 : AHp), l + e = 25 → 1 ≤ l → e < f2 → CX E g2 → HX E H g2 → HJ E H c B D2 g2 → i ≤ D2 → (∀ u, 1 ≤ u → u < l → FH E H i a b u = true → dr (FH E H) d (i + 1) u a ≤ D2) → (∀ w j, bw (FH E H i a b) (fun l => wd (FH E H) d (i + 1) l a) (l - 1) = some (w, j) → i + 1 < H.n → ∃ v, MP g2 c (keyH E H (i + 1) j a) v) →
        ∃ D3 g3, m_X1_fewest_b_139 (m_X1_fewest f) f2 (nI i) (nI a) (nI (keyH E H i a b)) y (encB (bw (FH E H i a b) (fun l => wd (FH E H) d (i + 1) l a) (l - 1))) (encJ (bw (FH E H i a b) (fun l => wd (FH E H) d (i + 1) l a) (l - 1))) (nI l) g2 = some (encW (wd (FH E H) (d + 1) i a b), g3) ∧ CX E g3 ∧ HX E H g3 ∧ HJ E H c B D3 g3 ∧ D2 ≤ D3 ∧ dr (FH E H) (d + 1) i a b ≤ D3 ∧ (∃ v, MP g3 c (keyH E H i a b) v) ∧ (∀ key, (∃ v, MP g2 c key v) → ∃ v, MP g3 c key v) ∧ Ch PVh g2 g3 := by
      intro e
      induction e with
      | zero =>
        intro l f2 D2 g2 hl h1 hf2 x2 hx2 hj2 hi2 hall hcl
        obtain ⟨f2, rfl⟩ : ∃ a, f2 = a + 1 := ⟨f2 - 1, by omega⟩
        have : l = 25 := by omega
        subst this
        have hdr2 : dr (FH E H) (d + 1) i a b ≤ D2 := (mxD_le 24).mpr ⟨hi2, fun u h1 h2 h3 => hall u h1 (by omega) h3⟩
        obtain ⟨g3, e3, x3, hx3, hj3, p3, pr3, c3⟩ := done D2 g2 x2 hx2 hj2 hdr2 hcl
        refine ⟨D2, g3, ?_, x3, hx3, hj3, Nat.le_refl _, hdr2, p3, pr3, c3⟩
        rw [m_X1_fewest_b_139, if_pos (by decide)]
        exact e3
      | succ e ihe =>
        intro l f2 D2 g2 hl h1 hf2 x2 hx2 hj2 hi2 hall hcl
        obtain ⟨f2, rfl⟩ : ∃ a, f2 = a + 1 := ⟨f2 - 1, by omega⟩
        rw [m_X1_fewest_b_139, if_neg (show ¬ 24 < nI l from nI_nlt (a := 24) (b := l) (by omega) (by omega))]
        have hstep : bw (FH E H i a b) (fun l => wd (FH E H) d (i + 1) l a) (l + 1 - 1) = (match (if FH E H i a b l = true then wd (FH E H) d (i + 1) l a else none) with
            | none => bw (FH E H i a b) (fun l => wd (FH E H) d (i + 1) l a) (l - 1)
            | some r => match bw (FH E H i a b) (fun l => wd (FH E H) d (i + 1) l a) (l - 1) with
              | none => some (l + r, l)
              | some (w, j) => if l + r < w then some (l + r, l) else some (w, j)) := by
          obtain ⟨m, rfl⟩ : ∃ m, l = m + 1 := ⟨l - 1, by omega⟩
          rfl
        /- one length -/
        have one : ∃ D3 g3, m_X1_fewest_b_170 (m_X1_fewest f) (m_X1_fewest_b_139 (m_X1_fewest f) f2) (nI i) (nI a) (nI (keyH E H i a b)) y (encB (bw (FH E H i a b) (fun l => wd (FH E H) d (i + 1) l a) (l - 1))) (encJ (bw (FH E H i a b) (fun l => wd (FH E H) d (i + 1) l a) (l - 1))) (nI l) g2 = some (encW (wd (FH E H) (d + 1) i a b), g3) ∧ CX E g3 ∧ HX E H g3 ∧ HJ E H c B D3 g3 ∧ D2 ≤ D3 ∧ dr (FH E H) (d + 1) i a b ≤ D3 ∧ (∃ v, MP g3 c (keyH E H i a b) v) ∧ (∀ key, (∃ v, MP g2 c key v) → ∃ v, MP g3 c key v) ∧ Ch PVh g2 g3 := by
          unfold m_X1_fewest_b_170 m_X1_fewest_b_194
          have hyl := hy l (by omega)
          cases hF : FH E H i a b l with
          | false =>
            rw [hF] at hyl hstep
            rw [if_neg (by simp)] at hstep
            simp only [] at hstep
            rw [if_pos ((hasC (by omega)).mpr hyl), if_pos (by decide), lt_eq, nI_1]
            have := ihe (l + 1) f2 D2 g2 (by omega) (by omega) (by omega) x2 hx2 hj2 hi2 (fun u h1 h2 h3 => by
              by_cases hu : u = l
              · rw [hu, hF] at h3; cases h3
              · exact hall u h1 (by omega) h3) (by rw [hstep]; exact hcl)
            rw [hstep] at this
            exact this
          | true =>
            rw [hF] at hyl hstep
            rw [if_pos rfl] at hstep
            obtain ⟨D3, g3, e3, x3, hx3, hj3, hD3, hdr3, p3, pr3, c3⟩ := ih (i + 1) l a f D2 g2 (by omega) (by omega) (by omega) ha x2 hx2 hj2 (Nat.le_trans (dr_step h1 (by omega) hF) hdr)
            rw [if_neg (fun z => by rw [(hasC (by omega)).mp z] at hyl; cases hyl), nI_1, e3, bd_some]
            have hall3 : ∀ u, 1 ≤ u → u < l + 1 → FH E H i a b u = true → dr (FH E H) d (i + 1) u a ≤ D3 := fun u h1 h2 h3 => by
              by_cases hu : u = l
              · rw [hu]; exact hdr3
              · exact Nat.le_trans (hall u h1 (by omega) h3) hD3
            have next : ∀ o, bw (FH E H i a b) (fun l => wd (FH E H) d (i + 1) l a) (l + 1 - 1) = o → (∀ w j, o = some (w, j) → i + 1 < H.n → ∃ v, MP g3 c (keyH E H (i + 1) j a) v) → ∃ D4 g4, m_X1_fewest_b_139 (m_X1_fewest f) f2 (nI i) (nI a) (nI (keyH E H i a b)) y (encB o) (encJ o) (nI (l + 1)) g3 = some (encW (wd (FH E H) (d + 1) i a b), g4) ∧ CX E g4 ∧ HX E H g4 ∧ HJ E H c B D4 g4 ∧ D2 ≤ D4 ∧ dr (FH E H) (d + 1) i a b ≤ D4 ∧ (∃ v, MP g4 c (keyH E H i a b) v) ∧ (∀ key, (∃ v, MP g2 c key v) → ∃ v, MP g4 c key v) ∧ Ch PVh g2 g4 := by
              intro o ho hp
              obtain ⟨D4, g4, e4, x4, hx4, hj4, hD4, hdr4, p4, pr4, c4⟩ := ihe (l + 1) f2 D3 g3 (by omega) (by omega) (by omega) x3 hx3 hj3 (by omega) hall3 (by rw [ho]; exact hp)
              rw [ho] at e4
              exact ⟨D4, g4, e4, x4, hx4, hj4, by omega, hdr4, p4, fun key h => pr4 key (pr3 key h), c3.trans c4⟩
            have hwl := wd_le (F := FH E H) d (i + 1) l a
            cases hv : wd (FH E H) d (i + 1) l a with
            | none =>
              rw [hv] at hstep
              simp only [] at hstep
              rw [if_pos (by decide), lt_eq, nI_1]
              exact next _ hstep (fun w j h1 h2 => pr3 _ (hcl w j h1 h2))
            | some r =>
              have hr := hwl r hv
              rw [hv] at hstep
              simp only [] at hstep
              rw [show encW (some r) = nI r from rfl, if_neg (nI_pos (by omega)), nI_add]
              cases hbw : bw (FH E H i a b) (fun l => wd (FH E H) d (i + 1) l a) (l - 1) with
              | none =>
                rw [hbw] at hstep
                simp only [] at hstep
                rw [show encB none = -1 from rfl, if_pos (by decide), lt_eq, lt_eq, nI_1]
                exact next (some (l + r, l)) hstep (fun w j h1 h2 => by cases h1; exact p3 h2)
              | some wj =>
                obtain ⟨w, j⟩ := wj
                have hwj := bw_some (l - 1) w j hbw
                obtain ⟨⟨b1, b2, b3, r1, b4, b5⟩, -⟩ := hwj
                have hr1 := wd_le d (i + 1) j a r1 b4
                rw [hbw] at hstep
                simp only [] at hstep
                rw [show encB (some (w, j)) = nI w from rfl, show encJ (some (w, j)) = nI j from rfl, if_neg (nI_pos (by omega))]
                by_cases hlt : l + r < w
                · rw [if_pos hlt] at hstep
                  rw [if_neg (nI_ge (by omega) (by omega)), lt_eq, lt_eq, nI_1]
                  exact next (some (l + r, l)) hstep (fun w j h1 h2 => by cases h1; exact p3 h2)
                · rw [if_neg hlt] at hstep
                  rw [if_pos (nI_le (by omega) (by omega)), lt_eq, nI_1]
                  exact next (some (w, j)) hstep (fun w j h1 h2 => by cases h1; exact pr3 _ (hcl w j hbw h2))
        cases hbw : bw (FH E H i a b) (fun l => wd (FH E H) d (i + 1) l a) (l - 1) with
        | none =>
          rw [hbw] at one
          rw [if_pos (by decide)]; exact one
        | some wj =>
          obtain ⟨w, j⟩ := wj
          obtain ⟨⟨b1, b2, b3, r1, b4, b5⟩, -⟩ := bw_some (l - 1) w j hbw
          have hr1 := wd_le d (i + 1) j a r1 b4
          have hlsb := ls_b H (H.n - (i + 1)) (i + 1) (by omega)
          rw [hbw] at one
          rw [show encB (some (w, j)) = nI w from rfl] at one ⊢
          rw [if_neg (nI_pos (by omega)), nI_1, gd_pos (inb_nI (by omega) (by omega)), nI_clamp (by omega), hx2.2.2 (i + 1) (by omega), nI_add]
          by_cases hlt : l + lsD H (H.n - (i + 1)) (i + 1) < w
          · rw [if_pos (nI_lt hlt (by omega))]; exact one
          · rw [if_neg (nI_nlt (by omega) (by omega))]
            have hst : bo (FH E H) d i a b = some (w, j) := by
              have := bw_stop hbw (25 - l) (fun u r h1 h2 h3 h4 => by
                have := ls_le d (i + 1) u a r h4
                rw [show H.n - (i + 1) = d by omega] at hlt
                omega)
              rw [show l - 1 + (25 - l) = 24 by omega] at this
              exact this
            have hdn : dr (FH E H) (d + 1) i a b ≤ D2 := by
              have h5 := hall j b1 (by omega) b3
              rw [(wd_dr d (i + 1) j a).mp (by rw [show wd (FH E H) d (i + 1) j a = some r1 from b4]; simp)] at h5
              have := dr_le (F := FH E H) (d + 1) i a b
              omega
            obtain ⟨g3, e3, x3, hx3, hj3, p3, pr3, c3⟩ := done D2 g2 x2 hx2 hj2 hdn (fun w2 j2 h1 h2 => by rw [hst] at h1; cases h1; exact hcl w j hbw h2)
            rw [hst] at e3
            exact ⟨D2, g3, e3, x3, hx3, hj3, Nat.le_refl _, hdn, p3, pr3, c3⟩
    obtain ⟨D3, g3, e3, x3, hx3, hj3, hD3, hdr3, p3, pr3, c3⟩ := loop 24 1 FU D0 g1 (by omega) (by omega) (by unfold FU; omega) x1 hx1 hj1 hDi (fun u h1 h2 _ => by omega) (fun w j h => by cases h)
    refine ⟨D3, g3, e3, x3, hx3, hj3, by omega, hdr3, fun _ => p3, fun key h => pr3 key (pr1 key (pr0 key h)), (c0.trans (pc_pvh c01)).trans c3⟩
