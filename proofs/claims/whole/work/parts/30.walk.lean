set_option maxHeartbeats 4000000 in
set_option maxRecDepth 100000 in
theorem w_X3_put (x1 : Int32) (x2 : Int32) (h : AHp) : WO tvV QX3_put 0 0 [(0, .ref 31), (1, .int x1), (2, .int x2)] [] h (m_X3_put x1 x2 h) := by
  unfold m_X3_put
  refine z_iload_n dX3_put_0 1 rfl ?_
  refine z_if_lt (tgt := 32) dX3_put_1 (by decide) ?_ ?_
  · exact z_vret dX3_put_32 rfl
  · refine z_iload_n dX3_put_4 1 rfl ?_
    refine z_sipush (v := 12500) dX3_put_5 (by decide) ?_
    refine z_ic_ge (tgt := 32) dX3_put_8 (by decide) ?_ ?_
    · exact z_vret dX3_put_32 rfl
    · refine z_aload_n dX3_put_11 0 rfl ?_
      refine z_getR (j := 32) fX3_11 kc_31 rfl rfl rfl (by decide) dX3_put_12 ?_
      refine z_iload_n dX3_put_15 1 rfl ?_
      refine z_aload_n dX3_put_16 0 rfl ?_
      refine z_getI fX3_15 kc_31 rfl dX3_put_17 ?_
      refine z_i2l dX3_put_20 ?_
      refine z_bipush (v := 32) dX3_put_21 (by decide) ?_
      refine z_lshl dX3_put_23 ?_
      refine z_iload_n dX3_put_24 2 rfl ?_
      refine z_i2l dX3_put_25 ?_
      refine z_ldc2 dX3_put_26 kX3_19 ?_
      refine z_land dX3_put_29 ?_
      refine z_lor dX3_put_30 ?_
      refine z_gd (fun g2 => ?_)
      refine z_last kc_32 dX3_put_31 g2 ?_
      refine z_lh (fun h1 => ?_)
      exact z_vret dX3_put_32 rfl
theorem M_X3_put (x1 : Int32) (x2 : Int32) (h : AHp) : MV QX3_put 0 [.ref 31, .int x1, .int x2] h (m_X3_put x1 x2 h) := MV.of (by decide) rfl rfl (Nat.le_of_ble_eq_true rfl) (w_X3_put x1 x2 h)
set_option maxHeartbeats 4000000 in
set_option maxRecDepth 100000 in
theorem w_X11_isSpeaker (x0 : Int32) (h : AHp) : WO tvI QX11_isSpeaker 0 0 [(0, .int x0)] [] h (m_X11_isSpeaker x0 h) := by
  unfold m_X11_isSpeaker
  refine z_iload_n dX11_isSpeaker_0 0 rfl ?_
  refine z_if_lt (tgt := 14) dX11_isSpeaker_1 (by decide) ?_ ?_
  · refine z_iconst (v := 0) dX11_isSpeaker_14 (by decide) ?_
    exact z_zret dX11_isSpeaker_15 rfl (Or.inl rfl)
  · refine z_iload_n dX11_isSpeaker_4 0 rfl ?_
    refine z_bipush (v := 6) dX11_isSpeaker_5 (by decide) ?_
    refine z_ic_ge (tgt := 14) dX11_isSpeaker_7 (by decide) ?_ ?_
    · refine z_iconst (v := 0) dX11_isSpeaker_14 (by decide) ?_
      exact z_zret dX11_isSpeaker_15 rfl (Or.inl rfl)
    · refine z_iconst (v := 1) dX11_isSpeaker_10 (by decide) ?_
      refine z_goto (tgt := 15) dX11_isSpeaker_11 (by decide) ?_
      exact z_zret dX11_isSpeaker_15 rfl (Or.inr rfl)
theorem M_X11_isSpeaker (x0 : Int32) (h : AHp) : MI QX11_isSpeaker 0 [.int x0] h (m_X11_isSpeaker x0 h) := MI.of (by decide) rfl rfl (Nat.le_of_ble_eq_true rfl) (w_X11_isSpeaker x0 h)
set_option maxHeartbeats 4000000 in
set_option maxRecDepth 100000 in
theorem w_X9_colourOf (x1 : Int32) (h : AHp) : WO tvI QX9_colourOf 1 0 [(0, .ref 3), (1, .int x1)] [] h (m_X9_colourOf x1 h) := by
  unfold m_X9_colourOf
  refine z_iload_n dX9_colourOf_0 1 rfl ?_
  refine z_callSNI dX9_colourOf_1 (M_X11_isSpeaker _ _) bX11_isSpeaker lX9_42 rfl rfl (Nat.le_of_ble_eq_true rfl) (Nat.le_of_ble_eq_true rfl) (fun r1 h2 => ?_)
  refine z_if_eq (tgt := 16) dX9_colourOf_4 (by decide) ?_ ?_
  · refine z_iconst (v := 0) dX9_colourOf_16 (by decide) ?_
    exact z_iret dX9_colourOf_17 rfl
  · refine z_aload_n dX9_colourOf_7 0 rfl ?_
    refine z_getR (j := 5) fX9_15 kc_3 rfl rfl rfl (by decide) dX9_colourOf_8 ?_
    refine z_iload_n dX9_colourOf_11 1 rfl ?_
    refine z_gd (fun g3 => ?_)
    refine z_iald kc_5 dX9_colourOf_12 g3 ?_
    refine z_goto (tgt := 17) dX9_colourOf_13 (by decide) ?_
    exact z_iret dX9_colourOf_17 rfl
theorem M_X9_colourOf (x1 : Int32) (h : AHp) : MI QX9_colourOf 1 [.ref 3, .int x1] h (m_X9_colourOf x1 h) := MI.of (by decide) rfl rfl (Nat.le_of_ble_eq_true rfl) (w_X9_colourOf x1 h)
set_option maxHeartbeats 4000000 in
set_option maxRecDepth 100000 in
theorem w_X9_stand (x1 : Int32) (x2 : Int32) (x3 : Int32) (x4 : Int32) (h : AHp) : WO tvV QX9_stand 2 0 [(0, .ref 3), (1, .int x1), (2, .int x2), (3, .int x3), (4, .int x4)] [] h (m_X9_stand x1 x2 x3 x4 h) := by
  unfold m_X9_stand
  refine z_aload_n dX9_stand_0 0 rfl ?_
  refine z_getR (j := 6) fX9_18 kc_3 rfl rfl rfl (by decide) dX9_stand_1 ?_
  refine z_iconst (v := 4) dX9_stand_4 (by decide) ?_
  refine z_iload_n dX9_stand_5 1 rfl ?_
  refine z_iast kc_6 dX9_stand_6 (by decide) ?_
  refine z_lh (fun h1 => ?_)
  refine z_aload_n dX9_stand_7 0 rfl ?_
  refine z_getR (j := 6) fX9_18 kc_3 rfl rfl rfl (by decide) dX9_stand_8 ?_
  refine z_iconst (v := 5) dX9_stand_11 (by decide) ?_
  refine z_iload_n dX9_stand_12 2 rfl ?_
  refine z_iast kc_6 dX9_stand_13 (by decide) ?_
  refine z_lh (fun h2 => ?_)
  refine z_aload_n dX9_stand_14 0 rfl ?_
  refine z_getR (j := 6) fX9_18 kc_3 rfl rfl rfl (by decide) dX9_stand_15 ?_
  refine z_bipush (v := 6) dX9_stand_18 (by decide) ?_
  refine z_iconst (v := 0) dX9_stand_20 (by decide) ?_
  refine z_iload_n dX9_stand_21 3 rfl ?_
  refine z_mmax dX9_stand_22 lX9_49 w_mmax (Nat.le_of_ble_eq_true rfl) (Nat.le_of_ble_eq_true rfl) ?_
  refine z_iast kc_6 dX9_stand_25 (by decide) ?_
  refine z_lh (fun h3 => ?_)
  refine z_aload_n dX9_stand_26 0 rfl ?_
  refine z_getR (j := 6) fX9_18 kc_3 rfl rfl rfl (by decide) dX9_stand_27 ?_
  refine z_bipush (v := 7) dX9_stand_30 (by decide) ?_
  refine z_aload_n dX9_stand_32 0 rfl ?_
  refine z_iload_n dX9_stand_33 3 rfl ?_
  refine z_callVI dX9_stand_34 (M_X9_colourOf _ _) bX9_colourOf lX9_55 kc_3 rfl rfl (Nat.le_of_ble_eq_true rfl) (Nat.le_of_ble_eq_true rfl) (fun r4 h5 => ?_)
  refine z_iast kc_6 dX9_stand_37 (by decide) ?_
  refine z_lh (fun h6 => ?_)
  refine z_aload_n dX9_stand_38 0 rfl ?_
  refine z_getR (j := 6) fX9_18 kc_3 rfl rfl rfl (by decide) dX9_stand_39 ?_
  refine z_bipush (v := 8) dX9_stand_42 (by decide) ?_
  refine z_iload dX9_stand_44 4 rfl ?_
  refine z_iast kc_6 dX9_stand_46 (by decide) ?_
  refine z_lh (fun h7 => ?_)
  exact z_vret dX9_stand_47 rfl
theorem M_X9_stand (x1 : Int32) (x2 : Int32) (x3 : Int32) (x4 : Int32) (h : AHp) : MV QX9_stand 2 [.ref 3, .int x1, .int x2, .int x3, .int x4] h (m_X9_stand x1 x2 x3 x4 h) := MV.of (by decide) rfl rfl (Nat.le_of_ble_eq_true rfl) (w_X9_stand x1 x2 x3 x4 h)
set_option maxHeartbeats 4000000 in
set_option maxRecDepth 100000 in
theorem w_X2_run_8 {j : Nat} (hj_j : isLaw j) : ∀ (f : Nat) (x2 : Int32) (x3 : Int32) (x4 : Int32) (x5 : Int32) (h : AHp), WO tvI QX2_run 0 8 [(0, .ref j), (2, .int x2), (3, .int x3), (4, .int x4), (5, .int x5)] [] h (m_X2_run_8 j f x2 x3 x4 x5 h) := by
  intro f
  induction f with
  | zero => intro x2 x3 x4 x5 h; exact z_none
  | succ f ih =>
    intro x2 x3 x4 x5 h
    rw [m_X2_run_8]
    refine z_iload dX2_run_8 4 rfl ?_
    refine z_sipush (v := 256) dX2_run_10 (by decide) ?_
    refine z_ic_ge (tgt := 340) dX2_run_13 (by decide) ?_ ?_
    · refine z_iload_n dX2_run_340 2 rfl ?_
      exact z_iret dX2_run_341 rfl
    · refine z_iload dX2_run_16 3 rfl ?_
      refine z_if_lt (tgt := 340) dX2_run_18 (by decide) ?_ ?_
      · refine z_iload_n dX2_run_340 2 rfl ?_
        exact z_iret dX2_run_341 rfl
      · refine z_iload dX2_run_21 3 rfl ?_
        refine z_iload_n dX2_run_23 1 rfl ?_
        refine z_ic_ge (tgt := 340) dX2_run_24 (by decide) ?_ ?_
        · refine z_iload_n dX2_run_340 2 rfl ?_
          exact z_iret dX2_run_341 rfl
        · refine z_iload dX2_run_27 3 rfl ?_
          refine z_sipush (v := 256) dX2_run_29 (by decide) ?_
          refine z_ic_ge (tgt := 340) dX2_run_32 (by decide) ?_ ?_
          · refine z_iload_n dX2_run_340 2 rfl ?_
            exact z_iret dX2_run_341 rfl
          · refine z_aload_n dX2_run_35 0 rfl ?_
            refine z_getR fX2_11 (law_k hj_j) rfl rfl (law_r0 hj_j) (Nat.succ_ne_zero _) dX2_run_36 ?_
            refine z_iload dX2_run_39 3 rfl ?_
            refine z_gd (fun g1 => ?_)
            refine z_iald (law_k0 hj_j) dX2_run_41 g1 ?_
            refine z_istoreL (lv2 := fun v2 => [(6, .int v2), (0, .ref j), (2, .int x2), (3, .int x3), (4, .int x4), (5, .int x5)]) dX2_run_42 (Nat.le_of_ble_eq_true rfl) (fun _ => rfl) (fun v2 => ?_)
            refine z_aload_n dX2_run_44 1 rfl ?_
            refine z_getR fX2_15 (law_k hj_j) rfl rfl (law_r1 hj_j) (Nat.succ_ne_zero _) dX2_run_45 ?_
            refine z_iload dX2_run_48 0 rfl ?_
            refine z_iconst (v := 4) dX2_run_50 (by decide) ?_
            refine z_ishr dX2_run_51 ?_
            refine z_sipush (v := 255) dX2_run_52 (by decide) ?_
            refine z_iand dX2_run_55 ?_
            refine z_gd (fun g3 => ?_)
            refine z_iald (law_k1 hj_j) dX2_run_56 g3 ?_
            refine z_istoreL (lv2 := fun v4 => [(7, .int v4), (6, .int v2), (0, .ref j), (2, .int x2), (3, .int x3), (4, .int x4), (5, .int x5)]) dX2_run_57 (Nat.le_of_ble_eq_true rfl) (fun _ => rfl) (fun v4 => ?_)
            refine z_aload_n dX2_run_59 2 rfl ?_
            refine z_getR fX2_15 (law_k hj_j) rfl rfl (law_r1 hj_j) (Nat.succ_ne_zero _) dX2_run_60 ?_
            refine z_iload dX2_run_63 1 rfl ?_
            refine z_bipush (v := 12) dX2_run_65 (by decide) ?_
            refine z_ishr dX2_run_67 ?_
            refine z_sipush (v := 255) dX2_run_68 (by decide) ?_
            refine z_iand dX2_run_71 ?_
            refine z_gd (fun g5 => ?_)
            refine z_iald (law_k1 hj_j) dX2_run_72 g5 ?_
            refine z_istoreL (lv2 := fun v6 => [(8, .int v6), (7, .int v4), (6, .int v2), (0, .ref j), (2, .int x2), (3, .int x3), (4, .int x4), (5, .int x5)]) dX2_run_73 (Nat.le_of_ble_eq_true rfl) (fun _ => rfl) (fun v6 => ?_)
            refine z_iload dX2_run_75 2 rfl ?_
            refine z_bipush (v := 20) dX2_run_77 (by decide) ?_
            refine z_ishr dX2_run_79 ?_
            refine z_sipush (v := 255) dX2_run_80 (by decide) ?_
            refine z_iand dX2_run_83 ?_
            refine z_istoreL (lv2 := fun v7 => [(9, .int v7), (8, .int v6), (7, .int v4), (6, .int v2), (0, .ref j), (2, .int x2), (3, .int x3), (4, .int x4), (5, .int x5)]) dX2_run_84 (Nat.le_of_ble_eq_true rfl) (fun _ => rfl) (fun v7 => ?_)
            refine z_iincL (lv2 := fun v8 => [(4, .int v8), (9, .int v7), (8, .int v6), (7, .int v4), (6, .int v2), (0, .ref j), (2, .int x2), (3, .int x3), (5, .int x5)]) dX2_run_86 7 rfl rfl (Nat.le_of_ble_eq_true rfl) (fun _ => rfl) (fun v8 => ?_)
            refine z_iload dX2_run_89 4 rfl ?_
            refine z_bipush (v := 15) dX2_run_91 (by decide) ?_
            refine z_iand dX2_run_93 ?_
            refine z_ite (fun c9 => ?_) (fun c9 => ?_)
            · refine z_tin (tgt := 148) (off := 54) dX2_run_94 (by rw [c9]; decide) (by rw [c9]; decide) (by rw [c9]; decide) (by decide) ?_
              refine z_aload_n dX2_run_148 5 rfl ?_
              refine z_getR fX2_15 (law_k hj_j) rfl rfl (law_r1 hj_j) (Nat.succ_ne_zero _) dX2_run_149 ?_
              refine z_iload dX2_run_152 1 rfl ?_
              refine z_iload dX2_run_154 3 rfl ?_
              refine z_iload dX2_run_156 2 rfl ?_
              refine z_iadd dX2_run_158 ?_
              refine z_gd (fun g11 => ?_)
              refine z_iast (law_k1 hj_j) dX2_run_159 g11 ?_
              refine z_lh (fun h10 => ?_)
              refine z_goto (tgt := 334) dX2_run_160 (by decide) ?_
              refine z_iincL (lv2 := fun v12 => [(5, .int v12), (4, .int v8), (9, .int v7), (8, .int v6), (7, .int v4), (6, .int v2), (0, .ref j), (2, .int x2), (3, .int x3)]) dX2_run_334 8 rfl rfl (Nat.le_of_ble_eq_true rfl) (fun _ => rfl) (fun v12 => ?_)
              refine z_goto (tgt := 8) dX2_run_337 (by decide) ?_
              exact z_sub [6, 7, 8, 1, 0] rfl (ih _ _ _ _ _)
            · refine z_ite (fun c13 => ?_) (fun c13 => ?_)
              · refine z_tin (tgt := 163) (off := 69) dX2_run_94 (by rw [c13]; decide) (by rw [c13]; decide) (by rw [c13]; decide) (by decide) ?_
                refine z_aload_n dX2_run_163 5 rfl ?_
                refine z_getR fX2_15 (law_k hj_j) rfl rfl (law_r1 hj_j) (Nat.succ_ne_zero _) dX2_run_164 ?_
                refine z_iload dX2_run_167 1 rfl ?_
                refine z_iload dX2_run_169 3 rfl ?_
                refine z_iload dX2_run_171 2 rfl ?_
                refine z_isub dX2_run_173 ?_
                refine z_gd (fun g15 => ?_)
                refine z_iast (law_k1 hj_j) dX2_run_174 g15 ?_
                refine z_lh (fun h14 => ?_)
                refine z_goto (tgt := 334) dX2_run_175 (by decide) ?_
                refine z_iincL (lv2 := fun v16 => [(5, .int v16), (4, .int v8), (9, .int v7), (8, .int v6), (7, .int v4), (6, .int v2), (0, .ref j), (2, .int x2), (3, .int x3)]) dX2_run_334 8 rfl rfl (Nat.le_of_ble_eq_true rfl) (fun _ => rfl) (fun v16 => ?_)
                refine z_goto (tgt := 8) dX2_run_337 (by decide) ?_
                exact z_sub [6, 7, 8, 1, 0] rfl (ih _ _ _ _ _)
              · refine z_ite (fun c17 => ?_) (fun c17 => ?_)
                · refine z_tin (tgt := 178) (off := 84) dX2_run_94 (by rw [c17]; decide) (by rw [c17]; decide) (by rw [c17]; decide) (by decide) ?_
                  refine z_aload_n dX2_run_178 5 rfl ?_
                  refine z_getR fX2_15 (law_k hj_j) rfl rfl (law_r1 hj_j) (Nat.succ_ne_zero _) dX2_run_179 ?_
                  refine z_iload dX2_run_182 1 rfl ?_
                  refine z_iload dX2_run_184 3 rfl ?_
                  refine z_iload dX2_run_186 2 rfl ?_
                  refine z_imul dX2_run_188 ?_
                  refine z_gd (fun g19 => ?_)
                  refine z_iast (law_k1 hj_j) dX2_run_189 g19 ?_
                  refine z_lh (fun h18 => ?_)
                  refine z_goto (tgt := 334) dX2_run_190 (by decide) ?_
                  refine z_iincL (lv2 := fun v20 => [(5, .int v20), (4, .int v8), (9, .int v7), (8, .int v6), (7, .int v4), (6, .int v2), (0, .ref j), (2, .int x2), (3, .int x3)]) dX2_run_334 8 rfl rfl (Nat.le_of_ble_eq_true rfl) (fun _ => rfl) (fun v20 => ?_)
                  refine z_goto (tgt := 8) dX2_run_337 (by decide) ?_
                  exact z_sub [6, 7, 8, 1, 0] rfl (ih _ _ _ _ _)
                · refine z_ite (fun c21 => ?_) (fun c21 => ?_)
                  · refine z_tin (tgt := 193) (off := 99) dX2_run_94 (by rw [c21]; decide) (by rw [c21]; decide) (by rw [c21]; decide) (by decide) ?_
                    refine z_iload dX2_run_193 2 rfl ?_
                    refine z_if_ne (tgt := 200) dX2_run_195 (by decide) ?_ ?_
                    · refine z_aload_n dX2_run_200 5 rfl ?_
                      refine z_getR fX2_15 (law_k hj_j) rfl rfl (law_r1 hj_j) (Nat.succ_ne_zero _) dX2_run_201 ?_
                      refine z_iload dX2_run_204 1 rfl ?_
                      refine z_iload dX2_run_206 3 rfl ?_
                      refine z_iload dX2_run_208 2 rfl ?_
                      refine z_gd (fun g22 => ?_)
                      refine z_idiv dX2_run_210 g22 ?_
                      refine z_gd (fun g24 => ?_)
                      refine z_iast (law_k1 hj_j) dX2_run_211 g24 ?_
                      refine z_lh (fun h23 => ?_)
                      refine z_goto (tgt := 334) dX2_run_212 (by decide) ?_
                      refine z_iincL (lv2 := fun v25 => [(5, .int v25), (4, .int v8), (9, .int v7), (8, .int v6), (7, .int v4), (6, .int v2), (0, .ref j), (2, .int x2), (3, .int x3)]) dX2_run_334 8 rfl rfl (Nat.le_of_ble_eq_true rfl) (fun _ => rfl) (fun v25 => ?_)
                      refine z_goto (tgt := 8) dX2_run_337 (by decide) ?_
                      exact z_sub [6, 7, 8, 1, 0] rfl (ih _ _ _ _ _)
                    · refine z_iconst (v := -1) dX2_run_198 (by decide) ?_
                      exact z_iret dX2_run_199 rfl
                  · refine z_ite (fun c26 => ?_) (fun c26 => ?_)
                    · refine z_tin (tgt := 215) (off := 121) dX2_run_94 (by rw [c26]; decide) (by rw [c26]; decide) (by rw [c26]; decide) (by decide) ?_
                      refine z_iload dX2_run_215 2 rfl ?_
                      refine z_if_ne (tgt := 222) dX2_run_217 (by decide) ?_ ?_
                      · refine z_aload_n dX2_run_222 5 rfl ?_
                        refine z_getR fX2_15 (law_k hj_j) rfl rfl (law_r1 hj_j) (Nat.succ_ne_zero _) dX2_run_223 ?_
                        refine z_iload dX2_run_226 1 rfl ?_
                        refine z_iload dX2_run_228 3 rfl ?_
                        refine z_iload dX2_run_230 2 rfl ?_
                        refine z_gd (fun g27 => ?_)
                        refine z_irem dX2_run_232 g27 ?_
                        refine z_gd (fun g29 => ?_)
                        refine z_iast (law_k1 hj_j) dX2_run_233 g29 ?_
                        refine z_lh (fun h28 => ?_)
                        refine z_goto (tgt := 334) dX2_run_234 (by decide) ?_
                        refine z_iincL (lv2 := fun v30 => [(5, .int v30), (4, .int v8), (9, .int v7), (8, .int v6), (7, .int v4), (6, .int v2), (0, .ref j), (2, .int x2), (3, .int x3)]) dX2_run_334 8 rfl rfl (Nat.le_of_ble_eq_true rfl) (fun _ => rfl) (fun v30 => ?_)
                        refine z_goto (tgt := 8) dX2_run_337 (by decide) ?_
                        exact z_sub [6, 7, 8, 1, 0] rfl (ih _ _ _ _ _)
                      · refine z_iconst (v := -1) dX2_run_220 (by decide) ?_
                        exact z_iret dX2_run_221 rfl
                    · refine z_ite (fun c31 => ?_) (fun c31 => ?_)
                      · refine z_tin (tgt := 237) (off := 143) dX2_run_94 (by rw [c31]; decide) (by rw [c31]; decide) (by rw [c31]; decide) (by decide) ?_
                        refine z_iload dX2_run_237 3 rfl ?_
                        refine z_iload dX2_run_239 2 rfl ?_
                        refine z_ic_ge (tgt := 248) dX2_run_241 (by decide) ?_ ?_
                        · refine z_iconst (v := 0) dX2_run_248 (by decide) ?_
                          refine z_istore_n (lv2 := [(3, .int 0), (4, .int v8), (9, .int v7), (8, .int v6), (7, .int v4), (6, .int v2), (0, .ref j), (2, .int x2), (5, .int x5)]) dX2_run_249 (Nat.le_of_ble_eq_true rfl) rfl ?_
                          refine z_goto (tgt := 334) dX2_run_250 (by decide) ?_
                          refine z_iincL (lv2 := fun v32 => [(5, .int v32), (3, .int 0), (4, .int v8), (9, .int v7), (8, .int v6), (7, .int v4), (6, .int v2), (0, .ref j), (2, .int x2)]) dX2_run_334 8 rfl rfl (Nat.le_of_ble_eq_true rfl) (fun _ => rfl) (fun v32 => ?_)
                          refine z_goto (tgt := 8) dX2_run_337 (by decide) ?_
                          exact z_sub [7, 8, 1, 2, 0] rfl (ih _ _ _ _ _)
                        · refine z_iconst (v := 1) dX2_run_244 (by decide) ?_
                          refine z_goto (tgt := 249) dX2_run_245 (by decide) ?_
                          refine z_istore_n (lv2 := [(3, .int 1), (4, .int v8), (9, .int v7), (8, .int v6), (7, .int v4), (6, .int v2), (0, .ref j), (2, .int x2), (5, .int x5)]) dX2_run_249 (Nat.le_of_ble_eq_true rfl) rfl ?_
                          refine z_goto (tgt := 334) dX2_run_250 (by decide) ?_
                          refine z_iincL (lv2 := fun v33 => [(5, .int v33), (3, .int 1), (4, .int v8), (9, .int v7), (8, .int v6), (7, .int v4), (6, .int v2), (0, .ref j), (2, .int x2)]) dX2_run_334 8 rfl rfl (Nat.le_of_ble_eq_true rfl) (fun _ => rfl) (fun v33 => ?_)
                          refine z_goto (tgt := 8) dX2_run_337 (by decide) ?_
                          exact z_sub [7, 8, 1, 2, 0] rfl (ih _ _ _ _ _)
                      · refine z_ite (fun c34 => ?_) (fun c34 => ?_)
                        · refine z_tin (tgt := 253) (off := 159) dX2_run_94 (by rw [c34]; decide) (by rw [c34]; decide) (by rw [c34]; decide) (by decide) ?_
                          refine z_iload dX2_run_253 3 rfl ?_
                          refine z_iload dX2_run_255 2 rfl ?_
                          refine z_ic_le (tgt := 264) dX2_run_257 (by decide) ?_ ?_
                          · refine z_iconst (v := 0) dX2_run_264 (by decide) ?_
                            refine z_istore_n (lv2 := [(3, .int 0), (4, .int v8), (9, .int v7), (8, .int v6), (7, .int v4), (6, .int v2), (0, .ref j), (2, .int x2), (5, .int x5)]) dX2_run_265 (Nat.le_of_ble_eq_true rfl) rfl ?_
                            refine z_goto (tgt := 334) dX2_run_266 (by decide) ?_
                            refine z_iincL (lv2 := fun v35 => [(5, .int v35), (3, .int 0), (4, .int v8), (9, .int v7), (8, .int v6), (7, .int v4), (6, .int v2), (0, .ref j), (2, .int x2)]) dX2_run_334 8 rfl rfl (Nat.le_of_ble_eq_true rfl) (fun _ => rfl) (fun v35 => ?_)
                            refine z_goto (tgt := 8) dX2_run_337 (by decide) ?_
                            exact z_sub [7, 8, 1, 2, 0] rfl (ih _ _ _ _ _)
                          · refine z_iconst (v := 1) dX2_run_260 (by decide) ?_
                            refine z_goto (tgt := 265) dX2_run_261 (by decide) ?_
                            refine z_istore_n (lv2 := [(3, .int 1), (4, .int v8), (9, .int v7), (8, .int v6), (7, .int v4), (6, .int v2), (0, .ref j), (2, .int x2), (5, .int x5)]) dX2_run_265 (Nat.le_of_ble_eq_true rfl) rfl ?_
                            refine z_goto (tgt := 334) dX2_run_266 (by decide) ?_
                            refine z_iincL (lv2 := fun v36 => [(5, .int v36), (3, .int 1), (4, .int v8), (9, .int v7), (8, .int v6), (7, .int v4), (6, .int v2), (0, .ref j), (2, .int x2)]) dX2_run_334 8 rfl rfl (Nat.le_of_ble_eq_true rfl) (fun _ => rfl) (fun v36 => ?_)
                            refine z_goto (tgt := 8) dX2_run_337 (by decide) ?_
                            exact z_sub [7, 8, 1, 2, 0] rfl (ih _ _ _ _ _)
                        · refine z_ite (fun c37 => ?_) (fun c37 => ?_)
                          · refine z_tin (tgt := 269) (off := 175) dX2_run_94 (by rw [c37]; decide) (by rw [c37]; decide) (by rw [c37]; decide) (by decide) ?_
                            refine z_iload dX2_run_269 3 rfl ?_
                            refine z_iload dX2_run_271 2 rfl ?_
                            refine z_ic_ne (tgt := 280) dX2_run_273 (by decide) ?_ ?_
                            · refine z_iconst (v := 0) dX2_run_280 (by decide) ?_
                              refine z_istore_n (lv2 := [(3, .int 0), (4, .int v8), (9, .int v7), (8, .int v6), (7, .int v4), (6, .int v2), (0, .ref j), (2, .int x2), (5, .int x5)]) dX2_run_281 (Nat.le_of_ble_eq_true rfl) rfl ?_
                              refine z_goto (tgt := 334) dX2_run_282 (by decide) ?_
                              refine z_iincL (lv2 := fun v38 => [(5, .int v38), (3, .int 0), (4, .int v8), (9, .int v7), (8, .int v6), (7, .int v4), (6, .int v2), (0, .ref j), (2, .int x2)]) dX2_run_334 8 rfl rfl (Nat.le_of_ble_eq_true rfl) (fun _ => rfl) (fun v38 => ?_)
                              refine z_goto (tgt := 8) dX2_run_337 (by decide) ?_
                              exact z_sub [7, 8, 1, 2, 0] rfl (ih _ _ _ _ _)
                            · refine z_iconst (v := 1) dX2_run_276 (by decide) ?_
                              refine z_goto (tgt := 281) dX2_run_277 (by decide) ?_
                              refine z_istore_n (lv2 := [(3, .int 1), (4, .int v8), (9, .int v7), (8, .int v6), (7, .int v4), (6, .int v2), (0, .ref j), (2, .int x2), (5, .int x5)]) dX2_run_281 (Nat.le_of_ble_eq_true rfl) rfl ?_
                              refine z_goto (tgt := 334) dX2_run_282 (by decide) ?_
                              refine z_iincL (lv2 := fun v39 => [(5, .int v39), (3, .int 1), (4, .int v8), (9, .int v7), (8, .int v6), (7, .int v4), (6, .int v2), (0, .ref j), (2, .int x2)]) dX2_run_334 8 rfl rfl (Nat.le_of_ble_eq_true rfl) (fun _ => rfl) (fun v39 => ?_)
                              refine z_goto (tgt := 8) dX2_run_337 (by decide) ?_
                              exact z_sub [7, 8, 1, 2, 0] rfl (ih _ _ _ _ _)
                          · refine z_ite (fun c40 => ?_) (fun c40 => ?_)
                            · refine z_tin (tgt := 285) (off := 191) dX2_run_94 (by rw [c40]; decide) (by rw [c40]; decide) (by rw [c40]; decide) (by decide) ?_
                              refine z_iload_n dX2_run_285 7 rfl ?_
                              refine z_iconst (v := 1) dX2_run_286 (by decide) ?_
                              refine z_ic_ne (tgt := 294) dX2_run_287 (by decide) ?_ ?_
                              · refine z_iconst (v := 1) dX2_run_294 (by decide) ?_
                                refine z_istore_n (lv2 := [(3, .int 1), (4, .int v8), (9, .int v7), (8, .int v6), (7, .int v4), (6, .int v2), (0, .ref j), (2, .int x2), (5, .int x5)]) dX2_run_295 (Nat.le_of_ble_eq_true rfl) rfl ?_
                                refine z_goto (tgt := 334) dX2_run_296 (by decide) ?_
                                refine z_iincL (lv2 := fun v41 => [(5, .int v41), (3, .int 1), (4, .int v8), (9, .int v7), (8, .int v6), (7, .int v4), (6, .int v2), (0, .ref j), (2, .int x2)]) dX2_run_334 8 rfl rfl (Nat.le_of_ble_eq_true rfl) (fun _ => rfl) (fun v41 => ?_)
                                refine z_goto (tgt := 8) dX2_run_337 (by decide) ?_
                                exact z_sub [7, 8, 1, 2, 0] rfl (ih _ _ _ _ _)
                              · refine z_iconst (v := 0) dX2_run_290 (by decide) ?_
                                refine z_goto (tgt := 295) dX2_run_291 (by decide) ?_
                                refine z_istore_n (lv2 := [(3, .int 0), (4, .int v8), (9, .int v7), (8, .int v6), (7, .int v4), (6, .int v2), (0, .ref j), (2, .int x2), (5, .int x5)]) dX2_run_295 (Nat.le_of_ble_eq_true rfl) rfl ?_
                                refine z_goto (tgt := 334) dX2_run_296 (by decide) ?_
                                refine z_iincL (lv2 := fun v42 => [(5, .int v42), (3, .int 0), (4, .int v8), (9, .int v7), (8, .int v6), (7, .int v4), (6, .int v2), (0, .ref j), (2, .int x2)]) dX2_run_334 8 rfl rfl (Nat.le_of_ble_eq_true rfl) (fun _ => rfl) (fun v42 => ?_)
                                refine z_goto (tgt := 8) dX2_run_337 (by decide) ?_
                                exact z_sub [7, 8, 1, 2, 0] rfl (ih _ _ _ _ _)
                            · refine z_ite (fun c43 => ?_) (fun c43 => ?_)
                              · refine z_tin (tgt := 299) (off := 205) dX2_run_94 (by rw [c43]; decide) (by rw [c43]; decide) (by rw [c43]; decide) (by decide) ?_
                                refine z_iload_n dX2_run_299 7 rfl ?_
                                refine z_iconst (v := 1) dX2_run_300 (by decide) ?_
                                refine z_ic_ne (tgt := 311) dX2_run_301 (by decide) ?_ ?_
                                · refine z_iload dX2_run_311 0 rfl ?_
                                  refine z_istore (lv2 := [(4, .int v8), (9, .int v7), (8, .int v6), (7, .int v4), (6, .int v2), (0, .ref j), (2, .int x2), (3, .int x3), (5, .int x5)]) dX2_run_313 (Nat.le_of_ble_eq_true rfl) rfl ?_
                                  refine z_goto (tgt := 334) dX2_run_315 (by decide) ?_
                                  refine z_iincL (lv2 := fun v44 => [(5, .int v44), (4, .int v8), (9, .int v7), (8, .int v6), (7, .int v4), (6, .int v2), (0, .ref j), (2, .int x2), (3, .int x3)]) dX2_run_334 8 rfl rfl (Nat.le_of_ble_eq_true rfl) (fun _ => rfl) (fun v44 => ?_)
                                  refine z_goto (tgt := 8) dX2_run_337 (by decide) ?_
                                  exact z_sub [6, 7, 8, 1, 0] rfl (ih _ _ _ _ _)
                                · refine z_iload dX2_run_304 4 rfl ?_
                                  refine z_iconst (v := 4) dX2_run_306 (by decide) ?_
                                  refine z_ishr dX2_run_307 ?_
                                  refine z_goto (tgt := 313) dX2_run_308 (by decide) ?_
                                  refine z_istoreL (lv2 := fun v45 => [(4, .int v45), (9, .int v7), (8, .int v6), (7, .int v4), (6, .int v2), (0, .ref j), (2, .int x2), (3, .int x3), (5, .int x5)]) dX2_run_313 (Nat.le_of_ble_eq_true rfl) (fun _ => rfl) (fun v45 => ?_)
                                  refine z_goto (tgt := 334) dX2_run_315 (by decide) ?_
                                  refine z_iincL (lv2 := fun v46 => [(5, .int v46), (4, .int v45), (9, .int v7), (8, .int v6), (7, .int v4), (6, .int v2), (0, .ref j), (2, .int x2), (3, .int x3)]) dX2_run_334 8 rfl rfl (Nat.le_of_ble_eq_true rfl) (fun _ => rfl) (fun v46 => ?_)
                                  refine z_goto (tgt := 8) dX2_run_337 (by decide) ?_
                                  exact z_sub [6, 7, 8, 1, 0] rfl (ih _ _ _ _ _)
                              · refine z_tout (tgt := 318) dX2_run_94 (by have a0 := n32 (k := 1) c9 rfl; have a1 := n32 (k := 2) c13 rfl; have a2 := n32 (k := 3) c17 rfl; have a3 := n32 (k := 4) c21 rfl; have a4 := n32 (k := 5) c26 rfl; have a5 := n32 (k := 6) c31 rfl; have a6 := n32 (k := 7) c34 rfl; have a7 := n32 (k := 8) c37 rfl; have a8 := n32 (k := 9) c40 rfl; have a9 := n32 (k := 10) c43 rfl; omega) (by decide) ?_
                                refine z_iload_n dX2_run_318 7 rfl ?_
                                refine z_iconst (v := 1) dX2_run_319 (by decide) ?_
                                refine z_ic_ne (tgt := 328) dX2_run_320 (by decide) ?_ ?_
                                · refine z_iload dX2_run_328 4 rfl ?_
                                  refine z_iconst (v := 4) dX2_run_330 (by decide) ?_
                                  refine z_ishr dX2_run_331 ?_
                                  refine z_istoreL (lv2 := fun v47 => [(4, .int v47), (9, .int v7), (8, .int v6), (7, .int v4), (6, .int v2), (0, .ref j), (2, .int x2), (3, .int x3), (5, .int x5)]) dX2_run_332 (Nat.le_of_ble_eq_true rfl) (fun _ => rfl) (fun v47 => ?_)
                                  refine z_iincL (lv2 := fun v48 => [(5, .int v48), (4, .int v47), (9, .int v7), (8, .int v6), (7, .int v4), (6, .int v2), (0, .ref j), (2, .int x2), (3, .int x3)]) dX2_run_334 8 rfl rfl (Nat.le_of_ble_eq_true rfl) (fun _ => rfl) (fun v48 => ?_)
                                  refine z_goto (tgt := 8) dX2_run_337 (by decide) ?_
                                  exact z_sub [6, 7, 8, 1, 0] rfl (ih _ _ _ _ _)
                                · refine z_iload dX2_run_323 0 rfl ?_
                                  refine z_goto (tgt := 332) dX2_run_325 (by decide) ?_
                                  refine z_istore (lv2 := [(4, .int v8), (9, .int v7), (8, .int v6), (7, .int v4), (6, .int v2), (0, .ref j), (2, .int x2), (3, .int x3), (5, .int x5)]) dX2_run_332 (Nat.le_of_ble_eq_true rfl) rfl ?_
                                  refine z_iincL (lv2 := fun v49 => [(5, .int v49), (4, .int v8), (9, .int v7), (8, .int v6), (7, .int v4), (6, .int v2), (0, .ref j), (2, .int x2), (3, .int x3)]) dX2_run_334 8 rfl rfl (Nat.le_of_ble_eq_true rfl) (fun _ => rfl) (fun v49 => ?_)
                                  refine z_goto (tgt := 8) dX2_run_337 (by decide) ?_
                                  exact z_sub [6, 7, 8, 1, 0] rfl (ih _ _ _ _ _)
set_option maxHeartbeats 4000000 in
set_option maxRecDepth 100000 in
theorem w_X2_run {j : Nat} (hj_j : isLaw j) (x1 : Int32) (x2 : Int32) (h : AHp) : WO tvI QX2_run 0 0 [(0, .ref j), (1, .int x1), (2, .int x2)] [] h (m_X2_run j x1 x2 h) := by
  unfold m_X2_run
  refine z_iconst (v := 0) dX2_run_0 (by decide) ?_
  refine z_istore_n (lv2 := [(3, .int 0), (0, .ref j), (1, .int x1), (2, .int x2)]) dX2_run_1 (Nat.le_of_ble_eq_true rfl) rfl ?_
  refine z_iload_n dX2_run_2 2 rfl ?_
  refine z_istore (lv2 := [(4, .int x1), (3, .int 0), (0, .ref j), (1, .int x1), (2, .int x2)]) dX2_run_3 (Nat.le_of_ble_eq_true rfl) rfl ?_
  refine z_iconst (v := 0) dX2_run_5 (by decide) ?_
  refine z_istore (lv2 := [(5, .int 0), (4, .int x1), (3, .int 0), (0, .ref j), (1, .int x1), (2, .int x2)]) dX2_run_6 (Nat.le_of_ble_eq_true rfl) rfl ?_
  exact z_sub [3, 5, 2, 1, 0] rfl (w_X2_run_8 hj_j FU _ _ _ _ _)
theorem M_X2_run {j : Nat} (hj_j : isLaw j) (x1 : Int32) (x2 : Int32) (h : AHp) : MI QX2_run 0 [.ref j, .int x1, .int x2] h (m_X2_run j x1 x2 h) := MI.of (by decide) rfl rfl (Nat.le_of_ble_eq_true rfl) (w_X2_run hj_j x1 x2 h)
set_option maxHeartbeats 4000000 in
set_option maxRecDepth 100000 in
theorem w_X2_allowed_111 {j : Nat} (hj_j : isLaw j) (k17 : Int32 → Int32 → AHp → Option (Int32 × AHp)) (hk17 : ∀ (x3 : Int32) (x4 : Int32) (h : AHp), WO tvI QX2_allowed 1 17 [(0, .ref j), (3, .int x3), (4, .int x4)] [] h (k17 x3 x4 h)) : ∀ (f : Nat) (x3 : Int32) (x4 : Int32) (x5 : Int32) (x6 : Int32) (x7 : Int32) (h : AHp), WO tvI QX2_allowed 1 111 [(0, .ref j), (3, .int x3), (4, .int x4), (5, .int x5), (6, .int x6), (7, .int x7)] [] h (m_X2_allowed_111 j k17 f x3 x4 x5 x6 x7 h) := by
  intro f
  induction f with
  | zero => intro x3 x4 x5 x6 x7 h; exact z_none
  | succ f ih =>
    intro x3 x4 x5 x6 x7 h
    rw [m_X2_allowed_111]
    refine z_iload dX2_allowed_111 3 rfl ?_
    refine z_if_eq (tgt := 182) dX2_allowed_113 (by decide) ?_ ?_
    · refine z_iincL (lv2 := fun v1 => [(4, .int v1), (0, .ref j), (3, .int x3), (5, .int x5), (6, .int x6), (7, .int x7)]) dX2_allowed_182 2 rfl rfl (Nat.le_of_ble_eq_true rfl) (fun _ => rfl) (fun v1 => ?_)
      refine z_goto (tgt := 17) dX2_allowed_185 (by decide) ?_
      exact z_sub [1, 2, 0] rfl (hk17 _ _ _)
    · refine z_iload dX2_allowed_116 4 rfl ?_
      refine z_if_eq (tgt := 182) dX2_allowed_118 (by decide) ?_ ?_
      · refine z_iincL (lv2 := fun v2 => [(4, .int v2), (0, .ref j), (3, .int x3), (5, .int x5), (6, .int x6), (7, .int x7)]) dX2_allowed_182 2 rfl rfl (Nat.le_of_ble_eq_true rfl) (fun _ => rfl) (fun v2 => ?_)
        refine z_goto (tgt := 17) dX2_allowed_185 (by decide) ?_
        exact z_sub [1, 2, 0] rfl (hk17 _ _ _)
      · refine z_iload dX2_allowed_121 5 rfl ?_
        refine z_bipush (v := 24) dX2_allowed_123 (by decide) ?_
        refine z_ic_gt (tgt := 182) dX2_allowed_125 (by decide) ?_ ?_
        · refine z_iincL (lv2 := fun v3 => [(4, .int v3), (0, .ref j), (3, .int x3), (5, .int x5), (6, .int x6), (7, .int x7)]) dX2_allowed_182 2 rfl rfl (Nat.le_of_ble_eq_true rfl) (fun _ => rfl) (fun v3 => ?_)
          refine z_goto (tgt := 17) dX2_allowed_185 (by decide) ?_
          exact z_sub [1, 2, 0] rfl (hk17 _ _ _)
        · refine z_aload_n dX2_allowed_128 0 rfl ?_
          refine z_getR fX2_15 (law_k hj_j) rfl rfl (law_r1 hj_j) (Nat.succ_ne_zero _) dX2_allowed_129 ?_
          refine z_iconst (v := 0) dX2_allowed_132 (by decide) ?_
          refine z_iload dX2_allowed_133 5 rfl ?_
          refine z_iast (law_k1 hj_j) dX2_allowed_135 (by decide) ?_
          refine z_lh (fun h4 => ?_)
          refine z_iload_n dX2_allowed_136 1 rfl ?_
          refine z_iload dX2_allowed_137 5 rfl ?_
          refine z_ishr dX2_allowed_139 ?_
          refine z_iconst (v := 1) dX2_allowed_140 (by decide) ?_
          refine z_iand dX2_allowed_141 ?_
          refine z_if_eq (tgt := 176) dX2_allowed_142 (by decide) ?_ ?_
          · refine z_iincL (lv2 := fun v5 => [(7, .int v5), (0, .ref j), (3, .int x3), (4, .int x4), (5, .int x5), (6, .int x6)]) dX2_allowed_176 5 rfl rfl (Nat.le_of_ble_eq_true rfl) (fun _ => rfl) (fun v5 => ?_)
            refine z_goto (tgt := 111) dX2_allowed_179 (by decide) ?_
            exact z_sub [1, 2, 3, 4, 5, 0] rfl (ih _ _ _ _ _ _)
          · refine z_aload_n dX2_allowed_145 0 rfl ?_
            refine z_aload_n dX2_allowed_146 0 rfl ?_
            refine z_getR fX2_21 (law_k hj_j) rfl rfl (law_r3 hj_j) (Nat.succ_ne_zero _) dX2_allowed_147 ?_
            refine z_iload dX2_allowed_150 2 rfl ?_
            refine z_gd (fun g6 => ?_)
            refine z_iald (law_k3 hj_j) dX2_allowed_152 g6 ?_
            refine z_aload_n dX2_allowed_153 0 rfl ?_
            refine z_getR fX2_24 (law_k hj_j) rfl rfl (law_r4 hj_j) (Nat.succ_ne_zero _) dX2_allowed_154 ?_
            refine z_iload dX2_allowed_157 2 rfl ?_
            refine z_gd (fun g7 => ?_)
            refine z_iald (law_k4 hj_j) dX2_allowed_159 g7 ?_
            refine z_callVI dX2_allowed_160 (M_X2_run hj_j _ _ _) bX2_run lX2_55 (law_k hj_j) rfl rfl (Nat.le_of_ble_eq_true rfl) (Nat.le_of_ble_eq_true rfl) (fun r8 h9 => ?_)
            refine z_iconst (v := 1) dX2_allowed_163 (by decide) ?_
            refine z_ic_ne (tgt := 176) dX2_allowed_164 (by decide) ?_ ?_
            · refine z_iincL (lv2 := fun v10 => [(7, .int v10), (0, .ref j), (3, .int x3), (4, .int x4), (5, .int x5), (6, .int x6)]) dX2_allowed_176 5 rfl rfl (Nat.le_of_ble_eq_true rfl) (fun _ => rfl) (fun v10 => ?_)
              refine z_goto (tgt := 111) dX2_allowed_179 (by decide) ?_
              exact z_sub [1, 2, 3, 4, 5, 0] rfl (ih _ _ _ _ _ _)
            · refine z_iload_n dX2_allowed_167 1 rfl ?_
              refine z_iconst (v := 1) dX2_allowed_168 (by decide) ?_
              refine z_iload dX2_allowed_169 5 rfl ?_
              refine z_ishl dX2_allowed_171 ?_
              refine z_iconst (v := -1) dX2_allowed_172 (by decide) ?_
              refine z_ixor dX2_allowed_173 ?_
              refine z_iand dX2_allowed_174 ?_
              refine z_istore_nL (lv2 := fun v11 => [(3, .int v11), (0, .ref j), (4, .int x4), (5, .int x5), (6, .int x6), (7, .int x7)]) dX2_allowed_175 (Nat.le_of_ble_eq_true rfl) (fun _ => rfl) (fun v11 => ?_)
              refine z_iincL (lv2 := fun v12 => [(7, .int v12), (3, .int v11), (0, .ref j), (4, .int x4), (5, .int x5), (6, .int x6)]) dX2_allowed_176 5 rfl rfl (Nat.le_of_ble_eq_true rfl) (fun _ => rfl) (fun v12 => ?_)
              refine z_goto (tgt := 111) dX2_allowed_179 (by decide) ?_
              exact z_sub [2, 1, 3, 4, 5, 0] rfl (ih _ _ _ _ _ _)
set_option maxHeartbeats 4000000 in
set_option maxRecDepth 100000 in
theorem w_X2_allowed_72 {j : Nat} (hj_j : isLaw j) (k17 : Int32 → Int32 → AHp → Option (Int32 × AHp)) (hk17 : ∀ (x3 : Int32) (x4 : Int32) (h : AHp), WO tvI QX2_allowed 1 17 [(0, .ref j), (3, .int x3), (4, .int x4)] [] h (k17 x3 x4 h)) (x3 : Int32) (x4 : Int32) (x5 : Int32) (s0 : Int32) (h : AHp) : WO tvI QX2_allowed 1 72 [(0, .ref j), (3, .int x3), (4, .int x4), (5, .int x5)] [.int s0] h (m_X2_allowed_72 j k17 x3 x4 x5 s0 h) := by
  unfold m_X2_allowed_72
  refine z_istore (lv2 := [(6, .int s0), (0, .ref j), (3, .int x3), (4, .int x4), (5, .int x5)]) dX2_allowed_72 (Nat.le_of_ble_eq_true rfl) rfl ?_
  refine z_iload dX2_allowed_74 4 rfl ?_
  refine z_if_eq (tgt := 108) dX2_allowed_76 (by decide) ?_ ?_
  · refine z_iconst (v := 1) dX2_allowed_108 (by decide) ?_
    refine z_istore (lv2 := [(7, .int 1), (6, .int s0), (0, .ref j), (3, .int x3), (4, .int x4), (5, .int x5)]) dX2_allowed_109 (Nat.le_of_ble_eq_true rfl) rfl ?_
    exact z_sub [2, 3, 4, 5, 1, 0] rfl (w_X2_allowed_111 hj_j _ hk17 FU _ _ _ _ _ _)
  · refine z_iload dX2_allowed_79 0 rfl ?_
    refine z_if_ne (tgt := 108) dX2_allowed_81 (by decide) ?_ ?_
    · refine z_iconst (v := 1) dX2_allowed_108 (by decide) ?_
      refine z_istore (lv2 := [(7, .int 1), (6, .int s0), (0, .ref j), (3, .int x3), (4, .int x4), (5, .int x5)]) dX2_allowed_109 (Nat.le_of_ble_eq_true rfl) rfl ?_
      exact z_sub [2, 3, 4, 5, 1, 0] rfl (w_X2_allowed_111 hj_j _ hk17 FU _ _ _ _ _ _)
    · refine z_aload_n dX2_allowed_84 1 rfl ?_
      refine z_aload_n dX2_allowed_85 1 rfl ?_
      refine z_getR fX2_21 (law_k hj_j) rfl rfl (law_r3 hj_j) (Nat.succ_ne_zero _) dX2_allowed_86 ?_
      refine z_iload dX2_allowed_89 3 rfl ?_
      refine z_gd (fun g13 => ?_)
      refine z_iald (law_k3 hj_j) dX2_allowed_91 g13 ?_
      refine z_aload_n dX2_allowed_92 1 rfl ?_
      refine z_getR fX2_24 (law_k hj_j) rfl rfl (law_r4 hj_j) (Nat.succ_ne_zero _) dX2_allowed_93 ?_
      refine z_iload dX2_allowed_96 3 rfl ?_
      refine z_gd (fun g14 => ?_)
      refine z_iald (law_k4 hj_j) dX2_allowed_98 g14 ?_
      refine z_callVI dX2_allowed_99 (M_X2_run hj_j _ _ _) bX2_run lX2_55 (law_k hj_j) rfl rfl (Nat.le_of_ble_eq_true rfl) (Nat.le_of_ble_eq_true rfl) (fun r15 h16 => ?_)
      refine z_iconst (v := 1) dX2_allowed_102 (by decide) ?_
      refine z_ic_ne (tgt := 108) dX2_allowed_103 (by decide) ?_ ?_
      · refine z_iconst (v := 1) dX2_allowed_108 (by decide) ?_
        refine z_istore (lv2 := [(7, .int 1), (6, .int s0), (0, .ref j), (3, .int x3), (4, .int x4), (5, .int x5)]) dX2_allowed_109 (Nat.le_of_ble_eq_true rfl) rfl ?_
        exact z_sub [2, 3, 4, 5, 1, 0] rfl (w_X2_allowed_111 hj_j _ hk17 FU _ _ _ _ _ _)
      · refine z_iconst (v := 0) dX2_allowed_106 (by decide) ?_
        refine z_istore_n (lv2 := [(3, .int 0), (6, .int s0), (0, .ref j), (4, .int x4), (5, .int x5)]) dX2_allowed_107 (Nat.le_of_ble_eq_true rfl) rfl ?_
        refine z_iconst (v := 1) dX2_allowed_108 (by decide) ?_
        refine z_istore (lv2 := [(7, .int 1), (3, .int 0), (6, .int s0), (0, .ref j), (4, .int x4), (5, .int x5)]) dX2_allowed_109 (Nat.le_of_ble_eq_true rfl) rfl ?_
        exact z_sub [3, 1, 4, 5, 2, 0] rfl (w_X2_allowed_111 hj_j _ hk17 FU _ _ _ _ _ _)
set_option maxHeartbeats 4000000 in
set_option maxRecDepth 100000 in
theorem w_X2_allowed_53 {j : Nat} (hj_j : isLaw j) (k17 : Int32 → Int32 → AHp → Option (Int32 × AHp)) (hk17 : ∀ (x3 : Int32) (x4 : Int32) (h : AHp), WO tvI QX2_allowed 1 17 [(0, .ref j), (3, .int x3), (4, .int x4)] [] h (k17 x3 x4 h)) (x3 : Int32) (x4 : Int32) (s0 : Int32) (h : AHp) : WO tvI QX2_allowed 1 53 [(0, .ref j), (3, .int x3), (4, .int x4)] [.int s0] h (m_X2_allowed_53 j k17 x3 x4 s0 h) := by
  unfold m_X2_allowed_53
  refine z_istore (lv2 := [(5, .int s0), (0, .ref j), (3, .int x3), (4, .int x4)]) dX2_allowed_53 (Nat.le_of_ble_eq_true rfl) rfl ?_
  refine z_aload_n dX2_allowed_55 1 rfl ?_
  refine z_getR fX2_30 (law_k hj_j) rfl rfl (law_r6 hj_j) (Nat.succ_ne_zero _) dX2_allowed_56 ?_
  refine z_iload dX2_allowed_59 3 rfl ?_
  refine z_gd (fun g17 => ?_)
  refine z_iald (law_k6 hj_j) dX2_allowed_61 g17 ?_
  refine z_iconst (v := 1) dX2_allowed_62 (by decide) ?_
  refine z_iand dX2_allowed_63 ?_
  refine z_if_eq (tgt := 71) dX2_allowed_64 (by decide) ?_ ?_
  · refine z_iconst (v := 0) dX2_allowed_71 (by decide) ?_
    exact z_sub [1, 2, 3, 0] rfl (w_X2_allowed_72 hj_j _ hk17 _ _ _ _ _)
  · refine z_iconst (v := 1) dX2_allowed_67 (by decide) ?_
    refine z_goto (tgt := 72) dX2_allowed_68 (by decide) ?_
    exact z_sub [1, 2, 3, 0] rfl (w_X2_allowed_72 hj_j _ hk17 _ _ _ _ _)
set_option maxHeartbeats 4000000 in
set_option maxRecDepth 100000 in
theorem w_X2_allowed_17 {j : Nat} (hj_j : isLaw j) : ∀ (f : Nat) (x3 : Int32) (x4 : Int32) (h : AHp), WO tvI QX2_allowed 1 17 [(0, .ref j), (3, .int x3), (4, .int x4)] [] h (m_X2_allowed_17 j f x3 x4 h) := by
  intro f
  induction f with
  | zero => intro x3 x4 h; exact z_none
  | succ f ih =>
    intro x3 x4 h
    rw [m_X2_allowed_17]
    refine z_iload dX2_allowed_17 2 rfl ?_
    refine z_aload_n dX2_allowed_19 0 rfl ?_
    refine z_getI fX2_40 (law_k hj_j) rfl dX2_allowed_20 ?_
    refine z_ic_ge (tgt := 188) dX2_allowed_23 (by decide) ?_ ?_
    · refine z_iload_n dX2_allowed_188 1 rfl ?_
      exact z_iret dX2_allowed_189 rfl
    · refine z_iload dX2_allowed_26 2 rfl ?_
      refine z_bipush (v := 14) dX2_allowed_28 (by decide) ?_
      refine z_ic_ge (tgt := 188) dX2_allowed_30 (by decide) ?_ ?_
      · refine z_iload_n dX2_allowed_188 1 rfl ?_
        exact z_iret dX2_allowed_189 rfl
      · refine z_iload_n dX2_allowed_33 1 rfl ?_
        refine z_if_eq (tgt := 188) dX2_allowed_34 (by decide) ?_ ?_
        · refine z_iload_n dX2_allowed_188 1 rfl ?_
          exact z_iret dX2_allowed_189 rfl
        · refine z_aload_n dX2_allowed_37 0 rfl ?_
          refine z_getR fX2_27 (law_k hj_j) rfl rfl (law_r5 hj_j) (Nat.succ_ne_zero _) dX2_allowed_38 ?_
          refine z_iload dX2_allowed_41 2 rfl ?_
          refine z_gd (fun g18 => ?_)
          refine z_iald (law_k5 hj_j) dX2_allowed_43 g18 ?_
          refine z_iconst (v := -1) dX2_allowed_44 (by decide) ?_
          refine z_ic_ne (tgt := 52) dX2_allowed_45 (by decide) ?_ ?_
          · refine z_iconst (v := 0) dX2_allowed_52 (by decide) ?_
            exact w_X2_allowed_53 hj_j _ ih _ _ _ _
          · refine z_iconst (v := 1) dX2_allowed_48 (by decide) ?_
            refine z_goto (tgt := 53) dX2_allowed_49 (by decide) ?_
            exact w_X2_allowed_53 hj_j _ ih _ _ _ _
set_option maxHeartbeats 4000000 in
set_option maxRecDepth 100000 in
theorem w_X2_allowed {j : Nat} (hj_j : isLaw j) (x2 : Int32) (h : AHp) : WO tvI QX2_allowed 1 0 [(0, .ref j), (1, .ref 6), (2, .int x2)] [] h (m_X2_allowed j x2 h) := by
  unfold m_X2_allowed
  refine z_aload_n dX2_allowed_0 1 rfl ?_
  refine z_iconst (v := 0) dX2_allowed_1 (by decide) ?_
  refine z_aload_n dX2_allowed_2 0 rfl ?_
  refine z_getR fX2_15 (law_k hj_j) rfl rfl (law_r1 hj_j) (Nat.succ_ne_zero _) dX2_allowed_3 ?_
  refine z_iconst (v := 0) dX2_allowed_6 (by decide) ?_
  refine z_bipush (v := 9) dX2_allowed_7 (by decide) ?_
  refine z_copy kc_6 (law_k1 hj_j) dX2_allowed_9 lX2_49 w_copy (Nat.le_of_ble_eq_true rfl) (Nat.le_of_ble_eq_true rfl) (by decide) ?_
  refine z_lh (fun h19 => ?_)
  refine z_iload_n dX2_allowed_12 2 rfl ?_
  refine z_istore_n (lv2 := [(3, .int x2), (0, .ref j), (1, .ref 6), (2, .int x2)]) dX2_allowed_13 (Nat.le_of_ble_eq_true rfl) rfl ?_
  refine z_iconst (v := 0) dX2_allowed_14 (by decide) ?_
  refine z_istore (lv2 := [(4, .int 0), (3, .int x2), (0, .ref j), (1, .ref 6), (2, .int x2)]) dX2_allowed_15 (Nat.le_of_ble_eq_true rfl) rfl ?_
  exact z_sub [2, 1, 0] rfl (w_X2_allowed_17 hj_j FU _ _ _)
theorem M_X2_allowed {j : Nat} (hj_j : isLaw j) (x2 : Int32) (h : AHp) : MI QX2_allowed 1 [.ref j, .ref 6, .int x2] h (m_X2_allowed j x2 h) := MI.of (by decide) rfl rfl (Nat.le_of_ble_eq_true rfl) (w_X2_allowed hj_j x2 h)
set_option maxHeartbeats 4000000 in
set_option maxRecDepth 100000 in
theorem w_X9_lets_50 (x1 : Int32) (x5 : Int32) (h : AHp) : WO tvI QX9_lets 2 50 [(0, .ref 3), (1, .int x1), (5, .int x5)] [] h (m_X9_lets_50 x1 x5 h) := by
  unfold m_X9_lets_50
  refine z_iload_n dX9_lets_50 1 rfl ?_
  refine z_iconst (v := 2) dX9_lets_51 (by decide) ?_
  refine z_iand dX9_lets_52 ?_
  refine z_if_eq (tgt := 71) dX9_lets_53 (by decide) ?_ ?_
  · refine z_iload dX9_lets_71 2 rfl ?_
    exact z_iret dX9_lets_73 rfl
  · refine z_aload_n dX9_lets_56 0 rfl ?_
    refine z_gd (fun g1 => ?_)
    refine z_getM fX9_28 kc_3 rfl rfl (law_ne g1) dX9_lets_57 ?_
    refine z_aload_n dX9_lets_60 0 rfl ?_
    refine z_getR (j := 6) fX9_18 kc_3 rfl rfl rfl (by decide) dX9_lets_61 ?_
    refine z_iload dX9_lets_64 2 rfl ?_
    refine z_callVI dX9_lets_66 (M_X2_allowed g1 _ _) bX2_allowed lX9_58 (law_k g1) rfl rfl (Nat.le_of_ble_eq_true rfl) (Nat.le_of_ble_eq_true rfl) (fun r2 h3 => ?_)
    refine z_istore (lv2 := [(5, .int r2), (0, .ref 3), (1, .int x1)]) dX9_lets_69 (Nat.le_of_ble_eq_true rfl) rfl ?_
    refine z_iload dX9_lets_71 0 rfl ?_
    exact z_iret dX9_lets_73 rfl
set_option maxHeartbeats 4000000 in
set_option maxRecDepth 100000 in
theorem w_X9_lets (x1 : Int32) (x2 : Int32) (x3 : Int32) (x4 : Int32) (h : AHp) : WO tvI QX9_lets 2 0 [(0, .ref 3), (1, .int x1), (2, .int x2), (3, .int x3), (4, .int x4)] [] h (m_X9_lets x1 x2 x3 x4 h) := by
  unfold m_X9_lets
  refine z_aload_n dX9_lets_0 0 rfl ?_
  refine z_getR (j := 6) fX9_18 kc_3 rfl rfl rfl (by decide) dX9_lets_1 ?_
  refine z_iconst (v := 2) dX9_lets_4 (by decide) ?_
  refine z_iload_n dX9_lets_5 2 rfl ?_
  refine z_iast kc_6 dX9_lets_6 (by decide) ?_
  refine z_lh (fun h4 => ?_)
  refine z_aload_n dX9_lets_7 0 rfl ?_
  refine z_getR (j := 6) fX9_18 kc_3 rfl rfl rfl (by decide) dX9_lets_8 ?_
  refine z_iconst (v := 3) dX9_lets_11 (by decide) ?_
  refine z_aload_n dX9_lets_12 0 rfl ?_
  refine z_iload_n dX9_lets_13 2 rfl ?_
  refine z_callVI dX9_lets_14 (M_X9_colourOf _ _) bX9_colourOf lX9_55 kc_3 rfl rfl (Nat.le_of_ble_eq_true rfl) (Nat.le_of_ble_eq_true rfl) (fun r5 h6 => ?_)
  refine z_iast kc_6 dX9_lets_17 (by decide) ?_
  refine z_lh (fun h7 => ?_)
  refine z_aload_n dX9_lets_18 0 rfl ?_
  refine z_getR (j := 6) fX9_18 kc_3 rfl rfl rfl (by decide) dX9_lets_19 ?_
  refine z_iconst (v := 1) dX9_lets_22 (by decide) ?_
  refine z_iload_n dX9_lets_23 3 rfl ?_
  refine z_iast kc_6 dX9_lets_24 (by decide) ?_
  refine z_lh (fun h8 => ?_)
  refine z_iload dX9_lets_25 4 rfl ?_
  refine z_istore (lv2 := [(5, .int x4), (0, .ref 3), (1, .int x1), (2, .int x2), (3, .int x3), (4, .int x4)]) dX9_lets_27 (Nat.le_of_ble_eq_true rfl) rfl ?_
  refine z_iload_n dX9_lets_29 2 rfl ?_
  refine z_iconst (v := 1) dX9_lets_30 (by decide) ?_
  refine z_iand dX9_lets_31 ?_
  refine z_if_eq (tgt := 50) dX9_lets_32 (by decide) ?_ ?_
  · exact z_sub [1, 2, 0] rfl (w_X9_lets_50 _ _ _)
  · refine z_aload_n dX9_lets_35 1 rfl ?_
    refine z_gd (fun g9 => ?_)
    refine z_getM fX9_24 kc_3 rfl rfl (law_ne g9) dX9_lets_36 ?_
    refine z_aload_n dX9_lets_39 1 rfl ?_
    refine z_getR (j := 6) fX9_18 kc_3 rfl rfl rfl (by decide) dX9_lets_40 ?_
    refine z_iload dX9_lets_43 0 rfl ?_
    refine z_callVI dX9_lets_45 (M_X2_allowed g9 _ _) bX2_allowed lX9_58 (law_k g9) rfl rfl (Nat.le_of_ble_eq_true rfl) (Nat.le_of_ble_eq_true rfl) (fun r10 h11 => ?_)
    refine z_istore (lv2 := [(5, .int r10), (0, .ref 3), (1, .int x1), (2, .int x2), (3, .int x3), (4, .int x4)]) dX9_lets_48 (Nat.le_of_ble_eq_true rfl) rfl ?_
    exact z_sub [1, 2, 0] rfl (w_X9_lets_50 _ _ _)
theorem M_X9_lets (x1 : Int32) (x2 : Int32) (x3 : Int32) (x4 : Int32) (h : AHp) : MI QX9_lets 2 [.ref 3, .int x1, .int x2, .int x3, .int x4] h (m_X9_lets x1 x2 x3 x4 h) := MI.of (by decide) rfl rfl (Nat.le_of_ble_eq_true rfl) (w_X9_lets x1 x2 x3 x4 h)
set_option maxHeartbeats 4000000 in
set_option maxRecDepth 100000 in
theorem w_X1_keyOf (x1 : Int32) (x2 : Int32) (x3 : Int32) (h : AHp) : WO tvI QX1_keyOf 0 0 [(0, .ref 51), (1, .int x1), (2, .int x2), (3, .int x3)] [] h (m_X1_keyOf x1 x2 x3 h) := by
  unfold m_X1_keyOf
  refine z_iload_n dX1_keyOf_0 1 rfl ?_
  refine z_sipush (v := 625) dX1_keyOf_1 (by decide) ?_
  refine z_imul dX1_keyOf_4 ?_
  refine z_aload_n dX1_keyOf_5 0 rfl ?_
  refine z_getI fX1_61 kc_51 rfl dX1_keyOf_6 ?_
  refine z_if_eq (tgt := 19) dX1_keyOf_9 (by decide) ?_ ?_
  · refine z_iconst (v := 0) dX1_keyOf_19 (by decide) ?_
    refine z_iadd dX1_keyOf_20 ?_
    refine z_aload_n dX1_keyOf_21 0 rfl ?_
    refine z_getI fX1_57 kc_51 rfl dX1_keyOf_22 ?_
    refine z_if_eq (tgt := 32) dX1_keyOf_25 (by decide) ?_ ?_
    · refine z_iconst (v := 0) dX1_keyOf_32 (by decide) ?_
      refine z_iadd dX1_keyOf_33 ?_
      exact z_iret dX1_keyOf_34 rfl
    · refine z_iload_n dX1_keyOf_28 3 rfl ?_
      refine z_goto (tgt := 33) dX1_keyOf_29 (by decide) ?_
      refine z_iadd dX1_keyOf_33 ?_
      exact z_iret dX1_keyOf_34 rfl
  · refine z_iload_n dX1_keyOf_12 2 rfl ?_
    refine z_bipush (v := 25) dX1_keyOf_13 (by decide) ?_
    refine z_imul dX1_keyOf_15 ?_
    refine z_goto (tgt := 20) dX1_keyOf_16 (by decide) ?_
    refine z_iadd dX1_keyOf_20 ?_
    refine z_aload_n dX1_keyOf_21 0 rfl ?_
    refine z_getI fX1_57 kc_51 rfl dX1_keyOf_22 ?_
    refine z_if_eq (tgt := 32) dX1_keyOf_25 (by decide) ?_ ?_
    · refine z_iconst (v := 0) dX1_keyOf_32 (by decide) ?_
      refine z_iadd dX1_keyOf_33 ?_
      exact z_iret dX1_keyOf_34 rfl
    · refine z_iload_n dX1_keyOf_28 3 rfl ?_
      refine z_goto (tgt := 33) dX1_keyOf_29 (by decide) ?_
      refine z_iadd dX1_keyOf_33 ?_
      exact z_iret dX1_keyOf_34 rfl
theorem M_X1_keyOf (x1 : Int32) (x2 : Int32) (x3 : Int32) (h : AHp) : MI QX1_keyOf 0 [.ref 51, .int x1, .int x2, .int x3] h (m_X1_keyOf x1 x2 x3 h) := MI.of (by decide) rfl rfl (Nat.le_of_ble_eq_true rfl) (w_X1_keyOf x1 x2 x3 h)
set_option maxHeartbeats 4000000 in
set_option maxRecDepth 100000 in
theorem w_X3_has (x1 : Int32) (h : AHp) : WO tvI QX3_has 0 0 [(0, .ref 31), (1, .int x1)] [] h (m_X3_has x1 h) := by
  unfold m_X3_has
  refine z_iload_n dX3_has_0 1 rfl ?_
  refine z_if_lt (tgt := 33) dX3_has_1 (by decide) ?_ ?_
  · refine z_iconst (v := 0) dX3_has_33 (by decide) ?_
    exact z_zret dX3_has_34 rfl (Or.inl rfl)
  · refine z_iload_n dX3_has_4 1 rfl ?_
    refine z_sipush (v := 12500) dX3_has_5 (by decide) ?_
    refine z_ic_ge (tgt := 33) dX3_has_8 (by decide) ?_ ?_
    · refine z_iconst (v := 0) dX3_has_33 (by decide) ?_
      exact z_zret dX3_has_34 rfl (Or.inl rfl)
    · refine z_aload_n dX3_has_11 0 rfl ?_
      refine z_getR (j := 32) fX3_11 kc_31 rfl rfl rfl (by decide) dX3_has_12 ?_
      refine z_iload_n dX3_has_15 1 rfl ?_
      refine z_gd (fun g1 => ?_)
      refine z_lald kc_32 dX3_has_16 g1 ?_
      refine z_bipush (v := 32) dX3_has_17 (by decide) ?_
      refine z_lshr dX3_has_19 ?_
      refine z_aload_n dX3_has_20 0 rfl ?_
      refine z_getI fX3_15 kc_31 rfl dX3_has_21 ?_
      refine z_i2l dX3_has_24 ?_
      refine z_lcmp dX3_has_25 ?_
      refine z_if_ne (tgt := 33) dX3_has_26 (by decide) ?_ ?_
      · refine z_iconst (v := 0) dX3_has_33 (by decide) ?_
        exact z_zret dX3_has_34 rfl (Or.inl rfl)
      · refine z_iconst (v := 1) dX3_has_29 (by decide) ?_
        refine z_goto (tgt := 34) dX3_has_30 (by decide) ?_
        exact z_zret dX3_has_34 rfl (Or.inr rfl)
theorem M_X3_has (x1 : Int32) (h : AHp) : MI QX3_has 0 [.ref 31, .int x1] h (m_X3_has x1 h) := MI.of (by decide) rfl rfl (Nat.le_of_ble_eq_true rfl) (w_X3_has x1 h)
set_option maxHeartbeats 4000000 in
set_option maxRecDepth 100000 in
theorem w_X3_get (x1 : Int32) (h : AHp) : WO tvI QX3_get 0 0 [(0, .ref 31), (1, .int x1)] [] h (m_X3_get x1 h) := by
  unfold m_X3_get
  refine z_iload_n dX3_get_0 1 rfl ?_
  refine z_if_lt (tgt := 21) dX3_get_1 (by decide) ?_ ?_
  · refine z_iconst (v := 0) dX3_get_21 (by decide) ?_
    exact z_iret dX3_get_22 rfl
  · refine z_iload_n dX3_get_4 1 rfl ?_
    refine z_sipush (v := 12500) dX3_get_5 (by decide) ?_
    refine z_ic_ge (tgt := 21) dX3_get_8 (by decide) ?_ ?_
    · refine z_iconst (v := 0) dX3_get_21 (by decide) ?_
      exact z_iret dX3_get_22 rfl
    · refine z_aload_n dX3_get_11 0 rfl ?_
      refine z_getR (j := 32) fX3_11 kc_31 rfl rfl rfl (by decide) dX3_get_12 ?_
      refine z_iload_n dX3_get_15 1 rfl ?_
      refine z_gd (fun g1 => ?_)
      refine z_lald kc_32 dX3_get_16 g1 ?_
      refine z_l2i dX3_get_17 ?_
      refine z_goto (tgt := 22) dX3_get_18 (by decide) ?_
      exact z_iret dX3_get_22 rfl
theorem M_X3_get (x1 : Int32) (h : AHp) : MI QX3_get 0 [.ref 31, .int x1] h (m_X3_get x1 h) := MI.of (by decide) rfl rfl (Nat.le_of_ble_eq_true rfl) (w_X3_get x1 h)
set_option maxHeartbeats 4000000 in
set_option maxRecDepth 100000 in
theorem w_X1_fewest_b_194 {dd : Nat} (rec : Int32 → Int32 → Int32 → AHp → Option (Int32 × AHp)) (hrec : ∀ (x1 : Int32) (x2 : Int32) (x3 : Int32) (h : AHp), MI QX1_fewest (dd + 40) [.ref 51, .int x1, .int x2, .int x3] h (rec x1 x2 x3 h)) (k139 : Int32 → Int32 → Int32 → Int32 → Int32 → Int32 → Int32 → AHp → Option (Int32 × AHp)) (hk139 : ∀ (x1 : Int32) (x2 : Int32) (x4 : Int32) (x5 : Int32) (x6 : Int32) (x7 : Int32) (x8 : Int32) (h : AHp), WO tvI QX1_fewest (dd + 41) 139 [(0, .ref 51), (1, .int x1), (2, .int x2), (4, .int x4), (5, .int x5), (6, .int x6), (7, .int x7), (8, .int x8)] [] h (k139 x1 x2 x4 x5 x6 x7 x8 h)) (x1 : Int32) (x2 : Int32) (x4 : Int32) (x5 : Int32) (x6 : Int32) (x7 : Int32) (x8 : Int32) (s0 : Int32) (h : AHp) : WO tvI QX1_fewest (dd + 41) 194 [(0, .ref 51), (1, .int x1), (2, .int x2), (4, .int x4), (5, .int x5), (6, .int x6), (7, .int x7), (8, .int x8)] [.int s0] h (m_X1_fewest_b_194 rec k139 x1 x2 x4 x5 x6 x7 x8 s0 h) := by
  unfold m_X1_fewest_b_194
  refine z_istore (lv2 := [(9, .int s0), (0, .ref 51), (1, .int x1), (2, .int x2), (4, .int x4), (5, .int x5), (6, .int x6), (7, .int x7), (8, .int x8)]) dX1_fewest_194 (Nat.le_of_ble_eq_true rfl) rfl ?_
  refine z_iload dX1_fewest_196 0 rfl ?_
  refine z_if_lt (tgt := 227) dX1_fewest_198 (by decide) ?_ ?_
  · refine z_iincL (lv2 := fun v1 => [(8, .int v1), (9, .int s0), (0, .ref 51), (1, .int x1), (2, .int x2), (4, .int x4), (5, .int x5), (6, .int x6), (7, .int x7)]) dX1_fewest_227 8 rfl rfl (Nat.le_of_ble_eq_true rfl) (fun _ => rfl) (fun v1 => ?_)
    refine z_goto (tgt := 139) dX1_fewest_230 (by decide) ?_
    exact z_sub [2, 3, 4, 5, 6, 7, 8, 0] rfl (hk139 _ _ _ _ _ _ _ _)
  · refine z_iload dX1_fewest_201 6 rfl ?_
    refine z_if_lt (tgt := 216) dX1_fewest_203 (by decide) ?_ ?_
    · refine z_iload dX1_fewest_216 8 rfl ?_
      refine z_iload dX1_fewest_218 0 rfl ?_
      refine z_iadd dX1_fewest_220 ?_
      refine z_istoreL (lv2 := fun v2 => [(6, .int v2), (9, .int s0), (0, .ref 51), (1, .int x1), (2, .int x2), (4, .int x4), (5, .int x5), (7, .int x7), (8, .int x8)]) dX1_fewest_221 (Nat.le_of_ble_eq_true rfl) (fun _ => rfl) (fun v2 => ?_)
      refine z_iload dX1_fewest_223 8 rfl ?_
      refine z_istore (lv2 := [(7, .int x8), (6, .int v2), (9, .int s0), (0, .ref 51), (1, .int x1), (2, .int x2), (4, .int x4), (5, .int x5), (8, .int x8)]) dX1_fewest_225 (Nat.le_of_ble_eq_true rfl) rfl ?_
      refine z_iincL (lv2 := fun v3 => [(8, .int v3), (7, .int x8), (6, .int v2), (9, .int s0), (0, .ref 51), (1, .int x1), (2, .int x2), (4, .int x4), (5, .int x5)]) dX1_fewest_227 8 rfl rfl (Nat.le_of_ble_eq_true rfl) (fun _ => rfl) (fun v3 => ?_)
      refine z_goto (tgt := 139) dX1_fewest_230 (by decide) ?_
      exact z_sub [4, 5, 6, 7, 8, 2, 1, 0] rfl (hk139 _ _ _ _ _ _ _ _)
    · refine z_iload dX1_fewest_206 8 rfl ?_
      refine z_iload dX1_fewest_208 0 rfl ?_
      refine z_iadd dX1_fewest_210 ?_
      refine z_iload dX1_fewest_211 6 rfl ?_
      refine z_ic_ge (tgt := 227) dX1_fewest_213 (by decide) ?_ ?_
      · refine z_iincL (lv2 := fun v4 => [(8, .int v4), (9, .int s0), (0, .ref 51), (1, .int x1), (2, .int x2), (4, .int x4), (5, .int x5), (6, .int x6), (7, .int x7)]) dX1_fewest_227 8 rfl rfl (Nat.le_of_ble_eq_true rfl) (fun _ => rfl) (fun v4 => ?_)
        refine z_goto (tgt := 139) dX1_fewest_230 (by decide) ?_
        exact z_sub [2, 3, 4, 5, 6, 7, 8, 0] rfl (hk139 _ _ _ _ _ _ _ _)
      · refine z_iload dX1_fewest_216 8 rfl ?_
        refine z_iload dX1_fewest_218 0 rfl ?_
        refine z_iadd dX1_fewest_220 ?_
        refine z_istoreL (lv2 := fun v5 => [(6, .int v5), (9, .int s0), (0, .ref 51), (1, .int x1), (2, .int x2), (4, .int x4), (5, .int x5), (7, .int x7), (8, .int x8)]) dX1_fewest_221 (Nat.le_of_ble_eq_true rfl) (fun _ => rfl) (fun v5 => ?_)
        refine z_iload dX1_fewest_223 8 rfl ?_
        refine z_istore (lv2 := [(7, .int x8), (6, .int v5), (9, .int s0), (0, .ref 51), (1, .int x1), (2, .int x2), (4, .int x4), (5, .int x5), (8, .int x8)]) dX1_fewest_225 (Nat.le_of_ble_eq_true rfl) rfl ?_
        refine z_iincL (lv2 := fun v6 => [(8, .int v6), (7, .int x8), (6, .int v5), (9, .int s0), (0, .ref 51), (1, .int x1), (2, .int x2), (4, .int x4), (5, .int x5)]) dX1_fewest_227 8 rfl rfl (Nat.le_of_ble_eq_true rfl) (fun _ => rfl) (fun v6 => ?_)
        refine z_goto (tgt := 139) dX1_fewest_230 (by decide) ?_
        exact z_sub [4, 5, 6, 7, 8, 2, 1, 0] rfl (hk139 _ _ _ _ _ _ _ _)
set_option maxHeartbeats 4000000 in
set_option maxRecDepth 100000 in
theorem w_X1_fewest_b_170 {dd : Nat} (rec : Int32 → Int32 → Int32 → AHp → Option (Int32 × AHp)) (hrec : ∀ (x1 : Int32) (x2 : Int32) (x3 : Int32) (h : AHp), MI QX1_fewest (dd + 40) [.ref 51, .int x1, .int x2, .int x3] h (rec x1 x2 x3 h)) (k139 : Int32 → Int32 → Int32 → Int32 → Int32 → Int32 → Int32 → AHp → Option (Int32 × AHp)) (hk139 : ∀ (x1 : Int32) (x2 : Int32) (x4 : Int32) (x5 : Int32) (x6 : Int32) (x7 : Int32) (x8 : Int32) (h : AHp), WO tvI QX1_fewest (dd + 41) 139 [(0, .ref 51), (1, .int x1), (2, .int x2), (4, .int x4), (5, .int x5), (6, .int x6), (7, .int x7), (8, .int x8)] [] h (k139 x1 x2 x4 x5 x6 x7 x8 h)) (x1 : Int32) (x2 : Int32) (x4 : Int32) (x5 : Int32) (x6 : Int32) (x7 : Int32) (x8 : Int32) (h : AHp) : WO tvI QX1_fewest (dd + 41) 170 [(0, .ref 51), (1, .int x1), (2, .int x2), (4, .int x4), (5, .int x5), (6, .int x6), (7, .int x7), (8, .int x8)] [] h (m_X1_fewest_b_170 rec k139 x1 x2 x4 x5 x6 x7 x8 h) := by
  unfold m_X1_fewest_b_170
  refine z_iload dX1_fewest_170 4 rfl ?_
  refine z_iload dX1_fewest_172 7 rfl ?_
  refine z_ishr dX1_fewest_174 ?_
  refine z_iconst (v := 1) dX1_fewest_175 (by decide) ?_
  refine z_iand dX1_fewest_176 ?_
  refine z_if_eq (tgt := 193) dX1_fewest_177 (by decide) ?_ ?_
  · refine z_iconst (v := -1) dX1_fewest_193 (by decide) ?_
    exact w_X1_fewest_b_194 rec hrec _ hk139 _ _ _ _ _ _ _ _ _
  · refine z_aload_n dX1_fewest_180 0 rfl ?_
    refine z_iload_n dX1_fewest_181 1 rfl ?_
    refine z_iconst (v := 1) dX1_fewest_182 (by decide) ?_
    refine z_iadd dX1_fewest_183 ?_
    refine z_iload dX1_fewest_184 7 rfl ?_
    refine z_iload_n dX1_fewest_186 2 rfl ?_
    refine z_callVI dX1_fewest_187 (hrec _ _ _ _) bX1_fewest lX1_95 kc_51 rfl rfl (Nat.le_of_ble_eq_true rfl) (by omega) (fun r7 h8 => ?_)
    refine z_goto (tgt := 194) dX1_fewest_190 (by decide) ?_
    exact w_X1_fewest_b_194 rec hrec _ hk139 _ _ _ _ _ _ _ _ _
set_option maxHeartbeats 4000000 in
set_option maxRecDepth 100000 in
theorem w_X1_fewest_b_233 {dd : Nat} (rec : Int32 → Int32 → Int32 → AHp → Option (Int32 × AHp)) (hrec : ∀ (x1 : Int32) (x2 : Int32) (x3 : Int32) (h : AHp), MI QX1_fewest (dd + 40) [.ref 51, .int x1, .int x2, .int x3] h (rec x1 x2 x3 h)) (x4 : Int32) (x6 : Int32) (x7 : Int32) (h : AHp) : WO tvI QX1_fewest (dd + 41) 233 [(0, .ref 51), (4, .int x4), (6, .int x6), (7, .int x7)] [] h (m_X1_fewest_b_233 rec x4 x6 x7 h) := by
  unfold m_X1_fewest_b_233
  refine z_aload_n dX1_fewest_233 0 rfl ?_
  refine z_getR (j := 31) fX1_28 kc_51 rfl rfl rfl (by decide) dX1_fewest_234 ?_
  refine z_iload dX1_fewest_237 1 rfl ?_
  refine z_iload dX1_fewest_239 2 rfl ?_
  refine z_iconst (v := 5) dX1_fewest_241 (by decide) ?_
  refine z_ishl dX1_fewest_242 ?_
  refine z_iload dX1_fewest_243 3 rfl ?_
  refine z_ior dX1_fewest_245 ?_
  refine z_callVV dX1_fewest_246 (M_X3_put _ _ _) bX3_put lX1_123 kc_31 rfl rfl (Nat.le_of_ble_eq_true rfl) (by omega) (fun r9 h10 => ?_)
  refine z_iload dX1_fewest_249 2 rfl ?_
  exact z_iret dX1_fewest_251 rfl
set_option maxHeartbeats 4000000 in
set_option maxRecDepth 100000 in
theorem w_X1_fewest_b_139 {dd : Nat} (rec : Int32 → Int32 → Int32 → AHp → Option (Int32 × AHp)) (hrec : ∀ (x1 : Int32) (x2 : Int32) (x3 : Int32) (h : AHp), MI QX1_fewest (dd + 40) [.ref 51, .int x1, .int x2, .int x3] h (rec x1 x2 x3 h)) : ∀ (f : Nat) (x1 : Int32) (x2 : Int32) (x4 : Int32) (x5 : Int32) (x6 : Int32) (x7 : Int32) (x8 : Int32) (h : AHp), WO tvI QX1_fewest (dd + 41) 139 [(0, .ref 51), (1, .int x1), (2, .int x2), (4, .int x4), (5, .int x5), (6, .int x6), (7, .int x7), (8, .int x8)] [] h (m_X1_fewest_b_139 rec f x1 x2 x4 x5 x6 x7 x8 h) := by
  intro f
  induction f with
  | zero => intro x1 x2 x4 x5 x6 x7 x8 h; exact z_none
  | succ f ih =>
    intro x1 x2 x4 x5 x6 x7 x8 h
    rw [m_X1_fewest_b_139]
    refine z_iload dX1_fewest_139 7 rfl ?_
    refine z_bipush (v := 24) dX1_fewest_141 (by decide) ?_
    refine z_ic_gt (tgt := 233) dX1_fewest_143 (by decide) ?_ ?_
    · exact z_sub [0, 3, 5, 6] rfl (w_X1_fewest_b_233 rec hrec _ _ _ _)
    · refine z_iload dX1_fewest_146 5 rfl ?_
      refine z_if_lt (tgt := 170) dX1_fewest_148 (by decide) ?_ ?_
      · exact w_X1_fewest_b_170 rec hrec _ ih _ _ _ _ _ _ _ _
      · refine z_iload dX1_fewest_151 7 rfl ?_
        refine z_aload_n dX1_fewest_153 0 rfl ?_
        refine z_getR (j := 55) fX1_21 kc_51 rfl rfl rfl (by decide) dX1_fewest_154 ?_
        refine z_iload_n dX1_fewest_157 1 rfl ?_
        refine z_iconst (v := 1) dX1_fewest_158 (by decide) ?_
        refine z_iadd dX1_fewest_159 ?_
        refine z_gd (fun g11 => ?_)
        refine z_iald kc_55 dX1_fewest_160 g11 ?_
        refine z_iadd dX1_fewest_161 ?_
        refine z_iload dX1_fewest_162 5 rfl ?_
        refine z_ic_lt (tgt := 170) dX1_fewest_164 (by decide) ?_ ?_
        · exact w_X1_fewest_b_170 rec hrec _ ih _ _ _ _ _ _ _ _
        · refine z_goto (tgt := 233) dX1_fewest_167 (by decide) ?_
          exact z_sub [0, 3, 5, 6] rfl (w_X1_fewest_b_233 rec hrec _ _ _ _)
set_option maxHeartbeats 4000000 in
set_option maxRecDepth 100000 in
theorem w_X1_fewest_b_90 {dd : Nat} (rec : Int32 → Int32 → Int32 → AHp → Option (Int32 × AHp)) (hrec : ∀ (x1 : Int32) (x2 : Int32) (x3 : Int32) (h : AHp), MI QX1_fewest (dd + 40) [.ref 51, .int x1, .int x2, .int x3] h (rec x1 x2 x3 h)) (x1 : Int32) (x2 : Int32) (x4 : Int32) (s1 : Int32) (s2 : Int32) (s3 : Int32) (h : AHp) : WO tvI QX1_fewest (dd + 41) 90 [(0, .ref 51), (1, .int x1), (2, .int x2), (4, .int x4)] [.int s3, .int s2, .int s1, .ref 3] h (m_X1_fewest_b_90 rec x1 x2 x4 s1 s2 s3 h) := by
  unfold m_X1_fewest_b_90
  refine z_aload_n dX1_fewest_90 0 rfl ?_
  refine z_getI fX1_83 kc_51 rfl dX1_fewest_91 ?_
  refine z_iload_n dX1_fewest_94 1 rfl ?_
  refine z_iadd dX1_fewest_95 ?_
  refine z_callVV dX1_fewest_96 (M_X9_stand _ _ _ _ _) bX9_stand lX1_115 kc_3 rfl rfl (Nat.le_of_ble_eq_true rfl) (by omega) (fun r12 h13 => ?_)
  refine z_aload_n dX1_fewest_99 0 rfl ?_
  refine z_getR (j := 3) fX1_24 kc_51 rfl rfl rfl (by decide) dX1_fewest_100 ?_
  refine z_aload_n dX1_fewest_103 0 rfl ?_
  refine z_getI fX1_32 kc_51 rfl dX1_fewest_104 ?_
  refine z_aload_n dX1_fewest_107 0 rfl ?_
  refine z_getR (j := 52) fX1_9 kc_51 rfl rfl rfl (by decide) dX1_fewest_108 ?_
  refine z_iload_n dX1_fewest_111 1 rfl ?_
  refine z_gd (fun g14 => ?_)
  refine z_iald kc_52 dX1_fewest_112 g14 ?_
  refine z_aload_n dX1_fewest_113 0 rfl ?_
  refine z_getR (j := 53) fX1_15 kc_51 rfl rfl rfl (by decide) dX1_fewest_114 ?_
  refine z_iload_n dX1_fewest_117 1 rfl ?_
  refine z_gd (fun g15 => ?_)
  refine z_iald kc_53 dX1_fewest_118 g15 ?_
  refine z_aload_n dX1_fewest_119 0 rfl ?_
  refine z_getR (j := 54) fX1_18 kc_51 rfl rfl rfl (by decide) dX1_fewest_120 ?_
  refine z_iload_n dX1_fewest_123 1 rfl ?_
  refine z_gd (fun g16 => ?_)
  refine z_iald kc_54 dX1_fewest_124 g16 ?_
  refine z_callVI dX1_fewest_125 (M_X9_lets _ _ _ _ _) bX9_lets lX1_119 kc_3 rfl rfl (Nat.le_of_ble_eq_true rfl) (by omega) (fun r17 h18 => ?_)
  refine z_istore (lv2 := [(5, .int r17), (0, .ref 51), (1, .int x1), (2, .int x2), (4, .int x4)]) dX1_fewest_128 (Nat.le_of_ble_eq_true rfl) rfl ?_
  refine z_iconst (v := -1) dX1_fewest_130 (by decide) ?_
  refine z_istore (lv2 := [(6, .int (-1)), (5, .int r17), (0, .ref 51), (1, .int x1), (2, .int x2), (4, .int x4)]) dX1_fewest_131 (Nat.le_of_ble_eq_true rfl) rfl ?_
  refine z_iconst (v := 0) dX1_fewest_133 (by decide) ?_
  refine z_istore (lv2 := [(7, .int 0), (6, .int (-1)), (5, .int r17), (0, .ref 51), (1, .int x1), (2, .int x2), (4, .int x4)]) dX1_fewest_134 (Nat.le_of_ble_eq_true rfl) rfl ?_
  refine z_iconst (v := 1) dX1_fewest_136 (by decide) ?_
  refine z_istore (lv2 := [(8, .int 1), (7, .int 0), (6, .int (-1)), (5, .int r17), (0, .ref 51), (1, .int x1), (2, .int x2), (4, .int x4)]) dX1_fewest_137 (Nat.le_of_ble_eq_true rfl) rfl ?_
  exact z_sub [4, 5, 6, 7, 3, 2, 1, 0] rfl (w_X1_fewest_b_139 rec hrec FU _ _ _ _ _ _ _ _)
set_option maxHeartbeats 4000000 in
set_option maxRecDepth 100000 in
theorem w_X1_fewest_b {dd : Nat} (rec : Int32 → Int32 → Int32 → AHp → Option (Int32 × AHp)) (hrec : ∀ (x1 : Int32) (x2 : Int32) (x3 : Int32) (h : AHp), MI QX1_fewest (dd + 40) [.ref 51, .int x1, .int x2, .int x3] h (rec x1 x2 x3 h)) (x1 : Int32) (x2 : Int32) (x3 : Int32) (h : AHp) : WO tvI QX1_fewest (dd + 41) 0 [(0, .ref 51), (1, .int x1), (2, .int x2), (3, .int x3)] [] h (m_X1_fewest_b rec x1 x2 x3 h) := by
  unfold m_X1_fewest_b
  refine z_aload_n dX1_fewest_0 0 rfl ?_
  refine z_aload_n dX1_fewest_1 0 rfl ?_
  refine z_getI fX1_86 kc_51 rfl dX1_fewest_2 ?_
  refine z_iload_n dX1_fewest_5 1 rfl ?_
  refine z_mmax dX1_fewest_6 lX1_45 w_mmax (by omega) (Nat.le_of_ble_eq_true rfl) ?_
  refine z_putI fX1_86 kc_51 rfl dX1_fewest_9 ?_
  refine z_lh (fun h19 => ?_)
  refine z_iload_n dX1_fewest_12 1 rfl ?_
  refine z_if_lt (tgt := 30) dX1_fewest_13 (by decide) ?_ ?_
  · refine z_iconst (v := 0) dX1_fewest_30 (by decide) ?_
    exact z_iret dX1_fewest_31 rfl
  · refine z_iload_n dX1_fewest_16 1 rfl ?_
    refine z_aload_n dX1_fewest_17 0 rfl ?_
    refine z_getI fX1_48 kc_51 rfl dX1_fewest_18 ?_
    refine z_ic_ge (tgt := 30) dX1_fewest_21 (by decide) ?_ ?_
    · refine z_iconst (v := 0) dX1_fewest_30 (by decide) ?_
      exact z_iret dX1_fewest_31 rfl
    · refine z_iload_n dX1_fewest_24 1 rfl ?_
      refine z_bipush (v := 12) dX1_fewest_25 (by decide) ?_
      refine z_ic_lt (tgt := 32) dX1_fewest_27 (by decide) ?_ ?_
      · refine z_aload_n dX1_fewest_32 0 rfl ?_
        refine z_iload_n dX1_fewest_33 1 rfl ?_
        refine z_iload_n dX1_fewest_34 2 rfl ?_
        refine z_iload_n dX1_fewest_35 3 rfl ?_
        refine z_callVI dX1_fewest_36 (M_X1_keyOf _ _ _ _) bX1_keyOf lX1_105 kc_51 rfl rfl (Nat.le_of_ble_eq_true rfl) (by omega) (fun r20 h21 => ?_)
        refine z_istore (lv2 := [(4, .int r20), (0, .ref 51), (1, .int x1), (2, .int x2), (3, .int x3)]) dX1_fewest_39 (Nat.le_of_ble_eq_true rfl) rfl ?_
        refine z_aload_n dX1_fewest_41 1 rfl ?_
        refine z_getR (j := 31) fX1_28 kc_51 rfl rfl rfl (by decide) dX1_fewest_42 ?_
        refine z_iload dX1_fewest_45 0 rfl ?_
        refine z_callVI dX1_fewest_47 (M_X3_has _ _) bX3_has lX1_108 kc_31 rfl rfl (Nat.le_of_ble_eq_true rfl) (by omega) (fun r22 h23 => ?_)
        refine z_if_eq (tgt := 65) dX1_fewest_50 (by decide) ?_ ?_
        · refine z_aload_n dX1_fewest_65 1 rfl ?_
          refine z_getR (j := 3) fX1_24 kc_51 rfl rfl rfl (by decide) dX1_fewest_66 ?_
          refine z_iload_n dX1_fewest_69 3 rfl ?_
          refine z_iload_n dX1_fewest_70 4 rfl ?_
          refine z_iload_n dX1_fewest_71 2 rfl ?_
          refine z_if_ne (tgt := 82) dX1_fewest_72 (by decide) ?_ ?_
          · refine z_aload_n dX1_fewest_82 1 rfl ?_
            refine z_getR (j := 52) fX1_9 kc_51 rfl rfl rfl (by decide) dX1_fewest_83 ?_
            refine z_iload_n dX1_fewest_86 2 rfl ?_
            refine z_iconst (v := 1) dX1_fewest_87 (by decide) ?_
            refine z_isub dX1_fewest_88 ?_
            refine z_gd (fun g24 => ?_)
            refine z_iald kc_52 dX1_fewest_89 g24 ?_
            exact z_sub [1, 2, 3, 0] rfl (w_X1_fewest_b_90 rec hrec _ _ _ _ _ _ _)
          · refine z_aload_n dX1_fewest_75 1 rfl ?_
            refine z_getI fX1_80 kc_51 rfl dX1_fewest_76 ?_
            refine z_goto (tgt := 90) dX1_fewest_79 (by decide) ?_
            exact z_sub [1, 2, 3, 0] rfl (w_X1_fewest_b_90 rec hrec _ _ _ _ _ _ _)
        · refine z_aload_n dX1_fewest_53 1 rfl ?_
          refine z_getR (j := 31) fX1_28 kc_51 rfl rfl rfl (by decide) dX1_fewest_54 ?_
          refine z_iload dX1_fewest_57 0 rfl ?_
          refine z_callVI dX1_fewest_59 (M_X3_get _ _) bX3_get lX1_112 kc_31 rfl rfl (Nat.le_of_ble_eq_true rfl) (by omega) (fun r25 h26 => ?_)
          refine z_iconst (v := 5) dX1_fewest_62 (by decide) ?_
          refine z_ishr dX1_fewest_63 ?_
          exact z_iret dX1_fewest_64 rfl
      · refine z_iconst (v := 0) dX1_fewest_30 (by decide) ?_
        exact z_iret dX1_fewest_31 rfl
theorem M_X1_fewest_b {dd : Nat} (rec : Int32 → Int32 → Int32 → AHp → Option (Int32 × AHp)) (hrec : ∀ (x1 : Int32) (x2 : Int32) (x3 : Int32) (h : AHp), MI QX1_fewest (dd + 40) [.ref 51, .int x1, .int x2, .int x3] h (rec x1 x2 x3 h)) (x1 : Int32) (x2 : Int32) (x3 : Int32) (h : AHp) : MI QX1_fewest (dd + 41) [.ref 51, .int x1, .int x2, .int x3] h (m_X1_fewest_b rec x1 x2 x3 h) := MI.of (by decide) rfl rfl (Nat.le_of_ble_eq_true rfl) (w_X1_fewest_b rec hrec x1 x2 x3 h)
theorem M_X1_fewest : ∀ (f : Nat) (x1 : Int32) (x2 : Int32) (x3 : Int32) (h : AHp), MI QX1_fewest (f + 40) [.ref 51, .int x1, .int x2, .int x3] h (m_X1_fewest f x1 x2 x3 h) := by
  intro f
  induction f with
  | zero => intro x1 x2 x3 h x0 h0 ho; cases ho
  | succ f ih =>
    intro x1 x2 x3 h
    rw [m_X1_fewest]
    have e := M_X1_fewest_b (dd := f) (m_X1_fewest f) ih x1 x2 x3 h
    rw [show f + 1 + 40 = f + 41 from by omega]
    exact e
set_option maxHeartbeats 4000000 in
set_option maxRecDepth 100000 in
theorem w_X0_rememberGood (x1 : Int32) (h : AHp) : WO tvV QX0_rememberGood 1 0 [(0, .ref 56), (1, .int x1)] [] h (m_X0_rememberGood x1 h) := by
  unfold m_X0_rememberGood
  refine z_iload_n dX0_rememberGood_0 1 rfl ?_
  refine z_bipush (v := 8) dX0_rememberGood_1 (by decide) ?_
  refine z_imul dX0_rememberGood_3 ?_
  refine z_aload_n dX0_rememberGood_4 0 rfl ?_
  refine z_getR (j := 59) fX0_18 kc_56 rfl rfl rfl (by decide) dX0_rememberGood_5 ?_
  refine z_iload_n dX0_rememberGood_8 1 rfl ?_
  refine z_gd (fun g1 => ?_)
  refine z_iald kc_59 dX0_rememberGood_9 g1 ?_
  refine z_iadd dX0_rememberGood_10 ?_
  refine z_bipush (v := 25) dX0_rememberGood_11 (by decide) ?_
  refine z_imul dX0_rememberGood_13 ?_
  refine z_istore_nL (lv2 := fun v2 => [(2, .int v2), (0, .ref 56), (1, .int x1)]) dX0_rememberGood_14 (Nat.le_of_ble_eq_true rfl) (fun _ => rfl) (fun v2 => ?_)
  refine z_aload_n dX0_rememberGood_15 1 rfl ?_
  refine z_getR (j := 59) fX0_18 kc_56 rfl rfl rfl (by decide) dX0_rememberGood_16 ?_
  refine z_iload_n dX0_rememberGood_19 2 rfl ?_
  refine z_gd (fun g3 => ?_)
  refine z_iald kc_59 dX0_rememberGood_20 g3 ?_
  refine z_bipush (v := 8) dX0_rememberGood_21 (by decide) ?_
  refine z_ic_ge (tgt := 66) dX0_rememberGood_23 (by decide) ?_ ?_
  · exact z_vret dX0_rememberGood_66 rfl
  · refine z_iload_n dX0_rememberGood_26 0 rfl ?_
    refine z_bipush (v := 25) dX0_rememberGood_27 (by decide) ?_
    refine z_iadd dX0_rememberGood_29 ?_
    refine z_aload_n dX0_rememberGood_30 1 rfl ?_
    refine z_getR (j := 58) fX0_15 kc_56 rfl rfl rfl (by decide) dX0_rememberGood_31 ?_
    refine z_alen (v := 1000) kc_58 (by decide) (by decide) dX0_rememberGood_34 ?_
    refine z_ic_gt (tgt := 66) dX0_rememberGood_35 (by decide) ?_ ?_
    · exact z_vret dX0_rememberGood_66 rfl
    · refine z_aload_n dX0_rememberGood_38 1 rfl ?_
      refine z_getR (j := 57) fX0_9 kc_56 rfl rfl rfl (by decide) dX0_rememberGood_39 ?_
      refine z_iload_n dX0_rememberGood_42 2 rfl ?_
      refine z_bipush (v := 25) dX0_rememberGood_43 (by decide) ?_
      refine z_imul dX0_rememberGood_45 ?_
      refine z_aload_n dX0_rememberGood_46 1 rfl ?_
      refine z_getR (j := 58) fX0_15 kc_56 rfl rfl rfl (by decide) dX0_rememberGood_47 ?_
      refine z_iload_n dX0_rememberGood_50 0 rfl ?_
      refine z_bipush (v := 25) dX0_rememberGood_51 (by decide) ?_
      refine z_gd (fun g5 => ?_)
      refine z_copy kc_57 kc_58 dX0_rememberGood_53 lX0_141 w_copy (Nat.le_of_ble_eq_true rfl) (Nat.le_of_ble_eq_true rfl) g5 ?_
      refine z_lh (fun h4 => ?_)
      refine z_aload_n dX0_rememberGood_56 1 rfl ?_
      refine z_getR (j := 59) fX0_18 kc_56 rfl rfl rfl (by decide) dX0_rememberGood_57 ?_
      refine z_iload_n dX0_rememberGood_60 2 rfl ?_
      refine z_dup2 dX0_rememberGood_61 rfl rfl ?_
      refine z_gd (fun g6 => ?_)
      refine z_iald kc_59 dX0_rememberGood_62 g6 ?_
      refine z_iconst (v := 1) dX0_rememberGood_63 (by decide) ?_
      refine z_iadd dX0_rememberGood_64 ?_
      refine z_gd (fun g8 => ?_)
      refine z_iast kc_59 dX0_rememberGood_65 g8 ?_
      refine z_lh (fun h7 => ?_)
      exact z_vret dX0_rememberGood_66 rfl
theorem M_X0_rememberGood (x1 : Int32) (h : AHp) : MV QX0_rememberGood 1 [.ref 56, .int x1] h (m_X0_rememberGood x1 h) := MV.of (by decide) rfl rfl (Nat.le_of_ble_eq_true rfl) (w_X0_rememberGood x1 h)
set_option maxHeartbeats 4000000 in
set_option maxRecDepth 100000 in
theorem w_X0_reached_16 (x3 : Int32) (s0 : Int32) (s1 : Int32) (h : AHp) : WO tvV QX0_reached 0 16 [(0, .ref 56), (3, .int x3)] [.int s1, .int s0] h (m_X0_reached_16 x3 s0 s1 h) := by
  unfold m_X0_reached_16
  refine z_iadd dX0_reached_16 ?_
  refine z_istoreL (lv2 := fun v1 => [(4, .int v1), (0, .ref 56), (3, .int x3)]) dX0_reached_17 (Nat.le_of_ble_eq_true rfl) (fun _ => rfl) (fun v1 => ?_)
  refine z_iload dX0_reached_19 0 rfl ?_
  refine z_if_lt (tgt := 60) dX0_reached_21 (by decide) ?_ ?_
  · exact z_vret dX0_reached_60 rfl
  · refine z_iload dX0_reached_24 0 rfl ?_
    refine z_aload_n dX0_reached_26 1 rfl ?_
    refine z_getR (j := 57) fX0_9 kc_56 rfl rfl rfl (by decide) dX0_reached_27 ?_
    refine z_alen (v := 150) kc_57 (by decide) (by decide) dX0_reached_30 ?_
    refine z_ic_ge (tgt := 60) dX0_reached_31 (by decide) ?_ ?_
    · exact z_vret dX0_reached_60 rfl
    · refine z_iload_n dX0_reached_34 2 rfl ?_
      refine z_if_eq (tgt := 60) dX0_reached_35 (by decide) ?_ ?_
      · exact z_vret dX0_reached_60 rfl
      · refine z_aload_n dX0_reached_38 1 rfl ?_
        refine z_getR (j := 57) fX0_9 kc_56 rfl rfl rfl (by decide) dX0_reached_39 ?_
        refine z_iload dX0_reached_42 0 rfl ?_
        refine z_dup2 dX0_reached_44 rfl rfl ?_
        refine z_gd (fun g2 => ?_)
        refine z_iald kc_57 dX0_reached_45 g2 ?_
        refine z_aload_n dX0_reached_46 1 rfl ?_
        refine z_getI fX0_84 kc_56 rfl dX0_reached_47 ?_
        refine z_if_eq (tgt := 57) dX0_reached_50 (by decide) ?_ ?_
        · refine z_iconst (v := 1) dX0_reached_57 (by decide) ?_
          refine z_ior dX0_reached_58 ?_
          refine z_gd (fun g4 => ?_)
          refine z_iast kc_57 dX0_reached_59 g4 ?_
          refine z_lh (fun h3 => ?_)
          exact z_vret dX0_reached_60 rfl
        · refine z_iload_n dX0_reached_53 2 rfl ?_
          refine z_goto (tgt := 58) dX0_reached_54 (by decide) ?_
          refine z_ior dX0_reached_58 ?_
          refine z_gd (fun g6 => ?_)
          refine z_iast kc_57 dX0_reached_59 g6 ?_
          refine z_lh (fun h5 => ?_)
          exact z_vret dX0_reached_60 rfl
set_option maxHeartbeats 4000000 in
set_option maxRecDepth 100000 in
theorem w_X0_reached (x1 : Int32) (x2 : Int32) (x3 : Int32) (h : AHp) : WO tvV QX0_reached 0 0 [(0, .ref 56), (1, .int x1), (2, .int x2), (3, .int x3)] [] h (m_X0_reached x1 x2 x3 h) := by
  unfold m_X0_reached
  refine z_iload_n dX0_reached_0 1 rfl ?_
  refine z_bipush (v := 25) dX0_reached_1 (by decide) ?_
  refine z_imul dX0_reached_3 ?_
  refine z_aload_n dX0_reached_4 0 rfl ?_
  refine z_getI fX0_80 kc_56 rfl dX0_reached_5 ?_
  refine z_if_eq (tgt := 15) dX0_reached_8 (by decide) ?_ ?_
  · refine z_iconst (v := 0) dX0_reached_15 (by decide) ?_
    exact z_sub [0, 3] rfl (w_X0_reached_16 _ _ _ _)
  · refine z_iload_n dX0_reached_11 2 rfl ?_
    refine z_goto (tgt := 16) dX0_reached_12 (by decide) ?_
    exact z_sub [0, 3] rfl (w_X0_reached_16 _ _ _ _)
theorem M_X0_reached (x1 : Int32) (x2 : Int32) (x3 : Int32) (h : AHp) : MV QX0_reached 0 [.ref 56, .int x1, .int x2, .int x3] h (m_X0_reached x1 x2 x3 h) := MV.of (by decide) rfl rfl (Nat.le_of_ble_eq_true rfl) (w_X0_reached x1 x2 x3 h)
set_option maxHeartbeats 4000000 in
set_option maxRecDepth 100000 in
theorem w_X11_isThing (x0 : Int32) (h : AHp) : WO tvI QX11_isThing 0 0 [(0, .int x0)] [] h (m_X11_isThing x0 h) := by
  unfold m_X11_isThing
  refine z_iload_n dX11_isThing_0 0 rfl ?_
  refine z_if_lt (tgt := 14) dX11_isThing_1 (by decide) ?_ ?_
  · refine z_iconst (v := 0) dX11_isThing_14 (by decide) ?_
    exact z_zret dX11_isThing_15 rfl (Or.inl rfl)
  · refine z_iload_n dX11_isThing_4 0 rfl ?_
    refine z_bipush (v := 12) dX11_isThing_5 (by decide) ?_
    refine z_ic_ge (tgt := 14) dX11_isThing_7 (by decide) ?_ ?_
    · refine z_iconst (v := 0) dX11_isThing_14 (by decide) ?_
      exact z_zret dX11_isThing_15 rfl (Or.inl rfl)
    · refine z_iconst (v := 1) dX11_isThing_10 (by decide) ?_
      refine z_goto (tgt := 15) dX11_isThing_11 (by decide) ?_
      exact z_zret dX11_isThing_15 rfl (Or.inr rfl)
theorem M_X11_isThing (x0 : Int32) (h : AHp) : MI QX11_isThing 0 [.int x0] h (m_X11_isThing x0 h) := MI.of (by decide) rfl rfl (Nat.le_of_ble_eq_true rfl) (w_X11_isThing x0 h)
set_option maxHeartbeats 4000000 in
set_option maxRecDepth 100000 in
theorem w_X9_sizesOf (x1 : Int32) (h : AHp) : WO tvI QX9_sizesOf 1 0 [(0, .ref 3), (1, .int x1)] [] h (m_X9_sizesOf x1 h) := by
  unfold m_X9_sizesOf
  refine z_iload_n dX9_sizesOf_0 1 rfl ?_
  refine z_callSNI dX9_sizesOf_1 (M_X11_isThing _ _) bX11_isThing lX9_34 rfl rfl (Nat.le_of_ble_eq_true rfl) (Nat.le_of_ble_eq_true rfl) (fun r1 h2 => ?_)
  refine z_if_eq (tgt := 16) dX9_sizesOf_4 (by decide) ?_ ?_
  · refine z_iconst (v := 0) dX9_sizesOf_16 (by decide) ?_
    exact z_iret dX9_sizesOf_17 rfl
  · refine z_aload_n dX9_sizesOf_7 0 rfl ?_
    refine z_getR (j := 4) fX9_9 kc_3 rfl rfl rfl (by decide) dX9_sizesOf_8 ?_
    refine z_iload_n dX9_sizesOf_11 1 rfl ?_
    refine z_gd (fun g3 => ?_)
    refine z_iald kc_4 dX9_sizesOf_12 g3 ?_
    refine z_goto (tgt := 17) dX9_sizesOf_13 (by decide) ?_
    exact z_iret dX9_sizesOf_17 rfl
theorem M_X9_sizesOf (x1 : Int32) (h : AHp) : MI QX9_sizesOf 1 [.ref 3, .int x1] h (m_X9_sizesOf x1 h) := MI.of (by decide) rfl rfl (Nat.le_of_ble_eq_true rfl) (w_X9_sizesOf x1 h)
set_option maxHeartbeats 4000000 in
set_option maxRecDepth 100000 in
theorem w_X0_lengthsOf_109 (x1 : Int32) (x6 : Int32) (x7 : Int32) (x8 : Int32) (s1 : Int32) (s2 : Int32) (s3 : Int32) (h : AHp) : WO tvI QX0_lengthsOf 3 109 [(0, .ref 56), (1, .int x1), (6, .int x6), (7, .int x7), (8, .int x8)] [.int s3, .int s2, .int s1, .ref 3] h (m_X0_lengthsOf_109 x1 x6 x7 x8 s1 s2 s3 h) := by
  unfold m_X0_lengthsOf_109
  refine z_aload_n dX0_lengthsOf_109 0 rfl ?_
  refine z_getI fX0_72 kc_56 rfl dX0_lengthsOf_110 ?_
  refine z_iload_n dX0_lengthsOf_113 1 rfl ?_
  refine z_iadd dX0_lengthsOf_114 ?_
  refine z_callVV dX0_lengthsOf_115 (M_X9_stand _ _ _ _ _) bX9_stand lX0_127 kc_3 rfl rfl (Nat.le_of_ble_eq_true rfl) (Nat.le_of_ble_eq_true rfl) (fun r1 h2 => ?_)
  refine z_aload_n dX0_lengthsOf_118 0 rfl ?_
  refine z_getR (j := 3) fX0_27 kc_56 rfl rfl rfl (by decide) dX0_lengthsOf_119 ?_
  refine z_iconst (v := 1) dX0_lengthsOf_122 (by decide) ?_
  refine z_iload dX0_lengthsOf_123 3 rfl ?_
  refine z_iload dX0_lengthsOf_125 4 rfl ?_
  refine z_aload_n dX0_lengthsOf_127 0 rfl ?_
  refine z_getR (j := 3) fX0_27 kc_56 rfl rfl rfl (by decide) dX0_lengthsOf_128 ?_
  refine z_iload dX0_lengthsOf_131 4 rfl ?_
  refine z_callVI dX0_lengthsOf_133 (M_X9_sizesOf _ _) bX9_sizesOf lX0_131 kc_3 rfl rfl (Nat.le_of_ble_eq_true rfl) (Nat.le_of_ble_eq_true rfl) (fun r3 h4 => ?_)
  refine z_callVI dX0_lengthsOf_136 (M_X9_lets _ _ _ _ _) bX9_lets lX0_134 kc_3 rfl rfl (Nat.le_of_ble_eq_true rfl) (Nat.le_of_ble_eq_true rfl) (fun r5 h6 => ?_)
  refine z_istore (lv2 := [(9, .int r5), (0, .ref 56), (1, .int x1), (6, .int x6), (7, .int x7), (8, .int x8)]) dX0_lengthsOf_139 (Nat.le_of_ble_eq_true rfl) rfl ?_
  refine z_aload_n dX0_lengthsOf_141 1 rfl ?_
  refine z_getR (j := 31) fX0_31 kc_56 rfl rfl rfl (by decide) dX0_lengthsOf_142 ?_
  refine z_iload dX0_lengthsOf_145 3 rfl ?_
  refine z_iload dX0_lengthsOf_147 0 rfl ?_
  refine z_callVV dX0_lengthsOf_149 (M_X3_put _ _ _) bX3_put lX0_137 kc_31 rfl rfl (Nat.le_of_ble_eq_true rfl) (Nat.le_of_ble_eq_true rfl) (fun r7 h8 => ?_)
  refine z_iload dX0_lengthsOf_152 0 rfl ?_
  exact z_iret dX0_lengthsOf_154 rfl
set_option maxHeartbeats 4000000 in
set_option maxRecDepth 100000 in
theorem w_X0_lengthsOf_19 (x1 : Int32) (x2 : Int32) (x3 : Int32) (x4 : Int32) (s0 : Int32) (h : AHp) : WO tvI QX0_lengthsOf 3 19 [(0, .ref 56), (1, .int x1), (2, .int x2), (3, .int x3), (4, .int x4)] [.int s0] h (m_X0_lengthsOf_19 x1 x2 x3 x4 s0 h) := by
  unfold m_X0_lengthsOf_19
  refine z_istore (lv2 := [(5, .int s0), (0, .ref 56), (1, .int x1), (2, .int x2), (3, .int x3), (4, .int x4)]) dX0_lengthsOf_19 (Nat.le_of_ble_eq_true rfl) rfl ?_
  refine z_iload dX0_lengthsOf_21 0 rfl ?_
  refine z_iconst (v := 4) dX0_lengthsOf_23 (by decide) ?_
  refine z_imul dX0_lengthsOf_24 ?_
  refine z_iload_n dX0_lengthsOf_25 3 rfl ?_
  refine z_iadd dX0_lengthsOf_26 ?_
  refine z_sipush (v := 625) dX0_lengthsOf_27 (by decide) ?_
  refine z_imul dX0_lengthsOf_30 ?_
  refine z_iload_n dX0_lengthsOf_31 4 rfl ?_
  refine z_bipush (v := 25) dX0_lengthsOf_32 (by decide) ?_
  refine z_imul dX0_lengthsOf_34 ?_
  refine z_iadd dX0_lengthsOf_35 ?_
  refine z_iload dX0_lengthsOf_36 5 rfl ?_
  refine z_iadd dX0_lengthsOf_38 ?_
  refine z_istoreL (lv2 := fun v9 => [(6, .int v9), (5, .int s0), (0, .ref 56), (1, .int x1), (2, .int x2), (3, .int x3), (4, .int x4)]) dX0_lengthsOf_39 (Nat.le_of_ble_eq_true rfl) (fun _ => rfl) (fun v9 => ?_)
  refine z_aload_n dX0_lengthsOf_41 2 rfl ?_
  refine z_getR (j := 31) fX0_31 kc_56 rfl rfl rfl (by decide) dX0_lengthsOf_42 ?_
  refine z_iload dX0_lengthsOf_45 0 rfl ?_
  refine z_callVI dX0_lengthsOf_47 (M_X3_has _ _) bX3_has lX0_121 kc_31 rfl rfl (Nat.le_of_ble_eq_true rfl) (Nat.le_of_ble_eq_true rfl) (fun r10 h11 => ?_)
  refine z_if_eq (tgt := 63) dX0_lengthsOf_50 (by decide) ?_ ?_
  · refine z_iload_n dX0_lengthsOf_63 4 rfl ?_
    refine z_if_lt (tgt := 72) dX0_lengthsOf_64 (by decide) ?_ ?_
    · refine z_iconst (v := 0) dX0_lengthsOf_72 (by decide) ?_
      exact z_iret dX0_lengthsOf_73 rfl
    · refine z_iload_n dX0_lengthsOf_67 4 rfl ?_
      refine z_iconst (v := 4) dX0_lengthsOf_68 (by decide) ?_
      refine z_ic_lt (tgt := 74) dX0_lengthsOf_69 (by decide) ?_ ?_
      · refine z_iload_n dX0_lengthsOf_74 3 rfl ?_
        refine z_iconst (v := 2) dX0_lengthsOf_75 (by decide) ?_
        refine z_irem dX0_lengthsOf_76 (by decide) ?_
        refine z_istoreL (lv2 := fun v12 => [(7, .int v12), (6, .int v9), (5, .int s0), (0, .ref 56), (1, .int x1), (2, .int x2), (3, .int x3), (4, .int x4)]) dX0_lengthsOf_77 (Nat.le_of_ble_eq_true rfl) (fun _ => rfl) (fun v12 => ?_)
        refine z_aload_n dX0_lengthsOf_79 3 rfl ?_
        refine z_getR (j := 61) fX0_24 kc_56 rfl rfl rfl (by decide) dX0_lengthsOf_80 ?_
        refine z_iload_n dX0_lengthsOf_83 5 rfl ?_
        refine z_gd (fun g13 => ?_)
        refine z_iald kc_61 dX0_lengthsOf_84 g13 ?_
        refine z_istoreL (lv2 := fun v14 => [(8, .int v14), (7, .int v12), (6, .int v9), (5, .int s0), (0, .ref 56), (1, .int x1), (2, .int x2), (3, .int x3), (4, .int x4)]) dX0_lengthsOf_85 (Nat.le_of_ble_eq_true rfl) (fun _ => rfl) (fun v14 => ?_)
        refine z_aload_n dX0_lengthsOf_87 4 rfl ?_
        refine z_getR (j := 3) fX0_27 kc_56 rfl rfl rfl (by decide) dX0_lengthsOf_88 ?_
        refine z_iload_n dX0_lengthsOf_91 7 rfl ?_
        refine z_iload dX0_lengthsOf_92 8 rfl ?_
        refine z_iload_n dX0_lengthsOf_94 5 rfl ?_
        refine z_if_ne (tgt := 105) dX0_lengthsOf_95 (by decide) ?_ ?_
        · refine z_iconst (v := 1) dX0_lengthsOf_105 (by decide) ?_
          refine z_iload dX0_lengthsOf_106 1 rfl ?_
          refine z_isub dX0_lengthsOf_108 ?_
          exact z_sub [4, 5, 2, 1, 0] rfl (w_X0_lengthsOf_109 _ _ _ _ _ _ _ _)
        · refine z_aload_n dX0_lengthsOf_98 4 rfl ?_
          refine z_getI fX0_69 kc_56 rfl dX0_lengthsOf_99 ?_
          refine z_goto (tgt := 109) dX0_lengthsOf_102 (by decide) ?_
          exact z_sub [4, 5, 2, 1, 0] rfl (w_X0_lengthsOf_109 _ _ _ _ _ _ _ _)
      · refine z_iconst (v := 0) dX0_lengthsOf_72 (by decide) ?_
        exact z_iret dX0_lengthsOf_73 rfl
  · refine z_aload_n dX0_lengthsOf_53 2 rfl ?_
    refine z_getR (j := 31) fX0_31 kc_56 rfl rfl rfl (by decide) dX0_lengthsOf_54 ?_
    refine z_iload dX0_lengthsOf_57 0 rfl ?_
    refine z_callVI dX0_lengthsOf_59 (M_X3_get _ _) bX3_get lX0_124 kc_31 rfl rfl (Nat.le_of_ble_eq_true rfl) (Nat.le_of_ble_eq_true rfl) (fun r15 h16 => ?_)
    exact z_iret dX0_lengthsOf_62 rfl
set_option maxHeartbeats 4000000 in
set_option maxRecDepth 100000 in
theorem w_X0_lengthsOf (x1 : Int32) (x2 : Int32) (x3 : Int32) (x4 : Int32) (h : AHp) : WO tvI QX0_lengthsOf 3 0 [(0, .ref 56), (1, .int x1), (2, .int x2), (3, .int x3), (4, .int x4)] [] h (m_X0_lengthsOf x1 x2 x3 x4 h) := by
  unfold m_X0_lengthsOf
  refine z_aload_n dX0_lengthsOf_0 0 rfl ?_
  refine z_getI fX0_87 kc_56 rfl dX0_lengthsOf_1 ?_
  refine z_if_ne (tgt := 12) dX0_lengthsOf_4 (by decide) ?_ ?_
  · refine z_iload_n dX0_lengthsOf_12 1 rfl ?_
    refine z_goto (tgt := 19) dX0_lengthsOf_13 (by decide) ?_
    exact w_X0_lengthsOf_19 _ _ _ _ _ _
  · refine z_iload_n dX0_lengthsOf_7 1 rfl ?_
    refine z_iconst (v := 3) dX0_lengthsOf_8 (by decide) ?_
    refine z_ic_ge (tgt := 16) dX0_lengthsOf_9 (by decide) ?_ ?_
    · refine z_iload_n dX0_lengthsOf_16 1 rfl ?_
      refine z_iconst (v := 2) dX0_lengthsOf_17 (by decide) ?_
      refine z_isub dX0_lengthsOf_18 ?_
      exact w_X0_lengthsOf_19 _ _ _ _ _ _
    · refine z_iload_n dX0_lengthsOf_12 1 rfl ?_
      refine z_goto (tgt := 19) dX0_lengthsOf_13 (by decide) ?_
      exact w_X0_lengthsOf_19 _ _ _ _ _ _
theorem M_X0_lengthsOf (x1 : Int32) (x2 : Int32) (x3 : Int32) (x4 : Int32) (h : AHp) : MI QX0_lengthsOf 3 [.ref 56, .int x1, .int x2, .int x3, .int x4] h (m_X0_lengthsOf x1 x2 x3 x4 h) := MI.of (by decide) rfl rfl (Nat.le_of_ble_eq_true rfl) (w_X0_lengthsOf x1 x2 x3 x4 h)
set_option maxHeartbeats 4000000 in
set_option maxRecDepth 100000 in
theorem w_X0_clearLevel_2 : ∀ (f : Nat) (x1 : Int32) (x2 : Int32) (h : AHp), WO tvV QX0_clearLevel 0 2 [(0, .ref 56), (1, .int x1), (2, .int x2)] [] h (m_X0_clearLevel_2 f x1 x2 h) := by
  intro f
  induction f with
  | zero => intro x1 x2 h; exact z_none
  | succ f ih =>
    intro x1 x2 h
    rw [m_X0_clearLevel_2]
    refine z_iload_n dX0_clearLevel_2 2 rfl ?_
    refine z_bipush (v := 25) dX0_clearLevel_3 (by decide) ?_
    refine z_ic_ge (tgt := 41) dX0_clearLevel_5 (by decide) ?_ ?_
    · exact z_vret dX0_clearLevel_41 rfl
    · refine z_iload_n dX0_clearLevel_8 1 rfl ?_
      refine z_bipush (v := 25) dX0_clearLevel_9 (by decide) ?_
      refine z_imul dX0_clearLevel_11 ?_
      refine z_iload_n dX0_clearLevel_12 2 rfl ?_
      refine z_iadd dX0_clearLevel_13 ?_
      refine z_istore_nL (lv2 := fun v1 => [(3, .int v1), (0, .ref 56), (1, .int x1), (2, .int x2)]) dX0_clearLevel_14 (Nat.le_of_ble_eq_true rfl) (fun _ => rfl) (fun v1 => ?_)
      refine z_iload_n dX0_clearLevel_15 0 rfl ?_
      refine z_if_lt (tgt := 35) dX0_clearLevel_16 (by decide) ?_ ?_
      · refine z_iincL (lv2 := fun v2 => [(2, .int v2), (3, .int v1), (0, .ref 56), (1, .int x1)]) dX0_clearLevel_35 3 rfl rfl (Nat.le_of_ble_eq_true rfl) (fun _ => rfl) (fun v2 => ?_)
        refine z_goto (tgt := 2) dX0_clearLevel_38 (by decide) ?_
        exact z_sub [2, 3, 0] rfl (ih _ _ _)
      · refine z_iload_n dX0_clearLevel_19 0 rfl ?_
        refine z_aload_n dX0_clearLevel_20 1 rfl ?_
        refine z_getR (j := 57) fX0_9 kc_56 rfl rfl rfl (by decide) dX0_clearLevel_21 ?_
        refine z_alen (v := 150) kc_57 (by decide) (by decide) dX0_clearLevel_24 ?_
        refine z_ic_ge (tgt := 35) dX0_clearLevel_25 (by decide) ?_ ?_
        · refine z_iincL (lv2 := fun v3 => [(2, .int v3), (3, .int v1), (0, .ref 56), (1, .int x1)]) dX0_clearLevel_35 3 rfl rfl (Nat.le_of_ble_eq_true rfl) (fun _ => rfl) (fun v3 => ?_)
          refine z_goto (tgt := 2) dX0_clearLevel_38 (by decide) ?_
          exact z_sub [2, 3, 0] rfl (ih _ _ _)
        · refine z_aload_n dX0_clearLevel_28 1 rfl ?_
          refine z_getR (j := 57) fX0_9 kc_56 rfl rfl rfl (by decide) dX0_clearLevel_29 ?_
          refine z_iload_n dX0_clearLevel_32 0 rfl ?_
          refine z_iconst (v := 0) dX0_clearLevel_33 (by decide) ?_
          refine z_gd (fun g5 => ?_)
          refine z_iast kc_57 dX0_clearLevel_34 g5 ?_
          refine z_lh (fun h4 => ?_)
          refine z_iincL (lv2 := fun v6 => [(2, .int v6), (3, .int v1), (0, .ref 56), (1, .int x1)]) dX0_clearLevel_35 3 rfl rfl (Nat.le_of_ble_eq_true rfl) (fun _ => rfl) (fun v6 => ?_)
          refine z_goto (tgt := 2) dX0_clearLevel_38 (by decide) ?_
          exact z_sub [2, 3, 0] rfl (ih _ _ _)
set_option maxHeartbeats 4000000 in
set_option maxRecDepth 100000 in
theorem w_X0_clearLevel (x1 : Int32) (h : AHp) : WO tvV QX0_clearLevel 0 0 [(0, .ref 56), (1, .int x1)] [] h (m_X0_clearLevel x1 h) := by
  unfold m_X0_clearLevel
  refine z_iconst (v := 0) dX0_clearLevel_0 (by decide) ?_
  refine z_istore_n (lv2 := [(2, .int 0), (0, .ref 56), (1, .int x1)]) dX0_clearLevel_1 (Nat.le_of_ble_eq_true rfl) rfl ?_
  exact z_sub [1, 2, 0] rfl (w_X0_clearLevel_2 FU _ _ _)
theorem M_X0_clearLevel (x1 : Int32) (h : AHp) : MV QX0_clearLevel 0 [.ref 56, .int x1] h (m_X0_clearLevel x1 h) := MV.of (by decide) rfl rfl (Nat.le_of_ble_eq_true rfl) (w_X0_clearLevel x1 h)
set_option maxHeartbeats 4000000 in
set_option maxRecDepth 100000 in
theorem w_X0_advance_115 (k12 : Int32 → Int32 → Int32 → Int32 → AHp → Option (Int32 × AHp)) (hk12 : ∀ (x1 : Int32) (x2 : Int32) (x3 : Int32) (x4 : Int32) (h : AHp), WO tvI QX0_advance 4 12 [(0, .ref 56), (1, .int x1), (2, .int x2), (3, .int x3), (4, .int x4)] [] h (k12 x1 x2 x3 x4 h)) (k59 : Int32 → Int32 → Int32 → Int32 → Int32 → Int32 → AHp → Option (Int32 × AHp)) (hk59 : ∀ (x1 : Int32) (x2 : Int32) (x3 : Int32) (x4 : Int32) (x6 : Int32) (x7 : Int32) (h : AHp), WO tvI QX0_advance 4 59 [(0, .ref 56), (1, .int x1), (2, .int x2), (3, .int x3), (4, .int x4), (6, .int x6), (7, .int x7)] [] h (k59 x1 x2 x3 x4 x6 x7 h)) (x1 : Int32) (x2 : Int32) (x3 : Int32) (x4 : Int32) (x6 : Int32) (x7 : Int32) (h : AHp) : WO tvI QX0_advance 4 115 [(0, .ref 56), (1, .int x1), (2, .int x2), (3, .int x3), (4, .int x4), (6, .int x6), (7, .int x7)] [] h (m_X0_advance_115 k12 k59 x1 x2 x3 x4 x6 x7 h) := by
  unfold m_X0_advance_115
  refine z_iload_n dX0_advance_115 3 rfl ?_
  refine z_if_eq (tgt := 131) dX0_advance_116 (by decide) ?_ ?_
  · refine z_iincL (lv2 := fun v1 => [(7, .int v1), (0, .ref 56), (1, .int x1), (2, .int x2), (3, .int x3), (4, .int x4), (6, .int x6)]) dX0_advance_131 6 rfl rfl (Nat.le_of_ble_eq_true rfl) (fun _ => rfl) (fun v1 => ?_)
    refine z_goto (tgt := 59) dX0_advance_134 (by decide) ?_
    exact z_sub [1, 2, 3, 4, 5, 6, 0] rfl (hk59 _ _ _ _ _ _ _)
  · refine z_iload_n dX0_advance_119 1 rfl ?_
    refine z_aload_n dX0_advance_120 0 rfl ?_
    refine z_getI fX0_56 kc_56 rfl dX0_advance_121 ?_
    refine z_iconst (v := 1) dX0_advance_124 (by decide) ?_
    refine z_isub dX0_advance_125 ?_
    refine z_ic_ne (tgt := 131) dX0_advance_126 (by decide) ?_ ?_
    · refine z_iincL (lv2 := fun v2 => [(7, .int v2), (0, .ref 56), (1, .int x1), (2, .int x2), (3, .int x3), (4, .int x4), (6, .int x6)]) dX0_advance_131 6 rfl rfl (Nat.le_of_ble_eq_true rfl) (fun _ => rfl) (fun v2 => ?_)
      refine z_goto (tgt := 59) dX0_advance_134 (by decide) ?_
      exact z_sub [1, 2, 3, 4, 5, 6, 0] rfl (hk59 _ _ _ _ _ _ _)
    · refine z_iconst (v := 1) dX0_advance_129 (by decide) ?_
      exact z_zret dX0_advance_130 rfl (Or.inr rfl)
set_option maxHeartbeats 4000000 in
set_option maxRecDepth 100000 in
theorem w_X0_advance_95 (k12 : Int32 → Int32 → Int32 → Int32 → AHp → Option (Int32 × AHp)) (hk12 : ∀ (x1 : Int32) (x2 : Int32) (x3 : Int32) (x4 : Int32) (h : AHp), WO tvI QX0_advance 4 12 [(0, .ref 56), (1, .int x1), (2, .int x2), (3, .int x3), (4, .int x4)] [] h (k12 x1 x2 x3 x4 h)) (k59 : Int32 → Int32 → Int32 → Int32 → Int32 → Int32 → AHp → Option (Int32 × AHp)) (hk59 : ∀ (x1 : Int32) (x2 : Int32) (x3 : Int32) (x4 : Int32) (x6 : Int32) (x7 : Int32) (h : AHp), WO tvI QX0_advance 4 59 [(0, .ref 56), (1, .int x1), (2, .int x2), (3, .int x3), (4, .int x4), (6, .int x6), (7, .int x7)] [] h (k59 x1 x2 x3 x4 x6 x7 h)) (x1 : Int32) (x2 : Int32) (x3 : Int32) (x4 : Int32) (x6 : Int32) (x7 : Int32) (s0 : Int32) (h : AHp) : WO tvI QX0_advance 4 95 [(0, .ref 56), (1, .int x1), (2, .int x2), (3, .int x3), (4, .int x4), (6, .int x6), (7, .int x7)] [.int s0] h (m_X0_advance_95 k12 k59 x1 x2 x3 x4 x6 x7 s0 h) := by
  unfold m_X0_advance_95
  refine z_istore (lv2 := [(8, .int s0), (0, .ref 56), (1, .int x1), (2, .int x2), (3, .int x3), (4, .int x4), (6, .int x6), (7, .int x7)]) dX0_advance_95 (Nat.le_of_ble_eq_true rfl) rfl ?_
  refine z_iload dX0_advance_97 0 rfl ?_
  refine z_if_eq (tgt := 115) dX0_advance_99 (by decide) ?_ ?_
  · exact z_sub [1, 2, 3, 4, 5, 6, 7] rfl (w_X0_advance_115 _ hk12 _ hk59 _ _ _ _ _ _ _)
  · refine z_iconst (v := 1) dX0_advance_102 (by decide) ?_
    refine z_istore_n (lv2 := [(3, .int 1), (8, .int s0), (0, .ref 56), (1, .int x1), (2, .int x2), (4, .int x4), (6, .int x6), (7, .int x7)]) dX0_advance_103 (Nat.le_of_ble_eq_true rfl) rfl ?_
    refine z_aload_n dX0_advance_104 2 rfl ?_
    refine z_iload_n dX0_advance_105 3 rfl ?_
    refine z_iconst (v := 1) dX0_advance_106 (by decide) ?_
    refine z_iadd dX0_advance_107 ?_
    refine z_iload dX0_advance_108 7 rfl ?_
    refine z_iload dX0_advance_110 1 rfl ?_
    refine z_callVV dX0_advance_112 (M_X0_reached _ _ _ _) bX0_reached lX0_100 kc_56 rfl rfl (Nat.le_of_ble_eq_true rfl) (Nat.le_of_ble_eq_true rfl) (fun r3 h4 => ?_)
    exact z_sub [2, 3, 4, 0, 5, 6, 7] rfl (w_X0_advance_115 _ hk12 _ hk59 _ _ _ _ _ _ _)
set_option maxHeartbeats 4000000 in
set_option maxRecDepth 100000 in
theorem w_X0_advance_59 (k12 : Int32 → Int32 → Int32 → Int32 → AHp → Option (Int32 × AHp)) (hk12 : ∀ (x1 : Int32) (x2 : Int32) (x3 : Int32) (x4 : Int32) (h : AHp), WO tvI QX0_advance 4 12 [(0, .ref 56), (1, .int x1), (2, .int x2), (3, .int x3), (4, .int x4)] [] h (k12 x1 x2 x3 x4 h)) : ∀ (f : Nat) (x1 : Int32) (x2 : Int32) (x3 : Int32) (x4 : Int32) (x6 : Int32) (x7 : Int32) (h : AHp), WO tvI QX0_advance 4 59 [(0, .ref 56), (1, .int x1), (2, .int x2), (3, .int x3), (4, .int x4), (6, .int x6), (7, .int x7)] [] h (m_X0_advance_59 k12 f x1 x2 x3 x4 x6 x7 h) := by
  intro f
  induction f with
  | zero => intro x1 x2 x3 x4 x6 x7 h; exact z_none
  | succ f ih =>
    intro x1 x2 x3 x4 x6 x7 h
    rw [m_X0_advance_59]
    refine z_iload dX0_advance_59 6 rfl ?_
    refine z_bipush (v := 25) dX0_advance_61 (by decide) ?_
    refine z_ic_ge (tgt := 137) dX0_advance_63 (by decide) ?_ ?_
    · refine z_iincL (lv2 := fun v5 => [(4, .int v5), (0, .ref 56), (1, .int x1), (2, .int x2), (3, .int x3), (6, .int x6), (7, .int x7)]) dX0_advance_137 4 rfl rfl (Nat.le_of_ble_eq_true rfl) (fun _ => rfl) (fun v5 => ?_)
      refine z_goto (tgt := 12) dX0_advance_140 (by decide) ?_
      exact z_sub [1, 2, 3, 4, 0] rfl (hk12 _ _ _ _ _)
    · refine z_iload dX0_advance_66 5 rfl ?_
      refine z_if_eq (tgt := 137) dX0_advance_68 (by decide) ?_ ?_
      · refine z_iincL (lv2 := fun v6 => [(4, .int v6), (0, .ref 56), (1, .int x1), (2, .int x2), (3, .int x3), (6, .int x6), (7, .int x7)]) dX0_advance_137 4 rfl rfl (Nat.le_of_ble_eq_true rfl) (fun _ => rfl) (fun v6 => ?_)
        refine z_goto (tgt := 12) dX0_advance_140 (by decide) ?_
        exact z_sub [1, 2, 3, 4, 0] rfl (hk12 _ _ _ _ _)
      · refine z_iload dX0_advance_71 5 rfl ?_
        refine z_iload dX0_advance_73 6 rfl ?_
        refine z_ishr dX0_advance_75 ?_
        refine z_iconst (v := 1) dX0_advance_76 (by decide) ?_
        refine z_iand dX0_advance_77 ?_
        refine z_if_eq (tgt := 94) dX0_advance_78 (by decide) ?_ ?_
        · refine z_iconst (v := 0) dX0_advance_94 (by decide) ?_
          exact w_X0_advance_95 _ hk12 _ ih _ _ _ _ _ _ _ _
        · refine z_aload_n dX0_advance_81 0 rfl ?_
          refine z_iload_n dX0_advance_82 1 rfl ?_
          refine z_iload_n dX0_advance_83 2 rfl ?_
          refine z_iload dX0_advance_84 6 rfl ?_
          refine z_iload dX0_advance_86 4 rfl ?_
          refine z_callVI dX0_advance_88 (M_X0_lengthsOf _ _ _ _ _) bX0_lengthsOf lX0_117 kc_56 rfl rfl (Nat.le_of_ble_eq_true rfl) (Nat.le_of_ble_eq_true rfl) (fun r7 h8 => ?_)
          refine z_goto (tgt := 95) dX0_advance_91 (by decide) ?_
          exact w_X0_advance_95 _ hk12 _ ih _ _ _ _ _ _ _ _
set_option maxHeartbeats 4000000 in
set_option maxRecDepth 100000 in
theorem w_X0_advance_12 : ∀ (f : Nat) (x1 : Int32) (x2 : Int32) (x3 : Int32) (x4 : Int32) (h : AHp), WO tvI QX0_advance 4 12 [(0, .ref 56), (1, .int x1), (2, .int x2), (3, .int x3), (4, .int x4)] [] h (m_X0_advance_12 f x1 x2 x3 x4 h) := by
  intro f
  induction f with
  | zero => intro x1 x2 x3 x4 h; exact z_none
  | succ f ih =>
    intro x1 x2 x3 x4 h
    rw [m_X0_advance_12]
    refine z_iload dX0_advance_12 4 rfl ?_
    refine z_bipush (v := 25) dX0_advance_14 (by decide) ?_
    refine z_ic_ge (tgt := 143) dX0_advance_16 (by decide) ?_ ?_
    · refine z_iload_n dX0_advance_143 3 rfl ?_
      refine z_gd (fun g9 => ?_)
      exact z_zret dX0_advance_144 rfl g9
    · refine z_iload_n dX0_advance_19 1 rfl ?_
      refine z_bipush (v := 25) dX0_advance_20 (by decide) ?_
      refine z_imul dX0_advance_22 ?_
      refine z_iload dX0_advance_23 4 rfl ?_
      refine z_iadd dX0_advance_25 ?_
      refine z_istoreL (lv2 := fun v10 => [(5, .int v10), (0, .ref 56), (1, .int x1), (2, .int x2), (3, .int x3), (4, .int x4)]) dX0_advance_26 (Nat.le_of_ble_eq_true rfl) (fun _ => rfl) (fun v10 => ?_)
      refine z_iload dX0_advance_28 0 rfl ?_
      refine z_if_lt (tgt := 53) dX0_advance_30 (by decide) ?_ ?_
      · refine z_iconst (v := 0) dX0_advance_53 (by decide) ?_
        refine z_istore (lv2 := [(6, .int 0), (5, .int v10), (0, .ref 56), (1, .int x1), (2, .int x2), (3, .int x3), (4, .int x4)]) dX0_advance_54 (Nat.le_of_ble_eq_true rfl) rfl ?_
        refine z_iconst (v := 0) dX0_advance_56 (by decide) ?_
        refine z_istore (lv2 := [(7, .int 0), (6, .int 0), (5, .int v10), (0, .ref 56), (1, .int x1), (2, .int x2), (3, .int x3), (4, .int x4)]) dX0_advance_57 (Nat.le_of_ble_eq_true rfl) rfl ?_
        exact z_sub [3, 4, 5, 6, 7, 1, 0] rfl (w_X0_advance_59 _ ih FU _ _ _ _ _ _ _)
      · refine z_iload dX0_advance_33 0 rfl ?_
        refine z_aload_n dX0_advance_35 1 rfl ?_
        refine z_getR (j := 57) fX0_9 kc_56 rfl rfl rfl (by decide) dX0_advance_36 ?_
        refine z_alen (v := 150) kc_57 (by decide) (by decide) dX0_advance_39 ?_
        refine z_ic_ge (tgt := 53) dX0_advance_40 (by decide) ?_ ?_
        · refine z_iconst (v := 0) dX0_advance_53 (by decide) ?_
          refine z_istore (lv2 := [(6, .int 0), (5, .int v10), (0, .ref 56), (1, .int x1), (2, .int x2), (3, .int x3), (4, .int x4)]) dX0_advance_54 (Nat.le_of_ble_eq_true rfl) rfl ?_
          refine z_iconst (v := 0) dX0_advance_56 (by decide) ?_
          refine z_istore (lv2 := [(7, .int 0), (6, .int 0), (5, .int v10), (0, .ref 56), (1, .int x1), (2, .int x2), (3, .int x3), (4, .int x4)]) dX0_advance_57 (Nat.le_of_ble_eq_true rfl) rfl ?_
          exact z_sub [3, 4, 5, 6, 7, 1, 0] rfl (w_X0_advance_59 _ ih FU _ _ _ _ _ _ _)
        · refine z_aload_n dX0_advance_43 1 rfl ?_
          refine z_getR (j := 57) fX0_9 kc_56 rfl rfl rfl (by decide) dX0_advance_44 ?_
          refine z_iload dX0_advance_47 0 rfl ?_
          refine z_gd (fun g11 => ?_)
          refine z_iald kc_57 dX0_advance_49 g11 ?_
          refine z_goto (tgt := 54) dX0_advance_50 (by decide) ?_
          refine z_istoreL (lv2 := fun v12 => [(6, .int v12), (5, .int v10), (0, .ref 56), (1, .int x1), (2, .int x2), (3, .int x3), (4, .int x4)]) dX0_advance_54 (Nat.le_of_ble_eq_true rfl) (fun _ => rfl) (fun v12 => ?_)
          refine z_iconst (v := 0) dX0_advance_56 (by decide) ?_
          refine z_istore (lv2 := [(7, .int 0), (6, .int v12), (5, .int v10), (0, .ref 56), (1, .int x1), (2, .int x2), (3, .int x3), (4, .int x4)]) dX0_advance_57 (Nat.le_of_ble_eq_true rfl) rfl ?_
          exact z_sub [3, 4, 5, 6, 7, 1, 0] rfl (w_X0_advance_59 _ ih FU _ _ _ _ _ _ _)
set_option maxHeartbeats 4000000 in
set_option maxRecDepth 100000 in
theorem w_X0_advance (x1 : Int32) (x2 : Int32) (h : AHp) : WO tvI QX0_advance 4 0 [(0, .ref 56), (1, .int x1), (2, .int x2)] [] h (m_X0_advance x1 x2 h) := by
  unfold m_X0_advance
  refine z_iconst (v := 0) dX0_advance_0 (by decide) ?_
  refine z_istore_n (lv2 := [(3, .int 0), (0, .ref 56), (1, .int x1), (2, .int x2)]) dX0_advance_1 (Nat.le_of_ble_eq_true rfl) rfl ?_
  refine z_aload_n dX0_advance_2 1 rfl ?_
  refine z_iload_n dX0_advance_3 2 rfl ?_
  refine z_iconst (v := 1) dX0_advance_4 (by decide) ?_
  refine z_iadd dX0_advance_5 ?_
  refine z_callVV dX0_advance_6 (M_X0_clearLevel _ _) bX0_clearLevel lX0_93 kc_56 rfl rfl (Nat.le_of_ble_eq_true rfl) (Nat.le_of_ble_eq_true rfl) (fun r13 h14 => ?_)
  refine z_iconst (v := 0) dX0_advance_9 (by decide) ?_
  refine z_istore (lv2 := [(4, .int 0), (3, .int 0), (0, .ref 56), (1, .int x1), (2, .int x2)]) dX0_advance_10 (Nat.le_of_ble_eq_true rfl) rfl ?_
  exact z_sub [2, 3, 4, 1, 0] rfl (w_X0_advance_12 FU _ _ _ _ _)
theorem M_X0_advance (x1 : Int32) (x2 : Int32) (h : AHp) : MI QX0_advance 4 [.ref 56, .int x1, .int x2] h (m_X0_advance x1 x2 h) := MI.of (by decide) rfl rfl (Nat.le_of_ble_eq_true rfl) (w_X0_advance x1 x2 h)
set_option maxHeartbeats 4000000 in
set_option maxRecDepth 100000 in
theorem w_X0_fillBehind_4 : ∀ (f : Nat) (x2 : Int32) (h : AHp), WO tvV QX0_fillBehind 0 4 [(0, .ref 56), (2, .int x2)] [] h (m_X0_fillBehind_4 f x2 h) := by
  intro f
  induction f with
  | zero => intro x2 h; exact z_none
  | succ f ih =>
    intro x2 h
    rw [m_X0_fillBehind_4]
    refine z_iload_n dX0_fillBehind_4 1 rfl ?_
    refine z_aload_n dX0_fillBehind_5 0 rfl ?_
    refine z_getI fX0_56 kc_56 rfl dX0_fillBehind_6 ?_
    refine z_ic_ge (tgt := 35) dX0_fillBehind_9 (by decide) ?_ ?_
    · exact z_vret dX0_fillBehind_35 rfl
    · refine z_iload_n dX0_fillBehind_12 1 rfl ?_
      refine z_iconst (v := 5) dX0_fillBehind_13 (by decide) ?_
      refine z_ic_ge (tgt := 35) dX0_fillBehind_14 (by decide) ?_ ?_
      · exact z_vret dX0_fillBehind_35 rfl
      · refine z_aload_n dX0_fillBehind_17 0 rfl ?_
        refine z_getR (j := 60) fX0_21 kc_56 rfl rfl rfl (by decide) dX0_fillBehind_18 ?_
        refine z_iload_n dX0_fillBehind_21 1 rfl ?_
        refine z_aload_n dX0_fillBehind_22 0 rfl ?_
        refine z_getR (j := 61) fX0_24 kc_56 rfl rfl rfl (by decide) dX0_fillBehind_23 ?_
        refine z_iconst (v := 0) dX0_fillBehind_26 (by decide) ?_
        refine z_iald kc_61 dX0_fillBehind_27 (by decide) ?_
        refine z_gd (fun g2 => ?_)
        refine z_iast kc_60 dX0_fillBehind_28 g2 ?_
        refine z_lh (fun h1 => ?_)
        refine z_iincL (lv2 := fun v3 => [(2, .int v3), (0, .ref 56)]) dX0_fillBehind_29 1 rfl rfl (Nat.le_of_ble_eq_true rfl) (fun _ => rfl) (fun v3 => ?_)
        refine z_goto (tgt := 4) dX0_fillBehind_32 (by decide) ?_
        exact z_sub [1, 0] rfl (ih _ _)
set_option maxHeartbeats 4000000 in
set_option maxRecDepth 100000 in
theorem w_X0_fillBehind (x1 : Int32) (h : AHp) : WO tvV QX0_fillBehind 0 0 [(0, .ref 56), (1, .int x1)] [] h (m_X0_fillBehind x1 h) := by
  unfold m_X0_fillBehind
  refine z_iload_n dX0_fillBehind_0 1 rfl ?_
  refine z_iconst (v := 1) dX0_fillBehind_1 (by decide) ?_
  refine z_iadd dX0_fillBehind_2 ?_
  refine z_istore_nL (lv2 := fun v4 => [(2, .int v4), (0, .ref 56), (1, .int x1)]) dX0_fillBehind_3 (Nat.le_of_ble_eq_true rfl) (fun _ => rfl) (fun v4 => ?_)
  exact z_sub [1, 0] rfl (w_X0_fillBehind_4 FU _ _)
theorem M_X0_fillBehind (x1 : Int32) (h : AHp) : MV QX0_fillBehind 0 [.ref 56, .int x1] h (m_X0_fillBehind x1 h) := MV.of (by decide) rfl rfl (Nat.le_of_ble_eq_true rfl) (w_X0_fillBehind x1 h)
set_option maxHeartbeats 4000000 in
set_option maxRecDepth 100000 in
theorem w_X0_isKnownGood_23 (k2 : Int32 → Int32 → AHp → Option (Int32 × AHp)) (hk2 : ∀ (x1 : Int32) (x2 : Int32) (h : AHp), WO tvI QX0_isKnownGood 0 2 [(0, .ref 56), (1, .int x1), (2, .int x2)] [] h (k2 x1 x2 h)) : ∀ (f : Nat) (x1 : Int32) (x2 : Int32) (x3 : Int32) (x4 : Int32) (h : AHp), WO tvI QX0_isKnownGood 0 23 [(0, .ref 56), (1, .int x1), (2, .int x2), (3, .int x3), (4, .int x4)] [] h (m_X0_isKnownGood_23 k2 f x1 x2 x3 x4 h) := by
  intro f
  induction f with
  | zero => intro x1 x2 x3 x4 h; exact z_none
  | succ f ih =>
    intro x1 x2 x3 x4 h
    rw [m_X0_isKnownGood_23]
    refine z_iload dX0_isKnownGood_23 4 rfl ?_
    refine z_bipush (v := 25) dX0_isKnownGood_25 (by decide) ?_
    refine z_ic_ge (tgt := 95) dX0_isKnownGood_27 (by decide) ?_ ?_
    · refine z_iload_n dX0_isKnownGood_95 3 rfl ?_
      refine z_if_eq (tgt := 101) dX0_isKnownGood_96 (by decide) ?_ ?_
      · refine z_iincL (lv2 := fun v1 => [(2, .int v1), (0, .ref 56), (1, .int x1), (3, .int x3), (4, .int x4)]) dX0_isKnownGood_101 2 rfl rfl (Nat.le_of_ble_eq_true rfl) (fun _ => rfl) (fun v1 => ?_)
        refine z_goto (tgt := 2) dX0_isKnownGood_104 (by decide) ?_
        exact z_sub [1, 2, 0] rfl (hk2 _ _ _)
      · refine z_iconst (v := 1) dX0_isKnownGood_99 (by decide) ?_
        exact z_zret dX0_isKnownGood_100 rfl (Or.inr rfl)
    · refine z_iload_n dX0_isKnownGood_30 3 rfl ?_
      refine z_if_eq (tgt := 95) dX0_isKnownGood_31 (by decide) ?_ ?_
      · refine z_iload_n dX0_isKnownGood_95 3 rfl ?_
        refine z_if_eq (tgt := 101) dX0_isKnownGood_96 (by decide) ?_ ?_
        · refine z_iincL (lv2 := fun v2 => [(2, .int v2), (0, .ref 56), (1, .int x1), (3, .int x3), (4, .int x4)]) dX0_isKnownGood_101 2 rfl rfl (Nat.le_of_ble_eq_true rfl) (fun _ => rfl) (fun v2 => ?_)
          refine z_goto (tgt := 2) dX0_isKnownGood_104 (by decide) ?_
          exact z_sub [1, 2, 0] rfl (hk2 _ _ _)
        · refine z_iconst (v := 1) dX0_isKnownGood_99 (by decide) ?_
          exact z_zret dX0_isKnownGood_100 rfl (Or.inr rfl)
      · refine z_iload_n dX0_isKnownGood_34 1 rfl ?_
        refine z_bipush (v := 8) dX0_isKnownGood_35 (by decide) ?_
        refine z_imul dX0_isKnownGood_37 ?_
        refine z_iload_n dX0_isKnownGood_38 2 rfl ?_
        refine z_iadd dX0_isKnownGood_39 ?_
        refine z_bipush (v := 25) dX0_isKnownGood_40 (by decide) ?_
        refine z_imul dX0_isKnownGood_42 ?_
        refine z_iload dX0_isKnownGood_43 4 rfl ?_
        refine z_iadd dX0_isKnownGood_45 ?_
        refine z_istoreL (lv2 := fun v3 => [(5, .int v3), (0, .ref 56), (1, .int x1), (2, .int x2), (3, .int x3), (4, .int x4)]) dX0_isKnownGood_46 (Nat.le_of_ble_eq_true rfl) (fun _ => rfl) (fun v3 => ?_)
        refine z_iload dX0_isKnownGood_48 0 rfl ?_
        refine z_aload_n dX0_isKnownGood_50 1 rfl ?_
        refine z_getR (j := 58) fX0_15 kc_56 rfl rfl rfl (by decide) dX0_isKnownGood_51 ?_
        refine z_alen (v := 1000) kc_58 (by decide) (by decide) dX0_isKnownGood_54 ?_
        refine z_ic_ge (tgt := 87) dX0_isKnownGood_55 (by decide) ?_ ?_
        · refine z_iconst (v := 0) dX0_isKnownGood_87 (by decide) ?_
          refine z_istore_n (lv2 := [(3, .int 0), (5, .int v3), (0, .ref 56), (1, .int x1), (2, .int x2), (4, .int x4)]) dX0_isKnownGood_88 (Nat.le_of_ble_eq_true rfl) rfl ?_
          refine z_iincL (lv2 := fun v4 => [(4, .int v4), (3, .int 0), (5, .int v3), (0, .ref 56), (1, .int x1), (2, .int x2)]) dX0_isKnownGood_89 5 rfl rfl (Nat.le_of_ble_eq_true rfl) (fun _ => rfl) (fun v4 => ?_)
          refine z_goto (tgt := 23) dX0_isKnownGood_92 (by decide) ?_
          exact z_sub [3, 4, 5, 1, 0] rfl (ih _ _ _ _ _)
        · refine z_aload_n dX0_isKnownGood_58 1 rfl ?_
          refine z_getR (j := 58) fX0_15 kc_56 rfl rfl rfl (by decide) dX0_isKnownGood_59 ?_
          refine z_iload dX0_isKnownGood_62 0 rfl ?_
          refine z_gd (fun g5 => ?_)
          refine z_iald kc_58 dX0_isKnownGood_64 g5 ?_
          refine z_aload_n dX0_isKnownGood_65 1 rfl ?_
          refine z_getR (j := 57) fX0_9 kc_56 rfl rfl rfl (by decide) dX0_isKnownGood_66 ?_
          refine z_iload_n dX0_isKnownGood_69 2 rfl ?_
          refine z_bipush (v := 25) dX0_isKnownGood_70 (by decide) ?_
          refine z_imul dX0_isKnownGood_72 ?_
          refine z_iload dX0_isKnownGood_73 5 rfl ?_
          refine z_iadd dX0_isKnownGood_75 ?_
          refine z_gd (fun g6 => ?_)
          refine z_iald kc_57 dX0_isKnownGood_76 g6 ?_
          refine z_iconst (v := -1) dX0_isKnownGood_77 (by decide) ?_
          refine z_ixor dX0_isKnownGood_78 ?_
          refine z_iand dX0_isKnownGood_79 ?_
          refine z_if_ne (tgt := 87) dX0_isKnownGood_80 (by decide) ?_ ?_
          · refine z_iconst (v := 0) dX0_isKnownGood_87 (by decide) ?_
            refine z_istore_n (lv2 := [(3, .int 0), (5, .int v3), (0, .ref 56), (1, .int x1), (2, .int x2), (4, .int x4)]) dX0_isKnownGood_88 (Nat.le_of_ble_eq_true rfl) rfl ?_
            refine z_iincL (lv2 := fun v7 => [(4, .int v7), (3, .int 0), (5, .int v3), (0, .ref 56), (1, .int x1), (2, .int x2)]) dX0_isKnownGood_89 5 rfl rfl (Nat.le_of_ble_eq_true rfl) (fun _ => rfl) (fun v7 => ?_)
            refine z_goto (tgt := 23) dX0_isKnownGood_92 (by decide) ?_
            exact z_sub [3, 4, 5, 1, 0] rfl (ih _ _ _ _ _)
          · refine z_iconst (v := 1) dX0_isKnownGood_83 (by decide) ?_
            refine z_goto (tgt := 88) dX0_isKnownGood_84 (by decide) ?_
            refine z_istore_n (lv2 := [(3, .int 1), (5, .int v3), (0, .ref 56), (1, .int x1), (2, .int x2), (4, .int x4)]) dX0_isKnownGood_88 (Nat.le_of_ble_eq_true rfl) rfl ?_
            refine z_iincL (lv2 := fun v8 => [(4, .int v8), (3, .int 1), (5, .int v3), (0, .ref 56), (1, .int x1), (2, .int x2)]) dX0_isKnownGood_89 5 rfl rfl (Nat.le_of_ble_eq_true rfl) (fun _ => rfl) (fun v8 => ?_)
            refine z_goto (tgt := 23) dX0_isKnownGood_92 (by decide) ?_
            exact z_sub [3, 4, 5, 1, 0] rfl (ih _ _ _ _ _)
set_option maxHeartbeats 4000000 in
set_option maxRecDepth 100000 in
theorem w_X0_isKnownGood_2 : ∀ (f : Nat) (x1 : Int32) (x2 : Int32) (h : AHp), WO tvI QX0_isKnownGood 0 2 [(0, .ref 56), (1, .int x1), (2, .int x2)] [] h (m_X0_isKnownGood_2 f x1 x2 h) := by
  intro f
  induction f with
  | zero => intro x1 x2 h; exact z_none
  | succ f ih =>
    intro x1 x2 h
    rw [m_X0_isKnownGood_2]
    refine z_iload_n dX0_isKnownGood_2 2 rfl ?_
    refine z_aload_n dX0_isKnownGood_3 0 rfl ?_
    refine z_getR (j := 59) fX0_18 kc_56 rfl rfl rfl (by decide) dX0_isKnownGood_4 ?_
    refine z_iload_n dX0_isKnownGood_7 1 rfl ?_
    refine z_gd (fun g9 => ?_)
    refine z_iald kc_59 dX0_isKnownGood_8 g9 ?_
    refine z_ic_ge (tgt := 107) dX0_isKnownGood_9 (by decide) ?_ ?_
    · refine z_iconst (v := 0) dX0_isKnownGood_107 (by decide) ?_
      exact z_zret dX0_isKnownGood_108 rfl (Or.inl rfl)
    · refine z_iload_n dX0_isKnownGood_12 2 rfl ?_
      refine z_bipush (v := 8) dX0_isKnownGood_13 (by decide) ?_
      refine z_ic_ge (tgt := 107) dX0_isKnownGood_15 (by decide) ?_ ?_
      · refine z_iconst (v := 0) dX0_isKnownGood_107 (by decide) ?_
        exact z_zret dX0_isKnownGood_108 rfl (Or.inl rfl)
      · refine z_iconst (v := 1) dX0_isKnownGood_18 (by decide) ?_
        refine z_istore_n (lv2 := [(3, .int 1), (0, .ref 56), (1, .int x1), (2, .int x2)]) dX0_isKnownGood_19 (Nat.le_of_ble_eq_true rfl) rfl ?_
        refine z_iconst (v := 0) dX0_isKnownGood_20 (by decide) ?_
        refine z_istore (lv2 := [(4, .int 0), (3, .int 1), (0, .ref 56), (1, .int x1), (2, .int x2)]) dX0_isKnownGood_21 (Nat.le_of_ble_eq_true rfl) rfl ?_
        exact z_sub [2, 3, 4, 1, 0] rfl (w_X0_isKnownGood_23 _ ih FU _ _ _ _ _)
set_option maxHeartbeats 4000000 in
set_option maxRecDepth 100000 in
theorem w_X0_isKnownGood (x1 : Int32) (h : AHp) : WO tvI QX0_isKnownGood 0 0 [(0, .ref 56), (1, .int x1)] [] h (m_X0_isKnownGood x1 h) := by
  unfold m_X0_isKnownGood
  refine z_iconst (v := 0) dX0_isKnownGood_0 (by decide) ?_
  refine z_istore_n (lv2 := [(2, .int 0), (0, .ref 56), (1, .int x1)]) dX0_isKnownGood_1 (Nat.le_of_ble_eq_true rfl) rfl ?_
  exact z_sub [1, 2, 0] rfl (w_X0_isKnownGood_2 FU _ _ _)
theorem M_X0_isKnownGood (x1 : Int32) (h : AHp) : MI QX0_isKnownGood 0 [.ref 56, .int x1] h (m_X0_isKnownGood x1 h) := MI.of (by decide) rfl rfl (Nat.le_of_ble_eq_true rfl) (w_X0_isKnownGood x1 h)
set_option maxHeartbeats 4000000 in
set_option maxRecDepth 100000 in
theorem w_X0_breaks_b_24 {dd : Nat} (rec : Int32 → AHp → Option (Int32 × AHp)) (hrec : ∀ (x1 : Int32) (h : AHp), MI QX0_breaks (dd + 40) [.ref 56, .int x1] h (rec x1 h)) : ∀ (f : Nat) (x1 : Int32) (x2 : Int32) (h : AHp), WO tvI QX0_breaks (dd + 41) 24 [(0, .ref 56), (1, .int x1), (2, .int x2)] [] h (m_X0_breaks_b_24 rec f x1 x2 h) := by
  intro f
  induction f with
  | zero => intro x1 x2 h; exact z_none
  | succ f ih =>
    intro x1 x2 h
    rw [m_X0_breaks_b_24]
    refine z_iload_n dX0_breaks_24 2 rfl ?_
    refine z_aload_n dX0_breaks_25 0 rfl ?_
    refine z_getI fX0_90 kc_56 rfl dX0_breaks_26 ?_
    refine z_ic_ge (tgt := 83) dX0_breaks_29 (by decide) ?_ ?_
    · refine z_aload_n dX0_breaks_83 0 rfl ?_
      refine z_iload_n dX0_breaks_84 1 rfl ?_
      refine z_callVV dX0_breaks_85 (M_X0_rememberGood _ _) bX0_rememberGood lX0_114 kc_56 rfl rfl (Nat.le_of_ble_eq_true rfl) (by omega) (fun r1 h2 => ?_)
      refine z_iconst (v := 0) dX0_breaks_88 (by decide) ?_
      exact z_zret dX0_breaks_89 rfl (Or.inl rfl)
    · refine z_iload_n dX0_breaks_32 2 rfl ?_
      refine z_iconst (v := 4) dX0_breaks_33 (by decide) ?_
      refine z_ic_ge (tgt := 83) dX0_breaks_34 (by decide) ?_ ?_
      · refine z_aload_n dX0_breaks_83 0 rfl ?_
        refine z_iload_n dX0_breaks_84 1 rfl ?_
        refine z_callVV dX0_breaks_85 (M_X0_rememberGood _ _) bX0_rememberGood lX0_114 kc_56 rfl rfl (Nat.le_of_ble_eq_true rfl) (by omega) (fun r3 h4 => ?_)
        refine z_iconst (v := 0) dX0_breaks_88 (by decide) ?_
        exact z_zret dX0_breaks_89 rfl (Or.inl rfl)
      · refine z_aload_n dX0_breaks_37 0 rfl ?_
        refine z_getR (j := 60) fX0_21 kc_56 rfl rfl rfl (by decide) dX0_breaks_38 ?_
        refine z_iload_n dX0_breaks_41 1 rfl ?_
        refine z_aload_n dX0_breaks_42 0 rfl ?_
        refine z_getR (j := 61) fX0_24 kc_56 rfl rfl rfl (by decide) dX0_breaks_43 ?_
        refine z_iload_n dX0_breaks_46 2 rfl ?_
        refine z_gd (fun g5 => ?_)
        refine z_iald kc_61 dX0_breaks_47 g5 ?_
        refine z_gd (fun g7 => ?_)
        refine z_iast kc_60 dX0_breaks_48 g7 ?_
        refine z_lh (fun h6 => ?_)
        refine z_aload_n dX0_breaks_49 0 rfl ?_
        refine z_iload_n dX0_breaks_50 1 rfl ?_
        refine z_iload_n dX0_breaks_51 2 rfl ?_
        refine z_callVI dX0_breaks_52 (M_X0_advance _ _ _) bX0_advance lX0_107 kc_56 rfl rfl (Nat.le_of_ble_eq_true rfl) (by omega) (fun r8 h9 => ?_)
        refine z_if_ne (tgt := 65) dX0_breaks_55 (by decide) ?_ ?_
        · refine z_aload_n dX0_breaks_65 0 rfl ?_
          refine z_iload_n dX0_breaks_66 1 rfl ?_
          refine z_iconst (v := 1) dX0_breaks_67 (by decide) ?_
          refine z_iadd dX0_breaks_68 ?_
          refine z_callVI dX0_breaks_69 (hrec _ _) bX0_breaks lX0_39 kc_56 rfl rfl (Nat.le_of_ble_eq_true rfl) (by omega) (fun r10 h11 => ?_)
          refine z_if_eq (tgt := 77) dX0_breaks_72 (by decide) ?_ ?_
          · refine z_iincL (lv2 := fun v12 => [(2, .int v12), (0, .ref 56), (1, .int x1)]) dX0_breaks_77 2 rfl rfl (Nat.le_of_ble_eq_true rfl) (fun _ => rfl) (fun v12 => ?_)
            refine z_goto (tgt := 24) dX0_breaks_80 (by decide) ?_
            exact z_sub [1, 2, 0] rfl (ih _ _ _)
          · refine z_iconst (v := 1) dX0_breaks_75 (by decide) ?_
            exact z_zret dX0_breaks_76 rfl (Or.inr rfl)
        · refine z_aload_n dX0_breaks_58 0 rfl ?_
          refine z_iload_n dX0_breaks_59 1 rfl ?_
          refine z_callVV dX0_breaks_60 (M_X0_fillBehind _ _) bX0_fillBehind lX0_111 kc_56 rfl rfl (Nat.le_of_ble_eq_true rfl) (by omega) (fun r13 h14 => ?_)
          refine z_iconst (v := 1) dX0_breaks_63 (by decide) ?_
          exact z_zret dX0_breaks_64 rfl (Or.inr rfl)
set_option maxHeartbeats 4000000 in
set_option maxRecDepth 100000 in
theorem w_X0_breaks_b {dd : Nat} (rec : Int32 → AHp → Option (Int32 × AHp)) (hrec : ∀ (x1 : Int32) (h : AHp), MI QX0_breaks (dd + 40) [.ref 56, .int x1] h (rec x1 h)) (x1 : Int32) (h : AHp) : WO tvI QX0_breaks (dd + 41) 0 [(0, .ref 56), (1, .int x1)] [] h (m_X0_breaks_b rec x1 h) := by
  unfold m_X0_breaks_b
  refine z_iload_n dX0_breaks_0 1 rfl ?_
  refine z_if_lt (tgt := 20) dX0_breaks_1 (by decide) ?_ ?_
  · refine z_iconst (v := 0) dX0_breaks_20 (by decide) ?_
    exact z_zret dX0_breaks_21 rfl (Or.inl rfl)
  · refine z_iload_n dX0_breaks_4 1 rfl ?_
    refine z_aload_n dX0_breaks_5 0 rfl ?_
    refine z_getI fX0_56 kc_56 rfl dX0_breaks_6 ?_
    refine z_ic_ge (tgt := 20) dX0_breaks_9 (by decide) ?_ ?_
    · refine z_iconst (v := 0) dX0_breaks_20 (by decide) ?_
      exact z_zret dX0_breaks_21 rfl (Or.inl rfl)
    · refine z_aload_n dX0_breaks_12 0 rfl ?_
      refine z_iload_n dX0_breaks_13 1 rfl ?_
      refine z_callVI dX0_breaks_14 (M_X0_isKnownGood _ _) bX0_isKnownGood lX0_104 kc_56 rfl rfl (Nat.le_of_ble_eq_true rfl) (by omega) (fun r15 h16 => ?_)
      refine z_if_eq (tgt := 22) dX0_breaks_17 (by decide) ?_ ?_
      · refine z_iconst (v := 0) dX0_breaks_22 (by decide) ?_
        refine z_istore_n (lv2 := [(2, .int 0), (0, .ref 56), (1, .int x1)]) dX0_breaks_23 (Nat.le_of_ble_eq_true rfl) rfl ?_
        exact z_sub [1, 2, 0] rfl (w_X0_breaks_b_24 rec hrec FU _ _ _)
      · refine z_iconst (v := 0) dX0_breaks_20 (by decide) ?_
        exact z_zret dX0_breaks_21 rfl (Or.inl rfl)
theorem M_X0_breaks_b {dd : Nat} (rec : Int32 → AHp → Option (Int32 × AHp)) (hrec : ∀ (x1 : Int32) (h : AHp), MI QX0_breaks (dd + 40) [.ref 56, .int x1] h (rec x1 h)) (x1 : Int32) (h : AHp) : MI QX0_breaks (dd + 41) [.ref 56, .int x1] h (m_X0_breaks_b rec x1 h) := MI.of (by decide) rfl rfl (Nat.le_of_ble_eq_true rfl) (w_X0_breaks_b rec hrec x1 h)
theorem M_X0_breaks : ∀ (f : Nat) (x1 : Int32) (h : AHp), MI QX0_breaks (f + 40) [.ref 56, .int x1] h (m_X0_breaks f x1 h) := by
  intro f
  induction f with
  | zero => intro x1 h x0 h0 ho; cases ho
  | succ f ih =>
    intro x1 h
    rw [m_X0_breaks]
    have e := M_X0_breaks_b (dd := f) (m_X0_breaks f) ih x1 h
    rw [show f + 1 + 40 = f + 41 from by omega]
    exact e
set_option maxHeartbeats 4000000 in
set_option maxRecDepth 100000 in
theorem w_X9_letsAny_25 : ∀ (f : Nat) (x1 : Int32) (x2 : Int32) (x3 : Int32) (x4 : Int32) (x5 : Int32) (x6 : Int32) (h : AHp), WO tvI QX9_letsAny 3 25 [(0, .ref 3), (1, .int x1), (2, .int x2), (3, .int x3), (4, .int x4), (5, .int x5), (6, .int x6)] [] h (m_X9_letsAny_25 f x1 x2 x3 x4 x5 x6 h) := by
  intro f
  induction f with
  | zero => intro x1 x2 x3 x4 x5 x6 h; exact z_none
  | succ f ih =>
    intro x1 x2 x3 x4 x5 x6 h
    rw [m_X9_letsAny_25]
    refine z_iload dX9_letsAny_25 6 rfl ?_
    refine z_bipush (v := 12) dX9_letsAny_27 (by decide) ?_
    refine z_ic_ge (tgt := 93) dX9_letsAny_29 (by decide) ?_ ?_
    · refine z_iload dX9_letsAny_93 4 rfl ?_
      refine z_if_ne (tgt := 103) dX9_letsAny_95 (by decide) ?_ ?_
      · refine z_iload dX9_letsAny_103 5 rfl ?_
        refine z_goto (tgt := 117) dX9_letsAny_105 (by decide) ?_
        exact z_iret dX9_letsAny_117 rfl
      · refine z_iload dX9_letsAny_98 5 rfl ?_
        refine z_if_ne (tgt := 108) dX9_letsAny_100 (by decide) ?_ ?_
        · refine z_aload_n dX9_letsAny_108 0 rfl ?_
          refine z_iconst (v := 1) dX9_letsAny_109 (by decide) ?_
          refine z_iload_n dX9_letsAny_110 1 rfl ?_
          refine z_iconst (v := 0) dX9_letsAny_111 (by decide) ?_
          refine z_iload dX9_letsAny_112 5 rfl ?_
          refine z_callVI dX9_letsAny_114 (M_X9_lets _ _ _ _ _) bX9_lets lX9_62 kc_3 rfl rfl (Nat.le_of_ble_eq_true rfl) (Nat.le_of_ble_eq_true rfl) (fun r1 h2 => ?_)
          exact z_iret dX9_letsAny_117 rfl
        · refine z_iload dX9_letsAny_103 5 rfl ?_
          refine z_goto (tgt := 117) dX9_letsAny_105 (by decide) ?_
          exact z_iret dX9_letsAny_117 rfl
    · refine z_iload_n dX9_letsAny_32 2 rfl ?_
      refine z_iload dX9_letsAny_33 6 rfl ?_
      refine z_ishr dX9_letsAny_35 ?_
      refine z_iconst (v := 1) dX9_letsAny_36 (by decide) ?_
      refine z_iand dX9_letsAny_37 ?_
      refine z_if_eq (tgt := 87) dX9_letsAny_38 (by decide) ?_ ?_
      · refine z_iincL (lv2 := fun v3 => [(6, .int v3), (0, .ref 3), (1, .int x1), (2, .int x2), (3, .int x3), (4, .int x4), (5, .int x5)]) dX9_letsAny_87 6 rfl rfl (Nat.le_of_ble_eq_true rfl) (fun _ => rfl) (fun v3 => ?_)
        refine z_goto (tgt := 25) dX9_letsAny_90 (by decide) ?_
        exact z_sub [1, 2, 3, 4, 5, 6, 0] rfl (ih _ _ _ _ _ _ _)
      · refine z_aload_n dX9_letsAny_41 0 rfl ?_
        refine z_getR (j := 4) fX9_9 kc_3 rfl rfl rfl (by decide) dX9_letsAny_42 ?_
        refine z_iload dX9_letsAny_45 6 rfl ?_
        refine z_gd (fun g4 => ?_)
        refine z_iald kc_4 dX9_letsAny_47 g4 ?_
        refine z_iload_n dX9_letsAny_48 3 rfl ?_
        refine z_iand dX9_letsAny_49 ?_
        refine z_iload dX9_letsAny_50 5 rfl ?_
        refine z_iconst (v := -1) dX9_letsAny_52 (by decide) ?_
        refine z_ixor dX9_letsAny_53 ?_
        refine z_iand dX9_letsAny_54 ?_
        refine z_istoreL (lv2 := fun v5 => [(7, .int v5), (0, .ref 3), (1, .int x1), (2, .int x2), (3, .int x3), (4, .int x4), (5, .int x5), (6, .int x6)]) dX9_letsAny_55 (Nat.le_of_ble_eq_true rfl) (fun _ => rfl) (fun v5 => ?_)
        refine z_iload dX9_letsAny_57 6 rfl ?_
        refine z_iload dX9_letsAny_59 5 rfl ?_
        refine z_if_eq (tgt := 82) dX9_letsAny_61 (by decide) ?_ ?_
        · refine z_iload dX9_letsAny_82 0 rfl ?_
          refine z_ior dX9_letsAny_84 ?_
          refine z_istoreL (lv2 := fun v6 => [(5, .int v6), (7, .int v5), (0, .ref 3), (1, .int x1), (2, .int x2), (3, .int x3), (4, .int x4), (6, .int x6)]) dX9_letsAny_85 (Nat.le_of_ble_eq_true rfl) (fun _ => rfl) (fun v6 => ?_)
          refine z_iincL (lv2 := fun v7 => [(6, .int v7), (5, .int v6), (7, .int v5), (0, .ref 3), (1, .int x1), (2, .int x2), (3, .int x3), (4, .int x4)]) dX9_letsAny_87 7 rfl rfl (Nat.le_of_ble_eq_true rfl) (fun _ => rfl) (fun v7 => ?_)
          refine z_goto (tgt := 25) dX9_letsAny_90 (by decide) ?_
          exact z_sub [3, 4, 5, 6, 7, 1, 0] rfl (ih _ _ _ _ _ _ _)
        · refine z_iload dX9_letsAny_64 0 rfl ?_
          refine z_if_eq (tgt := 82) dX9_letsAny_66 (by decide) ?_ ?_
          · refine z_iload dX9_letsAny_82 0 rfl ?_
            refine z_ior dX9_letsAny_84 ?_
            refine z_istoreL (lv2 := fun v8 => [(5, .int v8), (7, .int v5), (0, .ref 3), (1, .int x1), (2, .int x2), (3, .int x3), (4, .int x4), (6, .int x6)]) dX9_letsAny_85 (Nat.le_of_ble_eq_true rfl) (fun _ => rfl) (fun v8 => ?_)
            refine z_iincL (lv2 := fun v9 => [(6, .int v9), (5, .int v8), (7, .int v5), (0, .ref 3), (1, .int x1), (2, .int x2), (3, .int x3), (4, .int x4)]) dX9_letsAny_87 7 rfl rfl (Nat.le_of_ble_eq_true rfl) (fun _ => rfl) (fun v9 => ?_)
            refine z_goto (tgt := 25) dX9_letsAny_90 (by decide) ?_
            exact z_sub [3, 4, 5, 6, 7, 1, 0] rfl (ih _ _ _ _ _ _ _)
          · refine z_aload_n dX9_letsAny_69 1 rfl ?_
            refine z_iconst (v := 1) dX9_letsAny_70 (by decide) ?_
            refine z_iload_n dX9_letsAny_71 2 rfl ?_
            refine z_iload dX9_letsAny_72 7 rfl ?_
            refine z_iload dX9_letsAny_74 0 rfl ?_
            refine z_callVI dX9_letsAny_76 (M_X9_lets _ _ _ _ _) bX9_lets lX9_62 kc_3 rfl rfl (Nat.le_of_ble_eq_true rfl) (Nat.le_of_ble_eq_true rfl) (fun r10 h11 => ?_)
            refine z_goto (tgt := 84) dX9_letsAny_79 (by decide) ?_
            refine z_ior dX9_letsAny_84 ?_
            refine z_istoreL (lv2 := fun v12 => [(5, .int v12), (7, .int v5), (0, .ref 3), (1, .int x1), (2, .int x2), (3, .int x3), (4, .int x4), (6, .int x6)]) dX9_letsAny_85 (Nat.le_of_ble_eq_true rfl) (fun _ => rfl) (fun v12 => ?_)
            refine z_iincL (lv2 := fun v13 => [(6, .int v13), (5, .int v12), (7, .int v5), (0, .ref 3), (1, .int x1), (2, .int x2), (3, .int x3), (4, .int x4)]) dX9_letsAny_87 7 rfl rfl (Nat.le_of_ble_eq_true rfl) (fun _ => rfl) (fun v13 => ?_)
            refine z_goto (tgt := 25) dX9_letsAny_90 (by decide) ?_
            exact z_sub [3, 4, 5, 6, 7, 1, 0] rfl (ih _ _ _ _ _ _ _)
set_option maxHeartbeats 4000000 in
set_option maxRecDepth 100000 in
theorem w_X9_letsAny (x1 : Int32) (x2 : Int32) (x3 : Int32) (h : AHp) : WO tvI QX9_letsAny 3 0 [(0, .ref 3), (1, .int x1), (2, .int x2), (3, .int x3)] [] h (m_X9_letsAny x1 x2 x3 h) := by
  unfold m_X9_letsAny
  refine z_aload_n dX9_letsAny_0 0 rfl ?_
  refine z_gd (fun g14 => ?_)
  refine z_getM fX9_24 kc_3 rfl rfl (law_ne g14) dX9_letsAny_1 ?_
  refine z_getIN fX9_45 (law_k g14) rfl dX9_letsAny_4 ?_
  refine z_iconst (v := 2) dX9_letsAny_7 (by decide) ?_
  refine z_iand dX9_letsAny_8 ?_
  refine z_if_eq (tgt := 16) dX9_letsAny_9 (by decide) ?_ ?_
  · refine z_iconst (v := 0) dX9_letsAny_16 (by decide) ?_
    refine z_istore (lv2 := [(4, .int 0), (0, .ref 3), (1, .int x1), (2, .int x2), (3, .int x3)]) dX9_letsAny_17 (Nat.le_of_ble_eq_true rfl) rfl ?_
    refine z_iconst (v := 0) dX9_letsAny_19 (by decide) ?_
    refine z_istore (lv2 := [(5, .int 0), (4, .int 0), (0, .ref 3), (1, .int x1), (2, .int x2), (3, .int x3)]) dX9_letsAny_20 (Nat.le_of_ble_eq_true rfl) rfl ?_
    refine z_iconst (v := 0) dX9_letsAny_22 (by decide) ?_
    refine z_istore (lv2 := [(6, .int 0), (5, .int 0), (4, .int 0), (0, .ref 3), (1, .int x1), (2, .int x2), (3, .int x3)]) dX9_letsAny_23 (Nat.le_of_ble_eq_true rfl) rfl ?_
    exact z_sub [3, 4, 5, 6, 2, 1, 0] rfl (w_X9_letsAny_25 FU _ _ _ _ _ _ _)
  · refine z_iconst (v := 1) dX9_letsAny_12 (by decide) ?_
    refine z_goto (tgt := 17) dX9_letsAny_13 (by decide) ?_
    refine z_istore (lv2 := [(4, .int 1), (0, .ref 3), (1, .int x1), (2, .int x2), (3, .int x3)]) dX9_letsAny_17 (Nat.le_of_ble_eq_true rfl) rfl ?_
    refine z_iconst (v := 0) dX9_letsAny_19 (by decide) ?_
    refine z_istore (lv2 := [(5, .int 0), (4, .int 1), (0, .ref 3), (1, .int x1), (2, .int x2), (3, .int x3)]) dX9_letsAny_20 (Nat.le_of_ble_eq_true rfl) rfl ?_
    refine z_iconst (v := 0) dX9_letsAny_22 (by decide) ?_
    refine z_istore (lv2 := [(6, .int 0), (5, .int 0), (4, .int 1), (0, .ref 3), (1, .int x1), (2, .int x2), (3, .int x3)]) dX9_letsAny_23 (Nat.le_of_ble_eq_true rfl) rfl ?_
    exact z_sub [3, 4, 5, 6, 2, 1, 0] rfl (w_X9_letsAny_25 FU _ _ _ _ _ _ _)
theorem M_X9_letsAny (x1 : Int32) (x2 : Int32) (x3 : Int32) (h : AHp) : MI QX9_letsAny 3 [.ref 3, .int x1, .int x2, .int x3] h (m_X9_letsAny x1 x2 x3 h) := MI.of (by decide) rfl rfl (Nat.le_of_ble_eq_true rfl) (w_X9_letsAny x1 x2 x3 h)
set_option maxHeartbeats 4000000 in
set_option maxRecDepth 100000 in
theorem w_X6_value_b_197 {dd : Nat} (rec : Int32 → Int32 → Int32 → AHp → Option (Int32 × AHp)) (hrec : ∀ (x1 : Int32) (x2 : Int32) (x3 : Int32) (h : AHp), MI QX6_value (dd + 40) [.ref 62, .int x1, .int x2, .int x3] h (rec x1 x2 x3 h)) : ∀ (f : Nat) (x1 : Int32) (x2 : Int32) (x4 : Int32) (x7 : Int32) (x8 : Int32) (x9 : Int32) (h : AHp), WO tvI QX6_value (dd + 41) 197 [(0, .ref 62), (1, .int x1), (2, .int x2), (4, .int x4), (7, .int x7), (8, .int x8), (9, .int x9)] [] h (m_X6_value_b_197 rec f x1 x2 x4 x7 x8 x9 h) := by
  intro f
  induction f with
  | zero => intro x1 x2 x4 x7 x8 x9 h; exact z_none
  | succ f ih =>
    intro x1 x2 x4 x7 x8 x9 h
    rw [m_X6_value_b_197]
    refine z_iload dX6_value_197 6 rfl ?_
    refine z_bipush (v := 24) dX6_value_199 (by decide) ?_
    refine z_ic_gt (tgt := 249) dX6_value_201 (by decide) ?_ ?_
    · refine z_aload_n dX6_value_249 0 rfl ?_
      refine z_getR (j := 31) fX6_15 kc_62 rfl rfl rfl (by decide) dX6_value_250 ?_
      refine z_iload dX6_value_253 3 rfl ?_
      refine z_iload dX6_value_255 5 rfl ?_
      refine z_callVV dX6_value_257 (M_X3_put _ _ _) bX3_put lX6_114 kc_31 rfl rfl (Nat.le_of_ble_eq_true rfl) (by omega) (fun r1 h2 => ?_)
      refine z_iload dX6_value_260 5 rfl ?_
      exact z_iret dX6_value_262 rfl
    · refine z_iload dX6_value_204 5 rfl ?_
      refine z_iconst (v := 1) dX6_value_206 (by decide) ?_
      refine z_ic_ge (tgt := 249) dX6_value_207 (by decide) ?_ ?_
      · refine z_aload_n dX6_value_249 0 rfl ?_
        refine z_getR (j := 31) fX6_15 kc_62 rfl rfl rfl (by decide) dX6_value_250 ?_
        refine z_iload dX6_value_253 3 rfl ?_
        refine z_iload dX6_value_255 5 rfl ?_
        refine z_callVV dX6_value_257 (M_X3_put _ _ _) bX3_put lX6_114 kc_31 rfl rfl (Nat.le_of_ble_eq_true rfl) (by omega) (fun r3 h4 => ?_)
        refine z_iload dX6_value_260 5 rfl ?_
        exact z_iret dX6_value_262 rfl
      · refine z_iload dX6_value_210 4 rfl ?_
        refine z_iload dX6_value_212 6 rfl ?_
        refine z_ishr dX6_value_214 ?_
        refine z_iconst (v := 1) dX6_value_215 (by decide) ?_
        refine z_iand dX6_value_216 ?_
        refine z_if_eq (tgt := 239) dX6_value_217 (by decide) ?_ ?_
        · refine z_iload dX6_value_239 5 rfl ?_
          refine z_istore (lv2 := [(8, .int x8), (0, .ref 62), (1, .int x1), (2, .int x2), (4, .int x4), (7, .int x7), (9, .int x9)]) dX6_value_241 (Nat.le_of_ble_eq_true rfl) rfl ?_
          refine z_iincL (lv2 := fun v5 => [(9, .int v5), (8, .int x8), (0, .ref 62), (1, .int x1), (2, .int x2), (4, .int x4), (7, .int x7)]) dX6_value_243 6 rfl rfl (Nat.le_of_ble_eq_true rfl) (fun _ => rfl) (fun v5 => ?_)
          refine z_goto (tgt := 197) dX6_value_246 (by decide) ?_
          exact z_sub [2, 3, 4, 5, 6, 1, 0] rfl (ih _ _ _ _ _ _ _)
        · refine z_iload dX6_value_220 5 rfl ?_
          refine z_aload_n dX6_value_222 0 rfl ?_
          refine z_iload_n dX6_value_223 1 rfl ?_
          refine z_iconst (v := 1) dX6_value_224 (by decide) ?_
          refine z_iadd dX6_value_225 ?_
          refine z_iload dX6_value_226 6 rfl ?_
          refine z_iload_n dX6_value_228 2 rfl ?_
          refine z_callVI dX6_value_229 (hrec _ _ _ _) bX6_value lX6_85 kc_62 rfl rfl (Nat.le_of_ble_eq_true rfl) (by omega) (fun r6 h7 => ?_)
          refine z_ineg dX6_value_232 ?_
          refine z_mmax dX6_value_233 lX6_30 w_mmax (by omega) (Nat.le_of_ble_eq_true rfl) ?_
          refine z_goto (tgt := 241) dX6_value_236 (by decide) ?_
          refine z_istoreL (lv2 := fun v8 => [(8, .int v8), (0, .ref 62), (1, .int x1), (2, .int x2), (4, .int x4), (7, .int x7), (9, .int x9)]) dX6_value_241 (Nat.le_of_ble_eq_true rfl) (fun _ => rfl) (fun v8 => ?_)
          refine z_iincL (lv2 := fun v9 => [(9, .int v9), (8, .int v8), (0, .ref 62), (1, .int x1), (2, .int x2), (4, .int x4), (7, .int x7)]) dX6_value_243 6 rfl rfl (Nat.le_of_ble_eq_true rfl) (fun _ => rfl) (fun v9 => ?_)
          refine z_goto (tgt := 197) dX6_value_246 (by decide) ?_
          exact z_sub [2, 3, 4, 5, 6, 1, 0] rfl (ih _ _ _ _ _ _ _)
set_option maxHeartbeats 4000000 in
set_option maxRecDepth 100000 in
theorem w_X6_value_b_163 {dd : Nat} (rec : Int32 → Int32 → Int32 → AHp → Option (Int32 × AHp)) (hrec : ∀ (x1 : Int32) (x2 : Int32) (x3 : Int32) (h : AHp), MI QX6_value (dd + 40) [.ref 62, .int x1, .int x2, .int x3] h (rec x1 x2 x3 h)) (x1 : Int32) (x2 : Int32) (x4 : Int32) (s1 : Int32) (s2 : Int32) (h : AHp) : WO tvI QX6_value (dd + 41) 163 [(0, .ref 62), (1, .int x1), (2, .int x2), (4, .int x4)] [.int s2, .int s1, .ref 3] h (m_X6_value_b_163 rec x1 x2 x4 s1 s2 h) := by
  unfold m_X6_value_b_163
  refine z_ldc dX6_value_163 kX6_110 ?_
  refine z_callVI dX6_value_165 (M_X9_letsAny _ _ _ _) bX9_letsAny lX6_111 kc_3 rfl rfl (Nat.le_of_ble_eq_true rfl) (by omega) (fun r10 h11 => ?_)
  refine z_istore (lv2 := [(7, .int r10), (0, .ref 62), (1, .int x1), (2, .int x2), (4, .int x4)]) dX6_value_168 (Nat.le_of_ble_eq_true rfl) rfl ?_
  refine z_iconst (v := -1) dX6_value_170 (by decide) ?_
  refine z_istore (lv2 := [(8, .int (-1)), (7, .int r10), (0, .ref 62), (1, .int x1), (2, .int x2), (4, .int x4)]) dX6_value_171 (Nat.le_of_ble_eq_true rfl) rfl ?_
  refine z_iload dX6_value_173 1 rfl ?_
  refine z_if_eq (tgt := 194) dX6_value_175 (by decide) ?_ ?_
  · refine z_iconst (v := 1) dX6_value_194 (by decide) ?_
    refine z_istore (lv2 := [(9, .int 1), (8, .int (-1)), (7, .int r10), (0, .ref 62), (1, .int x1), (2, .int x2), (4, .int x4)]) dX6_value_195 (Nat.le_of_ble_eq_true rfl) rfl ?_
    exact z_sub [3, 4, 5, 6, 2, 1, 0] rfl (w_X6_value_b_197 rec hrec FU _ _ _ _ _ _ _)
  · refine z_iload_n dX6_value_178 3 rfl ?_
    refine z_aload_n dX6_value_179 2 rfl ?_
    refine z_getI fX6_33 kc_62 rfl dX6_value_180 ?_
    refine z_iconst (v := 1) dX6_value_183 (by decide) ?_
    refine z_isub dX6_value_184 ?_
    refine z_ic_ne (tgt := 194) dX6_value_185 (by decide) ?_ ?_
    · refine z_iconst (v := 1) dX6_value_194 (by decide) ?_
      refine z_istore (lv2 := [(9, .int 1), (8, .int (-1)), (7, .int r10), (0, .ref 62), (1, .int x1), (2, .int x2), (4, .int x4)]) dX6_value_195 (Nat.le_of_ble_eq_true rfl) rfl ?_
      exact z_sub [3, 4, 5, 6, 2, 1, 0] rfl (w_X6_value_b_197 rec hrec FU _ _ _ _ _ _ _)
    · refine z_iconst (v := 0) dX6_value_188 (by decide) ?_
      refine z_istore (lv2 := [(8, .int 0), (7, .int r10), (0, .ref 62), (1, .int x1), (2, .int x2), (4, .int x4)]) dX6_value_189 (Nat.le_of_ble_eq_true rfl) rfl ?_
      refine z_goto (tgt := 249) dX6_value_191 (by decide) ?_
      refine z_aload_n dX6_value_249 2 rfl ?_
      refine z_getR (j := 31) fX6_15 kc_62 rfl rfl rfl (by decide) dX6_value_250 ?_
      refine z_iload dX6_value_253 5 rfl ?_
      refine z_iload dX6_value_255 0 rfl ?_
      refine z_callVV dX6_value_257 (M_X3_put _ _ _) bX3_put lX6_114 kc_31 rfl rfl (Nat.le_of_ble_eq_true rfl) (by omega) (fun r12 h13 => ?_)
      refine z_iload dX6_value_260 0 rfl ?_
      exact z_iret dX6_value_262 rfl
set_option maxHeartbeats 4000000 in
set_option maxRecDepth 100000 in
theorem w_X6_value_b_108 {dd : Nat} (rec : Int32 → Int32 → Int32 → AHp → Option (Int32 × AHp)) (hrec : ∀ (x1 : Int32) (x2 : Int32) (x3 : Int32) (h : AHp), MI QX6_value (dd + 40) [.ref 62, .int x1, .int x2, .int x3] h (rec x1 x2 x3 h)) (x1 : Int32) (x2 : Int32) (x3 : Int32) (x4 : Int32) (x5 : Int32) (s0 : Int32) (h : AHp) : WO tvI QX6_value (dd + 41) 108 [(0, .ref 62), (1, .int x1), (2, .int x2), (3, .int x3), (4, .int x4), (5, .int x5)] [.int s0] h (m_X6_value_b_108 rec x1 x2 x3 x4 x5 s0 h) := by
  unfold m_X6_value_b_108
  refine z_istore (lv2 := [(6, .int s0), (0, .ref 62), (1, .int x1), (2, .int x2), (3, .int x3), (4, .int x4), (5, .int x5)]) dX6_value_108 (Nat.le_of_ble_eq_true rfl) rfl ?_
  refine z_aload_n dX6_value_110 1 rfl ?_
  refine z_getR (j := 3) fX6_9 kc_62 rfl rfl rfl (by decide) dX6_value_111 ?_
  refine z_iload_n dX6_value_114 3 rfl ?_
  refine z_iload_n dX6_value_115 4 rfl ?_
  refine z_iload dX6_value_116 0 rfl ?_
  refine z_aload_n dX6_value_118 1 rfl ?_
  refine z_getI fX6_58 kc_62 rfl dX6_value_119 ?_
  refine z_iload_n dX6_value_122 2 rfl ?_
  refine z_iadd dX6_value_123 ?_
  refine z_callVV dX6_value_124 (M_X9_stand _ _ _ _ _) bX9_stand lX6_92 kc_3 rfl rfl (Nat.le_of_ble_eq_true rfl) (by omega) (fun r14 h15 => ?_)
  refine z_aload_n dX6_value_127 1 rfl ?_
  refine z_getR (j := 3) fX6_9 kc_62 rfl rfl rfl (by decide) dX6_value_128 ?_
  refine z_iload dX6_value_131 6 rfl ?_
  refine z_if_eq (tgt := 143) dX6_value_133 (by decide) ?_ ?_
  · refine z_aload_n dX6_value_143 1 rfl ?_
    refine z_getI fX6_79 kc_62 rfl dX6_value_144 ?_
    refine z_iload dX6_value_147 6 rfl ?_
    refine z_if_eq (tgt := 159) dX6_value_149 (by decide) ?_ ?_
    · refine z_aload_n dX6_value_159 1 rfl ?_
      refine z_getI fX6_82 kc_62 rfl dX6_value_160 ?_
      exact z_sub [1, 2, 3, 5] rfl (w_X6_value_b_163 rec hrec _ _ _ _ _ _)
    · refine z_aload_n dX6_value_152 1 rfl ?_
      refine z_getI fX6_76 kc_62 rfl dX6_value_153 ?_
      refine z_goto (tgt := 163) dX6_value_156 (by decide) ?_
      exact z_sub [1, 2, 3, 5] rfl (w_X6_value_b_163 rec hrec _ _ _ _ _ _)
  · refine z_aload_n dX6_value_136 1 rfl ?_
    refine z_getI fX6_73 kc_62 rfl dX6_value_137 ?_
    refine z_goto (tgt := 147) dX6_value_140 (by decide) ?_
    refine z_iload dX6_value_147 6 rfl ?_
    refine z_if_eq (tgt := 159) dX6_value_149 (by decide) ?_ ?_
    · refine z_aload_n dX6_value_159 1 rfl ?_
      refine z_getI fX6_82 kc_62 rfl dX6_value_160 ?_
      exact z_sub [1, 2, 3, 5] rfl (w_X6_value_b_163 rec hrec _ _ _ _ _ _)
    · refine z_aload_n dX6_value_152 1 rfl ?_
      refine z_getI fX6_76 kc_62 rfl dX6_value_153 ?_
      refine z_goto (tgt := 163) dX6_value_156 (by decide) ?_
      exact z_sub [1, 2, 3, 5] rfl (w_X6_value_b_163 rec hrec _ _ _ _ _ _)
set_option maxHeartbeats 4000000 in
set_option maxRecDepth 100000 in
theorem w_X6_value_b_79 {dd : Nat} (rec : Int32 → Int32 → Int32 → AHp → Option (Int32 × AHp)) (hrec : ∀ (x1 : Int32) (x2 : Int32) (x3 : Int32) (h : AHp), MI QX6_value (dd + 40) [.ref 62, .int x1, .int x2, .int x3] h (rec x1 x2 x3 h)) (x1 : Int32) (x2 : Int32) (x3 : Int32) (x4 : Int32) (s0 : Int32) (h : AHp) : WO tvI QX6_value (dd + 41) 79 [(0, .ref 62), (1, .int x1), (2, .int x2), (3, .int x3), (4, .int x4)] [.int s0] h (m_X6_value_b_79 rec x1 x2 x3 x4 s0 h) := by
  unfold m_X6_value_b_79
  refine z_istore (lv2 := [(5, .int s0), (0, .ref 62), (1, .int x1), (2, .int x2), (3, .int x3), (4, .int x4)]) dX6_value_79 (Nat.le_of_ble_eq_true rfl) rfl ?_
  refine z_iload_n dX6_value_81 2 rfl ?_
  refine z_if_ne (tgt := 92) dX6_value_82 (by decide) ?_ ?_
  · refine z_iload dX6_value_92 0 rfl ?_
    refine z_if_eq (tgt := 104) dX6_value_94 (by decide) ?_ ?_
    · refine z_aload_n dX6_value_104 1 rfl ?_
      refine z_getI fX6_73 kc_62 rfl dX6_value_105 ?_
      exact z_sub [1, 2, 3, 4, 5, 0] rfl (w_X6_value_b_108 rec hrec _ _ _ _ _ _ _)
    · refine z_aload_n dX6_value_97 1 rfl ?_
      refine z_getI fX6_79 kc_62 rfl dX6_value_98 ?_
      refine z_goto (tgt := 108) dX6_value_101 (by decide) ?_
      exact z_sub [1, 2, 3, 4, 5, 0] rfl (w_X6_value_b_108 rec hrec _ _ _ _ _ _ _)
  · refine z_aload_n dX6_value_85 1 rfl ?_
    refine z_getI fX6_46 kc_62 rfl dX6_value_86 ?_
    refine z_goto (tgt := 108) dX6_value_89 (by decide) ?_
    exact z_sub [1, 2, 3, 4, 5, 0] rfl (w_X6_value_b_108 rec hrec _ _ _ _ _ _ _)
set_option maxHeartbeats 4000000 in
set_option maxRecDepth 100000 in
theorem w_X6_value_b_43 {dd : Nat} (rec : Int32 → Int32 → Int32 → AHp → Option (Int32 × AHp)) (hrec : ∀ (x1 : Int32) (x2 : Int32) (x3 : Int32) (h : AHp), MI QX6_value (dd + 40) [.ref 62, .int x1, .int x2, .int x3] h (rec x1 x2 x3 h)) (x1 : Int32) (x2 : Int32) (x3 : Int32) (s0 : Int32) (s1 : Int32) (h : AHp) : WO tvI QX6_value (dd + 41) 43 [(0, .ref 62), (1, .int x1), (2, .int x2), (3, .int x3)] [.int s1, .int s0] h (m_X6_value_b_43 rec x1 x2 x3 s0 s1 h) := by
  unfold m_X6_value_b_43
  refine z_iadd dX6_value_43 ?_
  refine z_istoreL (lv2 := fun v16 => [(4, .int v16), (0, .ref 62), (1, .int x1), (2, .int x2), (3, .int x3)]) dX6_value_44 (Nat.le_of_ble_eq_true rfl) (fun _ => rfl) (fun v16 => ?_)
  refine z_aload_n dX6_value_46 1 rfl ?_
  refine z_getR (j := 31) fX6_15 kc_62 rfl rfl rfl (by decide) dX6_value_47 ?_
  refine z_iload dX6_value_50 0 rfl ?_
  refine z_callVI dX6_value_52 (M_X3_has _ _) bX3_has lX6_103 kc_31 rfl rfl (Nat.le_of_ble_eq_true rfl) (by omega) (fun r17 h18 => ?_)
  refine z_if_eq (tgt := 68) dX6_value_55 (by decide) ?_ ?_
  · refine z_iload_n dX6_value_68 2 rfl ?_
    refine z_iconst (v := 2) dX6_value_69 (by decide) ?_
    refine z_irem dX6_value_70 (by decide) ?_
    refine z_if_ne (tgt := 78) dX6_value_71 (by decide) ?_ ?_
    · refine z_iconst (v := 0) dX6_value_78 (by decide) ?_
      exact z_sub [1, 2, 3, 4, 0] rfl (w_X6_value_b_79 rec hrec _ _ _ _ _ _)
    · refine z_iconst (v := 1) dX6_value_74 (by decide) ?_
      refine z_goto (tgt := 79) dX6_value_75 (by decide) ?_
      exact z_sub [1, 2, 3, 4, 0] rfl (w_X6_value_b_79 rec hrec _ _ _ _ _ _)
  · refine z_aload_n dX6_value_58 1 rfl ?_
    refine z_getR (j := 31) fX6_15 kc_62 rfl rfl rfl (by decide) dX6_value_59 ?_
    refine z_iload dX6_value_62 0 rfl ?_
    refine z_callVI dX6_value_64 (M_X3_get _ _) bX3_get lX6_107 kc_31 rfl rfl (Nat.le_of_ble_eq_true rfl) (by omega) (fun r19 h20 => ?_)
    exact z_iret dX6_value_67 rfl
set_option maxHeartbeats 4000000 in
set_option maxRecDepth 100000 in
theorem w_X6_value_b {dd : Nat} (rec : Int32 → Int32 → Int32 → AHp → Option (Int32 × AHp)) (hrec : ∀ (x1 : Int32) (x2 : Int32) (x3 : Int32) (h : AHp), MI QX6_value (dd + 40) [.ref 62, .int x1, .int x2, .int x3] h (rec x1 x2 x3 h)) (x1 : Int32) (x2 : Int32) (x3 : Int32) (h : AHp) : WO tvI QX6_value (dd + 41) 0 [(0, .ref 62), (1, .int x1), (2, .int x2), (3, .int x3)] [] h (m_X6_value_b rec x1 x2 x3 h) := by
  unfold m_X6_value_b
  refine z_iload_n dX6_value_0 1 rfl ?_
  refine z_aload_n dX6_value_1 0 rfl ?_
  refine z_getI fX6_33 kc_62 rfl dX6_value_2 ?_
  refine z_ic_lt (tgt := 10) dX6_value_5 (by decide) ?_ ?_
  · refine z_iload_n dX6_value_10 1 rfl ?_
    refine z_sipush (v := 625) dX6_value_11 (by decide) ?_
    refine z_imul dX6_value_14 ?_
    refine z_aload_n dX6_value_15 0 rfl ?_
    refine z_getI fX6_70 kc_62 rfl dX6_value_16 ?_
    refine z_if_eq (tgt := 29) dX6_value_19 (by decide) ?_ ?_
    · refine z_iconst (v := 0) dX6_value_29 (by decide) ?_
      refine z_iadd dX6_value_30 ?_
      refine z_aload_n dX6_value_31 0 rfl ?_
      refine z_getI fX6_66 kc_62 rfl dX6_value_32 ?_
      refine z_if_eq (tgt := 42) dX6_value_35 (by decide) ?_ ?_
      · refine z_iconst (v := 0) dX6_value_42 (by decide) ?_
        exact w_X6_value_b_43 rec hrec _ _ _ _ _ _
      · refine z_iload_n dX6_value_38 3 rfl ?_
        refine z_goto (tgt := 43) dX6_value_39 (by decide) ?_
        exact w_X6_value_b_43 rec hrec _ _ _ _ _ _
    · refine z_iload_n dX6_value_22 2 rfl ?_
      refine z_bipush (v := 25) dX6_value_23 (by decide) ?_
      refine z_imul dX6_value_25 ?_
      refine z_goto (tgt := 30) dX6_value_26 (by decide) ?_
      refine z_iadd dX6_value_30 ?_
      refine z_aload_n dX6_value_31 0 rfl ?_
      refine z_getI fX6_66 kc_62 rfl dX6_value_32 ?_
      refine z_if_eq (tgt := 42) dX6_value_35 (by decide) ?_ ?_
      · refine z_iconst (v := 0) dX6_value_42 (by decide) ?_
        exact w_X6_value_b_43 rec hrec _ _ _ _ _ _
      · refine z_iload_n dX6_value_38 3 rfl ?_
        refine z_goto (tgt := 43) dX6_value_39 (by decide) ?_
        exact w_X6_value_b_43 rec hrec _ _ _ _ _ _
  · refine z_iconst (v := 0) dX6_value_8 (by decide) ?_
    exact z_iret dX6_value_9 rfl
theorem M_X6_value_b {dd : Nat} (rec : Int32 → Int32 → Int32 → AHp → Option (Int32 × AHp)) (hrec : ∀ (x1 : Int32) (x2 : Int32) (x3 : Int32) (h : AHp), MI QX6_value (dd + 40) [.ref 62, .int x1, .int x2, .int x3] h (rec x1 x2 x3 h)) (x1 : Int32) (x2 : Int32) (x3 : Int32) (h : AHp) : MI QX6_value (dd + 41) [.ref 62, .int x1, .int x2, .int x3] h (m_X6_value_b rec x1 x2 x3 h) := MI.of (by decide) rfl rfl (Nat.le_of_ble_eq_true rfl) (w_X6_value_b rec hrec x1 x2 x3 h)
