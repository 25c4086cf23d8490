theorem M_X6_value : ∀ (f : Nat) (x1 : Int32) (x2 : Int32) (x3 : Int32) (h : AHp), MI QX6_value (f + 40) [.ref 62, .int x1, .int x2, .int x3] h (m_X6_value f x1 x2 x3 h) := by
  intro f
  induction f with
  | zero => intro x1 x2 x3 h x0 h0 ho; cases ho
  | succ f ih =>
    intro x1 x2 x3 h
    rw [m_X6_value]
    have e := M_X6_value_b (dd := f) (m_X6_value f) ih x1 x2 x3 h
    rw [show f + 1 + 40 = f + 41 from by omega]
    exact e
set_option maxHeartbeats 4000000 in
set_option maxRecDepth 100000 in
theorem w_X5_following_33 (x1 : Int32) (x2 : Int32) (x3 : Int32) (s0 : Int32) (s1 : Int32) (h : AHp) : WO tvI QX5_following 3 33 [(0, .ref 67), (1, .int x1), (2, .int x2), (3, .int x3)] [.int s1, .int s0] h (m_X5_following_33 x1 x2 x3 s0 s1 h) := by
  unfold m_X5_following_33
  refine z_iadd dX5_following_33 ?_
  refine z_istoreL (lv2 := fun v1 => [(4, .int v1), (0, .ref 67), (1, .int x1), (2, .int x2), (3, .int x3)]) dX5_following_34 (Nat.le_of_ble_eq_true rfl) (fun _ => rfl) (fun v1 => ?_)
  refine z_aload_n dX5_following_36 1 rfl ?_
  refine z_getR (j := 31) fX5_22 kc_67 rfl rfl rfl (by decide) dX5_following_37 ?_
  refine z_iload dX5_following_40 0 rfl ?_
  refine z_callVI dX5_following_42 (M_X3_has _ _) bX3_has lX5_79 kc_31 rfl rfl (Nat.le_of_ble_eq_true rfl) (Nat.le_of_ble_eq_true rfl) (fun r2 h3 => ?_)
  refine z_if_eq (tgt := 58) dX5_following_45 (by decide) ?_ ?_
  · refine z_aload_n dX5_following_58 1 rfl ?_
    refine z_getR (j := 3) fX5_18 kc_67 rfl rfl rfl (by decide) dX5_following_59 ?_
    refine z_iload_n dX5_following_62 3 rfl ?_
    refine z_iload_n dX5_following_63 4 rfl ?_
    refine z_iconst (v := 1) dX5_following_64 (by decide) ?_
    refine z_iload_n dX5_following_65 2 rfl ?_
    refine z_isub dX5_following_66 ?_
    refine z_aload_n dX5_following_67 1 rfl ?_
    refine z_getI fX5_48 kc_67 rfl dX5_following_68 ?_
    refine z_callVV dX5_following_71 (M_X9_stand _ _ _ _ _) bX9_stand lX5_88 kc_3 rfl rfl (Nat.le_of_ble_eq_true rfl) (Nat.le_of_ble_eq_true rfl) (fun r4 h5 => ?_)
    refine z_aload_n dX5_following_74 1 rfl ?_
    refine z_getR (j := 3) fX5_18 kc_67 rfl rfl rfl (by decide) dX5_following_75 ?_
    refine z_iconst (v := 1) dX5_following_78 (by decide) ?_
    refine z_iload_n dX5_following_79 2 rfl ?_
    refine z_aload_n dX5_following_80 1 rfl ?_
    refine z_getI fX5_45 kc_67 rfl dX5_following_81 ?_
    refine z_aload_n dX5_following_84 1 rfl ?_
    refine z_getR (j := 3) fX5_18 kc_67 rfl rfl rfl (by decide) dX5_following_85 ?_
    refine z_aload_n dX5_following_88 1 rfl ?_
    refine z_getI fX5_45 kc_67 rfl dX5_following_89 ?_
    refine z_callVI dX5_following_92 (M_X9_sizesOf _ _) bX9_sizesOf lX5_64 kc_3 rfl rfl (Nat.le_of_ble_eq_true rfl) (Nat.le_of_ble_eq_true rfl) (fun r6 h7 => ?_)
    refine z_callVI dX5_following_95 (M_X9_lets _ _ _ _ _) bX9_lets lX5_92 kc_3 rfl rfl (Nat.le_of_ble_eq_true rfl) (Nat.le_of_ble_eq_true rfl) (fun r8 h9 => ?_)
    refine z_istore (lv2 := [(5, .int r8), (4, .int v1), (0, .ref 67), (1, .int x1), (2, .int x2), (3, .int x3)]) dX5_following_98 (Nat.le_of_ble_eq_true rfl) rfl ?_
    refine z_aload_n dX5_following_100 2 rfl ?_
    refine z_getR (j := 31) fX5_22 kc_67 rfl rfl rfl (by decide) dX5_following_101 ?_
    refine z_iload dX5_following_104 1 rfl ?_
    refine z_iload dX5_following_106 0 rfl ?_
    refine z_callVV dX5_following_108 (M_X3_put _ _ _) bX3_put lX5_85 kc_31 rfl rfl (Nat.le_of_ble_eq_true rfl) (Nat.le_of_ble_eq_true rfl) (fun r10 h11 => ?_)
    refine z_iload dX5_following_111 0 rfl ?_
    exact z_iret dX5_following_113 rfl
  · refine z_aload_n dX5_following_48 1 rfl ?_
    refine z_getR (j := 31) fX5_22 kc_67 rfl rfl rfl (by decide) dX5_following_49 ?_
    refine z_iload dX5_following_52 0 rfl ?_
    refine z_callVI dX5_following_54 (M_X3_get _ _) bX3_get lX5_82 kc_31 rfl rfl (Nat.le_of_ble_eq_true rfl) (Nat.le_of_ble_eq_true rfl) (fun r12 h13 => ?_)
    exact z_iret dX5_following_57 rfl
set_option maxHeartbeats 4000000 in
set_option maxRecDepth 100000 in
theorem w_X5_following (x1 : Int32) (x2 : Int32) (x3 : Int32) (h : AHp) : WO tvI QX5_following 3 0 [(0, .ref 67), (1, .int x1), (2, .int x2), (3, .int x3)] [] h (m_X5_following x1 x2 x3 h) := by
  unfold m_X5_following
  refine z_iload_n dX5_following_0 1 rfl ?_
  refine z_sipush (v := 625) dX5_following_1 (by decide) ?_
  refine z_imul dX5_following_4 ?_
  refine z_aload_n dX5_following_5 0 rfl ?_
  refine z_getI fX5_57 kc_67 rfl dX5_following_6 ?_
  refine z_if_eq (tgt := 19) dX5_following_9 (by decide) ?_ ?_
  · refine z_iconst (v := 0) dX5_following_19 (by decide) ?_
    refine z_iadd dX5_following_20 ?_
    refine z_aload_n dX5_following_21 0 rfl ?_
    refine z_getI fX5_61 kc_67 rfl dX5_following_22 ?_
    refine z_if_eq (tgt := 32) dX5_following_25 (by decide) ?_ ?_
    · refine z_iconst (v := 0) dX5_following_32 (by decide) ?_
      exact w_X5_following_33 _ _ _ _ _ _
    · refine z_iload_n dX5_following_28 3 rfl ?_
      refine z_goto (tgt := 33) dX5_following_29 (by decide) ?_
      exact w_X5_following_33 _ _ _ _ _ _
  · refine z_iload_n dX5_following_12 2 rfl ?_
    refine z_bipush (v := 25) dX5_following_13 (by decide) ?_
    refine z_imul dX5_following_15 ?_
    refine z_goto (tgt := 20) dX5_following_16 (by decide) ?_
    refine z_iadd dX5_following_20 ?_
    refine z_aload_n dX5_following_21 0 rfl ?_
    refine z_getI fX5_61 kc_67 rfl dX5_following_22 ?_
    refine z_if_eq (tgt := 32) dX5_following_25 (by decide) ?_ ?_
    · refine z_iconst (v := 0) dX5_following_32 (by decide) ?_
      exact w_X5_following_33 _ _ _ _ _ _
    · refine z_iload_n dX5_following_28 3 rfl ?_
      refine z_goto (tgt := 33) dX5_following_29 (by decide) ?_
      exact w_X5_following_33 _ _ _ _ _ _
theorem M_X5_following (x1 : Int32) (x2 : Int32) (x3 : Int32) (h : AHp) : MI QX5_following 3 [.ref 67, .int x1, .int x2, .int x3] h (m_X5_following x1 x2 x3 h) := MI.of (by decide) rfl rfl (Nat.le_of_ble_eq_true rfl) (w_X5_following x1 x2 x3 h)
set_option maxHeartbeats 4000000 in
set_option maxRecDepth 100000 in
theorem w_X5_goesOn_b_226 {dd : Nat} (rec : Int32 → AHp → Option (Int32 × AHp)) (hrec : ∀ (x1 : Int32) (h : AHp), MI QX5_goesOn (dd + 40) [.ref 67, .int x1] h (rec x1 h)) : ∀ (f : Nat) (x1 : Int32) (x4 : Int32) (x5 : Int32) (x7 : Int32) (x8 : Int32) (h : AHp), WO tvI QX5_goesOn (dd + 41) 226 [(0, .ref 67), (1, .int x1), (4, .int x4), (5, .int x5), (7, .int x7), (8, .int x8)] [] h (m_X5_goesOn_b_226 rec f x1 x4 x5 x7 x8 h) := by
  intro f
  induction f with
  | zero => intro x1 x4 x5 x7 x8 h; exact z_none
  | succ f ih =>
    intro x1 x4 x5 x7 x8 h
    rw [m_X5_goesOn_b_226]
    refine z_iload dX5_goesOn_226 5 rfl ?_
    refine z_bipush (v := 24) dX5_goesOn_228 (by decide) ?_
    refine z_ic_gt (tgt := 274) dX5_goesOn_230 (by decide) ?_ ?_
    · refine z_aload_n dX5_goesOn_274 0 rfl ?_
      refine z_getR (j := 31) fX5_22 kc_67 rfl rfl rfl (by decide) dX5_goesOn_275 ?_
      refine z_iload dX5_goesOn_278 2 rfl ?_
      refine z_iload dX5_goesOn_280 3 rfl ?_
      refine z_callVV dX5_goesOn_282 (M_X3_put _ _ _) bX3_put lX5_85 kc_31 rfl rfl (Nat.le_of_ble_eq_true rfl) (by omega) (fun r1 h2 => ?_)
      refine z_iconst (v := 0) dX5_goesOn_285 (by decide) ?_
      exact z_zret dX5_goesOn_286 rfl (Or.inl rfl)
    · refine z_iload dX5_goesOn_233 4 rfl ?_
      refine z_if_eq (tgt := 274) dX5_goesOn_235 (by decide) ?_ ?_
      · refine z_aload_n dX5_goesOn_274 0 rfl ?_
        refine z_getR (j := 31) fX5_22 kc_67 rfl rfl rfl (by decide) dX5_goesOn_275 ?_
        refine z_iload dX5_goesOn_278 2 rfl ?_
        refine z_iload dX5_goesOn_280 3 rfl ?_
        refine z_callVV dX5_goesOn_282 (M_X3_put _ _ _) bX3_put lX5_85 kc_31 rfl rfl (Nat.le_of_ble_eq_true rfl) (by omega) (fun r3 h4 => ?_)
        refine z_iconst (v := 0) dX5_goesOn_285 (by decide) ?_
        exact z_zret dX5_goesOn_286 rfl (Or.inl rfl)
      · refine z_aload_n dX5_goesOn_238 0 rfl ?_
        refine z_getR (j := 68) fX5_9 kc_67 rfl rfl rfl (by decide) dX5_goesOn_239 ?_
        refine z_iload_n dX5_goesOn_242 1 rfl ?_
        refine z_iload dX5_goesOn_243 5 rfl ?_
        refine z_gd (fun g6 => ?_)
        refine z_iast kc_68 dX5_goesOn_245 g6 ?_
        refine z_lh (fun h5 => ?_)
        refine z_iload dX5_goesOn_246 4 rfl ?_
        refine z_iload dX5_goesOn_248 5 rfl ?_
        refine z_ishr dX5_goesOn_250 ?_
        refine z_iconst (v := 1) dX5_goesOn_251 (by decide) ?_
        refine z_iand dX5_goesOn_252 ?_
        refine z_if_eq (tgt := 268) dX5_goesOn_253 (by decide) ?_ ?_
        · refine z_iincL (lv2 := fun v7 => [(8, .int v7), (0, .ref 67), (1, .int x1), (4, .int x4), (5, .int x5), (7, .int x7)]) dX5_goesOn_268 5 rfl rfl (Nat.le_of_ble_eq_true rfl) (fun _ => rfl) (fun v7 => ?_)
          refine z_goto (tgt := 226) dX5_goesOn_271 (by decide) ?_
          exact z_sub [1, 2, 3, 4, 5, 0] rfl (ih _ _ _ _ _ _)
        · refine z_aload_n dX5_goesOn_256 0 rfl ?_
          refine z_iload_n dX5_goesOn_257 1 rfl ?_
          refine z_iconst (v := 1) dX5_goesOn_258 (by decide) ?_
          refine z_iadd dX5_goesOn_259 ?_
          refine z_callVI dX5_goesOn_260 (hrec _ _) bX5_goesOn lX5_75 kc_67 rfl rfl (Nat.le_of_ble_eq_true rfl) (by omega) (fun r8 h9 => ?_)
          refine z_if_eq (tgt := 268) dX5_goesOn_263 (by decide) ?_ ?_
          · refine z_iincL (lv2 := fun v10 => [(8, .int v10), (0, .ref 67), (1, .int x1), (4, .int x4), (5, .int x5), (7, .int x7)]) dX5_goesOn_268 5 rfl rfl (Nat.le_of_ble_eq_true rfl) (fun _ => rfl) (fun v10 => ?_)
            refine z_goto (tgt := 226) dX5_goesOn_271 (by decide) ?_
            exact z_sub [1, 2, 3, 4, 5, 0] rfl (ih _ _ _ _ _ _)
          · refine z_iconst (v := 1) dX5_goesOn_266 (by decide) ?_
            exact z_zret dX5_goesOn_267 rfl (Or.inr rfl)
set_option maxHeartbeats 4000000 in
set_option maxRecDepth 100000 in
theorem w_X5_goesOn_b_181 {dd : Nat} (rec : Int32 → AHp → Option (Int32 × AHp)) (hrec : ∀ (x1 : Int32) (h : AHp), MI QX5_goesOn (dd + 40) [.ref 67, .int x1] h (rec x1 h)) (x1 : Int32) (x2 : Int32) (x3 : Int32) (x4 : Int32) (x5 : Int32) (s0 : Int32) (h : AHp) : WO tvI QX5_goesOn (dd + 41) 181 [(0, .ref 67), (1, .int x1), (2, .int x2), (3, .int x3), (4, .int x4), (5, .int x5)] [.int s0] h (m_X5_goesOn_b_181 rec x1 x2 x3 x4 x5 s0 h) := by
  unfold m_X5_goesOn_b_181
  refine z_iload_n dX5_goesOn_181 2 rfl ?_
  refine z_iadd dX5_goesOn_182 ?_
  refine z_istoreL (lv2 := fun v11 => [(6, .int v11), (0, .ref 67), (1, .int x1), (2, .int x2), (3, .int x3), (4, .int x4), (5, .int x5)]) dX5_goesOn_183 (Nat.le_of_ble_eq_true rfl) (fun _ => rfl) (fun v11 => ?_)
  refine z_iload dX5_goesOn_185 0 rfl ?_
  refine z_if_lt (tgt := 220) dX5_goesOn_187 (by decide) ?_ ?_
  · refine z_iconst (v := 0) dX5_goesOn_220 (by decide) ?_
    refine z_istore (lv2 := [(7, .int 0), (6, .int v11), (0, .ref 67), (1, .int x1), (2, .int x2), (3, .int x3), (4, .int x4), (5, .int x5)]) dX5_goesOn_221 (Nat.le_of_ble_eq_true rfl) rfl ?_
    refine z_iconst (v := 1) dX5_goesOn_223 (by decide) ?_
    refine z_istore (lv2 := [(8, .int 1), (7, .int 0), (6, .int v11), (0, .ref 67), (1, .int x1), (2, .int x2), (3, .int x3), (4, .int x4), (5, .int x5)]) dX5_goesOn_224 (Nat.le_of_ble_eq_true rfl) rfl ?_
    exact z_sub [3, 4, 7, 8, 1, 0] rfl (w_X5_goesOn_b_226 rec hrec FU _ _ _ _ _ _)
  · refine z_iload dX5_goesOn_190 0 rfl ?_
    refine z_aload_n dX5_goesOn_192 1 rfl ?_
    refine z_getR (j := 69) fX5_15 kc_67 rfl rfl rfl (by decide) dX5_goesOn_193 ?_
    refine z_alen (v := 50) kc_69 (by decide) (by decide) dX5_goesOn_196 ?_
    refine z_ic_ge (tgt := 220) dX5_goesOn_197 (by decide) ?_ ?_
    · refine z_iconst (v := 0) dX5_goesOn_220 (by decide) ?_
      refine z_istore (lv2 := [(7, .int 0), (6, .int v11), (0, .ref 67), (1, .int x1), (2, .int x2), (3, .int x3), (4, .int x4), (5, .int x5)]) dX5_goesOn_221 (Nat.le_of_ble_eq_true rfl) rfl ?_
      refine z_iconst (v := 1) dX5_goesOn_223 (by decide) ?_
      refine z_istore (lv2 := [(8, .int 1), (7, .int 0), (6, .int v11), (0, .ref 67), (1, .int x1), (2, .int x2), (3, .int x3), (4, .int x4), (5, .int x5)]) dX5_goesOn_224 (Nat.le_of_ble_eq_true rfl) rfl ?_
      exact z_sub [3, 4, 7, 8, 1, 0] rfl (w_X5_goesOn_b_226 rec hrec FU _ _ _ _ _ _)
    · refine z_aload_n dX5_goesOn_200 1 rfl ?_
      refine z_iload_n dX5_goesOn_201 2 rfl ?_
      refine z_iconst (v := 2) dX5_goesOn_202 (by decide) ?_
      refine z_irem dX5_goesOn_203 (by decide) ?_
      refine z_iload_n dX5_goesOn_204 3 rfl ?_
      refine z_iload_n dX5_goesOn_205 4 rfl ?_
      refine z_callVI dX5_goesOn_206 (M_X5_following _ _ _ _) bX5_following lX5_71 kc_67 rfl rfl (Nat.le_of_ble_eq_true rfl) (by omega) (fun r12 h13 => ?_)
      refine z_aload_n dX5_goesOn_209 1 rfl ?_
      refine z_getR (j := 69) fX5_15 kc_67 rfl rfl rfl (by decide) dX5_goesOn_210 ?_
      refine z_iload dX5_goesOn_213 0 rfl ?_
      refine z_gd (fun g14 => ?_)
      refine z_iald kc_69 dX5_goesOn_215 g14 ?_
      refine z_iand dX5_goesOn_216 ?_
      refine z_goto (tgt := 221) dX5_goesOn_217 (by decide) ?_
      refine z_istoreL (lv2 := fun v15 => [(7, .int v15), (6, .int v11), (0, .ref 67), (1, .int x1), (2, .int x2), (3, .int x3), (4, .int x4), (5, .int x5)]) dX5_goesOn_221 (Nat.le_of_ble_eq_true rfl) (fun _ => rfl) (fun v15 => ?_)
      refine z_iconst (v := 1) dX5_goesOn_223 (by decide) ?_
      refine z_istore (lv2 := [(8, .int 1), (7, .int v15), (6, .int v11), (0, .ref 67), (1, .int x1), (2, .int x2), (3, .int x3), (4, .int x4), (5, .int x5)]) dX5_goesOn_224 (Nat.le_of_ble_eq_true rfl) rfl ?_
      exact z_sub [3, 4, 7, 8, 1, 0] rfl (w_X5_goesOn_b_226 rec hrec FU _ _ _ _ _ _)
set_option maxHeartbeats 4000000 in
set_option maxRecDepth 100000 in
theorem w_X5_goesOn_b {dd : Nat} (rec : Int32 → AHp → Option (Int32 × AHp)) (hrec : ∀ (x1 : Int32) (h : AHp), MI QX5_goesOn (dd + 40) [.ref 67, .int x1] h (rec x1 h)) (x1 : Int32) (h : AHp) : WO tvI QX5_goesOn (dd + 41) 0 [(0, .ref 67), (1, .int x1)] [] h (m_X5_goesOn_b rec x1 h) := by
  unfold m_X5_goesOn_b
  refine z_iload_n dX5_goesOn_0 1 rfl ?_
  refine z_iconst (v := 2) dX5_goesOn_1 (by decide) ?_
  refine z_ic_lt (tgt := 19) dX5_goesOn_2 (by decide) ?_ ?_
  · refine z_iconst (v := 0) dX5_goesOn_19 (by decide) ?_
    exact z_zret dX5_goesOn_20 rfl (Or.inl rfl)
  · refine z_iload_n dX5_goesOn_5 1 rfl ?_
    refine z_aload_n dX5_goesOn_6 0 rfl ?_
    refine z_getI fX5_30 kc_67 rfl dX5_goesOn_7 ?_
    refine z_ic_gt (tgt := 19) dX5_goesOn_10 (by decide) ?_ ?_
    · refine z_iconst (v := 0) dX5_goesOn_19 (by decide) ?_
      exact z_zret dX5_goesOn_20 rfl (Or.inl rfl)
    · refine z_iload_n dX5_goesOn_13 1 rfl ?_
      refine z_bipush (v := 6) dX5_goesOn_14 (by decide) ?_
      refine z_ic_le (tgt := 21) dX5_goesOn_16 (by decide) ?_ ?_
      · refine z_aload_n dX5_goesOn_21 0 rfl ?_
        refine z_getR (j := 68) fX5_9 kc_67 rfl rfl rfl (by decide) dX5_goesOn_22 ?_
        refine z_iload_n dX5_goesOn_25 1 rfl ?_
        refine z_iconst (v := 1) dX5_goesOn_26 (by decide) ?_
        refine z_isub dX5_goesOn_27 ?_
        refine z_gd (fun g16 => ?_)
        refine z_iald kc_68 dX5_goesOn_28 g16 ?_
        refine z_istore_nL (lv2 := fun v17 => [(2, .int v17), (0, .ref 67), (1, .int x1)]) dX5_goesOn_29 (Nat.le_of_ble_eq_true rfl) (fun _ => rfl) (fun v17 => ?_)
        refine z_aload_n dX5_goesOn_30 1 rfl ?_
        refine z_getR (j := 68) fX5_9 kc_67 rfl rfl rfl (by decide) dX5_goesOn_31 ?_
        refine z_iload_n dX5_goesOn_34 2 rfl ?_
        refine z_iconst (v := 2) dX5_goesOn_35 (by decide) ?_
        refine z_isub dX5_goesOn_36 ?_
        refine z_gd (fun g18 => ?_)
        refine z_iald kc_68 dX5_goesOn_37 g18 ?_
        refine z_istore_nL (lv2 := fun v19 => [(3, .int v19), (2, .int v17), (0, .ref 67), (1, .int x1)]) dX5_goesOn_38 (Nat.le_of_ble_eq_true rfl) (fun _ => rfl) (fun v19 => ?_)
        refine z_iload_n dX5_goesOn_39 3 rfl ?_
        refine z_aload_n dX5_goesOn_40 2 rfl ?_
        refine z_getI fX5_30 kc_67 rfl dX5_goesOn_41 ?_
        refine z_ic_ne (tgt := 96) dX5_goesOn_44 (by decide) ?_ ?_
        · refine z_sipush (v := 1250) dX5_goesOn_96 (by decide) ?_
          refine z_iload_n dX5_goesOn_99 3 rfl ?_
          refine z_sipush (v := 625) dX5_goesOn_100 (by decide) ?_
          refine z_imul dX5_goesOn_103 ?_
          refine z_iadd dX5_goesOn_104 ?_
          refine z_iload_n dX5_goesOn_105 1 rfl ?_
          refine z_bipush (v := 25) dX5_goesOn_106 (by decide) ?_
          refine z_imul dX5_goesOn_108 ?_
          refine z_iadd dX5_goesOn_109 ?_
          refine z_iload_n dX5_goesOn_110 0 rfl ?_
          refine z_iadd dX5_goesOn_111 ?_
          refine z_istoreL (lv2 := fun v20 => [(4, .int v20), (3, .int v19), (2, .int v17), (0, .ref 67), (1, .int x1)]) dX5_goesOn_112 (Nat.le_of_ble_eq_true rfl) (fun _ => rfl) (fun v20 => ?_)
          refine z_aload_n dX5_goesOn_114 3 rfl ?_
          refine z_getI fX5_30 kc_67 rfl dX5_goesOn_115 ?_
          refine z_sipush (v := 625) dX5_goesOn_118 (by decide) ?_
          refine z_imul dX5_goesOn_121 ?_
          refine z_aload_n dX5_goesOn_122 3 rfl ?_
          refine z_getR (j := 68) fX5_9 kc_67 rfl rfl rfl (by decide) dX5_goesOn_123 ?_
          refine z_iconst (v := 0) dX5_goesOn_126 (by decide) ?_
          refine z_iald kc_68 dX5_goesOn_127 (by decide) ?_
          refine z_bipush (v := 25) dX5_goesOn_128 (by decide) ?_
          refine z_imul dX5_goesOn_130 ?_
          refine z_iadd dX5_goesOn_131 ?_
          refine z_aload_n dX5_goesOn_132 3 rfl ?_
          refine z_getR (j := 68) fX5_9 kc_67 rfl rfl rfl (by decide) dX5_goesOn_133 ?_
          refine z_iconst (v := 1) dX5_goesOn_136 (by decide) ?_
          refine z_iald kc_68 dX5_goesOn_137 (by decide) ?_
          refine z_iadd dX5_goesOn_138 ?_
          refine z_istoreL (lv2 := fun v21 => [(5, .int v21), (4, .int v20), (3, .int v19), (2, .int v17), (0, .ref 67), (1, .int x1)]) dX5_goesOn_139 (Nat.le_of_ble_eq_true rfl) (fun _ => rfl) (fun v21 => ?_)
          refine z_aload_n dX5_goesOn_141 4 rfl ?_
          refine z_getR (j := 31) fX5_22 kc_67 rfl rfl rfl (by decide) dX5_goesOn_142 ?_
          refine z_iload dX5_goesOn_145 1 rfl ?_
          refine z_callVI dX5_goesOn_147 (M_X3_has _ _) bX3_has lX5_79 kc_31 rfl rfl (Nat.le_of_ble_eq_true rfl) (by omega) (fun r22 h23 => ?_)
          refine z_if_eq (tgt := 169) dX5_goesOn_150 (by decide) ?_ ?_
          · refine z_iload_n dX5_goesOn_169 5 rfl ?_
            refine z_iconst (v := 2) dX5_goesOn_170 (by decide) ?_
            refine z_irem dX5_goesOn_171 (by decide) ?_
            refine z_if_ne (tgt := 180) dX5_goesOn_172 (by decide) ?_ ?_
            · refine z_iconst (v := 0) dX5_goesOn_180 (by decide) ?_
              exact z_sub [4, 5, 3, 2, 1, 0] rfl (w_X5_goesOn_b_181 rec hrec _ _ _ _ _ _ _)
            · refine z_bipush (v := 25) dX5_goesOn_175 (by decide) ?_
              refine z_goto (tgt := 181) dX5_goesOn_177 (by decide) ?_
              exact z_sub [4, 5, 3, 2, 1, 0] rfl (w_X5_goesOn_b_181 rec hrec _ _ _ _ _ _ _)
          · refine z_aload_n dX5_goesOn_153 4 rfl ?_
            refine z_getR (j := 31) fX5_22 kc_67 rfl rfl rfl (by decide) dX5_goesOn_154 ?_
            refine z_iload dX5_goesOn_157 1 rfl ?_
            refine z_callVI dX5_goesOn_159 (M_X3_get _ _) bX3_get lX5_82 kc_31 rfl rfl (Nat.le_of_ble_eq_true rfl) (by omega) (fun r24 h25 => ?_)
            refine z_iload dX5_goesOn_162 0 rfl ?_
            refine z_ic_ne (tgt := 169) dX5_goesOn_164 (by decide) ?_ ?_
            · refine z_iload_n dX5_goesOn_169 5 rfl ?_
              refine z_iconst (v := 2) dX5_goesOn_170 (by decide) ?_
              refine z_irem dX5_goesOn_171 (by decide) ?_
              refine z_if_ne (tgt := 180) dX5_goesOn_172 (by decide) ?_ ?_
              · refine z_iconst (v := 0) dX5_goesOn_180 (by decide) ?_
                exact z_sub [4, 5, 3, 2, 1, 0] rfl (w_X5_goesOn_b_181 rec hrec _ _ _ _ _ _ _)
              · refine z_bipush (v := 25) dX5_goesOn_175 (by decide) ?_
                refine z_goto (tgt := 181) dX5_goesOn_177 (by decide) ?_
                exact z_sub [4, 5, 3, 2, 1, 0] rfl (w_X5_goesOn_b_181 rec hrec _ _ _ _ _ _ _)
            · refine z_iconst (v := 0) dX5_goesOn_167 (by decide) ?_
              exact z_zret dX5_goesOn_168 rfl (Or.inl rfl)
        · refine z_aload_n dX5_goesOn_47 2 rfl ?_
          refine z_iconst (v := 0) dX5_goesOn_48 (by decide) ?_
          refine z_iload_n dX5_goesOn_49 1 rfl ?_
          refine z_iload_n dX5_goesOn_50 0 rfl ?_
          refine z_callVI dX5_goesOn_51 (M_X5_following _ _ _ _) bX5_following lX5_71 kc_67 rfl rfl (Nat.le_of_ble_eq_true rfl) (by omega) (fun r26 h27 => ?_)
          refine z_aload_n dX5_goesOn_54 2 rfl ?_
          refine z_getR (j := 68) fX5_9 kc_67 rfl rfl rfl (by decide) dX5_goesOn_55 ?_
          refine z_iconst (v := 0) dX5_goesOn_58 (by decide) ?_
          refine z_iald kc_68 dX5_goesOn_59 (by decide) ?_
          refine z_ishr dX5_goesOn_60 ?_
          refine z_iconst (v := 1) dX5_goesOn_61 (by decide) ?_
          refine z_iand dX5_goesOn_62 ?_
          refine z_if_eq (tgt := 94) dX5_goesOn_63 (by decide) ?_ ?_
          · refine z_iconst (v := 0) dX5_goesOn_94 (by decide) ?_
            exact z_zret dX5_goesOn_95 rfl (Or.inl rfl)
          · refine z_aload_n dX5_goesOn_66 2 rfl ?_
            refine z_iconst (v := 1) dX5_goesOn_67 (by decide) ?_
            refine z_aload_n dX5_goesOn_68 2 rfl ?_
            refine z_getR (j := 68) fX5_9 kc_67 rfl rfl rfl (by decide) dX5_goesOn_69 ?_
            refine z_iconst (v := 0) dX5_goesOn_72 (by decide) ?_
            refine z_iald kc_68 dX5_goesOn_73 (by decide) ?_
            refine z_iload_n dX5_goesOn_74 1 rfl ?_
            refine z_callVI dX5_goesOn_75 (M_X5_following _ _ _ _) bX5_following lX5_71 kc_67 rfl rfl (Nat.le_of_ble_eq_true rfl) (by omega) (fun r28 h29 => ?_)
            refine z_aload_n dX5_goesOn_78 2 rfl ?_
            refine z_getR (j := 68) fX5_9 kc_67 rfl rfl rfl (by decide) dX5_goesOn_79 ?_
            refine z_iconst (v := 1) dX5_goesOn_82 (by decide) ?_
            refine z_iald kc_68 dX5_goesOn_83 (by decide) ?_
            refine z_ishr dX5_goesOn_84 ?_
            refine z_iconst (v := 1) dX5_goesOn_85 (by decide) ?_
            refine z_iand dX5_goesOn_86 ?_
            refine z_if_eq (tgt := 94) dX5_goesOn_87 (by decide) ?_ ?_
            · refine z_iconst (v := 0) dX5_goesOn_94 (by decide) ?_
              exact z_zret dX5_goesOn_95 rfl (Or.inl rfl)
            · refine z_iconst (v := 1) dX5_goesOn_90 (by decide) ?_
              refine z_goto (tgt := 95) dX5_goesOn_91 (by decide) ?_
              exact z_zret dX5_goesOn_95 rfl (Or.inr rfl)
      · refine z_iconst (v := 0) dX5_goesOn_19 (by decide) ?_
        exact z_zret dX5_goesOn_20 rfl (Or.inl rfl)
theorem M_X5_goesOn_b {dd : Nat} (rec : Int32 → AHp → Option (Int32 × AHp)) (hrec : ∀ (x1 : Int32) (h : AHp), MI QX5_goesOn (dd + 40) [.ref 67, .int x1] h (rec x1 h)) (x1 : Int32) (h : AHp) : MI QX5_goesOn (dd + 41) [.ref 67, .int x1] h (m_X5_goesOn_b rec x1 h) := MI.of (by decide) rfl rfl (Nat.le_of_ble_eq_true rfl) (w_X5_goesOn_b rec hrec x1 h)
theorem M_X5_goesOn : ∀ (f : Nat) (x1 : Int32) (h : AHp), MI QX5_goesOn (f + 40) [.ref 67, .int x1] h (m_X5_goesOn f x1 h) := by
  intro f
  induction f with
  | zero => intro x1 h x0 h0 ho; cases ho
  | succ f ih =>
    intro x1 h
    rw [m_X5_goesOn]
    have e := M_X5_goesOn_b (dd := f) (m_X5_goesOn f) ih x1 h
    rw [show f + 1 + 40 = f + 41 from by omega]
    exact e
set_option maxHeartbeats 4000000 in
set_option maxRecDepth 100000 in
theorem w_X8_append_3 : ∀ (f : Nat) (x1 : Int32) (x2 : Int32) (h : AHp), WO tvV QX8_append 0 3 [(0, .ref 1), (1, .int x1), (2, .int x2)] [] h (m_X8_append_3 f x1 x2 h) := by
  intro f
  induction f with
  | zero => intro x1 x2 h; exact z_none
  | succ f ih =>
    intro x1 x2 h
    rw [m_X8_append_3]
    refine z_iload_n dX8_append_3 2 rfl ?_
    refine z_if_lt (tgt := 51) dX8_append_4 (by decide) ?_ ?_
    · exact z_vret dX8_append_51 rfl
    · refine z_aload_n dX8_append_7 0 rfl ?_
      refine z_getI fX8_15 kc_1 rfl dX8_append_8 ?_
      refine z_aload_n dX8_append_11 0 rfl ?_
      refine z_getR (j := 2) fX8_9 kc_1 rfl rfl rfl (by decide) dX8_append_12 ?_
      refine z_alen (v := 220) kc_2 (by decide) (by decide) dX8_append_15 ?_
      refine z_ic_ge (tgt := 45) dX8_append_16 (by decide) ?_ ?_
      · refine z_iincL (lv2 := fun v1 => [(2, .int v1), (0, .ref 1), (1, .int x1)]) dX8_append_45 2 rfl rfl (Nat.le_of_ble_eq_true rfl) (fun _ => rfl) (fun v1 => ?_)
        refine z_goto (tgt := 3) dX8_append_48 (by decide) ?_
        exact z_sub [1, 2, 0] rfl (ih _ _ _)
      · refine z_aload_n dX8_append_19 0 rfl ?_
        refine z_getR (j := 2) fX8_9 kc_1 rfl rfl rfl (by decide) dX8_append_20 ?_
        refine z_aload_n dX8_append_23 0 rfl ?_
        refine z_getI fX8_15 kc_1 rfl dX8_append_24 ?_
        refine z_iload_n dX8_append_27 1 rfl ?_
        refine z_iload_n dX8_append_28 2 rfl ?_
        refine z_ishr dX8_append_29 ?_
        refine z_sipush (v := 255) dX8_append_30 (by decide) ?_
        refine z_iand dX8_append_33 ?_
        refine z_gd (fun g3 => ?_)
        refine z_iast kc_2 dX8_append_34 g3 ?_
        refine z_lh (fun h2 => ?_)
        refine z_aload_n dX8_append_35 0 rfl ?_
        refine z_dup dX8_append_36 rfl ?_
        refine z_getI fX8_15 kc_1 rfl dX8_append_37 ?_
        refine z_iconst (v := 1) dX8_append_40 (by decide) ?_
        refine z_iadd dX8_append_41 ?_
        refine z_putI fX8_15 kc_1 rfl dX8_append_42 ?_
        refine z_lh (fun h4 => ?_)
        refine z_iincL (lv2 := fun v5 => [(2, .int v5), (0, .ref 1), (1, .int x1)]) dX8_append_45 2 rfl rfl (Nat.le_of_ble_eq_true rfl) (fun _ => rfl) (fun v5 => ?_)
        refine z_goto (tgt := 3) dX8_append_48 (by decide) ?_
        exact z_sub [1, 2, 0] rfl (ih _ _ _)
set_option maxHeartbeats 4000000 in
set_option maxRecDepth 100000 in
theorem w_X8_append (x1 : Int32) (h : AHp) : WO tvV QX8_append 0 0 [(0, .ref 1), (1, .int x1)] [] h (m_X8_append x1 h) := by
  unfold m_X8_append
  refine z_bipush (v := 24) dX8_append_0 (by decide) ?_
  refine z_istore_n (lv2 := [(2, .int 24), (0, .ref 1), (1, .int x1)]) dX8_append_2 (Nat.le_of_ble_eq_true rfl) rfl ?_
  exact z_sub [1, 2, 0] rfl (w_X8_append_3 FU _ _ _)
theorem M_X8_append (x1 : Int32) (h : AHp) : MV QX8_append 0 [.ref 1, .int x1] h (m_X8_append x1 h) := MV.of (by decide) rfl rfl (Nat.le_of_ble_eq_true rfl) (w_X8_append x1 h)
set_option maxHeartbeats 4000000 in
set_option maxRecDepth 100000 in
theorem w_X11_feed (x1 : Int32) (x2 : Int32) (x3 : Int32) (x4 : Int32) (x5 : Int32) (h : AHp) : WO tvI QX11_feed 1 0 [(0, .ref 0), (1, .int x1), (2, .int x2), (3, .int x3), (4, .int x4), (5, .int x5)] [] h (m_X11_feed x1 x2 x3 x4 x5 h) := by
  unfold m_X11_feed
  refine z_aload_n dX11_feed_0 0 rfl ?_
  refine z_getR (j := 1) fX11_18 kc_0 rfl rfl rfl (by decide) dX11_feed_1 ?_
  refine z_getIN fX11_92 kc_1 rfl dX11_feed_4 ?_
  refine z_bipush (v := 20) dX11_feed_7 (by decide) ?_
  refine z_iadd dX11_feed_9 ?_
  refine z_sipush (v := 220) dX11_feed_10 (by decide) ?_
  refine z_ic_le (tgt := 18) dX11_feed_13 (by decide) ?_ ?_
  · refine z_aload_n dX11_feed_18 0 rfl ?_
    refine z_getR (j := 1) fX11_18 kc_0 rfl rfl rfl (by decide) dX11_feed_19 ?_
    refine z_iload_n dX11_feed_22 1 rfl ?_
    refine z_callVV dX11_feed_23 (M_X8_append _ _) bX8_append lX11_95 kc_1 rfl rfl (Nat.le_of_ble_eq_true rfl) (Nat.le_of_ble_eq_true rfl) (fun r1 h2 => ?_)
    refine z_aload_n dX11_feed_26 0 rfl ?_
    refine z_getR (j := 1) fX11_18 kc_0 rfl rfl rfl (by decide) dX11_feed_27 ?_
    refine z_iload_n dX11_feed_30 2 rfl ?_
    refine z_callVV dX11_feed_31 (M_X8_append _ _) bX8_append lX11_95 kc_1 rfl rfl (Nat.le_of_ble_eq_true rfl) (Nat.le_of_ble_eq_true rfl) (fun r3 h4 => ?_)
    refine z_aload_n dX11_feed_34 0 rfl ?_
    refine z_getR (j := 1) fX11_18 kc_0 rfl rfl rfl (by decide) dX11_feed_35 ?_
    refine z_iload_n dX11_feed_38 3 rfl ?_
    refine z_callVV dX11_feed_39 (M_X8_append _ _) bX8_append lX11_95 kc_1 rfl rfl (Nat.le_of_ble_eq_true rfl) (Nat.le_of_ble_eq_true rfl) (fun r5 h6 => ?_)
    refine z_aload_n dX11_feed_42 0 rfl ?_
    refine z_getR (j := 1) fX11_18 kc_0 rfl rfl rfl (by decide) dX11_feed_43 ?_
    refine z_iload dX11_feed_46 4 rfl ?_
    refine z_callVV dX11_feed_48 (M_X8_append _ _) bX8_append lX11_95 kc_1 rfl rfl (Nat.le_of_ble_eq_true rfl) (Nat.le_of_ble_eq_true rfl) (fun r7 h8 => ?_)
    refine z_aload_n dX11_feed_51 0 rfl ?_
    refine z_getR (j := 1) fX11_18 kc_0 rfl rfl rfl (by decide) dX11_feed_52 ?_
    refine z_iload dX11_feed_55 5 rfl ?_
    refine z_callVV dX11_feed_57 (M_X8_append _ _) bX8_append lX11_95 kc_1 rfl rfl (Nat.le_of_ble_eq_true rfl) (Nat.le_of_ble_eq_true rfl) (fun r9 h10 => ?_)
    refine z_aload_n dX11_feed_60 0 rfl ?_
    refine z_getR (j := 1) fX11_18 kc_0 rfl rfl rfl (by decide) dX11_feed_61 ?_
    refine z_getIN fX11_92 kc_1 rfl dX11_feed_64 ?_
    exact z_iret dX11_feed_67 rfl
  · refine z_iconst (v := -1) dX11_feed_16 (by decide) ?_
    exact z_iret dX11_feed_17 rfl
theorem M_X11_feed (x1 : Int32) (x2 : Int32) (x3 : Int32) (x4 : Int32) (x5 : Int32) (h : AHp) : MI QX11_feed 1 [.ref 0, .int x1, .int x2, .int x3, .int x4, .int x5] h (m_X11_feed x1 x2 x3 x4 x5 h) := MI.of (by decide) rfl rfl (Nat.le_of_ble_eq_true rfl) (w_X11_feed x1 x2 x3 x4 x5 h)
set_option maxHeartbeats 4000000 in
set_option maxRecDepth 100000 in
theorem w_X11_isOnTape (x1 : Int32) (x2 : Int32) (x3 : Int32) (h : AHp) : WO tvI QX11_isOnTape 0 0 [(0, .ref 0), (1, .int x1), (2, .int x2), (3, .int x3)] [] h (m_X11_isOnTape x1 x2 x3 h) := by
  unfold m_X11_isOnTape
  refine z_iload_n dX11_isOnTape_0 1 rfl ?_
  refine z_iconst (v := 1) dX11_isOnTape_1 (by decide) ?_
  refine z_ic_lt (tgt := 27) dX11_isOnTape_2 (by decide) ?_ ?_
  · refine z_iconst (v := 0) dX11_isOnTape_27 (by decide) ?_
    exact z_zret dX11_isOnTape_28 rfl (Or.inl rfl)
  · refine z_iload_n dX11_isOnTape_5 1 rfl ?_
    refine z_iload_n dX11_isOnTape_6 2 rfl ?_
    refine z_ic_gt (tgt := 27) dX11_isOnTape_7 (by decide) ?_ ?_
    · refine z_iconst (v := 0) dX11_isOnTape_27 (by decide) ?_
      exact z_zret dX11_isOnTape_28 rfl (Or.inl rfl)
    · refine z_iload_n dX11_isOnTape_10 1 rfl ?_
      refine z_iload_n dX11_isOnTape_11 3 rfl ?_
      refine z_imul dX11_isOnTape_12 ?_
      refine z_aload_n dX11_isOnTape_13 0 rfl ?_
      refine z_getR (j := 1) fX11_18 kc_0 rfl rfl rfl (by decide) dX11_isOnTape_14 ?_
      refine z_getIN fX11_92 kc_1 rfl dX11_isOnTape_17 ?_
      refine z_ic_gt (tgt := 27) dX11_isOnTape_20 (by decide) ?_ ?_
      · refine z_iconst (v := 0) dX11_isOnTape_27 (by decide) ?_
        exact z_zret dX11_isOnTape_28 rfl (Or.inl rfl)
      · refine z_iconst (v := 1) dX11_isOnTape_23 (by decide) ?_
        refine z_goto (tgt := 28) dX11_isOnTape_24 (by decide) ?_
        exact z_zret dX11_isOnTape_28 rfl (Or.inr rfl)
theorem M_X11_isOnTape (x1 : Int32) (x2 : Int32) (x3 : Int32) (h : AHp) : MI QX11_isOnTape 0 [.ref 0, .int x1, .int x2, .int x3] h (m_X11_isOnTape x1 x2 x3 h) := MI.of (by decide) rfl rfl (Nat.le_of_ble_eq_true rfl) (w_X11_isOnTape x1 x2 x3 h)
set_option maxHeartbeats 4000000 in
set_option maxRecDepth 100000 in
theorem w_X8_startText (x1 : Int32) (h : AHp) : WO tvV QX8_startText 1 0 [(0, .ref 1), (1, .int x1)] [] h (m_X8_startText x1 h) := by
  unfold m_X8_startText
  refine z_aload_n dX8_startText_0 0 rfl ?_
  refine z_iconst (v := 0) dX8_startText_1 (by decide) ?_
  refine z_putI fX8_23 kc_1 rfl dX8_startText_2 ?_
  refine z_lh (fun h1 => ?_)
  refine z_aload_n dX8_startText_5 0 rfl ?_
  refine z_iload_n dX8_startText_6 1 rfl ?_
  refine z_aload_n dX8_startText_7 0 rfl ?_
  refine z_getI fX8_15 kc_1 rfl dX8_startText_8 ?_
  refine z_mmin dX8_startText_11 lX8_26 w_mmin (Nat.le_of_ble_eq_true rfl) (Nat.le_of_ble_eq_true rfl) ?_
  refine z_putI fX8_32 kc_1 rfl dX8_startText_14 ?_
  refine z_lh (fun h2 => ?_)
  refine z_aload_n dX8_startText_17 0 rfl ?_
  refine z_iconst (v := 0) dX8_startText_18 (by decide) ?_
  refine z_putI fX8_35 kc_1 rfl dX8_startText_19 ?_
  refine z_lh (fun h3 => ?_)
  exact z_vret dX8_startText_22 rfl
theorem M_X8_startText (x1 : Int32) (h : AHp) : MV QX8_startText 1 [.ref 1, .int x1] h (m_X8_startText x1 h) := MV.of (by decide) rfl rfl (Nat.le_of_ble_eq_true rfl) (w_X8_startText x1 h)
set_option maxHeartbeats 4000000 in
set_option maxRecDepth 100000 in
theorem w_X8_sign (h : AHp) : WO tvI QX8_sign 0 0 [(0, .ref 1)] [] h (m_X8_sign h) := by
  unfold m_X8_sign
  refine z_aload_n dX8_sign_0 0 rfl ?_
  refine z_getI fX8_35 kc_1 rfl dX8_sign_1 ?_
  refine z_if_ne (tgt := 49) dX8_sign_4 (by decide) ?_ ?_
  · refine z_iconst (v := -1) dX8_sign_49 (by decide) ?_
    exact z_iret dX8_sign_50 rfl
  · refine z_aload_n dX8_sign_7 0 rfl ?_
    refine z_getI fX8_23 kc_1 rfl dX8_sign_8 ?_
    refine z_if_lt (tgt := 49) dX8_sign_11 (by decide) ?_ ?_
    · refine z_iconst (v := -1) dX8_sign_49 (by decide) ?_
      exact z_iret dX8_sign_50 rfl
    · refine z_aload_n dX8_sign_14 0 rfl ?_
      refine z_getI fX8_23 kc_1 rfl dX8_sign_15 ?_
      refine z_aload_n dX8_sign_18 0 rfl ?_
      refine z_getI fX8_32 kc_1 rfl dX8_sign_19 ?_
      refine z_ic_ge (tgt := 49) dX8_sign_22 (by decide) ?_ ?_
      · refine z_iconst (v := -1) dX8_sign_49 (by decide) ?_
        exact z_iret dX8_sign_50 rfl
      · refine z_aload_n dX8_sign_25 0 rfl ?_
        refine z_getI fX8_23 kc_1 rfl dX8_sign_26 ?_
        refine z_aload_n dX8_sign_29 0 rfl ?_
        refine z_getR (j := 2) fX8_9 kc_1 rfl rfl rfl (by decide) dX8_sign_30 ?_
        refine z_alen (v := 220) kc_2 (by decide) (by decide) dX8_sign_33 ?_
        refine z_ic_ge (tgt := 49) dX8_sign_34 (by decide) ?_ ?_
        · refine z_iconst (v := -1) dX8_sign_49 (by decide) ?_
          exact z_iret dX8_sign_50 rfl
        · refine z_aload_n dX8_sign_37 0 rfl ?_
          refine z_getR (j := 2) fX8_9 kc_1 rfl rfl rfl (by decide) dX8_sign_38 ?_
          refine z_aload_n dX8_sign_41 0 rfl ?_
          refine z_getI fX8_23 kc_1 rfl dX8_sign_42 ?_
          refine z_gd (fun g1 => ?_)
          refine z_iald kc_2 dX8_sign_45 g1 ?_
          refine z_goto (tgt := 50) dX8_sign_46 (by decide) ?_
          exact z_iret dX8_sign_50 rfl
theorem M_X8_sign (h : AHp) : MI QX8_sign 0 [.ref 1] h (m_X8_sign h) := MI.of (by decide) rfl rfl (Nat.le_of_ble_eq_true rfl) (w_X8_sign h)
set_option maxHeartbeats 4000000 in
set_option maxRecDepth 100000 in
theorem w_X8_step (h : AHp) : WO tvV QX8_step 0 0 [(0, .ref 1)] [] h (m_X8_step h) := by
  unfold m_X8_step
  refine z_aload_n dX8_step_0 0 rfl ?_
  refine z_getI fX8_23 kc_1 rfl dX8_step_1 ?_
  refine z_aload_n dX8_step_4 0 rfl ?_
  refine z_getI fX8_32 kc_1 rfl dX8_step_5 ?_
  refine z_ic_ge (tgt := 21) dX8_step_8 (by decide) ?_ ?_
  · exact z_vret dX8_step_21 rfl
  · refine z_aload_n dX8_step_11 0 rfl ?_
    refine z_dup dX8_step_12 rfl ?_
    refine z_getI fX8_23 kc_1 rfl dX8_step_13 ?_
    refine z_iconst (v := 1) dX8_step_16 (by decide) ?_
    refine z_iadd dX8_step_17 ?_
    refine z_putI fX8_23 kc_1 rfl dX8_step_18 ?_
    refine z_lh (fun h1 => ?_)
    exact z_vret dX8_step_21 rfl
theorem M_X8_step (h : AHp) : MV QX8_step 0 [.ref 1] h (m_X8_step h) := MV.of (by decide) rfl rfl (Nat.le_of_ble_eq_true rfl) (w_X8_step h)
set_option maxHeartbeats 4000000 in
set_option maxRecDepth 100000 in
theorem w_X8_takes (x1 : Int32) (h : AHp) : WO tvI QX8_takes 1 0 [(0, .ref 1), (1, .int x1)] [] h (m_X8_takes x1 h) := by
  unfold m_X8_takes
  refine z_aload_n dX8_takes_0 0 rfl ?_
  refine z_callVI dX8_takes_1 (M_X8_sign _) bX8_sign lX8_38 kc_1 rfl rfl (Nat.le_of_ble_eq_true rfl) (Nat.le_of_ble_eq_true rfl) (fun r1 h2 => ?_)
  refine z_iload_n dX8_takes_4 1 rfl ?_
  refine z_ic_ne (tgt := 12) dX8_takes_5 (by decide) ?_ ?_
  · refine z_iconst (v := 0) dX8_takes_12 (by decide) ?_
    refine z_istore_n (lv2 := [(2, .int 0), (0, .ref 1), (1, .int x1)]) dX8_takes_13 (Nat.le_of_ble_eq_true rfl) rfl ?_
    refine z_iload_n dX8_takes_14 0 rfl ?_
    refine z_if_eq (tgt := 22) dX8_takes_15 (by decide) ?_ ?_
    · refine z_iload_n dX8_takes_22 0 rfl ?_
      exact z_zret dX8_takes_23 rfl (Or.inl rfl)
    · refine z_aload_n dX8_takes_18 1 rfl ?_
      refine z_callVV dX8_takes_19 (M_X8_step _) bX8_step lX8_42 kc_1 rfl rfl (Nat.le_of_ble_eq_true rfl) (Nat.le_of_ble_eq_true rfl) (fun r3 h4 => ?_)
      refine z_iload_n dX8_takes_22 0 rfl ?_
      exact z_zret dX8_takes_23 rfl (Or.inl rfl)
  · refine z_iconst (v := 1) dX8_takes_8 (by decide) ?_
    refine z_goto (tgt := 13) dX8_takes_9 (by decide) ?_
    refine z_istore_n (lv2 := [(2, .int 1), (0, .ref 1), (1, .int x1)]) dX8_takes_13 (Nat.le_of_ble_eq_true rfl) rfl ?_
    refine z_iload_n dX8_takes_14 0 rfl ?_
    refine z_if_eq (tgt := 22) dX8_takes_15 (by decide) ?_ ?_
    · refine z_iload_n dX8_takes_22 0 rfl ?_
      exact z_zret dX8_takes_23 rfl (Or.inr rfl)
    · refine z_aload_n dX8_takes_18 1 rfl ?_
      refine z_callVV dX8_takes_19 (M_X8_step _) bX8_step lX8_42 kc_1 rfl rfl (Nat.le_of_ble_eq_true rfl) (Nat.le_of_ble_eq_true rfl) (fun r5 h6 => ?_)
      refine z_iload_n dX8_takes_22 0 rfl ?_
      exact z_zret dX8_takes_23 rfl (Or.inr rfl)
theorem M_X8_takes (x1 : Int32) (h : AHp) : MI QX8_takes 1 [.ref 1, .int x1] h (m_X8_takes x1 h) := MI.of (by decide) rfl rfl (Nat.le_of_ble_eq_true rfl) (w_X8_takes x1 h)
set_option maxHeartbeats 4000000 in
set_option maxRecDepth 100000 in
theorem w_X4_isWord (x0 : Int32) (h : AHp) : WO tvI QX4_isWord 0 0 [(0, .int x0)] [] h (m_X4_isWord x0 h) := by
  unfold m_X4_isWord
  refine z_iload_n dX4_isWord_0 0 rfl ?_
  refine z_bipush (v := 97) dX4_isWord_1 (by decide) ?_
  refine z_ic_lt (tgt := 16) dX4_isWord_3 (by decide) ?_ ?_
  · refine z_iconst (v := 0) dX4_isWord_16 (by decide) ?_
    exact z_zret dX4_isWord_17 rfl (Or.inl rfl)
  · refine z_iload_n dX4_isWord_6 0 rfl ?_
    refine z_bipush (v := 122) dX4_isWord_7 (by decide) ?_
    refine z_ic_gt (tgt := 16) dX4_isWord_9 (by decide) ?_ ?_
    · refine z_iconst (v := 0) dX4_isWord_16 (by decide) ?_
      exact z_zret dX4_isWord_17 rfl (Or.inl rfl)
    · refine z_iconst (v := 1) dX4_isWord_12 (by decide) ?_
      refine z_goto (tgt := 17) dX4_isWord_13 (by decide) ?_
      exact z_zret dX4_isWord_17 rfl (Or.inr rfl)
theorem M_X4_isWord (x0 : Int32) (h : AHp) : MI QX4_isWord 0 [.int x0] h (m_X4_isWord x0 h) := MI.of (by decide) rfl rfl (Nat.le_of_ble_eq_true rfl) (w_X4_isWord x0 h)
set_option maxHeartbeats 4000000 in
set_option maxRecDepth 100000 in
theorem w_X4_beginsItem (x0 : Int32) (h : AHp) : WO tvI QX4_beginsItem 1 0 [(0, .int x0)] [] h (m_X4_beginsItem x0 h) := by
  unfold m_X4_beginsItem
  refine z_iload_n dX4_beginsItem_0 0 rfl ?_
  refine z_callSI dX4_beginsItem_1 (M_X4_isWord _ _) bX4_isWord lX4_65 rfl rfl (Nat.le_of_ble_eq_true rfl) (Nat.le_of_ble_eq_true rfl) (fun r1 h2 => ?_)
  refine z_if_ne (tgt := 19) dX4_beginsItem_4 (by decide) ?_ ?_
  · refine z_iconst (v := 1) dX4_beginsItem_19 (by decide) ?_
    refine z_goto (tgt := 24) dX4_beginsItem_20 (by decide) ?_
    exact z_zret dX4_beginsItem_24 rfl (Or.inr rfl)
  · refine z_iload_n dX4_beginsItem_7 0 rfl ?_
    refine z_bipush (v := 40) dX4_beginsItem_8 (by decide) ?_
    refine z_ic_eq (tgt := 19) dX4_beginsItem_10 (by decide) ?_ ?_
    · refine z_iconst (v := 1) dX4_beginsItem_19 (by decide) ?_
      refine z_goto (tgt := 24) dX4_beginsItem_20 (by decide) ?_
      exact z_zret dX4_beginsItem_24 rfl (Or.inr rfl)
    · refine z_iload_n dX4_beginsItem_13 0 rfl ?_
      refine z_bipush (v := 91) dX4_beginsItem_14 (by decide) ?_
      refine z_ic_ne (tgt := 23) dX4_beginsItem_16 (by decide) ?_ ?_
      · refine z_iconst (v := 0) dX4_beginsItem_23 (by decide) ?_
        exact z_zret dX4_beginsItem_24 rfl (Or.inl rfl)
      · refine z_iconst (v := 1) dX4_beginsItem_19 (by decide) ?_
        refine z_goto (tgt := 24) dX4_beginsItem_20 (by decide) ?_
        exact z_zret dX4_beginsItem_24 rfl (Or.inr rfl)
theorem M_X4_beginsItem (x0 : Int32) (h : AHp) : MI QX4_beginsItem 1 [.int x0] h (m_X4_beginsItem x0 h) := MI.of (by decide) rfl rfl (Nat.le_of_ble_eq_true rfl) (w_X4_beginsItem x0 h)
set_option maxHeartbeats 4000000 in
set_option maxRecDepth 100000 in
theorem w_X8_fail (x1 : Int32) (h : AHp) : WO tvV QX8_fail 0 0 [(0, .ref 1), (1, .int x1)] [] h (m_X8_fail x1 h) := by
  unfold m_X8_fail
  refine z_aload_n dX8_fail_0 0 rfl ?_
  refine z_getI fX8_35 kc_1 rfl dX8_fail_1 ?_
  refine z_if_ne (tgt := 21) dX8_fail_4 (by decide) ?_ ?_
  · exact z_vret dX8_fail_21 rfl
  · refine z_aload_n dX8_fail_7 0 rfl ?_
    refine z_sipush (v := -1000) dX8_fail_8 (by decide) ?_
    refine z_iload_n dX8_fail_11 1 rfl ?_
    refine z_imul dX8_fail_12 ?_
    refine z_aload_n dX8_fail_13 0 rfl ?_
    refine z_getI fX8_23 kc_1 rfl dX8_fail_14 ?_
    refine z_isub dX8_fail_17 ?_
    refine z_putI fX8_35 kc_1 rfl dX8_fail_18 ?_
    refine z_lh (fun h1 => ?_)
    exact z_vret dX8_fail_21 rfl
theorem M_X8_fail (x1 : Int32) (h : AHp) : MV QX8_fail 0 [.ref 1, .int x1] h (m_X8_fail x1 h) := MV.of (by decide) rfl rfl (Nat.le_of_ble_eq_true rfl) (w_X8_fail x1 h)
set_option maxHeartbeats 4000000 in
set_option maxRecDepth 100000 in
theorem w_X8_expect (x1 : Int32) (h : AHp) : WO tvV QX8_expect 1 0 [(0, .ref 1), (1, .int x1)] [] h (m_X8_expect x1 h) := by
  unfold m_X8_expect
  refine z_aload_n dX8_expect_0 0 rfl ?_
  refine z_callVI dX8_expect_1 (M_X8_sign _) bX8_sign lX8_38 kc_1 rfl rfl (Nat.le_of_ble_eq_true rfl) (Nat.le_of_ble_eq_true rfl) (fun r1 h2 => ?_)
  refine z_iload_n dX8_expect_4 1 rfl ?_
  refine z_ic_ne (tgt := 15) dX8_expect_5 (by decide) ?_ ?_
  · refine z_aload_n dX8_expect_15 0 rfl ?_
    refine z_iconst (v := 1) dX8_expect_16 (by decide) ?_
    refine z_callVV dX8_expect_17 (M_X8_fail _ _) bX8_fail lX8_45 kc_1 rfl rfl (Nat.le_of_ble_eq_true rfl) (Nat.le_of_ble_eq_true rfl) (fun r3 h4 => ?_)
    exact z_vret dX8_expect_20 rfl
  · refine z_aload_n dX8_expect_8 0 rfl ?_
    refine z_callVV dX8_expect_9 (M_X8_step _) bX8_step lX8_42 kc_1 rfl rfl (Nat.le_of_ble_eq_true rfl) (Nat.le_of_ble_eq_true rfl) (fun r5 h6 => ?_)
    refine z_goto (tgt := 20) dX8_expect_12 (by decide) ?_
    exact z_vret dX8_expect_20 rfl
theorem M_X8_expect (x1 : Int32) (h : AHp) : MV QX8_expect 1 [.ref 1, .int x1] h (m_X8_expect x1 h) := MV.of (by decide) rfl rfl (Nat.le_of_ble_eq_true rfl) (w_X8_expect x1 h)
set_option maxHeartbeats 4000000 in
set_option maxRecDepth 100000 in
theorem w_X4_joined_4 : ∀ (f : Nat) (x0 : Int32) (x1 : Int32) (x2 : Int32) (x3 : Int32) (h : AHp), WO tvI QX4_joined 0 4 [(0, .int x0), (1, .int x1), (2, .int x2), (3, .int x3)] [] h (m_X4_joined_4 f x0 x1 x2 x3 h) := by
  intro f
  induction f with
  | zero => intro x0 x1 x2 x3 h; exact z_none
  | succ f ih =>
    intro x0 x1 x2 x3 h
    rw [m_X4_joined_4]
    refine z_iload_n dX4_joined_4 3 rfl ?_
    refine z_bipush (v := 25) dX4_joined_5 (by decide) ?_
    refine z_ic_ge (tgt := 30) dX4_joined_7 (by decide) ?_ ?_
    · refine z_iload_n dX4_joined_30 2 rfl ?_
      refine z_ldc dX4_joined_31 kX4_80 ?_
      refine z_iand dX4_joined_33 ?_
      exact z_iret dX4_joined_34 rfl
    · refine z_iload_n dX4_joined_10 1 rfl ?_
      refine z_iload_n dX4_joined_11 3 rfl ?_
      refine z_ishr dX4_joined_12 ?_
      refine z_iconst (v := 1) dX4_joined_13 (by decide) ?_
      refine z_iand dX4_joined_14 ?_
      refine z_if_eq (tgt := 24) dX4_joined_15 (by decide) ?_ ?_
      · refine z_iincL (lv2 := fun v1 => [(3, .int v1), (0, .int x0), (1, .int x1), (2, .int x2)]) dX4_joined_24 3 rfl rfl (Nat.le_of_ble_eq_true rfl) (fun _ => rfl) (fun v1 => ?_)
        refine z_goto (tgt := 4) dX4_joined_27 (by decide) ?_
        exact z_sub [1, 2, 3, 0] rfl (ih _ _ _ _ _)
      · refine z_iload_n dX4_joined_18 2 rfl ?_
        refine z_iload_n dX4_joined_19 0 rfl ?_
        refine z_iload_n dX4_joined_20 3 rfl ?_
        refine z_ishl dX4_joined_21 ?_
        refine z_ior dX4_joined_22 ?_
        refine z_istore_nL (lv2 := fun v2 => [(2, .int v2), (0, .int x0), (1, .int x1), (3, .int x3)]) dX4_joined_23 (Nat.le_of_ble_eq_true rfl) (fun _ => rfl) (fun v2 => ?_)
        refine z_iincL (lv2 := fun v3 => [(3, .int v3), (2, .int v2), (0, .int x0), (1, .int x1)]) dX4_joined_24 3 rfl rfl (Nat.le_of_ble_eq_true rfl) (fun _ => rfl) (fun v3 => ?_)
        refine z_goto (tgt := 4) dX4_joined_27 (by decide) ?_
        exact z_sub [2, 3, 1, 0] rfl (ih _ _ _ _ _)
set_option maxHeartbeats 4000000 in
set_option maxRecDepth 100000 in
theorem w_X4_joined (x0 : Int32) (x1 : Int32) (h : AHp) : WO tvI QX4_joined 0 0 [(0, .int x0), (1, .int x1)] [] h (m_X4_joined x0 x1 h) := by
  unfold m_X4_joined
  refine z_iconst (v := 0) dX4_joined_0 (by decide) ?_
  refine z_istore_n (lv2 := [(2, .int 0), (0, .int x0), (1, .int x1)]) dX4_joined_1 (Nat.le_of_ble_eq_true rfl) rfl ?_
  refine z_iconst (v := 0) dX4_joined_2 (by decide) ?_
  refine z_istore_n (lv2 := [(3, .int 0), (2, .int 0), (0, .int x0), (1, .int x1)]) dX4_joined_3 (Nat.le_of_ble_eq_true rfl) rfl ?_
  exact z_sub [2, 3, 1, 0] rfl (w_X4_joined_4 FU _ _ _ _ _)
theorem M_X4_joined (x0 : Int32) (x1 : Int32) (h : AHp) : MI QX4_joined 0 [.int x0, .int x1] h (m_X4_joined x0 x1 h) := MI.of (by decide) rfl rfl (Nat.le_of_ble_eq_true rfl) (w_X4_joined x0 x1 h)
set_option maxHeartbeats 4000000 in
set_option maxRecDepth 100000 in
theorem w_X4_readTimes_26 : ∀ (f : Nat) (x1 : Int32) (x3 : Int32) (x4 : Int32) (h : AHp), WO tvI QX4_readTimes 1 26 [(1, .int x1), (3, .int x3), (4, .int x4)] [] h (m_X4_readTimes_26 f x1 x3 x4 h) := by
  intro f
  induction f with
  | zero => intro x1 x3 x4 h; exact z_none
  | succ f ih =>
    intro x1 x3 x4 h
    rw [m_X4_readTimes_26]
    refine z_iload dX4_readTimes_26 2 rfl ?_
    refine z_bipush (v := 24) dX4_readTimes_28 (by decide) ?_
    refine z_ic_ge (tgt := 47) dX4_readTimes_30 (by decide) ?_ ?_
    · refine z_iload_n dX4_readTimes_47 1 rfl ?_
      exact z_iret dX4_readTimes_48 rfl
    · refine z_iload_n dX4_readTimes_33 1 rfl ?_
      refine z_iload_n dX4_readTimes_34 1 rfl ?_
      refine z_iload_n dX4_readTimes_35 0 rfl ?_
      refine z_callSI dX4_readTimes_36 (M_X4_joined _ _ _) bX4_joined lX4_61 rfl rfl (Nat.le_of_ble_eq_true rfl) (Nat.le_of_ble_eq_true rfl) (fun r1 h2 => ?_)
      refine z_ior dX4_readTimes_39 ?_
      refine z_istore_nL (lv2 := fun v3 => [(3, .int v3), (1, .int x1), (4, .int x4)]) dX4_readTimes_40 (Nat.le_of_ble_eq_true rfl) (fun _ => rfl) (fun v3 => ?_)
      refine z_iincL (lv2 := fun v4 => [(4, .int v4), (3, .int v3), (1, .int x1)]) dX4_readTimes_41 2 rfl rfl (Nat.le_of_ble_eq_true rfl) (fun _ => rfl) (fun v4 => ?_)
      refine z_goto (tgt := 26) dX4_readTimes_44 (by decide) ?_
      exact z_sub [2, 1, 0] rfl (ih _ _ _ _)
set_option maxHeartbeats 4000000 in
set_option maxRecDepth 100000 in
theorem w_X4_readTimes_74 : ∀ (f : Nat) (x1 : Int32) (x2 : Int32) (x3 : Int32) (x4 : Int32) (h : AHp), WO tvI QX4_readTimes 1 74 [(1, .int x1), (2, .int x2), (3, .int x3), (4, .int x4)] [] h (m_X4_readTimes_74 f x1 x2 x3 x4 h) := by
  intro f
  induction f with
  | zero => intro x1 x2 x3 x4 h; exact z_none
  | succ f ih =>
    intro x1 x2 x3 x4 h
    rw [m_X4_readTimes_74]
    refine z_iload dX4_readTimes_74 3 rfl ?_
    refine z_iload_n dX4_readTimes_76 1 rfl ?_
    refine z_ic_ge (tgt := 92) dX4_readTimes_77 (by decide) ?_ ?_
    · refine z_iload_n dX4_readTimes_92 2 rfl ?_
      exact z_iret dX4_readTimes_93 rfl
    · refine z_iload_n dX4_readTimes_80 2 rfl ?_
      refine z_iload_n dX4_readTimes_81 0 rfl ?_
      refine z_callSI dX4_readTimes_82 (M_X4_joined _ _ _) bX4_joined lX4_61 rfl rfl (Nat.le_of_ble_eq_true rfl) (Nat.le_of_ble_eq_true rfl) (fun r5 h6 => ?_)
      refine z_istore_n (lv2 := [(3, .int r5), (1, .int x1), (2, .int x2), (4, .int x4)]) dX4_readTimes_85 (Nat.le_of_ble_eq_true rfl) rfl ?_
      refine z_iincL (lv2 := fun v7 => [(4, .int v7), (3, .int r5), (1, .int x1), (2, .int x2)]) dX4_readTimes_86 3 rfl rfl (Nat.le_of_ble_eq_true rfl) (fun _ => rfl) (fun v7 => ?_)
      refine z_goto (tgt := 74) dX4_readTimes_89 (by decide) ?_
      exact z_sub [2, 3, 1, 0] rfl (ih _ _ _ _ _)
set_option maxHeartbeats 4000000 in
set_option maxRecDepth 100000 in
theorem w_X4_readTimes (x1 : Int32) (h : AHp) : WO tvI QX4_readTimes 1 0 [(0, .ref 33), (1, .int x1)] [] h (m_X4_readTimes x1 h) := by
  unfold m_X4_readTimes
  refine z_aload_n dX4_readTimes_0 0 rfl ?_
  refine z_getR (j := 1) fX4_9 kc_33 rfl rfl rfl (by decide) dX4_readTimes_1 ?_
  refine z_callVI dX4_readTimes_4 (M_X8_sign _) bX8_sign lX4_54 kc_1 rfl rfl (Nat.le_of_ble_eq_true rfl) (Nat.le_of_ble_eq_true rfl) (fun r8 h9 => ?_)
  refine z_istore_n (lv2 := [(2, .int r8), (0, .ref 33), (1, .int x1)]) dX4_readTimes_7 (Nat.le_of_ble_eq_true rfl) rfl ?_
  refine z_iload_n dX4_readTimes_8 0 rfl ?_
  refine z_bipush (v := 43) dX4_readTimes_9 (by decide) ?_
  refine z_ic_ne (tgt := 49) dX4_readTimes_11 (by decide) ?_ ?_
  · refine z_iload_n dX4_readTimes_49 2 rfl ?_
    refine z_istore_n (lv2 := [(3, .int x1), (2, .int r8), (0, .ref 33), (1, .int x1)]) dX4_readTimes_50 (Nat.le_of_ble_eq_true rfl) rfl ?_
    refine z_iload_n dX4_readTimes_51 1 rfl ?_
    refine z_bipush (v := 50) dX4_readTimes_52 (by decide) ?_
    refine z_ic_lt (tgt := 92) dX4_readTimes_54 (by decide) ?_ ?_
    · refine z_iload_n dX4_readTimes_92 0 rfl ?_
      exact z_iret dX4_readTimes_93 rfl
    · refine z_iload_n dX4_readTimes_57 1 rfl ?_
      refine z_bipush (v := 57) dX4_readTimes_58 (by decide) ?_
      refine z_ic_gt (tgt := 92) dX4_readTimes_60 (by decide) ?_ ?_
      · refine z_iload_n dX4_readTimes_92 0 rfl ?_
        exact z_iret dX4_readTimes_93 rfl
      · refine z_aload_n dX4_readTimes_63 2 rfl ?_
        refine z_getR (j := 1) fX4_9 kc_33 rfl rfl rfl (by decide) dX4_readTimes_64 ?_
        refine z_callVV dX4_readTimes_67 (M_X8_step _) bX8_step lX4_71 kc_1 rfl rfl (Nat.le_of_ble_eq_true rfl) (Nat.le_of_ble_eq_true rfl) (fun r10 h11 => ?_)
        refine z_bipush (v := 49) dX4_readTimes_70 (by decide) ?_
        refine z_istore (lv2 := [(4, .int 49), (3, .int x1), (2, .int r8), (0, .ref 33), (1, .int x1)]) dX4_readTimes_72 (Nat.le_of_ble_eq_true rfl) rfl ?_
        exact z_sub [4, 2, 1, 0] rfl (w_X4_readTimes_74 FU _ _ _ _ _)
  · refine z_aload_n dX4_readTimes_14 1 rfl ?_
    refine z_getR (j := 1) fX4_9 kc_33 rfl rfl rfl (by decide) dX4_readTimes_15 ?_
    refine z_callVV dX4_readTimes_18 (M_X8_step _) bX8_step lX4_71 kc_1 rfl rfl (Nat.le_of_ble_eq_true rfl) (Nat.le_of_ble_eq_true rfl) (fun r12 h13 => ?_)
    refine z_iload_n dX4_readTimes_21 2 rfl ?_
    refine z_istore_n (lv2 := [(3, .int x1), (2, .int r8), (0, .ref 33), (1, .int x1)]) dX4_readTimes_22 (Nat.le_of_ble_eq_true rfl) rfl ?_
    refine z_iconst (v := 1) dX4_readTimes_23 (by decide) ?_
    refine z_istore (lv2 := [(4, .int 1), (3, .int x1), (2, .int r8), (0, .ref 33), (1, .int x1)]) dX4_readTimes_24 (Nat.le_of_ble_eq_true rfl) rfl ?_
    exact z_sub [4, 1, 0] rfl (w_X4_readTimes_26 FU _ _ _ _)
theorem M_X4_readTimes (x1 : Int32) (h : AHp) : MI QX4_readTimes 1 [.ref 33, .int x1] h (m_X4_readTimes x1 h) := MI.of (by decide) rfl rfl (Nat.le_of_ble_eq_true rfl) (w_X4_readTimes x1 h)
set_option maxHeartbeats 4000000 in
set_option maxRecDepth 100000 in
theorem w_X11_lengths (x1 : Int32) (h : AHp) : WO tvI QX11_lengths 2 0 [(0, .ref 0), (1, .int x1)] [] h (m_X11_lengths x1 h) := by
  unfold m_X11_lengths
  refine z_iload_n dX11_lengths_0 1 rfl ?_
  refine z_callSI dX11_lengths_1 (M_X11_isThing _ _) bX11_isThing lX11_99 rfl rfl (Nat.le_of_ble_eq_true rfl) (Nat.le_of_ble_eq_true rfl) (fun r1 h2 => ?_)
  refine z_if_eq (tgt := 18) dX11_lengths_4 (by decide) ?_ ?_
  · refine z_iconst (v := -1) dX11_lengths_18 (by decide) ?_
    exact z_iret dX11_lengths_19 rfl
  · refine z_aload_n dX11_lengths_7 0 rfl ?_
    refine z_getR (j := 3) fX11_31 kc_0 rfl rfl rfl (by decide) dX11_lengths_8 ?_
    refine z_iload_n dX11_lengths_11 1 rfl ?_
    refine z_callVI dX11_lengths_12 (M_X9_sizesOf _ _) bX9_sizesOf lX11_123 kc_3 rfl rfl (Nat.le_of_ble_eq_true rfl) (Nat.le_of_ble_eq_true rfl) (fun r3 h4 => ?_)
    refine z_goto (tgt := 19) dX11_lengths_15 (by decide) ?_
    exact z_iret dX11_lengths_19 rfl
theorem M_X11_lengths (x1 : Int32) (h : AHp) : MI QX11_lengths 2 [.ref 0, .int x1] h (m_X11_lengths x1 h) := MI.of (by decide) rfl rfl (Nat.le_of_ble_eq_true rfl) (w_X11_lengths x1 h)
set_option maxHeartbeats 4000000 in
set_option maxRecDepth 100000 in
theorem w_X9_setColour (x1 : Int32) (x2 : Int32) (h : AHp) : WO tvV QX9_setColour 1 0 [(0, .ref 3), (1, .int x1), (2, .int x2)] [] h (m_X9_setColour x1 x2 h) := by
  unfold m_X9_setColour
  refine z_iload_n dX9_setColour_0 1 rfl ?_
  refine z_callSNI dX9_setColour_1 (M_X11_isSpeaker _ _) bX11_isSpeaker lX9_42 rfl rfl (Nat.le_of_ble_eq_true rfl) (Nat.le_of_ble_eq_true rfl) (fun r1 h2 => ?_)
  refine z_if_eq (tgt := 14) dX9_setColour_4 (by decide) ?_ ?_
  · exact z_vret dX9_setColour_14 rfl
  · refine z_aload_n dX9_setColour_7 0 rfl ?_
    refine z_getR (j := 5) fX9_15 kc_3 rfl rfl rfl (by decide) dX9_setColour_8 ?_
    refine z_iload_n dX9_setColour_11 1 rfl ?_
    refine z_iload_n dX9_setColour_12 2 rfl ?_
    refine z_gd (fun g4 => ?_)
    refine z_iast kc_5 dX9_setColour_13 g4 ?_
    refine z_lh (fun h3 => ?_)
    exact z_vret dX9_setColour_14 rfl
theorem M_X9_setColour (x1 : Int32) (x2 : Int32) (h : AHp) : MV QX9_setColour 1 [.ref 3, .int x1, .int x2] h (m_X9_setColour x1 x2 h) := MV.of (by decide) rfl rfl (Nat.le_of_ble_eq_true rfl) (w_X9_setColour x1 x2 h)
set_option maxHeartbeats 4000000 in
set_option maxRecDepth 100000 in
theorem w_X11_colour (x1 : Int32) (x2 : Int32) (h : AHp) : WO tvI QX11_colour 2 0 [(0, .ref 0), (1, .int x1), (2, .int x2)] [] h (m_X11_colour x1 x2 h) := by
  unfold m_X11_colour
  refine z_iload_n dX11_colour_0 1 rfl ?_
  refine z_callSI dX11_colour_1 (M_X11_isSpeaker _ _) bX11_isSpeaker lX11_126 rfl rfl (Nat.le_of_ble_eq_true rfl) (Nat.le_of_ble_eq_true rfl) (fun r1 h2 => ?_)
  refine z_if_eq (tgt := 16) dX11_colour_4 (by decide) ?_ ?_
  · refine z_iconst (v := 0) dX11_colour_16 (by decide) ?_
    exact z_zret dX11_colour_17 rfl (Or.inl rfl)
  · refine z_iload_n dX11_colour_7 2 rfl ?_
    refine z_if_lt (tgt := 16) dX11_colour_8 (by decide) ?_ ?_
    · refine z_iconst (v := 0) dX11_colour_16 (by decide) ?_
      exact z_zret dX11_colour_17 rfl (Or.inl rfl)
    · refine z_iload_n dX11_colour_11 2 rfl ?_
      refine z_iconst (v := 4) dX11_colour_12 (by decide) ?_
      refine z_ic_lt (tgt := 18) dX11_colour_13 (by decide) ?_ ?_
      · refine z_aload_n dX11_colour_18 0 rfl ?_
        refine z_getR (j := 3) fX11_31 kc_0 rfl rfl rfl (by decide) dX11_colour_19 ?_
        refine z_iload_n dX11_colour_22 1 rfl ?_
        refine z_iload_n dX11_colour_23 2 rfl ?_
        refine z_callVV dX11_colour_24 (M_X9_setColour _ _ _) bX9_setColour lX11_129 kc_3 rfl rfl (Nat.le_of_ble_eq_true rfl) (Nat.le_of_ble_eq_true rfl) (fun r3 h4 => ?_)
        refine z_iconst (v := 1) dX11_colour_27 (by decide) ?_
        exact z_zret dX11_colour_28 rfl (Or.inr rfl)
      · refine z_iconst (v := 0) dX11_colour_16 (by decide) ?_
        exact z_zret dX11_colour_17 rfl (Or.inl rfl)
theorem M_X11_colour (x1 : Int32) (x2 : Int32) (h : AHp) : MI QX11_colour 2 [.ref 0, .int x1, .int x2] h (m_X11_colour x1 x2 h) := MI.of (by decide) rfl rfl (Nat.le_of_ble_eq_true rfl) (w_X11_colour x1 x2 h)
set_option maxHeartbeats 4000000 in
set_option maxRecDepth 100000 in
theorem w_X11_isLaw (x0 : Int32) (h : AHp) : WO tvI QX11_isLaw 0 0 [(0, .int x0)] [] h (m_X11_isLaw x0 h) := by
  unfold m_X11_isLaw
  refine z_iload_n dX11_isLaw_0 0 rfl ?_
  refine z_if_eq (tgt := 9) dX11_isLaw_1 (by decide) ?_ ?_
  · refine z_iconst (v := 1) dX11_isLaw_9 (by decide) ?_
    refine z_goto (tgt := 14) dX11_isLaw_10 (by decide) ?_
    exact z_zret dX11_isLaw_14 rfl (Or.inr rfl)
  · refine z_iload_n dX11_isLaw_4 0 rfl ?_
    refine z_iconst (v := 1) dX11_isLaw_5 (by decide) ?_
    refine z_ic_ne (tgt := 13) dX11_isLaw_6 (by decide) ?_ ?_
    · refine z_iconst (v := 0) dX11_isLaw_13 (by decide) ?_
      exact z_zret dX11_isLaw_14 rfl (Or.inl rfl)
    · refine z_iconst (v := 1) dX11_isLaw_9 (by decide) ?_
      refine z_goto (tgt := 14) dX11_isLaw_10 (by decide) ?_
      exact z_zret dX11_isLaw_14 rfl (Or.inr rfl)
theorem M_X11_isLaw (x0 : Int32) (h : AHp) : MI QX11_isLaw 0 [.int x0] h (m_X11_isLaw x0 h) := MI.of (by decide) rfl rfl (Nat.le_of_ble_eq_true rfl) (w_X11_isLaw x0 h)
set_option maxHeartbeats 4000000 in
set_option maxRecDepth 100000 in
theorem w_X8_endText (h : AHp) : WO tvV QX8_endText 1 0 [(0, .ref 1)] [] h (m_X8_endText h) := by
  unfold m_X8_endText
  refine z_aload_n dX8_endText_0 0 rfl ?_
  refine z_getI fX8_23 kc_1 rfl dX8_endText_1 ?_
  refine z_aload_n dX8_endText_4 0 rfl ?_
  refine z_getI fX8_32 kc_1 rfl dX8_endText_5 ?_
  refine z_ic_ge (tgt := 16) dX8_endText_8 (by decide) ?_ ?_
  · exact z_vret dX8_endText_16 rfl
  · refine z_aload_n dX8_endText_11 0 rfl ?_
    refine z_iconst (v := 1) dX8_endText_12 (by decide) ?_
    refine z_callVV dX8_endText_13 (M_X8_fail _ _) bX8_fail lX8_45 kc_1 rfl rfl (Nat.le_of_ble_eq_true rfl) (Nat.le_of_ble_eq_true rfl) (fun r1 h2 => ?_)
    exact z_vret dX8_endText_16 rfl
theorem M_X8_endText (h : AHp) : MV QX8_endText 1 [.ref 1] h (m_X8_endText h) := MV.of (by decide) rfl rfl (Nat.le_of_ble_eq_true rfl) (w_X8_endText h)
set_option maxHeartbeats 4000000 in
set_option maxRecDepth 100000 in
theorem w_X8_isSound (h : AHp) : WO tvI QX8_isSound 0 0 [(0, .ref 1)] [] h (m_X8_isSound h) := by
  unfold m_X8_isSound
  refine z_aload_n dX8_isSound_0 0 rfl ?_
  refine z_getI fX8_35 kc_1 rfl dX8_isSound_1 ?_
  refine z_if_ne (tgt := 11) dX8_isSound_4 (by decide) ?_ ?_
  · refine z_iconst (v := 0) dX8_isSound_11 (by decide) ?_
    exact z_zret dX8_isSound_12 rfl (Or.inl rfl)
  · refine z_iconst (v := 1) dX8_isSound_7 (by decide) ?_
    refine z_goto (tgt := 12) dX8_isSound_8 (by decide) ?_
    exact z_zret dX8_isSound_12 rfl (Or.inr rfl)
theorem M_X8_isSound (h : AHp) : MI QX8_isSound 0 [.ref 1] h (m_X8_isSound h) := MI.of (by decide) rfl rfl (Nat.le_of_ble_eq_true rfl) (w_X8_isSound h)
set_option maxHeartbeats 4000000 in
set_option maxRecDepth 100000 in
theorem w_X2_openCondition {j : Nat} (hj_j : isLaw j) (h : AHp) : WO tvV QX2_openCondition 0 0 [(0, .ref j)] [] h (m_X2_openCondition j h) := by
  unfold m_X2_openCondition
  refine z_aload_n dX2_openCondition_0 0 rfl ?_
  refine z_getI fX2_40 (law_k hj_j) rfl dX2_openCondition_1 ?_
  refine z_bipush (v := 14) dX2_openCondition_4 (by decide) ?_
  refine z_ic_ge (tgt := 22) dX2_openCondition_6 (by decide) ?_ ?_
  · refine z_aload_n dX2_openCondition_22 0 rfl ?_
    refine z_iconst (v := 0) dX2_openCondition_23 (by decide) ?_
    refine z_putI fX2_46 (law_k hj_j) rfl dX2_openCondition_24 ?_
    refine z_lh (fun h1 => ?_)
    exact z_vret dX2_openCondition_27 rfl
  · refine z_aload_n dX2_openCondition_9 0 rfl ?_
    refine z_getR fX2_21 (law_k hj_j) rfl rfl (law_r3 hj_j) (Nat.succ_ne_zero _) dX2_openCondition_10 ?_
    refine z_aload_n dX2_openCondition_13 0 rfl ?_
    refine z_getI fX2_40 (law_k hj_j) rfl dX2_openCondition_14 ?_
    refine z_aload_n dX2_openCondition_17 0 rfl ?_
    refine z_getI fX2_33 (law_k hj_j) rfl dX2_openCondition_18 ?_
    refine z_gd (fun g3 => ?_)
    refine z_iast (law_k3 hj_j) dX2_openCondition_21 g3 ?_
    refine z_lh (fun h2 => ?_)
    refine z_aload_n dX2_openCondition_22 0 rfl ?_
    refine z_iconst (v := 0) dX2_openCondition_23 (by decide) ?_
    refine z_putI fX2_46 (law_k hj_j) rfl dX2_openCondition_24 ?_
    refine z_lh (fun h4 => ?_)
    exact z_vret dX2_openCondition_27 rfl
theorem M_X2_openCondition {j : Nat} (hj_j : isLaw j) (h : AHp) : MV QX2_openCondition 0 [.ref j] h (m_X2_openCondition j h) := MV.of (by decide) rfl rfl (Nat.le_of_ble_eq_true rfl) (w_X2_openCondition hj_j h)
set_option maxHeartbeats 4000000 in
set_option maxRecDepth 100000 in
theorem w_X2_land_4 {j : Nat} (hj_j : isLaw j) : ∀ (f : Nat) (x2 : Int32) (x3 : Int32) (h : AHp), WO tvV QX2_land 0 4 [(0, .ref j), (2, .int x2), (3, .int x3)] [] h (m_X2_land_4 j f x2 x3 h) := by
  intro f
  induction f with
  | zero => intro x2 x3 h; exact z_none
  | succ f ih =>
    intro x2 x3 h
    rw [m_X2_land_4]
    refine z_iload_n dX2_land_4 2 rfl ?_
    refine z_sipush (v := 256) dX2_land_5 (by decide) ?_
    refine z_ic_ge (tgt := 65) dX2_land_8 (by decide) ?_ ?_
    · exact z_vret dX2_land_65 rfl
    · refine z_iload_n dX2_land_11 1 rfl ?_
      refine z_if_lt (tgt := 65) dX2_land_12 (by decide) ?_ ?_
      · exact z_vret dX2_land_65 rfl
      · refine z_iload_n dX2_land_15 1 rfl ?_
        refine z_sipush (v := 256) dX2_land_16 (by decide) ?_
        refine z_ic_ge (tgt := 65) dX2_land_19 (by decide) ?_ ?_
        · exact z_vret dX2_land_65 rfl
        · refine z_aload_n dX2_land_22 0 rfl ?_
          refine z_getR fX2_11 (law_k hj_j) rfl rfl (law_r0 hj_j) (Nat.succ_ne_zero _) dX2_land_23 ?_
          refine z_iload_n dX2_land_26 1 rfl ?_
          refine z_gd (fun g1 => ?_)
          refine z_iald (law_k0 hj_j) dX2_land_27 g1 ?_
          refine z_iconst (v := 4) dX2_land_28 (by decide) ?_
          refine z_ishr dX2_land_29 ?_
          refine z_iconst (v := 1) dX2_land_30 (by decide) ?_
          refine z_isub dX2_land_31 ?_
          refine z_istoreL (lv2 := fun v2 => [(4, .int v2), (0, .ref j), (2, .int x2), (3, .int x3)]) dX2_land_32 (Nat.le_of_ble_eq_true rfl) (fun _ => rfl) (fun v2 => ?_)
          refine z_aload_n dX2_land_34 1 rfl ?_
          refine z_getR fX2_11 (law_k hj_j) rfl rfl (law_r0 hj_j) (Nat.succ_ne_zero _) dX2_land_35 ?_
          refine z_iload_n dX2_land_38 2 rfl ?_
          refine z_aload_n dX2_land_39 1 rfl ?_
          refine z_getR fX2_11 (law_k hj_j) rfl rfl (law_r0 hj_j) (Nat.succ_ne_zero _) dX2_land_40 ?_
          refine z_iload_n dX2_land_43 2 rfl ?_
          refine z_gd (fun g3 => ?_)
          refine z_iald (law_k0 hj_j) dX2_land_44 g3 ?_
          refine z_bipush (v := 15) dX2_land_45 (by decide) ?_
          refine z_iand dX2_land_47 ?_
          refine z_aload_n dX2_land_48 1 rfl ?_
          refine z_getI fX2_33 (law_k hj_j) rfl dX2_land_49 ?_
          refine z_iconst (v := 4) dX2_land_52 (by decide) ?_
          refine z_ishl dX2_land_53 ?_
          refine z_ior dX2_land_54 ?_
          refine z_gd (fun g5 => ?_)
          refine z_iast (law_k0 hj_j) dX2_land_55 g5 ?_
          refine z_lh (fun h4 => ?_)
          refine z_iload dX2_land_56 0 rfl ?_
          refine z_istore_n (lv2 := [(2, .int v2), (4, .int v2), (0, .ref j), (3, .int x3)]) dX2_land_58 (Nat.le_of_ble_eq_true rfl) rfl ?_
          refine z_iincL (lv2 := fun v6 => [(3, .int v6), (2, .int v2), (4, .int v2), (0, .ref j)]) dX2_land_59 3 rfl rfl (Nat.le_of_ble_eq_true rfl) (fun _ => rfl) (fun v6 => ?_)
          refine z_goto (tgt := 4) dX2_land_62 (by decide) ?_
          exact z_sub [3, 1, 0] rfl (ih _ _ _)
set_option maxHeartbeats 4000000 in
set_option maxRecDepth 100000 in
theorem w_X2_land {j : Nat} (hj_j : isLaw j) (x1 : Int32) (h : AHp) : WO tvV QX2_land 0 0 [(0, .ref j), (1, .int x1)] [] h (m_X2_land j x1 h) := by
  unfold m_X2_land
  refine z_iload_n dX2_land_0 1 rfl ?_
  refine z_istore_n (lv2 := [(2, .int x1), (0, .ref j), (1, .int x1)]) dX2_land_1 (Nat.le_of_ble_eq_true rfl) rfl ?_
  refine z_iconst (v := 0) dX2_land_2 (by decide) ?_
  refine z_istore_n (lv2 := [(3, .int 0), (2, .int x1), (0, .ref j), (1, .int x1)]) dX2_land_3 (Nat.le_of_ble_eq_true rfl) rfl ?_
  exact z_sub [2, 1, 0] rfl (w_X2_land_4 hj_j FU _ _ _)
theorem M_X2_land {j : Nat} (hj_j : isLaw j) (x1 : Int32) (h : AHp) : MV QX2_land 0 [.ref j, .int x1] h (m_X2_land j x1 h) := MV.of (by decide) rfl rfl (Nat.le_of_ble_eq_true rfl) (w_X2_land hj_j x1 h)
set_option maxHeartbeats 4000000 in
set_option maxRecDepth 100000 in
theorem w_X2_jump {j : Nat} (hj_j : isLaw j) (x1 : Int32) (x2 : Int32) (h : AHp) : WO tvI QX2_jump 0 0 [(0, .ref j), (1, .int x1), (2, .int x2)] [] h (m_X2_jump j x1 x2 h) := by
  unfold m_X2_jump
  refine z_aload_n dX2_jump_0 0 rfl ?_
  refine z_getI fX2_33 (law_k hj_j) rfl dX2_jump_1 ?_
  refine z_istore_nL (lv2 := fun v1 => [(3, .int v1), (0, .ref j), (1, .int x1), (2, .int x2)]) dX2_jump_4 (Nat.le_of_ble_eq_true rfl) (fun _ => rfl) (fun v1 => ?_)
  refine z_iload_n dX2_jump_5 0 rfl ?_
  refine z_sipush (v := 256) dX2_jump_6 (by decide) ?_
  refine z_ic_ge (tgt := 35) dX2_jump_9 (by decide) ?_ ?_
  · refine z_iload_n dX2_jump_35 0 rfl ?_
    exact z_iret dX2_jump_36 rfl
  · refine z_aload_n dX2_jump_12 1 rfl ?_
    refine z_getR fX2_11 (law_k hj_j) rfl rfl (law_r0 hj_j) (Nat.succ_ne_zero _) dX2_jump_13 ?_
    refine z_iload_n dX2_jump_16 0 rfl ?_
    refine z_iload_n dX2_jump_17 2 rfl ?_
    refine z_iload_n dX2_jump_18 3 rfl ?_
    refine z_iconst (v := 1) dX2_jump_19 (by decide) ?_
    refine z_iadd dX2_jump_20 ?_
    refine z_iconst (v := 4) dX2_jump_21 (by decide) ?_
    refine z_ishl dX2_jump_22 ?_
    refine z_ior dX2_jump_23 ?_
    refine z_gd (fun g3 => ?_)
    refine z_iast (law_k0 hj_j) dX2_jump_24 g3 ?_
    refine z_lh (fun h2 => ?_)
    refine z_aload_n dX2_jump_25 1 rfl ?_
    refine z_dup dX2_jump_26 rfl ?_
    refine z_getI fX2_33 (law_k hj_j) rfl dX2_jump_27 ?_
    refine z_iconst (v := 1) dX2_jump_30 (by decide) ?_
    refine z_iadd dX2_jump_31 ?_
    refine z_putI fX2_33 (law_k hj_j) rfl dX2_jump_32 ?_
    refine z_lh (fun h4 => ?_)
    refine z_iload_n dX2_jump_35 0 rfl ?_
    exact z_iret dX2_jump_36 rfl
theorem M_X2_jump {j : Nat} (hj_j : isLaw j) (x1 : Int32) (x2 : Int32) (h : AHp) : MI QX2_jump 0 [.ref j, .int x1, .int x2] h (m_X2_jump j x1 x2 h) := MI.of (by decide) rfl rfl (Nat.le_of_ble_eq_true rfl) (w_X2_jump hj_j x1 x2 h)
set_option maxHeartbeats 4000000 in
set_option maxRecDepth 100000 in
theorem w_X9_bitOf (x1 : Int32) (x2 : Int32) (h : AHp) : WO tvI QX9_bitOf 2 0 [(0, .ref 3), (1, .int x1), (2, .int x2)] [] h (m_X9_bitOf x1 x2 h) := by
  unfold m_X9_bitOf
  refine z_iload_n dX9_bitOf_0 2 rfl ?_
  refine z_iconst (v := 1) dX9_bitOf_1 (by decide) ?_
  refine z_ic_lt (tgt := 23) dX9_bitOf_2 (by decide) ?_ ?_
  · refine z_iconst (v := 0) dX9_bitOf_23 (by decide) ?_
    exact z_iret dX9_bitOf_24 rfl
  · refine z_iload_n dX9_bitOf_5 2 rfl ?_
    refine z_bipush (v := 24) dX9_bitOf_6 (by decide) ?_
    refine z_ic_gt (tgt := 23) dX9_bitOf_8 (by decide) ?_ ?_
    · refine z_iconst (v := 0) dX9_bitOf_23 (by decide) ?_
      exact z_iret dX9_bitOf_24 rfl
    · refine z_aload_n dX9_bitOf_11 0 rfl ?_
      refine z_iload_n dX9_bitOf_12 1 rfl ?_
      refine z_callVI dX9_bitOf_13 (M_X9_sizesOf _ _) bX9_sizesOf lX9_38 kc_3 rfl rfl (Nat.le_of_ble_eq_true rfl) (Nat.le_of_ble_eq_true rfl) (fun r1 h2 => ?_)
      refine z_iconst (v := 1) dX9_bitOf_16 (by decide) ?_
      refine z_iload_n dX9_bitOf_17 2 rfl ?_
      refine z_ishl dX9_bitOf_18 ?_
      refine z_iand dX9_bitOf_19 ?_
      refine z_goto (tgt := 24) dX9_bitOf_20 (by decide) ?_
      exact z_iret dX9_bitOf_24 rfl
theorem M_X9_bitOf (x1 : Int32) (x2 : Int32) (h : AHp) : MI QX9_bitOf 2 [.ref 3, .int x1, .int x2] h (m_X9_bitOf x1 x2 h) := MI.of (by decide) rfl rfl (Nat.le_of_ble_eq_true rfl) (w_X9_bitOf x1 x2 h)
set_option maxHeartbeats 4000000 in
set_option maxRecDepth 100000 in
theorem w_X7_has (x1 : Int32) (h : AHp) : WO tvI QX7_has 0 0 [(0, .ref 42), (1, .int x1)] [] h (m_X7_has x1 h) := by
  unfold m_X7_has
  refine z_iload_n dX7_has_0 1 rfl ?_
  refine z_if_lt (tgt := 23) dX7_has_1 (by decide) ?_ ?_
  · refine z_iconst (v := 0) dX7_has_23 (by decide) ?_
    exact z_zret dX7_has_24 rfl (Or.inl rfl)
  · refine z_iload_n dX7_has_4 1 rfl ?_
    refine z_aload_n dX7_has_5 0 rfl ?_
    refine z_getI fX7_21 kc_42 rfl dX7_has_6 ?_
    refine z_ic_ge (tgt := 23) dX7_has_9 (by decide) ?_ ?_
    · refine z_iconst (v := 0) dX7_has_23 (by decide) ?_
      exact z_zret dX7_has_24 rfl (Or.inl rfl)
    · refine z_iload_n dX7_has_12 1 rfl ?_
      refine z_sipush (v := 200) dX7_has_13 (by decide) ?_
      refine z_ic_ge (tgt := 23) dX7_has_16 (by decide) ?_ ?_
      · refine z_iconst (v := 0) dX7_has_23 (by decide) ?_
        exact z_zret dX7_has_24 rfl (Or.inl rfl)
      · refine z_iconst (v := 1) dX7_has_19 (by decide) ?_
        refine z_goto (tgt := 24) dX7_has_20 (by decide) ?_
        exact z_zret dX7_has_24 rfl (Or.inr rfl)
theorem M_X7_has (x1 : Int32) (h : AHp) : MI QX7_has 0 [.ref 42, .int x1] h (m_X7_has x1 h) := MI.of (by decide) rfl rfl (Nat.le_of_ble_eq_true rfl) (w_X7_has x1 h)
set_option maxHeartbeats 4000000 in
set_option maxRecDepth 100000 in
theorem w_X7_spanAt (x1 : Int32) (h : AHp) : WO tvI QX7_spanAt 1 0 [(0, .ref 42), (1, .int x1)] [] h (m_X7_spanAt x1 h) := by
  unfold m_X7_spanAt
  refine z_aload_n dX7_spanAt_0 0 rfl ?_
  refine z_iload_n dX7_spanAt_1 1 rfl ?_
  refine z_callVI dX7_spanAt_2 (M_X7_has _ _) bX7_has lX7_28 kc_42 rfl rfl (Nat.le_of_ble_eq_true rfl) (Nat.le_of_ble_eq_true rfl) (fun r1 h2 => ?_)
  refine z_if_eq (tgt := 17) dX7_spanAt_5 (by decide) ?_ ?_
  · refine z_iconst (v := 0) dX7_spanAt_17 (by decide) ?_
    exact z_iret dX7_spanAt_18 rfl
  · refine z_aload_n dX7_spanAt_8 0 rfl ?_
    refine z_getR (j := 45) fX7_18 kc_42 rfl rfl rfl (by decide) dX7_spanAt_9 ?_
    refine z_iload_n dX7_spanAt_12 1 rfl ?_
    refine z_gd (fun g3 => ?_)
    refine z_iald kc_45 dX7_spanAt_13 g3 ?_
    refine z_goto (tgt := 18) dX7_spanAt_14 (by decide) ?_
    exact z_iret dX7_spanAt_18 rfl
theorem M_X7_spanAt (x1 : Int32) (h : AHp) : MI QX7_spanAt 1 [.ref 42, .int x1] h (m_X7_spanAt x1 h) := MI.of (by decide) rfl rfl (Nat.le_of_ble_eq_true rfl) (w_X7_spanAt x1 h)
set_option maxHeartbeats 4000000 in
set_option maxRecDepth 100000 in
theorem w_X7_speakerAt (x1 : Int32) (h : AHp) : WO tvI QX7_speakerAt 1 0 [(0, .ref 42), (1, .int x1)] [] h (m_X7_speakerAt x1 h) := by
  unfold m_X7_speakerAt
  refine z_aload_n dX7_speakerAt_0 0 rfl ?_
  refine z_iload_n dX7_speakerAt_1 1 rfl ?_
  refine z_callVI dX7_speakerAt_2 (M_X7_has _ _) bX7_has lX7_28 kc_42 rfl rfl (Nat.le_of_ble_eq_true rfl) (Nat.le_of_ble_eq_true rfl) (fun r1 h2 => ?_)
  refine z_if_eq (tgt := 17) dX7_speakerAt_5 (by decide) ?_ ?_
  · refine z_iconst (v := -1) dX7_speakerAt_17 (by decide) ?_
    exact z_iret dX7_speakerAt_18 rfl
  · refine z_aload_n dX7_speakerAt_8 0 rfl ?_
    refine z_getR (j := 43) fX7_9 kc_42 rfl rfl rfl (by decide) dX7_speakerAt_9 ?_
    refine z_iload_n dX7_speakerAt_12 1 rfl ?_
    refine z_gd (fun g3 => ?_)
    refine z_iald kc_43 dX7_speakerAt_13 g3 ?_
    refine z_goto (tgt := 18) dX7_speakerAt_14 (by decide) ?_
    exact z_iret dX7_speakerAt_18 rfl
theorem M_X7_speakerAt (x1 : Int32) (h : AHp) : MI QX7_speakerAt 1 [.ref 42, .int x1] h (m_X7_speakerAt x1 h) := MI.of (by decide) rfl rfl (Nat.le_of_ble_eq_true rfl) (w_X7_speakerAt x1 h)
set_option maxHeartbeats 4000000 in
set_option maxRecDepth 100000 in
theorem w_X11_standNow (h : AHp) : WO tvV QX11_standNow 3 0 [(0, .ref 0)] [] h (m_X11_standNow h) := by
  unfold m_X11_standNow
  refine z_aload_n dX11_standNow_0 0 rfl ?_
  refine z_getR (j := 3) fX11_31 kc_0 rfl rfl rfl (by decide) dX11_standNow_1 ?_
  refine z_aload_n dX11_standNow_4 0 rfl ?_
  refine z_getR (j := 42) fX11_38 kc_0 rfl rfl rfl (by decide) dX11_standNow_5 ?_
  refine z_aload_n dX11_standNow_8 0 rfl ?_
  refine z_getR (j := 42) fX11_38 kc_0 rfl rfl rfl (by decide) dX11_standNow_9 ?_
  refine z_getIN fX11_157 kc_42 rfl dX11_standNow_12 ?_
  refine z_iconst (v := 1) dX11_standNow_15 (by decide) ?_
  refine z_isub dX11_standNow_16 ?_
  refine z_callVI dX11_standNow_17 (M_X7_spanAt _ _) bX7_spanAt lX11_170 kc_42 rfl rfl (Nat.le_of_ble_eq_true rfl) (Nat.le_of_ble_eq_true rfl) (fun r1 h2 => ?_)
  refine z_aload_n dX11_standNow_20 0 rfl ?_
  refine z_getR (j := 42) fX11_38 kc_0 rfl rfl rfl (by decide) dX11_standNow_21 ?_
  refine z_aload_n dX11_standNow_24 0 rfl ?_
  refine z_getR (j := 42) fX11_38 kc_0 rfl rfl rfl (by decide) dX11_standNow_25 ?_
  refine z_getIN fX11_157 kc_42 rfl dX11_standNow_28 ?_
  refine z_iconst (v := 2) dX11_standNow_31 (by decide) ?_
  refine z_isub dX11_standNow_32 ?_
  refine z_callVI dX11_standNow_33 (M_X7_spanAt _ _) bX7_spanAt lX11_170 kc_42 rfl rfl (Nat.le_of_ble_eq_true rfl) (Nat.le_of_ble_eq_true rfl) (fun r3 h4 => ?_)
  refine z_aload_n dX11_standNow_36 0 rfl ?_
  refine z_getR (j := 42) fX11_38 kc_0 rfl rfl rfl (by decide) dX11_standNow_37 ?_
  refine z_aload_n dX11_standNow_40 0 rfl ?_
  refine z_getR (j := 42) fX11_38 kc_0 rfl rfl rfl (by decide) dX11_standNow_41 ?_
  refine z_getIN fX11_157 kc_42 rfl dX11_standNow_44 ?_
  refine z_iconst (v := 1) dX11_standNow_47 (by decide) ?_
  refine z_isub dX11_standNow_48 ?_
  refine z_callVI dX11_standNow_49 (M_X7_speakerAt _ _) bX7_speakerAt lX11_164 kc_42 rfl rfl (Nat.le_of_ble_eq_true rfl) (Nat.le_of_ble_eq_true rfl) (fun r5 h6 => ?_)
  refine z_aload_n dX11_standNow_52 0 rfl ?_
  refine z_getR (j := 42) fX11_38 kc_0 rfl rfl rfl (by decide) dX11_standNow_53 ?_
  refine z_getIN fX11_157 kc_42 rfl dX11_standNow_56 ?_
  refine z_callVV dX11_standNow_59 (M_X9_stand _ _ _ _ _) bX9_stand lX11_284 kc_3 rfl rfl (Nat.le_of_ble_eq_true rfl) (Nat.le_of_ble_eq_true rfl) (fun r7 h8 => ?_)
  exact z_vret dX11_standNow_62 rfl
theorem M_X11_standNow (h : AHp) : MV QX11_standNow 3 [.ref 0] h (m_X11_standNow h) := MV.of (by decide) rfl rfl (Nat.le_of_ble_eq_true rfl) (w_X11_standNow h)
set_option maxHeartbeats 4000000 in
set_option maxRecDepth 100000 in
theorem w_X11_may (x1 : Int32) (x2 : Int32) (x3 : Int32) (x4 : Int32) (h : AHp) : WO tvI QX11_may 4 0 [(0, .ref 0), (1, .int x1), (2, .int x2), (3, .int x3), (4, .int x4)] [] h (m_X11_may x1 x2 x3 x4 h) := by
  unfold m_X11_may
  refine z_iload_n dX11_may_0 1 rfl ?_
  refine z_callSI dX11_may_1 (M_X11_isLaw _ _) bX11_isLaw lX11_132 rfl rfl (Nat.le_of_ble_eq_true rfl) (Nat.le_of_ble_eq_true rfl) (fun r1 h2 => ?_)
  refine z_if_eq (tgt := 21) dX11_may_4 (by decide) ?_ ?_
  · refine z_iconst (v := -1) dX11_may_21 (by decide) ?_
    exact z_iret dX11_may_22 rfl
  · refine z_iload_n dX11_may_7 2 rfl ?_
    refine z_callSI dX11_may_8 (M_X11_isSpeaker _ _) bX11_isSpeaker lX11_126 rfl rfl (Nat.le_of_ble_eq_true rfl) (Nat.le_of_ble_eq_true rfl) (fun r3 h4 => ?_)
    refine z_if_eq (tgt := 21) dX11_may_11 (by decide) ?_ ?_
    · refine z_iconst (v := -1) dX11_may_21 (by decide) ?_
      exact z_iret dX11_may_22 rfl
    · refine z_iload_n dX11_may_14 3 rfl ?_
      refine z_callSI dX11_may_15 (M_X11_isThing _ _) bX11_isThing lX11_99 rfl rfl (Nat.le_of_ble_eq_true rfl) (Nat.le_of_ble_eq_true rfl) (fun r5 h6 => ?_)
      refine z_if_ne (tgt := 23) dX11_may_18 (by decide) ?_ ?_
      · refine z_aload_n dX11_may_23 0 rfl ?_
        refine z_getR (j := 3) fX11_31 kc_0 rfl rfl rfl (by decide) dX11_may_24 ?_
        refine z_iload_n dX11_may_27 3 rfl ?_
        refine z_iload dX11_may_28 4 rfl ?_
        refine z_callVI dX11_may_30 (M_X9_bitOf _ _ _) bX9_bitOf lX11_146 kc_3 rfl rfl (Nat.le_of_ble_eq_true rfl) (Nat.le_of_ble_eq_true rfl) (fun r7 h8 => ?_)
        refine z_istore (lv2 := [(5, .int r7), (0, .ref 0), (1, .int x1), (2, .int x2), (3, .int x3), (4, .int x4)]) dX11_may_33 (Nat.le_of_ble_eq_true rfl) rfl ?_
        refine z_iload dX11_may_35 0 rfl ?_
        refine z_if_ne (tgt := 43) dX11_may_37 (by decide) ?_ ?_
        · refine z_aload_n dX11_may_43 1 rfl ?_
          refine z_callVV dX11_may_44 (M_X11_standNow _) bX11_standNow lX11_150 kc_0 rfl rfl (Nat.le_of_ble_eq_true rfl) (Nat.le_of_ble_eq_true rfl) (fun r9 h10 => ?_)
          refine z_aload_n dX11_may_47 1 rfl ?_
          refine z_getR (j := 3) fX11_31 kc_0 rfl rfl rfl (by decide) dX11_may_48 ?_
          refine z_iconst (v := 1) dX11_may_51 (by decide) ?_
          refine z_iload_n dX11_may_52 2 rfl ?_
          refine z_ishl dX11_may_53 ?_
          refine z_iload_n dX11_may_54 3 rfl ?_
          refine z_iload_n dX11_may_55 4 rfl ?_
          refine z_iload dX11_may_56 0 rfl ?_
          refine z_callVI dX11_may_58 (M_X9_lets _ _ _ _ _) bX9_lets lX11_153 kc_3 rfl rfl (Nat.le_of_ble_eq_true rfl) (Nat.le_of_ble_eq_true rfl) (fun r11 h12 => ?_)
          refine z_if_ne (tgt := 68) dX11_may_61 (by decide) ?_ ?_
          · refine z_iconst (v := 1) dX11_may_68 (by decide) ?_
            exact z_iret dX11_may_69 rfl
          · refine z_iconst (v := 0) dX11_may_64 (by decide) ?_
            refine z_goto (tgt := 69) dX11_may_65 (by decide) ?_
            exact z_iret dX11_may_69 rfl
        · refine z_bipush (v := -2) dX11_may_40 (by decide) ?_
          exact z_iret dX11_may_42 rfl
      · refine z_iconst (v := -1) dX11_may_21 (by decide) ?_
        exact z_iret dX11_may_22 rfl
theorem M_X11_may (x1 : Int32) (x2 : Int32) (x3 : Int32) (x4 : Int32) (h : AHp) : MI QX11_may 4 [.ref 0, .int x1, .int x2, .int x3, .int x4] h (m_X11_may x1 x2 x3 x4 h) := MI.of (by decide) rfl rfl (Nat.le_of_ble_eq_true rfl) (w_X11_may x1 x2 x3 x4 h)
set_option maxHeartbeats 4000000 in
set_option maxRecDepth 100000 in
theorem w_X11_ways (x1 : Int32) (x2 : Int32) (x3 : Int32) (h : AHp) : WO tvI QX11_ways 4 0 [(0, .ref 0), (1, .int x1), (2, .int x2), (3, .int x3)] [] h (m_X11_ways x1 x2 x3 h) := by
  unfold m_X11_ways
  refine z_iload_n dX11_ways_0 1 rfl ?_
  refine z_callSI dX11_ways_1 (M_X11_isLaw _ _) bX11_isLaw lX11_132 rfl rfl (Nat.le_of_ble_eq_true rfl) (Nat.le_of_ble_eq_true rfl) (fun r1 h2 => ?_)
  refine z_if_eq (tgt := 21) dX11_ways_4 (by decide) ?_ ?_
  · refine z_iconst (v := -1) dX11_ways_21 (by decide) ?_
    exact z_iret dX11_ways_22 rfl
  · refine z_iload_n dX11_ways_7 2 rfl ?_
    refine z_callSI dX11_ways_8 (M_X11_isSpeaker _ _) bX11_isSpeaker lX11_126 rfl rfl (Nat.le_of_ble_eq_true rfl) (Nat.le_of_ble_eq_true rfl) (fun r3 h4 => ?_)
    refine z_if_eq (tgt := 21) dX11_ways_11 (by decide) ?_ ?_
    · refine z_iconst (v := -1) dX11_ways_21 (by decide) ?_
      exact z_iret dX11_ways_22 rfl
    · refine z_iload_n dX11_ways_14 3 rfl ?_
      refine z_callSI dX11_ways_15 (M_X11_isThing _ _) bX11_isThing lX11_99 rfl rfl (Nat.le_of_ble_eq_true rfl) (Nat.le_of_ble_eq_true rfl) (fun r5 h6 => ?_)
      refine z_if_ne (tgt := 23) dX11_ways_18 (by decide) ?_ ?_
      · refine z_aload_n dX11_ways_23 0 rfl ?_
        refine z_callVV dX11_ways_24 (M_X11_standNow _) bX11_standNow lX11_150 kc_0 rfl rfl (Nat.le_of_ble_eq_true rfl) (Nat.le_of_ble_eq_true rfl) (fun r7 h8 => ?_)
        refine z_aload_n dX11_ways_27 0 rfl ?_
        refine z_getR (j := 3) fX11_31 kc_0 rfl rfl rfl (by decide) dX11_ways_28 ?_
        refine z_iconst (v := 1) dX11_ways_31 (by decide) ?_
        refine z_iload_n dX11_ways_32 1 rfl ?_
        refine z_ishl dX11_ways_33 ?_
        refine z_iload_n dX11_ways_34 2 rfl ?_
        refine z_iload_n dX11_ways_35 3 rfl ?_
        refine z_aload_n dX11_ways_36 0 rfl ?_
        refine z_getR (j := 3) fX11_31 kc_0 rfl rfl rfl (by decide) dX11_ways_37 ?_
        refine z_iload_n dX11_ways_40 3 rfl ?_
        refine z_callVI dX11_ways_41 (M_X9_sizesOf _ _) bX9_sizesOf lX11_123 kc_3 rfl rfl (Nat.le_of_ble_eq_true rfl) (Nat.le_of_ble_eq_true rfl) (fun r9 h10 => ?_)
        refine z_callVI dX11_ways_44 (M_X9_lets _ _ _ _ _) bX9_lets lX11_153 kc_3 rfl rfl (Nat.le_of_ble_eq_true rfl) (Nat.le_of_ble_eq_true rfl) (fun r11 h12 => ?_)
        exact z_iret dX11_ways_47 rfl
      · refine z_iconst (v := -1) dX11_ways_21 (by decide) ?_
        exact z_iret dX11_ways_22 rfl
theorem M_X11_ways (x1 : Int32) (x2 : Int32) (x3 : Int32) (h : AHp) : MI QX11_ways 4 [.ref 0, .int x1, .int x2, .int x3] h (m_X11_ways x1 x2 x3 h) := MI.of (by decide) rfl rfl (Nat.le_of_ble_eq_true rfl) (w_X11_ways x1 x2 x3 h)
set_option maxHeartbeats 4000000 in
set_option maxRecDepth 100000 in
theorem w_X7_add (x1 : Int32) (x2 : Int32) (x3 : Int32) (h : AHp) : WO tvV QX7_add 0 0 [(0, .ref 42), (1, .int x1), (2, .int x2), (3, .int x3)] [] h (m_X7_add x1 x2 x3 h) := by
  unfold m_X7_add
  refine z_aload_n dX7_add_0 0 rfl ?_
  refine z_getI fX7_21 kc_42 rfl dX7_add_1 ?_
  refine z_sipush (v := 200) dX7_add_4 (by decide) ?_
  refine z_ic_ge (tgt := 60) dX7_add_7 (by decide) ?_ ?_
  · exact z_vret dX7_add_60 rfl
  · refine z_aload_n dX7_add_10 0 rfl ?_
    refine z_getR (j := 43) fX7_9 kc_42 rfl rfl rfl (by decide) dX7_add_11 ?_
    refine z_aload_n dX7_add_14 0 rfl ?_
    refine z_getI fX7_21 kc_42 rfl dX7_add_15 ?_
    refine z_iload_n dX7_add_18 1 rfl ?_
    refine z_gd (fun g2 => ?_)
    refine z_iast kc_43 dX7_add_19 g2 ?_
    refine z_lh (fun h1 => ?_)
    refine z_aload_n dX7_add_20 0 rfl ?_
    refine z_getR (j := 44) fX7_15 kc_42 rfl rfl rfl (by decide) dX7_add_21 ?_
    refine z_aload_n dX7_add_24 0 rfl ?_
    refine z_getI fX7_21 kc_42 rfl dX7_add_25 ?_
    refine z_iload_n dX7_add_28 2 rfl ?_
    refine z_gd (fun g4 => ?_)
    refine z_iast kc_44 dX7_add_29 g4 ?_
    refine z_lh (fun h3 => ?_)
    refine z_aload_n dX7_add_30 0 rfl ?_
    refine z_getR (j := 45) fX7_18 kc_42 rfl rfl rfl (by decide) dX7_add_31 ?_
    refine z_aload_n dX7_add_34 0 rfl ?_
    refine z_getI fX7_21 kc_42 rfl dX7_add_35 ?_
    refine z_iload_n dX7_add_38 3 rfl ?_
    refine z_gd (fun g6 => ?_)
    refine z_iast kc_45 dX7_add_39 g6 ?_
    refine z_lh (fun h5 => ?_)
    refine z_aload_n dX7_add_40 0 rfl ?_
    refine z_dup dX7_add_41 rfl ?_
    refine z_getI fX7_21 kc_42 rfl dX7_add_42 ?_
    refine z_iconst (v := 1) dX7_add_45 (by decide) ?_
    refine z_iadd dX7_add_46 ?_
    refine z_putI fX7_21 kc_42 rfl dX7_add_47 ?_
    refine z_lh (fun h7 => ?_)
    refine z_aload_n dX7_add_50 0 rfl ?_
    refine z_dup dX7_add_51 rfl ?_
    refine z_getI fX7_25 kc_42 rfl dX7_add_52 ?_
    refine z_iload_n dX7_add_55 3 rfl ?_
    refine z_iadd dX7_add_56 ?_
    refine z_putI fX7_25 kc_42 rfl dX7_add_57 ?_
    refine z_lh (fun h8 => ?_)
    exact z_vret dX7_add_60 rfl
theorem M_X7_add (x1 : Int32) (x2 : Int32) (x3 : Int32) (h : AHp) : MV QX7_add 0 [.ref 42, .int x1, .int x2, .int x3] h (m_X7_add x1 x2 x3 h) := MV.of (by decide) rfl rfl (Nat.le_of_ble_eq_true rfl) (w_X7_add x1 x2 x3 h)
set_option maxHeartbeats 4000000 in
set_option maxRecDepth 100000 in
theorem w_X11_say (x1 : Int32) (x2 : Int32) (x3 : Int32) (h : AHp) : WO tvI QX11_say 4 0 [(0, .ref 0), (1, .int x1), (2, .int x2), (3, .int x3)] [] h (m_X11_say x1 x2 x3 h) := by
  unfold m_X11_say
  refine z_iload_n dX11_say_0 1 rfl ?_
  refine z_callSI dX11_say_1 (M_X11_isSpeaker _ _) bX11_isSpeaker lX11_126 rfl rfl (Nat.le_of_ble_eq_true rfl) (Nat.le_of_ble_eq_true rfl) (fun r1 h2 => ?_)
  refine z_if_eq (tgt := 27) dX11_say_4 (by decide) ?_ ?_
  · refine z_iconst (v := -1) dX11_say_27 (by decide) ?_
    exact z_iret dX11_say_28 rfl
  · refine z_iload_n dX11_say_7 2 rfl ?_
    refine z_callSI dX11_say_8 (M_X11_isThing _ _) bX11_isThing lX11_99 rfl rfl (Nat.le_of_ble_eq_true rfl) (Nat.le_of_ble_eq_true rfl) (fun r3 h4 => ?_)
    refine z_if_eq (tgt := 27) dX11_say_11 (by decide) ?_ ?_
    · refine z_iconst (v := -1) dX11_say_27 (by decide) ?_
      exact z_iret dX11_say_28 rfl
    · refine z_aload_n dX11_say_14 0 rfl ?_
      refine z_getR (j := 42) fX11_38 kc_0 rfl rfl rfl (by decide) dX11_say_15 ?_
      refine z_getIN fX11_157 kc_42 rfl dX11_say_18 ?_
      refine z_sipush (v := 200) dX11_say_21 (by decide) ?_
      refine z_ic_lt (tgt := 29) dX11_say_24 (by decide) ?_ ?_
      · refine z_aload_n dX11_say_29 0 rfl ?_
        refine z_getR (j := 3) fX11_31 kc_0 rfl rfl rfl (by decide) dX11_say_30 ?_
        refine z_iload_n dX11_say_33 2 rfl ?_
        refine z_iload_n dX11_say_34 3 rfl ?_
        refine z_callVI dX11_say_35 (M_X9_bitOf _ _ _) bX9_bitOf lX11_146 kc_3 rfl rfl (Nat.le_of_ble_eq_true rfl) (Nat.le_of_ble_eq_true rfl) (fun r5 h6 => ?_)
        refine z_istore (lv2 := [(4, .int r5), (0, .ref 0), (1, .int x1), (2, .int x2), (3, .int x3)]) dX11_say_38 (Nat.le_of_ble_eq_true rfl) rfl ?_
        refine z_iload dX11_say_40 0 rfl ?_
        refine z_if_ne (tgt := 48) dX11_say_42 (by decide) ?_ ?_
        · refine z_aload_n dX11_say_48 1 rfl ?_
          refine z_callVV dX11_say_49 (M_X11_standNow _) bX11_standNow lX11_150 kc_0 rfl rfl (Nat.le_of_ble_eq_true rfl) (Nat.le_of_ble_eq_true rfl) (fun r7 h8 => ?_)
          refine z_aload_n dX11_say_52 1 rfl ?_
          refine z_getR (j := 3) fX11_31 kc_0 rfl rfl rfl (by decide) dX11_say_53 ?_
          refine z_iconst (v := 1) dX11_say_56 (by decide) ?_
          refine z_iload_n dX11_say_57 2 rfl ?_
          refine z_iload_n dX11_say_58 3 rfl ?_
          refine z_iload dX11_say_59 0 rfl ?_
          refine z_callVI dX11_say_61 (M_X9_lets _ _ _ _ _) bX9_lets lX11_153 kc_3 rfl rfl (Nat.le_of_ble_eq_true rfl) (Nat.le_of_ble_eq_true rfl) (fun r9 h10 => ?_)
          refine z_if_ne (tgt := 70) dX11_say_64 (by decide) ?_ ?_
          · refine z_aload_n dX11_say_70 1 rfl ?_
            refine z_getR (j := 42) fX11_38 kc_0 rfl rfl rfl (by decide) dX11_say_71 ?_
            refine z_iload_n dX11_say_74 2 rfl ?_
            refine z_iload_n dX11_say_75 3 rfl ?_
            refine z_iload_n dX11_say_76 4 rfl ?_
            refine z_callVV dX11_say_77 (M_X7_add _ _ _ _) bX7_add lX11_160 kc_42 rfl rfl (Nat.le_of_ble_eq_true rfl) (Nat.le_of_ble_eq_true rfl) (fun r11 h12 => ?_)
            refine z_aload_n dX11_say_80 1 rfl ?_
            refine z_getR (j := 42) fX11_38 kc_0 rfl rfl rfl (by decide) dX11_say_81 ?_
            refine z_getIN fX11_157 kc_42 rfl dX11_say_84 ?_
            exact z_iret dX11_say_87 rfl
          · refine z_bipush (v := -3) dX11_say_67 (by decide) ?_
            exact z_iret dX11_say_69 rfl
        · refine z_bipush (v := -2) dX11_say_45 (by decide) ?_
          exact z_iret dX11_say_47 rfl
      · refine z_iconst (v := -1) dX11_say_27 (by decide) ?_
        exact z_iret dX11_say_28 rfl
theorem M_X11_say (x1 : Int32) (x2 : Int32) (x3 : Int32) (h : AHp) : MI QX11_say 4 [.ref 0, .int x1, .int x2, .int x3] h (m_X11_say x1 x2 x3 h) := MI.of (by decide) rfl rfl (Nat.le_of_ble_eq_true rfl) (w_X11_say x1 x2 x3 h)
set_option maxHeartbeats 4000000 in
set_option maxRecDepth 100000 in
theorem w_X7_thingAt (x1 : Int32) (h : AHp) : WO tvI QX7_thingAt 1 0 [(0, .ref 42), (1, .int x1)] [] h (m_X7_thingAt x1 h) := by
  unfold m_X7_thingAt
  refine z_aload_n dX7_thingAt_0 0 rfl ?_
  refine z_iload_n dX7_thingAt_1 1 rfl ?_
  refine z_callVI dX7_thingAt_2 (M_X7_has _ _) bX7_has lX7_28 kc_42 rfl rfl (Nat.le_of_ble_eq_true rfl) (Nat.le_of_ble_eq_true rfl) (fun r1 h2 => ?_)
  refine z_if_eq (tgt := 17) dX7_thingAt_5 (by decide) ?_ ?_
  · refine z_iconst (v := -1) dX7_thingAt_17 (by decide) ?_
    exact z_iret dX7_thingAt_18 rfl
  · refine z_aload_n dX7_thingAt_8 0 rfl ?_
    refine z_getR (j := 44) fX7_15 kc_42 rfl rfl rfl (by decide) dX7_thingAt_9 ?_
    refine z_iload_n dX7_thingAt_12 1 rfl ?_
    refine z_gd (fun g3 => ?_)
    refine z_iald kc_44 dX7_thingAt_13 g3 ?_
    refine z_goto (tgt := 18) dX7_thingAt_14 (by decide) ?_
    exact z_iret dX7_thingAt_18 rfl
theorem M_X7_thingAt (x1 : Int32) (h : AHp) : MI QX7_thingAt 1 [.ref 42, .int x1] h (m_X7_thingAt x1 h) := MI.of (by decide) rfl rfl (Nat.le_of_ble_eq_true rfl) (w_X7_thingAt x1 h)
set_option maxHeartbeats 4000000 in
set_option maxRecDepth 100000 in
theorem w_X2_pay_91 {j : Nat} (hj_j : isLaw j) (x3 : Int32) (s0 : Int32) (h : AHp) : WO tvI QX2_pay 1 91 [(0, .ref j), (3, .int x3)] [.int s0] h (m_X2_pay_91 j x3 s0 h) := by
  unfold m_X2_pay_91
  refine z_istore (lv2 := [(4, .int s0), (0, .ref j), (3, .int x3)]) dX2_pay_91 (Nat.le_of_ble_eq_true rfl) rfl ?_
  refine z_iload dX2_pay_93 0 rfl ?_
  refine z_if_eq (tgt := 102) dX2_pay_95 (by decide) ?_ ?_
  · refine z_iconst (v := 0) dX2_pay_102 (by decide) ?_
    refine z_sipush (v := 999) dX2_pay_103 (by decide) ?_
    refine z_aload_n dX2_pay_106 1 rfl ?_
    refine z_getR fX2_15 (law_k hj_j) rfl rfl (law_r1 hj_j) (Nat.succ_ne_zero _) dX2_pay_107 ?_
    refine z_iload_n dX2_pay_110 2 rfl ?_
    refine z_gd (fun g1 => ?_)
    refine z_iald (law_k1 hj_j) dX2_pay_111 g1 ?_
    refine z_mmin dX2_pay_112 lX2_59 w_mmin (Nat.le_of_ble_eq_true rfl) (Nat.le_of_ble_eq_true rfl) ?_
    refine z_mmax dX2_pay_115 lX2_64 w_mmax (Nat.le_of_ble_eq_true rfl) (Nat.le_of_ble_eq_true rfl) ?_
    exact z_iret dX2_pay_118 rfl
  · refine z_iconst (v := 0) dX2_pay_98 (by decide) ?_
    refine z_goto (tgt := 118) dX2_pay_99 (by decide) ?_
    exact z_iret dX2_pay_118 rfl
set_option maxHeartbeats 4000000 in
set_option maxRecDepth 100000 in
theorem w_X2_pay_14 {j : Nat} (hj_j : isLaw j) : ∀ (f : Nat) (x2 : Int32) (h : AHp), WO tvI QX2_pay 1 14 [(0, .ref j), (2, .int x2)] [] h (m_X2_pay_14 j f x2 h) := by
  intro f
  induction f with
  | zero => intro x2 h; exact z_none
  | succ f ih =>
    intro x2 h
    rw [m_X2_pay_14]
    refine z_iload_n dX2_pay_14 1 rfl ?_
    refine z_aload_n dX2_pay_15 0 rfl ?_
    refine z_getI fX2_40 (law_k hj_j) rfl dX2_pay_16 ?_
    refine z_ic_ge (tgt := 125) dX2_pay_19 (by decide) ?_ ?_
    · refine z_iconst (v := 0) dX2_pay_125 (by decide) ?_
      exact z_iret dX2_pay_126 rfl
    · refine z_iload_n dX2_pay_22 1 rfl ?_
      refine z_bipush (v := 14) dX2_pay_23 (by decide) ?_
      refine z_ic_ge (tgt := 125) dX2_pay_25 (by decide) ?_ ?_
      · refine z_iconst (v := 0) dX2_pay_125 (by decide) ?_
        exact z_iret dX2_pay_126 rfl
      · refine z_aload_n dX2_pay_28 0 rfl ?_
        refine z_getR fX2_27 (law_k hj_j) rfl rfl (law_r5 hj_j) (Nat.succ_ne_zero _) dX2_pay_29 ?_
        refine z_iload_n dX2_pay_32 1 rfl ?_
        refine z_gd (fun g2 => ?_)
        refine z_iald (law_k5 hj_j) dX2_pay_33 g2 ?_
        refine z_istore_nL (lv2 := fun v3 => [(3, .int v3), (0, .ref j), (2, .int x2)]) dX2_pay_34 (Nat.le_of_ble_eq_true rfl) (fun _ => rfl) (fun v3 => ?_)
        refine z_iload_n dX2_pay_35 0 rfl ?_
        refine z_if_lt (tgt := 119) dX2_pay_36 (by decide) ?_ ?_
        · refine z_iincL (lv2 := fun v4 => [(2, .int v4), (3, .int v3), (0, .ref j)]) dX2_pay_119 2 rfl rfl (Nat.le_of_ble_eq_true rfl) (fun _ => rfl) (fun v4 => ?_)
          refine z_goto (tgt := 14) dX2_pay_122 (by decide) ?_
          exact z_sub [2, 0] rfl (ih _ _)
        · refine z_iload_n dX2_pay_39 0 rfl ?_
          refine z_sipush (v := 256) dX2_pay_40 (by decide) ?_
          refine z_ic_ge (tgt := 119) dX2_pay_43 (by decide) ?_ ?_
          · refine z_iincL (lv2 := fun v5 => [(2, .int v5), (3, .int v3), (0, .ref j)]) dX2_pay_119 2 rfl rfl (Nat.le_of_ble_eq_true rfl) (fun _ => rfl) (fun v5 => ?_)
            refine z_goto (tgt := 14) dX2_pay_122 (by decide) ?_
            exact z_sub [2, 0] rfl (ih _ _)
          · refine z_aload_n dX2_pay_46 1 rfl ?_
            refine z_aload_n dX2_pay_47 1 rfl ?_
            refine z_getR fX2_21 (law_k hj_j) rfl rfl (law_r3 hj_j) (Nat.succ_ne_zero _) dX2_pay_48 ?_
            refine z_iload_n dX2_pay_51 2 rfl ?_
            refine z_gd (fun g6 => ?_)
            refine z_iald (law_k3 hj_j) dX2_pay_52 g6 ?_
            refine z_aload_n dX2_pay_53 1 rfl ?_
            refine z_getR fX2_24 (law_k hj_j) rfl rfl (law_r4 hj_j) (Nat.succ_ne_zero _) dX2_pay_54 ?_
            refine z_iload_n dX2_pay_57 2 rfl ?_
            refine z_gd (fun g7 => ?_)
            refine z_iald (law_k4 hj_j) dX2_pay_58 g7 ?_
            refine z_callVI dX2_pay_59 (M_X2_run hj_j _ _ _) bX2_run lX2_55 (law_k hj_j) rfl rfl (Nat.le_of_ble_eq_true rfl) (Nat.le_of_ble_eq_true rfl) (fun r8 h9 => ?_)
            refine z_iconst (v := 1) dX2_pay_62 (by decide) ?_
            refine z_ic_ne (tgt := 119) dX2_pay_63 (by decide) ?_ ?_
            · refine z_iincL (lv2 := fun v10 => [(2, .int v10), (3, .int v3), (0, .ref j)]) dX2_pay_119 2 rfl rfl (Nat.le_of_ble_eq_true rfl) (fun _ => rfl) (fun v10 => ?_)
              refine z_goto (tgt := 14) dX2_pay_122 (by decide) ?_
              exact z_sub [2, 0] rfl (ih _ _)
            · refine z_aload_n dX2_pay_66 1 rfl ?_
              refine z_aload_n dX2_pay_67 1 rfl ?_
              refine z_getR fX2_18 (law_k hj_j) rfl rfl (law_r2 hj_j) (Nat.succ_ne_zero _) dX2_pay_68 ?_
              refine z_iload_n dX2_pay_71 2 rfl ?_
              refine z_gd (fun g11 => ?_)
              refine z_iald (law_k2 hj_j) dX2_pay_72 g11 ?_
              refine z_aload_n dX2_pay_73 1 rfl ?_
              refine z_getR fX2_21 (law_k hj_j) rfl rfl (law_r3 hj_j) (Nat.succ_ne_zero _) dX2_pay_74 ?_
              refine z_iload_n dX2_pay_77 2 rfl ?_
              refine z_gd (fun g12 => ?_)
              refine z_iald (law_k3 hj_j) dX2_pay_78 g12 ?_
              refine z_callVI dX2_pay_79 (M_X2_run hj_j _ _ _) bX2_run lX2_55 (law_k hj_j) rfl rfl (Nat.le_of_ble_eq_true rfl) (Nat.le_of_ble_eq_true rfl) (fun r13 h14 => ?_)
              refine z_iconst (v := -1) dX2_pay_82 (by decide) ?_
              refine z_ic_ne (tgt := 90) dX2_pay_83 (by decide) ?_ ?_
              · refine z_iconst (v := 0) dX2_pay_90 (by decide) ?_
                exact z_sub [1, 0] rfl (w_X2_pay_91 hj_j _ _ _)
              · refine z_iconst (v := 1) dX2_pay_86 (by decide) ?_
                refine z_goto (tgt := 91) dX2_pay_87 (by decide) ?_
                exact z_sub [1, 0] rfl (w_X2_pay_91 hj_j _ _ _)
set_option maxHeartbeats 4000000 in
set_option maxRecDepth 100000 in
theorem w_X2_pay {j : Nat} (hj_j : isLaw j) (h : AHp) : WO tvI QX2_pay 1 0 [(0, .ref j), (1, .ref 6)] [] h (m_X2_pay j h) := by
  unfold m_X2_pay
  refine z_aload_n dX2_pay_0 1 rfl ?_
  refine z_iconst (v := 0) dX2_pay_1 (by decide) ?_
  refine z_aload_n dX2_pay_2 0 rfl ?_
  refine z_getR fX2_15 (law_k hj_j) rfl rfl (law_r1 hj_j) (Nat.succ_ne_zero _) dX2_pay_3 ?_
  refine z_iconst (v := 0) dX2_pay_6 (by decide) ?_
  refine z_bipush (v := 9) dX2_pay_7 (by decide) ?_
  refine z_copy kc_6 (law_k1 hj_j) dX2_pay_9 lX2_49 w_copy (Nat.le_of_ble_eq_true rfl) (Nat.le_of_ble_eq_true rfl) (by decide) ?_
  refine z_lh (fun h15 => ?_)
  refine z_iconst (v := 0) dX2_pay_12 (by decide) ?_
  refine z_istore_n (lv2 := [(2, .int 0), (0, .ref j), (1, .ref 6)]) dX2_pay_13 (Nat.le_of_ble_eq_true rfl) rfl ?_
  exact z_sub [1, 0] rfl (w_X2_pay_14 hj_j FU _ _)
theorem M_X2_pay {j : Nat} (hj_j : isLaw j) (h : AHp) : MI QX2_pay 1 [.ref j, .ref 6] h (m_X2_pay j h) := MI.of (by decide) rfl rfl (Nat.le_of_ble_eq_true rfl) (w_X2_pay hj_j h)
set_option maxHeartbeats 4000000 in
set_option maxRecDepth 100000 in
theorem w_X9_pays (x1 : Int32) (x2 : Int32) (x3 : Int32) (h : AHp) : WO tvI QX9_pays 2 0 [(0, .ref 3), (1, .int x1), (2, .int x2), (3, .int x3)] [] h (m_X9_pays x1 x2 x3 h) := by
  unfold m_X9_pays
  refine z_aload_n dX9_pays_0 0 rfl ?_
  refine z_getR (j := 6) fX9_18 kc_3 rfl rfl rfl (by decide) dX9_pays_1 ?_
  refine z_iconst (v := 2) dX9_pays_4 (by decide) ?_
  refine z_iload_n dX9_pays_5 1 rfl ?_
  refine z_iast kc_6 dX9_pays_6 (by decide) ?_
  refine z_lh (fun h1 => ?_)
  refine z_aload_n dX9_pays_7 0 rfl ?_
  refine z_getR (j := 6) fX9_18 kc_3 rfl rfl rfl (by decide) dX9_pays_8 ?_
  refine z_iconst (v := 3) dX9_pays_11 (by decide) ?_
  refine z_aload_n dX9_pays_12 0 rfl ?_
  refine z_iload_n dX9_pays_13 1 rfl ?_
  refine z_callVI dX9_pays_14 (M_X9_colourOf _ _) bX9_colourOf lX9_55 kc_3 rfl rfl (Nat.le_of_ble_eq_true rfl) (Nat.le_of_ble_eq_true rfl) (fun r2 h3 => ?_)
  refine z_iast kc_6 dX9_pays_17 (by decide) ?_
  refine z_lh (fun h4 => ?_)
  refine z_aload_n dX9_pays_18 0 rfl ?_
  refine z_getR (j := 6) fX9_18 kc_3 rfl rfl rfl (by decide) dX9_pays_19 ?_
  refine z_iconst (v := 1) dX9_pays_22 (by decide) ?_
  refine z_iload_n dX9_pays_23 2 rfl ?_
  refine z_iast kc_6 dX9_pays_24 (by decide) ?_
  refine z_lh (fun h5 => ?_)
  refine z_aload_n dX9_pays_25 0 rfl ?_
  refine z_getR (j := 6) fX9_18 kc_3 rfl rfl rfl (by decide) dX9_pays_26 ?_
  refine z_iconst (v := 0) dX9_pays_29 (by decide) ?_
  refine z_iload_n dX9_pays_30 3 rfl ?_
  refine z_iast kc_6 dX9_pays_31 (by decide) ?_
  refine z_lh (fun h6 => ?_)
  refine z_aload_n dX9_pays_32 0 rfl ?_
  refine z_gd (fun g7 => ?_)
  refine z_getM fX9_24 kc_3 rfl rfl (law_ne g7) dX9_pays_33 ?_
  refine z_aload_n dX9_pays_36 0 rfl ?_
  refine z_getR (j := 6) fX9_18 kc_3 rfl rfl rfl (by decide) dX9_pays_37 ?_
  refine z_callVI dX9_pays_40 (M_X2_pay g7 _) bX2_pay lX9_69 (law_k g7) rfl rfl (Nat.le_of_ble_eq_true rfl) (Nat.le_of_ble_eq_true rfl) (fun r8 h9 => ?_)
  exact z_iret dX9_pays_43 rfl
theorem M_X9_pays (x1 : Int32) (x2 : Int32) (x3 : Int32) (h : AHp) : MI QX9_pays 2 [.ref 3, .int x1, .int x2, .int x3] h (m_X9_pays x1 x2 x3 h) := MI.of (by decide) rfl rfl (Nat.le_of_ble_eq_true rfl) (w_X9_pays x1 x2 x3 h)
set_option maxHeartbeats 4000000 in
set_option maxRecDepth 100000 in
theorem w_X11_payOf (x1 : Int32) (h : AHp) : WO tvI QX11_payOf 3 0 [(0, .ref 0), (1, .int x1)] [] h (m_X11_payOf x1 h) := by
  unfold m_X11_payOf
  refine z_aload_n dX11_payOf_0 0 rfl ?_
  refine z_getR (j := 3) fX11_31 kc_0 rfl rfl rfl (by decide) dX11_payOf_1 ?_
  refine z_aload_n dX11_payOf_4 0 rfl ?_
  refine z_getR (j := 42) fX11_38 kc_0 rfl rfl rfl (by decide) dX11_payOf_5 ?_
  refine z_iload_n dX11_payOf_8 1 rfl ?_
  refine z_iconst (v := 1) dX11_payOf_9 (by decide) ?_
  refine z_isub dX11_payOf_10 ?_
  refine z_callVI dX11_payOf_11 (M_X7_spanAt _ _) bX7_spanAt lX11_170 kc_42 rfl rfl (Nat.le_of_ble_eq_true rfl) (Nat.le_of_ble_eq_true rfl) (fun r1 h2 => ?_)
  refine z_aload_n dX11_payOf_14 0 rfl ?_
  refine z_getR (j := 42) fX11_38 kc_0 rfl rfl rfl (by decide) dX11_payOf_15 ?_
  refine z_iload_n dX11_payOf_18 1 rfl ?_
  refine z_iconst (v := 2) dX11_payOf_19 (by decide) ?_
  refine z_isub dX11_payOf_20 ?_
  refine z_callVI dX11_payOf_21 (M_X7_spanAt _ _) bX7_spanAt lX11_170 kc_42 rfl rfl (Nat.le_of_ble_eq_true rfl) (Nat.le_of_ble_eq_true rfl) (fun r3 h4 => ?_)
  refine z_aload_n dX11_payOf_24 0 rfl ?_
  refine z_getR (j := 42) fX11_38 kc_0 rfl rfl rfl (by decide) dX11_payOf_25 ?_
  refine z_iload_n dX11_payOf_28 1 rfl ?_
  refine z_iconst (v := 1) dX11_payOf_29 (by decide) ?_
  refine z_isub dX11_payOf_30 ?_
  refine z_callVI dX11_payOf_31 (M_X7_speakerAt _ _) bX7_speakerAt lX11_164 kc_42 rfl rfl (Nat.le_of_ble_eq_true rfl) (Nat.le_of_ble_eq_true rfl) (fun r5 h6 => ?_)
  refine z_iload_n dX11_payOf_34 1 rfl ?_
  refine z_callVV dX11_payOf_35 (M_X9_stand _ _ _ _ _) bX9_stand lX11_284 kc_3 rfl rfl (Nat.le_of_ble_eq_true rfl) (Nat.le_of_ble_eq_true rfl) (fun r7 h8 => ?_)
  refine z_aload_n dX11_payOf_38 0 rfl ?_
  refine z_getR (j := 3) fX11_31 kc_0 rfl rfl rfl (by decide) dX11_payOf_39 ?_
  refine z_aload_n dX11_payOf_42 0 rfl ?_
  refine z_getR (j := 42) fX11_38 kc_0 rfl rfl rfl (by decide) dX11_payOf_43 ?_
  refine z_iload_n dX11_payOf_46 1 rfl ?_
  refine z_callVI dX11_payOf_47 (M_X7_speakerAt _ _) bX7_speakerAt lX11_164 kc_42 rfl rfl (Nat.le_of_ble_eq_true rfl) (Nat.le_of_ble_eq_true rfl) (fun r9 h10 => ?_)
  refine z_aload_n dX11_payOf_50 0 rfl ?_
  refine z_getR (j := 42) fX11_38 kc_0 rfl rfl rfl (by decide) dX11_payOf_51 ?_
  refine z_iload_n dX11_payOf_54 1 rfl ?_
  refine z_callVI dX11_payOf_55 (M_X7_thingAt _ _) bX7_thingAt lX11_167 kc_42 rfl rfl (Nat.le_of_ble_eq_true rfl) (Nat.le_of_ble_eq_true rfl) (fun r11 h12 => ?_)
  refine z_aload_n dX11_payOf_58 0 rfl ?_
  refine z_getR (j := 42) fX11_38 kc_0 rfl rfl rfl (by decide) dX11_payOf_59 ?_
  refine z_iload_n dX11_payOf_62 1 rfl ?_
  refine z_callVI dX11_payOf_63 (M_X7_spanAt _ _) bX7_spanAt lX11_170 kc_42 rfl rfl (Nat.le_of_ble_eq_true rfl) (Nat.le_of_ble_eq_true rfl) (fun r13 h14 => ?_)
  refine z_callVI dX11_payOf_66 (M_X9_pays _ _ _ _) bX9_pays lX11_287 kc_3 rfl rfl (Nat.le_of_ble_eq_true rfl) (Nat.le_of_ble_eq_true rfl) (fun r15 h16 => ?_)
  exact z_iret dX11_payOf_69 rfl
theorem M_X11_payOf (x1 : Int32) (h : AHp) : MI QX11_payOf 3 [.ref 0, .int x1] h (m_X11_payOf x1 h) := MI.of (by decide) rfl rfl (Nat.le_of_ble_eq_true rfl) (w_X11_payOf x1 h)
set_option maxHeartbeats 4000000 in
set_option maxRecDepth 100000 in
theorem w_X11_said (x1 : Int32) (x2 : Int32) (h : AHp) : WO tvI QX11_said 4 0 [(0, .ref 0), (1, .int x1), (2, .int x2)] [] h (m_X11_said x1 x2 h) := by
  unfold m_X11_said
  refine z_iload_n dX11_said_0 1 rfl ?_
  refine z_if_lt (tgt := 15) dX11_said_1 (by decide) ?_ ?_
  · refine z_iconst (v := -1) dX11_said_15 (by decide) ?_
    exact z_iret dX11_said_16 rfl
  · refine z_iload_n dX11_said_4 1 rfl ?_
    refine z_aload_n dX11_said_5 0 rfl ?_
    refine z_getR (j := 42) fX11_38 kc_0 rfl rfl rfl (by decide) dX11_said_6 ?_
    refine z_getIN fX11_157 kc_42 rfl dX11_said_9 ?_
    refine z_ic_lt (tgt := 17) dX11_said_12 (by decide) ?_ ?_
    · refine z_iload_n dX11_said_17 2 rfl ?_
      refine z_ite (fun c1 => ?_) (fun c1 => ?_)
      · refine z_tin (tgt := 48) (off := 30) dX11_said_18 (by rw [c1]; decide) (by rw [c1]; decide) (by rw [c1]; decide) (by decide) ?_
        refine z_aload_n dX11_said_48 0 rfl ?_
        refine z_getR (j := 42) fX11_38 kc_0 rfl rfl rfl (by decide) dX11_said_49 ?_
        refine z_iload_n dX11_said_52 1 rfl ?_
        refine z_callVI dX11_said_53 (M_X7_speakerAt _ _) bX7_speakerAt lX11_164 kc_42 rfl rfl (Nat.le_of_ble_eq_true rfl) (Nat.le_of_ble_eq_true rfl) (fun r2 h3 => ?_)
        exact z_iret dX11_said_56 rfl
      · refine z_ite (fun c4 => ?_) (fun c4 => ?_)
        · refine z_tin (tgt := 57) (off := 39) dX11_said_18 (by rw [c4]; decide) (by rw [c4]; decide) (by rw [c4]; decide) (by decide) ?_
          refine z_aload_n dX11_said_57 0 rfl ?_
          refine z_getR (j := 42) fX11_38 kc_0 rfl rfl rfl (by decide) dX11_said_58 ?_
          refine z_iload_n dX11_said_61 1 rfl ?_
          refine z_callVI dX11_said_62 (M_X7_thingAt _ _) bX7_thingAt lX11_167 kc_42 rfl rfl (Nat.le_of_ble_eq_true rfl) (Nat.le_of_ble_eq_true rfl) (fun r5 h6 => ?_)
          exact z_iret dX11_said_65 rfl
        · refine z_ite (fun c7 => ?_) (fun c7 => ?_)
          · refine z_tin (tgt := 66) (off := 48) dX11_said_18 (by rw [c7]; decide) (by rw [c7]; decide) (by rw [c7]; decide) (by decide) ?_
            refine z_aload_n dX11_said_66 0 rfl ?_
            refine z_getR (j := 42) fX11_38 kc_0 rfl rfl rfl (by decide) dX11_said_67 ?_
            refine z_iload_n dX11_said_70 1 rfl ?_
            refine z_callVI dX11_said_71 (M_X7_spanAt _ _) bX7_spanAt lX11_170 kc_42 rfl rfl (Nat.le_of_ble_eq_true rfl) (Nat.le_of_ble_eq_true rfl) (fun r8 h9 => ?_)
            exact z_iret dX11_said_74 rfl
          · refine z_ite (fun c10 => ?_) (fun c10 => ?_)
            · refine z_tin (tgt := 75) (off := 57) dX11_said_18 (by rw [c10]; decide) (by rw [c10]; decide) (by rw [c10]; decide) (by decide) ?_
              refine z_aload_n dX11_said_75 0 rfl ?_
              refine z_iload_n dX11_said_76 1 rfl ?_
              refine z_callVI dX11_said_77 (M_X11_payOf _ _) bX11_payOf lX11_173 kc_0 rfl rfl (Nat.le_of_ble_eq_true rfl) (Nat.le_of_ble_eq_true rfl) (fun r11 h12 => ?_)
              exact z_iret dX11_said_80 rfl
            · refine z_tout (tgt := 81) dX11_said_18 (by have a0 := n32 (k := 0) c1 rfl; have a1 := n32 (k := 1) c4 rfl; have a2 := n32 (k := 2) c7 rfl; have a3 := n32 (k := 3) c10 rfl; omega) (by decide) ?_
              refine z_iconst (v := -1) dX11_said_81 (by decide) ?_
              exact z_iret dX11_said_82 rfl
    · refine z_iconst (v := -1) dX11_said_15 (by decide) ?_
      exact z_iret dX11_said_16 rfl
theorem M_X11_said (x1 : Int32) (x2 : Int32) (h : AHp) : MI QX11_said 4 [.ref 0, .int x1, .int x2] h (m_X11_said x1 x2 h) := MI.of (by decide) rfl rfl (Nat.le_of_ble_eq_true rfl) (w_X11_said x1 x2 h)
set_option maxHeartbeats 4000000 in
set_option maxRecDepth 100000 in
theorem w_X11_paid_13 : ∀ (f : Nat) (x1 : Int32) (x2 : Int32) (x3 : Int32) (h : AHp), WO tvI QX11_paid 4 13 [(0, .ref 0), (1, .int x1), (2, .int x2), (3, .int x3)] [] h (m_X11_paid_13 f x1 x2 x3 h) := by
  intro f
  induction f with
  | zero => intro x1 x2 x3 h; exact z_none
  | succ f ih =>
    intro x1 x2 x3 h
    rw [m_X11_paid_13]
    refine z_iload_n dX11_paid_13 3 rfl ?_
    refine z_aload_n dX11_paid_14 0 rfl ?_
    refine z_getR (j := 42) fX11_38 kc_0 rfl rfl rfl (by decide) dX11_paid_15 ?_
    refine z_getIN fX11_157 kc_42 rfl dX11_paid_18 ?_
    refine z_ic_ge (tgt := 50) dX11_paid_21 (by decide) ?_ ?_
    · refine z_iload_n dX11_paid_50 2 rfl ?_
      exact z_iret dX11_paid_51 rfl
    · refine z_aload_n dX11_paid_24 0 rfl ?_
      refine z_getR (j := 42) fX11_38 kc_0 rfl rfl rfl (by decide) dX11_paid_25 ?_
      refine z_iload_n dX11_paid_28 3 rfl ?_
      refine z_callVI dX11_paid_29 (M_X7_speakerAt _ _) bX7_speakerAt lX11_164 kc_42 rfl rfl (Nat.le_of_ble_eq_true rfl) (Nat.le_of_ble_eq_true rfl) (fun r1 h2 => ?_)
      refine z_iload_n dX11_paid_32 1 rfl ?_
      refine z_ic_ne (tgt := 44) dX11_paid_33 (by decide) ?_ ?_
      · refine z_iincL (lv2 := fun v3 => [(3, .int v3), (0, .ref 0), (1, .int x1), (2, .int x2)]) dX11_paid_44 3 rfl rfl (Nat.le_of_ble_eq_true rfl) (fun _ => rfl) (fun v3 => ?_)
        refine z_goto (tgt := 13) dX11_paid_47 (by decide) ?_
        exact z_sub [1, 2, 3, 0] rfl (ih _ _ _ _)
      · refine z_iload_n dX11_paid_36 2 rfl ?_
        refine z_aload_n dX11_paid_37 0 rfl ?_
        refine z_iload_n dX11_paid_38 3 rfl ?_
        refine z_callVI dX11_paid_39 (M_X11_payOf _ _) bX11_payOf lX11_173 kc_0 rfl rfl (Nat.le_of_ble_eq_true rfl) (Nat.le_of_ble_eq_true rfl) (fun r4 h5 => ?_)
        refine z_iadd dX11_paid_42 ?_
        refine z_istore_nL (lv2 := fun v6 => [(2, .int v6), (0, .ref 0), (1, .int x1), (3, .int x3)]) dX11_paid_43 (Nat.le_of_ble_eq_true rfl) (fun _ => rfl) (fun v6 => ?_)
        refine z_iincL (lv2 := fun v7 => [(3, .int v7), (2, .int v6), (0, .ref 0), (1, .int x1)]) dX11_paid_44 3 rfl rfl (Nat.le_of_ble_eq_true rfl) (fun _ => rfl) (fun v7 => ?_)
        refine z_goto (tgt := 13) dX11_paid_47 (by decide) ?_
        exact z_sub [2, 3, 1, 0] rfl (ih _ _ _ _)
set_option maxHeartbeats 4000000 in
set_option maxRecDepth 100000 in
theorem w_X11_paid (x1 : Int32) (h : AHp) : WO tvI QX11_paid 4 0 [(0, .ref 0), (1, .int x1)] [] h (m_X11_paid x1 h) := by
  unfold m_X11_paid
  refine z_iload_n dX11_paid_0 1 rfl ?_
  refine z_callSI dX11_paid_1 (M_X11_isSpeaker _ _) bX11_isSpeaker lX11_126 rfl rfl (Nat.le_of_ble_eq_true rfl) (Nat.le_of_ble_eq_true rfl) (fun r8 h9 => ?_)
  refine z_if_ne (tgt := 9) dX11_paid_4 (by decide) ?_ ?_
  · refine z_iconst (v := 0) dX11_paid_9 (by decide) ?_
    refine z_istore_n (lv2 := [(2, .int 0), (0, .ref 0), (1, .int x1)]) dX11_paid_10 (Nat.le_of_ble_eq_true rfl) rfl ?_
    refine z_iconst (v := 0) dX11_paid_11 (by decide) ?_
    refine z_istore_n (lv2 := [(3, .int 0), (2, .int 0), (0, .ref 0), (1, .int x1)]) dX11_paid_12 (Nat.le_of_ble_eq_true rfl) rfl ?_
    exact z_sub [2, 3, 1, 0] rfl (w_X11_paid_13 FU _ _ _ _)
  · refine z_iconst (v := -1) dX11_paid_7 (by decide) ?_
    exact z_iret dX11_paid_8 rfl
theorem M_X11_paid (x1 : Int32) (h : AHp) : MI QX11_paid 4 [.ref 0, .int x1] h (m_X11_paid x1 h) := MI.of (by decide) rfl rfl (Nat.le_of_ble_eq_true rfl) (w_X11_paid x1 h)
set_option maxHeartbeats 4000000 in
set_option maxRecDepth 100000 in
theorem w_X8_byteAt (x1 : Int32) (h : AHp) : WO tvI QX8_byteAt 0 0 [(0, .ref 1), (1, .int x1)] [] h (m_X8_byteAt x1 h) := by
  unfold m_X8_byteAt
  refine z_iload_n dX8_byteAt_0 1 rfl ?_
  refine z_if_lt (tgt := 30) dX8_byteAt_1 (by decide) ?_ ?_
  · refine z_iconst (v := 0) dX8_byteAt_30 (by decide) ?_
    exact z_iret dX8_byteAt_31 rfl
  · refine z_iload_n dX8_byteAt_4 1 rfl ?_
    refine z_aload_n dX8_byteAt_5 0 rfl ?_
    refine z_getI fX8_15 kc_1 rfl dX8_byteAt_6 ?_
    refine z_ic_ge (tgt := 30) dX8_byteAt_9 (by decide) ?_ ?_
    · refine z_iconst (v := 0) dX8_byteAt_30 (by decide) ?_
      exact z_iret dX8_byteAt_31 rfl
    · refine z_iload_n dX8_byteAt_12 1 rfl ?_
      refine z_aload_n dX8_byteAt_13 0 rfl ?_
      refine z_getR (j := 2) fX8_9 kc_1 rfl rfl rfl (by decide) dX8_byteAt_14 ?_
      refine z_alen (v := 220) kc_2 (by decide) (by decide) dX8_byteAt_17 ?_
      refine z_ic_ge (tgt := 30) dX8_byteAt_18 (by decide) ?_ ?_
      · refine z_iconst (v := 0) dX8_byteAt_30 (by decide) ?_
        exact z_iret dX8_byteAt_31 rfl
      · refine z_aload_n dX8_byteAt_21 0 rfl ?_
        refine z_getR (j := 2) fX8_9 kc_1 rfl rfl rfl (by decide) dX8_byteAt_22 ?_
        refine z_iload_n dX8_byteAt_25 1 rfl ?_
        refine z_gd (fun g1 => ?_)
        refine z_iald kc_2 dX8_byteAt_26 g1 ?_
        refine z_goto (tgt := 31) dX8_byteAt_27 (by decide) ?_
        exact z_iret dX8_byteAt_31 rfl
theorem M_X8_byteAt (x1 : Int32) (h : AHp) : MI QX8_byteAt 0 [.ref 1, .int x1] h (m_X8_byteAt x1 h) := MI.of (by decide) rfl rfl (Nat.le_of_ble_eq_true rfl) (w_X8_byteAt x1 h)
set_option maxHeartbeats 4000000 in
set_option maxRecDepth 100000 in
theorem w_X11_tellsSpeakersAndThings_2 : ∀ (f : Nat) (x1 : Int32) (x2 : Int32) (x3 : Int32) (h : AHp), WO tvI QX11_tellsSpeakersAndThings 1 2 [(0, .ref 0), (1, .int x1), (2, .int x2), (3, .int x3)] [] h (m_X11_tellsSpeakersAndThings_2 f x1 x2 x3 h) := by
  intro f
  induction f with
  | zero => intro x1 x2 x3 h; exact z_none
  | succ f ih =>
    intro x1 x2 x3 h
    rw [m_X11_tellsSpeakersAndThings_2]
    refine z_iload_n dX11_tellsSpeakersAndThings_2 3 rfl ?_
    refine z_iload_n dX11_tellsSpeakersAndThings_3 1 rfl ?_
    refine z_ic_ge (tgt := 49) dX11_tellsSpeakersAndThings_4 (by decide) ?_ ?_
    · refine z_iconst (v := 1) dX11_tellsSpeakersAndThings_49 (by decide) ?_
      exact z_zret dX11_tellsSpeakersAndThings_50 rfl (Or.inr rfl)
    · refine z_aload_n dX11_tellsSpeakersAndThings_7 0 rfl ?_
      refine z_getR (j := 1) fX11_18 kc_0 rfl rfl rfl (by decide) dX11_tellsSpeakersAndThings_8 ?_
      refine z_iload_n dX11_tellsSpeakersAndThings_11 2 rfl ?_
      refine z_iload_n dX11_tellsSpeakersAndThings_12 3 rfl ?_
      refine z_imul dX11_tellsSpeakersAndThings_13 ?_
      refine z_callVI dX11_tellsSpeakersAndThings_14 (M_X8_byteAt _ _) bX8_byteAt lX11_189 kc_1 rfl rfl (Nat.le_of_ble_eq_true rfl) (Nat.le_of_ble_eq_true rfl) (fun r1 h2 => ?_)
      refine z_callSI dX11_tellsSpeakersAndThings_17 (M_X11_isSpeaker _ _) bX11_isSpeaker lX11_126 rfl rfl (Nat.le_of_ble_eq_true rfl) (Nat.le_of_ble_eq_true rfl) (fun r3 h4 => ?_)
      refine z_if_eq (tgt := 41) dX11_tellsSpeakersAndThings_20 (by decide) ?_ ?_
      · refine z_iconst (v := 0) dX11_tellsSpeakersAndThings_41 (by decide) ?_
        exact z_zret dX11_tellsSpeakersAndThings_42 rfl (Or.inl rfl)
      · refine z_aload_n dX11_tellsSpeakersAndThings_23 0 rfl ?_
        refine z_getR (j := 1) fX11_18 kc_0 rfl rfl rfl (by decide) dX11_tellsSpeakersAndThings_24 ?_
        refine z_iload_n dX11_tellsSpeakersAndThings_27 2 rfl ?_
        refine z_iload_n dX11_tellsSpeakersAndThings_28 3 rfl ?_
        refine z_imul dX11_tellsSpeakersAndThings_29 ?_
        refine z_iconst (v := 1) dX11_tellsSpeakersAndThings_30 (by decide) ?_
        refine z_iadd dX11_tellsSpeakersAndThings_31 ?_
        refine z_callVI dX11_tellsSpeakersAndThings_32 (M_X8_byteAt _ _) bX8_byteAt lX11_189 kc_1 rfl rfl (Nat.le_of_ble_eq_true rfl) (Nat.le_of_ble_eq_true rfl) (fun r5 h6 => ?_)
        refine z_callSI dX11_tellsSpeakersAndThings_35 (M_X11_isThing _ _) bX11_isThing lX11_99 rfl rfl (Nat.le_of_ble_eq_true rfl) (Nat.le_of_ble_eq_true rfl) (fun r7 h8 => ?_)
        refine z_if_ne (tgt := 43) dX11_tellsSpeakersAndThings_38 (by decide) ?_ ?_
        · refine z_iincL (lv2 := fun v9 => [(3, .int v9), (0, .ref 0), (1, .int x1), (2, .int x2)]) dX11_tellsSpeakersAndThings_43 3 rfl rfl (Nat.le_of_ble_eq_true rfl) (fun _ => rfl) (fun v9 => ?_)
          refine z_goto (tgt := 2) dX11_tellsSpeakersAndThings_46 (by decide) ?_
          exact z_sub [1, 2, 3, 0] rfl (ih _ _ _ _)
        · refine z_iconst (v := 0) dX11_tellsSpeakersAndThings_41 (by decide) ?_
          exact z_zret dX11_tellsSpeakersAndThings_42 rfl (Or.inl rfl)
set_option maxHeartbeats 4000000 in
set_option maxRecDepth 100000 in
theorem w_X11_tellsSpeakersAndThings (x1 : Int32) (x2 : Int32) (h : AHp) : WO tvI QX11_tellsSpeakersAndThings 1 0 [(0, .ref 0), (1, .int x1), (2, .int x2)] [] h (m_X11_tellsSpeakersAndThings x1 x2 h) := by
  unfold m_X11_tellsSpeakersAndThings
  refine z_iconst (v := 0) dX11_tellsSpeakersAndThings_0 (by decide) ?_
  refine z_istore_n (lv2 := [(3, .int 0), (0, .ref 0), (1, .int x1), (2, .int x2)]) dX11_tellsSpeakersAndThings_1 (Nat.le_of_ble_eq_true rfl) rfl ?_
  exact z_sub [1, 2, 3, 0] rfl (w_X11_tellsSpeakersAndThings_2 FU _ _ _ _)
theorem M_X11_tellsSpeakersAndThings (x1 : Int32) (x2 : Int32) (h : AHp) : MI QX11_tellsSpeakersAndThings 1 [.ref 0, .int x1, .int x2] h (m_X11_tellsSpeakersAndThings x1 x2 h) := MI.of (by decide) rfl rfl (Nat.le_of_ble_eq_true rfl) (w_X11_tellsSpeakersAndThings x1 x2 h)
set_option maxHeartbeats 4000000 in
set_option maxRecDepth 100000 in
theorem w_X8_clear (h : AHp) : WO tvV QX8_clear 0 0 [(0, .ref 1)] [] h (m_X8_clear h) := by
  unfold m_X8_clear
  refine z_aload_n dX8_clear_0 0 rfl ?_
  refine z_iconst (v := 0) dX8_clear_1 (by decide) ?_
  refine z_putI fX8_15 kc_1 rfl dX8_clear_2 ?_
  refine z_lh (fun h1 => ?_)
  exact z_vret dX8_clear_5 rfl
theorem M_X8_clear (h : AHp) : MV QX8_clear 0 [.ref 1] h (m_X8_clear h) := MV.of (by decide) rfl rfl (Nat.le_of_ble_eq_true rfl) (w_X8_clear h)
set_option maxHeartbeats 4000000 in
set_option maxRecDepth 100000 in
theorem w_X11_firstWrong_56 : ∀ (f : Nat) (x1 : Int32) (x2 : Int32) (x3 : Int32) (x4 : Int32) (x5 : Int32) (x6 : Int32) (h : AHp), WO tvI QX11_firstWrong 3 56 [(0, .ref 0), (1, .int x1), (2, .int x2), (3, .int x3), (4, .int x4), (5, .int x5), (6, .int x6)] [] h (m_X11_firstWrong_56 f x1 x2 x3 x4 x5 x6 h) := by
  intro f
  induction f with
  | zero => intro x1 x2 x3 x4 x5 x6 h; exact z_none
  | succ f ih =>
    intro x1 x2 x3 x4 x5 x6 h
    rw [m_X11_firstWrong_56]
    refine z_iload dX11_firstWrong_56 6 rfl ?_
    refine z_iload_n dX11_firstWrong_58 2 rfl ?_
    refine z_ic_ge (tgt := 174) dX11_firstWrong_59 (by decide) ?_ ?_
    · refine z_iload_n dX11_firstWrong_174 2 rfl ?_
      exact z_iret dX11_firstWrong_175 rfl
    · refine z_aload_n dX11_firstWrong_62 0 rfl ?_
      refine z_getR (j := 1) fX11_18 kc_0 rfl rfl rfl (by decide) dX11_firstWrong_63 ?_
      refine z_iconst (v := 3) dX11_firstWrong_66 (by decide) ?_
      refine z_iload dX11_firstWrong_67 6 rfl ?_
      refine z_imul dX11_firstWrong_69 ?_
      refine z_callVI dX11_firstWrong_70 (M_X8_byteAt _ _) bX8_byteAt lX11_189 kc_1 rfl rfl (Nat.le_of_ble_eq_true rfl) (Nat.le_of_ble_eq_true rfl) (fun r1 h2 => ?_)
      refine z_istore (lv2 := [(7, .int r1), (0, .ref 0), (1, .int x1), (2, .int x2), (3, .int x3), (4, .int x4), (5, .int x5), (6, .int x6)]) dX11_firstWrong_73 (Nat.le_of_ble_eq_true rfl) rfl ?_
      refine z_aload_n dX11_firstWrong_75 1 rfl ?_
      refine z_getR (j := 1) fX11_18 kc_0 rfl rfl rfl (by decide) dX11_firstWrong_76 ?_
      refine z_iconst (v := 3) dX11_firstWrong_79 (by decide) ?_
      refine z_iload dX11_firstWrong_80 7 rfl ?_
      refine z_imul dX11_firstWrong_82 ?_
      refine z_iconst (v := 1) dX11_firstWrong_83 (by decide) ?_
      refine z_iadd dX11_firstWrong_84 ?_
      refine z_callVI dX11_firstWrong_85 (M_X8_byteAt _ _) bX8_byteAt lX11_189 kc_1 rfl rfl (Nat.le_of_ble_eq_true rfl) (Nat.le_of_ble_eq_true rfl) (fun r3 h4 => ?_)
      refine z_istore (lv2 := [(8, .int r3), (7, .int r1), (0, .ref 0), (1, .int x1), (2, .int x2), (3, .int x3), (4, .int x4), (5, .int x5), (6, .int x6)]) dX11_firstWrong_88 (Nat.le_of_ble_eq_true rfl) rfl ?_
      refine z_aload_n dX11_firstWrong_90 2 rfl ?_
      refine z_getR (j := 1) fX11_18 kc_0 rfl rfl rfl (by decide) dX11_firstWrong_91 ?_
      refine z_iconst (v := 3) dX11_firstWrong_94 (by decide) ?_
      refine z_iload dX11_firstWrong_95 8 rfl ?_
      refine z_imul dX11_firstWrong_97 ?_
      refine z_iconst (v := 2) dX11_firstWrong_98 (by decide) ?_
      refine z_iadd dX11_firstWrong_99 ?_
      refine z_callVI dX11_firstWrong_100 (M_X8_byteAt _ _) bX8_byteAt lX11_189 kc_1 rfl rfl (Nat.le_of_ble_eq_true rfl) (Nat.le_of_ble_eq_true rfl) (fun r5 h6 => ?_)
      refine z_istore (lv2 := [(9, .int r5), (8, .int r3), (7, .int r1), (0, .ref 0), (1, .int x1), (2, .int x2), (3, .int x3), (4, .int x4), (5, .int x5), (6, .int x6)]) dX11_firstWrong_103 (Nat.le_of_ble_eq_true rfl) rfl ?_
      refine z_aload_n dX11_firstWrong_105 3 rfl ?_
      refine z_getR (j := 3) fX11_31 kc_0 rfl rfl rfl (by decide) dX11_firstWrong_106 ?_
      refine z_iload_n dX11_firstWrong_109 6 rfl ?_
      refine z_iload dX11_firstWrong_110 7 rfl ?_
      refine z_iload dX11_firstWrong_112 8 rfl ?_
      refine z_aload_n dX11_firstWrong_114 3 rfl ?_
      refine z_getR (j := 42) fX11_38 kc_0 rfl rfl rfl (by decide) dX11_firstWrong_115 ?_
      refine z_getIN fX11_157 kc_42 rfl dX11_firstWrong_118 ?_
      refine z_iload dX11_firstWrong_121 9 rfl ?_
      refine z_iadd dX11_firstWrong_123 ?_
      refine z_callVV dX11_firstWrong_124 (M_X9_stand _ _ _ _ _) bX9_stand lX11_284 kc_3 rfl rfl (Nat.le_of_ble_eq_true rfl) (Nat.le_of_ble_eq_true rfl) (fun r7 h8 => ?_)
      refine z_aload_n dX11_firstWrong_127 3 rfl ?_
      refine z_getR (j := 3) fX11_31 kc_0 rfl rfl rfl (by decide) dX11_firstWrong_128 ?_
      refine z_iconst (v := 1) dX11_firstWrong_131 (by decide) ?_
      refine z_iload_n dX11_firstWrong_132 4 rfl ?_
      refine z_ishl dX11_firstWrong_133 ?_
      refine z_iload dX11_firstWrong_134 2 rfl ?_
      refine z_iload dX11_firstWrong_136 1 rfl ?_
      refine z_aload_n dX11_firstWrong_138 3 rfl ?_
      refine z_getR (j := 3) fX11_31 kc_0 rfl rfl rfl (by decide) dX11_firstWrong_139 ?_
      refine z_iload dX11_firstWrong_142 1 rfl ?_
      refine z_iload dX11_firstWrong_144 0 rfl ?_
      refine z_callVI dX11_firstWrong_146 (M_X9_bitOf _ _ _) bX9_bitOf lX11_146 kc_3 rfl rfl (Nat.le_of_ble_eq_true rfl) (Nat.le_of_ble_eq_true rfl) (fun r9 h10 => ?_)
      refine z_callVI dX11_firstWrong_149 (M_X9_lets _ _ _ _ _) bX9_lets lX11_153 kc_3 rfl rfl (Nat.le_of_ble_eq_true rfl) (Nat.le_of_ble_eq_true rfl) (fun r11 h12 => ?_)
      refine z_if_ne (tgt := 158) dX11_firstWrong_152 (by decide) ?_ ?_
      · refine z_iload_n dX11_firstWrong_158 6 rfl ?_
        refine z_istore (lv2 := [(4, .int x3), (9, .int r5), (8, .int r3), (7, .int r1), (0, .ref 0), (1, .int x1), (2, .int x2), (3, .int x3), (5, .int x5), (6, .int x6)]) dX11_firstWrong_159 (Nat.le_of_ble_eq_true rfl) rfl ?_
        refine z_iload dX11_firstWrong_161 1 rfl ?_
        refine z_istore_n (lv2 := [(3, .int r5), (4, .int x3), (9, .int r5), (8, .int r3), (7, .int r1), (0, .ref 0), (1, .int x1), (2, .int x2), (5, .int x5), (6, .int x6)]) dX11_firstWrong_163 (Nat.le_of_ble_eq_true rfl) rfl ?_
        refine z_iload dX11_firstWrong_164 4 rfl ?_
        refine z_istore (lv2 := [(5, .int r1), (3, .int r5), (4, .int x3), (9, .int r5), (8, .int r3), (7, .int r1), (0, .ref 0), (1, .int x1), (2, .int x2), (6, .int x6)]) dX11_firstWrong_166 (Nat.le_of_ble_eq_true rfl) rfl ?_
        refine z_iincL (lv2 := fun v13 => [(6, .int v13), (5, .int r1), (3, .int r5), (4, .int x3), (9, .int r5), (8, .int r3), (7, .int r1), (0, .ref 0), (1, .int x1), (2, .int x2)]) dX11_firstWrong_168 9 rfl rfl (Nat.le_of_ble_eq_true rfl) (fun _ => rfl) (fun v13 => ?_)
        refine z_goto (tgt := 56) dX11_firstWrong_171 (by decide) ?_
        exact z_sub [7, 8, 9, 2, 3, 1, 0] rfl (ih _ _ _ _ _ _ _)
      · refine z_iload dX11_firstWrong_155 9 rfl ?_
        exact z_iret dX11_firstWrong_157 rfl
set_option maxHeartbeats 4000000 in
set_option maxRecDepth 100000 in
theorem w_X11_firstWrong (x1 : Int32) (x2 : Int32) (h : AHp) : WO tvI QX11_firstWrong 3 0 [(0, .ref 0), (1, .int x1), (2, .int x2)] [] h (m_X11_firstWrong x1 x2 h) := by
  unfold m_X11_firstWrong
  refine z_aload_n dX11_firstWrong_0 0 rfl ?_
  refine z_getR (j := 42) fX11_38 kc_0 rfl rfl rfl (by decide) dX11_firstWrong_1 ?_
  refine z_aload_n dX11_firstWrong_4 0 rfl ?_
  refine z_getR (j := 42) fX11_38 kc_0 rfl rfl rfl (by decide) dX11_firstWrong_5 ?_
  refine z_getIN fX11_157 kc_42 rfl dX11_firstWrong_8 ?_
  refine z_iconst (v := 1) dX11_firstWrong_11 (by decide) ?_
  refine z_isub dX11_firstWrong_12 ?_
  refine z_callVI dX11_firstWrong_13 (M_X7_spanAt _ _) bX7_spanAt lX11_170 kc_42 rfl rfl (Nat.le_of_ble_eq_true rfl) (Nat.le_of_ble_eq_true rfl) (fun r14 h15 => ?_)
  refine z_istore_n (lv2 := [(3, .int r14), (0, .ref 0), (1, .int x1), (2, .int x2)]) dX11_firstWrong_16 (Nat.le_of_ble_eq_true rfl) rfl ?_
  refine z_aload_n dX11_firstWrong_17 1 rfl ?_
  refine z_getR (j := 42) fX11_38 kc_0 rfl rfl rfl (by decide) dX11_firstWrong_18 ?_
  refine z_aload_n dX11_firstWrong_21 1 rfl ?_
  refine z_getR (j := 42) fX11_38 kc_0 rfl rfl rfl (by decide) dX11_firstWrong_22 ?_
  refine z_getIN fX11_157 kc_42 rfl dX11_firstWrong_25 ?_
  refine z_iconst (v := 2) dX11_firstWrong_28 (by decide) ?_
  refine z_isub dX11_firstWrong_29 ?_
  refine z_callVI dX11_firstWrong_30 (M_X7_spanAt _ _) bX7_spanAt lX11_170 kc_42 rfl rfl (Nat.le_of_ble_eq_true rfl) (Nat.le_of_ble_eq_true rfl) (fun r16 h17 => ?_)
  refine z_istore (lv2 := [(4, .int r16), (3, .int r14), (0, .ref 0), (1, .int x1), (2, .int x2)]) dX11_firstWrong_33 (Nat.le_of_ble_eq_true rfl) rfl ?_
  refine z_aload_n dX11_firstWrong_35 2 rfl ?_
  refine z_getR (j := 42) fX11_38 kc_0 rfl rfl rfl (by decide) dX11_firstWrong_36 ?_
  refine z_aload_n dX11_firstWrong_39 2 rfl ?_
  refine z_getR (j := 42) fX11_38 kc_0 rfl rfl rfl (by decide) dX11_firstWrong_40 ?_
  refine z_getIN fX11_157 kc_42 rfl dX11_firstWrong_43 ?_
  refine z_iconst (v := 1) dX11_firstWrong_46 (by decide) ?_
  refine z_isub dX11_firstWrong_47 ?_
  refine z_callVI dX11_firstWrong_48 (M_X7_speakerAt _ _) bX7_speakerAt lX11_164 kc_42 rfl rfl (Nat.le_of_ble_eq_true rfl) (Nat.le_of_ble_eq_true rfl) (fun r18 h19 => ?_)
  refine z_istore (lv2 := [(5, .int r18), (4, .int r16), (3, .int r14), (0, .ref 0), (1, .int x1), (2, .int x2)]) dX11_firstWrong_51 (Nat.le_of_ble_eq_true rfl) rfl ?_
  refine z_iconst (v := 0) dX11_firstWrong_53 (by decide) ?_
  refine z_istore (lv2 := [(6, .int 0), (5, .int r18), (4, .int r16), (3, .int r14), (0, .ref 0), (1, .int x1), (2, .int x2)]) dX11_firstWrong_54 (Nat.le_of_ble_eq_true rfl) rfl ?_
  exact z_sub [4, 5, 6, 3, 2, 1, 0] rfl (w_X11_firstWrong_56 FU _ _ _ _ _ _ _)
theorem M_X11_firstWrong (x1 : Int32) (x2 : Int32) (h : AHp) : MI QX11_firstWrong 3 [.ref 0, .int x1, .int x2] h (m_X11_firstWrong x1 x2 h) := MI.of (by decide) rfl rfl (Nat.le_of_ble_eq_true rfl) (w_X11_firstWrong x1 x2 h)
set_option maxHeartbeats 4000000 in
set_option maxRecDepth 100000 in
theorem w_X11_judged (x1 : Int32) (x2 : Int32) (h : AHp) : WO tvI QX11_judged 4 0 [(0, .ref 0), (1, .int x1), (2, .int x2)] [] h (m_X11_judged x1 x2 h) := by
  unfold m_X11_judged
  refine z_iload_n dX11_judged_0 1 rfl ?_
  refine z_callSI dX11_judged_1 (M_X11_isLaw _ _) bX11_isLaw lX11_132 rfl rfl (Nat.le_of_ble_eq_true rfl) (Nat.le_of_ble_eq_true rfl) (fun r1 h2 => ?_)
  refine z_if_eq (tgt := 18) dX11_judged_4 (by decide) ?_ ?_
  · refine z_iconst (v := -1) dX11_judged_18 (by decide) ?_
    exact z_iret dX11_judged_19 rfl
  · refine z_aload_n dX11_judged_7 0 rfl ?_
    refine z_iload_n dX11_judged_8 2 rfl ?_
    refine z_bipush (v := 60) dX11_judged_9 (by decide) ?_
    refine z_iconst (v := 3) dX11_judged_11 (by decide) ?_
    refine z_callVI dX11_judged_12 (M_X11_isOnTape _ _ _ _) bX11_isOnTape lX11_103 kc_0 rfl rfl (Nat.le_of_ble_eq_true rfl) (Nat.le_of_ble_eq_true rfl) (fun r3 h4 => ?_)
    refine z_if_ne (tgt := 20) dX11_judged_15 (by decide) ?_ ?_
    · refine z_aload_n dX11_judged_20 0 rfl ?_
      refine z_iload_n dX11_judged_21 2 rfl ?_
      refine z_iconst (v := 3) dX11_judged_22 (by decide) ?_
      refine z_callVI dX11_judged_23 (M_X11_tellsSpeakersAndThings _ _ _) bX11_tellsSpeakersAndThings lX11_176 kc_0 rfl rfl (Nat.le_of_ble_eq_true rfl) (Nat.le_of_ble_eq_true rfl) (fun r5 h6 => ?_)
      refine z_if_eq (tgt := 38) dX11_judged_26 (by decide) ?_ ?_
      · refine z_bipush (v := -2) dX11_judged_38 (by decide) ?_
        refine z_istore_n (lv2 := [(3, .int (-2)), (0, .ref 0), (1, .int x1), (2, .int x2)]) dX11_judged_40 (Nat.le_of_ble_eq_true rfl) rfl ?_
        refine z_aload_n dX11_judged_41 1 rfl ?_
        refine z_getR (j := 1) fX11_18 kc_0 rfl rfl rfl (by decide) dX11_judged_42 ?_
        refine z_callVV dX11_judged_45 (M_X8_clear _) bX8_clear lX11_111 kc_1 rfl rfl (Nat.le_of_ble_eq_true rfl) (Nat.le_of_ble_eq_true rfl) (fun r7 h8 => ?_)
        refine z_iload_n dX11_judged_48 0 rfl ?_
        exact z_iret dX11_judged_49 rfl
      · refine z_aload_n dX11_judged_29 0 rfl ?_
        refine z_iload_n dX11_judged_30 1 rfl ?_
        refine z_iload_n dX11_judged_31 2 rfl ?_
        refine z_callVI dX11_judged_32 (M_X11_firstWrong _ _ _) bX11_firstWrong lX11_180 kc_0 rfl rfl (Nat.le_of_ble_eq_true rfl) (Nat.le_of_ble_eq_true rfl) (fun r9 h10 => ?_)
        refine z_goto (tgt := 40) dX11_judged_35 (by decide) ?_
        refine z_istore_n (lv2 := [(3, .int r9), (0, .ref 0), (1, .int x1), (2, .int x2)]) dX11_judged_40 (Nat.le_of_ble_eq_true rfl) rfl ?_
        refine z_aload_n dX11_judged_41 1 rfl ?_
        refine z_getR (j := 1) fX11_18 kc_0 rfl rfl rfl (by decide) dX11_judged_42 ?_
        refine z_callVV dX11_judged_45 (M_X8_clear _) bX8_clear lX11_111 kc_1 rfl rfl (Nat.le_of_ble_eq_true rfl) (Nat.le_of_ble_eq_true rfl) (fun r11 h12 => ?_)
        refine z_iload_n dX11_judged_48 0 rfl ?_
        exact z_iret dX11_judged_49 rfl
    · refine z_iconst (v := -1) dX11_judged_18 (by decide) ?_
      exact z_iret dX11_judged_19 rfl
theorem M_X11_judged (x1 : Int32) (x2 : Int32) (h : AHp) : MI QX11_judged 4 [.ref 0, .int x1, .int x2] h (m_X11_judged x1 x2 h) := MI.of (by decide) rfl rfl (Nat.le_of_ble_eq_true rfl) (w_X11_judged x1 x2 h)
set_option maxHeartbeats 4000000 in
set_option maxRecDepth 100000 in
theorem w_X3_begin (h : AHp) : WO tvV QX3_begin 0 0 [(0, .ref 31)] [] h (m_X3_begin h) := by
  unfold m_X3_begin
  refine z_aload_n dX3_begin_0 0 rfl ?_
  refine z_dup dX3_begin_1 rfl ?_
  refine z_getI fX3_15 kc_31 rfl dX3_begin_2 ?_
  refine z_iconst (v := 1) dX3_begin_5 (by decide) ?_
  refine z_iadd dX3_begin_6 ?_
  refine z_putI fX3_15 kc_31 rfl dX3_begin_7 ?_
  refine z_lh (fun h1 => ?_)
  exact z_vret dX3_begin_10 rfl
theorem M_X3_begin (h : AHp) : MV QX3_begin 0 [.ref 31] h (m_X3_begin h) := MV.of (by decide) rfl rfl (Nat.le_of_ble_eq_true rfl) (w_X3_begin h)
set_option maxHeartbeats 4000000 in
set_option maxRecDepth 100000 in
theorem w_X11_placeOfBit_4 : ∀ (f : Nat) (x0 : Int32) (x2 : Int32) (x3 : Int32) (h : AHp), WO tvI QX11_placeOfBit 0 4 [(0, .int x0), (2, .int x2), (3, .int x3)] [] h (m_X11_placeOfBit_4 f x0 x2 x3 h) := by
  intro f
  induction f with
  | zero => intro x0 x2 x3 h; exact z_none
  | succ f ih =>
    intro x0 x2 x3 h
    rw [m_X11_placeOfBit_4]
    refine z_iload_n dX11_placeOfBit_4 2 rfl ?_
    refine z_bipush (v := 25) dX11_placeOfBit_5 (by decide) ?_
    refine z_ic_ge (tgt := 33) dX11_placeOfBit_7 (by decide) ?_ ?_
    · refine z_iconst (v := -1) dX11_placeOfBit_33 (by decide) ?_
      exact z_iret dX11_placeOfBit_34 rfl
    · refine z_iload_n dX11_placeOfBit_10 0 rfl ?_
      refine z_iload_n dX11_placeOfBit_11 2 rfl ?_
      refine z_ishr dX11_placeOfBit_12 ?_
      refine z_iconst (v := 1) dX11_placeOfBit_13 (by decide) ?_
      refine z_iand dX11_placeOfBit_14 ?_
      refine z_if_eq (tgt := 27) dX11_placeOfBit_15 (by decide) ?_ ?_
      · refine z_iincL (lv2 := fun v1 => [(3, .int v1), (0, .int x0), (2, .int x2)]) dX11_placeOfBit_27 2 rfl rfl (Nat.le_of_ble_eq_true rfl) (fun _ => rfl) (fun v1 => ?_)
        refine z_goto (tgt := 4) dX11_placeOfBit_30 (by decide) ?_
        exact z_sub [1, 2, 0] rfl (ih _ _ _ _)
      · refine z_iload_n dX11_placeOfBit_18 1 rfl ?_
        refine z_if_ne (tgt := 24) dX11_placeOfBit_19 (by decide) ?_ ?_
        · refine z_iincL (lv2 := fun v2 => [(2, .int v2), (0, .int x0), (3, .int x3)]) dX11_placeOfBit_24 1 rfl rfl (Nat.le_of_ble_eq_true rfl) (fun _ => rfl) (fun v2 => ?_)
          refine z_iincL (lv2 := fun v3 => [(3, .int v3), (2, .int v2), (0, .int x0)]) dX11_placeOfBit_27 2 rfl rfl (Nat.le_of_ble_eq_true rfl) (fun _ => rfl) (fun v3 => ?_)
          refine z_goto (tgt := 4) dX11_placeOfBit_30 (by decide) ?_
          exact z_sub [2, 1, 0] rfl (ih _ _ _ _)
        · refine z_iload_n dX11_placeOfBit_22 2 rfl ?_
          exact z_iret dX11_placeOfBit_23 rfl
set_option maxHeartbeats 4000000 in
set_option maxRecDepth 100000 in
theorem w_X11_placeOfBit (x0 : Int32) (x1 : Int32) (h : AHp) : WO tvI QX11_placeOfBit 0 0 [(0, .int x0), (1, .int x1)] [] h (m_X11_placeOfBit x0 x1 h) := by
  unfold m_X11_placeOfBit
  refine z_iload_n dX11_placeOfBit_0 1 rfl ?_
  refine z_istore_n (lv2 := [(2, .int x1), (0, .int x0), (1, .int x1)]) dX11_placeOfBit_1 (Nat.le_of_ble_eq_true rfl) rfl ?_
  refine z_iconst (v := 0) dX11_placeOfBit_2 (by decide) ?_
  refine z_istore_n (lv2 := [(3, .int 0), (2, .int x1), (0, .int x0), (1, .int x1)]) dX11_placeOfBit_3 (Nat.le_of_ble_eq_true rfl) rfl ?_
  exact z_sub [2, 1, 0] rfl (w_X11_placeOfBit_4 FU _ _ _ _)
theorem M_X11_placeOfBit (x0 : Int32) (x1 : Int32) (h : AHp) : MI QX11_placeOfBit 0 [.int x0, .int x1] h (m_X11_placeOfBit x0 x1 h) := MI.of (by decide) rfl rfl (Nat.le_of_ble_eq_true rfl) (w_X11_placeOfBit x0 x1 h)
set_option maxHeartbeats 4000000 in
set_option maxRecDepth 100000 in
theorem w_X1_sumLeast_3 : ∀ (f : Nat) (x1 : Int32) (h : AHp), WO tvV QX1_sumLeast 1 3 [(0, .ref 51), (1, .int x1)] [] h (m_X1_sumLeast_3 f x1 h) := by
  intro f
  induction f with
  | zero => intro x1 h; exact z_none
  | succ f ih =>
    intro x1 h
    rw [m_X1_sumLeast_3]
    refine z_iload_n dX1_sumLeast_3 1 rfl ?_
    refine z_if_lt (tgt := 54) dX1_sumLeast_4 (by decide) ?_ ?_
    · exact z_vret dX1_sumLeast_54 rfl
    · refine z_aload_n dX1_sumLeast_7 0 rfl ?_
      refine z_getR (j := 55) fX1_21 kc_51 rfl rfl rfl (by decide) dX1_sumLeast_8 ?_
      refine z_iload_n dX1_sumLeast_11 1 rfl ?_
      refine z_iload_n dX1_sumLeast_12 1 rfl ?_
      refine z_aload_n dX1_sumLeast_13 0 rfl ?_
      refine z_getI fX1_48 kc_51 rfl dX1_sumLeast_14 ?_
      refine z_ic_ge (tgt := 46) dX1_sumLeast_17 (by decide) ?_ ?_
      · refine z_iconst (v := 0) dX1_sumLeast_46 (by decide) ?_
        refine z_gd (fun g2 => ?_)
        refine z_iast kc_55 dX1_sumLeast_47 g2 ?_
        refine z_lh (fun h1 => ?_)
        refine z_iincL (lv2 := fun v3 => [(1, .int v3), (0, .ref 51)]) dX1_sumLeast_48 1 rfl rfl (Nat.le_of_ble_eq_true rfl) (fun _ => rfl) (fun v3 => ?_)
        refine z_goto (tgt := 3) dX1_sumLeast_51 (by decide) ?_
        exact z_sub [1, 0] rfl (ih _ _)
      · refine z_aload_n dX1_sumLeast_20 0 rfl ?_
        refine z_getR (j := 55) fX1_21 kc_51 rfl rfl rfl (by decide) dX1_sumLeast_21 ?_
        refine z_iload_n dX1_sumLeast_24 1 rfl ?_
        refine z_iconst (v := 1) dX1_sumLeast_25 (by decide) ?_
        refine z_iadd dX1_sumLeast_26 ?_
        refine z_gd (fun g4 => ?_)
        refine z_iald kc_55 dX1_sumLeast_27 g4 ?_
        refine z_iconst (v := 0) dX1_sumLeast_28 (by decide) ?_
        refine z_aload_n dX1_sumLeast_29 0 rfl ?_
        refine z_getR (j := 54) fX1_18 kc_51 rfl rfl rfl (by decide) dX1_sumLeast_30 ?_
        refine z_iload_n dX1_sumLeast_33 1 rfl ?_
        refine z_gd (fun g5 => ?_)
        refine z_iald kc_54 dX1_sumLeast_34 g5 ?_
        refine z_iconst (v := 0) dX1_sumLeast_35 (by decide) ?_
        refine z_callSNI dX1_sumLeast_36 (M_X11_placeOfBit _ _ _) bX11_placeOfBit lX1_102 rfl rfl (Nat.le_of_ble_eq_true rfl) (Nat.le_of_ble_eq_true rfl) (fun r6 h7 => ?_)
        refine z_mmax dX1_sumLeast_39 lX1_45 w_mmax (Nat.le_of_ble_eq_true rfl) (Nat.le_of_ble_eq_true rfl) ?_
        refine z_iadd dX1_sumLeast_42 ?_
        refine z_goto (tgt := 47) dX1_sumLeast_43 (by decide) ?_
        refine z_gd (fun g9 => ?_)
        refine z_iast kc_55 dX1_sumLeast_47 g9 ?_
        refine z_lh (fun h8 => ?_)
        refine z_iincL (lv2 := fun v10 => [(1, .int v10), (0, .ref 51)]) dX1_sumLeast_48 1 rfl rfl (Nat.le_of_ble_eq_true rfl) (fun _ => rfl) (fun v10 => ?_)
        refine z_goto (tgt := 3) dX1_sumLeast_51 (by decide) ?_
        exact z_sub [1, 0] rfl (ih _ _)
set_option maxHeartbeats 4000000 in
set_option maxRecDepth 100000 in
theorem w_X1_sumLeast (h : AHp) : WO tvV QX1_sumLeast 1 0 [(0, .ref 51)] [] h (m_X1_sumLeast h) := by
  unfold m_X1_sumLeast
  refine z_bipush (v := 12) dX1_sumLeast_0 (by decide) ?_
  refine z_istore_n (lv2 := [(1, .int 12), (0, .ref 51)]) dX1_sumLeast_2 (Nat.le_of_ble_eq_true rfl) rfl ?_
  exact z_sub [1, 0] rfl (w_X1_sumLeast_3 FU _ _)
theorem M_X1_sumLeast (h : AHp) : MV QX1_sumLeast 1 [.ref 51] h (m_X1_sumLeast h) := MV.of (by decide) rfl rfl (Nat.le_of_ble_eq_true rfl) (w_X1_sumLeast h)
