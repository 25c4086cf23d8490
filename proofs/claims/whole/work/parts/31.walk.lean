theorem M_X6_value : ∀ (f : Nat) (x1 : Int32) (x2 : Int32) (x3 : Int32) (h : AHp), MI QX6_value (f + 40) [.ref 62, .int x1, .int x2, .int x3] h (m_X6_value f x1 x2 x3 h) := by
  intro f
  induction f with
  | zero => intro x1 x2 x3 h x0 h0 ho; cases ho
  | succ f ih =>
    intro x1 x2 x3 h
    rw [m_X6_value]
    have e := M_X6_value_b (dd := f) (m_X6_value f) ih x1 x2 x3 h
    rw [show f + 1 + 40 = f + 41 from by omega]
    exact e
set_option maxHeartbeats 4000000 in
set_option maxRecDepth 100000 in
theorem w_X5_following_33 (x1 : Int32) (x2 : Int32) (x3 : Int32) (s0 : Int32) (s1 : Int32) (h : AHp) : WO tvI QX5_following 3 33 [(0, .ref 67), (1, .int x1), (2, .int x2), (3, .int x3)] [.int s1, .int s0] h (m_X5_following_33 x1 x2 x3 s0 s1 h) := by
  unfold m_X5_following_33
  refine z_iadd dX5_following_33 ?_
  refine z_istoreL (lv2 := fun v1 => [(4, .int v1), (0, .ref 67), (1, .int x1), (2, .int x2), (3, .int x3)]) dX5_following_34 (Nat.le_of_ble_eq_true rfl) (fun _ => rfl) (fun v1 => ?_)
  refine z_aload_n dX5_following_36 1 rfl ?_
  refine z_getR (j := 31) fX5_22 kc_67 rfl rfl rfl (by decide) dX5_following_37 ?_
  refine z_iload dX5_following_40 0 rfl ?_
  refine z_callVI dX5_following_42 (M_X3_has _ _) bX3_has lX5_79 kc_31 rfl rfl (Nat.le_of_ble_eq_true rfl) (Nat.le_of_ble_eq_true rfl) (fun r2 h3 => ?_)
  refine z_if_eq (tgt := 58) dX5_following_45 (by decide) ?_ ?_
  · refine z_aload_n dX5_following_58 1 rfl ?_
    refine z_getR (j := 3) fX5_18 kc_67 rfl rfl rfl (by decide) dX5_following_59 ?_
    refine z_iload_n dX5_following_62 3 rfl ?_
    refine z_iload_n dX5_following_63 4 rfl ?_
    refine z_iconst (v := 1) dX5_following_64 (by decide) ?_
    refine z_iload_n dX5_following_65 2 rfl ?_
    refine z_isub dX5_following_66 ?_
    refine z_aload_n dX5_following_67 1 rfl ?_
    refine z_getI fX5_48 kc_67 rfl dX5_following_68 ?_
    refine z_callVV dX5_following_71 (M_X9_stand _ _ _ _ _) bX9_stand lX5_88 kc_3 rfl rfl (Nat.le_of_ble_eq_true rfl) (Nat.le_of_ble_eq_true rfl) (fun r4 h5 => ?_)
    refine z_aload_n dX5_following_74 1 rfl ?_
    refine z_getR (j := 3) fX5_18 kc_67 rfl rfl rfl (by decide) dX5_following_75 ?_
    refine z_iconst (v := 1) dX5_following_78 (by decide) ?_
    refine z_iload_n dX5_following_79 2 rfl ?_
    refine z_aload_n dX5_following_80 1 rfl ?_
    refine z_getI fX5_45 kc_67 rfl dX5_following_81 ?_
    refine z_aload_n dX5_following_84 1 rfl ?_
    refine z_getR (j := 3) fX5_18 kc_67 rfl rfl rfl (by decide) dX5_following_85 ?_
    refine z_aload_n dX5_following_88 1 rfl ?_
    refine z_getI fX5_45 kc_67 rfl dX5_following_89 ?_
    refine z_callVI dX5_following_92 (M_X9_sizesOf _ _) bX9_sizesOf lX5_64 kc_3 rfl rfl (Nat.le_of_ble_eq_true rfl) (Nat.le_of_ble_eq_true rfl) (fun r6 h7 => ?_)
    refine z_callVI dX5_following_95 (M_X9_lets _ _ _ _ _) bX9_lets lX5_92 kc_3 rfl rfl (Nat.le_of_ble_eq_true rfl) (Nat.le_of_ble_eq_true rfl) (fun r8 h9 => ?_)
    refine z_istore (lv2 := [(5, .int r8), (4, .int v1), (0, .ref 67), (1, .int x1), (2, .int x2), (3, .int x3)]) dX5_following_98 (Nat.le_of_ble_eq_true rfl) rfl ?_
    refine z_aload_n dX5_following_100 2 rfl ?_
    refine z_getR (j := 31) fX5_22 kc_67 rfl rfl rfl (by decide) dX5_following_101 ?_
    refine z_iload dX5_following_104 1 rfl ?_
    refine z_iload dX5_following_106 0 rfl ?_
    refine z_callVV dX5_following_108 (M_X3_put _ _ _) bX3_put lX5_85 kc_31 rfl rfl (Nat.le_of_ble_eq_true rfl) (Nat.le_of_ble_eq_true rfl) (fun r10 h11 => ?_)
    refine z_iload dX5_following_111 0 rfl ?_
    exact z_iret dX5_following_113 rfl
  · refine z_aload_n dX5_following_48 1 rfl ?_
    refine z_getR (j := 31) fX5_22 kc_67 rfl rfl rfl (by decide) dX5_following_49 ?_
    refine z_iload dX5_following_52 0 rfl ?_
    refine z_callVI dX5_following_54 (M_X3_get _ _) bX3_get lX5_82 kc_31 rfl rfl (Nat.le_of_ble_eq_true rfl) (Nat.le_of_ble_eq_true rfl) (fun r12 h13 => ?_)
    exact z_iret dX5_following_57 rfl
set_option maxHeartbeats 4000000 in
set_option maxRecDepth 100000 in
theorem w_X5_following (x1 : Int32) (x2 : Int32) (x3 : Int32) (h : AHp) : WO tvI QX5_following 3 0 [(0, .ref 67), (1, .int x1), (2, .int x2), (3, .int x3)] [] h (m_X5_following x1 x2 x3 h) := by
  unfold m_X5_following
  refine z_iload_n dX5_following_0 1 rfl ?_
  refine z_sipush (v := 625) dX5_following_1 (by decide) ?_
  refine z_imul dX5_following_4 ?_
  refine z_aload_n dX5_following_5 0 rfl ?_
  refine z_getI fX5_57 kc_67 rfl dX5_following_6 ?_
  refine z_if_eq (tgt := 19) dX5_following_9 (by decide) ?_ ?_
  · refine z_iconst (v := 0) dX5_following_19 (by decide) ?_
    refine z_iadd dX5_following_20 ?_
    refine z_aload_n dX5_following_21 0 rfl ?_
    refine z_getI fX5_61 kc_67 rfl dX5_following_22 ?_
    refine z_if_eq (tgt := 32) dX5_following_25 (by decide) ?_ ?_
    · refine z_iconst (v := 0) dX5_following_32 (by decide) ?_
      exact w_X5_following_33 _ _ _ _ _ _
    · refine z_iload_n dX5_following_28 3 rfl ?_
      refine z_goto (tgt := 33) dX5_following_29 (by decide) ?_
      exact w_X5_following_33 _ _ _ _ _ _
  · refine z_iload_n dX5_following_12 2 rfl ?_
    refine z_bipush (v := 25) dX5_following_13 (by decide) ?_
    refine z_imul dX5_following_15 ?_
    refine z_goto (tgt := 20) dX5_following_16 (by decide) ?_
    refine z_iadd dX5_following_20 ?_
    refine z_aload_n dX5_following_21 0 rfl ?_
    refine z_getI fX5_61 kc_67 rfl dX5_following_22 ?_
    refine z_if_eq (tgt := 32) dX5_following_25 (by decide) ?_ ?_
    · refine z_iconst (v := 0) dX5_following_32 (by decide) ?_
      exact w_X5_following_33 _ _ _ _ _ _
    · refine z_iload_n dX5_following_28 3 rfl ?_
      refine z_goto (tgt := 33) dX5_following_29 (by decide) ?_
      exact w_X5_following_33 _ _ _ _ _ _
theorem M_X5_following (x1 : Int32) (x2 : Int32) (x3 : Int32) (h : AHp) : MI QX5_following 3 [.ref 67, .int x1, .int x2, .int x3] h (m_X5_following x1 x2 x3 h) := MI.of (by decide) rfl rfl (Nat.le_of_ble_eq_true rfl) (w_X5_following x1 x2 x3 h)
set_option maxHeartbeats 4000000 in
set_option maxRecDepth 100000 in
theorem w_X5_goesOn_b_226 {dd : Nat} (rec : Int32 → AHp → Option (Int32 × AHp)) (hrec : ∀ (x1 : Int32) (h : AHp), MI QX5_goesOn (dd + 40) [.ref 67, .int x1] h (rec x1 h)) : ∀ (f : Nat) (x1 : Int32) (x4 : Int32) (x5 : Int32) (x7 : Int32) (x8 : Int32) (h : AHp), WO tvI QX5_goesOn (dd + 41) 226 [(0, .ref 67), (1, .int x1), (4, .int x4), (5, .int x5), (7, .int x7), (8, .int x8)] [] h (m_X5_goesOn_b_226 rec f x1 x4 x5 x7 x8 h) := by
  intro f
  induction f with
  | zero => intro x1 x4 x5 x7 x8 h; exact z_none
  | succ f ih =>
    intro x1 x4 x5 x7 x8 h
    rw [m_X5_goesOn_b_226]
    refine z_iload dX5_goesOn_226 5 rfl ?_
    refine z_bipush (v := 24) dX5_goesOn_228 (by decide) ?_
    refine z_ic_gt (tgt := 274) dX5_goesOn_230 (by decide) ?_ ?_
    · refine z_aload_n dX5_goesOn_274 0 rfl ?_
      refine z_getR (j := 31) fX5_22 kc_67 rfl rfl rfl (by decide) dX5_goesOn_275 ?_
      refine z_iload dX5_goesOn_278 2 rfl ?_
      refine z_iload dX5_goesOn_280 3 rfl ?_
      refine z_callVV dX5_goesOn_282 (M_X3_put _ _ _) bX3_put lX5_85 kc_31 rfl rfl (Nat.le_of_ble_eq_true rfl) (by omega) (fun r1 h2 => ?_)
      refine z_iconst (v := 0) dX5_goesOn_285 (by decide) ?_
      exact z_zret dX5_goesOn_286 rfl (Or.inl rfl)
    · refine z_iload dX5_goesOn_233 4 rfl ?_
      refine z_if_eq (tgt := 274) dX5_goesOn_235 (by decide) ?_ ?_
      · refine z_aload_n dX5_goesOn_274 0 rfl ?_
        refine z_getR (j := 31) fX5_22 kc_67 rfl rfl rfl (by decide) dX5_goesOn_275 ?_
        refine z_iload dX5_goesOn_278 2 rfl ?_
        refine z_iload dX5_goesOn_280 3 rfl ?_
        refine z_callVV dX5_goesOn_282 (M_X3_put _ _ _) bX3_put lX5_85 kc_31 rfl rfl (Nat.le_of_ble_eq_true rfl) (by omega) (fun r3 h4 => ?_)
        refine z_iconst (v := 0) dX5_goesOn_285 (by decide) ?_
        exact z_zret dX5_goesOn_286 rfl (Or.inl rfl)
      · refine z_aload_n dX5_goesOn_238 0 rfl ?_
        refine z_getR (j := 68) fX5_9 kc_67 rfl rfl rfl (by decide) dX5_goesOn_239 ?_
        refine z_iload_n dX5_goesOn_242 1 rfl ?_
        refine z_iload dX5_goesOn_243 5 rfl ?_
        refine z_gd (fun g6 => ?_)
        refine z_iast kc_68 dX5_goesOn_245 g6 ?_
        refine z_lh (fun h5 => ?_)
        refine z_iload dX5_goesOn_246 4 rfl ?_
        refine z_iload dX5_goesOn_248 5 rfl ?_
        refine z_ishr dX5_goesOn_250 ?_
        refine z_iconst (v := 1) dX5_goesOn_251 (by decide) ?_
        refine z_iand dX5_goesOn_252 ?_
        refine z_if_eq (tgt := 268) dX5_goesOn_253 (by decide) ?_ ?_
        · refine z_iincL (lv2 := fun v7 => [(8, .int v7), (0, .ref 67), (1, .int x1), (4, .int x4), (5, .int x5), (7, .int x7)]) dX5_goesOn_268 5 rfl rfl (Nat.le_of_ble_eq_true rfl) (fun _ => rfl) (fun v7 => ?_)
          refine z_goto (tgt := 226) dX5_goesOn_271 (by decide) ?_
          exact z_sub [1, 2, 3, 4, 5, 0] rfl (ih _ _ _ _ _ _)
        · refine z_aload_n dX5_goesOn_256 0 rfl ?_
          refine z_iload_n dX5_goesOn_257 1 rfl ?_
          refine z_iconst (v := 1) dX5_goesOn_258 (by decide) ?_
          refine z_iadd dX5_goesOn_259 ?_
          refine z_callVI dX5_goesOn_260 (hrec _ _) bX5_goesOn lX5_75 kc_67 rfl rfl (Nat.le_of_ble_eq_true rfl) (by omega) (fun r8 h9 => ?_)
          refine z_if_eq (tgt := 268) dX5_goesOn_263 (by decide) ?_ ?_
          · refine z_iincL (lv2 := fun v10 => [(8, .int v10), (0, .ref 67), (1, .int x1), (4, .int x4), (5, .int x5), (7, .int x7)]) dX5_goesOn_268 5 rfl rfl (Nat.le_of_ble_eq_true rfl) (fun _ => rfl) (fun v10 => ?_)
            refine z_goto (tgt := 226) dX5_goesOn_271 (by decide) ?_
            exact z_sub [1, 2, 3, 4, 5, 0] rfl (ih _ _ _ _ _ _)
          · refine z_iconst (v := 1) dX5_goesOn_266 (by decide) ?_
            exact z_zret dX5_goesOn_267 rfl (Or.inr rfl)
set_option maxHeartbeats 4000000 in
set_option maxRecDepth 100000 in
theorem w_X5_goesOn_b_181 {dd : Nat} (rec : Int32 → AHp → Option (Int32 × AHp)) (hrec : ∀ (x1 : Int32) (h : AHp), MI QX5_goesOn (dd + 40) [.ref 67, .int x1] h (rec x1 h)) (x1 : Int32) (x2 : Int32) (x3 : Int32) (x4 : Int32) (x5 : Int32) (s0 : Int32) (h : AHp) : WO tvI QX5_goesOn (dd + 41) 181 [(0, .ref 67), (1, .int x1), (2, .int x2), (3, .int x3), (4, .int x4), (5, .int x5)] [.int s0] h (m_X5_goesOn_b_181 rec x1 x2 x3 x4 x5 s0 h) := by
  unfold m_X5_goesOn_b_181
  refine z_iload_n dX5_goesOn_181 2 rfl ?_
  refine z_iadd dX5_goesOn_182 ?_
  refine z_istoreL (lv2 := fun v11 => [(6, .int v11), (0, .ref 67), (1, .int x1), (2, .int x2), (3, .int x3), (4, .int x4), (5, .int x5)]) dX5_goesOn_183 (Nat.le_of_ble_eq_true rfl) (fun _ => rfl) (fun v11 => ?_)
  refine z_iload dX5_goesOn_185 0 rfl ?_
  refine z_if_lt (tgt := 220) dX5_goesOn_187 (by decide) ?_ ?_
  · refine z_iconst (v := 0) dX5_goesOn_220 (by decide) ?_
    refine z_istore (lv2 := [(7, .int 0), (6, .int v11), (0, .ref 67), (1, .int x1), (2, .int x2), (3, .int x3), (4, .int x4), (5, .int x5)]) dX5_goesOn_221 (Nat.le_of_ble_eq_true rfl) rfl ?_
    refine z_iconst (v := 1) dX5_goesOn_223 (by decide) ?_
    refine z_istore (lv2 := [(8, .int 1), (7, .int 0), (6, .int v11), (0, .ref 67), (1, .int x1), (2, .int x2), (3, .int x3), (4, .int x4), (5, .int x5)]) dX5_goesOn_224 (Nat.le_of_ble_eq_true rfl) rfl ?_
    exact z_sub [3, 4, 7, 8, 1, 0] rfl (w_X5_goesOn_b_226 rec hrec FU _ _ _ _ _ _)
  · refine z_iload dX5_goesOn_190 0 rfl ?_
    refine z_aload_n dX5_goesOn_192 1 rfl ?_
    refine z_getR (j := 69) fX5_15 kc_67 rfl rfl rfl (by decide) dX5_goesOn_193 ?_
    refine z_alen (v := 50) kc_69 (by decide) (by decide) dX5_goesOn_196 ?_
    refine z_ic_ge (tgt := 220) dX5_goesOn_197 (by decide) ?_ ?_
    · refine z_iconst (v := 0) dX5_goesOn_220 (by decide) ?_
      refine z_istore (lv2 := [(7, .int 0), (6, .int v11), (0, .ref 67), (1, .int x1), (2, .int x2), (3, .int x3), (4, .int x4), (5, .int x5)]) dX5_goesOn_221 (Nat.le_of_ble_eq_true rfl) rfl ?_
      refine z_iconst (v := 1) dX5_goesOn_223 (by decide) ?_
      refine z_istore (lv2 := [(8, .int 1), (7, .int 0), (6, .int v11), (0, .ref 67), (1, .int x1), (2, .int x2), (3, .int x3), (4, .int x4), (5, .int x5)]) dX5_goesOn_224 (Nat.le_of_ble_eq_true rfl) rfl ?_
      exact z_sub [3, 4, 7, 8, 1, 0] rfl (w_X5_goesOn_b_226 rec hrec FU _ _ _ _ _ _)
    · refine z_aload_n dX5_goesOn_200 1 rfl ?_
      refine z_iload_n dX5_goesOn_201 2 rfl ?_
      refine z_iconst (v := 2) dX5_goesOn_202 (by decide) ?_
      refine z_irem dX5_goesOn_203 (by decide) ?_
      refine z_iload_n dX5_goesOn_204 3 rfl ?_
      refine z_iload_n dX5_goesOn_205 4 rfl ?_
      refine z_callVI dX5_goesOn_206 (M_X5_following _ _ _ _) bX5_following lX5_71 kc_67 rfl rfl (Nat.le_of_ble_eq_true rfl) (by omega) (fun r12 h13 => ?_)
      refine z_aload_n dX5_goesOn_209 1 rfl ?_
      refine z_getR (j := 69) fX5_15 kc_67 rfl rfl rfl (by decide) dX5_goesOn_210 ?_
      refine z_iload dX5_goesOn_213 0 rfl ?_
      refine z_gd (fun g14 => ?_)
      refine z_iald kc_69 dX5_goesOn_215 g14 ?_
      refine z_iand dX5_goesOn_216 ?_
      refine z_goto (tgt := 221) dX5_goesOn_217 (by decide) ?_
      refine z_istoreL (lv2 := fun v15 => [(7, .int v15), (6, .int v11), (0, .ref 67), (1, .int x1), (2, .int x2), (3, .int x3), (4, .int x4), (5, .int x5)]) dX5_goesOn_221 (Nat.le_of_ble_eq_true rfl) (fun _ => rfl) (fun v15 => ?_)
      refine z_iconst (v := 1) dX5_goesOn_223 (by decide) ?_
      refine z_istore (lv2 := [(8, .int 1), (7, .int v15), (6, .int v11), (0, .ref 67), (1, .int x1), (2, .int x2), (3, .int x3), (4, .int x4), (5, .int x5)]) dX5_goesOn_224 (Nat.le_of_ble_eq_true rfl) rfl ?_
      exact z_sub [3, 4, 7, 8, 1, 0] rfl (w_X5_goesOn_b_226 rec hrec FU _ _ _ _ _ _)
set_option maxHeartbeats 4000000 in
set_option maxRecDepth 100000 in
theorem w_X5_goesOn_b {dd : Nat} (rec : Int32 → AHp → Option (Int32 × AHp)) (hrec : ∀ (x1 : Int32) (h : AHp), MI QX5_goesOn (dd + 40) [.ref 67, .int x1] h (rec x1 h)) (x1 : Int32) (h : AHp) : WO tvI QX5_goesOn (dd + 41) 0 [(0, .ref 67), (1, .int x1)] [] h (m_X5_goesOn_b rec x1 h) := by
  unfold m_X5_goesOn_b
  refine z_iload_n dX5_goesOn_0 1 rfl ?_
  refine z_iconst (v := 2) dX5_goesOn_1 (by decide) ?_
  refine z_ic_lt (tgt := 19) dX5_goesOn_2 (by decide) ?_ ?_
  · refine z_iconst (v := 0) dX5_goesOn_19 (by decide) ?_
    exact z_zret dX5_goesOn_20 rfl (Or.inl rfl)
  · refine z_iload_n dX5_goesOn_5 1 rfl ?_
    refine z_aload_n dX5_goesOn_6 0 rfl ?_
    refine z_getI fX5_30 kc_67 rfl dX5_goesOn_7 ?_
    refine z_ic_gt (tgt := 19) dX5_goesOn_10 (by decide) ?_ ?_
    · refine z_iconst (v := 0) dX5_goesOn_19 (by decide) ?_
      exact z_zret dX5_goesOn_20 rfl (Or.inl rfl)
    · refine z_iload_n dX5_goesOn_13 1 rfl ?_
      refine z_bipush (v := 6) dX5_goesOn_14 (by decide) ?_
      refine z_ic_le (tgt := 21) dX5_goesOn_16 (by decide) ?_ ?_
      · refine z_aload_n dX5_goesOn_21 0 rfl ?_
        refine z_getR (j := 68) fX5_9 kc_67 rfl rfl rfl (by decide) dX5_goesOn_22 ?_
        refine z_iload_n dX5_goesOn_25 1 rfl ?_
        refine z_iconst (v := 1) dX5_goesOn_26 (by decide) ?_
        refine z_isub dX5_goesOn_27 ?_
        refine z_gd (fun g16 => ?_)
        refine z_iald kc_68 dX5_goesOn_28 g16 ?_
        refine z_istore_nL (lv2 := fun v17 => [(2, .int v17), (0, .ref 67), (1, .int x1)]) dX5_goesOn_29 (Nat.le_of_ble_eq_true rfl) (fun _ => rfl) (fun v17 => ?_)
        refine z_aload_n dX5_goesOn_30 1 rfl ?_
        refine z_getR (j := 68) fX5_9 kc_67 rfl rfl rfl (by decide) dX5_goesOn_31 ?_
        refine z_iload_n dX5_goesOn_34 2 rfl ?_
        refine z_iconst (v := 2) dX5_goesOn_35 (by decide) ?_
        refine z_isub dX5_goesOn_36 ?_
        refine z_gd (fun g18 => ?_)
        refine z_iald kc_68 dX5_goesOn_37 g18 ?_
        refine z_istore_nL (lv2 := fun v19 => [(3, .int v19), (2, .int v17), (0, .ref 67), (1, .int x1)]) dX5_goesOn_38 (Nat.le_of_ble_eq_true rfl) (fun _ => rfl) (fun v19 => ?_)
        refine z_iload_n dX5_goesOn_39 3 rfl ?_
        refine z_aload_n dX5_goesOn_40 2 rfl ?_
        refine z_getI fX5_30 kc_67 rfl dX5_goesOn_41 ?_
        refine z_ic_ne (tgt := 96) dX5_goesOn_44 (by decide) ?_ ?_
        · refine z_sipush (v := 1250) dX5_goesOn_96 (by decide) ?_
          refine z_iload_n dX5_goesOn_99 3 rfl ?_
          refine z_sipush (v := 625) dX5_goesOn_100 (by decide) ?_
          refine z_imul dX5_goesOn_103 ?_
          refine z_iadd dX5_goesOn_104 ?_
          refine z_iload_n dX5_goesOn_105 1 rfl ?_
          refine z_bipush (v := 25) dX5_goesOn_106 (by decide) ?_
          refine z_imul dX5_goesOn_108 ?_
          refine z_iadd dX5_goesOn_109 ?_
          refine z_iload_n dX5_goesOn_110 0 rfl ?_
          refine z_iadd dX5_goesOn_111 ?_
          refine z_istoreL (lv2 := fun v20 => [(4, .int v20), (3, .int v19), (2, .int v17), (0, .ref 67), (1, .int x1)]) dX5_goesOn_112 (Nat.le_of_ble_eq_true rfl) (fun _ => rfl) (fun v20 => ?_)
          refine z_aload_n dX5_goesOn_114 3 rfl ?_
          refine z_getI fX5_30 kc_67 rfl dX5_goesOn_115 ?_
          refine z_sipush (v := 625) dX5_goesOn_118 (by decide) ?_
          refine z_imul dX5_goesOn_121 ?_
          refine z_aload_n dX5_goesOn_122 3 rfl ?_
          refine z_getR (j := 68) fX5_9 kc_67 rfl rfl rfl (by decide) dX5_goesOn_123 ?_
          refine z_iconst (v := 0) dX5_goesOn_126 (by decide) ?_
          refine z_iald kc_68 dX5_goesOn_127 (by decide) ?_
          refine z_bipush (v := 25) dX5_goesOn_128 (by decide) ?_
          refine z_imul dX5_goesOn_130 ?_
          refine z_iadd dX5_goesOn_131 ?_
          refine z_aload_n dX5_goesOn_132 3 rfl ?_
          refine z_getR (j := 68) fX5_9 kc_67 rfl rfl rfl (by decide) dX5_goesOn_133 ?_
          refine z_iconst (v := 1) dX5_goesOn_136 (by decide) ?_
          refine z_iald kc_68 dX5_goesOn_137 (by decide) ?_
          refine z_iadd dX5_goesOn_138 ?_
          refine z_istoreL (lv2 := fun v21 => [(5, .int v21), (4, .int v20), (3, .int v19), (2, .int v17), (0, .ref 67), (1, .int x1)]) dX5_goesOn_139 (Nat.le_of_ble_eq_true rfl) (fun _ => rfl) (fun v21 => ?_)
          refine z_aload_n dX5_goesOn_141 4 rfl ?_
          refine z_getR (j := 31) fX5_22 kc_67 rfl rfl rfl (by decide) dX5_goesOn_142 ?_
          refine z_iload dX5_goesOn_145 1 rfl ?_
          refine z_callVI dX5_goesOn_147 (M_X3_has _ _) bX3_has lX5_79 kc_31 rfl rfl (Nat.le_of_ble_eq_true rfl) (by omega) (fun r22 h23 => ?_)
          refine z_if_eq (tgt := 169) dX5_goesOn_150 (by decide) ?_ ?_
          · refine z_iload_n dX5_goesOn_169 5 rfl ?_
            refine z_iconst (v := 2) dX5_goesOn_170 (by decide) ?_
            refine z_irem dX5_goesOn_171 (by decide) ?_
            refine z_if_ne (tgt := 180) dX5_goesOn_172 (by decide) ?_ ?_
            · refine z_iconst (v := 0) dX5_goesOn_180 (by decide) ?_
              exact z_sub [4, 5, 3, 2, 1, 0] rfl (w_X5_goesOn_b_181 rec hrec _ _ _ _ _ _ _)
            · refine z_bipush (v := 25) dX5_goesOn_175 (by decide) ?_
              refine z_goto (tgt := 181) dX5_goesOn_177 (by decide) ?_
              exact z_sub [4, 5, 3, 2, 1, 0] rfl (w_X5_goesOn_b_181 rec hrec _ _ _ _ _ _ _)
          · refine z_aload_n dX5_goesOn_153 4 rfl ?_
            refine z_getR (j := 31) fX5_22 kc_67 rfl rfl rfl (by decide) dX5_goesOn_154 ?_
            refine z_iload dX5_goesOn_157 1 rfl ?_
            refine z_callVI dX5_goesOn_159 (M_X3_get _ _) bX3_get lX5_82 kc_31 rfl rfl (Nat.le_of_ble_eq_true rfl) (by omega) (fun r24 h25 => ?_)
            refine z_iload dX5_goesOn_162 0 rfl ?_
            refine z_ic_ne (tgt := 169) dX5_goesOn_164 (by decide) ?_ ?_
            · refine z_iload_n dX5_goesOn_169 5 rfl ?_
              refine z_iconst (v := 2) dX5_goesOn_170 (by decide) ?_
              refine z_irem dX5_goesOn_171 (by decide) ?_
              refine z_if_ne (tgt := 180) dX5_goesOn_172 (by decide) ?_ ?_
              · refine z_iconst (v := 0) dX5_goesOn_180 (by decide) ?_
                exact z_sub [4, 5, 3, 2, 1, 0] rfl (w_X5_goesOn_b_181 rec hrec _ _ _ _ _ _ _)
              · refine z_bipush (v := 25) dX5_goesOn_175 (by decide) ?_
                refine z_goto (tgt := 181) dX5_goesOn_177 (by decide) ?_
                exact z_sub [4, 5, 3, 2, 1, 0] rfl (w_X5_goesOn_b_181 rec hrec _ _ _ _ _ _ _)
            · refine z_iconst (v := 0) dX5_goesOn_167 (by decide) ?_
              exact z_zret dX5_goesOn_168 rfl (Or.inl rfl)
        · refine z_aload_n dX5_goesOn_47 2 rfl ?_
          refine z_iconst (v := 0) dX5_goesOn_48 (by decide) ?_
          refine z_iload_n dX5_goesOn_49 1 rfl ?_
          refine z_iload_n dX5_goesOn_50 0 rfl ?_
          refine z_callVI dX5_goesOn_51 (M_X5_following _ _ _ _) bX5_following lX5_71 kc_67 rfl rfl (Nat.le_of_ble_eq_true rfl) (by omega) (fun r26 h27 => ?_)
          refine z_aload_n dX5_goesOn_54 2 rfl ?_
          refine z_getR (j := 68) fX5_9 kc_67 rfl rfl rfl (by decide) dX5_goesOn_55 ?_
          refine z_iconst (v := 0) dX5_goesOn_58 (by decide) ?_
          refine z_iald kc_68 dX5_goesOn_59 (by decide) ?_
          refine z_ishr dX5_goesOn_60 ?_
          refine z_iconst (v := 1) dX5_goesOn_61 (by decide) ?_
          refine z_iand dX5_goesOn_62 ?_
          refine z_if_eq (tgt := 94) dX5_goesOn_63 (by decide) ?_ ?_
          · refine z_iconst (v := 0) dX5_goesOn_94 (by decide) ?_
            exact z_zret dX5_goesOn_95 rfl (Or.inl rfl)
          · refine z_aload_n dX5_goesOn_66 2 rfl ?_
            refine z_iconst (v := 1) dX5_goesOn_67 (by decide) ?_
            refine z_aload_n dX5_goesOn_68 2 rfl ?_
            refine z_getR (j := 68) fX5_9 kc_67 rfl rfl rfl (by decide) dX5_goesOn_69 ?_
            refine z_iconst (v := 0) dX5_goesOn_72 (by decide) ?_
            refine z_iald kc_68 dX5_goesOn_73 (by decide) ?_
            refine z_iload_n dX5_goesOn_74 1 rfl ?_
            refine z_callVI dX5_goesOn_75 (M_X5_following _ _ _ _) bX5_following lX5_71 kc_67 rfl rfl (Nat.le_of_ble_eq_true rfl) (by omega) (fun r28 h29 => ?_)
            refine z_aload_n dX5_goesOn_78 2 rfl ?_
            refine z_getR (j := 68) fX5_9 kc_67 rfl rfl rfl (by decide) dX5_goesOn_79 ?_
            refine z_iconst (v := 1) dX5_goesOn_82 (by decide) ?_
            refine z_iald kc_68 dX5_goesOn_83 (by decide) ?_
            refine z_ishr dX5_goesOn_84 ?_
            refine z_iconst (v := 1) dX5_goesOn_85 (by decide) ?_
            refine z_iand dX5_goesOn_86 ?_
            refine z_if_eq (tgt := 94) dX5_goesOn_87 (by decide) ?_ ?_
            · refine z_iconst (v := 0) dX5_goesOn_94 (by decide) ?_
              exact z_zret dX5_goesOn_95 rfl (Or.inl rfl)
            · refine z_iconst (v := 1) dX5_goesOn_90 (by decide) ?_
              refine z_goto (tgt := 95) dX5_goesOn_91 (by decide) ?_
              exact z_zret dX5_goesOn_95 rfl (Or.inr rfl)
      · refine z_iconst (v := 0) dX5_goesOn_19 (by decide) ?_
        exact z_zret dX5_goesOn_20 rfl (Or.inl rfl)
theorem M_X5_goesOn_b {dd : Nat} (rec : Int32 → AHp → Option (Int32 × AHp)) (hrec : ∀ (x1 : Int32) (h : AHp), MI QX5_goesOn (dd + 40) [.ref 67, .int x1] h (rec x1 h)) (x1 : Int32) (h : AHp) : MI QX5_goesOn (dd + 41) [.ref 67, .int x1] h (m_X5_goesOn_b rec x1 h) := MI.of (by decide) rfl rfl (Nat.le_of_ble_eq_true rfl) (w_X5_goesOn_b rec hrec x1 h)
theorem M_X5_goesOn : ∀ (f : Nat) (x1 : Int32) (h : AHp), MI QX5_goesOn (f + 40) [.ref 67, .int x1] h (m_X5_goesOn f x1 h) := by
  intro f
  induction f with
  | zero => intro x1 h x0 h0 ho; cases ho
  | succ f ih =>
    intro x1 h
    rw [m_X5_goesOn]
    have e := M_X5_goesOn_b (dd := f) (m_X5_goesOn f) ih x1 h
    rw [show f + 1 + 40 = f + 41 from by omega]
    exact e
set_option maxHeartbeats 4000000 in
set_option maxRecDepth 100000 in
theorem w_X8_sign (h : AHp) : WO tvI QX8_sign 0 0 [(0, .ref 1)] [] h (m_X8_sign h) := by
  unfold m_X8_sign
  refine z_aload_n dX8_sign_0 0 rfl ?_
  refine z_getI fX8_35 kc_1 rfl dX8_sign_1 ?_
  refine z_if_ne (tgt := 49) dX8_sign_4 (by decide) ?_ ?_
  · refine z_iconst (v := -1) dX8_sign_49 (by decide) ?_
    exact z_iret dX8_sign_50 rfl
  · refine z_aload_n dX8_sign_7 0 rfl ?_
    refine z_getI fX8_23 kc_1 rfl dX8_sign_8 ?_
    refine z_if_lt (tgt := 49) dX8_sign_11 (by decide) ?_ ?_
    · refine z_iconst (v := -1) dX8_sign_49 (by decide) ?_
      exact z_iret dX8_sign_50 rfl
    · refine z_aload_n dX8_sign_14 0 rfl ?_
      refine z_getI fX8_23 kc_1 rfl dX8_sign_15 ?_
      refine z_aload_n dX8_sign_18 0 rfl ?_
      refine z_getI fX8_32 kc_1 rfl dX8_sign_19 ?_
      refine z_ic_ge (tgt := 49) dX8_sign_22 (by decide) ?_ ?_
      · refine z_iconst (v := -1) dX8_sign_49 (by decide) ?_
        exact z_iret dX8_sign_50 rfl
      · refine z_aload_n dX8_sign_25 0 rfl ?_
        refine z_getI fX8_23 kc_1 rfl dX8_sign_26 ?_
        refine z_aload_n dX8_sign_29 0 rfl ?_
        refine z_getR (j := 2) fX8_9 kc_1 rfl rfl rfl (by decide) dX8_sign_30 ?_
        refine z_alen (v := 220) kc_2 (by decide) (by decide) dX8_sign_33 ?_
        refine z_ic_ge (tgt := 49) dX8_sign_34 (by decide) ?_ ?_
        · refine z_iconst (v := -1) dX8_sign_49 (by decide) ?_
          exact z_iret dX8_sign_50 rfl
        · refine z_aload_n dX8_sign_37 0 rfl ?_
          refine z_getR (j := 2) fX8_9 kc_1 rfl rfl rfl (by decide) dX8_sign_38 ?_
          refine z_aload_n dX8_sign_41 0 rfl ?_
          refine z_getI fX8_23 kc_1 rfl dX8_sign_42 ?_
          refine z_gd (fun g1 => ?_)
          refine z_iald kc_2 dX8_sign_45 g1 ?_
          refine z_goto (tgt := 50) dX8_sign_46 (by decide) ?_
          exact z_iret dX8_sign_50 rfl
theorem M_X8_sign (h : AHp) : MI QX8_sign 0 [.ref 1] h (m_X8_sign h) := MI.of (by decide) rfl rfl (Nat.le_of_ble_eq_true rfl) (w_X8_sign h)
set_option maxHeartbeats 4000000 in
set_option maxRecDepth 100000 in
theorem w_X8_fail (x1 : Int32) (h : AHp) : WO tvV QX8_fail 0 0 [(0, .ref 1), (1, .int x1)] [] h (m_X8_fail x1 h) := by
  unfold m_X8_fail
  refine z_aload_n dX8_fail_0 0 rfl ?_
  refine z_getI fX8_35 kc_1 rfl dX8_fail_1 ?_
  refine z_if_ne (tgt := 21) dX8_fail_4 (by decide) ?_ ?_
  · exact z_vret dX8_fail_21 rfl
  · refine z_aload_n dX8_fail_7 0 rfl ?_
    refine z_sipush (v := -1000) dX8_fail_8 (by decide) ?_
    refine z_iload_n dX8_fail_11 1 rfl ?_
    refine z_imul dX8_fail_12 ?_
    refine z_aload_n dX8_fail_13 0 rfl ?_
    refine z_getI fX8_23 kc_1 rfl dX8_fail_14 ?_
    refine z_isub dX8_fail_17 ?_
    refine z_putI fX8_35 kc_1 rfl dX8_fail_18 ?_
    refine z_lh (fun h1 => ?_)
    exact z_vret dX8_fail_21 rfl
theorem M_X8_fail (x1 : Int32) (h : AHp) : MV QX8_fail 0 [.ref 1, .int x1] h (m_X8_fail x1 h) := MV.of (by decide) rfl rfl (Nat.le_of_ble_eq_true rfl) (w_X8_fail x1 h)
set_option maxHeartbeats 4000000 in
set_option maxRecDepth 100000 in
theorem w_X8_step (h : AHp) : WO tvV QX8_step 0 0 [(0, .ref 1)] [] h (m_X8_step h) := by
  unfold m_X8_step
  refine z_aload_n dX8_step_0 0 rfl ?_
  refine z_getI fX8_23 kc_1 rfl dX8_step_1 ?_
  refine z_aload_n dX8_step_4 0 rfl ?_
  refine z_getI fX8_32 kc_1 rfl dX8_step_5 ?_
  refine z_ic_ge (tgt := 21) dX8_step_8 (by decide) ?_ ?_
  · exact z_vret dX8_step_21 rfl
  · refine z_aload_n dX8_step_11 0 rfl ?_
    refine z_dup dX8_step_12 rfl ?_
    refine z_getI fX8_23 kc_1 rfl dX8_step_13 ?_
    refine z_iconst (v := 1) dX8_step_16 (by decide) ?_
    refine z_iadd dX8_step_17 ?_
    refine z_putI fX8_23 kc_1 rfl dX8_step_18 ?_
    refine z_lh (fun h1 => ?_)
    exact z_vret dX8_step_21 rfl
theorem M_X8_step (h : AHp) : MV QX8_step 0 [.ref 1] h (m_X8_step h) := MV.of (by decide) rfl rfl (Nat.le_of_ble_eq_true rfl) (w_X8_step h)
set_option maxHeartbeats 4000000 in
set_option maxRecDepth 100000 in
theorem w_X8_expect (x1 : Int32) (h : AHp) : WO tvV QX8_expect 1 0 [(0, .ref 1), (1, .int x1)] [] h (m_X8_expect x1 h) := by
  unfold m_X8_expect
  refine z_aload_n dX8_expect_0 0 rfl ?_
  refine z_callVI dX8_expect_1 (M_X8_sign _) bX8_sign lX8_38 kc_1 rfl rfl (Nat.le_of_ble_eq_true rfl) (Nat.le_of_ble_eq_true rfl) (fun r1 h2 => ?_)
  refine z_iload_n dX8_expect_4 1 rfl ?_
  refine z_ic_ne (tgt := 15) dX8_expect_5 (by decide) ?_ ?_
  · refine z_aload_n dX8_expect_15 0 rfl ?_
    refine z_iconst (v := 1) dX8_expect_16 (by decide) ?_
    refine z_callVV dX8_expect_17 (M_X8_fail _ _) bX8_fail lX8_45 kc_1 rfl rfl (Nat.le_of_ble_eq_true rfl) (Nat.le_of_ble_eq_true rfl) (fun r3 h4 => ?_)
    exact z_vret dX8_expect_20 rfl
  · refine z_aload_n dX8_expect_8 0 rfl ?_
    refine z_callVV dX8_expect_9 (M_X8_step _) bX8_step lX8_42 kc_1 rfl rfl (Nat.le_of_ble_eq_true rfl) (Nat.le_of_ble_eq_true rfl) (fun r5 h6 => ?_)
    refine z_goto (tgt := 20) dX8_expect_12 (by decide) ?_
    exact z_vret dX8_expect_20 rfl
theorem M_X8_expect (x1 : Int32) (h : AHp) : MV QX8_expect 1 [.ref 1, .int x1] h (m_X8_expect x1 h) := MV.of (by decide) rfl rfl (Nat.le_of_ble_eq_true rfl) (w_X8_expect x1 h)
set_option maxHeartbeats 4000000 in
set_option maxRecDepth 100000 in
theorem w_X4_joined_4 : ∀ (f : Nat) (x0 : Int32) (x1 : Int32) (x2 : Int32) (x3 : Int32) (h : AHp), WO tvI QX4_joined 0 4 [(0, .int x0), (1, .int x1), (2, .int x2), (3, .int x3)] [] h (m_X4_joined_4 f x0 x1 x2 x3 h) := by
  intro f
  induction f with
  | zero => intro x0 x1 x2 x3 h; exact z_none
  | succ f ih =>
    intro x0 x1 x2 x3 h
    rw [m_X4_joined_4]
    refine z_iload_n dX4_joined_4 3 rfl ?_
    refine z_bipush (v := 25) dX4_joined_5 (by decide) ?_
    refine z_ic_ge (tgt := 30) dX4_joined_7 (by decide) ?_ ?_
    · refine z_iload_n dX4_joined_30 2 rfl ?_
      refine z_ldc dX4_joined_31 kX4_80 ?_
      refine z_iand dX4_joined_33 ?_
      exact z_iret dX4_joined_34 rfl
    · refine z_iload_n dX4_joined_10 1 rfl ?_
      refine z_iload_n dX4_joined_11 3 rfl ?_
      refine z_ishr dX4_joined_12 ?_
      refine z_iconst (v := 1) dX4_joined_13 (by decide) ?_
      refine z_iand dX4_joined_14 ?_
      refine z_if_eq (tgt := 24) dX4_joined_15 (by decide) ?_ ?_
      · refine z_iincL (lv2 := fun v1 => [(3, .int v1), (0, .int x0), (1, .int x1), (2, .int x2)]) dX4_joined_24 3 rfl rfl (Nat.le_of_ble_eq_true rfl) (fun _ => rfl) (fun v1 => ?_)
        refine z_goto (tgt := 4) dX4_joined_27 (by decide) ?_
        exact z_sub [1, 2, 3, 0] rfl (ih _ _ _ _ _)
      · refine z_iload_n dX4_joined_18 2 rfl ?_
        refine z_iload_n dX4_joined_19 0 rfl ?_
        refine z_iload_n dX4_joined_20 3 rfl ?_
        refine z_ishl dX4_joined_21 ?_
        refine z_ior dX4_joined_22 ?_
        refine z_istore_nL (lv2 := fun v2 => [(2, .int v2), (0, .int x0), (1, .int x1), (3, .int x3)]) dX4_joined_23 (Nat.le_of_ble_eq_true rfl) (fun _ => rfl) (fun v2 => ?_)
        refine z_iincL (lv2 := fun v3 => [(3, .int v3), (2, .int v2), (0, .int x0), (1, .int x1)]) dX4_joined_24 3 rfl rfl (Nat.le_of_ble_eq_true rfl) (fun _ => rfl) (fun v3 => ?_)
        refine z_goto (tgt := 4) dX4_joined_27 (by decide) ?_
        exact z_sub [2, 3, 1, 0] rfl (ih _ _ _ _ _)
set_option maxHeartbeats 4000000 in
set_option maxRecDepth 100000 in
theorem w_X4_joined (x0 : Int32) (x1 : Int32) (h : AHp) : WO tvI QX4_joined 0 0 [(0, .int x0), (1, .int x1)] [] h (m_X4_joined x0 x1 h) := by
  unfold m_X4_joined
  refine z_iconst (v := 0) dX4_joined_0 (by decide) ?_
  refine z_istore_n (lv2 := [(2, .int 0), (0, .int x0), (1, .int x1)]) dX4_joined_1 (Nat.le_of_ble_eq_true rfl) rfl ?_
  refine z_iconst (v := 0) dX4_joined_2 (by decide) ?_
  refine z_istore_n (lv2 := [(3, .int 0), (2, .int 0), (0, .int x0), (1, .int x1)]) dX4_joined_3 (Nat.le_of_ble_eq_true rfl) rfl ?_
  exact z_sub [2, 3, 1, 0] rfl (w_X4_joined_4 FU _ _ _ _ _)
theorem M_X4_joined (x0 : Int32) (x1 : Int32) (h : AHp) : MI QX4_joined 0 [.int x0, .int x1] h (m_X4_joined x0 x1 h) := MI.of (by decide) rfl rfl (Nat.le_of_ble_eq_true rfl) (w_X4_joined x0 x1 h)
set_option maxHeartbeats 4000000 in
set_option maxRecDepth 100000 in
theorem w_X4_readTimes_26 : ∀ (f : Nat) (x1 : Int32) (x3 : Int32) (x4 : Int32) (h : AHp), WO tvI QX4_readTimes 1 26 [(1, .int x1), (3, .int x3), (4, .int x4)] [] h (m_X4_readTimes_26 f x1 x3 x4 h) := by
  intro f
  induction f with
  | zero => intro x1 x3 x4 h; exact z_none
  | succ f ih =>
    intro x1 x3 x4 h
    rw [m_X4_readTimes_26]
    refine z_iload dX4_readTimes_26 2 rfl ?_
    refine z_bipush (v := 24) dX4_readTimes_28 (by decide) ?_
    refine z_ic_ge (tgt := 47) dX4_readTimes_30 (by decide) ?_ ?_
    · refine z_iload_n dX4_readTimes_47 1 rfl ?_
      exact z_iret dX4_readTimes_48 rfl
    · refine z_iload_n dX4_readTimes_33 1 rfl ?_
      refine z_iload_n dX4_readTimes_34 1 rfl ?_
      refine z_iload_n dX4_readTimes_35 0 rfl ?_
      refine z_callSI dX4_readTimes_36 (M_X4_joined _ _ _) bX4_joined lX4_61 rfl rfl (Nat.le_of_ble_eq_true rfl) (Nat.le_of_ble_eq_true rfl) (fun r1 h2 => ?_)
      refine z_ior dX4_readTimes_39 ?_
      refine z_istore_nL (lv2 := fun v3 => [(3, .int v3), (1, .int x1), (4, .int x4)]) dX4_readTimes_40 (Nat.le_of_ble_eq_true rfl) (fun _ => rfl) (fun v3 => ?_)
      refine z_iincL (lv2 := fun v4 => [(4, .int v4), (3, .int v3), (1, .int x1)]) dX4_readTimes_41 2 rfl rfl (Nat.le_of_ble_eq_true rfl) (fun _ => rfl) (fun v4 => ?_)
      refine z_goto (tgt := 26) dX4_readTimes_44 (by decide) ?_
      exact z_sub [2, 1, 0] rfl (ih _ _ _ _)
set_option maxHeartbeats 4000000 in
set_option maxRecDepth 100000 in
theorem w_X4_readTimes_74 : ∀ (f : Nat) (x1 : Int32) (x2 : Int32) (x3 : Int32) (x4 : Int32) (h : AHp), WO tvI QX4_readTimes 1 74 [(1, .int x1), (2, .int x2), (3, .int x3), (4, .int x4)] [] h (m_X4_readTimes_74 f x1 x2 x3 x4 h) := by
  intro f
  induction f with
  | zero => intro x1 x2 x3 x4 h; exact z_none
  | succ f ih =>
    intro x1 x2 x3 x4 h
    rw [m_X4_readTimes_74]
    refine z_iload dX4_readTimes_74 3 rfl ?_
    refine z_iload_n dX4_readTimes_76 1 rfl ?_
    refine z_ic_ge (tgt := 92) dX4_readTimes_77 (by decide) ?_ ?_
    · refine z_iload_n dX4_readTimes_92 2 rfl ?_
      exact z_iret dX4_readTimes_93 rfl
    · refine z_iload_n dX4_readTimes_80 2 rfl ?_
      refine z_iload_n dX4_readTimes_81 0 rfl ?_
      refine z_callSI dX4_readTimes_82 (M_X4_joined _ _ _) bX4_joined lX4_61 rfl rfl (Nat.le_of_ble_eq_true rfl) (Nat.le_of_ble_eq_true rfl) (fun r5 h6 => ?_)
      refine z_istore_n (lv2 := [(3, .int r5), (1, .int x1), (2, .int x2), (4, .int x4)]) dX4_readTimes_85 (Nat.le_of_ble_eq_true rfl) rfl ?_
      refine z_iincL (lv2 := fun v7 => [(4, .int v7), (3, .int r5), (1, .int x1), (2, .int x2)]) dX4_readTimes_86 3 rfl rfl (Nat.le_of_ble_eq_true rfl) (fun _ => rfl) (fun v7 => ?_)
      refine z_goto (tgt := 74) dX4_readTimes_89 (by decide) ?_
      exact z_sub [2, 3, 1, 0] rfl (ih _ _ _ _ _)
set_option maxHeartbeats 4000000 in
set_option maxRecDepth 100000 in
theorem w_X4_readTimes (x1 : Int32) (h : AHp) : WO tvI QX4_readTimes 1 0 [(0, .ref 33), (1, .int x1)] [] h (m_X4_readTimes x1 h) := by
  unfold m_X4_readTimes
  refine z_aload_n dX4_readTimes_0 0 rfl ?_
  refine z_getR (j := 1) fX4_9 kc_33 rfl rfl rfl (by decide) dX4_readTimes_1 ?_
  refine z_callVI dX4_readTimes_4 (M_X8_sign _) bX8_sign lX4_54 kc_1 rfl rfl (Nat.le_of_ble_eq_true rfl) (Nat.le_of_ble_eq_true rfl) (fun r8 h9 => ?_)
  refine z_istore_n (lv2 := [(2, .int r8), (0, .ref 33), (1, .int x1)]) dX4_readTimes_7 (Nat.le_of_ble_eq_true rfl) rfl ?_
  refine z_iload_n dX4_readTimes_8 0 rfl ?_
  refine z_bipush (v := 43) dX4_readTimes_9 (by decide) ?_
  refine z_ic_ne (tgt := 49) dX4_readTimes_11 (by decide) ?_ ?_
  · refine z_iload_n dX4_readTimes_49 2 rfl ?_
    refine z_istore_n (lv2 := [(3, .int x1), (2, .int r8), (0, .ref 33), (1, .int x1)]) dX4_readTimes_50 (Nat.le_of_ble_eq_true rfl) rfl ?_
    refine z_iload_n dX4_readTimes_51 1 rfl ?_
    refine z_bipush (v := 50) dX4_readTimes_52 (by decide) ?_
    refine z_ic_lt (tgt := 92) dX4_readTimes_54 (by decide) ?_ ?_
    · refine z_iload_n dX4_readTimes_92 0 rfl ?_
      exact z_iret dX4_readTimes_93 rfl
    · refine z_iload_n dX4_readTimes_57 1 rfl ?_
      refine z_bipush (v := 57) dX4_readTimes_58 (by decide) ?_
      refine z_ic_gt (tgt := 92) dX4_readTimes_60 (by decide) ?_ ?_
      · refine z_iload_n dX4_readTimes_92 0 rfl ?_
        exact z_iret dX4_readTimes_93 rfl
      · refine z_aload_n dX4_readTimes_63 2 rfl ?_
        refine z_getR (j := 1) fX4_9 kc_33 rfl rfl rfl (by decide) dX4_readTimes_64 ?_
        refine z_callVV dX4_readTimes_67 (M_X8_step _) bX8_step lX4_71 kc_1 rfl rfl (Nat.le_of_ble_eq_true rfl) (Nat.le_of_ble_eq_true rfl) (fun r10 h11 => ?_)
        refine z_bipush (v := 49) dX4_readTimes_70 (by decide) ?_
        refine z_istore (lv2 := [(4, .int 49), (3, .int x1), (2, .int r8), (0, .ref 33), (1, .int x1)]) dX4_readTimes_72 (Nat.le_of_ble_eq_true rfl) rfl ?_
        exact z_sub [4, 2, 1, 0] rfl (w_X4_readTimes_74 FU _ _ _ _ _)
  · refine z_aload_n dX4_readTimes_14 1 rfl ?_
    refine z_getR (j := 1) fX4_9 kc_33 rfl rfl rfl (by decide) dX4_readTimes_15 ?_
    refine z_callVV dX4_readTimes_18 (M_X8_step _) bX8_step lX4_71 kc_1 rfl rfl (Nat.le_of_ble_eq_true rfl) (Nat.le_of_ble_eq_true rfl) (fun r12 h13 => ?_)
    refine z_iload_n dX4_readTimes_21 2 rfl ?_
    refine z_istore_n (lv2 := [(3, .int x1), (2, .int r8), (0, .ref 33), (1, .int x1)]) dX4_readTimes_22 (Nat.le_of_ble_eq_true rfl) rfl ?_
    refine z_iconst (v := 1) dX4_readTimes_23 (by decide) ?_
    refine z_istore (lv2 := [(4, .int 1), (3, .int x1), (2, .int r8), (0, .ref 33), (1, .int x1)]) dX4_readTimes_24 (Nat.le_of_ble_eq_true rfl) rfl ?_
    exact z_sub [4, 1, 0] rfl (w_X4_readTimes_26 FU _ _ _ _)
theorem M_X4_readTimes (x1 : Int32) (h : AHp) : MI QX4_readTimes 1 [.ref 33, .int x1] h (m_X4_readTimes x1 h) := MI.of (by decide) rfl rfl (Nat.le_of_ble_eq_true rfl) (w_X4_readTimes x1 h)
set_option maxHeartbeats 4000000 in
set_option maxRecDepth 100000 in
theorem w_X4_isWord (x0 : Int32) (h : AHp) : WO tvI QX4_isWord 0 0 [(0, .int x0)] [] h (m_X4_isWord x0 h) := by
  unfold m_X4_isWord
  refine z_iload_n dX4_isWord_0 0 rfl ?_
  refine z_bipush (v := 97) dX4_isWord_1 (by decide) ?_
  refine z_ic_lt (tgt := 16) dX4_isWord_3 (by decide) ?_ ?_
  · refine z_iconst (v := 0) dX4_isWord_16 (by decide) ?_
    exact z_zret dX4_isWord_17 rfl (Or.inl rfl)
  · refine z_iload_n dX4_isWord_6 0 rfl ?_
    refine z_bipush (v := 122) dX4_isWord_7 (by decide) ?_
    refine z_ic_gt (tgt := 16) dX4_isWord_9 (by decide) ?_ ?_
    · refine z_iconst (v := 0) dX4_isWord_16 (by decide) ?_
      exact z_zret dX4_isWord_17 rfl (Or.inl rfl)
    · refine z_iconst (v := 1) dX4_isWord_12 (by decide) ?_
      refine z_goto (tgt := 17) dX4_isWord_13 (by decide) ?_
      exact z_zret dX4_isWord_17 rfl (Or.inr rfl)
theorem M_X4_isWord (x0 : Int32) (h : AHp) : MI QX4_isWord 0 [.int x0] h (m_X4_isWord x0 h) := MI.of (by decide) rfl rfl (Nat.le_of_ble_eq_true rfl) (w_X4_isWord x0 h)
set_option maxHeartbeats 4000000 in
set_option maxRecDepth 100000 in
theorem w_X4_beginsItem (x0 : Int32) (h : AHp) : WO tvI QX4_beginsItem 1 0 [(0, .int x0)] [] h (m_X4_beginsItem x0 h) := by
  unfold m_X4_beginsItem
  refine z_iload_n dX4_beginsItem_0 0 rfl ?_
  refine z_callSI dX4_beginsItem_1 (M_X4_isWord _ _) bX4_isWord lX4_65 rfl rfl (Nat.le_of_ble_eq_true rfl) (Nat.le_of_ble_eq_true rfl) (fun r1 h2 => ?_)
  refine z_if_ne (tgt := 19) dX4_beginsItem_4 (by decide) ?_ ?_
  · refine z_iconst (v := 1) dX4_beginsItem_19 (by decide) ?_
    refine z_goto (tgt := 24) dX4_beginsItem_20 (by decide) ?_
    exact z_zret dX4_beginsItem_24 rfl (Or.inr rfl)
  · refine z_iload_n dX4_beginsItem_7 0 rfl ?_
    refine z_bipush (v := 40) dX4_beginsItem_8 (by decide) ?_
    refine z_ic_eq (tgt := 19) dX4_beginsItem_10 (by decide) ?_ ?_
    · refine z_iconst (v := 1) dX4_beginsItem_19 (by decide) ?_
      refine z_goto (tgt := 24) dX4_beginsItem_20 (by decide) ?_
      exact z_zret dX4_beginsItem_24 rfl (Or.inr rfl)
    · refine z_iload_n dX4_beginsItem_13 0 rfl ?_
      refine z_bipush (v := 91) dX4_beginsItem_14 (by decide) ?_
      refine z_ic_ne (tgt := 23) dX4_beginsItem_16 (by decide) ?_ ?_
      · refine z_iconst (v := 0) dX4_beginsItem_23 (by decide) ?_
        exact z_zret dX4_beginsItem_24 rfl (Or.inl rfl)
      · refine z_iconst (v := 1) dX4_beginsItem_19 (by decide) ?_
        refine z_goto (tgt := 24) dX4_beginsItem_20 (by decide) ?_
        exact z_zret dX4_beginsItem_24 rfl (Or.inr rfl)
theorem M_X4_beginsItem (x0 : Int32) (h : AHp) : MI QX4_beginsItem 1 [.int x0] h (m_X4_beginsItem x0 h) := MI.of (by decide) rfl rfl (Nat.le_of_ble_eq_true rfl) (w_X4_beginsItem x0 h)
set_option maxHeartbeats 4000000 in
set_option maxRecDepth 100000 in
theorem w_X4_readItem_b_82 {dd : Nat} (rec : Int32 → AHp → Option (Int32 × AHp)) (hrec : ∀ (x1 : Int32) (h : AHp), MI QX4_readWays (dd + 40) [.ref 33, .int x1] h (rec x1 h)) (x2 : Int32) (x3 : Int32) (s1 : Int32) (h : AHp) : WO tvI QX4_readItem (dd + 41) 82 [(0, .ref 33), (2, .int x2), (3, .int x3)] [.int s1, .ref 1] h (m_X4_readItem_b_82 rec x2 x3 s1 h) := by
  unfold m_X4_readItem_b_82
  refine z_callVV dX4_readItem_82 (M_X8_expect _ _) bX8_expect lX4_74 kc_1 rfl rfl (Nat.le_of_ble_eq_true rfl) (by omega) (fun r1 h2 => ?_)
  refine z_iload_n dX4_readItem_85 1 rfl ?_
  refine z_bipush (v := 91) dX4_readItem_86 (by decide) ?_
  refine z_ic_ne (tgt := 97) dX4_readItem_88 (by decide) ?_ ?_
  · refine z_iload_n dX4_readItem_97 2 rfl ?_
    refine z_istore_n (lv2 := [(3, .int x3), (0, .ref 33), (2, .int x2)]) dX4_readItem_98 (Nat.le_of_ble_eq_true rfl) rfl ?_
    refine z_goto (tgt := 109) dX4_readItem_99 (by decide) ?_
    refine z_aload_n dX4_readItem_109 1 rfl ?_
    refine z_iload_n dX4_readItem_110 0 rfl ?_
    refine z_callVI dX4_readItem_111 (M_X4_readTimes _ _) bX4_readTimes lX4_77 kc_33 rfl rfl (Nat.le_of_ble_eq_true rfl) (by omega) (fun r3 h4 => ?_)
    exact z_iret dX4_readItem_114 rfl
  · refine z_iload_n dX4_readItem_91 2 rfl ?_
    refine z_iconst (v := 1) dX4_readItem_92 (by decide) ?_
    refine z_ior dX4_readItem_93 ?_
    refine z_goto (tgt := 98) dX4_readItem_94 (by decide) ?_
    refine z_istore_nL (lv2 := fun v5 => [(3, .int v5), (0, .ref 33), (2, .int x2)]) dX4_readItem_98 (Nat.le_of_ble_eq_true rfl) (fun _ => rfl) (fun v5 => ?_)
    refine z_goto (tgt := 109) dX4_readItem_99 (by decide) ?_
    refine z_aload_n dX4_readItem_109 1 rfl ?_
    refine z_iload_n dX4_readItem_110 0 rfl ?_
    refine z_callVI dX4_readItem_111 (M_X4_readTimes _ _) bX4_readTimes lX4_77 kc_33 rfl rfl (Nat.le_of_ble_eq_true rfl) (by omega) (fun r6 h7 => ?_)
    exact z_iret dX4_readItem_114 rfl
set_option maxHeartbeats 4000000 in
set_option maxRecDepth 100000 in
theorem w_X4_readItem_b {dd : Nat} (rec : Int32 → AHp → Option (Int32 × AHp)) (hrec : ∀ (x1 : Int32) (h : AHp), MI QX4_readWays (dd + 40) [.ref 33, .int x1] h (rec x1 h)) (x1 : Int32) (h : AHp) : WO tvI QX4_readItem (dd + 41) 0 [(0, .ref 33), (1, .int x1)] [] h (m_X4_readItem_b rec x1 h) := by
  unfold m_X4_readItem_b
  refine z_aload_n dX4_readItem_0 0 rfl ?_
  refine z_getR (j := 1) fX4_9 kc_33 rfl rfl rfl (by decide) dX4_readItem_1 ?_
  refine z_callVI dX4_readItem_4 (M_X8_sign _) bX8_sign lX4_54 kc_1 rfl rfl (Nat.le_of_ble_eq_true rfl) (by omega) (fun r8 h9 => ?_)
  refine z_istore_n (lv2 := [(2, .int r8), (0, .ref 33), (1, .int x1)]) dX4_readItem_7 (Nat.le_of_ble_eq_true rfl) rfl ?_
  refine z_iconst (v := 2) dX4_readItem_8 (by decide) ?_
  refine z_istore_n (lv2 := [(3, .int 2), (2, .int r8), (0, .ref 33), (1, .int x1)]) dX4_readItem_9 (Nat.le_of_ble_eq_true rfl) rfl ?_
  refine z_iload_n dX4_readItem_10 1 rfl ?_
  refine z_callSI dX4_readItem_11 (M_X4_beginsItem _ _) bX4_beginsItem lX4_58 rfl rfl (Nat.le_of_ble_eq_true rfl) (by omega) (fun r10 h11 => ?_)
  refine z_if_ne (tgt := 27) dX4_readItem_14 (by decide) ?_ ?_
  · refine z_iload_n dX4_readItem_27 1 rfl ?_
    refine z_callSI dX4_readItem_28 (M_X4_isWord _ _) bX4_isWord lX4_65 rfl rfl (Nat.le_of_ble_eq_true rfl) (by omega) (fun r12 h13 => ?_)
    refine z_if_ne (tgt := 102) dX4_readItem_31 (by decide) ?_ ?_
    · refine z_aload_n dX4_readItem_102 2 rfl ?_
      refine z_getR (j := 1) fX4_9 kc_33 rfl rfl rfl (by decide) dX4_readItem_103 ?_
      refine z_callVV dX4_readItem_106 (M_X8_step _) bX8_step lX4_71 kc_1 rfl rfl (Nat.le_of_ble_eq_true rfl) (by omega) (fun r14 h15 => ?_)
      refine z_aload_n dX4_readItem_109 2 rfl ?_
      refine z_iload_n dX4_readItem_110 0 rfl ?_
      refine z_callVI dX4_readItem_111 (M_X4_readTimes _ _) bX4_readTimes lX4_77 kc_33 rfl rfl (Nat.le_of_ble_eq_true rfl) (by omega) (fun r16 h17 => ?_)
      exact z_iret dX4_readItem_114 rfl
    · refine z_iload_n dX4_readItem_34 3 rfl ?_
      refine z_bipush (v := 6) dX4_readItem_35 (by decide) ?_
      refine z_ic_lt (tgt := 50) dX4_readItem_37 (by decide) ?_ ?_
      · refine z_aload_n dX4_readItem_50 2 rfl ?_
        refine z_getR (j := 1) fX4_9 kc_33 rfl rfl rfl (by decide) dX4_readItem_51 ?_
        refine z_callVV dX4_readItem_54 (M_X8_step _) bX8_step lX4_71 kc_1 rfl rfl (Nat.le_of_ble_eq_true rfl) (by omega) (fun r18 h19 => ?_)
        refine z_aload_n dX4_readItem_57 2 rfl ?_
        refine z_iload_n dX4_readItem_58 3 rfl ?_
        refine z_iconst (v := 1) dX4_readItem_59 (by decide) ?_
        refine z_iadd dX4_readItem_60 ?_
        refine z_callVI dX4_readItem_61 (hrec _ _) bX4_readWays lX4_28 kc_33 rfl rfl (Nat.le_of_ble_eq_true rfl) (by omega) (fun r20 h21 => ?_)
        refine z_istore_n (lv2 := [(3, .int r20), (2, .int r8), (0, .ref 33), (1, .int x1)]) dX4_readItem_64 (Nat.le_of_ble_eq_true rfl) rfl ?_
        refine z_aload_n dX4_readItem_65 2 rfl ?_
        refine z_getR (j := 1) fX4_9 kc_33 rfl rfl rfl (by decide) dX4_readItem_66 ?_
        refine z_iload_n dX4_readItem_69 1 rfl ?_
        refine z_bipush (v := 40) dX4_readItem_70 (by decide) ?_
        refine z_ic_ne (tgt := 80) dX4_readItem_72 (by decide) ?_ ?_
        · refine z_bipush (v := 93) dX4_readItem_80 (by decide) ?_
          exact z_sub [2, 1, 0] rfl (w_X4_readItem_b_82 rec hrec _ _ _ _)
        · refine z_bipush (v := 41) dX4_readItem_75 (by decide) ?_
          refine z_goto (tgt := 82) dX4_readItem_77 (by decide) ?_
          exact z_sub [2, 1, 0] rfl (w_X4_readItem_b_82 rec hrec _ _ _ _)
      · refine z_aload_n dX4_readItem_40 2 rfl ?_
        refine z_getR (j := 1) fX4_9 kc_33 rfl rfl rfl (by decide) dX4_readItem_41 ?_
        refine z_iconst (v := 5) dX4_readItem_44 (by decide) ?_
        refine z_callVV dX4_readItem_45 (M_X8_fail _ _) bX8_fail lX4_68 kc_1 rfl rfl (Nat.le_of_ble_eq_true rfl) (by omega) (fun r22 h23 => ?_)
        refine z_iconst (v := 0) dX4_readItem_48 (by decide) ?_
        exact z_iret dX4_readItem_49 rfl
  · refine z_aload_n dX4_readItem_17 2 rfl ?_
    refine z_getR (j := 1) fX4_9 kc_33 rfl rfl rfl (by decide) dX4_readItem_18 ?_
    refine z_iconst (v := 1) dX4_readItem_21 (by decide) ?_
    refine z_callVV dX4_readItem_22 (M_X8_fail _ _) bX8_fail lX4_68 kc_1 rfl rfl (Nat.le_of_ble_eq_true rfl) (by omega) (fun r24 h25 => ?_)
    refine z_iconst (v := 0) dX4_readItem_25 (by decide) ?_
    exact z_iret dX4_readItem_26 rfl
theorem M_X4_readItem_b {dd : Nat} (rec : Int32 → AHp → Option (Int32 × AHp)) (hrec : ∀ (x1 : Int32) (h : AHp), MI QX4_readWays (dd + 40) [.ref 33, .int x1] h (rec x1 h)) (x1 : Int32) (h : AHp) : MI QX4_readItem (dd + 41) [.ref 33, .int x1] h (m_X4_readItem_b rec x1 h) := MI.of (by decide) rfl rfl (Nat.le_of_ble_eq_true rfl) (w_X4_readItem_b rec hrec x1 h)
set_option maxHeartbeats 4000000 in
set_option maxRecDepth 100000 in
theorem w_X4_readWay_b_8 {dd : Nat} (rec : Int32 → AHp → Option (Int32 × AHp)) (hrec : ∀ (x1 : Int32) (h : AHp), MI QX4_readWays (dd + 40) [.ref 33, .int x1] h (rec x1 h)) : ∀ (f : Nat) (x1 : Int32) (x2 : Int32) (x3 : Int32) (h : AHp), WO tvI QX4_readWay (dd + 42) 8 [(0, .ref 33), (1, .int x1), (2, .int x2), (3, .int x3)] [] h (m_X4_readWay_b_8 rec f x1 x2 x3 h) := by
  intro f
  induction f with
  | zero => intro x1 x2 x3 h; exact z_none
  | succ f ih =>
    intro x1 x2 x3 h
    rw [m_X4_readWay_b_8]
    refine z_iload_n dX4_readWay_8 3 rfl ?_
    refine z_bipush (v := 60) dX4_readWay_9 (by decide) ?_
    refine z_ic_ge (tgt := 43) dX4_readWay_11 (by decide) ?_ ?_
    · refine z_iload_n dX4_readWay_43 2 rfl ?_
      exact z_iret dX4_readWay_44 rfl
    · refine z_aload_n dX4_readWay_14 0 rfl ?_
      refine z_getR (j := 1) fX4_9 kc_33 rfl rfl rfl (by decide) dX4_readWay_15 ?_
      refine z_callVI dX4_readWay_18 (M_X8_sign _) bX8_sign lX4_54 kc_1 rfl rfl (Nat.le_of_ble_eq_true rfl) (by omega) (fun r1 h2 => ?_)
      refine z_callSI dX4_readWay_21 (M_X4_beginsItem _ _) bX4_beginsItem lX4_58 rfl rfl (Nat.le_of_ble_eq_true rfl) (by omega) (fun r3 h4 => ?_)
      refine z_if_eq (tgt := 43) dX4_readWay_24 (by decide) ?_ ?_
      · refine z_iload_n dX4_readWay_43 2 rfl ?_
        exact z_iret dX4_readWay_44 rfl
      · refine z_iload_n dX4_readWay_27 2 rfl ?_
        refine z_aload_n dX4_readWay_28 0 rfl ?_
        refine z_iload_n dX4_readWay_29 1 rfl ?_
        refine z_callVI dX4_readWay_30 (M_X4_readItem_b rec hrec _ _) bX4_readItem lX4_51 kc_33 rfl rfl (Nat.le_of_ble_eq_true rfl) (by omega) (fun r5 h6 => ?_)
        refine z_callSI dX4_readWay_33 (M_X4_joined _ _ _) bX4_joined lX4_61 rfl rfl (Nat.le_of_ble_eq_true rfl) (by omega) (fun r7 h8 => ?_)
        refine z_istore_n (lv2 := [(2, .int r7), (0, .ref 33), (1, .int x1), (3, .int x3)]) dX4_readWay_36 (Nat.le_of_ble_eq_true rfl) rfl ?_
        refine z_iincL (lv2 := fun v9 => [(3, .int v9), (2, .int r7), (0, .ref 33), (1, .int x1)]) dX4_readWay_37 3 rfl rfl (Nat.le_of_ble_eq_true rfl) (fun _ => rfl) (fun v9 => ?_)
        refine z_goto (tgt := 8) dX4_readWay_40 (by decide) ?_
        exact z_sub [2, 3, 1, 0] rfl (ih _ _ _ _)
set_option maxHeartbeats 4000000 in
set_option maxRecDepth 100000 in
theorem w_X4_readWay_b {dd : Nat} (rec : Int32 → AHp → Option (Int32 × AHp)) (hrec : ∀ (x1 : Int32) (h : AHp), MI QX4_readWays (dd + 40) [.ref 33, .int x1] h (rec x1 h)) (x1 : Int32) (h : AHp) : WO tvI QX4_readWay (dd + 42) 0 [(0, .ref 33), (1, .int x1)] [] h (m_X4_readWay_b rec x1 h) := by
  unfold m_X4_readWay_b
  refine z_aload_n dX4_readWay_0 0 rfl ?_
  refine z_iload_n dX4_readWay_1 1 rfl ?_
  refine z_callVI dX4_readWay_2 (M_X4_readItem_b rec hrec _ _) bX4_readItem lX4_51 kc_33 rfl rfl (Nat.le_of_ble_eq_true rfl) (by omega) (fun r10 h11 => ?_)
  refine z_istore_n (lv2 := [(2, .int r10), (0, .ref 33), (1, .int x1)]) dX4_readWay_5 (Nat.le_of_ble_eq_true rfl) rfl ?_
  refine z_iconst (v := 0) dX4_readWay_6 (by decide) ?_
  refine z_istore_n (lv2 := [(3, .int 0), (2, .int r10), (0, .ref 33), (1, .int x1)]) dX4_readWay_7 (Nat.le_of_ble_eq_true rfl) rfl ?_
  exact z_sub [2, 3, 1, 0] rfl (w_X4_readWay_b_8 rec hrec FU _ _ _ _)
theorem M_X4_readWay_b {dd : Nat} (rec : Int32 → AHp → Option (Int32 × AHp)) (hrec : ∀ (x1 : Int32) (h : AHp), MI QX4_readWays (dd + 40) [.ref 33, .int x1] h (rec x1 h)) (x1 : Int32) (h : AHp) : MI QX4_readWay (dd + 42) [.ref 33, .int x1] h (m_X4_readWay_b rec x1 h) := MI.of (by decide) rfl rfl (Nat.le_of_ble_eq_true rfl) (w_X4_readWay_b rec hrec x1 h)
set_option maxHeartbeats 4000000 in
set_option maxRecDepth 100000 in
theorem w_X8_takes (x1 : Int32) (h : AHp) : WO tvI QX8_takes 1 0 [(0, .ref 1), (1, .int x1)] [] h (m_X8_takes x1 h) := by
  unfold m_X8_takes
  refine z_aload_n dX8_takes_0 0 rfl ?_
  refine z_callVI dX8_takes_1 (M_X8_sign _) bX8_sign lX8_38 kc_1 rfl rfl (Nat.le_of_ble_eq_true rfl) (Nat.le_of_ble_eq_true rfl) (fun r1 h2 => ?_)
  refine z_iload_n dX8_takes_4 1 rfl ?_
  refine z_ic_ne (tgt := 12) dX8_takes_5 (by decide) ?_ ?_
  · refine z_iconst (v := 0) dX8_takes_12 (by decide) ?_
    refine z_istore_n (lv2 := [(2, .int 0), (0, .ref 1), (1, .int x1)]) dX8_takes_13 (Nat.le_of_ble_eq_true rfl) rfl ?_
    refine z_iload_n dX8_takes_14 0 rfl ?_
    refine z_if_eq (tgt := 22) dX8_takes_15 (by decide) ?_ ?_
    · refine z_iload_n dX8_takes_22 0 rfl ?_
      exact z_zret dX8_takes_23 rfl (Or.inl rfl)
    · refine z_aload_n dX8_takes_18 1 rfl ?_
      refine z_callVV dX8_takes_19 (M_X8_step _) bX8_step lX8_42 kc_1 rfl rfl (Nat.le_of_ble_eq_true rfl) (Nat.le_of_ble_eq_true rfl) (fun r3 h4 => ?_)
      refine z_iload_n dX8_takes_22 0 rfl ?_
      exact z_zret dX8_takes_23 rfl (Or.inl rfl)
  · refine z_iconst (v := 1) dX8_takes_8 (by decide) ?_
    refine z_goto (tgt := 13) dX8_takes_9 (by decide) ?_
    refine z_istore_n (lv2 := [(2, .int 1), (0, .ref 1), (1, .int x1)]) dX8_takes_13 (Nat.le_of_ble_eq_true rfl) rfl ?_
    refine z_iload_n dX8_takes_14 0 rfl ?_
    refine z_if_eq (tgt := 22) dX8_takes_15 (by decide) ?_ ?_
    · refine z_iload_n dX8_takes_22 0 rfl ?_
      exact z_zret dX8_takes_23 rfl (Or.inr rfl)
    · refine z_aload_n dX8_takes_18 1 rfl ?_
      refine z_callVV dX8_takes_19 (M_X8_step _) bX8_step lX8_42 kc_1 rfl rfl (Nat.le_of_ble_eq_true rfl) (Nat.le_of_ble_eq_true rfl) (fun r5 h6 => ?_)
      refine z_iload_n dX8_takes_22 0 rfl ?_
      exact z_zret dX8_takes_23 rfl (Or.inr rfl)
theorem M_X8_takes (x1 : Int32) (h : AHp) : MI QX8_takes 1 [.ref 1, .int x1] h (m_X8_takes x1 h) := MI.of (by decide) rfl rfl (Nat.le_of_ble_eq_true rfl) (w_X8_takes x1 h)
set_option maxHeartbeats 4000000 in
set_option maxRecDepth 100000 in
theorem w_X4_readWays_b_8 {dd : Nat} (rec : Int32 → AHp → Option (Int32 × AHp)) (hrec : ∀ (x1 : Int32) (h : AHp), MI QX4_readWays (dd + 40) [.ref 33, .int x1] h (rec x1 h)) : ∀ (f : Nat) (x1 : Int32) (x2 : Int32) (x3 : Int32) (h : AHp), WO tvI QX4_readWays (dd + 43) 8 [(0, .ref 33), (1, .int x1), (2, .int x2), (3, .int x3)] [] h (m_X4_readWays_b_8 rec f x1 x2 x3 h) := by
  intro f
  induction f with
  | zero => intro x1 x2 x3 h; exact z_none
  | succ f ih =>
    intro x1 x2 x3 h
    rw [m_X4_readWays_b_8]
    refine z_iload_n dX4_readWays_8 3 rfl ?_
    refine z_bipush (v := 60) dX4_readWays_9 (by decide) ?_
    refine z_ic_ge (tgt := 40) dX4_readWays_11 (by decide) ?_ ?_
    · refine z_iload_n dX4_readWays_40 2 rfl ?_
      exact z_iret dX4_readWays_41 rfl
    · refine z_aload_n dX4_readWays_14 0 rfl ?_
      refine z_getR (j := 1) fX4_9 kc_33 rfl rfl rfl (by decide) dX4_readWays_15 ?_
      refine z_bipush (v := 124) dX4_readWays_18 (by decide) ?_
      refine z_callVI dX4_readWays_20 (M_X8_takes _ _) bX8_takes lX4_47 kc_1 rfl rfl (Nat.le_of_ble_eq_true rfl) (by omega) (fun r1 h2 => ?_)
      refine z_if_eq (tgt := 40) dX4_readWays_23 (by decide) ?_ ?_
      · refine z_iload_n dX4_readWays_40 2 rfl ?_
        exact z_iret dX4_readWays_41 rfl
      · refine z_iload_n dX4_readWays_26 2 rfl ?_
        refine z_aload_n dX4_readWays_27 0 rfl ?_
        refine z_iload_n dX4_readWays_28 1 rfl ?_
        refine z_callVI dX4_readWays_29 (M_X4_readWay_b rec hrec _ _) bX4_readWay lX4_44 kc_33 rfl rfl (Nat.le_of_ble_eq_true rfl) (by omega) (fun r3 h4 => ?_)
        refine z_ior dX4_readWays_32 ?_
        refine z_istore_nL (lv2 := fun v5 => [(2, .int v5), (0, .ref 33), (1, .int x1), (3, .int x3)]) dX4_readWays_33 (Nat.le_of_ble_eq_true rfl) (fun _ => rfl) (fun v5 => ?_)
        refine z_iincL (lv2 := fun v6 => [(3, .int v6), (2, .int v5), (0, .ref 33), (1, .int x1)]) dX4_readWays_34 3 rfl rfl (Nat.le_of_ble_eq_true rfl) (fun _ => rfl) (fun v6 => ?_)
        refine z_goto (tgt := 8) dX4_readWays_37 (by decide) ?_
        exact z_sub [2, 3, 1, 0] rfl (ih _ _ _ _)
set_option maxHeartbeats 4000000 in
set_option maxRecDepth 100000 in
theorem w_X4_readWays_b {dd : Nat} (rec : Int32 → AHp → Option (Int32 × AHp)) (hrec : ∀ (x1 : Int32) (h : AHp), MI QX4_readWays (dd + 40) [.ref 33, .int x1] h (rec x1 h)) (x1 : Int32) (h : AHp) : WO tvI QX4_readWays (dd + 43) 0 [(0, .ref 33), (1, .int x1)] [] h (m_X4_readWays_b rec x1 h) := by
  unfold m_X4_readWays_b
  refine z_aload_n dX4_readWays_0 0 rfl ?_
  refine z_iload_n dX4_readWays_1 1 rfl ?_
  refine z_callVI dX4_readWays_2 (M_X4_readWay_b rec hrec _ _) bX4_readWay lX4_44 kc_33 rfl rfl (Nat.le_of_ble_eq_true rfl) (by omega) (fun r7 h8 => ?_)
  refine z_istore_n (lv2 := [(2, .int r7), (0, .ref 33), (1, .int x1)]) dX4_readWays_5 (Nat.le_of_ble_eq_true rfl) rfl ?_
  refine z_iconst (v := 0) dX4_readWays_6 (by decide) ?_
  refine z_istore_n (lv2 := [(3, .int 0), (2, .int r7), (0, .ref 33), (1, .int x1)]) dX4_readWays_7 (Nat.le_of_ble_eq_true rfl) rfl ?_
  exact z_sub [2, 3, 1, 0] rfl (w_X4_readWays_b_8 rec hrec FU _ _ _ _)
theorem M_X4_readWays_b {dd : Nat} (rec : Int32 → AHp → Option (Int32 × AHp)) (hrec : ∀ (x1 : Int32) (h : AHp), MI QX4_readWays (dd + 40) [.ref 33, .int x1] h (rec x1 h)) (x1 : Int32) (h : AHp) : MI QX4_readWays (dd + 43) [.ref 33, .int x1] h (m_X4_readWays_b rec x1 h) := MI.of (by decide) rfl rfl (Nat.le_of_ble_eq_true rfl) (w_X4_readWays_b rec hrec x1 h)
theorem M_X4_readWays : ∀ (f : Nat) (x1 : Int32) (h : AHp), MI QX4_readWays (3 * f + 40) [.ref 33, .int x1] h (m_X4_readWays f x1 h) := by
  intro f
  induction f with
  | zero => intro x1 h x0 h0 ho; cases ho
  | succ f ih =>
    intro x1 h
    rw [m_X4_readWays]
    have e := M_X4_readWays_b (dd := 3 * f) (m_X4_readWays f) ih x1 h
    rw [show 3 * (f + 1) + 40 = 3 * f + 43 from by omega]
    exact e
set_option maxHeartbeats 4000000 in
set_option maxRecDepth 100000 in
theorem w_X2_letter {j : Nat} (hj_j : isLaw j) (x1 : Int32) (h : AHp) : WO tvI QX2_letter 0 0 [(0, .ref j), (1, .int x1)] [] h (m_X2_letter j x1 h) := by
  unfold m_X2_letter
  refine z_aload_n dX2_letter_0 0 rfl ?_
  refine z_dup dX2_letter_1 rfl ?_
  refine z_getI fX2_46 (law_k hj_j) rfl dX2_letter_2 ?_
  refine z_iconst (v := 1) dX2_letter_5 (by decide) ?_
  refine z_iload_n dX2_letter_6 1 rfl ?_
  refine z_ishl dX2_letter_7 ?_
  refine z_ior dX2_letter_8 ?_
  refine z_putI fX2_46 (law_k hj_j) rfl dX2_letter_9 ?_
  refine z_lh (fun h1 => ?_)
  refine z_iload_n dX2_letter_12 1 rfl ?_
  exact z_iret dX2_letter_13 rfl
theorem M_X2_letter {j : Nat} (hj_j : isLaw j) (x1 : Int32) (h : AHp) : MI QX2_letter 0 [.ref j, .int x1] h (m_X2_letter j x1 h) := MI.of (by decide) rfl rfl (Nat.le_of_ble_eq_true rfl) (w_X2_letter hj_j x1 h)
set_option maxHeartbeats 4000000 in
set_option maxRecDepth 100000 in
theorem w_X4_isDigit (x0 : Int32) (h : AHp) : WO tvI QX4_isDigit 0 0 [(0, .int x0)] [] h (m_X4_isDigit x0 h) := by
  unfold m_X4_isDigit
  refine z_iload_n dX4_isDigit_0 0 rfl ?_
  refine z_bipush (v := 48) dX4_isDigit_1 (by decide) ?_
  refine z_ic_lt (tgt := 16) dX4_isDigit_3 (by decide) ?_ ?_
  · refine z_iconst (v := 0) dX4_isDigit_16 (by decide) ?_
    exact z_zret dX4_isDigit_17 rfl (Or.inl rfl)
  · refine z_iload_n dX4_isDigit_6 0 rfl ?_
    refine z_bipush (v := 57) dX4_isDigit_7 (by decide) ?_
    refine z_ic_gt (tgt := 16) dX4_isDigit_9 (by decide) ?_ ?_
    · refine z_iconst (v := 0) dX4_isDigit_16 (by decide) ?_
      exact z_zret dX4_isDigit_17 rfl (Or.inl rfl)
    · refine z_iconst (v := 1) dX4_isDigit_12 (by decide) ?_
      refine z_goto (tgt := 17) dX4_isDigit_13 (by decide) ?_
      exact z_zret dX4_isDigit_17 rfl (Or.inr rfl)
theorem M_X4_isDigit (x0 : Int32) (h : AHp) : MI QX4_isDigit 0 [.int x0] h (m_X4_isDigit x0 h) := MI.of (by decide) rfl rfl (Nat.le_of_ble_eq_true rfl) (w_X4_isDigit x0 h)
set_option maxHeartbeats 4000000 in
set_option maxRecDepth 100000 in
theorem w_J0_isLatin1_aae02 (h : AHp) : WO tvI QJ0_isLatin1_aae02 0 0 [(0, .ref 9000)] [] h (m_J0_isLatin1_aae02 h) := by
  unfold m_J0_isLatin1_aae02
  refine z_strZ dJ0_isLatin1_aae02_0 sJ0_38 ?_
  refine z_if_eq (tgt := 17) dJ0_isLatin1_aae02_3 (by decide) ?_ ?_
  · refine z_iconst (v := 0) dJ0_isLatin1_aae02_17 (by decide) ?_
    exact z_zret dJ0_isLatin1_aae02_18 rfl (Or.inl rfl)
  · refine z_aload_n dJ0_isLatin1_aae02_6 0 rfl ?_
    refine z_strC dJ0_isLatin1_aae02_7 sJ0_15 ?_
    refine z_if_ne (tgt := 17) dJ0_isLatin1_aae02_10 (by decide) ?_ ?_
    · refine z_iconst (v := 0) dJ0_isLatin1_aae02_17 (by decide) ?_
      exact z_zret dJ0_isLatin1_aae02_18 rfl (Or.inl rfl)
    · refine z_iconst (v := 1) dJ0_isLatin1_aae02_13 (by decide) ?_
      refine z_goto (tgt := 18) dJ0_isLatin1_aae02_14 (by decide) ?_
      exact z_zret dJ0_isLatin1_aae02_18 rfl (Or.inr rfl)
theorem M_J0_isLatin1_aae02 (h : AHp) : MI QJ0_isLatin1_aae02 0 [.ref 9000] h (m_J0_isLatin1_aae02 h) := MI.of (by decide) rfl rfl (Nat.le_of_ble_eq_true rfl) (w_J0_isLatin1_aae02 h)
set_option maxHeartbeats 4000000 in
set_option maxRecDepth 100000 in
theorem w_J0_coder_7d493 (h : AHp) : WO tvI QJ0_coder_7d493 0 0 [(0, .ref 9000)] [] h (m_J0_coder_7d493 h) := by
  unfold m_J0_coder_7d493
  refine z_strZ dJ0_coder_7d493_0 sJ0_38 ?_
  refine z_if_eq (tgt := 13) dJ0_coder_7d493_3 (by decide) ?_ ?_
  · refine z_iconst (v := 1) dJ0_coder_7d493_13 (by decide) ?_
    exact z_bret dJ0_coder_7d493_14 rfl (by decide)
  · refine z_aload_n dJ0_coder_7d493_6 0 rfl ?_
    refine z_strC dJ0_coder_7d493_7 sJ0_15 ?_
    refine z_goto (tgt := 14) dJ0_coder_7d493_10 (by decide) ?_
    exact z_bret dJ0_coder_7d493_14 rfl (by decide)
theorem M_J0_coder_7d493 (h : AHp) : MI QJ0_coder_7d493 0 [.ref 9000] h (m_J0_coder_7d493 h) := MI.of (by decide) rfl rfl (Nat.le_of_ble_eq_true rfl) (w_J0_coder_7d493 h)
set_option maxHeartbeats 4000000 in
set_option maxRecDepth 100000 in
theorem w_J0_length_8abf5 (h : AHp) : WO tvI QJ0_length_8abf5 1 0 [(0, .ref 9000)] [] h (m_J0_length_8abf5 h) := by
  unfold m_J0_length_8abf5
  refine z_aload_n dJ0_length_8abf5_0 0 rfl ?_
  refine z_strV dJ0_length_8abf5_1 sJ0_9 ?_
  refine z_tlen dJ0_length_8abf5_4 ?_
  refine z_aload_n dJ0_length_8abf5_5 0 rfl ?_
  refine z_callTI dJ0_length_8abf5_6 (M_J0_coder_7d493 _) bJ0_coder_7d493 lJ0_335 rfl rfl (Nat.le_of_ble_eq_true rfl) (Nat.le_of_ble_eq_true rfl) (fun r1 h2 => ?_)
  refine z_ishr dJ0_length_8abf5_9 ?_
  exact z_iret dJ0_length_8abf5_10 rfl
theorem M_J0_length_8abf5 (h : AHp) : MI QJ0_length_8abf5 1 [.ref 9000] h (m_J0_length_8abf5 h) := MI.of (by decide) rfl rfl (Nat.le_of_ble_eq_true rfl) (w_J0_length_8abf5 h)
set_option maxHeartbeats 4000000 in
set_option maxRecDepth 100000 in
theorem w_J1_canEncode_9a6ad (x0 : Int32) (h : AHp) : WO tvI QJ1_canEncode_9a6ad 0 0 [(0, .int x0)] [] h (m_J1_canEncode_9a6ad x0 h) := by
  unfold m_J1_canEncode_9a6ad
  refine z_iload_n dJ1_canEncode_9a6ad_0 0 rfl ?_
  refine z_if_lt (tgt := 15) dJ1_canEncode_9a6ad_1 (by decide) ?_ ?_
  · refine z_iconst (v := 0) dJ1_canEncode_9a6ad_15 (by decide) ?_
    exact z_zret dJ1_canEncode_9a6ad_16 rfl (Or.inl rfl)
  · refine z_iload_n dJ1_canEncode_9a6ad_4 0 rfl ?_
    refine z_sipush (v := 255) dJ1_canEncode_9a6ad_5 (by decide) ?_
    refine z_ic_gt (tgt := 15) dJ1_canEncode_9a6ad_8 (by decide) ?_ ?_
    · refine z_iconst (v := 0) dJ1_canEncode_9a6ad_15 (by decide) ?_
      exact z_zret dJ1_canEncode_9a6ad_16 rfl (Or.inl rfl)
    · refine z_iconst (v := 1) dJ1_canEncode_9a6ad_11 (by decide) ?_
      refine z_goto (tgt := 16) dJ1_canEncode_9a6ad_12 (by decide) ?_
      exact z_zret dJ1_canEncode_9a6ad_16 rfl (Or.inr rfl)
theorem M_J1_canEncode_9a6ad (x0 : Int32) (h : AHp) : MI QJ1_canEncode_9a6ad 0 [.int x0] h (m_J1_canEncode_9a6ad x0 h) := MI.of (by decide) rfl rfl (Nat.le_of_ble_eq_true rfl) (w_J1_canEncode_9a6ad x0 h)
set_option maxHeartbeats 4000000 in
set_option maxRecDepth 100000 in
theorem w_J1_indexOfChar_4cfef_7 : ∀ (f : Nat) (x3 : Int32) (x4 : Int32) (x5 : Int32) (h : AHp), WO tvI QJ1_indexOfChar_4cfef 0 7 [(0, .ref 9001), (3, .int x3), (4, .int x4), (5, .int x5)] [] h (m_J1_indexOfChar_4cfef_7 f x3 x4 x5 h) := by
  intro f
  induction f with
  | zero => intro x3 x4 x5 h; exact z_none
  | succ f ih =>
    intro x3 x4 x5 h
    rw [m_J1_indexOfChar_4cfef_7]
    refine z_iload dJ1_indexOfChar_4cfef_7 3 rfl ?_
    refine z_iload_n dJ1_indexOfChar_4cfef_9 1 rfl ?_
    refine z_ic_ge (tgt := 31) dJ1_indexOfChar_4cfef_10 (by decide) ?_ ?_
    · refine z_iconst (v := -1) dJ1_indexOfChar_4cfef_31 (by decide) ?_
      exact z_iret dJ1_indexOfChar_4cfef_32 rfl
    · refine z_aload_n dJ1_indexOfChar_4cfef_13 0 rfl ?_
      refine z_iload dJ1_indexOfChar_4cfef_14 3 rfl ?_
      refine z_gd (fun g1 => ?_)
      refine z_tb dJ1_indexOfChar_4cfef_16 g1 ?_
      refine z_iload dJ1_indexOfChar_4cfef_17 2 rfl ?_
      refine z_ic_ne (tgt := 25) dJ1_indexOfChar_4cfef_19 (by decide) ?_ ?_
      · refine z_iincL (lv2 := fun v2 => [(5, .int v2), (0, .ref 9001), (3, .int x3), (4, .int x4)]) dJ1_indexOfChar_4cfef_25 3 rfl rfl (Nat.le_of_ble_eq_true rfl) (fun _ => rfl) (fun v2 => ?_)
        refine z_goto (tgt := 7) dJ1_indexOfChar_4cfef_28 (by decide) ?_
        exact z_sub [1, 2, 3, 0] rfl (ih _ _ _ _)
      · refine z_iload dJ1_indexOfChar_4cfef_22 3 rfl ?_
        exact z_iret dJ1_indexOfChar_4cfef_24 rfl
set_option maxHeartbeats 4000000 in
set_option maxRecDepth 100000 in
theorem w_J1_indexOfChar_4cfef (x1 : Int32) (x2 : Int32) (x3 : Int32) (h : AHp) : WO tvI QJ1_indexOfChar_4cfef 0 0 [(0, .ref 9001), (1, .int x1), (2, .int x2), (3, .int x3)] [] h (m_J1_indexOfChar_4cfef x1 x2 x3 h) := by
  unfold m_J1_indexOfChar_4cfef
  refine z_iload_n dJ1_indexOfChar_4cfef_0 1 rfl ?_
  refine z_i2b dJ1_indexOfChar_4cfef_1 ?_
  refine z_istoreL (lv2 := fun v3 => [(4, .int v3), (0, .ref 9001), (1, .int x1), (2, .int x2), (3, .int x3)]) dJ1_indexOfChar_4cfef_2 (Nat.le_of_ble_eq_true rfl) (fun _ => rfl) (fun v3 => ?_)
  refine z_iload_n dJ1_indexOfChar_4cfef_4 3 rfl ?_
  refine z_istore (lv2 := [(5, .int x2), (4, .int v3), (0, .ref 9001), (1, .int x1), (2, .int x2), (3, .int x3)]) dJ1_indexOfChar_4cfef_5 (Nat.le_of_ble_eq_true rfl) rfl ?_
  exact z_sub [2, 5, 1, 0] rfl (w_J1_indexOfChar_4cfef_7 FU _ _ _ _)
theorem M_J1_indexOfChar_4cfef (x1 : Int32) (x2 : Int32) (x3 : Int32) (h : AHp) : MI QJ1_indexOfChar_4cfef 0 [.ref 9001, .int x1, .int x2, .int x3] h (m_J1_indexOfChar_4cfef x1 x2 x3 h) := MI.of (by decide) rfl rfl (Nat.le_of_ble_eq_true rfl) (w_J1_indexOfChar_4cfef x1 x2 x3 h)
set_option maxHeartbeats 4000000 in
set_option maxRecDepth 100000 in
theorem w_J1_indexOf_4cfef (x1 : Int32) (x2 : Int32) (x3 : Int32) (h : AHp) : WO tvI QJ1_indexOf_4cfef 1 0 [(0, .ref 9001), (1, .int x1), (2, .int x2), (3, .int x3)] [] h (m_J1_indexOf_4cfef x1 x2 x3 h) := by
  unfold m_J1_indexOf_4cfef
  refine z_iload_n dJ1_indexOf_4cfef_0 1 rfl ?_
  refine z_callSI dJ1_indexOf_4cfef_1 (M_J1_canEncode_9a6ad _ _) bJ1_canEncode_9a6ad lJ1_88 rfl rfl (Nat.le_of_ble_eq_true rfl) (Nat.le_of_ble_eq_true rfl) (fun r1 h2 => ?_)
  refine z_if_ne (tgt := 9) dJ1_indexOf_4cfef_4 (by decide) ?_ ?_
  · refine z_iload_n dJ1_indexOf_4cfef_9 2 rfl ?_
    refine z_iconst (v := 0) dJ1_indexOf_4cfef_10 (by decide) ?_
    refine z_mmax dJ1_indexOf_4cfef_11 lJ1_92 w_mmax (Nat.le_of_ble_eq_true rfl) (Nat.le_of_ble_eq_true rfl) ?_
    refine z_istore_nL (lv2 := fun v3 => [(2, .int v3), (0, .ref 9001), (1, .int x1), (3, .int x3)]) dJ1_indexOf_4cfef_14 (Nat.le_of_ble_eq_true rfl) (fun _ => rfl) (fun v3 => ?_)
    refine z_iload_n dJ1_indexOf_4cfef_15 3 rfl ?_
    refine z_aload_n dJ1_indexOf_4cfef_16 1 rfl ?_
    refine z_tlen dJ1_indexOf_4cfef_17 ?_
    refine z_mmin dJ1_indexOf_4cfef_18 lJ1_38 w_mmin (Nat.le_of_ble_eq_true rfl) (Nat.le_of_ble_eq_true rfl) ?_
    refine z_istore_nL (lv2 := fun v4 => [(3, .int v4), (2, .int v3), (0, .ref 9001), (1, .int x1)]) dJ1_indexOf_4cfef_21 (Nat.le_of_ble_eq_true rfl) (fun _ => rfl) (fun v4 => ?_)
    refine z_iload_n dJ1_indexOf_4cfef_22 1 rfl ?_
    refine z_iload_n dJ1_indexOf_4cfef_23 0 rfl ?_
    refine z_ic_lt (tgt := 29) dJ1_indexOf_4cfef_24 (by decide) ?_ ?_
    · refine z_aload_n dJ1_indexOf_4cfef_29 2 rfl ?_
      refine z_iload_n dJ1_indexOf_4cfef_30 3 rfl ?_
      refine z_iload_n dJ1_indexOf_4cfef_31 1 rfl ?_
      refine z_iload_n dJ1_indexOf_4cfef_32 0 rfl ?_
      refine z_callSI dJ1_indexOf_4cfef_33 (M_J1_indexOfChar_4cfef _ _ _ _) bJ1_indexOfChar_4cfef lJ1_95 rfl rfl (Nat.le_of_ble_eq_true rfl) (Nat.le_of_ble_eq_true rfl) (fun r5 h6 => ?_)
      exact z_iret dJ1_indexOf_4cfef_36 rfl
    · refine z_iconst (v := -1) dJ1_indexOf_4cfef_27 (by decide) ?_
      exact z_iret dJ1_indexOf_4cfef_28 rfl
  · refine z_iconst (v := -1) dJ1_indexOf_4cfef_7 (by decide) ?_
    exact z_iret dJ1_indexOf_4cfef_8 rfl
theorem M_J1_indexOf_4cfef (x1 : Int32) (x2 : Int32) (x3 : Int32) (h : AHp) : MI QJ1_indexOf_4cfef 1 [.ref 9001, .int x1, .int x2, .int x3] h (m_J1_indexOf_4cfef x1 x2 x3 h) := MI.of (by decide) rfl rfl (Nat.le_of_ble_eq_true rfl) (w_J1_indexOf_4cfef x1 x2 x3 h)
set_option maxHeartbeats 4000000 in
set_option maxRecDepth 100000 in
theorem w_J0_indexOf_7cf53 (x1 : Int32) (x2 : Int32) (h : AHp) : WO tvI QJ0_indexOf_7cf53 2 0 [(0, .ref 9000), (1, .int x1), (2, .int x2)] [] h (m_J0_indexOf_7cf53 x1 x2 h) := by
  unfold m_J0_indexOf_7cf53
  refine z_aload_n dJ0_indexOf_7cf53_0 0 rfl ?_
  refine z_callTI dJ0_indexOf_7cf53_1 (M_J0_isLatin1_aae02 _) bJ0_isLatin1_aae02 lJ0_492 rfl rfl (Nat.le_of_ble_eq_true rfl) (Nat.le_of_ble_eq_true rfl) (fun r1 h2 => ?_)
  refine z_if_eq (tgt := 23) dJ0_indexOf_7cf53_4 (by decide) ?_ ?_
  · exact z_none
  · refine z_aload_n dJ0_indexOf_7cf53_7 0 rfl ?_
    refine z_strV dJ0_indexOf_7cf53_8 sJ0_9 ?_
    refine z_iload_n dJ0_indexOf_7cf53_11 1 rfl ?_
    refine z_iload_n dJ0_indexOf_7cf53_12 2 rfl ?_
    refine z_aload_n dJ0_indexOf_7cf53_13 0 rfl ?_
    refine z_callTI dJ0_indexOf_7cf53_14 (M_J0_length_8abf5 _) bJ0_length_8abf5 lJ0_505 rfl rfl (Nat.le_of_ble_eq_true rfl) (Nat.le_of_ble_eq_true rfl) (fun r5 h6 => ?_)
    refine z_callSI dJ0_indexOf_7cf53_17 (M_J1_indexOf_4cfef _ _ _ _) bJ1_indexOf_4cfef lJ0_637 rfl rfl (Nat.le_of_ble_eq_true rfl) (Nat.le_of_ble_eq_true rfl) (fun r7 h8 => ?_)
    refine z_goto (tgt := 36) dJ0_indexOf_7cf53_20 (by decide) ?_
    exact z_iret dJ0_indexOf_7cf53_36 rfl
theorem M_J0_indexOf_7cf53 (x1 : Int32) (x2 : Int32) (h : AHp) : MI QJ0_indexOf_7cf53 2 [.ref 9000, .int x1, .int x2] h (m_J0_indexOf_7cf53 x1 x2 h) := MI.of (by decide) rfl rfl (Nat.le_of_ble_eq_true rfl) (w_J0_indexOf_7cf53 x1 x2 h)
set_option maxHeartbeats 4000000 in
set_option maxRecDepth 100000 in
theorem w_J0_indexOf_0f7a4 (x1 : Int32) (h : AHp) : WO tvI QJ0_indexOf_0f7a4 3 0 [(0, .ref 9000), (1, .int x1)] [] h (m_J0_indexOf_0f7a4 x1 h) := by
  unfold m_J0_indexOf_0f7a4
  refine z_aload_n dJ0_indexOf_0f7a4_0 0 rfl ?_
  refine z_iload_n dJ0_indexOf_0f7a4_1 1 rfl ?_
  refine z_iconst (v := 0) dJ0_indexOf_0f7a4_2 (by decide) ?_
  refine z_callTI dJ0_indexOf_0f7a4_3 (M_J0_indexOf_7cf53 _ _ _) bJ0_indexOf_7cf53 lJ0_633 rfl rfl (Nat.le_of_ble_eq_true rfl) (Nat.le_of_ble_eq_true rfl) (fun r1 h2 => ?_)
  exact z_iret dJ0_indexOf_0f7a4_6 rfl
theorem M_J0_indexOf_0f7a4 (x1 : Int32) (h : AHp) : MI QJ0_indexOf_0f7a4 3 [.ref 9000, .int x1] h (m_J0_indexOf_0f7a4 x1 h) := MI.of (by decide) rfl rfl (Nat.le_of_ble_eq_true rfl) (w_J0_indexOf_0f7a4 x1 h)
set_option maxHeartbeats 4000000 in
set_option maxRecDepth 100000 in
theorem w_X4_readNumber_51 (x1 : Int32) (h : AHp) : WO tvI QX4_readNumber 1 51 [(0, .ref 33), (1, .int x1)] [] h (m_X4_readNumber_51 x1 h) := by
  unfold m_X4_readNumber_51
  refine z_aload_n dX4_readNumber_51 0 rfl ?_
  refine z_getR (j := 1) fX4_9 kc_33 rfl rfl rfl (by decide) dX4_readNumber_52 ?_
  refine z_callVI dX4_readNumber_55 (M_X8_sign _) bX8_sign lX4_54 kc_1 rfl rfl (Nat.le_of_ble_eq_true rfl) (Nat.le_of_ble_eq_true rfl) (fun r1 h2 => ?_)
  refine z_callSI dX4_readNumber_58 (M_X4_isDigit _ _) bX4_isDigit lX4_133 rfl rfl (Nat.le_of_ble_eq_true rfl) (Nat.le_of_ble_eq_true rfl) (fun r3 h4 => ?_)
  refine z_if_eq (tgt := 72) dX4_readNumber_61 (by decide) ?_ ?_
  · refine z_iload_n dX4_readNumber_72 1 rfl ?_
    exact z_iret dX4_readNumber_73 rfl
  · refine z_aload_n dX4_readNumber_64 0 rfl ?_
    refine z_getR (j := 1) fX4_9 kc_33 rfl rfl rfl (by decide) dX4_readNumber_65 ?_
    refine z_iconst (v := 2) dX4_readNumber_68 (by decide) ?_
    refine z_callVV dX4_readNumber_69 (M_X8_fail _ _) bX8_fail lX4_68 kc_1 rfl rfl (Nat.le_of_ble_eq_true rfl) (Nat.le_of_ble_eq_true rfl) (fun r5 h6 => ?_)
    refine z_iload_n dX4_readNumber_72 1 rfl ?_
    exact z_iret dX4_readNumber_73 rfl
set_option maxHeartbeats 4000000 in
set_option maxRecDepth 100000 in
theorem w_X4_readNumber_4 : ∀ (f : Nat) (x1 : Int32) (x2 : Int32) (h : AHp), WO tvI QX4_readNumber 1 4 [(0, .ref 33), (1, .int x1), (2, .int x2)] [] h (m_X4_readNumber_4 f x1 x2 h) := by
  intro f
  induction f with
  | zero => intro x1 x2 h; exact z_none
  | succ f ih =>
    intro x1 x2 h
    rw [m_X4_readNumber_4]
    refine z_iload_n dX4_readNumber_4 2 rfl ?_
    refine z_iconst (v := 5) dX4_readNumber_5 (by decide) ?_
    refine z_ic_ge (tgt := 51) dX4_readNumber_6 (by decide) ?_ ?_
    · exact z_sub [0, 1] rfl (w_X4_readNumber_51 _ _)
    · refine z_aload_n dX4_readNumber_9 0 rfl ?_
      refine z_getR (j := 1) fX4_9 kc_33 rfl rfl rfl (by decide) dX4_readNumber_10 ?_
      refine z_callVI dX4_readNumber_13 (M_X8_sign _) bX8_sign lX4_54 kc_1 rfl rfl (Nat.le_of_ble_eq_true rfl) (Nat.le_of_ble_eq_true rfl) (fun r7 h8 => ?_)
      refine z_callSI dX4_readNumber_16 (M_X4_isDigit _ _) bX4_isDigit lX4_133 rfl rfl (Nat.le_of_ble_eq_true rfl) (Nat.le_of_ble_eq_true rfl) (fun r9 h10 => ?_)
      refine z_if_eq (tgt := 51) dX4_readNumber_19 (by decide) ?_ ?_
      · exact z_sub [0, 1] rfl (w_X4_readNumber_51 _ _)
      · refine z_iload_n dX4_readNumber_22 1 rfl ?_
        refine z_bipush (v := 10) dX4_readNumber_23 (by decide) ?_
        refine z_imul dX4_readNumber_25 ?_
        refine z_aload_n dX4_readNumber_26 0 rfl ?_
        refine z_getR (j := 1) fX4_9 kc_33 rfl rfl rfl (by decide) dX4_readNumber_27 ?_
        refine z_callVI dX4_readNumber_30 (M_X8_sign _) bX8_sign lX4_54 kc_1 rfl rfl (Nat.le_of_ble_eq_true rfl) (Nat.le_of_ble_eq_true rfl) (fun r11 h12 => ?_)
        refine z_iadd dX4_readNumber_33 ?_
        refine z_bipush (v := 48) dX4_readNumber_34 (by decide) ?_
        refine z_isub dX4_readNumber_36 ?_
        refine z_istore_nL (lv2 := fun v13 => [(1, .int v13), (0, .ref 33), (2, .int x2)]) dX4_readNumber_37 (Nat.le_of_ble_eq_true rfl) (fun _ => rfl) (fun v13 => ?_)
        refine z_aload_n dX4_readNumber_38 1 rfl ?_
        refine z_getR (j := 1) fX4_9 kc_33 rfl rfl rfl (by decide) dX4_readNumber_39 ?_
        refine z_callVV dX4_readNumber_42 (M_X8_step _) bX8_step lX4_71 kc_1 rfl rfl (Nat.le_of_ble_eq_true rfl) (Nat.le_of_ble_eq_true rfl) (fun r14 h15 => ?_)
        refine z_iincL (lv2 := fun v16 => [(2, .int v16), (1, .int v13), (0, .ref 33)]) dX4_readNumber_45 2 rfl rfl (Nat.le_of_ble_eq_true rfl) (fun _ => rfl) (fun v16 => ?_)
        refine z_goto (tgt := 4) dX4_readNumber_48 (by decide) ?_
        exact z_sub [2, 1, 0] rfl (ih _ _ _)
set_option maxHeartbeats 4000000 in
set_option maxRecDepth 100000 in
theorem w_X4_readNumber (h : AHp) : WO tvI QX4_readNumber 1 0 [(0, .ref 33)] [] h (m_X4_readNumber h) := by
  unfold m_X4_readNumber
  refine z_iconst (v := 0) dX4_readNumber_0 (by decide) ?_
  refine z_istore_n (lv2 := [(1, .int 0), (0, .ref 33)]) dX4_readNumber_1 (Nat.le_of_ble_eq_true rfl) rfl ?_
  refine z_iconst (v := 0) dX4_readNumber_2 (by decide) ?_
  refine z_istore_n (lv2 := [(2, .int 0), (1, .int 0), (0, .ref 33)]) dX4_readNumber_3 (Nat.le_of_ble_eq_true rfl) rfl ?_
  exact z_sub [2, 1, 0] rfl (w_X4_readNumber_4 FU _ _ _)
theorem M_X4_readNumber (h : AHp) : MI QX4_readNumber 1 [.ref 33] h (m_X4_readNumber h) := MI.of (by decide) rfl rfl (Nat.le_of_ble_eq_true rfl) (w_X4_readNumber h)
set_option maxHeartbeats 4000000 in
set_option maxRecDepth 100000 in
theorem w_X2_constant {j : Nat} (hj_j : isLaw j) (x1 : Int32) (h : AHp) : WO tvI QX2_constant 0 0 [(0, .ref j), (1, .int x1)] [] h (m_X2_constant j x1 h) := by
  unfold m_X2_constant
  refine z_aload_n dX2_constant_0 0 rfl ?_
  refine z_getI fX2_37 (law_k hj_j) rfl dX2_constant_1 ?_
  refine z_istore_nL (lv2 := fun v1 => [(2, .int v1), (0, .ref j), (1, .int x1)]) dX2_constant_4 (Nat.le_of_ble_eq_true rfl) (fun _ => rfl) (fun v1 => ?_)
  refine z_iload_n dX2_constant_5 0 rfl ?_
  refine z_sipush (v := 256) dX2_constant_6 (by decide) ?_
  refine z_ic_ge (tgt := 29) dX2_constant_9 (by decide) ?_ ?_
  · refine z_iload_n dX2_constant_29 0 rfl ?_
    exact z_iret dX2_constant_30 rfl
  · refine z_aload_n dX2_constant_12 1 rfl ?_
    refine z_getR fX2_15 (law_k hj_j) rfl rfl (law_r1 hj_j) (Nat.succ_ne_zero _) dX2_constant_13 ?_
    refine z_iload_n dX2_constant_16 0 rfl ?_
    refine z_iload_n dX2_constant_17 2 rfl ?_
    refine z_gd (fun g3 => ?_)
    refine z_iast (law_k1 hj_j) dX2_constant_18 g3 ?_
    refine z_lh (fun h2 => ?_)
    refine z_aload_n dX2_constant_19 1 rfl ?_
    refine z_dup dX2_constant_20 rfl ?_
    refine z_getI fX2_37 (law_k hj_j) rfl dX2_constant_21 ?_
    refine z_iconst (v := 1) dX2_constant_24 (by decide) ?_
    refine z_iadd dX2_constant_25 ?_
    refine z_putI fX2_37 (law_k hj_j) rfl dX2_constant_26 ?_
    refine z_lh (fun h4 => ?_)
    refine z_iload_n dX2_constant_29 0 rfl ?_
    exact z_iret dX2_constant_30 rfl
theorem M_X2_constant {j : Nat} (hj_j : isLaw j) (x1 : Int32) (h : AHp) : MI QX2_constant 0 [.ref j, .int x1] h (m_X2_constant j x1 h) := MI.of (by decide) rfl rfl (Nat.le_of_ble_eq_true rfl) (w_X2_constant hj_j x1 h)
set_option maxHeartbeats 4000000 in
set_option maxRecDepth 100000 in
theorem w_X4_readFactor_b_93 {dd : Nat} (rec : Int32 → AHp → Option (Int32 × AHp)) (hrec : ∀ (x1 : Int32) (h : AHp), MI QX4_readSum (dd + 40) [.ref 33, .int x1] h (rec x1 h)) (s0 : Int32) (h : AHp) : WO tvI QX4_readFactor (dd + 41) 93 [(0, .ref 33)] [.int s0] h (m_X4_readFactor_b_93 rec s0 h) := by
  unfold m_X4_readFactor_b_93
  refine z_istore_n (lv2 := [(3, .int s0), (0, .ref 33)]) dX4_readFactor_93 (Nat.le_of_ble_eq_true rfl) rfl ?_
  refine z_iload_n dX4_readFactor_94 0 rfl ?_
  refine z_if_ge (tgt := 108) dX4_readFactor_95 (by decide) ?_ ?_
  · refine z_aload_n dX4_readFactor_108 1 rfl ?_
    refine z_getR (j := 1) fX4_9 kc_33 rfl rfl rfl (by decide) dX4_readFactor_109 ?_
    refine z_callVV dX4_readFactor_112 (M_X8_step _) bX8_step lX4_71 kc_1 rfl rfl (Nat.le_of_ble_eq_true rfl) (by omega) (fun r1 h2 => ?_)
    refine z_aload_n dX4_readFactor_115 1 rfl ?_
    refine z_gd (fun g3 => ?_)
    refine z_getM fX4_18 kc_33 rfl rfl (law_ne g3) dX4_readFactor_116 ?_
    refine z_iload_n dX4_readFactor_119 0 rfl ?_
    refine z_callVI dX4_readFactor_120 (M_X2_letter g3 _ _) bX2_letter lX4_149 (law_k g3) rfl rfl (Nat.le_of_ble_eq_true rfl) (by omega) (fun r4 h5 => ?_)
    exact z_iret dX4_readFactor_123 rfl
  · refine z_aload_n dX4_readFactor_98 1 rfl ?_
    refine z_getR (j := 1) fX4_9 kc_33 rfl rfl rfl (by decide) dX4_readFactor_99 ?_
    refine z_iconst (v := 1) dX4_readFactor_102 (by decide) ?_
    refine z_callVV dX4_readFactor_103 (M_X8_fail _ _) bX8_fail lX4_68 kc_1 rfl rfl (Nat.le_of_ble_eq_true rfl) (by omega) (fun r6 h7 => ?_)
    refine z_iconst (v := 0) dX4_readFactor_106 (by decide) ?_
    exact z_iret dX4_readFactor_107 rfl
set_option maxHeartbeats 4000000 in
set_option maxRecDepth 100000 in
theorem w_X4_readFactor_b {dd : Nat} (rec : Int32 → AHp → Option (Int32 × AHp)) (hrec : ∀ (x1 : Int32) (h : AHp), MI QX4_readSum (dd + 40) [.ref 33, .int x1] h (rec x1 h)) (x1 : Int32) (h : AHp) : WO tvI QX4_readFactor (dd + 41) 0 [(0, .ref 33), (1, .int x1)] [] h (m_X4_readFactor_b rec x1 h) := by
  unfold m_X4_readFactor_b
  refine z_aload_n dX4_readFactor_0 0 rfl ?_
  refine z_getR (j := 1) fX4_9 kc_33 rfl rfl rfl (by decide) dX4_readFactor_1 ?_
  refine z_callVI dX4_readFactor_4 (M_X8_sign _) bX8_sign lX4_54 kc_1 rfl rfl (Nat.le_of_ble_eq_true rfl) (by omega) (fun r8 h9 => ?_)
  refine z_istore_n (lv2 := [(2, .int r8), (0, .ref 33), (1, .int x1)]) dX4_readFactor_7 (Nat.le_of_ble_eq_true rfl) rfl ?_
  refine z_iload_n dX4_readFactor_8 0 rfl ?_
  refine z_callSI dX4_readFactor_9 (M_X4_isDigit _ _) bX4_isDigit lX4_133 rfl rfl (Nat.le_of_ble_eq_true rfl) (by omega) (fun r10 h11 => ?_)
  refine z_if_eq (tgt := 27) dX4_readFactor_12 (by decide) ?_ ?_
  · refine z_iload_n dX4_readFactor_27 0 rfl ?_
    refine z_bipush (v := 91) dX4_readFactor_28 (by decide) ?_
    refine z_ic_ne (tgt := 75) dX4_readFactor_30 (by decide) ?_ ?_
    · refine z_iload_n dX4_readFactor_75 0 rfl ?_
      refine z_callSI dX4_readFactor_76 (M_X4_isWord _ _) bX4_isWord lX4_65 rfl rfl (Nat.le_of_ble_eq_true rfl) (by omega) (fun r12 h13 => ?_)
      refine z_if_eq (tgt := 92) dX4_readFactor_79 (by decide) ?_ ?_
      · refine z_iconst (v := -1) dX4_readFactor_92 (by decide) ?_
        exact z_sub [1] rfl (w_X4_readFactor_b_93 rec hrec _ _)
      · refine z_ldcS dX4_readFactor_82 rfl ?_
        refine z_iload_n dX4_readFactor_84 0 rfl ?_
        refine z_i2c dX4_readFactor_85 ?_
        refine z_callTI dX4_readFactor_86 (M_J0_indexOf_0f7a4 _ _) bJ0_indexOf_0f7a4 lX4_144 rfl rfl (Nat.le_of_ble_eq_true rfl) (by omega) (fun r14 h15 => ?_)
        refine z_goto (tgt := 93) dX4_readFactor_89 (by decide) ?_
        exact z_sub [1] rfl (w_X4_readFactor_b_93 rec hrec _ _)
    · refine z_iload_n dX4_readFactor_33 2 rfl ?_
      refine z_bipush (v := 6) dX4_readFactor_34 (by decide) ?_
      refine z_ic_lt (tgt := 49) dX4_readFactor_36 (by decide) ?_ ?_
      · refine z_aload_n dX4_readFactor_49 1 rfl ?_
        refine z_getR (j := 1) fX4_9 kc_33 rfl rfl rfl (by decide) dX4_readFactor_50 ?_
        refine z_callVV dX4_readFactor_53 (M_X8_step _) bX8_step lX4_71 kc_1 rfl rfl (Nat.le_of_ble_eq_true rfl) (by omega) (fun r16 h17 => ?_)
        refine z_aload_n dX4_readFactor_56 1 rfl ?_
        refine z_iload_n dX4_readFactor_57 2 rfl ?_
        refine z_iconst (v := 1) dX4_readFactor_58 (by decide) ?_
        refine z_iadd dX4_readFactor_59 ?_
        refine z_callVI dX4_readFactor_60 (hrec _ _) bX4_readSum lX4_93 kc_33 rfl rfl (Nat.le_of_ble_eq_true rfl) (by omega) (fun r18 h19 => ?_)
        refine z_istore_n (lv2 := [(3, .int r18), (2, .int r8), (0, .ref 33), (1, .int x1)]) dX4_readFactor_63 (Nat.le_of_ble_eq_true rfl) rfl ?_
        refine z_aload_n dX4_readFactor_64 2 rfl ?_
        refine z_getR (j := 1) fX4_9 kc_33 rfl rfl rfl (by decide) dX4_readFactor_65 ?_
        refine z_bipush (v := 93) dX4_readFactor_68 (by decide) ?_
        refine z_callVV dX4_readFactor_70 (M_X8_expect _ _) bX8_expect lX4_74 kc_1 rfl rfl (Nat.le_of_ble_eq_true rfl) (by omega) (fun r20 h21 => ?_)
        refine z_iload_n dX4_readFactor_73 0 rfl ?_
        exact z_iret dX4_readFactor_74 rfl
      · refine z_aload_n dX4_readFactor_39 1 rfl ?_
        refine z_getR (j := 1) fX4_9 kc_33 rfl rfl rfl (by decide) dX4_readFactor_40 ?_
        refine z_iconst (v := 5) dX4_readFactor_43 (by decide) ?_
        refine z_callVV dX4_readFactor_44 (M_X8_fail _ _) bX8_fail lX4_68 kc_1 rfl rfl (Nat.le_of_ble_eq_true rfl) (by omega) (fun r22 h23 => ?_)
        refine z_iconst (v := 0) dX4_readFactor_47 (by decide) ?_
        exact z_iret dX4_readFactor_48 rfl
  · refine z_aload_n dX4_readFactor_15 1 rfl ?_
    refine z_gd (fun g24 => ?_)
    refine z_getM fX4_18 kc_33 rfl rfl (law_ne g24) dX4_readFactor_16 ?_
    refine z_aload_n dX4_readFactor_19 1 rfl ?_
    refine z_callVI dX4_readFactor_20 (M_X4_readNumber _) bX4_readNumber lX4_136 kc_33 rfl rfl (Nat.le_of_ble_eq_true rfl) (by omega) (fun r25 h26 => ?_)
    refine z_callVI dX4_readFactor_23 (M_X2_constant g24 _ _) bX2_constant lX4_139 (law_k g24) rfl rfl (Nat.le_of_ble_eq_true rfl) (by omega) (fun r27 h28 => ?_)
    exact z_iret dX4_readFactor_26 rfl
theorem M_X4_readFactor_b {dd : Nat} (rec : Int32 → AHp → Option (Int32 × AHp)) (hrec : ∀ (x1 : Int32) (h : AHp), MI QX4_readSum (dd + 40) [.ref 33, .int x1] h (rec x1 h)) (x1 : Int32) (h : AHp) : MI QX4_readFactor (dd + 41) [.ref 33, .int x1] h (m_X4_readFactor_b rec x1 h) := MI.of (by decide) rfl rfl (Nat.le_of_ble_eq_true rfl) (w_X4_readFactor_b rec hrec x1 h)
set_option maxHeartbeats 4000000 in
set_option maxRecDepth 100000 in
theorem w_X2_emit {j : Nat} (hj_j : isLaw j) (x1 : Int32) (x2 : Int32) (x3 : Int32) (h : AHp) : WO tvI QX2_emit 0 0 [(0, .ref j), (1, .int x1), (2, .int x2), (3, .int x3)] [] h (m_X2_emit j x1 x2 x3 h) := by
  unfold m_X2_emit
  refine z_aload_n dX2_emit_0 0 rfl ?_
  refine z_getI fX2_37 (law_k hj_j) rfl dX2_emit_1 ?_
  refine z_istoreL (lv2 := fun v1 => [(4, .int v1), (0, .ref j), (1, .int x1), (2, .int x2), (3, .int x3)]) dX2_emit_4 (Nat.le_of_ble_eq_true rfl) (fun _ => rfl) (fun v1 => ?_)
  refine z_aload_n dX2_emit_6 1 rfl ?_
  refine z_getI fX2_33 (law_k hj_j) rfl dX2_emit_7 ?_
  refine z_sipush (v := 256) dX2_emit_10 (by decide) ?_
  refine z_ic_ge (tgt := 69) dX2_emit_13 (by decide) ?_ ?_
  · refine z_iload dX2_emit_69 0 rfl ?_
    exact z_iret dX2_emit_71 rfl
  · refine z_iload dX2_emit_16 0 rfl ?_
    refine z_sipush (v := 256) dX2_emit_18 (by decide) ?_
    refine z_ic_ge (tgt := 69) dX2_emit_21 (by decide) ?_ ?_
    · refine z_iload dX2_emit_69 0 rfl ?_
      exact z_iret dX2_emit_71 rfl
    · refine z_aload_n dX2_emit_24 1 rfl ?_
      refine z_getR fX2_11 (law_k hj_j) rfl rfl (law_r0 hj_j) (Nat.succ_ne_zero _) dX2_emit_25 ?_
      refine z_aload_n dX2_emit_28 1 rfl ?_
      refine z_getI fX2_33 (law_k hj_j) rfl dX2_emit_29 ?_
      refine z_iload_n dX2_emit_32 2 rfl ?_
      refine z_iload_n dX2_emit_33 3 rfl ?_
      refine z_iconst (v := 4) dX2_emit_34 (by decide) ?_
      refine z_ishl dX2_emit_35 ?_
      refine z_ior dX2_emit_36 ?_
      refine z_iload_n dX2_emit_37 4 rfl ?_
      refine z_bipush (v := 12) dX2_emit_38 (by decide) ?_
      refine z_ishl dX2_emit_40 ?_
      refine z_ior dX2_emit_41 ?_
      refine z_iload dX2_emit_42 0 rfl ?_
      refine z_bipush (v := 20) dX2_emit_44 (by decide) ?_
      refine z_ishl dX2_emit_46 ?_
      refine z_ior dX2_emit_47 ?_
      refine z_gd (fun g3 => ?_)
      refine z_iast (law_k0 hj_j) dX2_emit_48 g3 ?_
      refine z_lh (fun h2 => ?_)
      refine z_aload_n dX2_emit_49 1 rfl ?_
      refine z_dup dX2_emit_50 rfl ?_
      refine z_getI fX2_33 (law_k hj_j) rfl dX2_emit_51 ?_
      refine z_iconst (v := 1) dX2_emit_54 (by decide) ?_
      refine z_iadd dX2_emit_55 ?_
      refine z_putI fX2_33 (law_k hj_j) rfl dX2_emit_56 ?_
      refine z_lh (fun h4 => ?_)
      refine z_aload_n dX2_emit_59 1 rfl ?_
      refine z_dup dX2_emit_60 rfl ?_
      refine z_getI fX2_37 (law_k hj_j) rfl dX2_emit_61 ?_
      refine z_iconst (v := 1) dX2_emit_64 (by decide) ?_
      refine z_iadd dX2_emit_65 ?_
      refine z_putI fX2_37 (law_k hj_j) rfl dX2_emit_66 ?_
      refine z_lh (fun h5 => ?_)
      refine z_iload dX2_emit_69 0 rfl ?_
      exact z_iret dX2_emit_71 rfl
theorem M_X2_emit {j : Nat} (hj_j : isLaw j) (x1 : Int32) (x2 : Int32) (x3 : Int32) (h : AHp) : MI QX2_emit 0 [.ref j, .int x1, .int x2, .int x3] h (m_X2_emit j x1 x2 x3 h) := MI.of (by decide) rfl rfl (Nat.le_of_ble_eq_true rfl) (w_X2_emit hj_j x1 x2 x3 h)
set_option maxHeartbeats 4000000 in
set_option maxRecDepth 100000 in
theorem w_X4_operation (x0 : Int32) (h : AHp) : WO tvI QX4_operation 0 0 [(0, .int x0)] [] h (m_X4_operation x0 h) := by
  unfold m_X4_operation
  refine z_iload_n dX4_operation_0 0 rfl ?_
  refine z_ite (fun c1 => ?_) (fun c1 => ?_)
  · refine z_look (tgt := 40) (off := 39) dX4_operation_1 (by decide) (by rw [c1]; decide) (by decide) ?_
    refine z_iconst (v := 5) dX4_operation_40 (by decide) ?_
    exact z_iret dX4_operation_41 rfl
  · refine z_ite (fun c2 => ?_) (fun c2 => ?_)
    · refine z_look (tgt := 36) (off := 35) dX4_operation_1 (by decide) (by rw [c2]; decide) (by decide) ?_
      refine z_iconst (v := 3) dX4_operation_36 (by decide) ?_
      exact z_iret dX4_operation_37 rfl
    · refine z_ite (fun c3 => ?_) (fun c3 => ?_)
      · refine z_look (tgt := 38) (off := 37) dX4_operation_1 (by decide) (by rw [c3]; decide) (by decide) ?_
        refine z_iconst (v := 4) dX4_operation_38 (by decide) ?_
        exact z_iret dX4_operation_39 rfl
      · refine z_look (tgt := 42) (off := 41) dX4_operation_1 (by decide) (by show Op.lookupswitch.offset [(37, 39), (42, 35), (47, 37)] 41 _ = _; rw [lv_osw (a := 37) c1 rfl, lv_osw (a := 42) c2 rfl, lv_osw (a := 47) c3 rfl]; rfl) (by decide) ?_
        refine z_iconst (v := -1) dX4_operation_42 (by decide) ?_
        exact z_iret dX4_operation_43 rfl
theorem M_X4_operation (x0 : Int32) (h : AHp) : MI QX4_operation 0 [.int x0] h (m_X4_operation x0 h) := MI.of (by decide) rfl rfl (Nat.le_of_ble_eq_true rfl) (w_X4_operation x0 h)
set_option maxHeartbeats 4000000 in
set_option maxRecDepth 100000 in
theorem w_X4_readTerm_b_20 {dd : Nat} (rec : Int32 → AHp → Option (Int32 × AHp)) (hrec : ∀ (x1 : Int32) (h : AHp), MI QX4_readSum (dd + 40) [.ref 33, .int x1] h (rec x1 h)) : ∀ (f : Nat) (x1 : Int32) (x2 : Int32) (x3 : Int32) (x4 : Int32) (h : AHp), WO tvI QX4_readTerm (dd + 42) 20 [(0, .ref 33), (1, .int x1), (2, .int x2), (3, .int x3), (4, .int x4)] [] h (m_X4_readTerm_b_20 rec f x1 x2 x3 x4 h) := by
  intro f
  induction f with
  | zero => intro x1 x2 x3 x4 h; exact z_none
  | succ f ih =>
    intro x1 x2 x3 x4 h
    rw [m_X4_readTerm_b_20]
    refine z_iload dX4_readTerm_20 4 rfl ?_
    refine z_sipush (v := 200) dX4_readTerm_22 (by decide) ?_
    refine z_ic_ge (tgt := 72) dX4_readTerm_25 (by decide) ?_ ?_
    · refine z_iload_n dX4_readTerm_72 2 rfl ?_
      exact z_iret dX4_readTerm_73 rfl
    · refine z_iload_n dX4_readTerm_28 3 rfl ?_
      refine z_iconst (v := -1) dX4_readTerm_29 (by decide) ?_
      refine z_ic_eq (tgt := 72) dX4_readTerm_30 (by decide) ?_ ?_
      · refine z_iload_n dX4_readTerm_72 2 rfl ?_
        exact z_iret dX4_readTerm_73 rfl
      · refine z_aload_n dX4_readTerm_33 0 rfl ?_
        refine z_getR (j := 1) fX4_9 kc_33 rfl rfl rfl (by decide) dX4_readTerm_34 ?_
        refine z_callVV dX4_readTerm_37 (M_X8_step _) bX8_step lX4_71 kc_1 rfl rfl (Nat.le_of_ble_eq_true rfl) (by omega) (fun r1 h2 => ?_)
        refine z_aload_n dX4_readTerm_40 0 rfl ?_
        refine z_gd (fun g3 => ?_)
        refine z_getM fX4_18 kc_33 rfl rfl (law_ne g3) dX4_readTerm_41 ?_
        refine z_iload_n dX4_readTerm_44 3 rfl ?_
        refine z_iload_n dX4_readTerm_45 2 rfl ?_
        refine z_aload_n dX4_readTerm_46 0 rfl ?_
        refine z_iload_n dX4_readTerm_47 1 rfl ?_
        refine z_callVI dX4_readTerm_48 (M_X4_readFactor_b rec hrec _ _) bX4_readFactor lX4_127 kc_33 rfl rfl (Nat.le_of_ble_eq_true rfl) (by omega) (fun r4 h5 => ?_)
        refine z_callVI dX4_readTerm_51 (M_X2_emit g3 _ _ _ _) bX2_emit lX4_120 (law_k g3) rfl rfl (Nat.le_of_ble_eq_true rfl) (by omega) (fun r6 h7 => ?_)
        refine z_istore_n (lv2 := [(2, .int r6), (0, .ref 33), (1, .int x1), (3, .int x3), (4, .int x4)]) dX4_readTerm_54 (Nat.le_of_ble_eq_true rfl) rfl ?_
        refine z_aload_n dX4_readTerm_55 1 rfl ?_
        refine z_getR (j := 1) fX4_9 kc_33 rfl rfl rfl (by decide) dX4_readTerm_56 ?_
        refine z_callVI dX4_readTerm_59 (M_X8_sign _) bX8_sign lX4_54 kc_1 rfl rfl (Nat.le_of_ble_eq_true rfl) (by omega) (fun r8 h9 => ?_)
        refine z_callSI dX4_readTerm_62 (M_X4_operation _ _) bX4_operation lX4_130 rfl rfl (Nat.le_of_ble_eq_true rfl) (by omega) (fun r10 h11 => ?_)
        refine z_istore_n (lv2 := [(3, .int r10), (2, .int r6), (0, .ref 33), (1, .int x1), (4, .int x4)]) dX4_readTerm_65 (Nat.le_of_ble_eq_true rfl) rfl ?_
        refine z_iincL (lv2 := fun v12 => [(4, .int v12), (3, .int r10), (2, .int r6), (0, .ref 33), (1, .int x1)]) dX4_readTerm_66 4 rfl rfl (Nat.le_of_ble_eq_true rfl) (fun _ => rfl) (fun v12 => ?_)
        refine z_goto (tgt := 20) dX4_readTerm_69 (by decide) ?_
        exact z_sub [3, 4, 2, 1, 0] rfl (ih _ _ _ _ _)
set_option maxHeartbeats 4000000 in
set_option maxRecDepth 100000 in
theorem w_X4_readTerm_b {dd : Nat} (rec : Int32 → AHp → Option (Int32 × AHp)) (hrec : ∀ (x1 : Int32) (h : AHp), MI QX4_readSum (dd + 40) [.ref 33, .int x1] h (rec x1 h)) (x1 : Int32) (h : AHp) : WO tvI QX4_readTerm (dd + 42) 0 [(0, .ref 33), (1, .int x1)] [] h (m_X4_readTerm_b rec x1 h) := by
  unfold m_X4_readTerm_b
  refine z_aload_n dX4_readTerm_0 0 rfl ?_
  refine z_iload_n dX4_readTerm_1 1 rfl ?_
  refine z_callVI dX4_readTerm_2 (M_X4_readFactor_b rec hrec _ _) bX4_readFactor lX4_127 kc_33 rfl rfl (Nat.le_of_ble_eq_true rfl) (by omega) (fun r13 h14 => ?_)
  refine z_istore_n (lv2 := [(2, .int r13), (0, .ref 33), (1, .int x1)]) dX4_readTerm_5 (Nat.le_of_ble_eq_true rfl) rfl ?_
  refine z_aload_n dX4_readTerm_6 1 rfl ?_
  refine z_getR (j := 1) fX4_9 kc_33 rfl rfl rfl (by decide) dX4_readTerm_7 ?_
  refine z_callVI dX4_readTerm_10 (M_X8_sign _) bX8_sign lX4_54 kc_1 rfl rfl (Nat.le_of_ble_eq_true rfl) (by omega) (fun r15 h16 => ?_)
  refine z_callSI dX4_readTerm_13 (M_X4_operation _ _) bX4_operation lX4_130 rfl rfl (Nat.le_of_ble_eq_true rfl) (by omega) (fun r17 h18 => ?_)
  refine z_istore_n (lv2 := [(3, .int r17), (2, .int r13), (0, .ref 33), (1, .int x1)]) dX4_readTerm_16 (Nat.le_of_ble_eq_true rfl) rfl ?_
  refine z_iconst (v := 0) dX4_readTerm_17 (by decide) ?_
  refine z_istore (lv2 := [(4, .int 0), (3, .int r17), (2, .int r13), (0, .ref 33), (1, .int x1)]) dX4_readTerm_18 (Nat.le_of_ble_eq_true rfl) rfl ?_
  exact z_sub [3, 4, 2, 1, 0] rfl (w_X4_readTerm_b_20 rec hrec FU _ _ _ _ _)
theorem M_X4_readTerm_b {dd : Nat} (rec : Int32 → AHp → Option (Int32 × AHp)) (hrec : ∀ (x1 : Int32) (h : AHp), MI QX4_readSum (dd + 40) [.ref 33, .int x1] h (rec x1 h)) (x1 : Int32) (h : AHp) : MI QX4_readTerm (dd + 42) [.ref 33, .int x1] h (m_X4_readTerm_b rec x1 h) := MI.of (by decide) rfl rfl (Nat.le_of_ble_eq_true rfl) (w_X4_readTerm_b rec hrec x1 h)
set_option maxHeartbeats 4000000 in
set_option maxRecDepth 100000 in
theorem w_X4_readSum_b_56 {dd : Nat} (rec : Int32 → AHp → Option (Int32 × AHp)) (hrec : ∀ (x1 : Int32) (h : AHp), MI QX4_readSum (dd + 40) [.ref 33, .int x1] h (rec x1 h)) (k8 : Int32 → Int32 → Int32 → AHp → Option (Int32 × AHp)) (hk8 : ∀ (x1 : Int32) (x2 : Int32) (x3 : Int32) (h : AHp), WO tvI QX4_readSum (dd + 43) 8 [(0, .ref 33), (1, .int x1), (2, .int x2), (3, .int x3)] [] h (k8 x1 x2 x3 h)) (x1 : Int32) (x2 : Int32) (x3 : Int32) (s0 : Int32) (h : AHp) : WO tvI QX4_readSum (dd + 43) 56 [(0, .ref 33), (1, .int x1), (2, .int x2), (3, .int x3)] [.int s0] h (m_X4_readSum_b_56 rec k8 x1 x2 x3 s0 h) := by
  unfold m_X4_readSum_b_56
  refine z_istore (lv2 := [(4, .int s0), (0, .ref 33), (1, .int x1), (2, .int x2), (3, .int x3)]) dX4_readSum_56 (Nat.le_of_ble_eq_true rfl) rfl ?_
  refine z_aload_n dX4_readSum_58 1 rfl ?_
  refine z_getR (j := 1) fX4_9 kc_33 rfl rfl rfl (by decide) dX4_readSum_59 ?_
  refine z_callVV dX4_readSum_62 (M_X8_step _) bX8_step lX4_71 kc_1 rfl rfl (Nat.le_of_ble_eq_true rfl) (by omega) (fun r1 h2 => ?_)
  refine z_aload_n dX4_readSum_65 1 rfl ?_
  refine z_gd (fun g3 => ?_)
  refine z_getM fX4_18 kc_33 rfl rfl (law_ne g3) dX4_readSum_66 ?_
  refine z_iload dX4_readSum_69 0 rfl ?_
  refine z_iload_n dX4_readSum_71 3 rfl ?_
  refine z_aload_n dX4_readSum_72 1 rfl ?_
  refine z_iload_n dX4_readSum_73 2 rfl ?_
  refine z_callVI dX4_readSum_74 (M_X4_readTerm_b rec hrec _ _) bX4_readTerm lX4_124 kc_33 rfl rfl (Nat.le_of_ble_eq_true rfl) (by omega) (fun r4 h5 => ?_)
  refine z_callVI dX4_readSum_77 (M_X2_emit g3 _ _ _ _) bX2_emit lX4_120 (law_k g3) rfl rfl (Nat.le_of_ble_eq_true rfl) (by omega) (fun r6 h7 => ?_)
  refine z_istore_n (lv2 := [(2, .int r6), (4, .int s0), (0, .ref 33), (1, .int x1), (3, .int x3)]) dX4_readSum_80 (Nat.le_of_ble_eq_true rfl) rfl ?_
  refine z_iincL (lv2 := fun v8 => [(3, .int v8), (2, .int r6), (4, .int s0), (0, .ref 33), (1, .int x1)]) dX4_readSum_81 4 rfl rfl (Nat.le_of_ble_eq_true rfl) (fun _ => rfl) (fun v8 => ?_)
  refine z_goto (tgt := 8) dX4_readSum_84 (by decide) ?_
  exact z_sub [3, 4, 1, 0] rfl (hk8 _ _ _ _)
set_option maxHeartbeats 4000000 in
set_option maxRecDepth 100000 in
theorem w_X4_readSum_b_39 {dd : Nat} (rec : Int32 → AHp → Option (Int32 × AHp)) (hrec : ∀ (x1 : Int32) (h : AHp), MI QX4_readSum (dd + 40) [.ref 33, .int x1] h (rec x1 h)) (k8 : Int32 → Int32 → Int32 → AHp → Option (Int32 × AHp)) (hk8 : ∀ (x1 : Int32) (x2 : Int32) (x3 : Int32) (h : AHp), WO tvI QX4_readSum (dd + 43) 8 [(0, .ref 33), (1, .int x1), (2, .int x2), (3, .int x3)] [] h (k8 x1 x2 x3 h)) (x1 : Int32) (x2 : Int32) (x3 : Int32) (h : AHp) : WO tvI QX4_readSum (dd + 43) 39 [(0, .ref 33), (1, .int x1), (2, .int x2), (3, .int x3)] [] h (m_X4_readSum_b_39 rec k8 x1 x2 x3 h) := by
  unfold m_X4_readSum_b_39
  refine z_aload_n dX4_readSum_39 0 rfl ?_
  refine z_getR (j := 1) fX4_9 kc_33 rfl rfl rfl (by decide) dX4_readSum_40 ?_
  refine z_callVI dX4_readSum_43 (M_X8_sign _) bX8_sign lX4_54 kc_1 rfl rfl (Nat.le_of_ble_eq_true rfl) (by omega) (fun r9 h10 => ?_)
  refine z_bipush (v := 43) dX4_readSum_46 (by decide) ?_
  refine z_ic_ne (tgt := 55) dX4_readSum_48 (by decide) ?_ ?_
  · refine z_iconst (v := 2) dX4_readSum_55 (by decide) ?_
    exact w_X4_readSum_b_56 rec hrec _ hk8 _ _ _ _ _
  · refine z_iconst (v := 1) dX4_readSum_51 (by decide) ?_
    refine z_goto (tgt := 56) dX4_readSum_52 (by decide) ?_
    exact w_X4_readSum_b_56 rec hrec _ hk8 _ _ _ _ _
set_option maxHeartbeats 4000000 in
set_option maxRecDepth 100000 in
theorem w_X4_readSum_b_8 {dd : Nat} (rec : Int32 → AHp → Option (Int32 × AHp)) (hrec : ∀ (x1 : Int32) (h : AHp), MI QX4_readSum (dd + 40) [.ref 33, .int x1] h (rec x1 h)) : ∀ (f : Nat) (x1 : Int32) (x2 : Int32) (x3 : Int32) (h : AHp), WO tvI QX4_readSum (dd + 43) 8 [(0, .ref 33), (1, .int x1), (2, .int x2), (3, .int x3)] [] h (m_X4_readSum_b_8 rec f x1 x2 x3 h) := by
  intro f
  induction f with
  | zero => intro x1 x2 x3 h; exact z_none
  | succ f ih =>
    intro x1 x2 x3 h
    rw [m_X4_readSum_b_8]
    refine z_iload_n dX4_readSum_8 3 rfl ?_
    refine z_sipush (v := 200) dX4_readSum_9 (by decide) ?_
    refine z_ic_ge (tgt := 87) dX4_readSum_12 (by decide) ?_ ?_
    · refine z_iload_n dX4_readSum_87 2 rfl ?_
      exact z_iret dX4_readSum_88 rfl
    · refine z_aload_n dX4_readSum_15 0 rfl ?_
      refine z_getR (j := 1) fX4_9 kc_33 rfl rfl rfl (by decide) dX4_readSum_16 ?_
      refine z_callVI dX4_readSum_19 (M_X8_sign _) bX8_sign lX4_54 kc_1 rfl rfl (Nat.le_of_ble_eq_true rfl) (by omega) (fun r11 h12 => ?_)
      refine z_bipush (v := 43) dX4_readSum_22 (by decide) ?_
      refine z_ic_eq (tgt := 39) dX4_readSum_24 (by decide) ?_ ?_
      · exact w_X4_readSum_b_39 rec hrec _ ih _ _ _ _
      · refine z_aload_n dX4_readSum_27 0 rfl ?_
        refine z_getR (j := 1) fX4_9 kc_33 rfl rfl rfl (by decide) dX4_readSum_28 ?_
        refine z_callVI dX4_readSum_31 (M_X8_sign _) bX8_sign lX4_54 kc_1 rfl rfl (Nat.le_of_ble_eq_true rfl) (by omega) (fun r13 h14 => ?_)
        refine z_bipush (v := 45) dX4_readSum_34 (by decide) ?_
        refine z_ic_ne (tgt := 87) dX4_readSum_36 (by decide) ?_ ?_
        · refine z_iload_n dX4_readSum_87 2 rfl ?_
          exact z_iret dX4_readSum_88 rfl
        · exact w_X4_readSum_b_39 rec hrec _ ih _ _ _ _
set_option maxHeartbeats 4000000 in
set_option maxRecDepth 100000 in
theorem w_X4_readSum_b {dd : Nat} (rec : Int32 → AHp → Option (Int32 × AHp)) (hrec : ∀ (x1 : Int32) (h : AHp), MI QX4_readSum (dd + 40) [.ref 33, .int x1] h (rec x1 h)) (x1 : Int32) (h : AHp) : WO tvI QX4_readSum (dd + 43) 0 [(0, .ref 33), (1, .int x1)] [] h (m_X4_readSum_b rec x1 h) := by
  unfold m_X4_readSum_b
  refine z_aload_n dX4_readSum_0 0 rfl ?_
  refine z_iload_n dX4_readSum_1 1 rfl ?_
  refine z_callVI dX4_readSum_2 (M_X4_readTerm_b rec hrec _ _) bX4_readTerm lX4_124 kc_33 rfl rfl (Nat.le_of_ble_eq_true rfl) (by omega) (fun r15 h16 => ?_)
  refine z_istore_n (lv2 := [(2, .int r15), (0, .ref 33), (1, .int x1)]) dX4_readSum_5 (Nat.le_of_ble_eq_true rfl) rfl ?_
  refine z_iconst (v := 0) dX4_readSum_6 (by decide) ?_
  refine z_istore_n (lv2 := [(3, .int 0), (2, .int r15), (0, .ref 33), (1, .int x1)]) dX4_readSum_7 (Nat.le_of_ble_eq_true rfl) rfl ?_
  exact z_sub [2, 3, 1, 0] rfl (w_X4_readSum_b_8 rec hrec FU _ _ _ _)
theorem M_X4_readSum_b {dd : Nat} (rec : Int32 → AHp → Option (Int32 × AHp)) (hrec : ∀ (x1 : Int32) (h : AHp), MI QX4_readSum (dd + 40) [.ref 33, .int x1] h (rec x1 h)) (x1 : Int32) (h : AHp) : MI QX4_readSum (dd + 43) [.ref 33, .int x1] h (m_X4_readSum_b rec x1 h) := MI.of (by decide) rfl rfl (Nat.le_of_ble_eq_true rfl) (w_X4_readSum_b rec hrec x1 h)
theorem M_X4_readSum : ∀ (f : Nat) (x1 : Int32) (h : AHp), MI QX4_readSum (3 * f + 40) [.ref 33, .int x1] h (m_X4_readSum f x1 h) := by
  intro f
  induction f with
  | zero => intro x1 h x0 h0 ho; cases ho
  | succ f ih =>
    intro x1 h
    rw [m_X4_readSum]
    have e := M_X4_readSum_b (dd := 3 * f) (m_X4_readSum f) ih x1 h
    rw [show 3 * (f + 1) + 40 = 3 * f + 43 from by omega]
    exact e
set_option maxHeartbeats 4000000 in
set_option maxRecDepth 100000 in
theorem w_X2_land_4 {j : Nat} (hj_j : isLaw j) : ∀ (f : Nat) (x2 : Int32) (x3 : Int32) (h : AHp), WO tvV QX2_land 0 4 [(0, .ref j), (2, .int x2), (3, .int x3)] [] h (m_X2_land_4 j f x2 x3 h) := by
  intro f
  induction f with
  | zero => intro x2 x3 h; exact z_none
  | succ f ih =>
    intro x2 x3 h
    rw [m_X2_land_4]
    refine z_iload_n dX2_land_4 2 rfl ?_
    refine z_sipush (v := 256) dX2_land_5 (by decide) ?_
    refine z_ic_ge (tgt := 65) dX2_land_8 (by decide) ?_ ?_
    · exact z_vret dX2_land_65 rfl
    · refine z_iload_n dX2_land_11 1 rfl ?_
      refine z_if_lt (tgt := 65) dX2_land_12 (by decide) ?_ ?_
      · exact z_vret dX2_land_65 rfl
      · refine z_iload_n dX2_land_15 1 rfl ?_
        refine z_sipush (v := 256) dX2_land_16 (by decide) ?_
        refine z_ic_ge (tgt := 65) dX2_land_19 (by decide) ?_ ?_
        · exact z_vret dX2_land_65 rfl
        · refine z_aload_n dX2_land_22 0 rfl ?_
          refine z_getR fX2_11 (law_k hj_j) rfl rfl (law_r0 hj_j) (Nat.succ_ne_zero _) dX2_land_23 ?_
          refine z_iload_n dX2_land_26 1 rfl ?_
          refine z_gd (fun g1 => ?_)
          refine z_iald (law_k0 hj_j) dX2_land_27 g1 ?_
          refine z_iconst (v := 4) dX2_land_28 (by decide) ?_
          refine z_ishr dX2_land_29 ?_
          refine z_iconst (v := 1) dX2_land_30 (by decide) ?_
          refine z_isub dX2_land_31 ?_
          refine z_istoreL (lv2 := fun v2 => [(4, .int v2), (0, .ref j), (2, .int x2), (3, .int x3)]) dX2_land_32 (Nat.le_of_ble_eq_true rfl) (fun _ => rfl) (fun v2 => ?_)
          refine z_aload_n dX2_land_34 1 rfl ?_
          refine z_getR fX2_11 (law_k hj_j) rfl rfl (law_r0 hj_j) (Nat.succ_ne_zero _) dX2_land_35 ?_
          refine z_iload_n dX2_land_38 2 rfl ?_
          refine z_aload_n dX2_land_39 1 rfl ?_
          refine z_getR fX2_11 (law_k hj_j) rfl rfl (law_r0 hj_j) (Nat.succ_ne_zero _) dX2_land_40 ?_
          refine z_iload_n dX2_land_43 2 rfl ?_
          refine z_gd (fun g3 => ?_)
          refine z_iald (law_k0 hj_j) dX2_land_44 g3 ?_
          refine z_bipush (v := 15) dX2_land_45 (by decide) ?_
          refine z_iand dX2_land_47 ?_
          refine z_aload_n dX2_land_48 1 rfl ?_
          refine z_getI fX2_33 (law_k hj_j) rfl dX2_land_49 ?_
          refine z_iconst (v := 4) dX2_land_52 (by decide) ?_
          refine z_ishl dX2_land_53 ?_
          refine z_ior dX2_land_54 ?_
          refine z_gd (fun g5 => ?_)
          refine z_iast (law_k0 hj_j) dX2_land_55 g5 ?_
          refine z_lh (fun h4 => ?_)
          refine z_iload dX2_land_56 0 rfl ?_
          refine z_istore_n (lv2 := [(2, .int v2), (4, .int v2), (0, .ref j), (3, .int x3)]) dX2_land_58 (Nat.le_of_ble_eq_true rfl) rfl ?_
          refine z_iincL (lv2 := fun v6 => [(3, .int v6), (2, .int v2), (4, .int v2), (0, .ref j)]) dX2_land_59 3 rfl rfl (Nat.le_of_ble_eq_true rfl) (fun _ => rfl) (fun v6 => ?_)
          refine z_goto (tgt := 4) dX2_land_62 (by decide) ?_
          exact z_sub [3, 1, 0] rfl (ih _ _ _)
set_option maxHeartbeats 4000000 in
set_option maxRecDepth 100000 in
theorem w_X2_land {j : Nat} (hj_j : isLaw j) (x1 : Int32) (h : AHp) : WO tvV QX2_land 0 0 [(0, .ref j), (1, .int x1)] [] h (m_X2_land j x1 h) := by
  unfold m_X2_land
  refine z_iload_n dX2_land_0 1 rfl ?_
  refine z_istore_n (lv2 := [(2, .int x1), (0, .ref j), (1, .int x1)]) dX2_land_1 (Nat.le_of_ble_eq_true rfl) rfl ?_
  refine z_iconst (v := 0) dX2_land_2 (by decide) ?_
  refine z_istore_n (lv2 := [(3, .int 0), (2, .int x1), (0, .ref j), (1, .int x1)]) dX2_land_3 (Nat.le_of_ble_eq_true rfl) rfl ?_
  exact z_sub [2, 1, 0] rfl (w_X2_land_4 hj_j FU _ _ _)
theorem M_X2_land {j : Nat} (hj_j : isLaw j) (x1 : Int32) (h : AHp) : MV QX2_land 0 [.ref j, .int x1] h (m_X2_land j x1 h) := MV.of (by decide) rfl rfl (Nat.le_of_ble_eq_true rfl) (w_X2_land hj_j x1 h)
set_option maxHeartbeats 4000000 in
set_option maxRecDepth 100000 in
theorem w_X2_jump {j : Nat} (hj_j : isLaw j) (x1 : Int32) (x2 : Int32) (h : AHp) : WO tvI QX2_jump 0 0 [(0, .ref j), (1, .int x1), (2, .int x2)] [] h (m_X2_jump j x1 x2 h) := by
  unfold m_X2_jump
  refine z_aload_n dX2_jump_0 0 rfl ?_
  refine z_getI fX2_33 (law_k hj_j) rfl dX2_jump_1 ?_
  refine z_istore_nL (lv2 := fun v1 => [(3, .int v1), (0, .ref j), (1, .int x1), (2, .int x2)]) dX2_jump_4 (Nat.le_of_ble_eq_true rfl) (fun _ => rfl) (fun v1 => ?_)
  refine z_iload_n dX2_jump_5 0 rfl ?_
  refine z_sipush (v := 256) dX2_jump_6 (by decide) ?_
  refine z_ic_ge (tgt := 35) dX2_jump_9 (by decide) ?_ ?_
  · refine z_iload_n dX2_jump_35 0 rfl ?_
    exact z_iret dX2_jump_36 rfl
  · refine z_aload_n dX2_jump_12 1 rfl ?_
    refine z_getR fX2_11 (law_k hj_j) rfl rfl (law_r0 hj_j) (Nat.succ_ne_zero _) dX2_jump_13 ?_
    refine z_iload_n dX2_jump_16 0 rfl ?_
    refine z_iload_n dX2_jump_17 2 rfl ?_
    refine z_iload_n dX2_jump_18 3 rfl ?_
    refine z_iconst (v := 1) dX2_jump_19 (by decide) ?_
    refine z_iadd dX2_jump_20 ?_
    refine z_iconst (v := 4) dX2_jump_21 (by decide) ?_
    refine z_ishl dX2_jump_22 ?_
    refine z_ior dX2_jump_23 ?_
    refine z_gd (fun g3 => ?_)
    refine z_iast (law_k0 hj_j) dX2_jump_24 g3 ?_
    refine z_lh (fun h2 => ?_)
    refine z_aload_n dX2_jump_25 1 rfl ?_
    refine z_dup dX2_jump_26 rfl ?_
    refine z_getI fX2_33 (law_k hj_j) rfl dX2_jump_27 ?_
    refine z_iconst (v := 1) dX2_jump_30 (by decide) ?_
    refine z_iadd dX2_jump_31 ?_
    refine z_putI fX2_33 (law_k hj_j) rfl dX2_jump_32 ?_
    refine z_lh (fun h4 => ?_)
    refine z_iload_n dX2_jump_35 0 rfl ?_
    exact z_iret dX2_jump_36 rfl
theorem M_X2_jump {j : Nat} (hj_j : isLaw j) (x1 : Int32) (x2 : Int32) (h : AHp) : MI QX2_jump 0 [.ref j, .int x1, .int x2] h (m_X2_jump j x1 x2 h) := MI.of (by decide) rfl rfl (Nat.le_of_ble_eq_true rfl) (w_X2_jump hj_j x1 x2 h)
set_option maxHeartbeats 4000000 in
set_option maxRecDepth 100000 in
theorem w_X4_readPart_b_9 {dd : Nat} (rec : Int32 → AHp → Option (Unit × AHp)) (hrec : ∀ (x1 : Int32) (h : AHp), MV QX4_readPiece (dd + 80) [.ref 33, .int x1] h (rec x1 h)) : ∀ (f : Nat) (x1 : Int32) (x2 : Int32) (x3 : Int32) (h : AHp), WO tvV QX4_readPart (dd + 81) 9 [(0, .ref 33), (1, .int x1), (2, .int x2), (3, .int x3)] [] h (m_X4_readPart_b_9 rec f x1 x2 x3 h) := by
  intro f
  induction f with
  | zero => intro x1 x2 x3 h; exact z_none
  | succ f ih =>
    intro x1 x2 x3 h
    rw [m_X4_readPart_b_9]
    refine z_iload_n dX4_readPart_9 3 rfl ?_
    refine z_sipush (v := 200) dX4_readPart_10 (by decide) ?_
    refine z_ic_ge (tgt := 50) dX4_readPart_13 (by decide) ?_ ?_
    · refine z_aload_n dX4_readPart_50 0 rfl ?_
      refine z_gd (fun g1 => ?_)
      refine z_getM fX4_18 kc_33 rfl rfl (law_ne g1) dX4_readPart_51 ?_
      refine z_iload_n dX4_readPart_54 2 rfl ?_
      refine z_callVV dX4_readPart_55 (M_X2_land g1 _ _) bX2_land lX4_111 (law_k g1) rfl rfl (Nat.le_of_ble_eq_true rfl) (by omega) (fun r2 h3 => ?_)
      exact z_vret dX4_readPart_58 rfl
    · refine z_aload_n dX4_readPart_16 0 rfl ?_
      refine z_getR (j := 1) fX4_9 kc_33 rfl rfl rfl (by decide) dX4_readPart_17 ?_
      refine z_bipush (v := 38) dX4_readPart_20 (by decide) ?_
      refine z_callVI dX4_readPart_22 (M_X8_takes _ _) bX8_takes lX4_47 kc_1 rfl rfl (Nat.le_of_ble_eq_true rfl) (by omega) (fun r4 h5 => ?_)
      refine z_if_eq (tgt := 50) dX4_readPart_25 (by decide) ?_ ?_
      · refine z_aload_n dX4_readPart_50 0 rfl ?_
        refine z_gd (fun g6 => ?_)
        refine z_getM fX4_18 kc_33 rfl rfl (law_ne g6) dX4_readPart_51 ?_
        refine z_iload_n dX4_readPart_54 2 rfl ?_
        refine z_callVV dX4_readPart_55 (M_X2_land g6 _ _) bX2_land lX4_111 (law_k g6) rfl rfl (Nat.le_of_ble_eq_true rfl) (by omega) (fun r7 h8 => ?_)
        exact z_vret dX4_readPart_58 rfl
      · refine z_aload_n dX4_readPart_28 0 rfl ?_
        refine z_gd (fun g9 => ?_)
        refine z_getM fX4_18 kc_33 rfl rfl (law_ne g9) dX4_readPart_29 ?_
        refine z_bipush (v := 11) dX4_readPart_32 (by decide) ?_
        refine z_iload_n dX4_readPart_34 2 rfl ?_
        refine z_callVI dX4_readPart_35 (M_X2_jump g9 _ _ _) bX2_jump lX4_108 (law_k g9) rfl rfl (Nat.le_of_ble_eq_true rfl) (by omega) (fun r10 h11 => ?_)
        refine z_istore_n (lv2 := [(2, .int r10), (0, .ref 33), (1, .int x1), (3, .int x3)]) dX4_readPart_38 (Nat.le_of_ble_eq_true rfl) rfl ?_
        refine z_aload_n dX4_readPart_39 1 rfl ?_
        refine z_iload_n dX4_readPart_40 2 rfl ?_
        refine z_callVV dX4_readPart_41 (hrec _ _) bX4_readPiece lX4_114 kc_33 rfl rfl (Nat.le_of_ble_eq_true rfl) (by omega) (fun r12 h13 => ?_)
        refine z_iincL (lv2 := fun v14 => [(3, .int v14), (2, .int r10), (0, .ref 33), (1, .int x1)]) dX4_readPart_44 3 rfl rfl (Nat.le_of_ble_eq_true rfl) (fun _ => rfl) (fun v14 => ?_)
        refine z_goto (tgt := 9) dX4_readPart_47 (by decide) ?_
        exact z_sub [2, 3, 1, 0] rfl (ih _ _ _ _)
set_option maxHeartbeats 4000000 in
set_option maxRecDepth 100000 in
theorem w_X4_readPart_b {dd : Nat} (rec : Int32 → AHp → Option (Unit × AHp)) (hrec : ∀ (x1 : Int32) (h : AHp), MV QX4_readPiece (dd + 80) [.ref 33, .int x1] h (rec x1 h)) (x1 : Int32) (h : AHp) : WO tvV QX4_readPart (dd + 81) 0 [(0, .ref 33), (1, .int x1)] [] h (m_X4_readPart_b rec x1 h) := by
  unfold m_X4_readPart_b
  refine z_iconst (v := -1) dX4_readPart_0 (by decide) ?_
  refine z_istore_n (lv2 := [(2, .int (-1)), (0, .ref 33), (1, .int x1)]) dX4_readPart_1 (Nat.le_of_ble_eq_true rfl) rfl ?_
  refine z_aload_n dX4_readPart_2 1 rfl ?_
  refine z_iload_n dX4_readPart_3 2 rfl ?_
  refine z_callVV dX4_readPart_4 (hrec _ _) bX4_readPiece lX4_114 kc_33 rfl rfl (Nat.le_of_ble_eq_true rfl) (by omega) (fun r15 h16 => ?_)
  refine z_iconst (v := 0) dX4_readPart_7 (by decide) ?_
  refine z_istore_n (lv2 := [(3, .int 0), (2, .int (-1)), (0, .ref 33), (1, .int x1)]) dX4_readPart_8 (Nat.le_of_ble_eq_true rfl) rfl ?_
  exact z_sub [2, 3, 1, 0] rfl (w_X4_readPart_b_9 rec hrec FU _ _ _ _)
theorem M_X4_readPart_b {dd : Nat} (rec : Int32 → AHp → Option (Unit × AHp)) (hrec : ∀ (x1 : Int32) (h : AHp), MV QX4_readPiece (dd + 80) [.ref 33, .int x1] h (rec x1 h)) (x1 : Int32) (h : AHp) : MV QX4_readPart (dd + 81) [.ref 33, .int x1] h (m_X4_readPart_b rec x1 h) := MV.of (by decide) rfl rfl (Nat.le_of_ble_eq_true rfl) (w_X4_readPart_b rec hrec x1 h)
set_option maxHeartbeats 4000000 in
set_option maxRecDepth 100000 in
theorem w_X4_readCondition_b_9 {dd : Nat} (rec : Int32 → AHp → Option (Unit × AHp)) (hrec : ∀ (x1 : Int32) (h : AHp), MV QX4_readPiece (dd + 80) [.ref 33, .int x1] h (rec x1 h)) : ∀ (f : Nat) (x1 : Int32) (x2 : Int32) (x3 : Int32) (h : AHp), WO tvV QX4_readCondition (dd + 82) 9 [(0, .ref 33), (1, .int x1), (2, .int x2), (3, .int x3)] [] h (m_X4_readCondition_b_9 rec f x1 x2 x3 h) := by
  intro f
  induction f with
  | zero => intro x1 x2 x3 h; exact z_none
  | succ f ih =>
    intro x1 x2 x3 h
    rw [m_X4_readCondition_b_9]
    refine z_iload_n dX4_readCondition_9 3 rfl ?_
    refine z_sipush (v := 200) dX4_readCondition_10 (by decide) ?_
    refine z_ic_ge (tgt := 50) dX4_readCondition_13 (by decide) ?_ ?_
    · refine z_aload_n dX4_readCondition_50 0 rfl ?_
      refine z_gd (fun g1 => ?_)
      refine z_getM fX4_18 kc_33 rfl rfl (law_ne g1) dX4_readCondition_51 ?_
      refine z_iload_n dX4_readCondition_54 2 rfl ?_
      refine z_callVV dX4_readCondition_55 (M_X2_land g1 _ _) bX2_land lX4_111 (law_k g1) rfl rfl (Nat.le_of_ble_eq_true rfl) (by omega) (fun r2 h3 => ?_)
      exact z_vret dX4_readCondition_58 rfl
    · refine z_aload_n dX4_readCondition_16 0 rfl ?_
      refine z_getR (j := 1) fX4_9 kc_33 rfl rfl rfl (by decide) dX4_readCondition_17 ?_
      refine z_bipush (v := 124) dX4_readCondition_20 (by decide) ?_
      refine z_callVI dX4_readCondition_22 (M_X8_takes _ _) bX8_takes lX4_47 kc_1 rfl rfl (Nat.le_of_ble_eq_true rfl) (by omega) (fun r4 h5 => ?_)
      refine z_if_eq (tgt := 50) dX4_readCondition_25 (by decide) ?_ ?_
      · refine z_aload_n dX4_readCondition_50 0 rfl ?_
        refine z_gd (fun g6 => ?_)
        refine z_getM fX4_18 kc_33 rfl rfl (law_ne g6) dX4_readCondition_51 ?_
        refine z_iload_n dX4_readCondition_54 2 rfl ?_
        refine z_callVV dX4_readCondition_55 (M_X2_land g6 _ _) bX2_land lX4_111 (law_k g6) rfl rfl (Nat.le_of_ble_eq_true rfl) (by omega) (fun r7 h8 => ?_)
        exact z_vret dX4_readCondition_58 rfl
      · refine z_aload_n dX4_readCondition_28 0 rfl ?_
        refine z_gd (fun g9 => ?_)
        refine z_getM fX4_18 kc_33 rfl rfl (law_ne g9) dX4_readCondition_29 ?_
        refine z_bipush (v := 10) dX4_readCondition_32 (by decide) ?_
        refine z_iload_n dX4_readCondition_34 2 rfl ?_
        refine z_callVI dX4_readCondition_35 (M_X2_jump g9 _ _ _) bX2_jump lX4_108 (law_k g9) rfl rfl (Nat.le_of_ble_eq_true rfl) (by omega) (fun r10 h11 => ?_)
        refine z_istore_n (lv2 := [(2, .int r10), (0, .ref 33), (1, .int x1), (3, .int x3)]) dX4_readCondition_38 (Nat.le_of_ble_eq_true rfl) rfl ?_
        refine z_aload_n dX4_readCondition_39 1 rfl ?_
        refine z_iload_n dX4_readCondition_40 2 rfl ?_
        refine z_callVV dX4_readCondition_41 (M_X4_readPart_b rec hrec _ _) bX4_readPart lX4_105 kc_33 rfl rfl (Nat.le_of_ble_eq_true rfl) (by omega) (fun r12 h13 => ?_)
        refine z_iincL (lv2 := fun v14 => [(3, .int v14), (2, .int r10), (0, .ref 33), (1, .int x1)]) dX4_readCondition_44 3 rfl rfl (Nat.le_of_ble_eq_true rfl) (fun _ => rfl) (fun v14 => ?_)
        refine z_goto (tgt := 9) dX4_readCondition_47 (by decide) ?_
        exact z_sub [2, 3, 1, 0] rfl (ih _ _ _ _)
set_option maxHeartbeats 4000000 in
set_option maxRecDepth 100000 in
theorem w_X4_readCondition_b {dd : Nat} (rec : Int32 → AHp → Option (Unit × AHp)) (hrec : ∀ (x1 : Int32) (h : AHp), MV QX4_readPiece (dd + 80) [.ref 33, .int x1] h (rec x1 h)) (x1 : Int32) (h : AHp) : WO tvV QX4_readCondition (dd + 82) 0 [(0, .ref 33), (1, .int x1)] [] h (m_X4_readCondition_b rec x1 h) := by
  unfold m_X4_readCondition_b
  refine z_iconst (v := -1) dX4_readCondition_0 (by decide) ?_
  refine z_istore_n (lv2 := [(2, .int (-1)), (0, .ref 33), (1, .int x1)]) dX4_readCondition_1 (Nat.le_of_ble_eq_true rfl) rfl ?_
  refine z_aload_n dX4_readCondition_2 1 rfl ?_
  refine z_iload_n dX4_readCondition_3 2 rfl ?_
  refine z_callVV dX4_readCondition_4 (M_X4_readPart_b rec hrec _ _) bX4_readPart lX4_105 kc_33 rfl rfl (Nat.le_of_ble_eq_true rfl) (by omega) (fun r15 h16 => ?_)
  refine z_iconst (v := 0) dX4_readCondition_7 (by decide) ?_
  refine z_istore_n (lv2 := [(3, .int 0), (2, .int (-1)), (0, .ref 33), (1, .int x1)]) dX4_readCondition_8 (Nat.le_of_ble_eq_true rfl) rfl ?_
  exact z_sub [2, 3, 1, 0] rfl (w_X4_readCondition_b_9 rec hrec FU _ _ _ _)
theorem M_X4_readCondition_b {dd : Nat} (rec : Int32 → AHp → Option (Unit × AHp)) (hrec : ∀ (x1 : Int32) (h : AHp), MV QX4_readPiece (dd + 80) [.ref 33, .int x1] h (rec x1 h)) (x1 : Int32) (h : AHp) : MV QX4_readCondition (dd + 82) [.ref 33, .int x1] h (m_X4_readCondition_b rec x1 h) := MV.of (by decide) rfl rfl (Nat.le_of_ble_eq_true rfl) (w_X4_readCondition_b rec hrec x1 h)
set_option maxHeartbeats 4000000 in
set_option maxRecDepth 100000 in
theorem w_X4_comparison (x0 : Int32) (h : AHp) : WO tvI QX4_comparison 0 0 [(0, .int x0)] [] h (m_X4_comparison x0 h) := by
  unfold m_X4_comparison
  refine z_iload_n dX4_comparison_0 0 rfl ?_
  refine z_ite (fun c1 => ?_) (fun c1 => ?_)
  · refine z_tin (tgt := 28) (off := 27) dX4_comparison_1 (by rw [c1]; decide) (by rw [c1]; decide) (by rw [c1]; decide) (by decide) ?_
    refine z_bipush (v := 6) dX4_comparison_28 (by decide) ?_
    exact z_iret dX4_comparison_30 rfl
  · refine z_ite (fun c2 => ?_) (fun c2 => ?_)
    · refine z_tin (tgt := 34) (off := 33) dX4_comparison_1 (by rw [c2]; decide) (by rw [c2]; decide) (by rw [c2]; decide) (by decide) ?_
      refine z_bipush (v := 8) dX4_comparison_34 (by decide) ?_
      exact z_iret dX4_comparison_36 rfl
    · refine z_ite (fun c3 => ?_) (fun c3 => ?_)
      · refine z_tin (tgt := 31) (off := 30) dX4_comparison_1 (by rw [c3]; decide) (by rw [c3]; decide) (by rw [c3]; decide) (by decide) ?_
        refine z_bipush (v := 7) dX4_comparison_31 (by decide) ?_
        exact z_iret dX4_comparison_33 rfl
      · refine z_tout (tgt := 37) dX4_comparison_1 (by have a0 := n32 (k := 60) c1 rfl; have a1 := n32 (k := 61) c2 rfl; have a2 := n32 (k := 62) c3 rfl; omega) (by decide) ?_
        refine z_iconst (v := -1) dX4_comparison_37 (by decide) ?_
        exact z_iret dX4_comparison_38 rfl
theorem M_X4_comparison (x0 : Int32) (h : AHp) : MI QX4_comparison 0 [.int x0] h (m_X4_comparison x0 h) := MI.of (by decide) rfl rfl (Nat.le_of_ble_eq_true rfl) (w_X4_comparison x0 h)
set_option maxHeartbeats 4000000 in
set_option maxRecDepth 100000 in
theorem w_X4_readPiece_b_77 {dd : Nat} (rec : Int32 → AHp → Option (Unit × AHp)) (hrec : ∀ (x1 : Int32) (h : AHp), MV QX4_readPiece (dd + 80) [.ref 33, .int x1] h (rec x1 h)) (x1 : Int32) (x2 : Int32) (h : AHp) : WO tvV QX4_readPiece (dd + 83) 77 [(0, .ref 33), (1, .int x1), (2, .int x2)] [] h (m_X4_readPiece_b_77 rec x1 x2 h) := by
  unfold m_X4_readPiece_b_77
  refine z_iload_n dX4_readPiece_77 1 rfl ?_
  refine z_bipush (v := 6) dX4_readPiece_78 (by decide) ?_
  refine z_ic_lt (tgt := 92) dX4_readPiece_80 (by decide) ?_ ?_
  · refine z_aload_n dX4_readPiece_92 0 rfl ?_
    refine z_getR (j := 1) fX4_9 kc_33 rfl rfl rfl (by decide) dX4_readPiece_93 ?_
    refine z_callVV dX4_readPiece_96 (M_X8_step _) bX8_step lX4_71 kc_1 rfl rfl (Nat.le_of_ble_eq_true rfl) (by omega) (fun r1 h2 => ?_)
    refine z_iload_n dX4_readPiece_99 2 rfl ?_
    refine z_bipush (v := 33) dX4_readPiece_100 (by decide) ?_
    refine z_ic_ne (tgt := 127) dX4_readPiece_102 (by decide) ?_ ?_
    · refine z_aload_n dX4_readPiece_127 0 rfl ?_
      refine z_iload_n dX4_readPiece_128 1 rfl ?_
      refine z_iconst (v := 1) dX4_readPiece_129 (by decide) ?_
      refine z_iadd dX4_readPiece_130 ?_
      refine z_callVV dX4_readPiece_131 (M_X4_readCondition_b rec hrec _ _) bX4_readCondition lX4_99 kc_33 rfl rfl (Nat.le_of_ble_eq_true rfl) (by omega) (fun r3 h4 => ?_)
      refine z_aload_n dX4_readPiece_134 0 rfl ?_
      refine z_getR (j := 1) fX4_9 kc_33 rfl rfl rfl (by decide) dX4_readPiece_135 ?_
      refine z_bipush (v := 41) dX4_readPiece_138 (by decide) ?_
      refine z_callVV dX4_readPiece_140 (M_X8_expect _ _) bX8_expect lX4_74 kc_1 rfl rfl (Nat.le_of_ble_eq_true rfl) (by omega) (fun r5 h6 => ?_)
      exact z_vret dX4_readPiece_143 rfl
    · refine z_aload_n dX4_readPiece_105 0 rfl ?_
      refine z_iload_n dX4_readPiece_106 1 rfl ?_
      refine z_iconst (v := 1) dX4_readPiece_107 (by decide) ?_
      refine z_iadd dX4_readPiece_108 ?_
      refine z_callVV dX4_readPiece_109 (hrec _ _) bX4_readPiece lX4_114 kc_33 rfl rfl (Nat.le_of_ble_eq_true rfl) (by omega) (fun r7 h8 => ?_)
      refine z_aload_n dX4_readPiece_112 0 rfl ?_
      refine z_gd (fun g9 => ?_)
      refine z_getM fX4_18 kc_33 rfl rfl (law_ne g9) dX4_readPiece_113 ?_
      refine z_bipush (v := 9) dX4_readPiece_116 (by decide) ?_
      refine z_iconst (v := 0) dX4_readPiece_118 (by decide) ?_
      refine z_iconst (v := 0) dX4_readPiece_119 (by decide) ?_
      refine z_callVI dX4_readPiece_120 (M_X2_emit g9 _ _ _ _) bX2_emit lX4_120 (law_k g9) rfl rfl (Nat.le_of_ble_eq_true rfl) (by omega) (fun r10 h11 => ?_)
      refine z_pop dX4_readPiece_123 rfl ?_
      refine z_goto (tgt := 143) dX4_readPiece_124 (by decide) ?_
      exact z_vret dX4_readPiece_143 rfl
  · refine z_aload_n dX4_readPiece_83 0 rfl ?_
    refine z_getR (j := 1) fX4_9 kc_33 rfl rfl rfl (by decide) dX4_readPiece_84 ?_
    refine z_iconst (v := 5) dX4_readPiece_87 (by decide) ?_
    refine z_callVV dX4_readPiece_88 (M_X8_fail _ _) bX8_fail lX4_68 kc_1 rfl rfl (Nat.le_of_ble_eq_true rfl) (by omega) (fun r12 h13 => ?_)
    exact z_vret dX4_readPiece_91 rfl
set_option maxHeartbeats 4000000 in
set_option maxRecDepth 100000 in
theorem w_X4_readPiece_b {dd : Nat} (rec : Int32 → AHp → Option (Unit × AHp)) (hrec : ∀ (x1 : Int32) (h : AHp), MV QX4_readPiece (dd + 80) [.ref 33, .int x1] h (rec x1 h)) (x1 : Int32) (h : AHp) : WO tvV QX4_readPiece (dd + 83) 0 [(0, .ref 33), (1, .int x1)] [] h (m_X4_readPiece_b rec x1 h) := by
  unfold m_X4_readPiece_b
  refine z_aload_n dX4_readPiece_0 0 rfl ?_
  refine z_getR (j := 1) fX4_9 kc_33 rfl rfl rfl (by decide) dX4_readPiece_1 ?_
  refine z_callVI dX4_readPiece_4 (M_X8_sign _) bX8_sign lX4_54 kc_1 rfl rfl (Nat.le_of_ble_eq_true rfl) (by omega) (fun r14 h15 => ?_)
  refine z_istore_n (lv2 := [(2, .int r14), (0, .ref 33), (1, .int x1)]) dX4_readPiece_7 (Nat.le_of_ble_eq_true rfl) rfl ?_
  refine z_iload_n dX4_readPiece_8 0 rfl ?_
  refine z_bipush (v := 33) dX4_readPiece_9 (by decide) ?_
  refine z_ic_eq (tgt := 77) dX4_readPiece_11 (by decide) ?_ ?_
  · exact z_sub [1, 2, 0] rfl (w_X4_readPiece_b_77 rec hrec _ _ _)
  · refine z_iload_n dX4_readPiece_14 0 rfl ?_
    refine z_bipush (v := 40) dX4_readPiece_15 (by decide) ?_
    refine z_ic_eq (tgt := 77) dX4_readPiece_17 (by decide) ?_ ?_
    · exact z_sub [1, 2, 0] rfl (w_X4_readPiece_b_77 rec hrec _ _ _)
    · refine z_aload_n dX4_readPiece_20 1 rfl ?_
      refine z_iload_n dX4_readPiece_21 2 rfl ?_
      refine z_callVI dX4_readPiece_22 (M_X4_readSum 10 _ _) bX4_readSum lX4_93 kc_33 rfl rfl (Nat.le_of_ble_eq_true rfl) (by omega) (fun r16 h17 => ?_)
      refine z_istore_n (lv2 := [(3, .int r16), (2, .int r14), (0, .ref 33), (1, .int x1)]) dX4_readPiece_25 (Nat.le_of_ble_eq_true rfl) rfl ?_
      refine z_aload_n dX4_readPiece_26 2 rfl ?_
      refine z_getR (j := 1) fX4_9 kc_33 rfl rfl rfl (by decide) dX4_readPiece_27 ?_
      refine z_callVI dX4_readPiece_30 (M_X8_sign _) bX8_sign lX4_54 kc_1 rfl rfl (Nat.le_of_ble_eq_true rfl) (by omega) (fun r18 h19 => ?_)
      refine z_callSI dX4_readPiece_33 (M_X4_comparison _ _) bX4_comparison lX4_117 rfl rfl (Nat.le_of_ble_eq_true rfl) (by omega) (fun r20 h21 => ?_)
      refine z_istore (lv2 := [(4, .int r20), (3, .int r16), (2, .int r14), (0, .ref 33), (1, .int x1)]) dX4_readPiece_36 (Nat.le_of_ble_eq_true rfl) rfl ?_
      refine z_iload dX4_readPiece_38 0 rfl ?_
      refine z_iconst (v := -1) dX4_readPiece_40 (by decide) ?_
      refine z_ic_ne (tgt := 53) dX4_readPiece_41 (by decide) ?_ ?_
      · refine z_aload_n dX4_readPiece_53 3 rfl ?_
        refine z_getR (j := 1) fX4_9 kc_33 rfl rfl rfl (by decide) dX4_readPiece_54 ?_
        refine z_callVV dX4_readPiece_57 (M_X8_step _) bX8_step lX4_71 kc_1 rfl rfl (Nat.le_of_ble_eq_true rfl) (by omega) (fun r22 h23 => ?_)
        refine z_aload_n dX4_readPiece_60 3 rfl ?_
        refine z_gd (fun g24 => ?_)
        refine z_getM fX4_18 kc_33 rfl rfl (law_ne g24) dX4_readPiece_61 ?_
        refine z_iload dX4_readPiece_64 0 rfl ?_
        refine z_iload_n dX4_readPiece_66 1 rfl ?_
        refine z_aload_n dX4_readPiece_67 3 rfl ?_
        refine z_iload_n dX4_readPiece_68 4 rfl ?_
        refine z_callVI dX4_readPiece_69 (M_X4_readSum 10 _ _) bX4_readSum lX4_93 kc_33 rfl rfl (Nat.le_of_ble_eq_true rfl) (by omega) (fun r25 h26 => ?_)
        refine z_callVI dX4_readPiece_72 (M_X2_emit g24 _ _ _ _) bX2_emit lX4_120 (law_k g24) rfl rfl (Nat.le_of_ble_eq_true rfl) (by omega) (fun r27 h28 => ?_)
        refine z_pop dX4_readPiece_75 rfl ?_
        exact z_vret dX4_readPiece_76 rfl
      · refine z_aload_n dX4_readPiece_44 3 rfl ?_
        refine z_getR (j := 1) fX4_9 kc_33 rfl rfl rfl (by decide) dX4_readPiece_45 ?_
        refine z_iconst (v := 1) dX4_readPiece_48 (by decide) ?_
        refine z_callVV dX4_readPiece_49 (M_X8_fail _ _) bX8_fail lX4_68 kc_1 rfl rfl (Nat.le_of_ble_eq_true rfl) (by omega) (fun r29 h30 => ?_)
        exact z_vret dX4_readPiece_52 rfl
theorem M_X4_readPiece_b {dd : Nat} (rec : Int32 → AHp → Option (Unit × AHp)) (hrec : ∀ (x1 : Int32) (h : AHp), MV QX4_readPiece (dd + 80) [.ref 33, .int x1] h (rec x1 h)) (x1 : Int32) (h : AHp) : MV QX4_readPiece (dd + 83) [.ref 33, .int x1] h (m_X4_readPiece_b rec x1 h) := MV.of (by decide) rfl rfl (Nat.le_of_ble_eq_true rfl) (w_X4_readPiece_b rec hrec x1 h)
theorem M_X4_readPiece : ∀ (f : Nat) (x1 : Int32) (h : AHp), MV QX4_readPiece (3 * f + 80) [.ref 33, .int x1] h (m_X4_readPiece f x1 h) := by
  intro f
  induction f with
  | zero => intro x1 h x0 h0 ho; cases ho
  | succ f ih =>
    intro x1 h
    rw [m_X4_readPiece]
    have e := M_X4_readPiece_b (dd := 3 * f) (m_X4_readPiece f) ih x1 h
    rw [show 3 * (f + 1) + 80 = 3 * f + 83 from by omega]
    exact e
set_option maxHeartbeats 4000000 in
set_option maxRecDepth 100000 in
theorem w_X8_append_3 : ∀ (f : Nat) (x1 : Int32) (x2 : Int32) (h : AHp), WO tvV QX8_append 0 3 [(0, .ref 1), (1, .int x1), (2, .int x2)] [] h (m_X8_append_3 f x1 x2 h) := by
  intro f
  induction f with
  | zero => intro x1 x2 h; exact z_none
  | succ f ih =>
    intro x1 x2 h
    rw [m_X8_append_3]
    refine z_iload_n dX8_append_3 2 rfl ?_
    refine z_if_lt (tgt := 51) dX8_append_4 (by decide) ?_ ?_
    · exact z_vret dX8_append_51 rfl
    · refine z_aload_n dX8_append_7 0 rfl ?_
      refine z_getI fX8_15 kc_1 rfl dX8_append_8 ?_
      refine z_aload_n dX8_append_11 0 rfl ?_
      refine z_getR (j := 2) fX8_9 kc_1 rfl rfl rfl (by decide) dX8_append_12 ?_
      refine z_alen (v := 220) kc_2 (by decide) (by decide) dX8_append_15 ?_
      refine z_ic_ge (tgt := 45) dX8_append_16 (by decide) ?_ ?_
      · refine z_iincL (lv2 := fun v1 => [(2, .int v1), (0, .ref 1), (1, .int x1)]) dX8_append_45 2 rfl rfl (Nat.le_of_ble_eq_true rfl) (fun _ => rfl) (fun v1 => ?_)
        refine z_goto (tgt := 3) dX8_append_48 (by decide) ?_
        exact z_sub [1, 2, 0] rfl (ih _ _ _)
      · refine z_aload_n dX8_append_19 0 rfl ?_
        refine z_getR (j := 2) fX8_9 kc_1 rfl rfl rfl (by decide) dX8_append_20 ?_
        refine z_aload_n dX8_append_23 0 rfl ?_
        refine z_getI fX8_15 kc_1 rfl dX8_append_24 ?_
        refine z_iload_n dX8_append_27 1 rfl ?_
        refine z_iload_n dX8_append_28 2 rfl ?_
        refine z_ishr dX8_append_29 ?_
        refine z_sipush (v := 255) dX8_append_30 (by decide) ?_
        refine z_iand dX8_append_33 ?_
        refine z_gd (fun g3 => ?_)
        refine z_iast kc_2 dX8_append_34 g3 ?_
        refine z_lh (fun h2 => ?_)
        refine z_aload_n dX8_append_35 0 rfl ?_
        refine z_dup dX8_append_36 rfl ?_
        refine z_getI fX8_15 kc_1 rfl dX8_append_37 ?_
        refine z_iconst (v := 1) dX8_append_40 (by decide) ?_
        refine z_iadd dX8_append_41 ?_
        refine z_putI fX8_15 kc_1 rfl dX8_append_42 ?_
        refine z_lh (fun h4 => ?_)
        refine z_iincL (lv2 := fun v5 => [(2, .int v5), (0, .ref 1), (1, .int x1)]) dX8_append_45 2 rfl rfl (Nat.le_of_ble_eq_true rfl) (fun _ => rfl) (fun v5 => ?_)
        refine z_goto (tgt := 3) dX8_append_48 (by decide) ?_
        exact z_sub [1, 2, 0] rfl (ih _ _ _)
set_option maxHeartbeats 4000000 in
set_option maxRecDepth 100000 in
theorem w_X8_append (x1 : Int32) (h : AHp) : WO tvV QX8_append 0 0 [(0, .ref 1), (1, .int x1)] [] h (m_X8_append x1 h) := by
  unfold m_X8_append
  refine z_bipush (v := 24) dX8_append_0 (by decide) ?_
  refine z_istore_n (lv2 := [(2, .int 24), (0, .ref 1), (1, .int x1)]) dX8_append_2 (Nat.le_of_ble_eq_true rfl) rfl ?_
  exact z_sub [1, 2, 0] rfl (w_X8_append_3 FU _ _ _)
theorem M_X8_append (x1 : Int32) (h : AHp) : MV QX8_append 0 [.ref 1, .int x1] h (m_X8_append x1 h) := MV.of (by decide) rfl rfl (Nat.le_of_ble_eq_true rfl) (w_X8_append x1 h)
set_option maxHeartbeats 4000000 in
set_option maxRecDepth 100000 in
theorem w_X11_feed (x1 : Int32) (x2 : Int32) (x3 : Int32) (x4 : Int32) (x5 : Int32) (h : AHp) : WO tvI QX11_feed 1 0 [(0, .ref 0), (1, .int x1), (2, .int x2), (3, .int x3), (4, .int x4), (5, .int x5)] [] h (m_X11_feed x1 x2 x3 x4 x5 h) := by
  unfold m_X11_feed
  refine z_aload_n dX11_feed_0 0 rfl ?_
  refine z_getR (j := 1) fX11_18 kc_0 rfl rfl rfl (by decide) dX11_feed_1 ?_
  refine z_getIN fX11_92 kc_1 rfl dX11_feed_4 ?_
  refine z_bipush (v := 20) dX11_feed_7 (by decide) ?_
  refine z_iadd dX11_feed_9 ?_
  refine z_sipush (v := 220) dX11_feed_10 (by decide) ?_
  refine z_ic_le (tgt := 18) dX11_feed_13 (by decide) ?_ ?_
  · refine z_aload_n dX11_feed_18 0 rfl ?_
    refine z_getR (j := 1) fX11_18 kc_0 rfl rfl rfl (by decide) dX11_feed_19 ?_
    refine z_iload_n dX11_feed_22 1 rfl ?_
    refine z_callVV dX11_feed_23 (M_X8_append _ _) bX8_append lX11_95 kc_1 rfl rfl (Nat.le_of_ble_eq_true rfl) (Nat.le_of_ble_eq_true rfl) (fun r1 h2 => ?_)
    refine z_aload_n dX11_feed_26 0 rfl ?_
    refine z_getR (j := 1) fX11_18 kc_0 rfl rfl rfl (by decide) dX11_feed_27 ?_
    refine z_iload_n dX11_feed_30 2 rfl ?_
    refine z_callVV dX11_feed_31 (M_X8_append _ _) bX8_append lX11_95 kc_1 rfl rfl (Nat.le_of_ble_eq_true rfl) (Nat.le_of_ble_eq_true rfl) (fun r3 h4 => ?_)
    refine z_aload_n dX11_feed_34 0 rfl ?_
    refine z_getR (j := 1) fX11_18 kc_0 rfl rfl rfl (by decide) dX11_feed_35 ?_
    refine z_iload_n dX11_feed_38 3 rfl ?_
    refine z_callVV dX11_feed_39 (M_X8_append _ _) bX8_append lX11_95 kc_1 rfl rfl (Nat.le_of_ble_eq_true rfl) (Nat.le_of_ble_eq_true rfl) (fun r5 h6 => ?_)
    refine z_aload_n dX11_feed_42 0 rfl ?_
    refine z_getR (j := 1) fX11_18 kc_0 rfl rfl rfl (by decide) dX11_feed_43 ?_
    refine z_iload dX11_feed_46 4 rfl ?_
    refine z_callVV dX11_feed_48 (M_X8_append _ _) bX8_append lX11_95 kc_1 rfl rfl (Nat.le_of_ble_eq_true rfl) (Nat.le_of_ble_eq_true rfl) (fun r7 h8 => ?_)
    refine z_aload_n dX11_feed_51 0 rfl ?_
    refine z_getR (j := 1) fX11_18 kc_0 rfl rfl rfl (by decide) dX11_feed_52 ?_
    refine z_iload dX11_feed_55 5 rfl ?_
    refine z_callVV dX11_feed_57 (M_X8_append _ _) bX8_append lX11_95 kc_1 rfl rfl (Nat.le_of_ble_eq_true rfl) (Nat.le_of_ble_eq_true rfl) (fun r9 h10 => ?_)
    refine z_aload_n dX11_feed_60 0 rfl ?_
    refine z_getR (j := 1) fX11_18 kc_0 rfl rfl rfl (by decide) dX11_feed_61 ?_
    refine z_getIN fX11_92 kc_1 rfl dX11_feed_64 ?_
    exact z_iret dX11_feed_67 rfl
  · refine z_iconst (v := -1) dX11_feed_16 (by decide) ?_
    exact z_iret dX11_feed_17 rfl
theorem M_X11_feed (x1 : Int32) (x2 : Int32) (x3 : Int32) (x4 : Int32) (x5 : Int32) (h : AHp) : MI QX11_feed 1 [.ref 0, .int x1, .int x2, .int x3, .int x4, .int x5] h (m_X11_feed x1 x2 x3 x4 x5 h) := MI.of (by decide) rfl rfl (Nat.le_of_ble_eq_true rfl) (w_X11_feed x1 x2 x3 x4 x5 h)
