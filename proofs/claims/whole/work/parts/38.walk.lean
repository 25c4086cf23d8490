set_option maxHeartbeats 4000000 in
set_option maxRecDepth 100000 in
theorem w_X2_clear {j : Nat} (hj_j : isLaw j) (h : AHp) : WO tvV QX2_clear 0 0 [(0, .ref j)] [] h (m_X2_clear j h) := by
  unfold m_X2_clear
  refine z_aload_n dX2_clear_0 0 rfl ?_
  refine z_iconst (v := 0) dX2_clear_1 (by decide) ?_
  refine z_putI fX2_33 (law_k hj_j) rfl dX2_clear_2 ?_
  refine z_lh (fun h1 => ?_)
  refine z_aload_n dX2_clear_5 0 rfl ?_
  refine z_bipush (v := 9) dX2_clear_6 (by decide) ?_
  refine z_putI fX2_37 (law_k hj_j) rfl dX2_clear_8 ?_
  refine z_lh (fun h2 => ?_)
  refine z_aload_n dX2_clear_11 0 rfl ?_
  refine z_iconst (v := 0) dX2_clear_12 (by decide) ?_
  refine z_putI fX2_40 (law_k hj_j) rfl dX2_clear_13 ?_
  refine z_lh (fun h3 => ?_)
  refine z_aload_n dX2_clear_16 0 rfl ?_
  refine z_iconst (v := 0) dX2_clear_17 (by decide) ?_
  refine z_putI fX2_43 (law_k hj_j) rfl dX2_clear_18 ?_
  refine z_lh (fun h4 => ?_)
  exact z_vret dX2_clear_21 rfl
theorem M_X2_clear {j : Nat} (hj_j : isLaw j) (h : AHp) : MV QX2_clear 0 [.ref j] h (m_X2_clear j h) := MV.of (by decide) rfl rfl (Nat.le_of_ble_eq_true rfl) (w_X2_clear hj_j h)
set_option maxHeartbeats 4000000 in
set_option maxRecDepth 100000 in
theorem w_X2_openPrice {j : Nat} (hj_j : isLaw j) (h : AHp) : WO tvV QX2_openPrice 0 0 [(0, .ref j)] [] h (m_X2_openPrice j h) := by
  unfold m_X2_openPrice
  refine z_aload_n dX2_openPrice_0 0 rfl ?_
  refine z_getI fX2_40 (law_k hj_j) rfl dX2_openPrice_1 ?_
  refine z_bipush (v := 14) dX2_openPrice_4 (by decide) ?_
  refine z_ic_ge (tgt := 22) dX2_openPrice_6 (by decide) ?_ ?_
  · exact z_vret dX2_openPrice_22 rfl
  · refine z_aload_n dX2_openPrice_9 0 rfl ?_
    refine z_getR fX2_18 (law_k hj_j) rfl rfl (law_r2 hj_j) (Nat.succ_ne_zero _) dX2_openPrice_10 ?_
    refine z_aload_n dX2_openPrice_13 0 rfl ?_
    refine z_getI fX2_40 (law_k hj_j) rfl dX2_openPrice_14 ?_
    refine z_aload_n dX2_openPrice_17 0 rfl ?_
    refine z_getI fX2_33 (law_k hj_j) rfl dX2_openPrice_18 ?_
    refine z_gd (fun g2 => ?_)
    refine z_iast (law_k2 hj_j) dX2_openPrice_21 g2 ?_
    refine z_lh (fun h1 => ?_)
    exact z_vret dX2_openPrice_22 rfl
theorem M_X2_openPrice {j : Nat} (hj_j : isLaw j) (h : AHp) : MV QX2_openPrice 0 [.ref j] h (m_X2_openPrice j h) := MV.of (by decide) rfl rfl (Nat.le_of_ble_eq_true rfl) (w_X2_openPrice hj_j h)
set_option maxHeartbeats 4000000 in
set_option maxRecDepth 100000 in
theorem w_X2_closeClause_55 {j : Nat} (hj_j : isLaw j) (x1 : Int32) (h : AHp) : WO tvV QX2_closeClause 0 55 [(0, .ref j), (1, .int x1)] [] h (m_X2_closeClause_55 j x1 h) := by
  unfold m_X2_closeClause_55
  refine z_iload_n dX2_closeClause_55 1 rfl ?_
  refine z_iconst (v := -1) dX2_closeClause_56 (by decide) ?_
  refine z_ic_ne (tgt := 73) dX2_closeClause_57 (by decide) ?_ ?_
  · exact z_vret dX2_closeClause_73 rfl
  · refine z_aload_n dX2_closeClause_60 0 rfl ?_
    refine z_dup dX2_closeClause_61 rfl ?_
    refine z_getI fX2_43 (law_k hj_j) rfl dX2_closeClause_62 ?_
    refine z_aload_n dX2_closeClause_65 0 rfl ?_
    refine z_getI fX2_46 (law_k hj_j) rfl dX2_closeClause_66 ?_
    refine z_ior dX2_closeClause_69 ?_
    refine z_putI fX2_43 (law_k hj_j) rfl dX2_closeClause_70 ?_
    refine z_lh (fun h1 => ?_)
    exact z_vret dX2_closeClause_73 rfl
set_option maxHeartbeats 4000000 in
set_option maxRecDepth 100000 in
theorem w_X2_closeClause {j : Nat} (hj_j : isLaw j) (x1 : Int32) (h : AHp) : WO tvV QX2_closeClause 0 0 [(0, .ref j), (1, .int x1)] [] h (m_X2_closeClause j x1 h) := by
  unfold m_X2_closeClause
  refine z_aload_n dX2_closeClause_0 0 rfl ?_
  refine z_getI fX2_40 (law_k hj_j) rfl dX2_closeClause_1 ?_
  refine z_bipush (v := 14) dX2_closeClause_4 (by decide) ?_
  refine z_ic_ge (tgt := 55) dX2_closeClause_6 (by decide) ?_ ?_
  · exact w_X2_closeClause_55 hj_j _ _
  · refine z_aload_n dX2_closeClause_9 0 rfl ?_
    refine z_getR fX2_24 (law_k hj_j) rfl rfl (law_r4 hj_j) (Nat.succ_ne_zero _) dX2_closeClause_10 ?_
    refine z_aload_n dX2_closeClause_13 0 rfl ?_
    refine z_getI fX2_40 (law_k hj_j) rfl dX2_closeClause_14 ?_
    refine z_aload_n dX2_closeClause_17 0 rfl ?_
    refine z_getI fX2_33 (law_k hj_j) rfl dX2_closeClause_18 ?_
    refine z_gd (fun g3 => ?_)
    refine z_iast (law_k4 hj_j) dX2_closeClause_21 g3 ?_
    refine z_lh (fun h2 => ?_)
    refine z_aload_n dX2_closeClause_22 0 rfl ?_
    refine z_getR fX2_27 (law_k hj_j) rfl rfl (law_r5 hj_j) (Nat.succ_ne_zero _) dX2_closeClause_23 ?_
    refine z_aload_n dX2_closeClause_26 0 rfl ?_
    refine z_getI fX2_40 (law_k hj_j) rfl dX2_closeClause_27 ?_
    refine z_iload_n dX2_closeClause_30 1 rfl ?_
    refine z_gd (fun g5 => ?_)
    refine z_iast (law_k5 hj_j) dX2_closeClause_31 g5 ?_
    refine z_lh (fun h4 => ?_)
    refine z_aload_n dX2_closeClause_32 0 rfl ?_
    refine z_getR fX2_30 (law_k hj_j) rfl rfl (law_r6 hj_j) (Nat.succ_ne_zero _) dX2_closeClause_33 ?_
    refine z_aload_n dX2_closeClause_36 0 rfl ?_
    refine z_getI fX2_40 (law_k hj_j) rfl dX2_closeClause_37 ?_
    refine z_aload_n dX2_closeClause_40 0 rfl ?_
    refine z_getI fX2_46 (law_k hj_j) rfl dX2_closeClause_41 ?_
    refine z_gd (fun g7 => ?_)
    refine z_iast (law_k6 hj_j) dX2_closeClause_44 g7 ?_
    refine z_lh (fun h6 => ?_)
    refine z_aload_n dX2_closeClause_45 0 rfl ?_
    refine z_dup dX2_closeClause_46 rfl ?_
    refine z_getI fX2_40 (law_k hj_j) rfl dX2_closeClause_47 ?_
    refine z_iconst (v := 1) dX2_closeClause_50 (by decide) ?_
    refine z_iadd dX2_closeClause_51 ?_
    refine z_putI fX2_40 (law_k hj_j) rfl dX2_closeClause_52 ?_
    refine z_lh (fun h8 => ?_)
    exact w_X2_closeClause_55 hj_j _ _
theorem M_X2_closeClause {j : Nat} (hj_j : isLaw j) (x1 : Int32) (h : AHp) : MV QX2_closeClause 0 [.ref j, .int x1] h (m_X2_closeClause j x1 h) := MV.of (by decide) rfl rfl (Nat.le_of_ble_eq_true rfl) (w_X2_closeClause hj_j x1 h)
set_option maxHeartbeats 4000000 in
set_option maxRecDepth 100000 in
theorem w_X2_letter {j : Nat} (hj_j : isLaw j) (x1 : Int32) (h : AHp) : WO tvI QX2_letter 0 0 [(0, .ref j), (1, .int x1)] [] h (m_X2_letter j x1 h) := by
  unfold m_X2_letter
  refine z_aload_n dX2_letter_0 0 rfl ?_
  refine z_dup dX2_letter_1 rfl ?_
  refine z_getI fX2_46 (law_k hj_j) rfl dX2_letter_2 ?_
  refine z_iconst (v := 1) dX2_letter_5 (by decide) ?_
  refine z_iload_n dX2_letter_6 1 rfl ?_
  refine z_ishl dX2_letter_7 ?_
  refine z_ior dX2_letter_8 ?_
  refine z_putI fX2_46 (law_k hj_j) rfl dX2_letter_9 ?_
  refine z_lh (fun h1 => ?_)
  refine z_iload_n dX2_letter_12 1 rfl ?_
  exact z_iret dX2_letter_13 rfl
theorem M_X2_letter {j : Nat} (hj_j : isLaw j) (x1 : Int32) (h : AHp) : MI QX2_letter 0 [.ref j, .int x1] h (m_X2_letter j x1 h) := MI.of (by decide) rfl rfl (Nat.le_of_ble_eq_true rfl) (w_X2_letter hj_j x1 h)
set_option maxHeartbeats 4000000 in
set_option maxRecDepth 100000 in
theorem w_X2_constant {j : Nat} (hj_j : isLaw j) (x1 : Int32) (h : AHp) : WO tvI QX2_constant 0 0 [(0, .ref j), (1, .int x1)] [] h (m_X2_constant j x1 h) := by
  unfold m_X2_constant
  refine z_aload_n dX2_constant_0 0 rfl ?_
  refine z_getI fX2_37 (law_k hj_j) rfl dX2_constant_1 ?_
  refine z_istore_nL (lv2 := fun v1 => [(2, .int v1), (0, .ref j), (1, .int x1)]) dX2_constant_4 (Nat.le_of_ble_eq_true rfl) (fun _ => rfl) (fun v1 => ?_)
  refine z_iload_n dX2_constant_5 0 rfl ?_
  refine z_sipush (v := 256) dX2_constant_6 (by decide) ?_
  refine z_ic_ge (tgt := 29) dX2_constant_9 (by decide) ?_ ?_
  · refine z_iload_n dX2_constant_29 0 rfl ?_
    exact z_iret dX2_constant_30 rfl
  · refine z_aload_n dX2_constant_12 1 rfl ?_
    refine z_getR fX2_15 (law_k hj_j) rfl rfl (law_r1 hj_j) (Nat.succ_ne_zero _) dX2_constant_13 ?_
    refine z_iload_n dX2_constant_16 0 rfl ?_
    refine z_iload_n dX2_constant_17 2 rfl ?_
    refine z_gd (fun g3 => ?_)
    refine z_iast (law_k1 hj_j) dX2_constant_18 g3 ?_
    refine z_lh (fun h2 => ?_)
    refine z_aload_n dX2_constant_19 1 rfl ?_
    refine z_dup dX2_constant_20 rfl ?_
    refine z_getI fX2_37 (law_k hj_j) rfl dX2_constant_21 ?_
    refine z_iconst (v := 1) dX2_constant_24 (by decide) ?_
    refine z_iadd dX2_constant_25 ?_
    refine z_putI fX2_37 (law_k hj_j) rfl dX2_constant_26 ?_
    refine z_lh (fun h4 => ?_)
    refine z_iload_n dX2_constant_29 0 rfl ?_
    exact z_iret dX2_constant_30 rfl
theorem M_X2_constant {j : Nat} (hj_j : isLaw j) (x1 : Int32) (h : AHp) : MI QX2_constant 0 [.ref j, .int x1] h (m_X2_constant j x1 h) := MI.of (by decide) rfl rfl (Nat.le_of_ble_eq_true rfl) (w_X2_constant hj_j x1 h)
set_option maxHeartbeats 4000000 in
set_option maxRecDepth 100000 in
theorem w_X2_emit {j : Nat} (hj_j : isLaw j) (x1 : Int32) (x2 : Int32) (x3 : Int32) (h : AHp) : WO tvI QX2_emit 0 0 [(0, .ref j), (1, .int x1), (2, .int x2), (3, .int x3)] [] h (m_X2_emit j x1 x2 x3 h) := by
  unfold m_X2_emit
  refine z_aload_n dX2_emit_0 0 rfl ?_
  refine z_getI fX2_37 (law_k hj_j) rfl dX2_emit_1 ?_
  refine z_istoreL (lv2 := fun v1 => [(4, .int v1), (0, .ref j), (1, .int x1), (2, .int x2), (3, .int x3)]) dX2_emit_4 (Nat.le_of_ble_eq_true rfl) (fun _ => rfl) (fun v1 => ?_)
  refine z_aload_n dX2_emit_6 1 rfl ?_
  refine z_getI fX2_33 (law_k hj_j) rfl dX2_emit_7 ?_
  refine z_sipush (v := 256) dX2_emit_10 (by decide) ?_
  refine z_ic_ge (tgt := 69) dX2_emit_13 (by decide) ?_ ?_
  · refine z_iload dX2_emit_69 0 rfl ?_
    exact z_iret dX2_emit_71 rfl
  · refine z_iload dX2_emit_16 0 rfl ?_
    refine z_sipush (v := 256) dX2_emit_18 (by decide) ?_
    refine z_ic_ge (tgt := 69) dX2_emit_21 (by decide) ?_ ?_
    · refine z_iload dX2_emit_69 0 rfl ?_
      exact z_iret dX2_emit_71 rfl
    · refine z_aload_n dX2_emit_24 1 rfl ?_
      refine z_getR fX2_11 (law_k hj_j) rfl rfl (law_r0 hj_j) (Nat.succ_ne_zero _) dX2_emit_25 ?_
      refine z_aload_n dX2_emit_28 1 rfl ?_
      refine z_getI fX2_33 (law_k hj_j) rfl dX2_emit_29 ?_
      refine z_iload_n dX2_emit_32 2 rfl ?_
      refine z_iload_n dX2_emit_33 3 rfl ?_
      refine z_iconst (v := 4) dX2_emit_34 (by decide) ?_
      refine z_ishl dX2_emit_35 ?_
      refine z_ior dX2_emit_36 ?_
      refine z_iload_n dX2_emit_37 4 rfl ?_
      refine z_bipush (v := 12) dX2_emit_38 (by decide) ?_
      refine z_ishl dX2_emit_40 ?_
      refine z_ior dX2_emit_41 ?_
      refine z_iload dX2_emit_42 0 rfl ?_
      refine z_bipush (v := 20) dX2_emit_44 (by decide) ?_
      refine z_ishl dX2_emit_46 ?_
      refine z_ior dX2_emit_47 ?_
      refine z_gd (fun g3 => ?_)
      refine z_iast (law_k0 hj_j) dX2_emit_48 g3 ?_
      refine z_lh (fun h2 => ?_)
      refine z_aload_n dX2_emit_49 1 rfl ?_
      refine z_dup dX2_emit_50 rfl ?_
      refine z_getI fX2_33 (law_k hj_j) rfl dX2_emit_51 ?_
      refine z_iconst (v := 1) dX2_emit_54 (by decide) ?_
      refine z_iadd dX2_emit_55 ?_
      refine z_putI fX2_33 (law_k hj_j) rfl dX2_emit_56 ?_
      refine z_lh (fun h4 => ?_)
      refine z_aload_n dX2_emit_59 1 rfl ?_
      refine z_dup dX2_emit_60 rfl ?_
      refine z_getI fX2_37 (law_k hj_j) rfl dX2_emit_61 ?_
      refine z_iconst (v := 1) dX2_emit_64 (by decide) ?_
      refine z_iadd dX2_emit_65 ?_
      refine z_putI fX2_37 (law_k hj_j) rfl dX2_emit_66 ?_
      refine z_lh (fun h5 => ?_)
      refine z_iload dX2_emit_69 0 rfl ?_
      exact z_iret dX2_emit_71 rfl
theorem M_X2_emit {j : Nat} (hj_j : isLaw j) (x1 : Int32) (x2 : Int32) (x3 : Int32) (h : AHp) : MI QX2_emit 0 [.ref j, .int x1, .int x2, .int x3] h (m_X2_emit j x1 x2 x3 h) := MI.of (by decide) rfl rfl (Nat.le_of_ble_eq_true rfl) (w_X2_emit hj_j x1 x2 x3 h)
set_option maxHeartbeats 4000000 in
set_option maxRecDepth 100000 in
theorem w_X4_comparison (x0 : Int32) (h : AHp) : WO tvI QX4_comparison 0 0 [(0, .int x0)] [] h (m_X4_comparison x0 h) := by
  unfold m_X4_comparison
  refine z_iload_n dX4_comparison_0 0 rfl ?_
  refine z_ite (fun c1 => ?_) (fun c1 => ?_)
  · refine z_tin (tgt := 28) (off := 27) dX4_comparison_1 (by rw [c1]; decide) (by rw [c1]; decide) (by rw [c1]; decide) (by decide) ?_
    refine z_bipush (v := 6) dX4_comparison_28 (by decide) ?_
    exact z_iret dX4_comparison_30 rfl
  · refine z_ite (fun c2 => ?_) (fun c2 => ?_)
    · refine z_tin (tgt := 34) (off := 33) dX4_comparison_1 (by rw [c2]; decide) (by rw [c2]; decide) (by rw [c2]; decide) (by decide) ?_
      refine z_bipush (v := 8) dX4_comparison_34 (by decide) ?_
      exact z_iret dX4_comparison_36 rfl
    · refine z_ite (fun c3 => ?_) (fun c3 => ?_)
      · refine z_tin (tgt := 31) (off := 30) dX4_comparison_1 (by rw [c3]; decide) (by rw [c3]; decide) (by rw [c3]; decide) (by decide) ?_
        refine z_bipush (v := 7) dX4_comparison_31 (by decide) ?_
        exact z_iret dX4_comparison_33 rfl
      · refine z_tout (tgt := 37) dX4_comparison_1 (by have a0 := n32 (k := 60) c1 rfl; have a1 := n32 (k := 61) c2 rfl; have a2 := n32 (k := 62) c3 rfl; omega) (by decide) ?_
        refine z_iconst (v := -1) dX4_comparison_37 (by decide) ?_
        exact z_iret dX4_comparison_38 rfl
theorem M_X4_comparison (x0 : Int32) (h : AHp) : MI QX4_comparison 0 [.int x0] h (m_X4_comparison x0 h) := MI.of (by decide) rfl rfl (Nat.le_of_ble_eq_true rfl) (w_X4_comparison x0 h)
set_option maxHeartbeats 4000000 in
set_option maxRecDepth 100000 in
theorem w_X4_isDigit (x0 : Int32) (h : AHp) : WO tvI QX4_isDigit 0 0 [(0, .int x0)] [] h (m_X4_isDigit x0 h) := by
  unfold m_X4_isDigit
  refine z_iload_n dX4_isDigit_0 0 rfl ?_
  refine z_bipush (v := 48) dX4_isDigit_1 (by decide) ?_
  refine z_ic_lt (tgt := 16) dX4_isDigit_3 (by decide) ?_ ?_
  · refine z_iconst (v := 0) dX4_isDigit_16 (by decide) ?_
    exact z_zret dX4_isDigit_17 rfl (Or.inl rfl)
  · refine z_iload_n dX4_isDigit_6 0 rfl ?_
    refine z_bipush (v := 57) dX4_isDigit_7 (by decide) ?_
    refine z_ic_gt (tgt := 16) dX4_isDigit_9 (by decide) ?_ ?_
    · refine z_iconst (v := 0) dX4_isDigit_16 (by decide) ?_
      exact z_zret dX4_isDigit_17 rfl (Or.inl rfl)
    · refine z_iconst (v := 1) dX4_isDigit_12 (by decide) ?_
      refine z_goto (tgt := 17) dX4_isDigit_13 (by decide) ?_
      exact z_zret dX4_isDigit_17 rfl (Or.inr rfl)
theorem M_X4_isDigit (x0 : Int32) (h : AHp) : MI QX4_isDigit 0 [.int x0] h (m_X4_isDigit x0 h) := MI.of (by decide) rfl rfl (Nat.le_of_ble_eq_true rfl) (w_X4_isDigit x0 h)
set_option maxHeartbeats 4000000 in
set_option maxRecDepth 100000 in
theorem w_X4_operation (x0 : Int32) (h : AHp) : WO tvI QX4_operation 0 0 [(0, .int x0)] [] h (m_X4_operation x0 h) := by
  unfold m_X4_operation
  refine z_iload_n dX4_operation_0 0 rfl ?_
  refine z_ite (fun c1 => ?_) (fun c1 => ?_)
  · refine z_look (tgt := 40) (off := 39) dX4_operation_1 (by decide) (by rw [c1]; decide) (by decide) ?_
    refine z_iconst (v := 5) dX4_operation_40 (by decide) ?_
    exact z_iret dX4_operation_41 rfl
  · refine z_ite (fun c2 => ?_) (fun c2 => ?_)
    · refine z_look (tgt := 36) (off := 35) dX4_operation_1 (by decide) (by rw [c2]; decide) (by decide) ?_
      refine z_iconst (v := 3) dX4_operation_36 (by decide) ?_
      exact z_iret dX4_operation_37 rfl
    · refine z_ite (fun c3 => ?_) (fun c3 => ?_)
      · refine z_look (tgt := 38) (off := 37) dX4_operation_1 (by decide) (by rw [c3]; decide) (by decide) ?_
        refine z_iconst (v := 4) dX4_operation_38 (by decide) ?_
        exact z_iret dX4_operation_39 rfl
      · refine z_look (tgt := 42) (off := 41) dX4_operation_1 (by decide) (by show Op.lookupswitch.offset [(37, 39), (42, 35), (47, 37)] 41 _ = _; rw [lv_osw (a := 37) c1 rfl, lv_osw (a := 42) c2 rfl, lv_osw (a := 47) c3 rfl]; rfl) (by decide) ?_
        refine z_iconst (v := -1) dX4_operation_42 (by decide) ?_
        exact z_iret dX4_operation_43 rfl
theorem M_X4_operation (x0 : Int32) (h : AHp) : MI QX4_operation 0 [.int x0] h (m_X4_operation x0 h) := MI.of (by decide) rfl rfl (Nat.le_of_ble_eq_true rfl) (w_X4_operation x0 h)
set_option maxHeartbeats 4000000 in
set_option maxRecDepth 100000 in
theorem w_X4_readNumber_51 (x1 : Int32) (h : AHp) : WO tvI QX4_readNumber 1 51 [(0, .ref 33), (1, .int x1)] [] h (m_X4_readNumber_51 x1 h) := by
  unfold m_X4_readNumber_51
  refine z_aload_n dX4_readNumber_51 0 rfl ?_
  refine z_getR (j := 1) fX4_9 kc_33 rfl rfl rfl (by decide) dX4_readNumber_52 ?_
  refine z_callVI dX4_readNumber_55 (M_X8_sign _) bX8_sign lX4_54 kc_1 rfl rfl (Nat.le_of_ble_eq_true rfl) (Nat.le_of_ble_eq_true rfl) (fun r1 h2 => ?_)
  refine z_callSI dX4_readNumber_58 (M_X4_isDigit _ _) bX4_isDigit lX4_133 rfl rfl (Nat.le_of_ble_eq_true rfl) (Nat.le_of_ble_eq_true rfl) (fun r3 h4 => ?_)
  refine z_if_eq (tgt := 72) dX4_readNumber_61 (by decide) ?_ ?_
  · refine z_iload_n dX4_readNumber_72 1 rfl ?_
    exact z_iret dX4_readNumber_73 rfl
  · refine z_aload_n dX4_readNumber_64 0 rfl ?_
    refine z_getR (j := 1) fX4_9 kc_33 rfl rfl rfl (by decide) dX4_readNumber_65 ?_
    refine z_iconst (v := 2) dX4_readNumber_68 (by decide) ?_
    refine z_callVV dX4_readNumber_69 (M_X8_fail _ _) bX8_fail lX4_68 kc_1 rfl rfl (Nat.le_of_ble_eq_true rfl) (Nat.le_of_ble_eq_true rfl) (fun r5 h6 => ?_)
    refine z_iload_n dX4_readNumber_72 1 rfl ?_
    exact z_iret dX4_readNumber_73 rfl
set_option maxHeartbeats 4000000 in
set_option maxRecDepth 100000 in
theorem w_X4_readNumber_4 : ∀ (f : Nat) (x1 : Int32) (x2 : Int32) (h : AHp), WO tvI QX4_readNumber 1 4 [(0, .ref 33), (1, .int x1), (2, .int x2)] [] h (m_X4_readNumber_4 f x1 x2 h) := by
  intro f
  induction f with
  | zero => intro x1 x2 h; exact z_none
  | succ f ih =>
    intro x1 x2 h
    rw [m_X4_readNumber_4]
    refine z_iload_n dX4_readNumber_4 2 rfl ?_
    refine z_iconst (v := 5) dX4_readNumber_5 (by decide) ?_
    refine z_ic_ge (tgt := 51) dX4_readNumber_6 (by decide) ?_ ?_
    · exact z_sub [0, 1] rfl (w_X4_readNumber_51 _ _)
    · refine z_aload_n dX4_readNumber_9 0 rfl ?_
      refine z_getR (j := 1) fX4_9 kc_33 rfl rfl rfl (by decide) dX4_readNumber_10 ?_
      refine z_callVI dX4_readNumber_13 (M_X8_sign _) bX8_sign lX4_54 kc_1 rfl rfl (Nat.le_of_ble_eq_true rfl) (Nat.le_of_ble_eq_true rfl) (fun r7 h8 => ?_)
      refine z_callSI dX4_readNumber_16 (M_X4_isDigit _ _) bX4_isDigit lX4_133 rfl rfl (Nat.le_of_ble_eq_true rfl) (Nat.le_of_ble_eq_true rfl) (fun r9 h10 => ?_)
      refine z_if_eq (tgt := 51) dX4_readNumber_19 (by decide) ?_ ?_
      · exact z_sub [0, 1] rfl (w_X4_readNumber_51 _ _)
      · refine z_iload_n dX4_readNumber_22 1 rfl ?_
        refine z_bipush (v := 10) dX4_readNumber_23 (by decide) ?_
        refine z_imul dX4_readNumber_25 ?_
        refine z_aload_n dX4_readNumber_26 0 rfl ?_
        refine z_getR (j := 1) fX4_9 kc_33 rfl rfl rfl (by decide) dX4_readNumber_27 ?_
        refine z_callVI dX4_readNumber_30 (M_X8_sign _) bX8_sign lX4_54 kc_1 rfl rfl (Nat.le_of_ble_eq_true rfl) (Nat.le_of_ble_eq_true rfl) (fun r11 h12 => ?_)
        refine z_iadd dX4_readNumber_33 ?_
        refine z_bipush (v := 48) dX4_readNumber_34 (by decide) ?_
        refine z_isub dX4_readNumber_36 ?_
        refine z_istore_nL (lv2 := fun v13 => [(1, .int v13), (0, .ref 33), (2, .int x2)]) dX4_readNumber_37 (Nat.le_of_ble_eq_true rfl) (fun _ => rfl) (fun v13 => ?_)
        refine z_aload_n dX4_readNumber_38 1 rfl ?_
        refine z_getR (j := 1) fX4_9 kc_33 rfl rfl rfl (by decide) dX4_readNumber_39 ?_
        refine z_callVV dX4_readNumber_42 (M_X8_step _) bX8_step lX4_71 kc_1 rfl rfl (Nat.le_of_ble_eq_true rfl) (Nat.le_of_ble_eq_true rfl) (fun r14 h15 => ?_)
        refine z_iincL (lv2 := fun v16 => [(2, .int v16), (1, .int v13), (0, .ref 33)]) dX4_readNumber_45 2 rfl rfl (Nat.le_of_ble_eq_true rfl) (fun _ => rfl) (fun v16 => ?_)
        refine z_goto (tgt := 4) dX4_readNumber_48 (by decide) ?_
        exact z_sub [2, 1, 0] rfl (ih _ _ _)
set_option maxHeartbeats 4000000 in
set_option maxRecDepth 100000 in
theorem w_X4_readNumber (h : AHp) : WO tvI QX4_readNumber 1 0 [(0, .ref 33)] [] h (m_X4_readNumber h) := by
  unfold m_X4_readNumber
  refine z_iconst (v := 0) dX4_readNumber_0 (by decide) ?_
  refine z_istore_n (lv2 := [(1, .int 0), (0, .ref 33)]) dX4_readNumber_1 (Nat.le_of_ble_eq_true rfl) rfl ?_
  refine z_iconst (v := 0) dX4_readNumber_2 (by decide) ?_
  refine z_istore_n (lv2 := [(2, .int 0), (1, .int 0), (0, .ref 33)]) dX4_readNumber_3 (Nat.le_of_ble_eq_true rfl) rfl ?_
  exact z_sub [2, 1, 0] rfl (w_X4_readNumber_4 FU _ _ _)
theorem M_X4_readNumber (h : AHp) : MI QX4_readNumber 1 [.ref 33] h (m_X4_readNumber h) := MI.of (by decide) rfl rfl (Nat.le_of_ble_eq_true rfl) (w_X4_readNumber h)
set_option maxHeartbeats 4000000 in
set_option maxRecDepth 100000 in
theorem w_X9_setSizes (x1 : Int32) (x2 : Int32) (h : AHp) : WO tvV QX9_setSizes 1 0 [(0, .ref 3), (1, .int x1), (2, .int x2)] [] h (m_X9_setSizes x1 x2 h) := by
  unfold m_X9_setSizes
  refine z_iload_n dX9_setSizes_0 1 rfl ?_
  refine z_callSNI dX9_setSizes_1 (M_X11_isThing _ _) bX11_isThing lX9_34 rfl rfl (Nat.le_of_ble_eq_true rfl) (Nat.le_of_ble_eq_true rfl) (fun r1 h2 => ?_)
  refine z_if_eq (tgt := 14) dX9_setSizes_4 (by decide) ?_ ?_
  · exact z_vret dX9_setSizes_14 rfl
  · refine z_aload_n dX9_setSizes_7 0 rfl ?_
    refine z_getR (j := 4) fX9_9 kc_3 rfl rfl rfl (by decide) dX9_setSizes_8 ?_
    refine z_iload_n dX9_setSizes_11 1 rfl ?_
    refine z_iload_n dX9_setSizes_12 2 rfl ?_
    refine z_gd (fun g4 => ?_)
    refine z_iast kc_4 dX9_setSizes_13 g4 ?_
    refine z_lh (fun h3 => ?_)
    exact z_vret dX9_setSizes_14 rfl
theorem M_X9_setSizes (x1 : Int32) (x2 : Int32) (h : AHp) : MV QX9_setSizes 1 [.ref 3, .int x1, .int x2] h (m_X9_setSizes x1 x2 h) := MV.of (by decide) rfl rfl (Nat.le_of_ble_eq_true rfl) (w_X9_setSizes x1 x2 h)
set_option maxHeartbeats 4000000 in
set_option maxRecDepth 100000 in
theorem w_X9_takeSpare_15 (x1 : Int32) (s0 : Nat) (h : AHp) : WO tvV QX9_takeSpare 0 15 [(0, .ref 3), (1, .int x1)] [.ref s0] h (m_X9_takeSpare_15 x1 s0 h) := by
  unfold m_X9_takeSpare_15
  refine z_astore_n (lv2 := [(2, .ref s0), (0, .ref 3), (1, .int x1)]) dX9_takeSpare_15 (Nat.le_of_ble_eq_true rfl) rfl ?_
  refine z_iload_n dX9_takeSpare_16 2 rfl ?_
  refine z_if_ne (tgt := 31) dX9_takeSpare_17 (by decide) ?_ ?_
  · refine z_aload_n dX9_takeSpare_31 1 rfl ?_
    refine z_aload_n dX9_takeSpare_32 1 rfl ?_
    refine z_gd (fun g1 => ?_)
    refine z_getM fX9_31 kc_3 rfl rfl (law_ne g1) dX9_takeSpare_33 ?_
    refine z_putM fX9_28 kc_3 rfl rfl (law_ne g1) dX9_takeSpare_36 ?_
    refine z_lh (fun h2 => ?_)
    refine z_aload_n dX9_takeSpare_39 1 rfl ?_
    refine z_aload_n dX9_takeSpare_40 0 rfl ?_
    refine z_gd (fun g4 => ?_)
    refine z_putM fX9_31 kc_3 rfl rfl (law_ne g4) dX9_takeSpare_41 ?_
    refine z_lh (fun h3 => ?_)
    exact z_vret dX9_takeSpare_44 rfl
  · refine z_aload_n dX9_takeSpare_20 1 rfl ?_
    refine z_aload_n dX9_takeSpare_21 1 rfl ?_
    refine z_gd (fun g5 => ?_)
    refine z_getM fX9_31 kc_3 rfl rfl (law_ne g5) dX9_takeSpare_22 ?_
    refine z_putM fX9_24 kc_3 rfl rfl (law_ne g5) dX9_takeSpare_25 ?_
    refine z_lh (fun h6 => ?_)
    refine z_goto (tgt := 39) dX9_takeSpare_28 (by decide) ?_
    refine z_aload_n dX9_takeSpare_39 1 rfl ?_
    refine z_aload_n dX9_takeSpare_40 0 rfl ?_
    refine z_gd (fun g8 => ?_)
    refine z_putM fX9_31 kc_3 rfl rfl (law_ne g8) dX9_takeSpare_41 ?_
    refine z_lh (fun h7 => ?_)
    exact z_vret dX9_takeSpare_44 rfl
set_option maxHeartbeats 4000000 in
set_option maxRecDepth 100000 in
theorem w_X9_takeSpare (x1 : Int32) (h : AHp) : WO tvV QX9_takeSpare 0 0 [(0, .ref 3), (1, .int x1)] [] h (m_X9_takeSpare x1 h) := by
  unfold m_X9_takeSpare
  refine z_iload_n dX9_takeSpare_0 1 rfl ?_
  refine z_if_ne (tgt := 11) dX9_takeSpare_1 (by decide) ?_ ?_
  · refine z_aload_n dX9_takeSpare_11 0 rfl ?_
    refine z_gd (fun g9 => ?_)
    refine z_getM fX9_28 kc_3 rfl rfl (law_ne g9) dX9_takeSpare_12 ?_
    exact w_X9_takeSpare_15 _ _ _
  · refine z_aload_n dX9_takeSpare_4 0 rfl ?_
    refine z_gd (fun g10 => ?_)
    refine z_getM fX9_24 kc_3 rfl rfl (law_ne g10) dX9_takeSpare_5 ?_
    refine z_goto (tgt := 15) dX9_takeSpare_8 (by decide) ?_
    exact w_X9_takeSpare_15 _ _ _
theorem M_X9_takeSpare (x1 : Int32) (h : AHp) : MV QX9_takeSpare 0 [.ref 3, .int x1] h (m_X9_takeSpare x1 h) := MV.of (by decide) rfl rfl (Nat.le_of_ble_eq_true rfl) (w_X9_takeSpare x1 h)
