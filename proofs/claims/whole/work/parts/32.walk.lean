set_option maxHeartbeats 4000000 in
set_option maxRecDepth 100000 in
theorem w_X11_isOnTape (x1 : Int32) (x2 : Int32) (x3 : Int32) (h : AHp) : WO tvI QX11_isOnTape 0 0 [(0, .ref 0), (1, .int x1), (2, .int x2), (3, .int x3)] [] h (m_X11_isOnTape x1 x2 x3 h) := by
  unfold m_X11_isOnTape
  refine z_iload_n dX11_isOnTape_0 1 rfl ?_
  refine z_iconst (v := 1) dX11_isOnTape_1 (by decide) ?_
  refine z_ic_lt (tgt := 27) dX11_isOnTape_2 (by decide) ?_ ?_
  · refine z_iconst (v := 0) dX11_isOnTape_27 (by decide) ?_
    exact z_zret dX11_isOnTape_28 rfl (Or.inl rfl)
  · refine z_iload_n dX11_isOnTape_5 1 rfl ?_
    refine z_iload_n dX11_isOnTape_6 2 rfl ?_
    refine z_ic_gt (tgt := 27) dX11_isOnTape_7 (by decide) ?_ ?_
    · refine z_iconst (v := 0) dX11_isOnTape_27 (by decide) ?_
      exact z_zret dX11_isOnTape_28 rfl (Or.inl rfl)
    · refine z_iload_n dX11_isOnTape_10 1 rfl ?_
      refine z_iload_n dX11_isOnTape_11 3 rfl ?_
      refine z_imul dX11_isOnTape_12 ?_
      refine z_aload_n dX11_isOnTape_13 0 rfl ?_
      refine z_getR (j := 1) fX11_18 kc_0 rfl rfl rfl (by decide) dX11_isOnTape_14 ?_
      refine z_getIN fX11_92 kc_1 rfl dX11_isOnTape_17 ?_
      refine z_ic_gt (tgt := 27) dX11_isOnTape_20 (by decide) ?_ ?_
      · refine z_iconst (v := 0) dX11_isOnTape_27 (by decide) ?_
        exact z_zret dX11_isOnTape_28 rfl (Or.inl rfl)
      · refine z_iconst (v := 1) dX11_isOnTape_23 (by decide) ?_
        refine z_goto (tgt := 28) dX11_isOnTape_24 (by decide) ?_
        exact z_zret dX11_isOnTape_28 rfl (Or.inr rfl)
theorem M_X11_isOnTape (x1 : Int32) (x2 : Int32) (x3 : Int32) (h : AHp) : MI QX11_isOnTape 0 [.ref 0, .int x1, .int x2, .int x3] h (m_X11_isOnTape x1 x2 x3 h) := MI.of (by decide) rfl rfl (Nat.le_of_ble_eq_true rfl) (w_X11_isOnTape x1 x2 x3 h)
set_option maxHeartbeats 4000000 in
set_option maxRecDepth 100000 in
theorem w_X8_startText (x1 : Int32) (h : AHp) : WO tvV QX8_startText 1 0 [(0, .ref 1), (1, .int x1)] [] h (m_X8_startText x1 h) := by
  unfold m_X8_startText
  refine z_aload_n dX8_startText_0 0 rfl ?_
  refine z_iconst (v := 0) dX8_startText_1 (by decide) ?_
  refine z_putI fX8_23 kc_1 rfl dX8_startText_2 ?_
  refine z_lh (fun h1 => ?_)
  refine z_aload_n dX8_startText_5 0 rfl ?_
  refine z_iload_n dX8_startText_6 1 rfl ?_
  refine z_aload_n dX8_startText_7 0 rfl ?_
  refine z_getI fX8_15 kc_1 rfl dX8_startText_8 ?_
  refine z_mmin dX8_startText_11 lX8_26 w_mmin (Nat.le_of_ble_eq_true rfl) (Nat.le_of_ble_eq_true rfl) ?_
  refine z_putI fX8_32 kc_1 rfl dX8_startText_14 ?_
  refine z_lh (fun h2 => ?_)
  refine z_aload_n dX8_startText_17 0 rfl ?_
  refine z_iconst (v := 0) dX8_startText_18 (by decide) ?_
  refine z_putI fX8_35 kc_1 rfl dX8_startText_19 ?_
  refine z_lh (fun h3 => ?_)
  exact z_vret dX8_startText_22 rfl
theorem M_X8_startText (x1 : Int32) (h : AHp) : MV QX8_startText 1 [.ref 1, .int x1] h (m_X8_startText x1 h) := MV.of (by decide) rfl rfl (Nat.le_of_ble_eq_true rfl) (w_X8_startText x1 h)
set_option maxHeartbeats 4000000 in
set_option maxRecDepth 100000 in
theorem w_X8_endText (h : AHp) : WO tvV QX8_endText 1 0 [(0, .ref 1)] [] h (m_X8_endText h) := by
  unfold m_X8_endText
  refine z_aload_n dX8_endText_0 0 rfl ?_
  refine z_getI fX8_23 kc_1 rfl dX8_endText_1 ?_
  refine z_aload_n dX8_endText_4 0 rfl ?_
  refine z_getI fX8_32 kc_1 rfl dX8_endText_5 ?_
  refine z_ic_ge (tgt := 16) dX8_endText_8 (by decide) ?_ ?_
  · exact z_vret dX8_endText_16 rfl
  · refine z_aload_n dX8_endText_11 0 rfl ?_
    refine z_iconst (v := 1) dX8_endText_12 (by decide) ?_
    refine z_callVV dX8_endText_13 (M_X8_fail _ _) bX8_fail lX8_45 kc_1 rfl rfl (Nat.le_of_ble_eq_true rfl) (Nat.le_of_ble_eq_true rfl) (fun r1 h2 => ?_)
    exact z_vret dX8_endText_16 rfl
theorem M_X8_endText (h : AHp) : MV QX8_endText 1 [.ref 1] h (m_X8_endText h) := MV.of (by decide) rfl rfl (Nat.le_of_ble_eq_true rfl) (w_X8_endText h)
set_option maxHeartbeats 4000000 in
set_option maxRecDepth 100000 in
theorem w_X8_isSound (h : AHp) : WO tvI QX8_isSound 0 0 [(0, .ref 1)] [] h (m_X8_isSound h) := by
  unfold m_X8_isSound
  refine z_aload_n dX8_isSound_0 0 rfl ?_
  refine z_getI fX8_35 kc_1 rfl dX8_isSound_1 ?_
  refine z_if_ne (tgt := 11) dX8_isSound_4 (by decide) ?_ ?_
  · refine z_iconst (v := 0) dX8_isSound_11 (by decide) ?_
    exact z_zret dX8_isSound_12 rfl (Or.inl rfl)
  · refine z_iconst (v := 1) dX8_isSound_7 (by decide) ?_
    refine z_goto (tgt := 12) dX8_isSound_8 (by decide) ?_
    exact z_zret dX8_isSound_12 rfl (Or.inr rfl)
theorem M_X8_isSound (h : AHp) : MI QX8_isSound 0 [.ref 1] h (m_X8_isSound h) := MI.of (by decide) rfl rfl (Nat.le_of_ble_eq_true rfl) (w_X8_isSound h)
set_option maxHeartbeats 4000000 in
set_option maxRecDepth 100000 in
theorem w_X4_readPattern (x1 : Int32) (h : AHp) : WO tvI QX4_readPattern 71 0 [(0, .ref 33), (1, .int x1)] [] h (m_X4_readPattern x1 h) := by
  unfold m_X4_readPattern
  refine z_aload_n dX4_readPattern_0 0 rfl ?_
  refine z_getR (j := 1) fX4_9 kc_33 rfl rfl rfl (by decide) dX4_readPattern_1 ?_
  refine z_iload_n dX4_readPattern_4 1 rfl ?_
  refine z_callVV dX4_readPattern_5 (M_X8_startText _ _) bX8_startText lX4_22 kc_1 rfl rfl (Nat.le_of_ble_eq_true rfl) (Nat.le_of_ble_eq_true rfl) (fun r1 h2 => ?_)
  refine z_aload_n dX4_readPattern_8 0 rfl ?_
  refine z_iconst (v := 0) dX4_readPattern_9 (by decide) ?_
  refine z_callVI dX4_readPattern_10 (M_X4_readWays 10 _ _) bX4_readWays lX4_28 kc_33 rfl rfl (Nat.le_of_ble_eq_true rfl) (Nat.le_of_ble_eq_true rfl) (fun r3 h4 => ?_)
  refine z_istore_n (lv2 := [(2, .int r3), (0, .ref 33), (1, .int x1)]) dX4_readPattern_13 (Nat.le_of_ble_eq_true rfl) rfl ?_
  refine z_aload_n dX4_readPattern_14 1 rfl ?_
  refine z_getR (j := 1) fX4_9 kc_33 rfl rfl rfl (by decide) dX4_readPattern_15 ?_
  refine z_callVV dX4_readPattern_18 (M_X8_endText _) bX8_endText lX4_32 kc_1 rfl rfl (Nat.le_of_ble_eq_true rfl) (Nat.le_of_ble_eq_true rfl) (fun r5 h6 => ?_)
  refine z_aload_n dX4_readPattern_21 1 rfl ?_
  refine z_getR (j := 1) fX4_9 kc_33 rfl rfl rfl (by decide) dX4_readPattern_22 ?_
  refine z_callVI dX4_readPattern_25 (M_X8_isSound _) bX8_isSound lX4_35 kc_1 rfl rfl (Nat.le_of_ble_eq_true rfl) (Nat.le_of_ble_eq_true rfl) (fun r7 h8 => ?_)
  refine z_if_eq (tgt := 38) dX4_readPattern_28 (by decide) ?_ ?_
  · refine z_aload_n dX4_readPattern_38 1 rfl ?_
    refine z_getR (j := 1) fX4_9 kc_33 rfl rfl rfl (by decide) dX4_readPattern_39 ?_
    refine z_getIN fX4_40 kc_1 rfl dX4_readPattern_42 ?_
    exact z_iret dX4_readPattern_45 rfl
  · refine z_iload_n dX4_readPattern_31 0 rfl ?_
    refine z_ldc dX4_readPattern_32 kX4_39 ?_
    refine z_iand dX4_readPattern_34 ?_
    refine z_goto (tgt := 45) dX4_readPattern_35 (by decide) ?_
    exact z_iret dX4_readPattern_45 rfl
theorem M_X4_readPattern (x1 : Int32) (h : AHp) : MI QX4_readPattern 71 [.ref 33, .int x1] h (m_X4_readPattern x1 h) := MI.of (by decide) rfl rfl (Nat.le_of_ble_eq_true rfl) (w_X4_readPattern x1 h)
set_option maxHeartbeats 4000000 in
set_option maxRecDepth 100000 in
theorem w_X8_clear (h : AHp) : WO tvV QX8_clear 0 0 [(0, .ref 1)] [] h (m_X8_clear h) := by
  unfold m_X8_clear
  refine z_aload_n dX8_clear_0 0 rfl ?_
  refine z_iconst (v := 0) dX8_clear_1 (by decide) ?_
  refine z_putI fX8_15 kc_1 rfl dX8_clear_2 ?_
  refine z_lh (fun h1 => ?_)
  exact z_vret dX8_clear_5 rfl
theorem M_X8_clear (h : AHp) : MV QX8_clear 0 [.ref 1] h (m_X8_clear h) := MV.of (by decide) rfl rfl (Nat.le_of_ble_eq_true rfl) (w_X8_clear h)
set_option maxHeartbeats 4000000 in
set_option maxRecDepth 100000 in
theorem w_X9_setSizes (x1 : Int32) (x2 : Int32) (h : AHp) : WO tvV QX9_setSizes 1 0 [(0, .ref 3), (1, .int x1), (2, .int x2)] [] h (m_X9_setSizes x1 x2 h) := by
  unfold m_X9_setSizes
  refine z_iload_n dX9_setSizes_0 1 rfl ?_
  refine z_callSNI dX9_setSizes_1 (M_X11_isThing _ _) bX11_isThing lX9_34 rfl rfl (Nat.le_of_ble_eq_true rfl) (Nat.le_of_ble_eq_true rfl) (fun r1 h2 => ?_)
  refine z_if_eq (tgt := 14) dX9_setSizes_4 (by decide) ?_ ?_
  · exact z_vret dX9_setSizes_14 rfl
  · refine z_aload_n dX9_setSizes_7 0 rfl ?_
    refine z_getR (j := 4) fX9_9 kc_3 rfl rfl rfl (by decide) dX9_setSizes_8 ?_
    refine z_iload_n dX9_setSizes_11 1 rfl ?_
    refine z_iload_n dX9_setSizes_12 2 rfl ?_
    refine z_gd (fun g4 => ?_)
    refine z_iast kc_4 dX9_setSizes_13 g4 ?_
    refine z_lh (fun h3 => ?_)
    exact z_vret dX9_setSizes_14 rfl
theorem M_X9_setSizes (x1 : Int32) (x2 : Int32) (h : AHp) : MV QX9_setSizes 1 [.ref 3, .int x1, .int x2] h (m_X9_setSizes x1 x2 h) := MV.of (by decide) rfl rfl (Nat.le_of_ble_eq_true rfl) (w_X9_setSizes x1 x2 h)
set_option maxHeartbeats 4000000 in
set_option maxRecDepth 100000 in
theorem w_J6_bitCount_0f7a4 (x0 : Int32) (h : AHp) : WO tvI QJ6_bitCount_0f7a4 0 0 [(0, .int x0)] [] h (m_J6_bitCount_0f7a4 x0 h) := by
  unfold m_J6_bitCount_0f7a4
  refine z_iload_n dJ6_bitCount_0f7a4_0 0 rfl ?_
  refine z_iload_n dJ6_bitCount_0f7a4_1 0 rfl ?_
  refine z_iconst (v := 1) dJ6_bitCount_0f7a4_2 (by decide) ?_
  refine z_iushr dJ6_bitCount_0f7a4_3 ?_
  refine z_ldcw dJ6_bitCount_0f7a4_4 kJ6_265 ?_
  refine z_iand dJ6_bitCount_0f7a4_7 ?_
  refine z_isub dJ6_bitCount_0f7a4_8 ?_
  refine z_istore_nL (lv2 := fun v1 => [(0, .int v1)]) dJ6_bitCount_0f7a4_9 (Nat.le_of_ble_eq_true rfl) (fun _ => rfl) (fun v1 => ?_)
  refine z_iload_n dJ6_bitCount_0f7a4_10 0 rfl ?_
  refine z_ldcw dJ6_bitCount_0f7a4_11 kJ6_266 ?_
  refine z_iand dJ6_bitCount_0f7a4_14 ?_
  refine z_iload_n dJ6_bitCount_0f7a4_15 0 rfl ?_
  refine z_iconst (v := 2) dJ6_bitCount_0f7a4_16 (by decide) ?_
  refine z_iushr dJ6_bitCount_0f7a4_17 ?_
  refine z_ldcw dJ6_bitCount_0f7a4_18 kJ6_266 ?_
  refine z_iand dJ6_bitCount_0f7a4_21 ?_
  refine z_iadd dJ6_bitCount_0f7a4_22 ?_
  refine z_istore_nL (lv2 := fun v2 => [(0, .int v2)]) dJ6_bitCount_0f7a4_23 (Nat.le_of_ble_eq_true rfl) (fun _ => rfl) (fun v2 => ?_)
  refine z_iload_n dJ6_bitCount_0f7a4_24 0 rfl ?_
  refine z_iload_n dJ6_bitCount_0f7a4_25 0 rfl ?_
  refine z_iconst (v := 4) dJ6_bitCount_0f7a4_26 (by decide) ?_
  refine z_iushr dJ6_bitCount_0f7a4_27 ?_
  refine z_iadd dJ6_bitCount_0f7a4_28 ?_
  refine z_ldcw dJ6_bitCount_0f7a4_29 kJ6_267 ?_
  refine z_iand dJ6_bitCount_0f7a4_32 ?_
  refine z_istore_nL (lv2 := fun v3 => [(0, .int v3)]) dJ6_bitCount_0f7a4_33 (Nat.le_of_ble_eq_true rfl) (fun _ => rfl) (fun v3 => ?_)
  refine z_iload_n dJ6_bitCount_0f7a4_34 0 rfl ?_
  refine z_iload_n dJ6_bitCount_0f7a4_35 0 rfl ?_
  refine z_bipush (v := 8) dJ6_bitCount_0f7a4_36 (by decide) ?_
  refine z_iushr dJ6_bitCount_0f7a4_38 ?_
  refine z_iadd dJ6_bitCount_0f7a4_39 ?_
  refine z_istore_nL (lv2 := fun v4 => [(0, .int v4)]) dJ6_bitCount_0f7a4_40 (Nat.le_of_ble_eq_true rfl) (fun _ => rfl) (fun v4 => ?_)
  refine z_iload_n dJ6_bitCount_0f7a4_41 0 rfl ?_
  refine z_iload_n dJ6_bitCount_0f7a4_42 0 rfl ?_
  refine z_bipush (v := 16) dJ6_bitCount_0f7a4_43 (by decide) ?_
  refine z_iushr dJ6_bitCount_0f7a4_45 ?_
  refine z_iadd dJ6_bitCount_0f7a4_46 ?_
  refine z_istore_nL (lv2 := fun v5 => [(0, .int v5)]) dJ6_bitCount_0f7a4_47 (Nat.le_of_ble_eq_true rfl) (fun _ => rfl) (fun v5 => ?_)
  refine z_iload_n dJ6_bitCount_0f7a4_48 0 rfl ?_
  refine z_bipush (v := 63) dJ6_bitCount_0f7a4_49 (by decide) ?_
  refine z_iand dJ6_bitCount_0f7a4_51 ?_
  exact z_iret dJ6_bitCount_0f7a4_52 rfl
theorem M_J6_bitCount_0f7a4 (x0 : Int32) (h : AHp) : MI QJ6_bitCount_0f7a4 0 [.int x0] h (m_J6_bitCount_0f7a4 x0 h) := MI.of (by decide) rfl rfl (Nat.le_of_ble_eq_true rfl) (w_J6_bitCount_0f7a4 x0 h)
set_option maxHeartbeats 4000000 in
set_option maxRecDepth 100000 in
theorem w_X11_thing (x1 : Int32) (x2 : Int32) (h : AHp) : WO tvI QX11_thing 72 0 [(0, .ref 0), (1, .int x1), (2, .int x2)] [] h (m_X11_thing x1 x2 h) := by
  unfold m_X11_thing
  refine z_iload_n dX11_thing_0 1 rfl ?_
  refine z_callSI dX11_thing_1 (M_X11_isThing _ _) bX11_isThing lX11_99 rfl rfl (Nat.le_of_ble_eq_true rfl) (Nat.le_of_ble_eq_true rfl) (fun r1 h2 => ?_)
  refine z_if_eq (tgt := 18) dX11_thing_4 (by decide) ?_ ?_
  · refine z_iconst (v := -1) dX11_thing_18 (by decide) ?_
    exact z_iret dX11_thing_19 rfl
  · refine z_aload_n dX11_thing_7 0 rfl ?_
    refine z_iload_n dX11_thing_8 2 rfl ?_
    refine z_bipush (v := 60) dX11_thing_9 (by decide) ?_
    refine z_iconst (v := 1) dX11_thing_11 (by decide) ?_
    refine z_callVI dX11_thing_12 (M_X11_isOnTape _ _ _ _) bX11_isOnTape lX11_103 kc_0 rfl rfl (Nat.le_of_ble_eq_true rfl) (Nat.le_of_ble_eq_true rfl) (fun r3 h4 => ?_)
    refine z_if_ne (tgt := 20) dX11_thing_15 (by decide) ?_ ?_
    · refine z_aload_n dX11_thing_20 0 rfl ?_
      refine z_getR (j := 33) fX11_27 kc_0 rfl rfl rfl (by decide) dX11_thing_21 ?_
      refine z_iload_n dX11_thing_24 2 rfl ?_
      refine z_callVI dX11_thing_25 (M_X4_readPattern _ _) bX4_readPattern lX11_107 kc_33 rfl rfl (Nat.le_of_ble_eq_true rfl) (Nat.le_of_ble_eq_true rfl) (fun r5 h6 => ?_)
      refine z_istore_n (lv2 := [(3, .int r5), (0, .ref 0), (1, .int x1), (2, .int x2)]) dX11_thing_28 (Nat.le_of_ble_eq_true rfl) rfl ?_
      refine z_aload_n dX11_thing_29 1 rfl ?_
      refine z_getR (j := 1) fX11_18 kc_0 rfl rfl rfl (by decide) dX11_thing_30 ?_
      refine z_callVV dX11_thing_33 (M_X8_clear _) bX8_clear lX11_111 kc_1 rfl rfl (Nat.le_of_ble_eq_true rfl) (Nat.le_of_ble_eq_true rfl) (fun r7 h8 => ?_)
      refine z_iload_n dX11_thing_36 0 rfl ?_
      refine z_if_ge (tgt := 42) dX11_thing_37 (by decide) ?_ ?_
      · refine z_aload_n dX11_thing_42 1 rfl ?_
        refine z_getR (j := 3) fX11_31 kc_0 rfl rfl rfl (by decide) dX11_thing_43 ?_
        refine z_iload_n dX11_thing_46 2 rfl ?_
        refine z_iload_n dX11_thing_47 0 rfl ?_
        refine z_callVV dX11_thing_48 (M_X9_setSizes _ _ _) bX9_setSizes lX11_114 kc_3 rfl rfl (Nat.le_of_ble_eq_true rfl) (Nat.le_of_ble_eq_true rfl) (fun r9 h10 => ?_)
        refine z_iload_n dX11_thing_51 0 rfl ?_
        refine z_callSI dX11_thing_52 (M_J6_bitCount_0f7a4 _ _) bJ6_bitCount_0f7a4 lX11_118 rfl rfl (Nat.le_of_ble_eq_true rfl) (Nat.le_of_ble_eq_true rfl) (fun r11 h12 => ?_)
        exact z_iret dX11_thing_55 rfl
      · refine z_iload_n dX11_thing_40 0 rfl ?_
        exact z_iret dX11_thing_41 rfl
    · refine z_iconst (v := -1) dX11_thing_18 (by decide) ?_
      exact z_iret dX11_thing_19 rfl
theorem M_X11_thing (x1 : Int32) (x2 : Int32) (h : AHp) : MI QX11_thing 72 [.ref 0, .int x1, .int x2] h (m_X11_thing x1 x2 h) := MI.of (by decide) rfl rfl (Nat.le_of_ble_eq_true rfl) (w_X11_thing x1 x2 h)
set_option maxHeartbeats 4000000 in
set_option maxRecDepth 100000 in
theorem w_X11_lengths (x1 : Int32) (h : AHp) : WO tvI QX11_lengths 2 0 [(0, .ref 0), (1, .int x1)] [] h (m_X11_lengths x1 h) := by
  unfold m_X11_lengths
  refine z_iload_n dX11_lengths_0 1 rfl ?_
  refine z_callSI dX11_lengths_1 (M_X11_isThing _ _) bX11_isThing lX11_99 rfl rfl (Nat.le_of_ble_eq_true rfl) (Nat.le_of_ble_eq_true rfl) (fun r1 h2 => ?_)
  refine z_if_eq (tgt := 18) dX11_lengths_4 (by decide) ?_ ?_
  · refine z_iconst (v := -1) dX11_lengths_18 (by decide) ?_
    exact z_iret dX11_lengths_19 rfl
  · refine z_aload_n dX11_lengths_7 0 rfl ?_
    refine z_getR (j := 3) fX11_31 kc_0 rfl rfl rfl (by decide) dX11_lengths_8 ?_
    refine z_iload_n dX11_lengths_11 1 rfl ?_
    refine z_callVI dX11_lengths_12 (M_X9_sizesOf _ _) bX9_sizesOf lX11_123 kc_3 rfl rfl (Nat.le_of_ble_eq_true rfl) (Nat.le_of_ble_eq_true rfl) (fun r3 h4 => ?_)
    refine z_goto (tgt := 19) dX11_lengths_15 (by decide) ?_
    exact z_iret dX11_lengths_19 rfl
theorem M_X11_lengths (x1 : Int32) (h : AHp) : MI QX11_lengths 2 [.ref 0, .int x1] h (m_X11_lengths x1 h) := MI.of (by decide) rfl rfl (Nat.le_of_ble_eq_true rfl) (w_X11_lengths x1 h)
set_option maxHeartbeats 4000000 in
set_option maxRecDepth 100000 in
theorem w_X9_setColour (x1 : Int32) (x2 : Int32) (h : AHp) : WO tvV QX9_setColour 1 0 [(0, .ref 3), (1, .int x1), (2, .int x2)] [] h (m_X9_setColour x1 x2 h) := by
  unfold m_X9_setColour
  refine z_iload_n dX9_setColour_0 1 rfl ?_
  refine z_callSNI dX9_setColour_1 (M_X11_isSpeaker _ _) bX11_isSpeaker lX9_42 rfl rfl (Nat.le_of_ble_eq_true rfl) (Nat.le_of_ble_eq_true rfl) (fun r1 h2 => ?_)
  refine z_if_eq (tgt := 14) dX9_setColour_4 (by decide) ?_ ?_
  · exact z_vret dX9_setColour_14 rfl
  · refine z_aload_n dX9_setColour_7 0 rfl ?_
    refine z_getR (j := 5) fX9_15 kc_3 rfl rfl rfl (by decide) dX9_setColour_8 ?_
    refine z_iload_n dX9_setColour_11 1 rfl ?_
    refine z_iload_n dX9_setColour_12 2 rfl ?_
    refine z_gd (fun g4 => ?_)
    refine z_iast kc_5 dX9_setColour_13 g4 ?_
    refine z_lh (fun h3 => ?_)
    exact z_vret dX9_setColour_14 rfl
theorem M_X9_setColour (x1 : Int32) (x2 : Int32) (h : AHp) : MV QX9_setColour 1 [.ref 3, .int x1, .int x2] h (m_X9_setColour x1 x2 h) := MV.of (by decide) rfl rfl (Nat.le_of_ble_eq_true rfl) (w_X9_setColour x1 x2 h)
set_option maxHeartbeats 4000000 in
set_option maxRecDepth 100000 in
theorem w_X11_colour (x1 : Int32) (x2 : Int32) (h : AHp) : WO tvI QX11_colour 2 0 [(0, .ref 0), (1, .int x1), (2, .int x2)] [] h (m_X11_colour x1 x2 h) := by
  unfold m_X11_colour
  refine z_iload_n dX11_colour_0 1 rfl ?_
  refine z_callSI dX11_colour_1 (M_X11_isSpeaker _ _) bX11_isSpeaker lX11_126 rfl rfl (Nat.le_of_ble_eq_true rfl) (Nat.le_of_ble_eq_true rfl) (fun r1 h2 => ?_)
  refine z_if_eq (tgt := 16) dX11_colour_4 (by decide) ?_ ?_
  · refine z_iconst (v := 0) dX11_colour_16 (by decide) ?_
    exact z_zret dX11_colour_17 rfl (Or.inl rfl)
  · refine z_iload_n dX11_colour_7 2 rfl ?_
    refine z_if_lt (tgt := 16) dX11_colour_8 (by decide) ?_ ?_
    · refine z_iconst (v := 0) dX11_colour_16 (by decide) ?_
      exact z_zret dX11_colour_17 rfl (Or.inl rfl)
    · refine z_iload_n dX11_colour_11 2 rfl ?_
      refine z_iconst (v := 4) dX11_colour_12 (by decide) ?_
      refine z_ic_lt (tgt := 18) dX11_colour_13 (by decide) ?_ ?_
      · refine z_aload_n dX11_colour_18 0 rfl ?_
        refine z_getR (j := 3) fX11_31 kc_0 rfl rfl rfl (by decide) dX11_colour_19 ?_
        refine z_iload_n dX11_colour_22 1 rfl ?_
        refine z_iload_n dX11_colour_23 2 rfl ?_
        refine z_callVV dX11_colour_24 (M_X9_setColour _ _ _) bX9_setColour lX11_129 kc_3 rfl rfl (Nat.le_of_ble_eq_true rfl) (Nat.le_of_ble_eq_true rfl) (fun r3 h4 => ?_)
        refine z_iconst (v := 1) dX11_colour_27 (by decide) ?_
        exact z_zret dX11_colour_28 rfl (Or.inr rfl)
      · refine z_iconst (v := 0) dX11_colour_16 (by decide) ?_
        exact z_zret dX11_colour_17 rfl (Or.inl rfl)
theorem M_X11_colour (x1 : Int32) (x2 : Int32) (h : AHp) : MI QX11_colour 2 [.ref 0, .int x1, .int x2] h (m_X11_colour x1 x2 h) := MI.of (by decide) rfl rfl (Nat.le_of_ble_eq_true rfl) (w_X11_colour x1 x2 h)
set_option maxHeartbeats 4000000 in
set_option maxRecDepth 100000 in
theorem w_X11_isLaw (x0 : Int32) (h : AHp) : WO tvI QX11_isLaw 0 0 [(0, .int x0)] [] h (m_X11_isLaw x0 h) := by
  unfold m_X11_isLaw
  refine z_iload_n dX11_isLaw_0 0 rfl ?_
  refine z_if_eq (tgt := 9) dX11_isLaw_1 (by decide) ?_ ?_
  · refine z_iconst (v := 1) dX11_isLaw_9 (by decide) ?_
    refine z_goto (tgt := 14) dX11_isLaw_10 (by decide) ?_
    exact z_zret dX11_isLaw_14 rfl (Or.inr rfl)
  · refine z_iload_n dX11_isLaw_4 0 rfl ?_
    refine z_iconst (v := 1) dX11_isLaw_5 (by decide) ?_
    refine z_ic_ne (tgt := 13) dX11_isLaw_6 (by decide) ?_ ?_
    · refine z_iconst (v := 0) dX11_isLaw_13 (by decide) ?_
      exact z_zret dX11_isLaw_14 rfl (Or.inl rfl)
    · refine z_iconst (v := 1) dX11_isLaw_9 (by decide) ?_
      refine z_goto (tgt := 14) dX11_isLaw_10 (by decide) ?_
      exact z_zret dX11_isLaw_14 rfl (Or.inr rfl)
theorem M_X11_isLaw (x0 : Int32) (h : AHp) : MI QX11_isLaw 0 [.int x0] h (m_X11_isLaw x0 h) := MI.of (by decide) rfl rfl (Nat.le_of_ble_eq_true rfl) (w_X11_isLaw x0 h)
set_option maxHeartbeats 4000000 in
set_option maxRecDepth 100000 in
theorem w_X2_openCondition {j : Nat} (hj_j : isLaw j) (h : AHp) : WO tvV QX2_openCondition 0 0 [(0, .ref j)] [] h (m_X2_openCondition j h) := by
  unfold m_X2_openCondition
  refine z_aload_n dX2_openCondition_0 0 rfl ?_
  refine z_getI fX2_40 (law_k hj_j) rfl dX2_openCondition_1 ?_
  refine z_bipush (v := 14) dX2_openCondition_4 (by decide) ?_
  refine z_ic_ge (tgt := 22) dX2_openCondition_6 (by decide) ?_ ?_
  · refine z_aload_n dX2_openCondition_22 0 rfl ?_
    refine z_iconst (v := 0) dX2_openCondition_23 (by decide) ?_
    refine z_putI fX2_46 (law_k hj_j) rfl dX2_openCondition_24 ?_
    refine z_lh (fun h1 => ?_)
    exact z_vret dX2_openCondition_27 rfl
  · refine z_aload_n dX2_openCondition_9 0 rfl ?_
    refine z_getR fX2_21 (law_k hj_j) rfl rfl (law_r3 hj_j) (Nat.succ_ne_zero _) dX2_openCondition_10 ?_
    refine z_aload_n dX2_openCondition_13 0 rfl ?_
    refine z_getI fX2_40 (law_k hj_j) rfl dX2_openCondition_14 ?_
    refine z_aload_n dX2_openCondition_17 0 rfl ?_
    refine z_getI fX2_33 (law_k hj_j) rfl dX2_openCondition_18 ?_
    refine z_gd (fun g3 => ?_)
    refine z_iast (law_k3 hj_j) dX2_openCondition_21 g3 ?_
    refine z_lh (fun h2 => ?_)
    refine z_aload_n dX2_openCondition_22 0 rfl ?_
    refine z_iconst (v := 0) dX2_openCondition_23 (by decide) ?_
    refine z_putI fX2_46 (law_k hj_j) rfl dX2_openCondition_24 ?_
    refine z_lh (fun h4 => ?_)
    exact z_vret dX2_openCondition_27 rfl
theorem M_X2_openCondition {j : Nat} (hj_j : isLaw j) (h : AHp) : MV QX2_openCondition 0 [.ref j] h (m_X2_openCondition j h) := MV.of (by decide) rfl rfl (Nat.le_of_ble_eq_true rfl) (w_X2_openCondition hj_j h)
set_option maxHeartbeats 4000000 in
set_option maxRecDepth 100000 in
theorem w_X2_closeClause_55 {j : Nat} (hj_j : isLaw j) (x1 : Int32) (h : AHp) : WO tvV QX2_closeClause 0 55 [(0, .ref j), (1, .int x1)] [] h (m_X2_closeClause_55 j x1 h) := by
  unfold m_X2_closeClause_55
  refine z_iload_n dX2_closeClause_55 1 rfl ?_
  refine z_iconst (v := -1) dX2_closeClause_56 (by decide) ?_
  refine z_ic_ne (tgt := 73) dX2_closeClause_57 (by decide) ?_ ?_
  · exact z_vret dX2_closeClause_73 rfl
  · refine z_aload_n dX2_closeClause_60 0 rfl ?_
    refine z_dup dX2_closeClause_61 rfl ?_
    refine z_getI fX2_43 (law_k hj_j) rfl dX2_closeClause_62 ?_
    refine z_aload_n dX2_closeClause_65 0 rfl ?_
    refine z_getI fX2_46 (law_k hj_j) rfl dX2_closeClause_66 ?_
    refine z_ior dX2_closeClause_69 ?_
    refine z_putI fX2_43 (law_k hj_j) rfl dX2_closeClause_70 ?_
    refine z_lh (fun h1 => ?_)
    exact z_vret dX2_closeClause_73 rfl
set_option maxHeartbeats 4000000 in
set_option maxRecDepth 100000 in
theorem w_X2_closeClause {j : Nat} (hj_j : isLaw j) (x1 : Int32) (h : AHp) : WO tvV QX2_closeClause 0 0 [(0, .ref j), (1, .int x1)] [] h (m_X2_closeClause j x1 h) := by
  unfold m_X2_closeClause
  refine z_aload_n dX2_closeClause_0 0 rfl ?_
  refine z_getI fX2_40 (law_k hj_j) rfl dX2_closeClause_1 ?_
  refine z_bipush (v := 14) dX2_closeClause_4 (by decide) ?_
  refine z_ic_ge (tgt := 55) dX2_closeClause_6 (by decide) ?_ ?_
  · exact w_X2_closeClause_55 hj_j _ _
  · refine z_aload_n dX2_closeClause_9 0 rfl ?_
    refine z_getR fX2_24 (law_k hj_j) rfl rfl (law_r4 hj_j) (Nat.succ_ne_zero _) dX2_closeClause_10 ?_
    refine z_aload_n dX2_closeClause_13 0 rfl ?_
    refine z_getI fX2_40 (law_k hj_j) rfl dX2_closeClause_14 ?_
    refine z_aload_n dX2_closeClause_17 0 rfl ?_
    refine z_getI fX2_33 (law_k hj_j) rfl dX2_closeClause_18 ?_
    refine z_gd (fun g3 => ?_)
    refine z_iast (law_k4 hj_j) dX2_closeClause_21 g3 ?_
    refine z_lh (fun h2 => ?_)
    refine z_aload_n dX2_closeClause_22 0 rfl ?_
    refine z_getR fX2_27 (law_k hj_j) rfl rfl (law_r5 hj_j) (Nat.succ_ne_zero _) dX2_closeClause_23 ?_
    refine z_aload_n dX2_closeClause_26 0 rfl ?_
    refine z_getI fX2_40 (law_k hj_j) rfl dX2_closeClause_27 ?_
    refine z_iload_n dX2_closeClause_30 1 rfl ?_
    refine z_gd (fun g5 => ?_)
    refine z_iast (law_k5 hj_j) dX2_closeClause_31 g5 ?_
    refine z_lh (fun h4 => ?_)
    refine z_aload_n dX2_closeClause_32 0 rfl ?_
    refine z_getR fX2_30 (law_k hj_j) rfl rfl (law_r6 hj_j) (Nat.succ_ne_zero _) dX2_closeClause_33 ?_
    refine z_aload_n dX2_closeClause_36 0 rfl ?_
    refine z_getI fX2_40 (law_k hj_j) rfl dX2_closeClause_37 ?_
    refine z_aload_n dX2_closeClause_40 0 rfl ?_
    refine z_getI fX2_46 (law_k hj_j) rfl dX2_closeClause_41 ?_
    refine z_gd (fun g7 => ?_)
    refine z_iast (law_k6 hj_j) dX2_closeClause_44 g7 ?_
    refine z_lh (fun h6 => ?_)
    refine z_aload_n dX2_closeClause_45 0 rfl ?_
    refine z_dup dX2_closeClause_46 rfl ?_
    refine z_getI fX2_40 (law_k hj_j) rfl dX2_closeClause_47 ?_
    refine z_iconst (v := 1) dX2_closeClause_50 (by decide) ?_
    refine z_iadd dX2_closeClause_51 ?_
    refine z_putI fX2_40 (law_k hj_j) rfl dX2_closeClause_52 ?_
    refine z_lh (fun h8 => ?_)
    exact w_X2_closeClause_55 hj_j _ _
theorem M_X2_closeClause {j : Nat} (hj_j : isLaw j) (x1 : Int32) (h : AHp) : MV QX2_closeClause 0 [.ref j, .int x1] h (m_X2_closeClause j x1 h) := MV.of (by decide) rfl rfl (Nat.le_of_ble_eq_true rfl) (w_X2_closeClause hj_j x1 h)
set_option maxHeartbeats 4000000 in
set_option maxRecDepth 100000 in
theorem w_X2_openPrice {j : Nat} (hj_j : isLaw j) (h : AHp) : WO tvV QX2_openPrice 0 0 [(0, .ref j)] [] h (m_X2_openPrice j h) := by
  unfold m_X2_openPrice
  refine z_aload_n dX2_openPrice_0 0 rfl ?_
  refine z_getI fX2_40 (law_k hj_j) rfl dX2_openPrice_1 ?_
  refine z_bipush (v := 14) dX2_openPrice_4 (by decide) ?_
  refine z_ic_ge (tgt := 22) dX2_openPrice_6 (by decide) ?_ ?_
  · exact z_vret dX2_openPrice_22 rfl
  · refine z_aload_n dX2_openPrice_9 0 rfl ?_
    refine z_getR fX2_18 (law_k hj_j) rfl rfl (law_r2 hj_j) (Nat.succ_ne_zero _) dX2_openPrice_10 ?_
    refine z_aload_n dX2_openPrice_13 0 rfl ?_
    refine z_getI fX2_40 (law_k hj_j) rfl dX2_openPrice_14 ?_
    refine z_aload_n dX2_openPrice_17 0 rfl ?_
    refine z_getI fX2_33 (law_k hj_j) rfl dX2_openPrice_18 ?_
    refine z_gd (fun g2 => ?_)
    refine z_iast (law_k2 hj_j) dX2_openPrice_21 g2 ?_
    refine z_lh (fun h1 => ?_)
    exact z_vret dX2_openPrice_22 rfl
theorem M_X2_openPrice {j : Nat} (hj_j : isLaw j) (h : AHp) : MV QX2_openPrice 0 [.ref j] h (m_X2_openPrice j h) := MV.of (by decide) rfl rfl (Nat.le_of_ble_eq_true rfl) (w_X2_openPrice hj_j h)
set_option maxHeartbeats 4000000 in
set_option maxRecDepth 100000 in
theorem w_X4_readClause_79 (s0 : Int32) (h : AHp) : WO tvV QX4_readClause 119 79 [(0, .ref 33)] [.int s0] h (m_X4_readClause_79 s0 h) := by
  unfold m_X4_readClause_79
  refine z_istore_n (lv2 := [(2, .int s0), (0, .ref 33)]) dX4_readClause_79 (Nat.le_of_ble_eq_true rfl) rfl ?_
  refine z_aload_n dX4_readClause_80 1 rfl ?_
  refine z_gd (fun g1 => ?_)
  refine z_getM fX4_18 kc_33 rfl rfl (law_ne g1) dX4_readClause_81 ?_
  refine z_callVV dX4_readClause_84 (M_X2_openCondition g1 _) bX2_openCondition lX4_96 (law_k g1) rfl rfl (Nat.le_of_ble_eq_true rfl) (Nat.le_of_ble_eq_true rfl) (fun r2 h3 => ?_)
  refine z_aload_n dX4_readClause_87 1 rfl ?_
  refine z_getR (j := 1) fX4_9 kc_33 rfl rfl rfl (by decide) dX4_readClause_88 ?_
  refine z_bipush (v := 40) dX4_readClause_91 (by decide) ?_
  refine z_callVV dX4_readClause_93 (M_X8_expect _ _) bX8_expect lX4_74 kc_1 rfl rfl (Nat.le_of_ble_eq_true rfl) (Nat.le_of_ble_eq_true rfl) (fun r4 h5 => ?_)
  refine z_aload_n dX4_readClause_96 1 rfl ?_
  refine z_iconst (v := 1) dX4_readClause_97 (by decide) ?_
  refine z_callVV dX4_readClause_98 (M_X4_readCondition_b (dd := 36) (m_X4_readPiece 12) (M_X4_readPiece 12) _ _) bX4_readCondition lX4_99 kc_33 rfl rfl (Nat.le_of_ble_eq_true rfl) (Nat.le_of_ble_eq_true rfl) (fun r6 h7 => ?_)
  refine z_aload_n dX4_readClause_101 1 rfl ?_
  refine z_getR (j := 1) fX4_9 kc_33 rfl rfl rfl (by decide) dX4_readClause_102 ?_
  refine z_bipush (v := 41) dX4_readClause_105 (by decide) ?_
  refine z_callVV dX4_readClause_107 (M_X8_expect _ _) bX8_expect lX4_74 kc_1 rfl rfl (Nat.le_of_ble_eq_true rfl) (Nat.le_of_ble_eq_true rfl) (fun r8 h9 => ?_)
  refine z_aload_n dX4_readClause_110 1 rfl ?_
  refine z_gd (fun g10 => ?_)
  refine z_getM fX4_18 kc_33 rfl rfl (law_ne g10) dX4_readClause_111 ?_
  refine z_iload_n dX4_readClause_114 0 rfl ?_
  refine z_callVV dX4_readClause_115 (M_X2_closeClause g10 _ _) bX2_closeClause lX4_102 (law_k g10) rfl rfl (Nat.le_of_ble_eq_true rfl) (Nat.le_of_ble_eq_true rfl) (fun r11 h12 => ?_)
  exact z_vret dX4_readClause_118 rfl
set_option maxHeartbeats 4000000 in
set_option maxRecDepth 100000 in
theorem w_X4_readClause_29 (x1 : Int32) (h : AHp) : WO tvV QX4_readClause 119 29 [(0, .ref 33), (1, .int x1)] [] h (m_X4_readClause_29 x1 h) := by
  unfold m_X4_readClause_29
  refine z_aload_n dX4_readClause_29 0 rfl ?_
  refine z_gd (fun g13 => ?_)
  refine z_getM fX4_18 kc_33 rfl rfl (law_ne g13) dX4_readClause_30 ?_
  refine z_getIN fX4_87 (law_k g13) rfl dX4_readClause_33 ?_
  refine z_bipush (v := 14) dX4_readClause_36 (by decide) ?_
  refine z_ic_lt (tgt := 50) dX4_readClause_38 (by decide) ?_ ?_
  · refine z_aload_n dX4_readClause_50 0 rfl ?_
    refine z_getR (j := 1) fX4_9 kc_33 rfl rfl rfl (by decide) dX4_readClause_51 ?_
    refine z_callVV dX4_readClause_54 (M_X8_step _) bX8_step lX4_71 kc_1 rfl rfl (Nat.le_of_ble_eq_true rfl) (Nat.le_of_ble_eq_true rfl) (fun r14 h15 => ?_)
    refine z_aload_n dX4_readClause_57 0 rfl ?_
    refine z_gd (fun g16 => ?_)
    refine z_getM fX4_18 kc_33 rfl rfl (law_ne g16) dX4_readClause_58 ?_
    refine z_callVV dX4_readClause_61 (M_X2_openPrice g16 _) bX2_openPrice lX4_90 (law_k g16) rfl rfl (Nat.le_of_ble_eq_true rfl) (Nat.le_of_ble_eq_true rfl) (fun r17 h18 => ?_)
    refine z_iload_n dX4_readClause_64 1 rfl ?_
    refine z_bipush (v := 112) dX4_readClause_65 (by decide) ?_
    refine z_ic_ne (tgt := 78) dX4_readClause_67 (by decide) ?_ ?_
    · refine z_iconst (v := -1) dX4_readClause_78 (by decide) ?_
      exact z_sub [0] rfl (w_X4_readClause_79 _ _)
    · refine z_aload_n dX4_readClause_70 0 rfl ?_
      refine z_iconst (v := 0) dX4_readClause_71 (by decide) ?_
      refine z_callVI dX4_readClause_72 (M_X4_readSum 10 _ _) bX4_readSum lX4_93 kc_33 rfl rfl (Nat.le_of_ble_eq_true rfl) (Nat.le_of_ble_eq_true rfl) (fun r19 h20 => ?_)
      refine z_goto (tgt := 79) dX4_readClause_75 (by decide) ?_
      exact z_sub [0] rfl (w_X4_readClause_79 _ _)
  · refine z_aload_n dX4_readClause_41 0 rfl ?_
    refine z_getR (j := 1) fX4_9 kc_33 rfl rfl rfl (by decide) dX4_readClause_42 ?_
    refine z_iconst (v := 4) dX4_readClause_45 (by decide) ?_
    refine z_callVV dX4_readClause_46 (M_X8_fail _ _) bX8_fail lX4_68 kc_1 rfl rfl (Nat.le_of_ble_eq_true rfl) (Nat.le_of_ble_eq_true rfl) (fun r21 h22 => ?_)
    exact z_vret dX4_readClause_49 rfl
set_option maxHeartbeats 4000000 in
set_option maxRecDepth 100000 in
theorem w_X4_readClause (h : AHp) : WO tvV QX4_readClause 119 0 [(0, .ref 33)] [] h (m_X4_readClause h) := by
  unfold m_X4_readClause
  refine z_aload_n dX4_readClause_0 0 rfl ?_
  refine z_getR (j := 1) fX4_9 kc_33 rfl rfl rfl (by decide) dX4_readClause_1 ?_
  refine z_callVI dX4_readClause_4 (M_X8_sign _) bX8_sign lX4_54 kc_1 rfl rfl (Nat.le_of_ble_eq_true rfl) (Nat.le_of_ble_eq_true rfl) (fun r23 h24 => ?_)
  refine z_istore_n (lv2 := [(1, .int r23), (0, .ref 33)]) dX4_readClause_7 (Nat.le_of_ble_eq_true rfl) rfl ?_
  refine z_iload_n dX4_readClause_8 0 rfl ?_
  refine z_bipush (v := 110) dX4_readClause_9 (by decide) ?_
  refine z_ic_eq (tgt := 29) dX4_readClause_11 (by decide) ?_ ?_
  · exact z_sub [1, 0] rfl (w_X4_readClause_29 _ _)
  · refine z_iload_n dX4_readClause_14 0 rfl ?_
    refine z_bipush (v := 112) dX4_readClause_15 (by decide) ?_
    refine z_ic_eq (tgt := 29) dX4_readClause_17 (by decide) ?_ ?_
    · exact z_sub [1, 0] rfl (w_X4_readClause_29 _ _)
    · refine z_aload_n dX4_readClause_20 1 rfl ?_
      refine z_getR (j := 1) fX4_9 kc_33 rfl rfl rfl (by decide) dX4_readClause_21 ?_
      refine z_iconst (v := 1) dX4_readClause_24 (by decide) ?_
      refine z_callVV dX4_readClause_25 (M_X8_fail _ _) bX8_fail lX4_68 kc_1 rfl rfl (Nat.le_of_ble_eq_true rfl) (Nat.le_of_ble_eq_true rfl) (fun r25 h26 => ?_)
      exact z_vret dX4_readClause_28 rfl
theorem M_X4_readClause (h : AHp) : MV QX4_readClause 119 [.ref 33] h (m_X4_readClause h) := MV.of (by decide) rfl rfl (Nat.le_of_ble_eq_true rfl) (w_X4_readClause h)
set_option maxHeartbeats 4000000 in
set_option maxRecDepth 100000 in
theorem w_X2_clear {j : Nat} (hj_j : isLaw j) (h : AHp) : WO tvV QX2_clear 0 0 [(0, .ref j)] [] h (m_X2_clear j h) := by
  unfold m_X2_clear
  refine z_aload_n dX2_clear_0 0 rfl ?_
  refine z_iconst (v := 0) dX2_clear_1 (by decide) ?_
  refine z_putI fX2_33 (law_k hj_j) rfl dX2_clear_2 ?_
  refine z_lh (fun h1 => ?_)
  refine z_aload_n dX2_clear_5 0 rfl ?_
  refine z_bipush (v := 9) dX2_clear_6 (by decide) ?_
  refine z_putI fX2_37 (law_k hj_j) rfl dX2_clear_8 ?_
  refine z_lh (fun h2 => ?_)
  refine z_aload_n dX2_clear_11 0 rfl ?_
  refine z_iconst (v := 0) dX2_clear_12 (by decide) ?_
  refine z_putI fX2_40 (law_k hj_j) rfl dX2_clear_13 ?_
  refine z_lh (fun h3 => ?_)
  refine z_aload_n dX2_clear_16 0 rfl ?_
  refine z_iconst (v := 0) dX2_clear_17 (by decide) ?_
  refine z_putI fX2_43 (law_k hj_j) rfl dX2_clear_18 ?_
  refine z_lh (fun h4 => ?_)
  exact z_vret dX2_clear_21 rfl
theorem M_X2_clear {j : Nat} (hj_j : isLaw j) (h : AHp) : MV QX2_clear 0 [.ref j] h (m_X2_clear j h) := MV.of (by decide) rfl rfl (Nat.le_of_ble_eq_true rfl) (w_X2_clear hj_j h)
set_option maxHeartbeats 4000000 in
set_option maxRecDepth 100000 in
theorem w_X4_readLaw_55 {j : Nat} (hj_j : isLaw j) (h : AHp) : WO tvI QX4_readLaw 120 55 [(0, .ref 33)] [] h (m_X4_readLaw_55 j h) := by
  unfold m_X4_readLaw_55
  refine z_aload_n dX4_readLaw_55 0 rfl ?_
  refine z_getR (j := 1) fX4_9 kc_33 rfl rfl rfl (by decide) dX4_readLaw_56 ?_
  refine z_callVV dX4_readLaw_59 (M_X8_endText _) bX8_endText lX4_32 kc_1 rfl rfl (Nat.le_of_ble_eq_true rfl) (Nat.le_of_ble_eq_true rfl) (fun r1 h2 => ?_)
  refine z_aload_n dX4_readLaw_62 0 rfl ?_
  refine z_getR (j := 1) fX4_9 kc_33 rfl rfl rfl (by decide) dX4_readLaw_63 ?_
  refine z_callVI dX4_readLaw_66 (M_X8_isSound _) bX8_isSound lX4_35 kc_1 rfl rfl (Nat.le_of_ble_eq_true rfl) (Nat.le_of_ble_eq_true rfl) (fun r3 h4 => ?_)
  refine z_if_eq (tgt := 82) dX4_readLaw_69 (by decide) ?_ ?_
  · refine z_aload_n dX4_readLaw_82 0 rfl ?_
    refine z_getR (j := 1) fX4_9 kc_33 rfl rfl rfl (by decide) dX4_readLaw_83 ?_
    refine z_getIN fX4_40 kc_1 rfl dX4_readLaw_86 ?_
    exact z_iret dX4_readLaw_89 rfl
  · refine z_aload_n dX4_readLaw_72 0 rfl ?_
    refine z_gd (fun g5 => ?_)
    refine z_getM fX4_18 kc_33 rfl rfl (law_ne g5) dX4_readLaw_73 ?_
    refine z_getIN fX4_87 (law_k g5) rfl dX4_readLaw_76 ?_
    refine z_goto (tgt := 89) dX4_readLaw_79 (by decide) ?_
    exact z_iret dX4_readLaw_89 rfl
set_option maxHeartbeats 4000000 in
set_option maxRecDepth 100000 in
theorem w_X4_readLaw_26 {j : Nat} (hj_j : isLaw j) : ∀ (f : Nat) (x3 : Int32) (h : AHp), WO tvI QX4_readLaw 120 26 [(0, .ref 33), (3, .int x3)] [] h (m_X4_readLaw_26 j f x3 h) := by
  intro f
  induction f with
  | zero => intro x3 h; exact z_none
  | succ f ih =>
    intro x3 h
    rw [m_X4_readLaw_26]
    refine z_iload_n dX4_readLaw_26 1 rfl ?_
    refine z_sipush (v := 200) dX4_readLaw_27 (by decide) ?_
    refine z_ic_ge (tgt := 55) dX4_readLaw_30 (by decide) ?_ ?_
    · exact z_sub [0] rfl (w_X4_readLaw_55 hj_j _)
    · refine z_aload_n dX4_readLaw_33 0 rfl ?_
      refine z_getR (j := 1) fX4_9 kc_33 rfl rfl rfl (by decide) dX4_readLaw_34 ?_
      refine z_bipush (v := 59) dX4_readLaw_37 (by decide) ?_
      refine z_callVI dX4_readLaw_39 (M_X8_takes _ _) bX8_takes lX4_47 kc_1 rfl rfl (Nat.le_of_ble_eq_true rfl) (Nat.le_of_ble_eq_true rfl) (fun r6 h7 => ?_)
      refine z_if_eq (tgt := 55) dX4_readLaw_42 (by decide) ?_ ?_
      · exact z_sub [0] rfl (w_X4_readLaw_55 hj_j _)
      · refine z_aload_n dX4_readLaw_45 0 rfl ?_
        refine z_callVV dX4_readLaw_46 (M_X4_readClause _) bX4_readClause lX4_84 kc_33 rfl rfl (Nat.le_of_ble_eq_true rfl) (Nat.le_of_ble_eq_true rfl) (fun r8 h9 => ?_)
        refine z_iincL (lv2 := fun v10 => [(3, .int v10), (0, .ref 33)]) dX4_readLaw_49 1 rfl rfl (Nat.le_of_ble_eq_true rfl) (fun _ => rfl) (fun v10 => ?_)
        refine z_goto (tgt := 26) dX4_readLaw_52 (by decide) ?_
        exact z_sub [1, 0] rfl (ih _ _)
set_option maxHeartbeats 4000000 in
set_option maxRecDepth 100000 in
theorem w_X4_readLaw {j : Nat} (hj_j : isLaw j) (x1 : Int32) (h : AHp) : WO tvI QX4_readLaw 120 0 [(0, .ref 33), (1, .int x1), (2, .ref j)] [] h (m_X4_readLaw j x1 h) := by
  unfold m_X4_readLaw
  refine z_aload_n dX4_readLaw_0 0 rfl ?_
  refine z_aload_n dX4_readLaw_1 2 rfl ?_
  refine z_putM fX4_18 kc_33 rfl rfl (law_ne hj_j) dX4_readLaw_2 ?_
  refine z_lh (fun h11 => ?_)
  refine z_aload_n dX4_readLaw_5 0 rfl ?_
  refine z_gd (fun g12 => ?_)
  refine z_getM fX4_18 kc_33 rfl rfl (law_ne g12) dX4_readLaw_6 ?_
  refine z_callVV dX4_readLaw_9 (M_X2_clear g12 _) bX2_clear lX4_81 (law_k g12) rfl rfl (Nat.le_of_ble_eq_true rfl) (Nat.le_of_ble_eq_true rfl) (fun r13 h14 => ?_)
  refine z_aload_n dX4_readLaw_12 0 rfl ?_
  refine z_getR (j := 1) fX4_9 kc_33 rfl rfl rfl (by decide) dX4_readLaw_13 ?_
  refine z_iload_n dX4_readLaw_16 1 rfl ?_
  refine z_callVV dX4_readLaw_17 (M_X8_startText _ _) bX8_startText lX4_22 kc_1 rfl rfl (Nat.le_of_ble_eq_true rfl) (Nat.le_of_ble_eq_true rfl) (fun r15 h16 => ?_)
  refine z_aload_n dX4_readLaw_20 0 rfl ?_
  refine z_callVV dX4_readLaw_21 (M_X4_readClause _) bX4_readClause lX4_84 kc_33 rfl rfl (Nat.le_of_ble_eq_true rfl) (Nat.le_of_ble_eq_true rfl) (fun r17 h18 => ?_)
  refine z_iconst (v := 0) dX4_readLaw_24 (by decide) ?_
  refine z_istore_n (lv2 := [(3, .int 0), (0, .ref 33), (1, .int x1), (2, .ref j)]) dX4_readLaw_25 (Nat.le_of_ble_eq_true rfl) rfl ?_
  exact z_sub [1, 0] rfl (w_X4_readLaw_26 hj_j FU _ _)
theorem M_X4_readLaw {j : Nat} (hj_j : isLaw j) (x1 : Int32) (h : AHp) : MI QX4_readLaw 120 [.ref 33, .int x1, .ref j] h (m_X4_readLaw j x1 h) := MI.of (by decide) rfl rfl (Nat.le_of_ble_eq_true rfl) (w_X4_readLaw hj_j x1 h)
set_option maxHeartbeats 4000000 in
set_option maxRecDepth 100000 in
theorem w_X9_takeSpare_15 (x1 : Int32) (s0 : Nat) (h : AHp) : WO tvV QX9_takeSpare 0 15 [(0, .ref 3), (1, .int x1)] [.ref s0] h (m_X9_takeSpare_15 x1 s0 h) := by
  unfold m_X9_takeSpare_15
  refine z_astore_n (lv2 := [(2, .ref s0), (0, .ref 3), (1, .int x1)]) dX9_takeSpare_15 (Nat.le_of_ble_eq_true rfl) rfl ?_
  refine z_iload_n dX9_takeSpare_16 2 rfl ?_
  refine z_if_ne (tgt := 31) dX9_takeSpare_17 (by decide) ?_ ?_
  · refine z_aload_n dX9_takeSpare_31 1 rfl ?_
    refine z_aload_n dX9_takeSpare_32 1 rfl ?_
    refine z_gd (fun g1 => ?_)
    refine z_getM fX9_31 kc_3 rfl rfl (law_ne g1) dX9_takeSpare_33 ?_
    refine z_putM fX9_28 kc_3 rfl rfl (law_ne g1) dX9_takeSpare_36 ?_
    refine z_lh (fun h2 => ?_)
    refine z_aload_n dX9_takeSpare_39 1 rfl ?_
    refine z_aload_n dX9_takeSpare_40 0 rfl ?_
    refine z_gd (fun g4 => ?_)
    refine z_putM fX9_31 kc_3 rfl rfl (law_ne g4) dX9_takeSpare_41 ?_
    refine z_lh (fun h3 => ?_)
    exact z_vret dX9_takeSpare_44 rfl
  · refine z_aload_n dX9_takeSpare_20 1 rfl ?_
    refine z_aload_n dX9_takeSpare_21 1 rfl ?_
    refine z_gd (fun g5 => ?_)
    refine z_getM fX9_31 kc_3 rfl rfl (law_ne g5) dX9_takeSpare_22 ?_
    refine z_putM fX9_24 kc_3 rfl rfl (law_ne g5) dX9_takeSpare_25 ?_
    refine z_lh (fun h6 => ?_)
    refine z_goto (tgt := 39) dX9_takeSpare_28 (by decide) ?_
    refine z_aload_n dX9_takeSpare_39 1 rfl ?_
    refine z_aload_n dX9_takeSpare_40 0 rfl ?_
    refine z_gd (fun g8 => ?_)
    refine z_putM fX9_31 kc_3 rfl rfl (law_ne g8) dX9_takeSpare_41 ?_
    refine z_lh (fun h7 => ?_)
    exact z_vret dX9_takeSpare_44 rfl
set_option maxHeartbeats 4000000 in
set_option maxRecDepth 100000 in
theorem w_X9_takeSpare (x1 : Int32) (h : AHp) : WO tvV QX9_takeSpare 0 0 [(0, .ref 3), (1, .int x1)] [] h (m_X9_takeSpare x1 h) := by
  unfold m_X9_takeSpare
  refine z_iload_n dX9_takeSpare_0 1 rfl ?_
  refine z_if_ne (tgt := 11) dX9_takeSpare_1 (by decide) ?_ ?_
  · refine z_aload_n dX9_takeSpare_11 0 rfl ?_
    refine z_gd (fun g9 => ?_)
    refine z_getM fX9_28 kc_3 rfl rfl (law_ne g9) dX9_takeSpare_12 ?_
    exact w_X9_takeSpare_15 _ _ _
  · refine z_aload_n dX9_takeSpare_4 0 rfl ?_
    refine z_gd (fun g10 => ?_)
    refine z_getM fX9_24 kc_3 rfl rfl (law_ne g10) dX9_takeSpare_5 ?_
    refine z_goto (tgt := 15) dX9_takeSpare_8 (by decide) ?_
    exact w_X9_takeSpare_15 _ _ _
theorem M_X9_takeSpare (x1 : Int32) (h : AHp) : MV QX9_takeSpare 0 [.ref 3, .int x1] h (m_X9_takeSpare x1 h) := MV.of (by decide) rfl rfl (Nat.le_of_ble_eq_true rfl) (w_X9_takeSpare x1 h)
set_option maxHeartbeats 4000000 in
set_option maxRecDepth 100000 in
theorem w_X11_law (x1 : Int32) (x2 : Int32) (h : AHp) : WO tvI QX11_law 121 0 [(0, .ref 0), (1, .int x1), (2, .int x2)] [] h (m_X11_law x1 x2 h) := by
  unfold m_X11_law
  refine z_iload_n dX11_law_0 1 rfl ?_
  refine z_callSI dX11_law_1 (M_X11_isLaw _ _) bX11_isLaw lX11_132 rfl rfl (Nat.le_of_ble_eq_true rfl) (Nat.le_of_ble_eq_true rfl) (fun r1 h2 => ?_)
  refine z_if_eq (tgt := 19) dX11_law_4 (by decide) ?_ ?_
  · refine z_iconst (v := -1) dX11_law_19 (by decide) ?_
    exact z_iret dX11_law_20 rfl
  · refine z_aload_n dX11_law_7 0 rfl ?_
    refine z_iload_n dX11_law_8 2 rfl ?_
    refine z_sipush (v := 200) dX11_law_9 (by decide) ?_
    refine z_iconst (v := 1) dX11_law_12 (by decide) ?_
    refine z_callVI dX11_law_13 (M_X11_isOnTape _ _ _ _) bX11_isOnTape lX11_103 kc_0 rfl rfl (Nat.le_of_ble_eq_true rfl) (Nat.le_of_ble_eq_true rfl) (fun r3 h4 => ?_)
    refine z_if_ne (tgt := 21) dX11_law_16 (by decide) ?_ ?_
    · refine z_aload_n dX11_law_21 0 rfl ?_
      refine z_getR (j := 33) fX11_27 kc_0 rfl rfl rfl (by decide) dX11_law_22 ?_
      refine z_iload_n dX11_law_25 2 rfl ?_
      refine z_aload_n dX11_law_26 0 rfl ?_
      refine z_getR (j := 3) fX11_31 kc_0 rfl rfl rfl (by decide) dX11_law_27 ?_
      refine z_gd (fun g5 => ?_)
      refine z_getMN fX11_135 kc_3 rfl rfl (law_ne g5) dX11_law_30 ?_
      refine z_callVI dX11_law_33 (M_X4_readLaw g5 _ _) bX4_readLaw lX11_139 kc_33 rfl rfl (Nat.le_of_ble_eq_true rfl) (Nat.le_of_ble_eq_true rfl) (fun r6 h7 => ?_)
      refine z_istore_n (lv2 := [(3, .int r6), (0, .ref 0), (1, .int x1), (2, .int x2)]) dX11_law_36 (Nat.le_of_ble_eq_true rfl) rfl ?_
      refine z_aload_n dX11_law_37 1 rfl ?_
      refine z_getR (j := 1) fX11_18 kc_0 rfl rfl rfl (by decide) dX11_law_38 ?_
      refine z_callVV dX11_law_41 (M_X8_clear _) bX8_clear lX11_111 kc_1 rfl rfl (Nat.le_of_ble_eq_true rfl) (Nat.le_of_ble_eq_true rfl) (fun r8 h9 => ?_)
      refine z_iload_n dX11_law_44 0 rfl ?_
      refine z_if_lt (tgt := 56) dX11_law_45 (by decide) ?_ ?_
      · refine z_iload_n dX11_law_56 0 rfl ?_
        exact z_iret dX11_law_57 rfl
      · refine z_aload_n dX11_law_48 1 rfl ?_
        refine z_getR (j := 3) fX11_31 kc_0 rfl rfl rfl (by decide) dX11_law_49 ?_
        refine z_iload_n dX11_law_52 2 rfl ?_
        refine z_callVV dX11_law_53 (M_X9_takeSpare _ _) bX9_takeSpare lX11_143 kc_3 rfl rfl (Nat.le_of_ble_eq_true rfl) (Nat.le_of_ble_eq_true rfl) (fun r10 h11 => ?_)
        refine z_iload_n dX11_law_56 0 rfl ?_
        exact z_iret dX11_law_57 rfl
    · refine z_iconst (v := -1) dX11_law_19 (by decide) ?_
      exact z_iret dX11_law_20 rfl
theorem M_X11_law (x1 : Int32) (x2 : Int32) (h : AHp) : MI QX11_law 121 [.ref 0, .int x1, .int x2] h (m_X11_law x1 x2 h) := MI.of (by decide) rfl rfl (Nat.le_of_ble_eq_true rfl) (w_X11_law x1 x2 h)
set_option maxHeartbeats 4000000 in
set_option maxRecDepth 100000 in
theorem w_X9_bitOf (x1 : Int32) (x2 : Int32) (h : AHp) : WO tvI QX9_bitOf 2 0 [(0, .ref 3), (1, .int x1), (2, .int x2)] [] h (m_X9_bitOf x1 x2 h) := by
  unfold m_X9_bitOf
  refine z_iload_n dX9_bitOf_0 2 rfl ?_
  refine z_iconst (v := 1) dX9_bitOf_1 (by decide) ?_
  refine z_ic_lt (tgt := 23) dX9_bitOf_2 (by decide) ?_ ?_
  · refine z_iconst (v := 0) dX9_bitOf_23 (by decide) ?_
    exact z_iret dX9_bitOf_24 rfl
  · refine z_iload_n dX9_bitOf_5 2 rfl ?_
    refine z_bipush (v := 24) dX9_bitOf_6 (by decide) ?_
    refine z_ic_gt (tgt := 23) dX9_bitOf_8 (by decide) ?_ ?_
    · refine z_iconst (v := 0) dX9_bitOf_23 (by decide) ?_
      exact z_iret dX9_bitOf_24 rfl
    · refine z_aload_n dX9_bitOf_11 0 rfl ?_
      refine z_iload_n dX9_bitOf_12 1 rfl ?_
      refine z_callVI dX9_bitOf_13 (M_X9_sizesOf _ _) bX9_sizesOf lX9_38 kc_3 rfl rfl (Nat.le_of_ble_eq_true rfl) (Nat.le_of_ble_eq_true rfl) (fun r1 h2 => ?_)
      refine z_iconst (v := 1) dX9_bitOf_16 (by decide) ?_
      refine z_iload_n dX9_bitOf_17 2 rfl ?_
      refine z_ishl dX9_bitOf_18 ?_
      refine z_iand dX9_bitOf_19 ?_
      refine z_goto (tgt := 24) dX9_bitOf_20 (by decide) ?_
      exact z_iret dX9_bitOf_24 rfl
theorem M_X9_bitOf (x1 : Int32) (x2 : Int32) (h : AHp) : MI QX9_bitOf 2 [.ref 3, .int x1, .int x2] h (m_X9_bitOf x1 x2 h) := MI.of (by decide) rfl rfl (Nat.le_of_ble_eq_true rfl) (w_X9_bitOf x1 x2 h)
set_option maxHeartbeats 4000000 in
set_option maxRecDepth 100000 in
theorem w_X7_has (x1 : Int32) (h : AHp) : WO tvI QX7_has 0 0 [(0, .ref 42), (1, .int x1)] [] h (m_X7_has x1 h) := by
  unfold m_X7_has
  refine z_iload_n dX7_has_0 1 rfl ?_
  refine z_if_lt (tgt := 23) dX7_has_1 (by decide) ?_ ?_
  · refine z_iconst (v := 0) dX7_has_23 (by decide) ?_
    exact z_zret dX7_has_24 rfl (Or.inl rfl)
  · refine z_iload_n dX7_has_4 1 rfl ?_
    refine z_aload_n dX7_has_5 0 rfl ?_
    refine z_getI fX7_21 kc_42 rfl dX7_has_6 ?_
    refine z_ic_ge (tgt := 23) dX7_has_9 (by decide) ?_ ?_
    · refine z_iconst (v := 0) dX7_has_23 (by decide) ?_
      exact z_zret dX7_has_24 rfl (Or.inl rfl)
    · refine z_iload_n dX7_has_12 1 rfl ?_
      refine z_sipush (v := 200) dX7_has_13 (by decide) ?_
      refine z_ic_ge (tgt := 23) dX7_has_16 (by decide) ?_ ?_
      · refine z_iconst (v := 0) dX7_has_23 (by decide) ?_
        exact z_zret dX7_has_24 rfl (Or.inl rfl)
      · refine z_iconst (v := 1) dX7_has_19 (by decide) ?_
        refine z_goto (tgt := 24) dX7_has_20 (by decide) ?_
        exact z_zret dX7_has_24 rfl (Or.inr rfl)
theorem M_X7_has (x1 : Int32) (h : AHp) : MI QX7_has 0 [.ref 42, .int x1] h (m_X7_has x1 h) := MI.of (by decide) rfl rfl (Nat.le_of_ble_eq_true rfl) (w_X7_has x1 h)
set_option maxHeartbeats 4000000 in
set_option maxRecDepth 100000 in
theorem w_X7_spanAt (x1 : Int32) (h : AHp) : WO tvI QX7_spanAt 1 0 [(0, .ref 42), (1, .int x1)] [] h (m_X7_spanAt x1 h) := by
  unfold m_X7_spanAt
  refine z_aload_n dX7_spanAt_0 0 rfl ?_
  refine z_iload_n dX7_spanAt_1 1 rfl ?_
  refine z_callVI dX7_spanAt_2 (M_X7_has _ _) bX7_has lX7_28 kc_42 rfl rfl (Nat.le_of_ble_eq_true rfl) (Nat.le_of_ble_eq_true rfl) (fun r1 h2 => ?_)
  refine z_if_eq (tgt := 17) dX7_spanAt_5 (by decide) ?_ ?_
  · refine z_iconst (v := 0) dX7_spanAt_17 (by decide) ?_
    exact z_iret dX7_spanAt_18 rfl
  · refine z_aload_n dX7_spanAt_8 0 rfl ?_
    refine z_getR (j := 45) fX7_18 kc_42 rfl rfl rfl (by decide) dX7_spanAt_9 ?_
    refine z_iload_n dX7_spanAt_12 1 rfl ?_
    refine z_gd (fun g3 => ?_)
    refine z_iald kc_45 dX7_spanAt_13 g3 ?_
    refine z_goto (tgt := 18) dX7_spanAt_14 (by decide) ?_
    exact z_iret dX7_spanAt_18 rfl
theorem M_X7_spanAt (x1 : Int32) (h : AHp) : MI QX7_spanAt 1 [.ref 42, .int x1] h (m_X7_spanAt x1 h) := MI.of (by decide) rfl rfl (Nat.le_of_ble_eq_true rfl) (w_X7_spanAt x1 h)
set_option maxHeartbeats 4000000 in
set_option maxRecDepth 100000 in
theorem w_X7_speakerAt (x1 : Int32) (h : AHp) : WO tvI QX7_speakerAt 1 0 [(0, .ref 42), (1, .int x1)] [] h (m_X7_speakerAt x1 h) := by
  unfold m_X7_speakerAt
  refine z_aload_n dX7_speakerAt_0 0 rfl ?_
  refine z_iload_n dX7_speakerAt_1 1 rfl ?_
  refine z_callVI dX7_speakerAt_2 (M_X7_has _ _) bX7_has lX7_28 kc_42 rfl rfl (Nat.le_of_ble_eq_true rfl) (Nat.le_of_ble_eq_true rfl) (fun r1 h2 => ?_)
  refine z_if_eq (tgt := 17) dX7_speakerAt_5 (by decide) ?_ ?_
  · refine z_iconst (v := -1) dX7_speakerAt_17 (by decide) ?_
    exact z_iret dX7_speakerAt_18 rfl
  · refine z_aload_n dX7_speakerAt_8 0 rfl ?_
    refine z_getR (j := 43) fX7_9 kc_42 rfl rfl rfl (by decide) dX7_speakerAt_9 ?_
    refine z_iload_n dX7_speakerAt_12 1 rfl ?_
    refine z_gd (fun g3 => ?_)
    refine z_iald kc_43 dX7_speakerAt_13 g3 ?_
    refine z_goto (tgt := 18) dX7_speakerAt_14 (by decide) ?_
    exact z_iret dX7_speakerAt_18 rfl
theorem M_X7_speakerAt (x1 : Int32) (h : AHp) : MI QX7_speakerAt 1 [.ref 42, .int x1] h (m_X7_speakerAt x1 h) := MI.of (by decide) rfl rfl (Nat.le_of_ble_eq_true rfl) (w_X7_speakerAt x1 h)
set_option maxHeartbeats 4000000 in
set_option maxRecDepth 100000 in
theorem w_X11_standNow (h : AHp) : WO tvV QX11_standNow 3 0 [(0, .ref 0)] [] h (m_X11_standNow h) := by
  unfold m_X11_standNow
  refine z_aload_n dX11_standNow_0 0 rfl ?_
  refine z_getR (j := 3) fX11_31 kc_0 rfl rfl rfl (by decide) dX11_standNow_1 ?_
  refine z_aload_n dX11_standNow_4 0 rfl ?_
  refine z_getR (j := 42) fX11_38 kc_0 rfl rfl rfl (by decide) dX11_standNow_5 ?_
  refine z_aload_n dX11_standNow_8 0 rfl ?_
  refine z_getR (j := 42) fX11_38 kc_0 rfl rfl rfl (by decide) dX11_standNow_9 ?_
  refine z_getIN fX11_157 kc_42 rfl dX11_standNow_12 ?_
  refine z_iconst (v := 1) dX11_standNow_15 (by decide) ?_
  refine z_isub dX11_standNow_16 ?_
  refine z_callVI dX11_standNow_17 (M_X7_spanAt _ _) bX7_spanAt lX11_170 kc_42 rfl rfl (Nat.le_of_ble_eq_true rfl) (Nat.le_of_ble_eq_true rfl) (fun r1 h2 => ?_)
  refine z_aload_n dX11_standNow_20 0 rfl ?_
  refine z_getR (j := 42) fX11_38 kc_0 rfl rfl rfl (by decide) dX11_standNow_21 ?_
  refine z_aload_n dX11_standNow_24 0 rfl ?_
  refine z_getR (j := 42) fX11_38 kc_0 rfl rfl rfl (by decide) dX11_standNow_25 ?_
  refine z_getIN fX11_157 kc_42 rfl dX11_standNow_28 ?_
  refine z_iconst (v := 2) dX11_standNow_31 (by decide) ?_
  refine z_isub dX11_standNow_32 ?_
  refine z_callVI dX11_standNow_33 (M_X7_spanAt _ _) bX7_spanAt lX11_170 kc_42 rfl rfl (Nat.le_of_ble_eq_true rfl) (Nat.le_of_ble_eq_true rfl) (fun r3 h4 => ?_)
  refine z_aload_n dX11_standNow_36 0 rfl ?_
  refine z_getR (j := 42) fX11_38 kc_0 rfl rfl rfl (by decide) dX11_standNow_37 ?_
  refine z_aload_n dX11_standNow_40 0 rfl ?_
  refine z_getR (j := 42) fX11_38 kc_0 rfl rfl rfl (by decide) dX11_standNow_41 ?_
  refine z_getIN fX11_157 kc_42 rfl dX11_standNow_44 ?_
  refine z_iconst (v := 1) dX11_standNow_47 (by decide) ?_
  refine z_isub dX11_standNow_48 ?_
  refine z_callVI dX11_standNow_49 (M_X7_speakerAt _ _) bX7_speakerAt lX11_164 kc_42 rfl rfl (Nat.le_of_ble_eq_true rfl) (Nat.le_of_ble_eq_true rfl) (fun r5 h6 => ?_)
  refine z_aload_n dX11_standNow_52 0 rfl ?_
  refine z_getR (j := 42) fX11_38 kc_0 rfl rfl rfl (by decide) dX11_standNow_53 ?_
  refine z_getIN fX11_157 kc_42 rfl dX11_standNow_56 ?_
  refine z_callVV dX11_standNow_59 (M_X9_stand _ _ _ _ _) bX9_stand lX11_284 kc_3 rfl rfl (Nat.le_of_ble_eq_true rfl) (Nat.le_of_ble_eq_true rfl) (fun r7 h8 => ?_)
  exact z_vret dX11_standNow_62 rfl
theorem M_X11_standNow (h : AHp) : MV QX11_standNow 3 [.ref 0] h (m_X11_standNow h) := MV.of (by decide) rfl rfl (Nat.le_of_ble_eq_true rfl) (w_X11_standNow h)
set_option maxHeartbeats 4000000 in
set_option maxRecDepth 100000 in
theorem w_X11_may (x1 : Int32) (x2 : Int32) (x3 : Int32) (x4 : Int32) (h : AHp) : WO tvI QX11_may 4 0 [(0, .ref 0), (1, .int x1), (2, .int x2), (3, .int x3), (4, .int x4)] [] h (m_X11_may x1 x2 x3 x4 h) := by
  unfold m_X11_may
  refine z_iload_n dX11_may_0 1 rfl ?_
  refine z_callSI dX11_may_1 (M_X11_isLaw _ _) bX11_isLaw lX11_132 rfl rfl (Nat.le_of_ble_eq_true rfl) (Nat.le_of_ble_eq_true rfl) (fun r1 h2 => ?_)
  refine z_if_eq (tgt := 21) dX11_may_4 (by decide) ?_ ?_
  · refine z_iconst (v := -1) dX11_may_21 (by decide) ?_
    exact z_iret dX11_may_22 rfl
  · refine z_iload_n dX11_may_7 2 rfl ?_
    refine z_callSI dX11_may_8 (M_X11_isSpeaker _ _) bX11_isSpeaker lX11_126 rfl rfl (Nat.le_of_ble_eq_true rfl) (Nat.le_of_ble_eq_true rfl) (fun r3 h4 => ?_)
    refine z_if_eq (tgt := 21) dX11_may_11 (by decide) ?_ ?_
    · refine z_iconst (v := -1) dX11_may_21 (by decide) ?_
      exact z_iret dX11_may_22 rfl
    · refine z_iload_n dX11_may_14 3 rfl ?_
      refine z_callSI dX11_may_15 (M_X11_isThing _ _) bX11_isThing lX11_99 rfl rfl (Nat.le_of_ble_eq_true rfl) (Nat.le_of_ble_eq_true rfl) (fun r5 h6 => ?_)
      refine z_if_ne (tgt := 23) dX11_may_18 (by decide) ?_ ?_
      · refine z_aload_n dX11_may_23 0 rfl ?_
        refine z_getR (j := 3) fX11_31 kc_0 rfl rfl rfl (by decide) dX11_may_24 ?_
        refine z_iload_n dX11_may_27 3 rfl ?_
        refine z_iload dX11_may_28 4 rfl ?_
        refine z_callVI dX11_may_30 (M_X9_bitOf _ _ _) bX9_bitOf lX11_146 kc_3 rfl rfl (Nat.le_of_ble_eq_true rfl) (Nat.le_of_ble_eq_true rfl) (fun r7 h8 => ?_)
        refine z_istore (lv2 := [(5, .int r7), (0, .ref 0), (1, .int x1), (2, .int x2), (3, .int x3), (4, .int x4)]) dX11_may_33 (Nat.le_of_ble_eq_true rfl) rfl ?_
        refine z_iload dX11_may_35 0 rfl ?_
        refine z_if_ne (tgt := 43) dX11_may_37 (by decide) ?_ ?_
        · refine z_aload_n dX11_may_43 1 rfl ?_
          refine z_callVV dX11_may_44 (M_X11_standNow _) bX11_standNow lX11_150 kc_0 rfl rfl (Nat.le_of_ble_eq_true rfl) (Nat.le_of_ble_eq_true rfl) (fun r9 h10 => ?_)
          refine z_aload_n dX11_may_47 1 rfl ?_
          refine z_getR (j := 3) fX11_31 kc_0 rfl rfl rfl (by decide) dX11_may_48 ?_
          refine z_iconst (v := 1) dX11_may_51 (by decide) ?_
          refine z_iload_n dX11_may_52 2 rfl ?_
          refine z_ishl dX11_may_53 ?_
          refine z_iload_n dX11_may_54 3 rfl ?_
          refine z_iload_n dX11_may_55 4 rfl ?_
          refine z_iload dX11_may_56 0 rfl ?_
          refine z_callVI dX11_may_58 (M_X9_lets _ _ _ _ _) bX9_lets lX11_153 kc_3 rfl rfl (Nat.le_of_ble_eq_true rfl) (Nat.le_of_ble_eq_true rfl) (fun r11 h12 => ?_)
          refine z_if_ne (tgt := 68) dX11_may_61 (by decide) ?_ ?_
          · refine z_iconst (v := 1) dX11_may_68 (by decide) ?_
            exact z_iret dX11_may_69 rfl
          · refine z_iconst (v := 0) dX11_may_64 (by decide) ?_
            refine z_goto (tgt := 69) dX11_may_65 (by decide) ?_
            exact z_iret dX11_may_69 rfl
        · refine z_bipush (v := -2) dX11_may_40 (by decide) ?_
          exact z_iret dX11_may_42 rfl
      · refine z_iconst (v := -1) dX11_may_21 (by decide) ?_
        exact z_iret dX11_may_22 rfl
theorem M_X11_may (x1 : Int32) (x2 : Int32) (x3 : Int32) (x4 : Int32) (h : AHp) : MI QX11_may 4 [.ref 0, .int x1, .int x2, .int x3, .int x4] h (m_X11_may x1 x2 x3 x4 h) := MI.of (by decide) rfl rfl (Nat.le_of_ble_eq_true rfl) (w_X11_may x1 x2 x3 x4 h)
set_option maxHeartbeats 4000000 in
set_option maxRecDepth 100000 in
theorem w_X11_ways (x1 : Int32) (x2 : Int32) (x3 : Int32) (h : AHp) : WO tvI QX11_ways 4 0 [(0, .ref 0), (1, .int x1), (2, .int x2), (3, .int x3)] [] h (m_X11_ways x1 x2 x3 h) := by
  unfold m_X11_ways
  refine z_iload_n dX11_ways_0 1 rfl ?_
  refine z_callSI dX11_ways_1 (M_X11_isLaw _ _) bX11_isLaw lX11_132 rfl rfl (Nat.le_of_ble_eq_true rfl) (Nat.le_of_ble_eq_true rfl) (fun r1 h2 => ?_)
  refine z_if_eq (tgt := 21) dX11_ways_4 (by decide) ?_ ?_
  · refine z_iconst (v := -1) dX11_ways_21 (by decide) ?_
    exact z_iret dX11_ways_22 rfl
  · refine z_iload_n dX11_ways_7 2 rfl ?_
    refine z_callSI dX11_ways_8 (M_X11_isSpeaker _ _) bX11_isSpeaker lX11_126 rfl rfl (Nat.le_of_ble_eq_true rfl) (Nat.le_of_ble_eq_true rfl) (fun r3 h4 => ?_)
    refine z_if_eq (tgt := 21) dX11_ways_11 (by decide) ?_ ?_
    · refine z_iconst (v := -1) dX11_ways_21 (by decide) ?_
      exact z_iret dX11_ways_22 rfl
    · refine z_iload_n dX11_ways_14 3 rfl ?_
      refine z_callSI dX11_ways_15 (M_X11_isThing _ _) bX11_isThing lX11_99 rfl rfl (Nat.le_of_ble_eq_true rfl) (Nat.le_of_ble_eq_true rfl) (fun r5 h6 => ?_)
      refine z_if_ne (tgt := 23) dX11_ways_18 (by decide) ?_ ?_
      · refine z_aload_n dX11_ways_23 0 rfl ?_
        refine z_callVV dX11_ways_24 (M_X11_standNow _) bX11_standNow lX11_150 kc_0 rfl rfl (Nat.le_of_ble_eq_true rfl) (Nat.le_of_ble_eq_true rfl) (fun r7 h8 => ?_)
        refine z_aload_n dX11_ways_27 0 rfl ?_
        refine z_getR (j := 3) fX11_31 kc_0 rfl rfl rfl (by decide) dX11_ways_28 ?_
        refine z_iconst (v := 1) dX11_ways_31 (by decide) ?_
        refine z_iload_n dX11_ways_32 1 rfl ?_
        refine z_ishl dX11_ways_33 ?_
        refine z_iload_n dX11_ways_34 2 rfl ?_
        refine z_iload_n dX11_ways_35 3 rfl ?_
        refine z_aload_n dX11_ways_36 0 rfl ?_
        refine z_getR (j := 3) fX11_31 kc_0 rfl rfl rfl (by decide) dX11_ways_37 ?_
        refine z_iload_n dX11_ways_40 3 rfl ?_
        refine z_callVI dX11_ways_41 (M_X9_sizesOf _ _) bX9_sizesOf lX11_123 kc_3 rfl rfl (Nat.le_of_ble_eq_true rfl) (Nat.le_of_ble_eq_true rfl) (fun r9 h10 => ?_)
        refine z_callVI dX11_ways_44 (M_X9_lets _ _ _ _ _) bX9_lets lX11_153 kc_3 rfl rfl (Nat.le_of_ble_eq_true rfl) (Nat.le_of_ble_eq_true rfl) (fun r11 h12 => ?_)
        exact z_iret dX11_ways_47 rfl
      · refine z_iconst (v := -1) dX11_ways_21 (by decide) ?_
        exact z_iret dX11_ways_22 rfl
theorem M_X11_ways (x1 : Int32) (x2 : Int32) (x3 : Int32) (h : AHp) : MI QX11_ways 4 [.ref 0, .int x1, .int x2, .int x3] h (m_X11_ways x1 x2 x3 h) := MI.of (by decide) rfl rfl (Nat.le_of_ble_eq_true rfl) (w_X11_ways x1 x2 x3 h)
set_option maxHeartbeats 4000000 in
set_option maxRecDepth 100000 in
theorem w_X7_add (x1 : Int32) (x2 : Int32) (x3 : Int32) (h : AHp) : WO tvV QX7_add 0 0 [(0, .ref 42), (1, .int x1), (2, .int x2), (3, .int x3)] [] h (m_X7_add x1 x2 x3 h) := by
  unfold m_X7_add
  refine z_aload_n dX7_add_0 0 rfl ?_
  refine z_getI fX7_21 kc_42 rfl dX7_add_1 ?_
  refine z_sipush (v := 200) dX7_add_4 (by decide) ?_
  refine z_ic_ge (tgt := 60) dX7_add_7 (by decide) ?_ ?_
  · exact z_vret dX7_add_60 rfl
  · refine z_aload_n dX7_add_10 0 rfl ?_
    refine z_getR (j := 43) fX7_9 kc_42 rfl rfl rfl (by decide) dX7_add_11 ?_
    refine z_aload_n dX7_add_14 0 rfl ?_
    refine z_getI fX7_21 kc_42 rfl dX7_add_15 ?_
    refine z_iload_n dX7_add_18 1 rfl ?_
    refine z_gd (fun g2 => ?_)
    refine z_iast kc_43 dX7_add_19 g2 ?_
    refine z_lh (fun h1 => ?_)
    refine z_aload_n dX7_add_20 0 rfl ?_
    refine z_getR (j := 44) fX7_15 kc_42 rfl rfl rfl (by decide) dX7_add_21 ?_
    refine z_aload_n dX7_add_24 0 rfl ?_
    refine z_getI fX7_21 kc_42 rfl dX7_add_25 ?_
    refine z_iload_n dX7_add_28 2 rfl ?_
    refine z_gd (fun g4 => ?_)
    refine z_iast kc_44 dX7_add_29 g4 ?_
    refine z_lh (fun h3 => ?_)
    refine z_aload_n dX7_add_30 0 rfl ?_
    refine z_getR (j := 45) fX7_18 kc_42 rfl rfl rfl (by decide) dX7_add_31 ?_
    refine z_aload_n dX7_add_34 0 rfl ?_
    refine z_getI fX7_21 kc_42 rfl dX7_add_35 ?_
    refine z_iload_n dX7_add_38 3 rfl ?_
    refine z_gd (fun g6 => ?_)
    refine z_iast kc_45 dX7_add_39 g6 ?_
    refine z_lh (fun h5 => ?_)
    refine z_aload_n dX7_add_40 0 rfl ?_
    refine z_dup dX7_add_41 rfl ?_
    refine z_getI fX7_21 kc_42 rfl dX7_add_42 ?_
    refine z_iconst (v := 1) dX7_add_45 (by decide) ?_
    refine z_iadd dX7_add_46 ?_
    refine z_putI fX7_21 kc_42 rfl dX7_add_47 ?_
    refine z_lh (fun h7 => ?_)
    refine z_aload_n dX7_add_50 0 rfl ?_
    refine z_dup dX7_add_51 rfl ?_
    refine z_getI fX7_25 kc_42 rfl dX7_add_52 ?_
    refine z_iload_n dX7_add_55 3 rfl ?_
    refine z_iadd dX7_add_56 ?_
    refine z_putI fX7_25 kc_42 rfl dX7_add_57 ?_
    refine z_lh (fun h8 => ?_)
    exact z_vret dX7_add_60 rfl
theorem M_X7_add (x1 : Int32) (x2 : Int32) (x3 : Int32) (h : AHp) : MV QX7_add 0 [.ref 42, .int x1, .int x2, .int x3] h (m_X7_add x1 x2 x3 h) := MV.of (by decide) rfl rfl (Nat.le_of_ble_eq_true rfl) (w_X7_add x1 x2 x3 h)
set_option maxHeartbeats 4000000 in
set_option maxRecDepth 100000 in
theorem w_X11_say (x1 : Int32) (x2 : Int32) (x3 : Int32) (h : AHp) : WO tvI QX11_say 4 0 [(0, .ref 0), (1, .int x1), (2, .int x2), (3, .int x3)] [] h (m_X11_say x1 x2 x3 h) := by
  unfold m_X11_say
  refine z_iload_n dX11_say_0 1 rfl ?_
  refine z_callSI dX11_say_1 (M_X11_isSpeaker _ _) bX11_isSpeaker lX11_126 rfl rfl (Nat.le_of_ble_eq_true rfl) (Nat.le_of_ble_eq_true rfl) (fun r1 h2 => ?_)
  refine z_if_eq (tgt := 27) dX11_say_4 (by decide) ?_ ?_
  · refine z_iconst (v := -1) dX11_say_27 (by decide) ?_
    exact z_iret dX11_say_28 rfl
  · refine z_iload_n dX11_say_7 2 rfl ?_
    refine z_callSI dX11_say_8 (M_X11_isThing _ _) bX11_isThing lX11_99 rfl rfl (Nat.le_of_ble_eq_true rfl) (Nat.le_of_ble_eq_true rfl) (fun r3 h4 => ?_)
    refine z_if_eq (tgt := 27) dX11_say_11 (by decide) ?_ ?_
    · refine z_iconst (v := -1) dX11_say_27 (by decide) ?_
      exact z_iret dX11_say_28 rfl
    · refine z_aload_n dX11_say_14 0 rfl ?_
      refine z_getR (j := 42) fX11_38 kc_0 rfl rfl rfl (by decide) dX11_say_15 ?_
      refine z_getIN fX11_157 kc_42 rfl dX11_say_18 ?_
      refine z_sipush (v := 200) dX11_say_21 (by decide) ?_
      refine z_ic_lt (tgt := 29) dX11_say_24 (by decide) ?_ ?_
      · refine z_aload_n dX11_say_29 0 rfl ?_
        refine z_getR (j := 3) fX11_31 kc_0 rfl rfl rfl (by decide) dX11_say_30 ?_
        refine z_iload_n dX11_say_33 2 rfl ?_
        refine z_iload_n dX11_say_34 3 rfl ?_
        refine z_callVI dX11_say_35 (M_X9_bitOf _ _ _) bX9_bitOf lX11_146 kc_3 rfl rfl (Nat.le_of_ble_eq_true rfl) (Nat.le_of_ble_eq_true rfl) (fun r5 h6 => ?_)
        refine z_istore (lv2 := [(4, .int r5), (0, .ref 0), (1, .int x1), (2, .int x2), (3, .int x3)]) dX11_say_38 (Nat.le_of_ble_eq_true rfl) rfl ?_
        refine z_iload dX11_say_40 0 rfl ?_
        refine z_if_ne (tgt := 48) dX11_say_42 (by decide) ?_ ?_
        · refine z_aload_n dX11_say_48 1 rfl ?_
          refine z_callVV dX11_say_49 (M_X11_standNow _) bX11_standNow lX11_150 kc_0 rfl rfl (Nat.le_of_ble_eq_true rfl) (Nat.le_of_ble_eq_true rfl) (fun r7 h8 => ?_)
          refine z_aload_n dX11_say_52 1 rfl ?_
          refine z_getR (j := 3) fX11_31 kc_0 rfl rfl rfl (by decide) dX11_say_53 ?_
          refine z_iconst (v := 1) dX11_say_56 (by decide) ?_
          refine z_iload_n dX11_say_57 2 rfl ?_
          refine z_iload_n dX11_say_58 3 rfl ?_
          refine z_iload dX11_say_59 0 rfl ?_
          refine z_callVI dX11_say_61 (M_X9_lets _ _ _ _ _) bX9_lets lX11_153 kc_3 rfl rfl (Nat.le_of_ble_eq_true rfl) (Nat.le_of_ble_eq_true rfl) (fun r9 h10 => ?_)
          refine z_if_ne (tgt := 70) dX11_say_64 (by decide) ?_ ?_
          · refine z_aload_n dX11_say_70 1 rfl ?_
            refine z_getR (j := 42) fX11_38 kc_0 rfl rfl rfl (by decide) dX11_say_71 ?_
            refine z_iload_n dX11_say_74 2 rfl ?_
            refine z_iload_n dX11_say_75 3 rfl ?_
            refine z_iload_n dX11_say_76 4 rfl ?_
            refine z_callVV dX11_say_77 (M_X7_add _ _ _ _) bX7_add lX11_160 kc_42 rfl rfl (Nat.le_of_ble_eq_true rfl) (Nat.le_of_ble_eq_true rfl) (fun r11 h12 => ?_)
            refine z_aload_n dX11_say_80 1 rfl ?_
            refine z_getR (j := 42) fX11_38 kc_0 rfl rfl rfl (by decide) dX11_say_81 ?_
            refine z_getIN fX11_157 kc_42 rfl dX11_say_84 ?_
            exact z_iret dX11_say_87 rfl
          · refine z_bipush (v := -3) dX11_say_67 (by decide) ?_
            exact z_iret dX11_say_69 rfl
        · refine z_bipush (v := -2) dX11_say_45 (by decide) ?_
          exact z_iret dX11_say_47 rfl
      · refine z_iconst (v := -1) dX11_say_27 (by decide) ?_
        exact z_iret dX11_say_28 rfl
theorem M_X11_say (x1 : Int32) (x2 : Int32) (x3 : Int32) (h : AHp) : MI QX11_say 4 [.ref 0, .int x1, .int x2, .int x3] h (m_X11_say x1 x2 x3 h) := MI.of (by decide) rfl rfl (Nat.le_of_ble_eq_true rfl) (w_X11_say x1 x2 x3 h)
set_option maxHeartbeats 4000000 in
set_option maxRecDepth 100000 in
theorem w_X7_thingAt (x1 : Int32) (h : AHp) : WO tvI QX7_thingAt 1 0 [(0, .ref 42), (1, .int x1)] [] h (m_X7_thingAt x1 h) := by
  unfold m_X7_thingAt
  refine z_aload_n dX7_thingAt_0 0 rfl ?_
  refine z_iload_n dX7_thingAt_1 1 rfl ?_
  refine z_callVI dX7_thingAt_2 (M_X7_has _ _) bX7_has lX7_28 kc_42 rfl rfl (Nat.le_of_ble_eq_true rfl) (Nat.le_of_ble_eq_true rfl) (fun r1 h2 => ?_)
  refine z_if_eq (tgt := 17) dX7_thingAt_5 (by decide) ?_ ?_
  · refine z_iconst (v := -1) dX7_thingAt_17 (by decide) ?_
    exact z_iret dX7_thingAt_18 rfl
  · refine z_aload_n dX7_thingAt_8 0 rfl ?_
    refine z_getR (j := 44) fX7_15 kc_42 rfl rfl rfl (by decide) dX7_thingAt_9 ?_
    refine z_iload_n dX7_thingAt_12 1 rfl ?_
    refine z_gd (fun g3 => ?_)
    refine z_iald kc_44 dX7_thingAt_13 g3 ?_
    refine z_goto (tgt := 18) dX7_thingAt_14 (by decide) ?_
    exact z_iret dX7_thingAt_18 rfl
theorem M_X7_thingAt (x1 : Int32) (h : AHp) : MI QX7_thingAt 1 [.ref 42, .int x1] h (m_X7_thingAt x1 h) := MI.of (by decide) rfl rfl (Nat.le_of_ble_eq_true rfl) (w_X7_thingAt x1 h)
set_option maxHeartbeats 4000000 in
set_option maxRecDepth 100000 in
theorem w_X2_pay_91 {j : Nat} (hj_j : isLaw j) (x3 : Int32) (s0 : Int32) (h : AHp) : WO tvI QX2_pay 1 91 [(0, .ref j), (3, .int x3)] [.int s0] h (m_X2_pay_91 j x3 s0 h) := by
  unfold m_X2_pay_91
  refine z_istore (lv2 := [(4, .int s0), (0, .ref j), (3, .int x3)]) dX2_pay_91 (Nat.le_of_ble_eq_true rfl) rfl ?_
  refine z_iload dX2_pay_93 0 rfl ?_
  refine z_if_eq (tgt := 102) dX2_pay_95 (by decide) ?_ ?_
  · refine z_iconst (v := 0) dX2_pay_102 (by decide) ?_
    refine z_sipush (v := 999) dX2_pay_103 (by decide) ?_
    refine z_aload_n dX2_pay_106 1 rfl ?_
    refine z_getR fX2_15 (law_k hj_j) rfl rfl (law_r1 hj_j) (Nat.succ_ne_zero _) dX2_pay_107 ?_
    refine z_iload_n dX2_pay_110 2 rfl ?_
    refine z_gd (fun g1 => ?_)
    refine z_iald (law_k1 hj_j) dX2_pay_111 g1 ?_
    refine z_mmin dX2_pay_112 lX2_59 w_mmin (Nat.le_of_ble_eq_true rfl) (Nat.le_of_ble_eq_true rfl) ?_
    refine z_mmax dX2_pay_115 lX2_64 w_mmax (Nat.le_of_ble_eq_true rfl) (Nat.le_of_ble_eq_true rfl) ?_
    exact z_iret dX2_pay_118 rfl
  · refine z_iconst (v := 0) dX2_pay_98 (by decide) ?_
    refine z_goto (tgt := 118) dX2_pay_99 (by decide) ?_
    exact z_iret dX2_pay_118 rfl
set_option maxHeartbeats 4000000 in
set_option maxRecDepth 100000 in
theorem w_X2_pay_14 {j : Nat} (hj_j : isLaw j) : ∀ (f : Nat) (x2 : Int32) (h : AHp), WO tvI QX2_pay 1 14 [(0, .ref j), (2, .int x2)] [] h (m_X2_pay_14 j f x2 h) := by
  intro f
  induction f with
  | zero => intro x2 h; exact z_none
  | succ f ih =>
    intro x2 h
    rw [m_X2_pay_14]
    refine z_iload_n dX2_pay_14 1 rfl ?_
    refine z_aload_n dX2_pay_15 0 rfl ?_
    refine z_getI fX2_40 (law_k hj_j) rfl dX2_pay_16 ?_
    refine z_ic_ge (tgt := 125) dX2_pay_19 (by decide) ?_ ?_
    · refine z_iconst (v := 0) dX2_pay_125 (by decide) ?_
      exact z_iret dX2_pay_126 rfl
    · refine z_iload_n dX2_pay_22 1 rfl ?_
      refine z_bipush (v := 14) dX2_pay_23 (by decide) ?_
      refine z_ic_ge (tgt := 125) dX2_pay_25 (by decide) ?_ ?_
      · refine z_iconst (v := 0) dX2_pay_125 (by decide) ?_
        exact z_iret dX2_pay_126 rfl
      · refine z_aload_n dX2_pay_28 0 rfl ?_
        refine z_getR fX2_27 (law_k hj_j) rfl rfl (law_r5 hj_j) (Nat.succ_ne_zero _) dX2_pay_29 ?_
        refine z_iload_n dX2_pay_32 1 rfl ?_
        refine z_gd (fun g2 => ?_)
        refine z_iald (law_k5 hj_j) dX2_pay_33 g2 ?_
        refine z_istore_nL (lv2 := fun v3 => [(3, .int v3), (0, .ref j), (2, .int x2)]) dX2_pay_34 (Nat.le_of_ble_eq_true rfl) (fun _ => rfl) (fun v3 => ?_)
        refine z_iload_n dX2_pay_35 0 rfl ?_
        refine z_if_lt (tgt := 119) dX2_pay_36 (by decide) ?_ ?_
        · refine z_iincL (lv2 := fun v4 => [(2, .int v4), (3, .int v3), (0, .ref j)]) dX2_pay_119 2 rfl rfl (Nat.le_of_ble_eq_true rfl) (fun _ => rfl) (fun v4 => ?_)
          refine z_goto (tgt := 14) dX2_pay_122 (by decide) ?_
          exact z_sub [2, 0] rfl (ih _ _)
        · refine z_iload_n dX2_pay_39 0 rfl ?_
          refine z_sipush (v := 256) dX2_pay_40 (by decide) ?_
          refine z_ic_ge (tgt := 119) dX2_pay_43 (by decide) ?_ ?_
          · refine z_iincL (lv2 := fun v5 => [(2, .int v5), (3, .int v3), (0, .ref j)]) dX2_pay_119 2 rfl rfl (Nat.le_of_ble_eq_true rfl) (fun _ => rfl) (fun v5 => ?_)
            refine z_goto (tgt := 14) dX2_pay_122 (by decide) ?_
            exact z_sub [2, 0] rfl (ih _ _)
          · refine z_aload_n dX2_pay_46 1 rfl ?_
            refine z_aload_n dX2_pay_47 1 rfl ?_
            refine z_getR fX2_21 (law_k hj_j) rfl rfl (law_r3 hj_j) (Nat.succ_ne_zero _) dX2_pay_48 ?_
            refine z_iload_n dX2_pay_51 2 rfl ?_
            refine z_gd (fun g6 => ?_)
            refine z_iald (law_k3 hj_j) dX2_pay_52 g6 ?_
            refine z_aload_n dX2_pay_53 1 rfl ?_
            refine z_getR fX2_24 (law_k hj_j) rfl rfl (law_r4 hj_j) (Nat.succ_ne_zero _) dX2_pay_54 ?_
            refine z_iload_n dX2_pay_57 2 rfl ?_
            refine z_gd (fun g7 => ?_)
            refine z_iald (law_k4 hj_j) dX2_pay_58 g7 ?_
            refine z_callVI dX2_pay_59 (M_X2_run hj_j _ _ _) bX2_run lX2_55 (law_k hj_j) rfl rfl (Nat.le_of_ble_eq_true rfl) (Nat.le_of_ble_eq_true rfl) (fun r8 h9 => ?_)
            refine z_iconst (v := 1) dX2_pay_62 (by decide) ?_
            refine z_ic_ne (tgt := 119) dX2_pay_63 (by decide) ?_ ?_
            · refine z_iincL (lv2 := fun v10 => [(2, .int v10), (3, .int v3), (0, .ref j)]) dX2_pay_119 2 rfl rfl (Nat.le_of_ble_eq_true rfl) (fun _ => rfl) (fun v10 => ?_)
              refine z_goto (tgt := 14) dX2_pay_122 (by decide) ?_
              exact z_sub [2, 0] rfl (ih _ _)
            · refine z_aload_n dX2_pay_66 1 rfl ?_
              refine z_aload_n dX2_pay_67 1 rfl ?_
              refine z_getR fX2_18 (law_k hj_j) rfl rfl (law_r2 hj_j) (Nat.succ_ne_zero _) dX2_pay_68 ?_
              refine z_iload_n dX2_pay_71 2 rfl ?_
              refine z_gd (fun g11 => ?_)
              refine z_iald (law_k2 hj_j) dX2_pay_72 g11 ?_
              refine z_aload_n dX2_pay_73 1 rfl ?_
              refine z_getR fX2_21 (law_k hj_j) rfl rfl (law_r3 hj_j) (Nat.succ_ne_zero _) dX2_pay_74 ?_
              refine z_iload_n dX2_pay_77 2 rfl ?_
              refine z_gd (fun g12 => ?_)
              refine z_iald (law_k3 hj_j) dX2_pay_78 g12 ?_
              refine z_callVI dX2_pay_79 (M_X2_run hj_j _ _ _) bX2_run lX2_55 (law_k hj_j) rfl rfl (Nat.le_of_ble_eq_true rfl) (Nat.le_of_ble_eq_true rfl) (fun r13 h14 => ?_)
              refine z_iconst (v := -1) dX2_pay_82 (by decide) ?_
              refine z_ic_ne (tgt := 90) dX2_pay_83 (by decide) ?_ ?_
              · refine z_iconst (v := 0) dX2_pay_90 (by decide) ?_
                exact z_sub [1, 0] rfl (w_X2_pay_91 hj_j _ _ _)
              · refine z_iconst (v := 1) dX2_pay_86 (by decide) ?_
                refine z_goto (tgt := 91) dX2_pay_87 (by decide) ?_
                exact z_sub [1, 0] rfl (w_X2_pay_91 hj_j _ _ _)
set_option maxHeartbeats 4000000 in
set_option maxRecDepth 100000 in
theorem w_X2_pay {j : Nat} (hj_j : isLaw j) (h : AHp) : WO tvI QX2_pay 1 0 [(0, .ref j), (1, .ref 6)] [] h (m_X2_pay j h) := by
  unfold m_X2_pay
  refine z_aload_n dX2_pay_0 1 rfl ?_
  refine z_iconst (v := 0) dX2_pay_1 (by decide) ?_
  refine z_aload_n dX2_pay_2 0 rfl ?_
  refine z_getR fX2_15 (law_k hj_j) rfl rfl (law_r1 hj_j) (Nat.succ_ne_zero _) dX2_pay_3 ?_
  refine z_iconst (v := 0) dX2_pay_6 (by decide) ?_
  refine z_bipush (v := 9) dX2_pay_7 (by decide) ?_
  refine z_copy kc_6 (law_k1 hj_j) dX2_pay_9 lX2_49 w_copy (Nat.le_of_ble_eq_true rfl) (Nat.le_of_ble_eq_true rfl) (by decide) ?_
  refine z_lh (fun h15 => ?_)
  refine z_iconst (v := 0) dX2_pay_12 (by decide) ?_
  refine z_istore_n (lv2 := [(2, .int 0), (0, .ref j), (1, .ref 6)]) dX2_pay_13 (Nat.le_of_ble_eq_true rfl) rfl ?_
  exact z_sub [1, 0] rfl (w_X2_pay_14 hj_j FU _ _)
theorem M_X2_pay {j : Nat} (hj_j : isLaw j) (h : AHp) : MI QX2_pay 1 [.ref j, .ref 6] h (m_X2_pay j h) := MI.of (by decide) rfl rfl (Nat.le_of_ble_eq_true rfl) (w_X2_pay hj_j h)
set_option maxHeartbeats 4000000 in
set_option maxRecDepth 100000 in
theorem w_X9_pays (x1 : Int32) (x2 : Int32) (x3 : Int32) (h : AHp) : WO tvI QX9_pays 2 0 [(0, .ref 3), (1, .int x1), (2, .int x2), (3, .int x3)] [] h (m_X9_pays x1 x2 x3 h) := by
  unfold m_X9_pays
  refine z_aload_n dX9_pays_0 0 rfl ?_
  refine z_getR (j := 6) fX9_18 kc_3 rfl rfl rfl (by decide) dX9_pays_1 ?_
  refine z_iconst (v := 2) dX9_pays_4 (by decide) ?_
  refine z_iload_n dX9_pays_5 1 rfl ?_
  refine z_iast kc_6 dX9_pays_6 (by decide) ?_
  refine z_lh (fun h1 => ?_)
  refine z_aload_n dX9_pays_7 0 rfl ?_
  refine z_getR (j := 6) fX9_18 kc_3 rfl rfl rfl (by decide) dX9_pays_8 ?_
  refine z_iconst (v := 3) dX9_pays_11 (by decide) ?_
  refine z_aload_n dX9_pays_12 0 rfl ?_
  refine z_iload_n dX9_pays_13 1 rfl ?_
  refine z_callVI dX9_pays_14 (M_X9_colourOf _ _) bX9_colourOf lX9_55 kc_3 rfl rfl (Nat.le_of_ble_eq_true rfl) (Nat.le_of_ble_eq_true rfl) (fun r2 h3 => ?_)
  refine z_iast kc_6 dX9_pays_17 (by decide) ?_
  refine z_lh (fun h4 => ?_)
  refine z_aload_n dX9_pays_18 0 rfl ?_
  refine z_getR (j := 6) fX9_18 kc_3 rfl rfl rfl (by decide) dX9_pays_19 ?_
  refine z_iconst (v := 1) dX9_pays_22 (by decide) ?_
  refine z_iload_n dX9_pays_23 2 rfl ?_
  refine z_iast kc_6 dX9_pays_24 (by decide) ?_
  refine z_lh (fun h5 => ?_)
  refine z_aload_n dX9_pays_25 0 rfl ?_
  refine z_getR (j := 6) fX9_18 kc_3 rfl rfl rfl (by decide) dX9_pays_26 ?_
  refine z_iconst (v := 0) dX9_pays_29 (by decide) ?_
  refine z_iload_n dX9_pays_30 3 rfl ?_
  refine z_iast kc_6 dX9_pays_31 (by decide) ?_
  refine z_lh (fun h6 => ?_)
  refine z_aload_n dX9_pays_32 0 rfl ?_
  refine z_gd (fun g7 => ?_)
  refine z_getM fX9_24 kc_3 rfl rfl (law_ne g7) dX9_pays_33 ?_
  refine z_aload_n dX9_pays_36 0 rfl ?_
  refine z_getR (j := 6) fX9_18 kc_3 rfl rfl rfl (by decide) dX9_pays_37 ?_
  refine z_callVI dX9_pays_40 (M_X2_pay g7 _) bX2_pay lX9_69 (law_k g7) rfl rfl (Nat.le_of_ble_eq_true rfl) (Nat.le_of_ble_eq_true rfl) (fun r8 h9 => ?_)
  exact z_iret dX9_pays_43 rfl
theorem M_X9_pays (x1 : Int32) (x2 : Int32) (x3 : Int32) (h : AHp) : MI QX9_pays 2 [.ref 3, .int x1, .int x2, .int x3] h (m_X9_pays x1 x2 x3 h) := MI.of (by decide) rfl rfl (Nat.le_of_ble_eq_true rfl) (w_X9_pays x1 x2 x3 h)
set_option maxHeartbeats 4000000 in
set_option maxRecDepth 100000 in
theorem w_X11_payOf (x1 : Int32) (h : AHp) : WO tvI QX11_payOf 3 0 [(0, .ref 0), (1, .int x1)] [] h (m_X11_payOf x1 h) := by
  unfold m_X11_payOf
  refine z_aload_n dX11_payOf_0 0 rfl ?_
  refine z_getR (j := 3) fX11_31 kc_0 rfl rfl rfl (by decide) dX11_payOf_1 ?_
  refine z_aload_n dX11_payOf_4 0 rfl ?_
  refine z_getR (j := 42) fX11_38 kc_0 rfl rfl rfl (by decide) dX11_payOf_5 ?_
  refine z_iload_n dX11_payOf_8 1 rfl ?_
  refine z_iconst (v := 1) dX11_payOf_9 (by decide) ?_
  refine z_isub dX11_payOf_10 ?_
  refine z_callVI dX11_payOf_11 (M_X7_spanAt _ _) bX7_spanAt lX11_170 kc_42 rfl rfl (Nat.le_of_ble_eq_true rfl) (Nat.le_of_ble_eq_true rfl) (fun r1 h2 => ?_)
  refine z_aload_n dX11_payOf_14 0 rfl ?_
  refine z_getR (j := 42) fX11_38 kc_0 rfl rfl rfl (by decide) dX11_payOf_15 ?_
  refine z_iload_n dX11_payOf_18 1 rfl ?_
  refine z_iconst (v := 2) dX11_payOf_19 (by decide) ?_
  refine z_isub dX11_payOf_20 ?_
  refine z_callVI dX11_payOf_21 (M_X7_spanAt _ _) bX7_spanAt lX11_170 kc_42 rfl rfl (Nat.le_of_ble_eq_true rfl) (Nat.le_of_ble_eq_true rfl) (fun r3 h4 => ?_)
  refine z_aload_n dX11_payOf_24 0 rfl ?_
  refine z_getR (j := 42) fX11_38 kc_0 rfl rfl rfl (by decide) dX11_payOf_25 ?_
  refine z_iload_n dX11_payOf_28 1 rfl ?_
  refine z_iconst (v := 1) dX11_payOf_29 (by decide) ?_
  refine z_isub dX11_payOf_30 ?_
  refine z_callVI dX11_payOf_31 (M_X7_speakerAt _ _) bX7_speakerAt lX11_164 kc_42 rfl rfl (Nat.le_of_ble_eq_true rfl) (Nat.le_of_ble_eq_true rfl) (fun r5 h6 => ?_)
  refine z_iload_n dX11_payOf_34 1 rfl ?_
  refine z_callVV dX11_payOf_35 (M_X9_stand _ _ _ _ _) bX9_stand lX11_284 kc_3 rfl rfl (Nat.le_of_ble_eq_true rfl) (Nat.le_of_ble_eq_true rfl) (fun r7 h8 => ?_)
  refine z_aload_n dX11_payOf_38 0 rfl ?_
  refine z_getR (j := 3) fX11_31 kc_0 rfl rfl rfl (by decide) dX11_payOf_39 ?_
  refine z_aload_n dX11_payOf_42 0 rfl ?_
  refine z_getR (j := 42) fX11_38 kc_0 rfl rfl rfl (by decide) dX11_payOf_43 ?_
  refine z_iload_n dX11_payOf_46 1 rfl ?_
  refine z_callVI dX11_payOf_47 (M_X7_speakerAt _ _) bX7_speakerAt lX11_164 kc_42 rfl rfl (Nat.le_of_ble_eq_true rfl) (Nat.le_of_ble_eq_true rfl) (fun r9 h10 => ?_)
  refine z_aload_n dX11_payOf_50 0 rfl ?_
  refine z_getR (j := 42) fX11_38 kc_0 rfl rfl rfl (by decide) dX11_payOf_51 ?_
  refine z_iload_n dX11_payOf_54 1 rfl ?_
  refine z_callVI dX11_payOf_55 (M_X7_thingAt _ _) bX7_thingAt lX11_167 kc_42 rfl rfl (Nat.le_of_ble_eq_true rfl) (Nat.le_of_ble_eq_true rfl) (fun r11 h12 => ?_)
  refine z_aload_n dX11_payOf_58 0 rfl ?_
  refine z_getR (j := 42) fX11_38 kc_0 rfl rfl rfl (by decide) dX11_payOf_59 ?_
  refine z_iload_n dX11_payOf_62 1 rfl ?_
  refine z_callVI dX11_payOf_63 (M_X7_spanAt _ _) bX7_spanAt lX11_170 kc_42 rfl rfl (Nat.le_of_ble_eq_true rfl) (Nat.le_of_ble_eq_true rfl) (fun r13 h14 => ?_)
  refine z_callVI dX11_payOf_66 (M_X9_pays _ _ _ _) bX9_pays lX11_287 kc_3 rfl rfl (Nat.le_of_ble_eq_true rfl) (Nat.le_of_ble_eq_true rfl) (fun r15 h16 => ?_)
  exact z_iret dX11_payOf_69 rfl
theorem M_X11_payOf (x1 : Int32) (h : AHp) : MI QX11_payOf 3 [.ref 0, .int x1] h (m_X11_payOf x1 h) := MI.of (by decide) rfl rfl (Nat.le_of_ble_eq_true rfl) (w_X11_payOf x1 h)
set_option maxHeartbeats 4000000 in
set_option maxRecDepth 100000 in
theorem w_X11_said (x1 : Int32) (x2 : Int32) (h : AHp) : WO tvI QX11_said 4 0 [(0, .ref 0), (1, .int x1), (2, .int x2)] [] h (m_X11_said x1 x2 h) := by
  unfold m_X11_said
  refine z_iload_n dX11_said_0 1 rfl ?_
  refine z_if_lt (tgt := 15) dX11_said_1 (by decide) ?_ ?_
  · refine z_iconst (v := -1) dX11_said_15 (by decide) ?_
    exact z_iret dX11_said_16 rfl
  · refine z_iload_n dX11_said_4 1 rfl ?_
    refine z_aload_n dX11_said_5 0 rfl ?_
    refine z_getR (j := 42) fX11_38 kc_0 rfl rfl rfl (by decide) dX11_said_6 ?_
    refine z_getIN fX11_157 kc_42 rfl dX11_said_9 ?_
    refine z_ic_lt (tgt := 17) dX11_said_12 (by decide) ?_ ?_
    · refine z_iload_n dX11_said_17 2 rfl ?_
      refine z_ite (fun c1 => ?_) (fun c1 => ?_)
      · refine z_tin (tgt := 48) (off := 30) dX11_said_18 (by rw [c1]; decide) (by rw [c1]; decide) (by rw [c1]; decide) (by decide) ?_
        refine z_aload_n dX11_said_48 0 rfl ?_
        refine z_getR (j := 42) fX11_38 kc_0 rfl rfl rfl (by decide) dX11_said_49 ?_
        refine z_iload_n dX11_said_52 1 rfl ?_
        refine z_callVI dX11_said_53 (M_X7_speakerAt _ _) bX7_speakerAt lX11_164 kc_42 rfl rfl (Nat.le_of_ble_eq_true rfl) (Nat.le_of_ble_eq_true rfl) (fun r2 h3 => ?_)
        exact z_iret dX11_said_56 rfl
      · refine z_ite (fun c4 => ?_) (fun c4 => ?_)
        · refine z_tin (tgt := 57) (off := 39) dX11_said_18 (by rw [c4]; decide) (by rw [c4]; decide) (by rw [c4]; decide) (by decide) ?_
          refine z_aload_n dX11_said_57 0 rfl ?_
          refine z_getR (j := 42) fX11_38 kc_0 rfl rfl rfl (by decide) dX11_said_58 ?_
          refine z_iload_n dX11_said_61 1 rfl ?_
          refine z_callVI dX11_said_62 (M_X7_thingAt _ _) bX7_thingAt lX11_167 kc_42 rfl rfl (Nat.le_of_ble_eq_true rfl) (Nat.le_of_ble_eq_true rfl) (fun r5 h6 => ?_)
          exact z_iret dX11_said_65 rfl
        · refine z_ite (fun c7 => ?_) (fun c7 => ?_)
          · refine z_tin (tgt := 66) (off := 48) dX11_said_18 (by rw [c7]; decide) (by rw [c7]; decide) (by rw [c7]; decide) (by decide) ?_
            refine z_aload_n dX11_said_66 0 rfl ?_
            refine z_getR (j := 42) fX11_38 kc_0 rfl rfl rfl (by decide) dX11_said_67 ?_
            refine z_iload_n dX11_said_70 1 rfl ?_
            refine z_callVI dX11_said_71 (M_X7_spanAt _ _) bX7_spanAt lX11_170 kc_42 rfl rfl (Nat.le_of_ble_eq_true rfl) (Nat.le_of_ble_eq_true rfl) (fun r8 h9 => ?_)
            exact z_iret dX11_said_74 rfl
          · refine z_ite (fun c10 => ?_) (fun c10 => ?_)
            · refine z_tin (tgt := 75) (off := 57) dX11_said_18 (by rw [c10]; decide) (by rw [c10]; decide) (by rw [c10]; decide) (by decide) ?_
              refine z_aload_n dX11_said_75 0 rfl ?_
              refine z_iload_n dX11_said_76 1 rfl ?_
              refine z_callVI dX11_said_77 (M_X11_payOf _ _) bX11_payOf lX11_173 kc_0 rfl rfl (Nat.le_of_ble_eq_true rfl) (Nat.le_of_ble_eq_true rfl) (fun r11 h12 => ?_)
              exact z_iret dX11_said_80 rfl
            · refine z_tout (tgt := 81) dX11_said_18 (by have a0 := n32 (k := 0) c1 rfl; have a1 := n32 (k := 1) c4 rfl; have a2 := n32 (k := 2) c7 rfl; have a3 := n32 (k := 3) c10 rfl; omega) (by decide) ?_
              refine z_iconst (v := -1) dX11_said_81 (by decide) ?_
              exact z_iret dX11_said_82 rfl
    · refine z_iconst (v := -1) dX11_said_15 (by decide) ?_
      exact z_iret dX11_said_16 rfl
theorem M_X11_said (x1 : Int32) (x2 : Int32) (h : AHp) : MI QX11_said 4 [.ref 0, .int x1, .int x2] h (m_X11_said x1 x2 h) := MI.of (by decide) rfl rfl (Nat.le_of_ble_eq_true rfl) (w_X11_said x1 x2 h)
set_option maxHeartbeats 4000000 in
set_option maxRecDepth 100000 in
theorem w_X11_paid_13 : ∀ (f : Nat) (x1 : Int32) (x2 : Int32) (x3 : Int32) (h : AHp), WO tvI QX11_paid 4 13 [(0, .ref 0), (1, .int x1), (2, .int x2), (3, .int x3)] [] h (m_X11_paid_13 f x1 x2 x3 h) := by
  intro f
  induction f with
  | zero => intro x1 x2 x3 h; exact z_none
  | succ f ih =>
    intro x1 x2 x3 h
    rw [m_X11_paid_13]
    refine z_iload_n dX11_paid_13 3 rfl ?_
    refine z_aload_n dX11_paid_14 0 rfl ?_
    refine z_getR (j := 42) fX11_38 kc_0 rfl rfl rfl (by decide) dX11_paid_15 ?_
    refine z_getIN fX11_157 kc_42 rfl dX11_paid_18 ?_
    refine z_ic_ge (tgt := 50) dX11_paid_21 (by decide) ?_ ?_
    · refine z_iload_n dX11_paid_50 2 rfl ?_
      exact z_iret dX11_paid_51 rfl
    · refine z_aload_n dX11_paid_24 0 rfl ?_
      refine z_getR (j := 42) fX11_38 kc_0 rfl rfl rfl (by decide) dX11_paid_25 ?_
      refine z_iload_n dX11_paid_28 3 rfl ?_
      refine z_callVI dX11_paid_29 (M_X7_speakerAt _ _) bX7_speakerAt lX11_164 kc_42 rfl rfl (Nat.le_of_ble_eq_true rfl) (Nat.le_of_ble_eq_true rfl) (fun r1 h2 => ?_)
      refine z_iload_n dX11_paid_32 1 rfl ?_
      refine z_ic_ne (tgt := 44) dX11_paid_33 (by decide) ?_ ?_
      · refine z_iincL (lv2 := fun v3 => [(3, .int v3), (0, .ref 0), (1, .int x1), (2, .int x2)]) dX11_paid_44 3 rfl rfl (Nat.le_of_ble_eq_true rfl) (fun _ => rfl) (fun v3 => ?_)
        refine z_goto (tgt := 13) dX11_paid_47 (by decide) ?_
        exact z_sub [1, 2, 3, 0] rfl (ih _ _ _ _)
      · refine z_iload_n dX11_paid_36 2 rfl ?_
        refine z_aload_n dX11_paid_37 0 rfl ?_
        refine z_iload_n dX11_paid_38 3 rfl ?_
        refine z_callVI dX11_paid_39 (M_X11_payOf _ _) bX11_payOf lX11_173 kc_0 rfl rfl (Nat.le_of_ble_eq_true rfl) (Nat.le_of_ble_eq_true rfl) (fun r4 h5 => ?_)
        refine z_iadd dX11_paid_42 ?_
        refine z_istore_nL (lv2 := fun v6 => [(2, .int v6), (0, .ref 0), (1, .int x1), (3, .int x3)]) dX11_paid_43 (Nat.le_of_ble_eq_true rfl) (fun _ => rfl) (fun v6 => ?_)
        refine z_iincL (lv2 := fun v7 => [(3, .int v7), (2, .int v6), (0, .ref 0), (1, .int x1)]) dX11_paid_44 3 rfl rfl (Nat.le_of_ble_eq_true rfl) (fun _ => rfl) (fun v7 => ?_)
        refine z_goto (tgt := 13) dX11_paid_47 (by decide) ?_
        exact z_sub [2, 3, 1, 0] rfl (ih _ _ _ _)
set_option maxHeartbeats 4000000 in
set_option maxRecDepth 100000 in
theorem w_X11_paid (x1 : Int32) (h : AHp) : WO tvI QX11_paid 4 0 [(0, .ref 0), (1, .int x1)] [] h (m_X11_paid x1 h) := by
  unfold m_X11_paid
  refine z_iload_n dX11_paid_0 1 rfl ?_
  refine z_callSI dX11_paid_1 (M_X11_isSpeaker _ _) bX11_isSpeaker lX11_126 rfl rfl (Nat.le_of_ble_eq_true rfl) (Nat.le_of_ble_eq_true rfl) (fun r8 h9 => ?_)
  refine z_if_ne (tgt := 9) dX11_paid_4 (by decide) ?_ ?_
  · refine z_iconst (v := 0) dX11_paid_9 (by decide) ?_
    refine z_istore_n (lv2 := [(2, .int 0), (0, .ref 0), (1, .int x1)]) dX11_paid_10 (Nat.le_of_ble_eq_true rfl) rfl ?_
    refine z_iconst (v := 0) dX11_paid_11 (by decide) ?_
    refine z_istore_n (lv2 := [(3, .int 0), (2, .int 0), (0, .ref 0), (1, .int x1)]) dX11_paid_12 (Nat.le_of_ble_eq_true rfl) rfl ?_
    exact z_sub [2, 3, 1, 0] rfl (w_X11_paid_13 FU _ _ _ _)
  · refine z_iconst (v := -1) dX11_paid_7 (by decide) ?_
    exact z_iret dX11_paid_8 rfl
theorem M_X11_paid (x1 : Int32) (h : AHp) : MI QX11_paid 4 [.ref 0, .int x1] h (m_X11_paid x1 h) := MI.of (by decide) rfl rfl (Nat.le_of_ble_eq_true rfl) (w_X11_paid x1 h)
set_option maxHeartbeats 4000000 in
set_option maxRecDepth 100000 in
theorem w_X8_byteAt (x1 : Int32) (h : AHp) : WO tvI QX8_byteAt 0 0 [(0, .ref 1), (1, .int x1)] [] h (m_X8_byteAt x1 h) := by
  unfold m_X8_byteAt
  refine z_iload_n dX8_byteAt_0 1 rfl ?_
  refine z_if_lt (tgt := 30) dX8_byteAt_1 (by decide) ?_ ?_
  · refine z_iconst (v := 0) dX8_byteAt_30 (by decide) ?_
    exact z_iret dX8_byteAt_31 rfl
  · refine z_iload_n dX8_byteAt_4 1 rfl ?_
    refine z_aload_n dX8_byteAt_5 0 rfl ?_
    refine z_getI fX8_15 kc_1 rfl dX8_byteAt_6 ?_
    refine z_ic_ge (tgt := 30) dX8_byteAt_9 (by decide) ?_ ?_
    · refine z_iconst (v := 0) dX8_byteAt_30 (by decide) ?_
      exact z_iret dX8_byteAt_31 rfl
    · refine z_iload_n dX8_byteAt_12 1 rfl ?_
      refine z_aload_n dX8_byteAt_13 0 rfl ?_
      refine z_getR (j := 2) fX8_9 kc_1 rfl rfl rfl (by decide) dX8_byteAt_14 ?_
      refine z_alen (v := 220) kc_2 (by decide) (by decide) dX8_byteAt_17 ?_
      refine z_ic_ge (tgt := 30) dX8_byteAt_18 (by decide) ?_ ?_
      · refine z_iconst (v := 0) dX8_byteAt_30 (by decide) ?_
        exact z_iret dX8_byteAt_31 rfl
      · refine z_aload_n dX8_byteAt_21 0 rfl ?_
        refine z_getR (j := 2) fX8_9 kc_1 rfl rfl rfl (by decide) dX8_byteAt_22 ?_
        refine z_iload_n dX8_byteAt_25 1 rfl ?_
        refine z_gd (fun g1 => ?_)
        refine z_iald kc_2 dX8_byteAt_26 g1 ?_
        refine z_goto (tgt := 31) dX8_byteAt_27 (by decide) ?_
        exact z_iret dX8_byteAt_31 rfl
theorem M_X8_byteAt (x1 : Int32) (h : AHp) : MI QX8_byteAt 0 [.ref 1, .int x1] h (m_X8_byteAt x1 h) := MI.of (by decide) rfl rfl (Nat.le_of_ble_eq_true rfl) (w_X8_byteAt x1 h)
set_option maxHeartbeats 4000000 in
set_option maxRecDepth 100000 in
theorem w_X11_tellsSpeakersAndThings_2 : ∀ (f : Nat) (x1 : Int32) (x2 : Int32) (x3 : Int32) (h : AHp), WO tvI QX11_tellsSpeakersAndThings 1 2 [(0, .ref 0), (1, .int x1), (2, .int x2), (3, .int x3)] [] h (m_X11_tellsSpeakersAndThings_2 f x1 x2 x3 h) := by
  intro f
  induction f with
  | zero => intro x1 x2 x3 h; exact z_none
  | succ f ih =>
    intro x1 x2 x3 h
    rw [m_X11_tellsSpeakersAndThings_2]
    refine z_iload_n dX11_tellsSpeakersAndThings_2 3 rfl ?_
    refine z_iload_n dX11_tellsSpeakersAndThings_3 1 rfl ?_
    refine z_ic_ge (tgt := 49) dX11_tellsSpeakersAndThings_4 (by decide) ?_ ?_
    · refine z_iconst (v := 1) dX11_tellsSpeakersAndThings_49 (by decide) ?_
      exact z_zret dX11_tellsSpeakersAndThings_50 rfl (Or.inr rfl)
    · refine z_aload_n dX11_tellsSpeakersAndThings_7 0 rfl ?_
      refine z_getR (j := 1) fX11_18 kc_0 rfl rfl rfl (by decide) dX11_tellsSpeakersAndThings_8 ?_
      refine z_iload_n dX11_tellsSpeakersAndThings_11 2 rfl ?_
      refine z_iload_n dX11_tellsSpeakersAndThings_12 3 rfl ?_
      refine z_imul dX11_tellsSpeakersAndThings_13 ?_
      refine z_callVI dX11_tellsSpeakersAndThings_14 (M_X8_byteAt _ _) bX8_byteAt lX11_189 kc_1 rfl rfl (Nat.le_of_ble_eq_true rfl) (Nat.le_of_ble_eq_true rfl) (fun r1 h2 => ?_)
      refine z_callSI dX11_tellsSpeakersAndThings_17 (M_X11_isSpeaker _ _) bX11_isSpeaker lX11_126 rfl rfl (Nat.le_of_ble_eq_true rfl) (Nat.le_of_ble_eq_true rfl) (fun r3 h4 => ?_)
      refine z_if_eq (tgt := 41) dX11_tellsSpeakersAndThings_20 (by decide) ?_ ?_
      · refine z_iconst (v := 0) dX11_tellsSpeakersAndThings_41 (by decide) ?_
        exact z_zret dX11_tellsSpeakersAndThings_42 rfl (Or.inl rfl)
      · refine z_aload_n dX11_tellsSpeakersAndThings_23 0 rfl ?_
        refine z_getR (j := 1) fX11_18 kc_0 rfl rfl rfl (by decide) dX11_tellsSpeakersAndThings_24 ?_
        refine z_iload_n dX11_tellsSpeakersAndThings_27 2 rfl ?_
        refine z_iload_n dX11_tellsSpeakersAndThings_28 3 rfl ?_
        refine z_imul dX11_tellsSpeakersAndThings_29 ?_
        refine z_iconst (v := 1) dX11_tellsSpeakersAndThings_30 (by decide) ?_
        refine z_iadd dX11_tellsSpeakersAndThings_31 ?_
        refine z_callVI dX11_tellsSpeakersAndThings_32 (M_X8_byteAt _ _) bX8_byteAt lX11_189 kc_1 rfl rfl (Nat.le_of_ble_eq_true rfl) (Nat.le_of_ble_eq_true rfl) (fun r5 h6 => ?_)
        refine z_callSI dX11_tellsSpeakersAndThings_35 (M_X11_isThing _ _) bX11_isThing lX11_99 rfl rfl (Nat.le_of_ble_eq_true rfl) (Nat.le_of_ble_eq_true rfl) (fun r7 h8 => ?_)
        refine z_if_ne (tgt := 43) dX11_tellsSpeakersAndThings_38 (by decide) ?_ ?_
        · refine z_iincL (lv2 := fun v9 => [(3, .int v9), (0, .ref 0), (1, .int x1), (2, .int x2)]) dX11_tellsSpeakersAndThings_43 3 rfl rfl (Nat.le_of_ble_eq_true rfl) (fun _ => rfl) (fun v9 => ?_)
          refine z_goto (tgt := 2) dX11_tellsSpeakersAndThings_46 (by decide) ?_
          exact z_sub [1, 2, 3, 0] rfl (ih _ _ _ _)
        · refine z_iconst (v := 0) dX11_tellsSpeakersAndThings_41 (by decide) ?_
          exact z_zret dX11_tellsSpeakersAndThings_42 rfl (Or.inl rfl)
set_option maxHeartbeats 4000000 in
set_option maxRecDepth 100000 in
theorem w_X11_tellsSpeakersAndThings (x1 : Int32) (x2 : Int32) (h : AHp) : WO tvI QX11_tellsSpeakersAndThings 1 0 [(0, .ref 0), (1, .int x1), (2, .int x2)] [] h (m_X11_tellsSpeakersAndThings x1 x2 h) := by
  unfold m_X11_tellsSpeakersAndThings
  refine z_iconst (v := 0) dX11_tellsSpeakersAndThings_0 (by decide) ?_
  refine z_istore_n (lv2 := [(3, .int 0), (0, .ref 0), (1, .int x1), (2, .int x2)]) dX11_tellsSpeakersAndThings_1 (Nat.le_of_ble_eq_true rfl) rfl ?_
  exact z_sub [1, 2, 3, 0] rfl (w_X11_tellsSpeakersAndThings_2 FU _ _ _ _)
theorem M_X11_tellsSpeakersAndThings (x1 : Int32) (x2 : Int32) (h : AHp) : MI QX11_tellsSpeakersAndThings 1 [.ref 0, .int x1, .int x2] h (m_X11_tellsSpeakersAndThings x1 x2 h) := MI.of (by decide) rfl rfl (Nat.le_of_ble_eq_true rfl) (w_X11_tellsSpeakersAndThings x1 x2 h)
set_option maxHeartbeats 4000000 in
set_option maxRecDepth 100000 in
theorem w_X11_firstWrong_56 : ∀ (f : Nat) (x1 : Int32) (x2 : Int32) (x3 : Int32) (x4 : Int32) (x5 : Int32) (x6 : Int32) (h : AHp), WO tvI QX11_firstWrong 3 56 [(0, .ref 0), (1, .int x1), (2, .int x2), (3, .int x3), (4, .int x4), (5, .int x5), (6, .int x6)] [] h (m_X11_firstWrong_56 f x1 x2 x3 x4 x5 x6 h) := by
  intro f
  induction f with
  | zero => intro x1 x2 x3 x4 x5 x6 h; exact z_none
  | succ f ih =>
    intro x1 x2 x3 x4 x5 x6 h
    rw [m_X11_firstWrong_56]
    refine z_iload dX11_firstWrong_56 6 rfl ?_
    refine z_iload_n dX11_firstWrong_58 2 rfl ?_
    refine z_ic_ge (tgt := 174) dX11_firstWrong_59 (by decide) ?_ ?_
    · refine z_iload_n dX11_firstWrong_174 2 rfl ?_
      exact z_iret dX11_firstWrong_175 rfl
    · refine z_aload_n dX11_firstWrong_62 0 rfl ?_
      refine z_getR (j := 1) fX11_18 kc_0 rfl rfl rfl (by decide) dX11_firstWrong_63 ?_
      refine z_iconst (v := 3) dX11_firstWrong_66 (by decide) ?_
      refine z_iload dX11_firstWrong_67 6 rfl ?_
      refine z_imul dX11_firstWrong_69 ?_
      refine z_callVI dX11_firstWrong_70 (M_X8_byteAt _ _) bX8_byteAt lX11_189 kc_1 rfl rfl (Nat.le_of_ble_eq_true rfl) (Nat.le_of_ble_eq_true rfl) (fun r1 h2 => ?_)
      refine z_istore (lv2 := [(7, .int r1), (0, .ref 0), (1, .int x1), (2, .int x2), (3, .int x3), (4, .int x4), (5, .int x5), (6, .int x6)]) dX11_firstWrong_73 (Nat.le_of_ble_eq_true rfl) rfl ?_
      refine z_aload_n dX11_firstWrong_75 1 rfl ?_
      refine z_getR (j := 1) fX11_18 kc_0 rfl rfl rfl (by decide) dX11_firstWrong_76 ?_
      refine z_iconst (v := 3) dX11_firstWrong_79 (by decide) ?_
      refine z_iload dX11_firstWrong_80 7 rfl ?_
      refine z_imul dX11_firstWrong_82 ?_
      refine z_iconst (v := 1) dX11_firstWrong_83 (by decide) ?_
      refine z_iadd dX11_firstWrong_84 ?_
      refine z_callVI dX11_firstWrong_85 (M_X8_byteAt _ _) bX8_byteAt lX11_189 kc_1 rfl rfl (Nat.le_of_ble_eq_true rfl) (Nat.le_of_ble_eq_true rfl) (fun r3 h4 => ?_)
      refine z_istore (lv2 := [(8, .int r3), (7, .int r1), (0, .ref 0), (1, .int x1), (2, .int x2), (3, .int x3), (4, .int x4), (5, .int x5), (6, .int x6)]) dX11_firstWrong_88 (Nat.le_of_ble_eq_true rfl) rfl ?_
      refine z_aload_n dX11_firstWrong_90 2 rfl ?_
      refine z_getR (j := 1) fX11_18 kc_0 rfl rfl rfl (by decide) dX11_firstWrong_91 ?_
      refine z_iconst (v := 3) dX11_firstWrong_94 (by decide) ?_
      refine z_iload dX11_firstWrong_95 8 rfl ?_
      refine z_imul dX11_firstWrong_97 ?_
      refine z_iconst (v := 2) dX11_firstWrong_98 (by decide) ?_
      refine z_iadd dX11_firstWrong_99 ?_
      refine z_callVI dX11_firstWrong_100 (M_X8_byteAt _ _) bX8_byteAt lX11_189 kc_1 rfl rfl (Nat.le_of_ble_eq_true rfl) (Nat.le_of_ble_eq_true rfl) (fun r5 h6 => ?_)
      refine z_istore (lv2 := [(9, .int r5), (8, .int r3), (7, .int r1), (0, .ref 0), (1, .int x1), (2, .int x2), (3, .int x3), (4, .int x4), (5, .int x5), (6, .int x6)]) dX11_firstWrong_103 (Nat.le_of_ble_eq_true rfl) rfl ?_
      refine z_aload_n dX11_firstWrong_105 3 rfl ?_
      refine z_getR (j := 3) fX11_31 kc_0 rfl rfl rfl (by decide) dX11_firstWrong_106 ?_
      refine z_iload_n dX11_firstWrong_109 6 rfl ?_
      refine z_iload dX11_firstWrong_110 7 rfl ?_
      refine z_iload dX11_firstWrong_112 8 rfl ?_
      refine z_aload_n dX11_firstWrong_114 3 rfl ?_
      refine z_getR (j := 42) fX11_38 kc_0 rfl rfl rfl (by decide) dX11_firstWrong_115 ?_
      refine z_getIN fX11_157 kc_42 rfl dX11_firstWrong_118 ?_
      refine z_iload dX11_firstWrong_121 9 rfl ?_
      refine z_iadd dX11_firstWrong_123 ?_
      refine z_callVV dX11_firstWrong_124 (M_X9_stand _ _ _ _ _) bX9_stand lX11_284 kc_3 rfl rfl (Nat.le_of_ble_eq_true rfl) (Nat.le_of_ble_eq_true rfl) (fun r7 h8 => ?_)
      refine z_aload_n dX11_firstWrong_127 3 rfl ?_
      refine z_getR (j := 3) fX11_31 kc_0 rfl rfl rfl (by decide) dX11_firstWrong_128 ?_
      refine z_iconst (v := 1) dX11_firstWrong_131 (by decide) ?_
      refine z_iload_n dX11_firstWrong_132 4 rfl ?_
      refine z_ishl dX11_firstWrong_133 ?_
      refine z_iload dX11_firstWrong_134 2 rfl ?_
      refine z_iload dX11_firstWrong_136 1 rfl ?_
      refine z_aload_n dX11_firstWrong_138 3 rfl ?_
      refine z_getR (j := 3) fX11_31 kc_0 rfl rfl rfl (by decide) dX11_firstWrong_139 ?_
      refine z_iload dX11_firstWrong_142 1 rfl ?_
      refine z_iload dX11_firstWrong_144 0 rfl ?_
      refine z_callVI dX11_firstWrong_146 (M_X9_bitOf _ _ _) bX9_bitOf lX11_146 kc_3 rfl rfl (Nat.le_of_ble_eq_true rfl) (Nat.le_of_ble_eq_true rfl) (fun r9 h10 => ?_)
      refine z_callVI dX11_firstWrong_149 (M_X9_lets _ _ _ _ _) bX9_lets lX11_153 kc_3 rfl rfl (Nat.le_of_ble_eq_true rfl) (Nat.le_of_ble_eq_true rfl) (fun r11 h12 => ?_)
      refine z_if_ne (tgt := 158) dX11_firstWrong_152 (by decide) ?_ ?_
      · refine z_iload_n dX11_firstWrong_158 6 rfl ?_
        refine z_istore (lv2 := [(4, .int x3), (9, .int r5), (8, .int r3), (7, .int r1), (0, .ref 0), (1, .int x1), (2, .int x2), (3, .int x3), (5, .int x5), (6, .int x6)]) dX11_firstWrong_159 (Nat.le_of_ble_eq_true rfl) rfl ?_
        refine z_iload dX11_firstWrong_161 1 rfl ?_
        refine z_istore_n (lv2 := [(3, .int r5), (4, .int x3), (9, .int r5), (8, .int r3), (7, .int r1), (0, .ref 0), (1, .int x1), (2, .int x2), (5, .int x5), (6, .int x6)]) dX11_firstWrong_163 (Nat.le_of_ble_eq_true rfl) rfl ?_
        refine z_iload dX11_firstWrong_164 4 rfl ?_
        refine z_istore (lv2 := [(5, .int r1), (3, .int r5), (4, .int x3), (9, .int r5), (8, .int r3), (7, .int r1), (0, .ref 0), (1, .int x1), (2, .int x2), (6, .int x6)]) dX11_firstWrong_166 (Nat.le_of_ble_eq_true rfl) rfl ?_
        refine z_iincL (lv2 := fun v13 => [(6, .int v13), (5, .int r1), (3, .int r5), (4, .int x3), (9, .int r5), (8, .int r3), (7, .int r1), (0, .ref 0), (1, .int x1), (2, .int x2)]) dX11_firstWrong_168 9 rfl rfl (Nat.le_of_ble_eq_true rfl) (fun _ => rfl) (fun v13 => ?_)
        refine z_goto (tgt := 56) dX11_firstWrong_171 (by decide) ?_
        exact z_sub [7, 8, 9, 2, 3, 1, 0] rfl (ih _ _ _ _ _ _ _)
      · refine z_iload dX11_firstWrong_155 9 rfl ?_
        exact z_iret dX11_firstWrong_157 rfl
set_option maxHeartbeats 4000000 in
set_option maxRecDepth 100000 in
theorem w_X11_firstWrong (x1 : Int32) (x2 : Int32) (h : AHp) : WO tvI QX11_firstWrong 3 0 [(0, .ref 0), (1, .int x1), (2, .int x2)] [] h (m_X11_firstWrong x1 x2 h) := by
  unfold m_X11_firstWrong
  refine z_aload_n dX11_firstWrong_0 0 rfl ?_
  refine z_getR (j := 42) fX11_38 kc_0 rfl rfl rfl (by decide) dX11_firstWrong_1 ?_
  refine z_aload_n dX11_firstWrong_4 0 rfl ?_
  refine z_getR (j := 42) fX11_38 kc_0 rfl rfl rfl (by decide) dX11_firstWrong_5 ?_
  refine z_getIN fX11_157 kc_42 rfl dX11_firstWrong_8 ?_
  refine z_iconst (v := 1) dX11_firstWrong_11 (by decide) ?_
  refine z_isub dX11_firstWrong_12 ?_
  refine z_callVI dX11_firstWrong_13 (M_X7_spanAt _ _) bX7_spanAt lX11_170 kc_42 rfl rfl (Nat.le_of_ble_eq_true rfl) (Nat.le_of_ble_eq_true rfl) (fun r14 h15 => ?_)
  refine z_istore_n (lv2 := [(3, .int r14), (0, .ref 0), (1, .int x1), (2, .int x2)]) dX11_firstWrong_16 (Nat.le_of_ble_eq_true rfl) rfl ?_
  refine z_aload_n dX11_firstWrong_17 1 rfl ?_
  refine z_getR (j := 42) fX11_38 kc_0 rfl rfl rfl (by decide) dX11_firstWrong_18 ?_
  refine z_aload_n dX11_firstWrong_21 1 rfl ?_
  refine z_getR (j := 42) fX11_38 kc_0 rfl rfl rfl (by decide) dX11_firstWrong_22 ?_
  refine z_getIN fX11_157 kc_42 rfl dX11_firstWrong_25 ?_
  refine z_iconst (v := 2) dX11_firstWrong_28 (by decide) ?_
  refine z_isub dX11_firstWrong_29 ?_
  refine z_callVI dX11_firstWrong_30 (M_X7_spanAt _ _) bX7_spanAt lX11_170 kc_42 rfl rfl (Nat.le_of_ble_eq_true rfl) (Nat.le_of_ble_eq_true rfl) (fun r16 h17 => ?_)
  refine z_istore (lv2 := [(4, .int r16), (3, .int r14), (0, .ref 0), (1, .int x1), (2, .int x2)]) dX11_firstWrong_33 (Nat.le_of_ble_eq_true rfl) rfl ?_
  refine z_aload_n dX11_firstWrong_35 2 rfl ?_
  refine z_getR (j := 42) fX11_38 kc_0 rfl rfl rfl (by decide) dX11_firstWrong_36 ?_
  refine z_aload_n dX11_firstWrong_39 2 rfl ?_
  refine z_getR (j := 42) fX11_38 kc_0 rfl rfl rfl (by decide) dX11_firstWrong_40 ?_
  refine z_getIN fX11_157 kc_42 rfl dX11_firstWrong_43 ?_
  refine z_iconst (v := 1) dX11_firstWrong_46 (by decide) ?_
  refine z_isub dX11_firstWrong_47 ?_
  refine z_callVI dX11_firstWrong_48 (M_X7_speakerAt _ _) bX7_speakerAt lX11_164 kc_42 rfl rfl (Nat.le_of_ble_eq_true rfl) (Nat.le_of_ble_eq_true rfl) (fun r18 h19 => ?_)
  refine z_istore (lv2 := [(5, .int r18), (4, .int r16), (3, .int r14), (0, .ref 0), (1, .int x1), (2, .int x2)]) dX11_firstWrong_51 (Nat.le_of_ble_eq_true rfl) rfl ?_
  refine z_iconst (v := 0) dX11_firstWrong_53 (by decide) ?_
  refine z_istore (lv2 := [(6, .int 0), (5, .int r18), (4, .int r16), (3, .int r14), (0, .ref 0), (1, .int x1), (2, .int x2)]) dX11_firstWrong_54 (Nat.le_of_ble_eq_true rfl) rfl ?_
  exact z_sub [4, 5, 6, 3, 2, 1, 0] rfl (w_X11_firstWrong_56 FU _ _ _ _ _ _ _)
theorem M_X11_firstWrong (x1 : Int32) (x2 : Int32) (h : AHp) : MI QX11_firstWrong 3 [.ref 0, .int x1, .int x2] h (m_X11_firstWrong x1 x2 h) := MI.of (by decide) rfl rfl (Nat.le_of_ble_eq_true rfl) (w_X11_firstWrong x1 x2 h)
set_option maxHeartbeats 4000000 in
set_option maxRecDepth 100000 in
theorem w_X11_judged (x1 : Int32) (x2 : Int32) (h : AHp) : WO tvI QX11_judged 4 0 [(0, .ref 0), (1, .int x1), (2, .int x2)] [] h (m_X11_judged x1 x2 h) := by
  unfold m_X11_judged
  refine z_iload_n dX11_judged_0 1 rfl ?_
  refine z_callSI dX11_judged_1 (M_X11_isLaw _ _) bX11_isLaw lX11_132 rfl rfl (Nat.le_of_ble_eq_true rfl) (Nat.le_of_ble_eq_true rfl) (fun r1 h2 => ?_)
  refine z_if_eq (tgt := 18) dX11_judged_4 (by decide) ?_ ?_
  · refine z_iconst (v := -1) dX11_judged_18 (by decide) ?_
    exact z_iret dX11_judged_19 rfl
  · refine z_aload_n dX11_judged_7 0 rfl ?_
    refine z_iload_n dX11_judged_8 2 rfl ?_
    refine z_bipush (v := 60) dX11_judged_9 (by decide) ?_
    refine z_iconst (v := 3) dX11_judged_11 (by decide) ?_
    refine z_callVI dX11_judged_12 (M_X11_isOnTape _ _ _ _) bX11_isOnTape lX11_103 kc_0 rfl rfl (Nat.le_of_ble_eq_true rfl) (Nat.le_of_ble_eq_true rfl) (fun r3 h4 => ?_)
    refine z_if_ne (tgt := 20) dX11_judged_15 (by decide) ?_ ?_
    · refine z_aload_n dX11_judged_20 0 rfl ?_
      refine z_iload_n dX11_judged_21 2 rfl ?_
      refine z_iconst (v := 3) dX11_judged_22 (by decide) ?_
      refine z_callVI dX11_judged_23 (M_X11_tellsSpeakersAndThings _ _ _) bX11_tellsSpeakersAndThings lX11_176 kc_0 rfl rfl (Nat.le_of_ble_eq_true rfl) (Nat.le_of_ble_eq_true rfl) (fun r5 h6 => ?_)
      refine z_if_eq (tgt := 38) dX11_judged_26 (by decide) ?_ ?_
      · refine z_bipush (v := -2) dX11_judged_38 (by decide) ?_
        refine z_istore_n (lv2 := [(3, .int (-2)), (0, .ref 0), (1, .int x1), (2, .int x2)]) dX11_judged_40 (Nat.le_of_ble_eq_true rfl) rfl ?_
        refine z_aload_n dX11_judged_41 1 rfl ?_
        refine z_getR (j := 1) fX11_18 kc_0 rfl rfl rfl (by decide) dX11_judged_42 ?_
        refine z_callVV dX11_judged_45 (M_X8_clear _) bX8_clear lX11_111 kc_1 rfl rfl (Nat.le_of_ble_eq_true rfl) (Nat.le_of_ble_eq_true rfl) (fun r7 h8 => ?_)
        refine z_iload_n dX11_judged_48 0 rfl ?_
        exact z_iret dX11_judged_49 rfl
      · refine z_aload_n dX11_judged_29 0 rfl ?_
        refine z_iload_n dX11_judged_30 1 rfl ?_
        refine z_iload_n dX11_judged_31 2 rfl ?_
        refine z_callVI dX11_judged_32 (M_X11_firstWrong _ _ _) bX11_firstWrong lX11_180 kc_0 rfl rfl (Nat.le_of_ble_eq_true rfl) (Nat.le_of_ble_eq_true rfl) (fun r9 h10 => ?_)
        refine z_goto (tgt := 40) dX11_judged_35 (by decide) ?_
        refine z_istore_n (lv2 := [(3, .int r9), (0, .ref 0), (1, .int x1), (2, .int x2)]) dX11_judged_40 (Nat.le_of_ble_eq_true rfl) rfl ?_
        refine z_aload_n dX11_judged_41 1 rfl ?_
        refine z_getR (j := 1) fX11_18 kc_0 rfl rfl rfl (by decide) dX11_judged_42 ?_
        refine z_callVV dX11_judged_45 (M_X8_clear _) bX8_clear lX11_111 kc_1 rfl rfl (Nat.le_of_ble_eq_true rfl) (Nat.le_of_ble_eq_true rfl) (fun r11 h12 => ?_)
        refine z_iload_n dX11_judged_48 0 rfl ?_
        exact z_iret dX11_judged_49 rfl
    · refine z_iconst (v := -1) dX11_judged_18 (by decide) ?_
      exact z_iret dX11_judged_19 rfl
theorem M_X11_judged (x1 : Int32) (x2 : Int32) (h : AHp) : MI QX11_judged 4 [.ref 0, .int x1, .int x2] h (m_X11_judged x1 x2 h) := MI.of (by decide) rfl rfl (Nat.le_of_ble_eq_true rfl) (w_X11_judged x1 x2 h)
set_option maxHeartbeats 4000000 in
set_option maxRecDepth 100000 in
theorem w_X3_begin (h : AHp) : WO tvV QX3_begin 0 0 [(0, .ref 31)] [] h (m_X3_begin h) := by
  unfold m_X3_begin
  refine z_aload_n dX3_begin_0 0 rfl ?_
  refine z_dup dX3_begin_1 rfl ?_
  refine z_getI fX3_15 kc_31 rfl dX3_begin_2 ?_
  refine z_iconst (v := 1) dX3_begin_5 (by decide) ?_
  refine z_iadd dX3_begin_6 ?_
  refine z_putI fX3_15 kc_31 rfl dX3_begin_7 ?_
  refine z_lh (fun h1 => ?_)
  exact z_vret dX3_begin_10 rfl
theorem M_X3_begin (h : AHp) : MV QX3_begin 0 [.ref 31] h (m_X3_begin h) := MV.of (by decide) rfl rfl (Nat.le_of_ble_eq_true rfl) (w_X3_begin h)
set_option maxHeartbeats 4000000 in
set_option maxRecDepth 100000 in
theorem w_X11_placeOfBit_4 : ∀ (f : Nat) (x0 : Int32) (x2 : Int32) (x3 : Int32) (h : AHp), WO tvI QX11_placeOfBit 0 4 [(0, .int x0), (2, .int x2), (3, .int x3)] [] h (m_X11_placeOfBit_4 f x0 x2 x3 h) := by
  intro f
  induction f with
  | zero => intro x0 x2 x3 h; exact z_none
  | succ f ih =>
    intro x0 x2 x3 h
    rw [m_X11_placeOfBit_4]
    refine z_iload_n dX11_placeOfBit_4 2 rfl ?_
    refine z_bipush (v := 25) dX11_placeOfBit_5 (by decide) ?_
    refine z_ic_ge (tgt := 33) dX11_placeOfBit_7 (by decide) ?_ ?_
    · refine z_iconst (v := -1) dX11_placeOfBit_33 (by decide) ?_
      exact z_iret dX11_placeOfBit_34 rfl
    · refine z_iload_n dX11_placeOfBit_10 0 rfl ?_
      refine z_iload_n dX11_placeOfBit_11 2 rfl ?_
      refine z_ishr dX11_placeOfBit_12 ?_
      refine z_iconst (v := 1) dX11_placeOfBit_13 (by decide) ?_
      refine z_iand dX11_placeOfBit_14 ?_
      refine z_if_eq (tgt := 27) dX11_placeOfBit_15 (by decide) ?_ ?_
      · refine z_iincL (lv2 := fun v1 => [(3, .int v1), (0, .int x0), (2, .int x2)]) dX11_placeOfBit_27 2 rfl rfl (Nat.le_of_ble_eq_true rfl) (fun _ => rfl) (fun v1 => ?_)
        refine z_goto (tgt := 4) dX11_placeOfBit_30 (by decide) ?_
        exact z_sub [1, 2, 0] rfl (ih _ _ _ _)
      · refine z_iload_n dX11_placeOfBit_18 1 rfl ?_
        refine z_if_ne (tgt := 24) dX11_placeOfBit_19 (by decide) ?_ ?_
        · refine z_iincL (lv2 := fun v2 => [(2, .int v2), (0, .int x0), (3, .int x3)]) dX11_placeOfBit_24 1 rfl rfl (Nat.le_of_ble_eq_true rfl) (fun _ => rfl) (fun v2 => ?_)
          refine z_iincL (lv2 := fun v3 => [(3, .int v3), (2, .int v2), (0, .int x0)]) dX11_placeOfBit_27 2 rfl rfl (Nat.le_of_ble_eq_true rfl) (fun _ => rfl) (fun v3 => ?_)
          refine z_goto (tgt := 4) dX11_placeOfBit_30 (by decide) ?_
          exact z_sub [2, 1, 0] rfl (ih _ _ _ _)
        · refine z_iload_n dX11_placeOfBit_22 2 rfl ?_
          exact z_iret dX11_placeOfBit_23 rfl
set_option maxHeartbeats 4000000 in
set_option maxRecDepth 100000 in
theorem w_X11_placeOfBit (x0 : Int32) (x1 : Int32) (h : AHp) : WO tvI QX11_placeOfBit 0 0 [(0, .int x0), (1, .int x1)] [] h (m_X11_placeOfBit x0 x1 h) := by
  unfold m_X11_placeOfBit
  refine z_iload_n dX11_placeOfBit_0 1 rfl ?_
  refine z_istore_n (lv2 := [(2, .int x1), (0, .int x0), (1, .int x1)]) dX11_placeOfBit_1 (Nat.le_of_ble_eq_true rfl) rfl ?_
  refine z_iconst (v := 0) dX11_placeOfBit_2 (by decide) ?_
  refine z_istore_n (lv2 := [(3, .int 0), (2, .int x1), (0, .int x0), (1, .int x1)]) dX11_placeOfBit_3 (Nat.le_of_ble_eq_true rfl) rfl ?_
  exact z_sub [2, 1, 0] rfl (w_X11_placeOfBit_4 FU _ _ _ _)
theorem M_X11_placeOfBit (x0 : Int32) (x1 : Int32) (h : AHp) : MI QX11_placeOfBit 0 [.int x0, .int x1] h (m_X11_placeOfBit x0 x1 h) := MI.of (by decide) rfl rfl (Nat.le_of_ble_eq_true rfl) (w_X11_placeOfBit x0 x1 h)
set_option maxHeartbeats 4000000 in
set_option maxRecDepth 100000 in
theorem w_X1_sumLeast_3 : ∀ (f : Nat) (x1 : Int32) (h : AHp), WO tvV QX1_sumLeast 1 3 [(0, .ref 51), (1, .int x1)] [] h (m_X1_sumLeast_3 f x1 h) := by
  intro f
  induction f with
  | zero => intro x1 h; exact z_none
  | succ f ih =>
    intro x1 h
    rw [m_X1_sumLeast_3]
    refine z_iload_n dX1_sumLeast_3 1 rfl ?_
    refine z_if_lt (tgt := 54) dX1_sumLeast_4 (by decide) ?_ ?_
    · exact z_vret dX1_sumLeast_54 rfl
    · refine z_aload_n dX1_sumLeast_7 0 rfl ?_
      refine z_getR (j := 55) fX1_21 kc_51 rfl rfl rfl (by decide) dX1_sumLeast_8 ?_
      refine z_iload_n dX1_sumLeast_11 1 rfl ?_
      refine z_iload_n dX1_sumLeast_12 1 rfl ?_
      refine z_aload_n dX1_sumLeast_13 0 rfl ?_
      refine z_getI fX1_48 kc_51 rfl dX1_sumLeast_14 ?_
      refine z_ic_ge (tgt := 46) dX1_sumLeast_17 (by decide) ?_ ?_
      · refine z_iconst (v := 0) dX1_sumLeast_46 (by decide) ?_
        refine z_gd (fun g2 => ?_)
        refine z_iast kc_55 dX1_sumLeast_47 g2 ?_
        refine z_lh (fun h1 => ?_)
        refine z_iincL (lv2 := fun v3 => [(1, .int v3), (0, .ref 51)]) dX1_sumLeast_48 1 rfl rfl (Nat.le_of_ble_eq_true rfl) (fun _ => rfl) (fun v3 => ?_)
        refine z_goto (tgt := 3) dX1_sumLeast_51 (by decide) ?_
        exact z_sub [1, 0] rfl (ih _ _)
      · refine z_aload_n dX1_sumLeast_20 0 rfl ?_
        refine z_getR (j := 55) fX1_21 kc_51 rfl rfl rfl (by decide) dX1_sumLeast_21 ?_
        refine z_iload_n dX1_sumLeast_24 1 rfl ?_
        refine z_iconst (v := 1) dX1_sumLeast_25 (by decide) ?_
        refine z_iadd dX1_sumLeast_26 ?_
        refine z_gd (fun g4 => ?_)
        refine z_iald kc_55 dX1_sumLeast_27 g4 ?_
        refine z_iconst (v := 0) dX1_sumLeast_28 (by decide) ?_
        refine z_aload_n dX1_sumLeast_29 0 rfl ?_
        refine z_getR (j := 54) fX1_18 kc_51 rfl rfl rfl (by decide) dX1_sumLeast_30 ?_
        refine z_iload_n dX1_sumLeast_33 1 rfl ?_
        refine z_gd (fun g5 => ?_)
        refine z_iald kc_54 dX1_sumLeast_34 g5 ?_
        refine z_iconst (v := 0) dX1_sumLeast_35 (by decide) ?_
        refine z_callSNI dX1_sumLeast_36 (M_X11_placeOfBit _ _ _) bX11_placeOfBit lX1_102 rfl rfl (Nat.le_of_ble_eq_true rfl) (Nat.le_of_ble_eq_true rfl) (fun r6 h7 => ?_)
        refine z_mmax dX1_sumLeast_39 lX1_45 w_mmax (Nat.le_of_ble_eq_true rfl) (Nat.le_of_ble_eq_true rfl) ?_
        refine z_iadd dX1_sumLeast_42 ?_
        refine z_goto (tgt := 47) dX1_sumLeast_43 (by decide) ?_
        refine z_gd (fun g9 => ?_)
        refine z_iast kc_55 dX1_sumLeast_47 g9 ?_
        refine z_lh (fun h8 => ?_)
        refine z_iincL (lv2 := fun v10 => [(1, .int v10), (0, .ref 51)]) dX1_sumLeast_48 1 rfl rfl (Nat.le_of_ble_eq_true rfl) (fun _ => rfl) (fun v10 => ?_)
        refine z_goto (tgt := 3) dX1_sumLeast_51 (by decide) ?_
        exact z_sub [1, 0] rfl (ih _ _)
set_option maxHeartbeats 4000000 in
set_option maxRecDepth 100000 in
theorem w_X1_sumLeast (h : AHp) : WO tvV QX1_sumLeast 1 0 [(0, .ref 51)] [] h (m_X1_sumLeast h) := by
  unfold m_X1_sumLeast
  refine z_bipush (v := 12) dX1_sumLeast_0 (by decide) ?_
  refine z_istore_n (lv2 := [(1, .int 12), (0, .ref 51)]) dX1_sumLeast_2 (Nat.le_of_ble_eq_true rfl) rfl ?_
  exact z_sub [1, 0] rfl (w_X1_sumLeast_3 FU _ _)
theorem M_X1_sumLeast (h : AHp) : MV QX1_sumLeast 1 [.ref 51] h (m_X1_sumLeast h) := MV.of (by decide) rfl rfl (Nat.le_of_ble_eq_true rfl) (w_X1_sumLeast h)
set_option maxHeartbeats 4000000 in
set_option maxRecDepth 100000 in
theorem w_X1_lengthAt_9 : ∀ (f : Nat) (x1 : Int32) (x4 : Int32) (x5 : Int32) (x6 : Int32) (h : AHp), WO tvI QX1_lengthAt 1 9 [(0, .ref 51), (1, .int x1), (4, .int x4), (5, .int x5), (6, .int x6)] [] h (m_X1_lengthAt_9 f x1 x4 x5 x6 h) := by
  intro f
  induction f with
  | zero => intro x1 x4 x5 x6 h; exact z_none
  | succ f ih =>
    intro x1 x4 x5 x6 h
    rw [m_X1_lengthAt_9]
    refine z_iload dX1_lengthAt_9 4 rfl ?_
    refine z_iload_n dX1_lengthAt_11 1 rfl ?_
    refine z_ic_gt (tgt := 60) dX1_lengthAt_12 (by decide) ?_ ?_
    · refine z_iload dX1_lengthAt_60 2 rfl ?_
      exact z_iret dX1_lengthAt_62 rfl
    · refine z_iload dX1_lengthAt_15 4 rfl ?_
      refine z_aload_n dX1_lengthAt_17 0 rfl ?_
      refine z_getI fX1_48 kc_51 rfl dX1_lengthAt_18 ?_
      refine z_ic_ge (tgt := 60) dX1_lengthAt_21 (by decide) ?_ ?_
      · refine z_iload dX1_lengthAt_60 2 rfl ?_
        exact z_iret dX1_lengthAt_62 rfl
      · refine z_aload_n dX1_lengthAt_24 0 rfl ?_
        refine z_getR (j := 31) fX1_28 kc_51 rfl rfl rfl (by decide) dX1_lengthAt_25 ?_
        refine z_aload_n dX1_lengthAt_28 0 rfl ?_
        refine z_iload dX1_lengthAt_29 4 rfl ?_
        refine z_iload dX1_lengthAt_31 2 rfl ?_
        refine z_iload dX1_lengthAt_33 3 rfl ?_
        refine z_callVI dX1_lengthAt_35 (M_X1_keyOf _ _ _ _) bX1_keyOf lX1_105 kc_51 rfl rfl (Nat.le_of_ble_eq_true rfl) (Nat.le_of_ble_eq_true rfl) (fun r1 h2 => ?_)
        refine z_callVI dX1_lengthAt_38 (M_X3_get _ _) bX3_get lX1_112 kc_31 rfl rfl (Nat.le_of_ble_eq_true rfl) (Nat.le_of_ble_eq_true rfl) (fun r3 h4 => ?_)
        refine z_bipush (v := 31) dX1_lengthAt_41 (by decide) ?_
        refine z_iand dX1_lengthAt_43 ?_
        refine z_istoreL (lv2 := fun v5 => [(7, .int v5), (0, .ref 51), (1, .int x1), (4, .int x4), (5, .int x5), (6, .int x6)]) dX1_lengthAt_44 (Nat.le_of_ble_eq_true rfl) (fun _ => rfl) (fun v5 => ?_)
        refine z_iload dX1_lengthAt_46 3 rfl ?_
        refine z_istore (lv2 := [(5, .int x4), (7, .int v5), (0, .ref 51), (1, .int x1), (4, .int x4), (6, .int x6)]) dX1_lengthAt_48 (Nat.le_of_ble_eq_true rfl) rfl ?_
        refine z_iload dX1_lengthAt_50 1 rfl ?_
        refine z_istore (lv2 := [(4, .int v5), (5, .int x4), (7, .int v5), (0, .ref 51), (1, .int x1), (6, .int x6)]) dX1_lengthAt_52 (Nat.le_of_ble_eq_true rfl) rfl ?_
        refine z_iincL (lv2 := fun v6 => [(6, .int v6), (4, .int v5), (5, .int x4), (7, .int v5), (0, .ref 51), (1, .int x1)]) dX1_lengthAt_54 5 rfl rfl (Nat.le_of_ble_eq_true rfl) (fun _ => rfl) (fun v6 => ?_)
        refine z_goto (tgt := 9) dX1_lengthAt_57 (by decide) ?_
        exact z_sub [4, 5, 1, 2, 0] rfl (ih _ _ _ _ _)
set_option maxHeartbeats 4000000 in
set_option maxRecDepth 100000 in
theorem w_X1_lengthAt (x1 : Int32) (x2 : Int32) (x3 : Int32) (h : AHp) : WO tvI QX1_lengthAt 1 0 [(0, .ref 51), (1, .int x1), (2, .int x2), (3, .int x3)] [] h (m_X1_lengthAt x1 x2 x3 h) := by
  unfold m_X1_lengthAt
  refine z_iload_n dX1_lengthAt_0 2 rfl ?_
  refine z_istore (lv2 := [(4, .int x2), (0, .ref 51), (1, .int x1), (2, .int x2), (3, .int x3)]) dX1_lengthAt_1 (Nat.le_of_ble_eq_true rfl) rfl ?_
  refine z_iload_n dX1_lengthAt_3 4 rfl ?_
  refine z_istore (lv2 := [(5, .int x3), (4, .int x2), (0, .ref 51), (1, .int x1), (2, .int x2), (3, .int x3)]) dX1_lengthAt_4 (Nat.le_of_ble_eq_true rfl) rfl ?_
  refine z_iconst (v := 0) dX1_lengthAt_6 (by decide) ?_
  refine z_istore (lv2 := [(6, .int 0), (5, .int x3), (4, .int x2), (0, .ref 51), (1, .int x1), (2, .int x2), (3, .int x3)]) dX1_lengthAt_7 (Nat.le_of_ble_eq_true rfl) rfl ?_
  exact z_sub [3, 4, 2, 1, 0] rfl (w_X1_lengthAt_9 FU _ _ _ _ _)
theorem M_X1_lengthAt (x1 : Int32) (x2 : Int32) (x3 : Int32) (h : AHp) : MI QX1_lengthAt 1 [.ref 51, .int x1, .int x2, .int x3] h (m_X1_lengthAt x1 x2 x3 h) := MI.of (by decide) rfl rfl (Nat.le_of_ble_eq_true rfl) (w_X1_lengthAt x1 x2 x3 h)
set_option maxHeartbeats 4000000 in
set_option maxRecDepth 100000 in
theorem w_X1_answer (x2 : Int32) (h : AHp) : WO tvI QX1_answer 55 0 [(0, .ref 51), (1, .ref 42), (2, .int x2)] [] h (m_X1_answer x2 h) := by
  unfold m_X1_answer
  refine z_aload_n dX1_answer_0 0 rfl ?_
  refine z_getR (j := 31) fX1_28 kc_51 rfl rfl rfl (by decide) dX1_answer_1 ?_
  refine z_callVV dX1_answer_4 (M_X3_begin _) bX3_begin lX1_67 kc_31 rfl rfl (Nat.le_of_ble_eq_true rfl) (Nat.le_of_ble_eq_true rfl) (fun r1 h2 => ?_)
  refine z_aload_n dX1_answer_7 0 rfl ?_
  refine z_aload_n dX1_answer_8 1 rfl ?_
  refine z_aload_n dX1_answer_9 1 rfl ?_
  refine z_getIN fX1_72 kc_42 rfl dX1_answer_10 ?_
  refine z_iconst (v := 1) dX1_answer_13 (by decide) ?_
  refine z_isub dX1_answer_14 ?_
  refine z_callVI dX1_answer_15 (M_X7_speakerAt _ _) bX7_speakerAt lX1_77 kc_42 rfl rfl (Nat.le_of_ble_eq_true rfl) (Nat.le_of_ble_eq_true rfl) (fun r3 h4 => ?_)
  refine z_putI fX1_80 kc_51 rfl dX1_answer_18 ?_
  refine z_lh (fun h5 => ?_)
  refine z_aload_n dX1_answer_21 0 rfl ?_
  refine z_aload_n dX1_answer_22 1 rfl ?_
  refine z_getIN fX1_72 kc_42 rfl dX1_answer_23 ?_
  refine z_putI fX1_83 kc_51 rfl dX1_answer_26 ?_
  refine z_lh (fun h6 => ?_)
  refine z_aload_n dX1_answer_29 0 rfl ?_
  refine z_iconst (v := 0) dX1_answer_30 (by decide) ?_
  refine z_putI fX1_86 kc_51 rfl dX1_answer_31 ?_
  refine z_lh (fun h7 => ?_)
  refine z_aload_n dX1_answer_34 0 rfl ?_
  refine z_callVV dX1_answer_35 (M_X1_sumLeast _) bX1_sumLeast lX1_89 kc_51 rfl rfl (Nat.le_of_ble_eq_true rfl) (Nat.le_of_ble_eq_true rfl) (fun r8 h9 => ?_)
  refine z_aload_n dX1_answer_38 1 rfl ?_
  refine z_aload_n dX1_answer_39 1 rfl ?_
  refine z_getIN fX1_72 kc_42 rfl dX1_answer_40 ?_
  refine z_iconst (v := 1) dX1_answer_43 (by decide) ?_
  refine z_isub dX1_answer_44 ?_
  refine z_callVI dX1_answer_45 (M_X7_spanAt _ _) bX7_spanAt lX1_92 kc_42 rfl rfl (Nat.le_of_ble_eq_true rfl) (Nat.le_of_ble_eq_true rfl) (fun r10 h11 => ?_)
  refine z_istore_n (lv2 := [(3, .int r10), (0, .ref 51), (1, .ref 42), (2, .int x2)]) dX1_answer_48 (Nat.le_of_ble_eq_true rfl) rfl ?_
  refine z_aload_n dX1_answer_49 2 rfl ?_
  refine z_aload_n dX1_answer_50 2 rfl ?_
  refine z_getIN fX1_72 kc_42 rfl dX1_answer_51 ?_
  refine z_iconst (v := 2) dX1_answer_54 (by decide) ?_
  refine z_isub dX1_answer_55 ?_
  refine z_callVI dX1_answer_56 (M_X7_spanAt _ _) bX7_spanAt lX1_92 kc_42 rfl rfl (Nat.le_of_ble_eq_true rfl) (Nat.le_of_ble_eq_true rfl) (fun r12 h13 => ?_)
  refine z_istore (lv2 := [(4, .int r12), (3, .int r10), (0, .ref 51), (1, .ref 42), (2, .int x2)]) dX1_answer_59 (Nat.le_of_ble_eq_true rfl) rfl ?_
  refine z_aload_n dX1_answer_61 2 rfl ?_
  refine z_iconst (v := 0) dX1_answer_62 (by decide) ?_
  refine z_iload_n dX1_answer_63 1 rfl ?_
  refine z_iload dX1_answer_64 0 rfl ?_
  refine z_callVI dX1_answer_66 (M_X1_fewest 14 _ _ _ _) bX1_fewest lX1_95 kc_51 rfl rfl (Nat.le_of_ble_eq_true rfl) (Nat.le_of_ble_eq_true rfl) (fun r14 h15 => ?_)
  refine z_istore (lv2 := [(5, .int r14), (4, .int r12), (3, .int r10), (0, .ref 51), (1, .ref 42), (2, .int x2)]) dX1_answer_69 (Nat.le_of_ble_eq_true rfl) rfl ?_
  refine z_iload_n dX1_answer_71 5 rfl ?_
  refine z_bipush (v := 20) dX1_answer_72 (by decide) ?_
  refine z_ic_ne (tgt := 82) dX1_answer_74 (by decide) ?_ ?_
  · refine z_iload dX1_answer_82 0 rfl ?_
    refine z_if_ge (tgt := 90) dX1_answer_84 (by decide) ?_ ?_
    · refine z_iload_n dX1_answer_90 5 rfl ?_
      refine z_iconst (v := -1) dX1_answer_91 (by decide) ?_
      refine z_ic_ne (tgt := 100) dX1_answer_92 (by decide) ?_ ?_
      · refine z_aload_n dX1_answer_100 3 rfl ?_
        refine z_iload_n dX1_answer_101 5 rfl ?_
        refine z_iload_n dX1_answer_102 2 rfl ?_
        refine z_iload dX1_answer_103 1 rfl ?_
        refine z_callVI dX1_answer_105 (M_X1_lengthAt _ _ _ _) bX1_lengthAt lX1_99 kc_51 rfl rfl (Nat.le_of_ble_eq_true rfl) (Nat.le_of_ble_eq_true rfl) (fun r16 h17 => ?_)
        exact z_iret dX1_answer_108 rfl
      · refine z_iload dX1_answer_95 0 rfl ?_
        refine z_goto (tgt := 108) dX1_answer_97 (by decide) ?_
        exact z_iret dX1_answer_108 rfl
    · refine z_bipush (v := -2) dX1_answer_87 (by decide) ?_
      exact z_iret dX1_answer_89 rfl
  · refine z_aload_n dX1_answer_77 3 rfl ?_
    refine z_getI fX1_86 kc_51 rfl dX1_answer_78 ?_
    exact z_iret dX1_answer_81 rfl
theorem M_X1_answer (x2 : Int32) (h : AHp) : MI QX1_answer 55 [.ref 51, .ref 42, .int x2] h (m_X1_answer x2 h) := MI.of (by decide) rfl rfl (Nat.le_of_ble_eq_true rfl) (w_X1_answer x2 h)
set_option maxHeartbeats 4000000 in
set_option maxRecDepth 100000 in
theorem w_X1_tell_17 : ∀ (f : Nat) (x1 : Int32) (x2 : Int32) (x3 : Int32) (x4 : Int32) (x5 : Int32) (x6 : Int32) (h : AHp), WO tvV QX1_tell 2 17 [(0, .ref 51), (1, .int x1), (2, .int x2), (3, .int x3), (4, .int x4), (5, .int x5), (6, .int x6)] [] h (m_X1_tell_17 f x1 x2 x3 x4 x5 x6 h) := by
  intro f
  induction f with
  | zero => intro x1 x2 x3 x4 x5 x6 h; exact z_none
  | succ f ih =>
    intro x1 x2 x3 x4 x5 x6 h
    rw [m_X1_tell_17]
    refine z_iload dX1_tell_17 6 rfl ?_
    refine z_bipush (v := 24) dX1_tell_19 (by decide) ?_
    refine z_ic_gt (tgt := 62) dX1_tell_21 (by decide) ?_ ?_
    · refine z_aload_n dX1_tell_62 0 rfl ?_
      refine z_getR (j := 52) fX1_9 kc_51 rfl rfl rfl (by decide) dX1_tell_63 ?_
      refine z_iload_n dX1_tell_66 1 rfl ?_
      refine z_iload_n dX1_tell_67 2 rfl ?_
      refine z_gd (fun g2 => ?_)
      refine z_iast kc_52 dX1_tell_68 g2 ?_
      refine z_lh (fun h1 => ?_)
      refine z_aload_n dX1_tell_69 0 rfl ?_
      refine z_getR (j := 53) fX1_15 kc_51 rfl rfl rfl (by decide) dX1_tell_70 ?_
      refine z_iload_n dX1_tell_73 1 rfl ?_
      refine z_iload_n dX1_tell_74 3 rfl ?_
      refine z_gd (fun g4 => ?_)
      refine z_iast kc_53 dX1_tell_75 g4 ?_
      refine z_lh (fun h3 => ?_)
      refine z_aload_n dX1_tell_76 0 rfl ?_
      refine z_getR (j := 54) fX1_18 kc_51 rfl rfl rfl (by decide) dX1_tell_77 ?_
      refine z_iload_n dX1_tell_80 1 rfl ?_
      refine z_aload_n dX1_tell_81 0 rfl ?_
      refine z_getR (j := 3) fX1_24 kc_51 rfl rfl rfl (by decide) dX1_tell_82 ?_
      refine z_iload_n dX1_tell_85 3 rfl ?_
      refine z_callVI dX1_tell_86 (M_X9_sizesOf _ _) bX9_sizesOf lX1_64 kc_3 rfl rfl (Nat.le_of_ble_eq_true rfl) (Nat.le_of_ble_eq_true rfl) (fun r5 h6 => ?_)
      refine z_iload dX1_tell_89 5 rfl ?_
      refine z_iand dX1_tell_91 ?_
      refine z_gd (fun g8 => ?_)
      refine z_iast kc_54 dX1_tell_92 g8 ?_
      refine z_lh (fun h7 => ?_)
      exact z_vret dX1_tell_93 rfl
    · refine z_iload dX1_tell_24 5 rfl ?_
      refine z_aload_n dX1_tell_26 0 rfl ?_
      refine z_getI fX1_36 kc_51 rfl dX1_tell_27 ?_
      refine z_if_le (tgt := 52) dX1_tell_30 (by decide) ?_ ?_
      · refine z_iconst (v := 0) dX1_tell_52 (by decide) ?_
        refine z_ior dX1_tell_53 ?_
        refine z_istoreL (lv2 := fun v9 => [(5, .int v9), (0, .ref 51), (1, .int x1), (2, .int x2), (3, .int x3), (4, .int x4), (6, .int x6)]) dX1_tell_54 (Nat.le_of_ble_eq_true rfl) (fun _ => rfl) (fun v9 => ?_)
        refine z_iincL (lv2 := fun v10 => [(6, .int v10), (5, .int v9), (0, .ref 51), (1, .int x1), (2, .int x2), (3, .int x3), (4, .int x4)]) dX1_tell_56 6 rfl rfl (Nat.le_of_ble_eq_true rfl) (fun _ => rfl) (fun v10 => ?_)
        refine z_goto (tgt := 17) dX1_tell_59 (by decide) ?_
        exact z_sub [2, 3, 4, 5, 6, 1, 0] rfl (ih _ _ _ _ _ _ _)
      · refine z_iload dX1_tell_33 6 rfl ?_
        refine z_aload_n dX1_tell_35 0 rfl ?_
        refine z_getI fX1_36 kc_51 rfl dX1_tell_36 ?_
        refine z_gd (fun g11 => ?_)
        refine z_irem dX1_tell_39 g11 ?_
        refine z_iload dX1_tell_40 4 rfl ?_
        refine z_ic_ne (tgt := 52) dX1_tell_42 (by decide) ?_ ?_
        · refine z_iconst (v := 0) dX1_tell_52 (by decide) ?_
          refine z_ior dX1_tell_53 ?_
          refine z_istoreL (lv2 := fun v12 => [(5, .int v12), (0, .ref 51), (1, .int x1), (2, .int x2), (3, .int x3), (4, .int x4), (6, .int x6)]) dX1_tell_54 (Nat.le_of_ble_eq_true rfl) (fun _ => rfl) (fun v12 => ?_)
          refine z_iincL (lv2 := fun v13 => [(6, .int v13), (5, .int v12), (0, .ref 51), (1, .int x1), (2, .int x2), (3, .int x3), (4, .int x4)]) dX1_tell_56 6 rfl rfl (Nat.le_of_ble_eq_true rfl) (fun _ => rfl) (fun v13 => ?_)
          refine z_goto (tgt := 17) dX1_tell_59 (by decide) ?_
          exact z_sub [2, 3, 4, 5, 6, 1, 0] rfl (ih _ _ _ _ _ _ _)
        · refine z_iconst (v := 1) dX1_tell_45 (by decide) ?_
          refine z_iload dX1_tell_46 6 rfl ?_
          refine z_ishl dX1_tell_48 ?_
          refine z_goto (tgt := 53) dX1_tell_49 (by decide) ?_
          refine z_ior dX1_tell_53 ?_
          refine z_istoreL (lv2 := fun v14 => [(5, .int v14), (0, .ref 51), (1, .int x1), (2, .int x2), (3, .int x3), (4, .int x4), (6, .int x6)]) dX1_tell_54 (Nat.le_of_ble_eq_true rfl) (fun _ => rfl) (fun v14 => ?_)
          refine z_iincL (lv2 := fun v15 => [(6, .int v15), (5, .int v14), (0, .ref 51), (1, .int x1), (2, .int x2), (3, .int x3), (4, .int x4)]) dX1_tell_56 6 rfl rfl (Nat.le_of_ble_eq_true rfl) (fun _ => rfl) (fun v15 => ?_)
          refine z_goto (tgt := 17) dX1_tell_59 (by decide) ?_
          exact z_sub [2, 3, 4, 5, 6, 1, 0] rfl (ih _ _ _ _ _ _ _)
set_option maxHeartbeats 4000000 in
set_option maxRecDepth 100000 in
theorem w_X1_tell (x1 : Int32) (x2 : Int32) (x3 : Int32) (x4 : Int32) (h : AHp) : WO tvV QX1_tell 2 0 [(0, .ref 51), (1, .int x1), (2, .int x2), (3, .int x3), (4, .int x4)] [] h (m_X1_tell x1 x2 x3 x4 h) := by
  unfold m_X1_tell
  refine z_iload_n dX1_tell_0 1 rfl ?_
  refine z_if_lt (tgt := 10) dX1_tell_1 (by decide) ?_ ?_
  · exact z_vret dX1_tell_10 rfl
  · refine z_iload_n dX1_tell_4 1 rfl ?_
    refine z_bipush (v := 12) dX1_tell_5 (by decide) ?_
    refine z_ic_lt (tgt := 11) dX1_tell_7 (by decide) ?_ ?_
    · refine z_iconst (v := 0) dX1_tell_11 (by decide) ?_
      refine z_istore (lv2 := [(5, .int 0), (0, .ref 51), (1, .int x1), (2, .int x2), (3, .int x3), (4, .int x4)]) dX1_tell_12 (Nat.le_of_ble_eq_true rfl) rfl ?_
      refine z_iconst (v := 1) dX1_tell_14 (by decide) ?_
      refine z_istore (lv2 := [(6, .int 1), (5, .int 0), (0, .ref 51), (1, .int x1), (2, .int x2), (3, .int x3), (4, .int x4)]) dX1_tell_15 (Nat.le_of_ble_eq_true rfl) rfl ?_
      exact z_sub [2, 3, 4, 5, 6, 1, 0] rfl (w_X1_tell_17 FU _ _ _ _ _ _ _)
    · exact z_vret dX1_tell_10 rfl
theorem M_X1_tell (x1 : Int32) (x2 : Int32) (x3 : Int32) (x4 : Int32) (h : AHp) : MV QX1_tell 2 [.ref 51, .int x1, .int x2, .int x3, .int x4] h (m_X1_tell x1 x2 x3 x4 h) := MV.of (by decide) rfl rfl (Nat.le_of_ble_eq_true rfl) (w_X1_tell x1 x2 x3 x4 h)
set_option maxHeartbeats 4000000 in
set_option maxRecDepth 100000 in
theorem w_X11_isHeldPlace (x0 : Int32) (x1 : Int32) (h : AHp) : WO tvI QX11_isHeldPlace 0 0 [(0, .int x0), (1, .int x1)] [] h (m_X11_isHeldPlace x0 x1 h) := by
  unfold m_X11_isHeldPlace
  refine z_iload_n dX11_isHeldPlace_0 1 rfl ?_
  refine z_iconst (v := -1) dX11_isHeldPlace_1 (by decide) ?_
  refine z_ic_eq (tgt := 20) dX11_isHeldPlace_2 (by decide) ?_ ?_
  · refine z_iconst (v := 1) dX11_isHeldPlace_20 (by decide) ?_
    refine z_goto (tgt := 25) dX11_isHeldPlace_21 (by decide) ?_
    exact z_zret dX11_isHeldPlace_25 rfl (Or.inr rfl)
  · refine z_iload_n dX11_isHeldPlace_5 1 rfl ?_
    refine z_bipush (v := 20) dX11_isHeldPlace_6 (by decide) ?_
    refine z_ic_eq (tgt := 20) dX11_isHeldPlace_8 (by decide) ?_ ?_
    · refine z_iconst (v := 1) dX11_isHeldPlace_20 (by decide) ?_
      refine z_goto (tgt := 25) dX11_isHeldPlace_21 (by decide) ?_
      exact z_zret dX11_isHeldPlace_25 rfl (Or.inr rfl)
    · refine z_iload_n dX11_isHeldPlace_11 1 rfl ?_
      refine z_if_lt (tgt := 24) dX11_isHeldPlace_12 (by decide) ?_ ?_
      · refine z_iconst (v := 0) dX11_isHeldPlace_24 (by decide) ?_
        exact z_zret dX11_isHeldPlace_25 rfl (Or.inl rfl)
      · refine z_iload_n dX11_isHeldPlace_15 1 rfl ?_
        refine z_iload_n dX11_isHeldPlace_16 0 rfl ?_
        refine z_ic_ge (tgt := 24) dX11_isHeldPlace_17 (by decide) ?_ ?_
        · refine z_iconst (v := 0) dX11_isHeldPlace_24 (by decide) ?_
          exact z_zret dX11_isHeldPlace_25 rfl (Or.inl rfl)
        · refine z_iconst (v := 1) dX11_isHeldPlace_20 (by decide) ?_
          refine z_goto (tgt := 25) dX11_isHeldPlace_21 (by decide) ?_
          exact z_zret dX11_isHeldPlace_25 rfl (Or.inr rfl)
theorem M_X11_isHeldPlace (x0 : Int32) (x1 : Int32) (h : AHp) : MI QX11_isHeldPlace 0 [.int x0, .int x1] h (m_X11_isHeldPlace x0 x1 h) := MI.of (by decide) rfl rfl (Nat.le_of_ble_eq_true rfl) (w_X11_isHeldPlace x0 x1 h)
set_option maxHeartbeats 4000000 in
set_option maxRecDepth 100000 in
theorem w_X9_asks_17 (x1 : Int32) (s0 : Int32) (h : AHp) : WO tvI QX9_asks 0 17 [(0, .ref 3), (1, .int x1)] [.int s0] h (m_X9_asks_17 x1 s0 h) := by
  unfold m_X9_asks_17
  refine z_istore_n (lv2 := [(2, .int s0), (0, .ref 3), (1, .int x1)]) dX9_asks_17 (Nat.le_of_ble_eq_true rfl) rfl ?_
  refine z_iload_n dX9_asks_18 2 rfl ?_
  refine z_iconst (v := 2) dX9_asks_19 (by decide) ?_
  refine z_iand dX9_asks_20 ?_
  refine z_if_eq (tgt := 36) dX9_asks_21 (by decide) ?_ ?_
  · refine z_iload_n dX9_asks_36 0 rfl ?_
    exact z_iret dX9_asks_37 rfl
  · refine z_iload_n dX9_asks_24 0 rfl ?_
    refine z_aload_n dX9_asks_25 1 rfl ?_
    refine z_gd (fun g1 => ?_)
    refine z_getM fX9_28 kc_3 rfl rfl (law_ne g1) dX9_asks_26 ?_
    refine z_getIN fX9_45 (law_k g1) rfl dX9_asks_29 ?_
    refine z_ior dX9_asks_32 ?_
    refine z_goto (tgt := 37) dX9_asks_33 (by decide) ?_
    exact z_iret dX9_asks_37 rfl
set_option maxHeartbeats 4000000 in
set_option maxRecDepth 100000 in
theorem w_X9_asks (x1 : Int32) (h : AHp) : WO tvI QX9_asks 0 0 [(0, .ref 3), (1, .int x1)] [] h (m_X9_asks x1 h) := by
  unfold m_X9_asks
  refine z_iload_n dX9_asks_0 1 rfl ?_
  refine z_iconst (v := 1) dX9_asks_1 (by decide) ?_
  refine z_iand dX9_asks_2 ?_
  refine z_if_eq (tgt := 16) dX9_asks_3 (by decide) ?_ ?_
  · refine z_iconst (v := 0) dX9_asks_16 (by decide) ?_
    exact w_X9_asks_17 _ _ _
  · refine z_aload_n dX9_asks_6 0 rfl ?_
    refine z_gd (fun g2 => ?_)
    refine z_getM fX9_24 kc_3 rfl rfl (law_ne g2) dX9_asks_7 ?_
    refine z_getIN fX9_45 (law_k g2) rfl dX9_asks_10 ?_
    refine z_goto (tgt := 17) dX9_asks_13 (by decide) ?_
    exact w_X9_asks_17 _ _ _
theorem M_X9_asks (x1 : Int32) (h : AHp) : MI QX9_asks 0 [.ref 3, .int x1] h (m_X9_asks x1 h) := MI.of (by decide) rfl rfl (Nat.le_of_ble_eq_true rfl) (w_X9_asks x1 h)
set_option maxHeartbeats 4000000 in
set_option maxRecDepth 100000 in
theorem w_X1_begin_48 (x4 : Int32) (s1 : Int32) (h : AHp) : WO tvV QX1_begin 1 48 [(0, .ref 51), (4, .int x4)] [.int s1, .ref 51] h (m_X1_begin_48 x4 s1 h) := by
  unfold m_X1_begin_48
  refine z_gd (fun g2 => ?_)
  refine z_putZ fX1_57 kc_51 rfl g2 dX1_begin_48 ?_
  refine z_lh (fun h1 => ?_)
  refine z_aload_n dX1_begin_51 0 rfl ?_
  refine z_aload_n dX1_begin_52 0 rfl ?_
  refine z_getI fX1_57 kc_51 rfl dX1_begin_53 ?_
  refine z_if_ne (tgt := 67) dX1_begin_56 (by decide) ?_ ?_
  · refine z_iconst (v := 1) dX1_begin_67 (by decide) ?_
    refine z_goto (tgt := 72) dX1_begin_68 (by decide) ?_
    refine z_putZ fX1_61 kc_51 rfl (Or.inr rfl) dX1_begin_72 ?_
    refine z_lh (fun h3 => ?_)
    exact z_vret dX1_begin_75 rfl
  · refine z_iload dX1_begin_59 1 rfl ?_
    refine z_bipush (v := 16) dX1_begin_61 (by decide) ?_
    refine z_iand dX1_begin_63 ?_
    refine z_if_eq (tgt := 71) dX1_begin_64 (by decide) ?_ ?_
    · refine z_iconst (v := 0) dX1_begin_71 (by decide) ?_
      refine z_putZ fX1_61 kc_51 rfl (Or.inl rfl) dX1_begin_72 ?_
      refine z_lh (fun h4 => ?_)
      exact z_vret dX1_begin_75 rfl
    · refine z_iconst (v := 1) dX1_begin_67 (by decide) ?_
      refine z_goto (tgt := 72) dX1_begin_68 (by decide) ?_
      refine z_putZ fX1_61 kc_51 rfl (Or.inr rfl) dX1_begin_72 ?_
      refine z_lh (fun h5 => ?_)
      exact z_vret dX1_begin_75 rfl
set_option maxHeartbeats 4000000 in
set_option maxRecDepth 100000 in
theorem w_X1_begin (x1 : Int32) (x2 : Int32) (x3 : Int32) (h : AHp) : WO tvV QX1_begin 1 0 [(0, .ref 51), (1, .int x1), (2, .int x2), (3, .int x3)] [] h (m_X1_begin x1 x2 x3 h) := by
  unfold m_X1_begin
  refine z_aload_n dX1_begin_0 0 rfl ?_
  refine z_iload_n dX1_begin_1 1 rfl ?_
  refine z_putI fX1_32 kc_51 rfl dX1_begin_2 ?_
  refine z_lh (fun h6 => ?_)
  refine z_aload_n dX1_begin_5 0 rfl ?_
  refine z_iload_n dX1_begin_6 2 rfl ?_
  refine z_putI fX1_36 kc_51 rfl dX1_begin_7 ?_
  refine z_lh (fun h7 => ?_)
  refine z_aload_n dX1_begin_10 0 rfl ?_
  refine z_iconst (v := 0) dX1_begin_11 (by decide) ?_
  refine z_iload_n dX1_begin_12 3 rfl ?_
  refine z_bipush (v := 12) dX1_begin_13 (by decide) ?_
  refine z_mmin dX1_begin_15 lX1_39 w_mmin (Nat.le_of_ble_eq_true rfl) (Nat.le_of_ble_eq_true rfl) ?_
  refine z_mmax dX1_begin_18 lX1_45 w_mmax (Nat.le_of_ble_eq_true rfl) (Nat.le_of_ble_eq_true rfl) ?_
  refine z_putI fX1_48 kc_51 rfl dX1_begin_21 ?_
  refine z_lh (fun h8 => ?_)
  refine z_aload_n dX1_begin_24 0 rfl ?_
  refine z_getR (j := 3) fX1_24 kc_51 rfl rfl rfl (by decide) dX1_begin_25 ?_
  refine z_iload_n dX1_begin_28 1 rfl ?_
  refine z_callVI dX1_begin_29 (M_X9_asks _ _) bX9_asks lX1_51 kc_3 rfl rfl (Nat.le_of_ble_eq_true rfl) (Nat.le_of_ble_eq_true rfl) (fun r9 h10 => ?_)
  refine z_istore (lv2 := [(4, .int r9), (0, .ref 51), (1, .int x1), (2, .int x2), (3, .int x3)]) dX1_begin_32 (Nat.le_of_ble_eq_true rfl) rfl ?_
  refine z_aload_n dX1_begin_34 1 rfl ?_
  refine z_iload dX1_begin_35 0 rfl ?_
  refine z_bipush (v := 32) dX1_begin_37 (by decide) ?_
  refine z_iand dX1_begin_39 ?_
  refine z_if_eq (tgt := 47) dX1_begin_40 (by decide) ?_ ?_
  · refine z_iconst (v := 0) dX1_begin_47 (by decide) ?_
    exact z_sub [1, 0] rfl (w_X1_begin_48 _ _ _)
  · refine z_iconst (v := 1) dX1_begin_43 (by decide) ?_
    refine z_goto (tgt := 48) dX1_begin_44 (by decide) ?_
    exact z_sub [1, 0] rfl (w_X1_begin_48 _ _ _)
theorem M_X1_begin (x1 : Int32) (x2 : Int32) (x3 : Int32) (h : AHp) : MV QX1_begin 1 [.ref 51, .int x1, .int x2, .int x3] h (m_X1_begin x1 x2 x3 h) := MV.of (by decide) rfl rfl (Nat.le_of_ble_eq_true rfl) (w_X1_begin x1 x2 x3 h)
