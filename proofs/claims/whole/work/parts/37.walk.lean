set_option maxHeartbeats 4000000 in
set_option maxRecDepth 100000 in
theorem w_X12_takesTalk_74 (k11 : Int32 → Int32 → Int32 → Int32 → Int32 → AHp → Option (Int32 × AHp)) (hk11 : ∀ (x1 : Int32) (x2 : Int32) (x3 : Int32) (x4 : Int32) (x5 : Int32) (h : AHp), WO tvI QX12_takesTalk 2 11 [(0, .ref 70), (1, .int x1), (2, .int x2), (3, .int x3), (4, .int x4), (5, .int x5)] [] h (k11 x1 x2 x3 x4 x5 h)) (x1 : Int32) (x2 : Int32) (x3 : Int32) (x4 : Int32) (x5 : Int32) (s1 : Int32) (s2 : Int32) (h : AHp) : WO tvI QX12_takesTalk 2 74 [(0, .ref 70), (1, .int x1), (2, .int x2), (3, .int x3), (4, .int x4), (5, .int x5)] [.int s2, .int s1, .ref 99] h (m_X12_takesTalk_74 k11 x1 x2 x3 x4 x5 s1 s2 h) := by
  unfold m_X12_takesTalk_74
  refine z_gd (fun g2 => ?_)
  refine z_iast kc_99 dX12_takesTalk_74 g2 ?_
  refine z_lh (fun h1 => ?_)
  refine z_iload dX12_takesTalk_75 4 rfl ?_
  refine z_if_eq (tgt := 126) dX12_takesTalk_77 (by decide) ?_ ?_
  · refine z_iconst (v := 0) dX12_takesTalk_126 (by decide) ?_
    refine z_istore (lv2 := [(4, .int 0), (0, .ref 70), (1, .int x1), (2, .int x2), (3, .int x3), (5, .int x5)]) dX12_takesTalk_127 (Nat.le_of_ble_eq_true rfl) rfl ?_
    refine z_iincL (lv2 := fun v3 => [(5, .int v3), (4, .int 0), (0, .ref 70), (1, .int x1), (2, .int x2), (3, .int x3)]) dX12_takesTalk_129 5 rfl rfl (Nat.le_of_ble_eq_true rfl) (fun _ => rfl) (fun v3 => ?_)
    refine z_goto (tgt := 11) dX12_takesTalk_132 (by decide) ?_
    exact z_sub [2, 3, 4, 5, 1, 0] rfl (hk11 _ _ _ _ _ _)
  · refine z_aload_n dX12_takesTalk_80 0 rfl ?_
    refine z_getR (j := 97) fX12_94 kc_70 rfl rfl rfl (by decide) dX12_takesTalk_81 ?_
    refine z_iload dX12_takesTalk_84 5 rfl ?_
    refine z_gd (fun g4 => ?_)
    refine z_iald kc_97 dX12_takesTalk_86 g4 ?_
    refine z_callSI dX12_takesTalk_87 (M_X12_isSpeaker _ _) bX12_isSpeaker lX12_378 rfl rfl (Nat.le_of_ble_eq_true rfl) (Nat.le_of_ble_eq_true rfl) (fun r5 h6 => ?_)
    refine z_if_eq (tgt := 126) dX12_takesTalk_90 (by decide) ?_ ?_
    · refine z_iconst (v := 0) dX12_takesTalk_126 (by decide) ?_
      refine z_istore (lv2 := [(4, .int 0), (0, .ref 70), (1, .int x1), (2, .int x2), (3, .int x3), (5, .int x5)]) dX12_takesTalk_127 (Nat.le_of_ble_eq_true rfl) rfl ?_
      refine z_iincL (lv2 := fun v7 => [(5, .int v7), (4, .int 0), (0, .ref 70), (1, .int x1), (2, .int x2), (3, .int x3)]) dX12_takesTalk_129 5 rfl rfl (Nat.le_of_ble_eq_true rfl) (fun _ => rfl) (fun v7 => ?_)
      refine z_goto (tgt := 11) dX12_takesTalk_132 (by decide) ?_
      exact z_sub [2, 3, 4, 5, 1, 0] rfl (hk11 _ _ _ _ _ _)
    · refine z_aload_n dX12_takesTalk_93 0 rfl ?_
      refine z_getR (j := 98) fX12_97 kc_70 rfl rfl rfl (by decide) dX12_takesTalk_94 ?_
      refine z_iload dX12_takesTalk_97 5 rfl ?_
      refine z_gd (fun g8 => ?_)
      refine z_iald kc_98 dX12_takesTalk_99 g8 ?_
      refine z_callSI dX12_takesTalk_100 (M_X12_isThing _ _) bX12_isThing lX12_229 rfl rfl (Nat.le_of_ble_eq_true rfl) (Nat.le_of_ble_eq_true rfl) (fun r9 h10 => ?_)
      refine z_if_eq (tgt := 126) dX12_takesTalk_103 (by decide) ?_ ?_
      · refine z_iconst (v := 0) dX12_takesTalk_126 (by decide) ?_
        refine z_istore (lv2 := [(4, .int 0), (0, .ref 70), (1, .int x1), (2, .int x2), (3, .int x3), (5, .int x5)]) dX12_takesTalk_127 (Nat.le_of_ble_eq_true rfl) rfl ?_
        refine z_iincL (lv2 := fun v11 => [(5, .int v11), (4, .int 0), (0, .ref 70), (1, .int x1), (2, .int x2), (3, .int x3)]) dX12_takesTalk_129 5 rfl rfl (Nat.le_of_ble_eq_true rfl) (fun _ => rfl) (fun v11 => ?_)
        refine z_goto (tgt := 11) dX12_takesTalk_132 (by decide) ?_
        exact z_sub [2, 3, 4, 5, 1, 0] rfl (hk11 _ _ _ _ _ _)
      · refine z_iload_n dX12_takesTalk_106 2 rfl ?_
        refine z_iconst (v := 3) dX12_takesTalk_107 (by decide) ?_
        refine z_ic_lt (tgt := 122) dX12_takesTalk_108 (by decide) ?_ ?_
        · refine z_iconst (v := 1) dX12_takesTalk_122 (by decide) ?_
          refine z_goto (tgt := 127) dX12_takesTalk_123 (by decide) ?_
          refine z_istore (lv2 := [(4, .int 1), (0, .ref 70), (1, .int x1), (2, .int x2), (3, .int x3), (5, .int x5)]) dX12_takesTalk_127 (Nat.le_of_ble_eq_true rfl) rfl ?_
          refine z_iincL (lv2 := fun v12 => [(5, .int v12), (4, .int 1), (0, .ref 70), (1, .int x1), (2, .int x2), (3, .int x3)]) dX12_takesTalk_129 5 rfl rfl (Nat.le_of_ble_eq_true rfl) (fun _ => rfl) (fun v12 => ?_)
          refine z_goto (tgt := 11) dX12_takesTalk_132 (by decide) ?_
          exact z_sub [2, 3, 4, 5, 1, 0] rfl (hk11 _ _ _ _ _ _)
        · refine z_aload_n dX12_takesTalk_111 0 rfl ?_
          refine z_getR (j := 99) fX12_100 kc_70 rfl rfl rfl (by decide) dX12_takesTalk_112 ?_
          refine z_iload dX12_takesTalk_115 5 rfl ?_
          refine z_gd (fun g13 => ?_)
          refine z_iald kc_99 dX12_takesTalk_117 g13 ?_
          refine z_iload_n dX12_takesTalk_118 3 rfl ?_
          refine z_ic_ge (tgt := 126) dX12_takesTalk_119 (by decide) ?_ ?_
          · refine z_iconst (v := 0) dX12_takesTalk_126 (by decide) ?_
            refine z_istore (lv2 := [(4, .int 0), (0, .ref 70), (1, .int x1), (2, .int x2), (3, .int x3), (5, .int x5)]) dX12_takesTalk_127 (Nat.le_of_ble_eq_true rfl) rfl ?_
            refine z_iincL (lv2 := fun v14 => [(5, .int v14), (4, .int 0), (0, .ref 70), (1, .int x1), (2, .int x2), (3, .int x3)]) dX12_takesTalk_129 5 rfl rfl (Nat.le_of_ble_eq_true rfl) (fun _ => rfl) (fun v14 => ?_)
            refine z_goto (tgt := 11) dX12_takesTalk_132 (by decide) ?_
            exact z_sub [2, 3, 4, 5, 1, 0] rfl (hk11 _ _ _ _ _ _)
          · refine z_iconst (v := 1) dX12_takesTalk_122 (by decide) ?_
            refine z_goto (tgt := 127) dX12_takesTalk_123 (by decide) ?_
            refine z_istore (lv2 := [(4, .int 1), (0, .ref 70), (1, .int x1), (2, .int x2), (3, .int x3), (5, .int x5)]) dX12_takesTalk_127 (Nat.le_of_ble_eq_true rfl) rfl ?_
            refine z_iincL (lv2 := fun v15 => [(5, .int v15), (4, .int 1), (0, .ref 70), (1, .int x1), (2, .int x2), (3, .int x3)]) dX12_takesTalk_129 5 rfl rfl (Nat.le_of_ble_eq_true rfl) (fun _ => rfl) (fun v15 => ?_)
            refine z_goto (tgt := 11) dX12_takesTalk_132 (by decide) ?_
            exact z_sub [2, 3, 4, 5, 1, 0] rfl (hk11 _ _ _ _ _ _)
set_option maxHeartbeats 4000000 in
set_option maxRecDepth 100000 in
theorem w_X12_takesTalk_11 : ∀ (f : Nat) (x1 : Int32) (x2 : Int32) (x3 : Int32) (x4 : Int32) (x5 : Int32) (h : AHp), WO tvI QX12_takesTalk 2 11 [(0, .ref 70), (1, .int x1), (2, .int x2), (3, .int x3), (4, .int x4), (5, .int x5)] [] h (m_X12_takesTalk_11 f x1 x2 x3 x4 x5 h) := by
  intro f
  induction f with
  | zero => intro x1 x2 x3 x4 x5 h; exact z_none
  | succ f ih =>
    intro x1 x2 x3 x4 x5 h
    rw [m_X12_takesTalk_11]
    refine z_iload dX12_takesTalk_11 5 rfl ?_
    refine z_iload_n dX12_takesTalk_13 1 rfl ?_
    refine z_ic_ge (tgt := 135) dX12_takesTalk_14 (by decide) ?_ ?_
    · refine z_iload dX12_takesTalk_135 4 rfl ?_
      refine z_gd (fun g16 => ?_)
      exact z_zret dX12_takesTalk_137 rfl g16
    · refine z_aload_n dX12_takesTalk_17 0 rfl ?_
      refine z_getR (j := 97) fX12_94 kc_70 rfl rfl rfl (by decide) dX12_takesTalk_18 ?_
      refine z_iload dX12_takesTalk_21 5 rfl ?_
      refine z_aload_n dX12_takesTalk_23 0 rfl ?_
      refine z_iload_n dX12_takesTalk_24 2 rfl ?_
      refine z_iload dX12_takesTalk_25 5 rfl ?_
      refine z_imul dX12_takesTalk_27 ?_
      refine z_callVI dX12_takesTalk_28 (M_X12_byteAt _ _) bX12_byteAt lX12_404 kc_70 rfl rfl (Nat.le_of_ble_eq_true rfl) (Nat.le_of_ble_eq_true rfl) (fun r17 h18 => ?_)
      refine z_gd (fun g20 => ?_)
      refine z_iast kc_97 dX12_takesTalk_31 g20 ?_
      refine z_lh (fun h19 => ?_)
      refine z_aload_n dX12_takesTalk_32 0 rfl ?_
      refine z_getR (j := 98) fX12_97 kc_70 rfl rfl rfl (by decide) dX12_takesTalk_33 ?_
      refine z_iload dX12_takesTalk_36 5 rfl ?_
      refine z_aload_n dX12_takesTalk_38 0 rfl ?_
      refine z_iload_n dX12_takesTalk_39 2 rfl ?_
      refine z_iload dX12_takesTalk_40 5 rfl ?_
      refine z_imul dX12_takesTalk_42 ?_
      refine z_iconst (v := 1) dX12_takesTalk_43 (by decide) ?_
      refine z_iadd dX12_takesTalk_44 ?_
      refine z_callVI dX12_takesTalk_45 (M_X12_byteAt _ _) bX12_byteAt lX12_404 kc_70 rfl rfl (Nat.le_of_ble_eq_true rfl) (Nat.le_of_ble_eq_true rfl) (fun r21 h22 => ?_)
      refine z_gd (fun g24 => ?_)
      refine z_iast kc_98 dX12_takesTalk_48 g24 ?_
      refine z_lh (fun h23 => ?_)
      refine z_aload_n dX12_takesTalk_49 0 rfl ?_
      refine z_getR (j := 99) fX12_100 kc_70 rfl rfl rfl (by decide) dX12_takesTalk_50 ?_
      refine z_iload dX12_takesTalk_53 5 rfl ?_
      refine z_iload_n dX12_takesTalk_55 2 rfl ?_
      refine z_iconst (v := 3) dX12_takesTalk_56 (by decide) ?_
      refine z_ic_ne (tgt := 73) dX12_takesTalk_57 (by decide) ?_ ?_
      · refine z_iconst (v := 0) dX12_takesTalk_73 (by decide) ?_
        exact w_X12_takesTalk_74 _ ih _ _ _ _ _ _ _ _
      · refine z_aload_n dX12_takesTalk_60 0 rfl ?_
        refine z_iload_n dX12_takesTalk_61 2 rfl ?_
        refine z_iload dX12_takesTalk_62 5 rfl ?_
        refine z_imul dX12_takesTalk_64 ?_
        refine z_iconst (v := 2) dX12_takesTalk_65 (by decide) ?_
        refine z_iadd dX12_takesTalk_66 ?_
        refine z_callVI dX12_takesTalk_67 (M_X12_byteAt _ _) bX12_byteAt lX12_404 kc_70 rfl rfl (Nat.le_of_ble_eq_true rfl) (Nat.le_of_ble_eq_true rfl) (fun r25 h26 => ?_)
        refine z_goto (tgt := 74) dX12_takesTalk_70 (by decide) ?_
        exact w_X12_takesTalk_74 _ ih _ _ _ _ _ _ _ _
set_option maxHeartbeats 4000000 in
set_option maxRecDepth 100000 in
theorem w_X12_takesTalk (x1 : Int32) (x2 : Int32) (x3 : Int32) (h : AHp) : WO tvI QX12_takesTalk 2 0 [(0, .ref 70), (1, .int x1), (2, .int x2), (3, .int x3)] [] h (m_X12_takesTalk x1 x2 x3 h) := by
  unfold m_X12_takesTalk
  refine z_iconst (v := 1) dX12_takesTalk_0 (by decide) ?_
  refine z_istore (lv2 := [(4, .int 1), (0, .ref 70), (1, .int x1), (2, .int x2), (3, .int x3)]) dX12_takesTalk_1 (Nat.le_of_ble_eq_true rfl) rfl ?_
  refine z_aload_n dX12_takesTalk_3 1 rfl ?_
  refine z_iconst (v := 0) dX12_takesTalk_4 (by decide) ?_
  refine z_putI fX12_157 kc_70 rfl dX12_takesTalk_5 ?_
  refine z_lh (fun h27 => ?_)
  refine z_iconst (v := 0) dX12_takesTalk_8 (by decide) ?_
  refine z_istore (lv2 := [(5, .int 0), (4, .int 1), (0, .ref 70), (1, .int x1), (2, .int x2), (3, .int x3)]) dX12_takesTalk_9 (Nat.le_of_ble_eq_true rfl) rfl ?_
  exact z_sub [2, 3, 4, 5, 1, 0] rfl (w_X12_takesTalk_11 FU _ _ _ _ _ _)
theorem M_X12_takesTalk (x1 : Int32) (x2 : Int32) (x3 : Int32) (h : AHp) : MI QX12_takesTalk 2 [.ref 70, .int x1, .int x2, .int x3] h (m_X12_takesTalk x1 x2 x3 h) := MI.of (by decide) rfl rfl (Nat.le_of_ble_eq_true rfl) (w_X12_takesTalk x1 x2 x3 h)
set_option maxHeartbeats 4000000 in
set_option maxRecDepth 100000 in
theorem w_X12_held_48 (x1 : Int32) (x2 : Int32) (x3 : Int32) (h : AHp) : WO tvI QX12_held 8 48 [(0, .ref 70), (1, .int x1), (2, .int x2), (3, .int x3)] [] h (m_X12_held_48 x1 x2 x3 h) := by
  unfold m_X12_held_48
  refine z_iconst (v := 2) dX12_held_48 (by decide) ?_
  refine z_iload_n dX12_held_49 2 rfl ?_
  refine z_imul dX12_held_50 ?_
  refine z_aload_n dX12_held_51 0 rfl ?_
  refine z_getI fX12_157 kc_70 rfl dX12_held_52 ?_
  refine z_ic_le (tgt := 60) dX12_held_55 (by decide) ?_ ?_
  · refine z_aload_n dX12_held_60 0 rfl ?_
    refine z_iload_n dX12_held_61 2 rfl ?_
    refine z_iconst (v := 2) dX12_held_62 (by decide) ?_
    refine z_iconst (v := 0) dX12_held_63 (by decide) ?_
    refine z_callVI dX12_held_64 (M_X12_takesTalk _ _ _ _) bX12_takesTalk lX12_431 kc_70 rfl rfl (Nat.le_of_ble_eq_true rfl) (Nat.le_of_ble_eq_true rfl) (fun r1 h2 => ?_)
    refine z_if_eq (tgt := 81) dX12_held_67 (by decide) ?_ ?_
    · refine z_bipush (v := -3) dX12_held_81 (by decide) ?_
      exact z_iret dX12_held_83 rfl
    · refine z_aload_n dX12_held_70 0 rfl ?_
      refine z_iload_n dX12_held_71 1 rfl ?_
      refine z_iload_n dX12_held_72 2 rfl ?_
      refine z_iconst (v := 0) dX12_held_73 (by decide) ?_
      refine z_iload_n dX12_held_74 3 rfl ?_
      refine z_callVI dX12_held_75 (M_X12_heldBy _ _ _ _ _) bX12_heldBy lX12_435 kc_70 rfl rfl (Nat.le_of_ble_eq_true rfl) (Nat.le_of_ble_eq_true rfl) (fun r3 h4 => ?_)
      refine z_goto (tgt := 83) dX12_held_78 (by decide) ?_
      exact z_iret dX12_held_83 rfl
  · refine z_iconst (v := -1) dX12_held_58 (by decide) ?_
    exact z_iret dX12_held_59 rfl
set_option maxHeartbeats 4000000 in
set_option maxRecDepth 100000 in
theorem w_X12_held (x1 : Int32) (x2 : Int32) (x3 : Int32) (h : AHp) : WO tvI QX12_held 8 0 [(0, .ref 70), (1, .int x1), (2, .int x2), (3, .int x3)] [] h (m_X12_held x1 x2 x3 h) := by
  unfold m_X12_held
  refine z_iload_n dX12_held_0 1 rfl ?_
  refine z_i2l dX12_held_1 ?_
  refine z_lconst (v := 1) dX12_held_2 (by decide) ?_
  refine z_ldc2 dX12_held_3 kX12_381 ?_
  refine z_callSI dX12_held_6 (M_X12_lies _ _ _ _) bX12_lies lX12_181 rfl rfl (Nat.le_of_ble_eq_true rfl) (Nat.le_of_ble_eq_true rfl) (fun r5 h6 => ?_)
  refine z_if_eq (tgt := 58) dX12_held_9 (by decide) ?_ ?_
  · refine z_iconst (v := -1) dX12_held_58 (by decide) ?_
    exact z_iret dX12_held_59 rfl
  · refine z_iload_n dX12_held_12 2 rfl ?_
    refine z_i2l dX12_held_13 ?_
    refine z_lconst (v := 1) dX12_held_14 (by decide) ?_
    refine z_ldc2 dX12_held_15 kX12_429 ?_
    refine z_callSI dX12_held_18 (M_X12_lies _ _ _ _) bX12_lies lX12_181 rfl rfl (Nat.le_of_ble_eq_true rfl) (Nat.le_of_ble_eq_true rfl) (fun r7 h8 => ?_)
    refine z_if_eq (tgt := 58) dX12_held_21 (by decide) ?_ ?_
    · refine z_iconst (v := -1) dX12_held_58 (by decide) ?_
      exact z_iret dX12_held_59 rfl
    · refine z_iload_n dX12_held_24 3 rfl ?_
      refine z_iconst (v := -1) dX12_held_25 (by decide) ?_
      refine z_ic_eq (tgt := 48) dX12_held_26 (by decide) ?_ ?_
      · exact w_X12_held_48 _ _ _ _
      · refine z_iload_n dX12_held_29 3 rfl ?_
        refine z_bipush (v := 20) dX12_held_30 (by decide) ?_
        refine z_ic_eq (tgt := 48) dX12_held_32 (by decide) ?_ ?_
        · exact w_X12_held_48 _ _ _ _
        · refine z_iload_n dX12_held_35 3 rfl ?_
          refine z_i2l dX12_held_36 ?_
          refine z_lconst (v := 0) dX12_held_37 (by decide) ?_
          refine z_iload_n dX12_held_38 2 rfl ?_
          refine z_iconst (v := 1) dX12_held_39 (by decide) ?_
          refine z_isub dX12_held_40 ?_
          refine z_i2l dX12_held_41 ?_
          refine z_callSI dX12_held_42 (M_X12_lies _ _ _ _) bX12_lies lX12_181 rfl rfl (Nat.le_of_ble_eq_true rfl) (Nat.le_of_ble_eq_true rfl) (fun r9 h10 => ?_)
          refine z_if_eq (tgt := 58) dX12_held_45 (by decide) ?_ ?_
          · refine z_iconst (v := -1) dX12_held_58 (by decide) ?_
            exact z_iret dX12_held_59 rfl
          · exact w_X12_held_48 _ _ _ _
theorem M_X12_held (x1 : Int32) (x2 : Int32) (x3 : Int32) (h : AHp) : MI QX12_held 8 [.ref 70, .int x1, .int x2, .int x3] h (m_X12_held x1 x2 x3 h) := MI.of (by decide) rfl rfl (Nat.le_of_ble_eq_true rfl) (w_X12_held x1 x2 x3 h)
set_option maxHeartbeats 4000000 in
set_option maxRecDepth 100000 in
theorem w_X12_coded_50 (x1 : Int32) (x2 : Int32) (x3 : Int32) (h : AHp) : WO tvI QX12_coded 8 50 [(0, .ref 70), (1, .int x1), (2, .int x2), (3, .int x3)] [] h (m_X12_coded_50 x1 x2 x3 h) := by
  unfold m_X12_coded_50
  refine z_iconst (v := 3) dX12_coded_50 (by decide) ?_
  refine z_iload_n dX12_coded_51 2 rfl ?_
  refine z_imul dX12_coded_52 ?_
  refine z_aload_n dX12_coded_53 0 rfl ?_
  refine z_getI fX12_157 kc_70 rfl dX12_coded_54 ?_
  refine z_ic_le (tgt := 62) dX12_coded_57 (by decide) ?_ ?_
  · refine z_aload_n dX12_coded_62 0 rfl ?_
    refine z_iload_n dX12_coded_63 2 rfl ?_
    refine z_iconst (v := 3) dX12_coded_64 (by decide) ?_
    refine z_iload_n dX12_coded_65 1 rfl ?_
    refine z_callVI dX12_coded_66 (M_X12_takesTalk _ _ _ _) bX12_takesTalk lX12_431 kc_70 rfl rfl (Nat.le_of_ble_eq_true rfl) (Nat.le_of_ble_eq_true rfl) (fun r1 h2 => ?_)
    refine z_if_eq (tgt := 83) dX12_coded_69 (by decide) ?_ ?_
    · refine z_bipush (v := -3) dX12_coded_83 (by decide) ?_
      exact z_iret dX12_coded_85 rfl
    · refine z_aload_n dX12_coded_72 0 rfl ?_
      refine z_iconst (v := 1) dX12_coded_73 (by decide) ?_
      refine z_iload_n dX12_coded_74 2 rfl ?_
      refine z_iload_n dX12_coded_75 1 rfl ?_
      refine z_iload_n dX12_coded_76 3 rfl ?_
      refine z_callVI dX12_coded_77 (M_X12_heldBy _ _ _ _ _) bX12_heldBy lX12_435 kc_70 rfl rfl (Nat.le_of_ble_eq_true rfl) (Nat.le_of_ble_eq_true rfl) (fun r3 h4 => ?_)
      refine z_goto (tgt := 85) dX12_coded_80 (by decide) ?_
      exact z_iret dX12_coded_85 rfl
  · refine z_iconst (v := -1) dX12_coded_60 (by decide) ?_
    exact z_iret dX12_coded_61 rfl
set_option maxHeartbeats 4000000 in
set_option maxRecDepth 100000 in
theorem w_X12_coded (x1 : Int32) (x2 : Int32) (x3 : Int32) (h : AHp) : WO tvI QX12_coded 8 0 [(0, .ref 70), (1, .int x1), (2, .int x2), (3, .int x3)] [] h (m_X12_coded x1 x2 x3 h) := by
  unfold m_X12_coded
  refine z_iload_n dX12_coded_0 1 rfl ?_
  refine z_i2l dX12_coded_1 ?_
  refine z_ldc2 dX12_coded_2 kX12_439 ?_
  refine z_ldc2 dX12_coded_5 kX12_364 ?_
  refine z_callSI dX12_coded_8 (M_X12_lies _ _ _ _) bX12_lies lX12_181 rfl rfl (Nat.le_of_ble_eq_true rfl) (Nat.le_of_ble_eq_true rfl) (fun r5 h6 => ?_)
  refine z_if_eq (tgt := 60) dX12_coded_11 (by decide) ?_ ?_
  · refine z_iconst (v := -1) dX12_coded_60 (by decide) ?_
    exact z_iret dX12_coded_61 rfl
  · refine z_iload_n dX12_coded_14 2 rfl ?_
    refine z_i2l dX12_coded_15 ?_
    refine z_lconst (v := 1) dX12_coded_16 (by decide) ?_
    refine z_ldc2 dX12_coded_17 kX12_429 ?_
    refine z_callSI dX12_coded_20 (M_X12_lies _ _ _ _) bX12_lies lX12_181 rfl rfl (Nat.le_of_ble_eq_true rfl) (Nat.le_of_ble_eq_true rfl) (fun r7 h8 => ?_)
    refine z_if_eq (tgt := 60) dX12_coded_23 (by decide) ?_ ?_
    · refine z_iconst (v := -1) dX12_coded_60 (by decide) ?_
      exact z_iret dX12_coded_61 rfl
    · refine z_iload_n dX12_coded_26 3 rfl ?_
      refine z_iconst (v := -1) dX12_coded_27 (by decide) ?_
      refine z_ic_eq (tgt := 50) dX12_coded_28 (by decide) ?_ ?_
      · exact w_X12_coded_50 _ _ _ _
      · refine z_iload_n dX12_coded_31 3 rfl ?_
        refine z_bipush (v := 20) dX12_coded_32 (by decide) ?_
        refine z_ic_eq (tgt := 50) dX12_coded_34 (by decide) ?_ ?_
        · exact w_X12_coded_50 _ _ _ _
        · refine z_iload_n dX12_coded_37 3 rfl ?_
          refine z_i2l dX12_coded_38 ?_
          refine z_lconst (v := 0) dX12_coded_39 (by decide) ?_
          refine z_iload_n dX12_coded_40 2 rfl ?_
          refine z_iconst (v := 1) dX12_coded_41 (by decide) ?_
          refine z_isub dX12_coded_42 ?_
          refine z_i2l dX12_coded_43 ?_
          refine z_callSI dX12_coded_44 (M_X12_lies _ _ _ _) bX12_lies lX12_181 rfl rfl (Nat.le_of_ble_eq_true rfl) (Nat.le_of_ble_eq_true rfl) (fun r9 h10 => ?_)
          refine z_if_eq (tgt := 60) dX12_coded_47 (by decide) ?_ ?_
          · refine z_iconst (v := -1) dX12_coded_60 (by decide) ?_
            exact z_iret dX12_coded_61 rfl
          · exact w_X12_coded_50 _ _ _ _
theorem M_X12_coded (x1 : Int32) (x2 : Int32) (x3 : Int32) (h : AHp) : MI QX12_coded 8 [.ref 70, .int x1, .int x2, .int x3] h (m_X12_coded x1 x2 x3 h) := MI.of (by decide) rfl rfl (Nat.le_of_ble_eq_true rfl) (w_X12_coded x1 x2 x3 h)
set_option maxHeartbeats 4000000 in
set_option maxRecDepth 100000 in
theorem w_X12_heard_152 (k123 : Int32 → Int32 → Int64 → Int32 → AHp → Option (Int64 × AHp)) (hk123 : ∀ (x1 : Int32) (x2 : Int32) (x3 : Int64) (x5 : Int32) (h : AHp), WO tvL QX12_heard 5 123 [(0, .ref 70), (1, .int x1), (2, .int x2), (3, .long x3), (5, .int x5)] [] h (k123 x1 x2 x3 x5 h)) : ∀ (f : Nat) (x1 : Int32) (x2 : Int32) (x3 : Int64) (x5 : Int32) (x6 : Int32) (x7 : Int32) (h : AHp), WO tvL QX12_heard 5 152 [(0, .ref 70), (1, .int x1), (2, .int x2), (3, .long x3), (5, .int x5), (6, .int x6), (7, .int x7)] [] h (m_X12_heard_152 k123 f x1 x2 x3 x5 x6 x7 h) := by
  intro f
  induction f with
  | zero => intro x1 x2 x3 x5 x6 x7 h; exact z_none
  | succ f ih =>
    intro x1 x2 x3 x5 x6 x7 h
    rw [m_X12_heard_152]
    refine z_iload dX12_heard_152 6 rfl ?_
    refine z_bipush (v := 12) dX12_heard_154 (by decide) ?_
    refine z_ic_ge (tgt := 222) dX12_heard_156 (by decide) ?_ ?_
    · refine z_lload_n dX12_heard_222 3 rfl ?_
      refine z_aload_n dX12_heard_223 0 rfl ?_
      refine z_getR (j := 103) fX12_112 kc_70 rfl rfl rfl (by decide) dX12_heard_224 ?_
      refine z_iload dX12_heard_227 4 rfl ?_
      refine z_gd (fun g1 => ?_)
      refine z_iald kc_103 dX12_heard_229 g1 ?_
      refine z_callSI dX12_heard_230 (M_X12_sizeOf _ _) bX12_sizeOf lX12_239 rfl rfl (Nat.le_of_ble_eq_true rfl) (Nat.le_of_ble_eq_true rfl) (fun r2 h3 => ?_)
      refine z_i2l dX12_heard_233 ?_
      refine z_lmul dX12_heard_234 ?_
      refine z_lstore_nL (lv2 := fun v4 => [(3, .long v4), (0, .ref 70), (1, .int x1), (2, .int x2), (5, .int x5), (6, .int x6), (7, .int x7)]) dX12_heard_235 (Nat.le_of_ble_eq_true rfl) (fun _ => rfl) (fun v4 => ?_)
      refine z_aload_n dX12_heard_236 1 rfl ?_
      refine z_aload_n dX12_heard_237 1 rfl ?_
      refine z_iconst (v := 2) dX12_heard_238 (by decide) ?_
      refine z_iload dX12_heard_239 4 rfl ?_
      refine z_imul dX12_heard_241 ?_
      refine z_callVI dX12_heard_242 (M_X12_byteAt _ _) bX12_byteAt lX12_404 kc_70 rfl rfl (Nat.le_of_ble_eq_true rfl) (Nat.le_of_ble_eq_true rfl) (fun r5 h6 => ?_)
      refine z_iload dX12_heard_245 5 rfl ?_
      refine z_callVV dX12_heard_247 (M_X12_goesOn _ _ _) bX12_goesOn lX12_407 kc_70 rfl rfl (Nat.le_of_ble_eq_true rfl) (Nat.le_of_ble_eq_true rfl) (fun r7 h8 => ?_)
      refine z_iincL (lv2 := fun v9 => [(5, .int v9), (3, .long v4), (0, .ref 70), (1, .int x1), (2, .int x2), (6, .int x6), (7, .int x7)]) dX12_heard_250 4 rfl rfl (Nat.le_of_ble_eq_true rfl) (fun _ => rfl) (fun v9 => ?_)
      refine z_goto (tgt := 123) dX12_heard_253 (by decide) ?_
      exact z_sub [2, 3, 4, 1, 0] rfl (hk123 _ _ _ _ _)
    · refine z_aload_n dX12_heard_159 0 rfl ?_
      refine z_aload_n dX12_heard_160 0 rfl ?_
      refine z_iconst (v := 2) dX12_heard_161 (by decide) ?_
      refine z_iload dX12_heard_162 4 rfl ?_
      refine z_imul dX12_heard_164 ?_
      refine z_callVI dX12_heard_165 (M_X12_byteAt _ _) bX12_byteAt lX12_404 kc_70 rfl rfl (Nat.le_of_ble_eq_true rfl) (Nat.le_of_ble_eq_true rfl) (fun r10 h11 => ?_)
      refine z_iload dX12_heard_168 6 rfl ?_
      refine z_iload dX12_heard_170 5 rfl ?_
      refine z_callVV dX12_heard_172 (M_X12_says _ _ _ _) bX12_says lX12_371 kc_70 rfl rfl (Nat.le_of_ble_eq_true rfl) (Nat.le_of_ble_eq_true rfl) (fun r12 h13 => ?_)
      refine z_aload_n dX12_heard_175 0 rfl ?_
      refine z_getR (j := 103) fX12_112 kc_70 rfl rfl rfl (by decide) dX12_heard_176 ?_
      refine z_iload dX12_heard_179 4 rfl ?_
      refine z_dup2 dX12_heard_181 rfl rfl ?_
      refine z_gd (fun g14 => ?_)
      refine z_iald kc_103 dX12_heard_182 g14 ?_
      refine z_aload_n dX12_heard_183 0 rfl ?_
      refine z_getR (j := 72) fX12_17 kc_70 rfl rfl rfl (by decide) dX12_heard_184 ?_
      refine z_iload dX12_heard_187 6 rfl ?_
      refine z_gd (fun g15 => ?_)
      refine z_iald kc_72 dX12_heard_189 g15 ?_
      refine z_iload dX12_heard_190 5 rfl ?_
      refine z_callSI dX12_heard_192 (M_X12_has _ _ _) bX12_has lX12_187 rfl rfl (Nat.le_of_ble_eq_true rfl) (Nat.le_of_ble_eq_true rfl) (fun r16 h17 => ?_)
      refine z_if_eq (tgt := 213) dX12_heard_195 (by decide) ?_ ?_
      · refine z_iconst (v := 0) dX12_heard_213 (by decide) ?_
        refine z_ior dX12_heard_214 ?_
        refine z_gd (fun g19 => ?_)
        refine z_iast kc_103 dX12_heard_215 g19 ?_
        refine z_lh (fun h18 => ?_)
        refine z_iincL (lv2 := fun v20 => [(7, .int v20), (0, .ref 70), (1, .int x1), (2, .int x2), (3, .long x3), (5, .int x5), (6, .int x6)]) dX12_heard_216 6 rfl rfl (Nat.le_of_ble_eq_true rfl) (fun _ => rfl) (fun v20 => ?_)
        refine z_goto (tgt := 152) dX12_heard_219 (by decide) ?_
        exact z_sub [1, 2, 3, 4, 5, 6, 0] rfl (ih _ _ _ _ _ _ _)
      · refine z_aload_n dX12_heard_198 0 rfl ?_
        refine z_iconst (v := 0) dX12_heard_199 (by decide) ?_
        refine z_callVI dX12_heard_200 (M_X12_lets _ _) bX12_lets lX12_375 kc_70 rfl rfl (Nat.le_of_ble_eq_true rfl) (Nat.le_of_ble_eq_true rfl) (fun r21 h22 => ?_)
        refine z_if_eq (tgt := 213) dX12_heard_203 (by decide) ?_ ?_
        · refine z_iconst (v := 0) dX12_heard_213 (by decide) ?_
          refine z_ior dX12_heard_214 ?_
          refine z_gd (fun g24 => ?_)
          refine z_iast kc_103 dX12_heard_215 g24 ?_
          refine z_lh (fun h23 => ?_)
          refine z_iincL (lv2 := fun v25 => [(7, .int v25), (0, .ref 70), (1, .int x1), (2, .int x2), (3, .long x3), (5, .int x5), (6, .int x6)]) dX12_heard_216 6 rfl rfl (Nat.le_of_ble_eq_true rfl) (fun _ => rfl) (fun v25 => ?_)
          refine z_goto (tgt := 152) dX12_heard_219 (by decide) ?_
          exact z_sub [1, 2, 3, 4, 5, 6, 0] rfl (ih _ _ _ _ _ _ _)
        · refine z_iconst (v := 1) dX12_heard_206 (by decide) ?_
          refine z_iload dX12_heard_207 6 rfl ?_
          refine z_ishl dX12_heard_209 ?_
          refine z_goto (tgt := 214) dX12_heard_210 (by decide) ?_
          refine z_ior dX12_heard_214 ?_
          refine z_gd (fun g27 => ?_)
          refine z_iast kc_103 dX12_heard_215 g27 ?_
          refine z_lh (fun h26 => ?_)
          refine z_iincL (lv2 := fun v28 => [(7, .int v28), (0, .ref 70), (1, .int x1), (2, .int x2), (3, .long x3), (5, .int x5), (6, .int x6)]) dX12_heard_216 6 rfl rfl (Nat.le_of_ble_eq_true rfl) (fun _ => rfl) (fun v28 => ?_)
          refine z_goto (tgt := 152) dX12_heard_219 (by decide) ?_
          exact z_sub [1, 2, 3, 4, 5, 6, 0] rfl (ih _ _ _ _ _ _ _)
set_option maxHeartbeats 4000000 in
set_option maxRecDepth 100000 in
theorem w_X12_heard_303 : ∀ (f : Nat) (x2 : Int32) (x5 : Int32) (h : AHp), WO tvL QX12_heard 5 303 [(0, .ref 70), (2, .int x2), (5, .int x5)] [] h (m_X12_heard_303 f x2 x5 h) := by
  intro f
  induction f with
  | zero => intro x2 x5 h; exact z_none
  | succ f ih =>
    intro x2 x5 h
    rw [m_X12_heard_303]
    refine z_aload_n dX12_heard_303 0 rfl ?_
    refine z_getR (j := 103) fX12_112 kc_70 rfl rfl rfl (by decide) dX12_heard_304 ?_
    refine z_iload_n dX12_heard_307 1 rfl ?_
    refine z_gd (fun g29 => ?_)
    refine z_iald kc_103 dX12_heard_308 g29 ?_
    refine z_iload dX12_heard_309 2 rfl ?_
    refine z_callSI dX12_heard_311 (M_X12_has _ _ _) bX12_has lX12_187 rfl rfl (Nat.le_of_ble_eq_true rfl) (Nat.le_of_ble_eq_true rfl) (fun r30 h31 => ?_)
    refine z_if_ne (tgt := 323) dX12_heard_314 (by decide) ?_ ?_
    · refine z_iload dX12_heard_323 2 rfl ?_
      refine z_i2l dX12_heard_325 ?_
      exact z_lret dX12_heard_326 rfl
    · refine z_iincL (lv2 := fun v32 => [(5, .int v32), (0, .ref 70), (2, .int x2)]) dX12_heard_317 2 rfl rfl (Nat.le_of_ble_eq_true rfl) (fun _ => rfl) (fun v32 => ?_)
      refine z_goto (tgt := 303) dX12_heard_320 (by decide) ?_
      exact z_sub [1, 2, 0] rfl (ih _ _ _)
set_option maxHeartbeats 4000000 in
set_option maxRecDepth 100000 in
theorem w_X12_heard_123 : ∀ (f : Nat) (x1 : Int32) (x2 : Int32) (x3 : Int64) (x5 : Int32) (h : AHp), WO tvL QX12_heard 5 123 [(0, .ref 70), (1, .int x1), (2, .int x2), (3, .long x3), (5, .int x5)] [] h (m_X12_heard_123 f x1 x2 x3 x5 h) := by
  intro f
  induction f with
  | zero => intro x1 x2 x3 x5 h; exact z_none
  | succ f ih =>
    intro x1 x2 x3 x5 h
    rw [m_X12_heard_123]
    refine z_iload dX12_heard_123 4 rfl ?_
    refine z_iload_n dX12_heard_125 1 rfl ?_
    refine z_ic_ge (tgt := 256) dX12_heard_126 (by decide) ?_ ?_
    · refine z_iload_n dX12_heard_256 2 rfl ?_
      refine z_iconst (v := -1) dX12_heard_257 (by decide) ?_
      refine z_ic_ne (tgt := 263) dX12_heard_258 (by decide) ?_ ?_
      · refine z_iload_n dX12_heard_263 2 rfl ?_
        refine z_bipush (v := 10) dX12_heard_264 (by decide) ?_
        refine z_ic_lt (tgt := 290) dX12_heard_266 (by decide) ?_ ?_
        · refine z_lload_n dX12_heard_290 3 rfl ?_
          refine z_lconst (v := 0) dX12_heard_291 (by decide) ?_
          refine z_lcmp dX12_heard_292 ?_
          refine z_if_ne (tgt := 300) dX12_heard_293 (by decide) ?_ ?_
          · refine z_iconst (v := 0) dX12_heard_300 (by decide) ?_
            refine z_istore (lv2 := [(5, .int 0), (0, .ref 70), (1, .int x1), (2, .int x2), (3, .long x3)]) dX12_heard_301 (Nat.le_of_ble_eq_true rfl) rfl ?_
            exact z_sub [1, 3, 0] rfl (w_X12_heard_303 FU _ _ _)
          · refine z_ldc2 dX12_heard_296 kX12_449 ?_
            exact z_lret dX12_heard_299 rfl
        · refine z_lload_n dX12_heard_269 3 rfl ?_
          refine z_lconst (v := 0) dX12_heard_270 (by decide) ?_
          refine z_lcmp dX12_heard_271 ?_
          refine z_if_ne (tgt := 279) dX12_heard_272 (by decide) ?_ ?_
          · refine z_aload_n dX12_heard_279 0 rfl ?_
            refine z_getR (j := 103) fX12_112 kc_70 rfl rfl rfl (by decide) dX12_heard_280 ?_
            refine z_iload_n dX12_heard_283 2 rfl ?_
            refine z_bipush (v := 10) dX12_heard_284 (by decide) ?_
            refine z_isub dX12_heard_286 ?_
            refine z_gd (fun g33 => ?_)
            refine z_iald kc_103 dX12_heard_287 g33 ?_
            refine z_i2l dX12_heard_288 ?_
            exact z_lret dX12_heard_289 rfl
          · refine z_lconst (v := 0) dX12_heard_275 (by decide) ?_
            refine z_goto (tgt := 289) dX12_heard_276 (by decide) ?_
            exact z_lret dX12_heard_289 rfl
      · refine z_lload_n dX12_heard_261 3 rfl ?_
        exact z_lret dX12_heard_262 rfl
    · refine z_aload_n dX12_heard_129 0 rfl ?_
      refine z_iconst (v := 2) dX12_heard_130 (by decide) ?_
      refine z_iload dX12_heard_131 4 rfl ?_
      refine z_imul dX12_heard_133 ?_
      refine z_iconst (v := 1) dX12_heard_134 (by decide) ?_
      refine z_iadd dX12_heard_135 ?_
      refine z_callVI dX12_heard_136 (M_X12_byteAt _ _) bX12_byteAt lX12_404 kc_70 rfl rfl (Nat.le_of_ble_eq_true rfl) (Nat.le_of_ble_eq_true rfl) (fun r34 h35 => ?_)
      refine z_istore (lv2 := [(6, .int r34), (0, .ref 70), (1, .int x1), (2, .int x2), (3, .long x3), (5, .int x5)]) dX12_heard_139 (Nat.le_of_ble_eq_true rfl) rfl ?_
      refine z_aload_n dX12_heard_141 1 rfl ?_
      refine z_getR (j := 103) fX12_112 kc_70 rfl rfl rfl (by decide) dX12_heard_142 ?_
      refine z_iload dX12_heard_145 5 rfl ?_
      refine z_iconst (v := 0) dX12_heard_147 (by decide) ?_
      refine z_gd (fun g37 => ?_)
      refine z_iast kc_103 dX12_heard_148 g37 ?_
      refine z_lh (fun h36 => ?_)
      refine z_iconst (v := 0) dX12_heard_149 (by decide) ?_
      refine z_istore (lv2 := [(7, .int 0), (6, .int r34), (0, .ref 70), (1, .int x1), (2, .int x2), (3, .long x3), (5, .int x5)]) dX12_heard_150 (Nat.le_of_ble_eq_true rfl) rfl ?_
      exact z_sub [2, 3, 4, 5, 6, 1, 0] rfl (w_X12_heard_152 _ ih FU _ _ _ _ _ _ _)
set_option maxHeartbeats 4000000 in
set_option maxRecDepth 100000 in
theorem w_X12_heard_67 : ∀ (f : Nat) (x1 : Int32) (x2 : Int32) (x3 : Int32) (h : AHp), WO tvL QX12_heard 5 67 [(0, .ref 70), (1, .int x1), (2, .int x2), (3, .int x3)] [] h (m_X12_heard_67 f x1 x2 x3 h) := by
  intro f
  induction f with
  | zero => intro x1 x2 x3 h; exact z_none
  | succ f ih =>
    intro x1 x2 x3 h
    rw [m_X12_heard_67]
    refine z_iload_n dX12_heard_67 3 rfl ?_
    refine z_iload_n dX12_heard_68 1 rfl ?_
    refine z_ic_ge (tgt := 110) dX12_heard_69 (by decide) ?_ ?_
    · refine z_aload_n dX12_heard_110 0 rfl ?_
      refine z_aload_n dX12_heard_111 0 rfl ?_
      refine z_getI fX12_386 kc_70 rfl dX12_heard_112 ?_
      refine z_callVV dX12_heard_115 (M_X12_standsAt _ _) bX12_standsAt lX12_389 kc_70 rfl rfl (Nat.le_of_ble_eq_true rfl) (Nat.le_of_ble_eq_true rfl) (fun r38 h39 => ?_)
      refine z_lconst (v := 1) dX12_heard_118 (by decide) ?_
      refine z_lstore_n (lv2 := [(3, .long 1), (0, .ref 70), (1, .int x1), (2, .int x2)]) dX12_heard_119 (Nat.le_of_ble_eq_true rfl) rfl ?_
      refine z_iconst (v := 0) dX12_heard_120 (by decide) ?_
      refine z_istore (lv2 := [(5, .int 0), (3, .long 1), (0, .ref 70), (1, .int x1), (2, .int x2)]) dX12_heard_121 (Nat.le_of_ble_eq_true rfl) rfl ?_
      exact z_sub [2, 3, 4, 1, 0] rfl (w_X12_heard_123 FU _ _ _ _ _)
    · refine z_aload_n dX12_heard_72 0 rfl ?_
      refine z_iconst (v := 2) dX12_heard_73 (by decide) ?_
      refine z_iload_n dX12_heard_74 3 rfl ?_
      refine z_imul dX12_heard_75 ?_
      refine z_callVI dX12_heard_76 (M_X12_byteAt _ _) bX12_byteAt lX12_404 kc_70 rfl rfl (Nat.le_of_ble_eq_true rfl) (Nat.le_of_ble_eq_true rfl) (fun r40 h41 => ?_)
      refine z_callSI dX12_heard_79 (M_X12_isSpeaker _ _) bX12_isSpeaker lX12_378 rfl rfl (Nat.le_of_ble_eq_true rfl) (Nat.le_of_ble_eq_true rfl) (fun r42 h43 => ?_)
      refine z_if_eq (tgt := 100) dX12_heard_82 (by decide) ?_ ?_
      · refine z_ldc2 dX12_heard_100 kX12_447 ?_
        exact z_lret dX12_heard_103 rfl
      · refine z_aload_n dX12_heard_85 0 rfl ?_
        refine z_iconst (v := 2) dX12_heard_86 (by decide) ?_
        refine z_iload_n dX12_heard_87 3 rfl ?_
        refine z_imul dX12_heard_88 ?_
        refine z_iconst (v := 1) dX12_heard_89 (by decide) ?_
        refine z_iadd dX12_heard_90 ?_
        refine z_callVI dX12_heard_91 (M_X12_byteAt _ _) bX12_byteAt lX12_404 kc_70 rfl rfl (Nat.le_of_ble_eq_true rfl) (Nat.le_of_ble_eq_true rfl) (fun r44 h45 => ?_)
        refine z_callSI dX12_heard_94 (M_X12_isSize _ _) bX12_isSize lX12_383 rfl rfl (Nat.le_of_ble_eq_true rfl) (Nat.le_of_ble_eq_true rfl) (fun r46 h47 => ?_)
        refine z_if_ne (tgt := 104) dX12_heard_97 (by decide) ?_ ?_
        · refine z_iincL (lv2 := fun v48 => [(3, .int v48), (0, .ref 70), (1, .int x1), (2, .int x2)]) dX12_heard_104 3 rfl rfl (Nat.le_of_ble_eq_true rfl) (fun _ => rfl) (fun v48 => ?_)
          refine z_goto (tgt := 67) dX12_heard_107 (by decide) ?_
          exact z_sub [1, 2, 3, 0] rfl (ih _ _ _ _)
        · refine z_ldc2 dX12_heard_100 kX12_447 ?_
          exact z_lret dX12_heard_103 rfl
set_option maxHeartbeats 4000000 in
set_option maxRecDepth 100000 in
theorem w_X12_heard_46 (x1 : Int32) (x2 : Int32) (h : AHp) : WO tvL QX12_heard 5 46 [(0, .ref 70), (1, .int x1), (2, .int x2)] [] h (m_X12_heard_46 x1 x2 h) := by
  unfold m_X12_heard_46
  refine z_iconst (v := 2) dX12_heard_46 (by decide) ?_
  refine z_iload_n dX12_heard_47 1 rfl ?_
  refine z_imul dX12_heard_48 ?_
  refine z_aload_n dX12_heard_49 0 rfl ?_
  refine z_getI fX12_157 kc_70 rfl dX12_heard_50 ?_
  refine z_ic_le (tgt := 60) dX12_heard_53 (by decide) ?_ ?_
  · refine z_aload_n dX12_heard_60 0 rfl ?_
    refine z_iconst (v := 0) dX12_heard_61 (by decide) ?_
    refine z_putI fX12_157 kc_70 rfl dX12_heard_62 ?_
    refine z_lh (fun h49 => ?_)
    refine z_iconst (v := 0) dX12_heard_65 (by decide) ?_
    refine z_istore_n (lv2 := [(3, .int 0), (0, .ref 70), (1, .int x1), (2, .int x2)]) dX12_heard_66 (Nat.le_of_ble_eq_true rfl) rfl ?_
    exact z_sub [1, 2, 3, 0] rfl (w_X12_heard_67 FU _ _ _ _)
  · refine z_ldc2 dX12_heard_56 kX12_445 ?_
    exact z_lret dX12_heard_59 rfl
set_option maxHeartbeats 4000000 in
set_option maxRecDepth 100000 in
theorem w_X12_heard (x1 : Int32) (x2 : Int32) (h : AHp) : WO tvL QX12_heard 5 0 [(0, .ref 70), (1, .int x1), (2, .int x2)] [] h (m_X12_heard x1 x2 h) := by
  unfold m_X12_heard
  refine z_iload_n dX12_heard_0 1 rfl ?_
  refine z_i2l dX12_heard_1 ?_
  refine z_lconst (v := 1) dX12_heard_2 (by decide) ?_
  refine z_ldc2 dX12_heard_3 kX12_441 ?_
  refine z_callSI dX12_heard_6 (M_X12_lies _ _ _ _) bX12_lies lX12_181 rfl rfl (Nat.le_of_ble_eq_true rfl) (Nat.le_of_ble_eq_true rfl) (fun r50 h51 => ?_)
  refine z_if_eq (tgt := 56) dX12_heard_9 (by decide) ?_ ?_
  · refine z_ldc2 dX12_heard_56 kX12_445 ?_
    exact z_lret dX12_heard_59 rfl
  · refine z_iload_n dX12_heard_12 2 rfl ?_
    refine z_iconst (v := -1) dX12_heard_13 (by decide) ?_
    refine z_ic_eq (tgt := 46) dX12_heard_14 (by decide) ?_ ?_
    · exact w_X12_heard_46 _ _ _
    · refine z_iload_n dX12_heard_17 2 rfl ?_
      refine z_i2l dX12_heard_18 ?_
      refine z_lconst (v := 0) dX12_heard_19 (by decide) ?_
      refine z_iload_n dX12_heard_20 1 rfl ?_
      refine z_iconst (v := 1) dX12_heard_21 (by decide) ?_
      refine z_isub dX12_heard_22 ?_
      refine z_i2l dX12_heard_23 ?_
      refine z_callSI dX12_heard_24 (M_X12_lies _ _ _ _) bX12_lies lX12_181 rfl rfl (Nat.le_of_ble_eq_true rfl) (Nat.le_of_ble_eq_true rfl) (fun r52 h53 => ?_)
      refine z_if_ne (tgt := 46) dX12_heard_27 (by decide) ?_ ?_
      · exact w_X12_heard_46 _ _ _
      · refine z_iload_n dX12_heard_30 2 rfl ?_
        refine z_i2l dX12_heard_31 ?_
        refine z_ldc2 dX12_heard_32 kX12_443 ?_
        refine z_bipush (v := 9) dX12_heard_35 (by decide) ?_
        refine z_iload_n dX12_heard_37 1 rfl ?_
        refine z_iadd dX12_heard_38 ?_
        refine z_i2l dX12_heard_39 ?_
        refine z_callSI dX12_heard_40 (M_X12_lies _ _ _ _) bX12_lies lX12_181 rfl rfl (Nat.le_of_ble_eq_true rfl) (Nat.le_of_ble_eq_true rfl) (fun r54 h55 => ?_)
        refine z_if_eq (tgt := 56) dX12_heard_43 (by decide) ?_ ?_
        · refine z_ldc2 dX12_heard_56 kX12_445 ?_
          exact z_lret dX12_heard_59 rfl
        · exact w_X12_heard_46 _ _ _
theorem M_X12_heard (x1 : Int32) (x2 : Int32) (h : AHp) : ML QX12_heard 5 [.ref 70, .int x1, .int x2] h (m_X12_heard x1 x2 h) := ML.of (by decide) rfl rfl (Nat.le_of_ble_eq_true rfl) (w_X12_heard x1 x2 h)
set_option maxHeartbeats 4000000 in
set_option maxRecDepth 100000 in
theorem w_X12_laysAny_123 (k24 : Int32 → Int32 → Int32 → AHp → Option (Unit × AHp)) (hk24 : ∀ (x1 : Int32) (x2 : Int32) (x3 : Int32) (h : AHp), WO tvV QX12_laysAny 6 24 [(0, .ref 70), (1, .int x1), (2, .int x2), (3, .int x3)] [] h (k24 x1 x2 x3 h)) (k32 : Int32 → Int32 → Int32 → Int32 → AHp → Option (Unit × AHp)) (hk32 : ∀ (x1 : Int32) (x2 : Int32) (x3 : Int32) (x4 : Int32) (h : AHp), WO tvV QX12_laysAny 6 32 [(0, .ref 70), (1, .int x1), (2, .int x2), (3, .int x3), (4, .int x4)] [] h (k32 x1 x2 x3 x4 h)) (k41 : Int32 → Int32 → Int32 → Int32 → Int32 → AHp → Option (Unit × AHp)) (hk41 : ∀ (x1 : Int32) (x2 : Int32) (x3 : Int32) (x4 : Int32) (x5 : Int32) (h : AHp), WO tvV QX12_laysAny 6 41 [(0, .ref 70), (1, .int x1), (2, .int x2), (3, .int x3), (4, .int x4), (5, .int x5)] [] h (k41 x1 x2 x3 x4 x5 h)) (x1 : Int32) (x2 : Int32) (x3 : Int32) (x4 : Int32) (x5 : Int32) (s0 : Int32) (h : AHp) : WO tvV QX12_laysAny 6 123 [(0, .ref 70), (1, .int x1), (2, .int x2), (3, .int x3), (4, .int x4), (5, .int x5)] [.int s0] h (m_X12_laysAny_123 k24 k32 k41 x1 x2 x3 x4 x5 s0 h) := by
  unfold m_X12_laysAny_123
  refine z_istore (lv2 := [(6, .int s0), (0, .ref 70), (1, .int x1), (2, .int x2), (3, .int x3), (4, .int x4), (5, .int x5)]) dX12_laysAny_123 (Nat.le_of_ble_eq_true rfl) rfl ?_
  refine z_iload dX12_laysAny_125 0 rfl ?_
  refine z_if_ne (tgt := 133) dX12_laysAny_127 (by decide) ?_ ?_
  · refine z_aload_n dX12_laysAny_133 1 rfl ?_
    refine z_iload_n dX12_laysAny_134 4 rfl ?_
    refine z_iload dX12_laysAny_135 6 rfl ?_
    refine z_bipush (v := 25) dX12_laysAny_137 (by decide) ?_
    refine z_idiv dX12_laysAny_139 (by decide) ?_
    refine z_iload dX12_laysAny_140 6 rfl ?_
    refine z_bipush (v := 25) dX12_laysAny_142 (by decide) ?_
    refine z_irem dX12_laysAny_144 (by decide) ?_
    refine z_callVV dX12_laysAny_145 (M_X12_standsBehind _ _ _ _) bX12_standsBehind lX12_413 kc_70 rfl rfl (Nat.le_of_ble_eq_true rfl) (Nat.le_of_ble_eq_true rfl) (fun r1 h2 => ?_)
    refine z_aload_n dX12_laysAny_148 1 rfl ?_
    refine z_getR (j := 105) fX12_118 kc_70 rfl rfl rfl (by decide) dX12_laysAny_149 ?_
    refine z_iconst (v := 4) dX12_laysAny_152 (by decide) ?_
    refine z_iload_n dX12_laysAny_153 4 rfl ?_
    refine z_imul dX12_laysAny_154 ?_
    refine z_iload dX12_laysAny_155 5 rfl ?_
    refine z_iadd dX12_laysAny_157 ?_
    refine z_sipush (v := 625) dX12_laysAny_158 (by decide) ?_
    refine z_imul dX12_laysAny_161 ?_
    refine z_iload dX12_laysAny_162 6 rfl ?_
    refine z_iadd dX12_laysAny_164 ?_
    refine z_aload_n dX12_laysAny_165 1 rfl ?_
    refine z_iconst (v := 1) dX12_laysAny_166 (by decide) ?_
    refine z_aload_n dX12_laysAny_167 1 rfl ?_
    refine z_getR (j := 97) fX12_94 kc_70 rfl rfl rfl (by decide) dX12_laysAny_168 ?_
    refine z_iload_n dX12_laysAny_171 4 rfl ?_
    refine z_gd (fun g3 => ?_)
    refine z_iald kc_97 dX12_laysAny_172 g3 ?_
    refine z_aload_n dX12_laysAny_173 1 rfl ?_
    refine z_getR (j := 104) fX12_115 kc_70 rfl rfl rfl (by decide) dX12_laysAny_174 ?_
    refine z_iload dX12_laysAny_177 5 rfl ?_
    refine z_gd (fun g4 => ?_)
    refine z_iald kc_104 dX12_laysAny_179 g4 ?_
    refine z_callVI dX12_laysAny_180 (M_X12_waysBy _ _ _ _) bX12_waysBy lX12_392 kc_70 rfl rfl (Nat.le_of_ble_eq_true rfl) (Nat.le_of_ble_eq_true rfl) (fun r5 h6 => ?_)
    refine z_gd (fun g8 => ?_)
    refine z_iast kc_105 dX12_laysAny_183 g8 ?_
    refine z_lh (fun h7 => ?_)
    refine z_iincL (lv2 := fun v9 => [(5, .int v9), (6, .int s0), (0, .ref 70), (1, .int x1), (2, .int x2), (3, .int x3), (4, .int x4)]) dX12_laysAny_184 6 rfl rfl (Nat.le_of_ble_eq_true rfl) (fun _ => rfl) (fun v9 => ?_)
    refine z_goto (tgt := 41) dX12_laysAny_187 (by decide) ?_
    exact z_sub [2, 3, 4, 5, 6, 0] rfl (hk41 _ _ _ _ _ _)
  · refine z_goto (tgt := 184) dX12_laysAny_130 (by decide) ?_
    refine z_iincL (lv2 := fun v10 => [(5, .int v10), (6, .int s0), (0, .ref 70), (1, .int x1), (2, .int x2), (3, .int x3), (4, .int x4)]) dX12_laysAny_184 6 rfl rfl (Nat.le_of_ble_eq_true rfl) (fun _ => rfl) (fun v10 => ?_)
    refine z_goto (tgt := 41) dX12_laysAny_187 (by decide) ?_
    exact z_sub [2, 3, 4, 5, 6, 0] rfl (hk41 _ _ _ _ _ _)
set_option maxHeartbeats 4000000 in
set_option maxRecDepth 100000 in
theorem w_X12_laysAny_41 (k24 : Int32 → Int32 → Int32 → AHp → Option (Unit × AHp)) (hk24 : ∀ (x1 : Int32) (x2 : Int32) (x3 : Int32) (h : AHp), WO tvV QX12_laysAny 6 24 [(0, .ref 70), (1, .int x1), (2, .int x2), (3, .int x3)] [] h (k24 x1 x2 x3 h)) (k32 : Int32 → Int32 → Int32 → Int32 → AHp → Option (Unit × AHp)) (hk32 : ∀ (x1 : Int32) (x2 : Int32) (x3 : Int32) (x4 : Int32) (h : AHp), WO tvV QX12_laysAny 6 32 [(0, .ref 70), (1, .int x1), (2, .int x2), (3, .int x3), (4, .int x4)] [] h (k32 x1 x2 x3 x4 h)) : ∀ (f : Nat) (x1 : Int32) (x2 : Int32) (x3 : Int32) (x4 : Int32) (x5 : Int32) (h : AHp), WO tvV QX12_laysAny 6 41 [(0, .ref 70), (1, .int x1), (2, .int x2), (3, .int x3), (4, .int x4), (5, .int x5)] [] h (m_X12_laysAny_41 k24 k32 f x1 x2 x3 x4 x5 h) := by
  intro f
  induction f with
  | zero => intro x1 x2 x3 x4 x5 h; exact z_none
  | succ f ih =>
    intro x1 x2 x3 x4 x5 h
    rw [m_X12_laysAny_41]
    refine z_iload dX12_laysAny_41 5 rfl ?_
    refine z_sipush (v := 625) dX12_laysAny_43 (by decide) ?_
    refine z_ic_ge (tgt := 190) dX12_laysAny_46 (by decide) ?_ ?_
    · refine z_iincL (lv2 := fun v11 => [(4, .int v11), (0, .ref 70), (1, .int x1), (2, .int x2), (3, .int x3), (5, .int x5)]) dX12_laysAny_190 4 rfl rfl (Nat.le_of_ble_eq_true rfl) (fun _ => rfl) (fun v11 => ?_)
      refine z_goto (tgt := 32) dX12_laysAny_193 (by decide) ?_
      exact z_sub [1, 2, 3, 4, 0] rfl (hk32 _ _ _ _ _)
    · refine z_iload_n dX12_laysAny_49 3 rfl ?_
      refine z_iconst (v := 1) dX12_laysAny_50 (by decide) ?_
      refine z_ic_le (tgt := 78) dX12_laysAny_51 (by decide) ?_ ?_
      · refine z_iload_n dX12_laysAny_78 3 rfl ?_
        refine z_iconst (v := 1) dX12_laysAny_79 (by decide) ?_
        refine z_ic_ne (tgt := 109) dX12_laysAny_80 (by decide) ?_ ?_
        · refine z_iload dX12_laysAny_109 5 rfl ?_
          refine z_aload_n dX12_laysAny_111 0 rfl ?_
          refine z_callVI dX12_laysAny_112 (M_X12_startPair _) bX12_startPair lX12_410 kc_70 rfl rfl (Nat.le_of_ble_eq_true rfl) (Nat.le_of_ble_eq_true rfl) (fun r12 h13 => ?_)
          refine z_ic_ne (tgt := 122) dX12_laysAny_115 (by decide) ?_ ?_
          · refine z_iconst (v := 0) dX12_laysAny_122 (by decide) ?_
            exact w_X12_laysAny_123 _ hk24 _ hk32 _ ih _ _ _ _ _ _ _
          · refine z_iconst (v := 1) dX12_laysAny_118 (by decide) ?_
            refine z_goto (tgt := 123) dX12_laysAny_119 (by decide) ?_
            exact w_X12_laysAny_123 _ hk24 _ hk32 _ ih _ _ _ _ _ _ _
        · refine z_iload dX12_laysAny_83 5 rfl ?_
          refine z_bipush (v := 25) dX12_laysAny_85 (by decide) ?_
          refine z_irem dX12_laysAny_87 (by decide) ?_
          refine z_aload_n dX12_laysAny_88 0 rfl ?_
          refine z_aload_n dX12_laysAny_89 0 rfl ?_
          refine z_getI fX12_386 kc_70 rfl dX12_laysAny_90 ?_
          refine z_iconst (v := 1) dX12_laysAny_93 (by decide) ?_
          refine z_isub dX12_laysAny_94 ?_
          refine z_callVI dX12_laysAny_95 (M_X12_lengthAt _ _) bX12_lengthAt lX12_366 kc_70 rfl rfl (Nat.le_of_ble_eq_true rfl) (Nat.le_of_ble_eq_true rfl) (fun r14 h15 => ?_)
          refine z_ic_ne (tgt := 105) dX12_laysAny_98 (by decide) ?_ ?_
          · refine z_iconst (v := 0) dX12_laysAny_105 (by decide) ?_
            refine z_goto (tgt := 123) dX12_laysAny_106 (by decide) ?_
            exact w_X12_laysAny_123 _ hk24 _ hk32 _ ih _ _ _ _ _ _ _
          · refine z_iconst (v := 1) dX12_laysAny_101 (by decide) ?_
            refine z_goto (tgt := 123) dX12_laysAny_102 (by decide) ?_
            exact w_X12_laysAny_123 _ hk24 _ hk32 _ ih _ _ _ _ _ _ _
      · refine z_iload dX12_laysAny_54 5 rfl ?_
        refine z_bipush (v := 25) dX12_laysAny_56 (by decide) ?_
        refine z_irem dX12_laysAny_58 (by decide) ?_
        refine z_if_le (tgt := 74) dX12_laysAny_59 (by decide) ?_ ?_
        · refine z_iconst (v := 0) dX12_laysAny_74 (by decide) ?_
          refine z_goto (tgt := 123) dX12_laysAny_75 (by decide) ?_
          exact w_X12_laysAny_123 _ hk24 _ hk32 _ ih _ _ _ _ _ _ _
        · refine z_iload dX12_laysAny_62 5 rfl ?_
          refine z_bipush (v := 25) dX12_laysAny_64 (by decide) ?_
          refine z_idiv dX12_laysAny_66 (by decide) ?_
          refine z_if_le (tgt := 74) dX12_laysAny_67 (by decide) ?_ ?_
          · refine z_iconst (v := 0) dX12_laysAny_74 (by decide) ?_
            refine z_goto (tgt := 123) dX12_laysAny_75 (by decide) ?_
            exact w_X12_laysAny_123 _ hk24 _ hk32 _ ih _ _ _ _ _ _ _
          · refine z_iconst (v := 1) dX12_laysAny_70 (by decide) ?_
            refine z_goto (tgt := 123) dX12_laysAny_71 (by decide) ?_
            exact w_X12_laysAny_123 _ hk24 _ hk32 _ ih _ _ _ _ _ _ _
set_option maxHeartbeats 4000000 in
set_option maxRecDepth 100000 in
theorem w_X12_laysAny_32 (k24 : Int32 → Int32 → Int32 → AHp → Option (Unit × AHp)) (hk24 : ∀ (x1 : Int32) (x2 : Int32) (x3 : Int32) (h : AHp), WO tvV QX12_laysAny 6 24 [(0, .ref 70), (1, .int x1), (2, .int x2), (3, .int x3)] [] h (k24 x1 x2 x3 h)) : ∀ (f : Nat) (x1 : Int32) (x2 : Int32) (x3 : Int32) (x4 : Int32) (h : AHp), WO tvV QX12_laysAny 6 32 [(0, .ref 70), (1, .int x1), (2, .int x2), (3, .int x3), (4, .int x4)] [] h (m_X12_laysAny_32 k24 f x1 x2 x3 x4 h) := by
  intro f
  induction f with
  | zero => intro x1 x2 x3 x4 h; exact z_none
  | succ f ih =>
    intro x1 x2 x3 x4 h
    rw [m_X12_laysAny_32]
    refine z_iload dX12_laysAny_32 4 rfl ?_
    refine z_iload_n dX12_laysAny_34 1 rfl ?_
    refine z_ic_ge (tgt := 196) dX12_laysAny_35 (by decide) ?_ ?_
    · refine z_iincL (lv2 := fun v16 => [(3, .int v16), (0, .ref 70), (1, .int x1), (2, .int x2), (4, .int x4)]) dX12_laysAny_196 3 rfl rfl (Nat.le_of_ble_eq_true rfl) (fun _ => rfl) (fun v16 => ?_)
      refine z_goto (tgt := 24) dX12_laysAny_199 (by decide) ?_
      exact z_sub [1, 2, 3, 0] rfl (hk24 _ _ _ _)
    · refine z_iconst (v := 0) dX12_laysAny_38 (by decide) ?_
      refine z_istore (lv2 := [(5, .int 0), (0, .ref 70), (1, .int x1), (2, .int x2), (3, .int x3), (4, .int x4)]) dX12_laysAny_39 (Nat.le_of_ble_eq_true rfl) rfl ?_
      exact z_sub [1, 2, 3, 4, 5, 0] rfl (w_X12_laysAny_41 _ hk24 _ ih FU _ _ _ _ _ _)
set_option maxHeartbeats 4000000 in
set_option maxRecDepth 100000 in
theorem w_X12_laysAny_24 : ∀ (f : Nat) (x1 : Int32) (x2 : Int32) (x3 : Int32) (h : AHp), WO tvV QX12_laysAny 6 24 [(0, .ref 70), (1, .int x1), (2, .int x2), (3, .int x3)] [] h (m_X12_laysAny_24 f x1 x2 x3 h) := by
  intro f
  induction f with
  | zero => intro x1 x2 x3 h; exact z_none
  | succ f ih =>
    intro x1 x2 x3 h
    rw [m_X12_laysAny_24]
    refine z_iload_n dX12_laysAny_24 3 rfl ?_
    refine z_iload_n dX12_laysAny_25 2 rfl ?_
    refine z_ic_ge (tgt := 202) dX12_laysAny_26 (by decide) ?_ ?_
    · exact z_vret dX12_laysAny_202 rfl
    · refine z_iconst (v := 0) dX12_laysAny_29 (by decide) ?_
      refine z_istore (lv2 := [(4, .int 0), (0, .ref 70), (1, .int x1), (2, .int x2), (3, .int x3)]) dX12_laysAny_30 (Nat.le_of_ble_eq_true rfl) rfl ?_
      exact z_sub [1, 2, 3, 4, 0] rfl (w_X12_laysAny_32 _ ih FU _ _ _ _ _)
set_option maxHeartbeats 4000000 in
set_option maxRecDepth 100000 in
theorem w_X12_laysAny_2 : ∀ (f : Nat) (x1 : Int32) (x2 : Int32) (x3 : Int32) (h : AHp), WO tvV QX12_laysAny 6 2 [(0, .ref 70), (1, .int x1), (2, .int x2), (3, .int x3)] [] h (m_X12_laysAny_2 f x1 x2 x3 h) := by
  intro f
  induction f with
  | zero => intro x1 x2 x3 h; exact z_none
  | succ f ih =>
    intro x1 x2 x3 h
    rw [m_X12_laysAny_2]
    refine z_iload_n dX12_laysAny_2 3 rfl ?_
    refine z_iload_n dX12_laysAny_3 2 rfl ?_
    refine z_ic_ge (tgt := 22) dX12_laysAny_4 (by decide) ?_ ?_
    · refine z_iconst (v := 0) dX12_laysAny_22 (by decide) ?_
      refine z_istore_n (lv2 := [(3, .int 0), (0, .ref 70), (1, .int x1), (2, .int x2)]) dX12_laysAny_23 (Nat.le_of_ble_eq_true rfl) rfl ?_
      exact z_sub [1, 2, 3, 0] rfl (w_X12_laysAny_24 FU _ _ _ _)
    · refine z_aload_n dX12_laysAny_7 0 rfl ?_
      refine z_getR (j := 97) fX12_94 kc_70 rfl rfl rfl (by decide) dX12_laysAny_8 ?_
      refine z_iload_n dX12_laysAny_11 3 rfl ?_
      refine z_iload_n dX12_laysAny_12 3 rfl ?_
      refine z_iconst (v := 2) dX12_laysAny_13 (by decide) ?_
      refine z_irem dX12_laysAny_14 (by decide) ?_
      refine z_gd (fun g18 => ?_)
      refine z_iast kc_97 dX12_laysAny_15 g18 ?_
      refine z_lh (fun h17 => ?_)
      refine z_iincL (lv2 := fun v19 => [(3, .int v19), (0, .ref 70), (1, .int x1), (2, .int x2)]) dX12_laysAny_16 3 rfl rfl (Nat.le_of_ble_eq_true rfl) (fun _ => rfl) (fun v19 => ?_)
      refine z_goto (tgt := 2) dX12_laysAny_19 (by decide) ?_
      exact z_sub [1, 2, 3, 0] rfl (ih _ _ _ _)
set_option maxHeartbeats 4000000 in
set_option maxRecDepth 100000 in
theorem w_X12_laysAny (x1 : Int32) (x2 : Int32) (h : AHp) : WO tvV QX12_laysAny 6 0 [(0, .ref 70), (1, .int x1), (2, .int x2)] [] h (m_X12_laysAny x1 x2 h) := by
  unfold m_X12_laysAny
  refine z_iconst (v := 0) dX12_laysAny_0 (by decide) ?_
  refine z_istore_n (lv2 := [(3, .int 0), (0, .ref 70), (1, .int x1), (2, .int x2)]) dX12_laysAny_1 (Nat.le_of_ble_eq_true rfl) rfl ?_
  exact z_sub [1, 2, 3, 0] rfl (w_X12_laysAny_2 FU _ _ _ _)
theorem M_X12_laysAny (x1 : Int32) (x2 : Int32) (h : AHp) : MV QX12_laysAny 6 [.ref 70, .int x1, .int x2] h (m_X12_laysAny x1 x2 h) := MV.of (by decide) rfl rfl (Nat.le_of_ble_eq_true rfl) (w_X12_laysAny x1 x2 h)
set_option maxHeartbeats 4000000 in
set_option maxRecDepth 100000 in
theorem w_X12_powerOf_4 : ∀ (f : Nat) (x0 : Int32) (x1 : Int32) (x2 : Int32) (x3 : Int32) (h : AHp), WO tvI QX12_powerOf 0 4 [(0, .int x0), (1, .int x1), (2, .int x2), (3, .int x3)] [] h (m_X12_powerOf_4 f x0 x1 x2 x3 h) := by
  intro f
  induction f with
  | zero => intro x0 x1 x2 x3 h; exact z_none
  | succ f ih =>
    intro x0 x1 x2 x3 h
    rw [m_X12_powerOf_4]
    refine z_iload_n dX12_powerOf_4 3 rfl ?_
    refine z_iload_n dX12_powerOf_5 1 rfl ?_
    refine z_ic_ge (tgt := 19) dX12_powerOf_6 (by decide) ?_ ?_
    · refine z_iload_n dX12_powerOf_19 2 rfl ?_
      exact z_iret dX12_powerOf_20 rfl
    · refine z_iload_n dX12_powerOf_9 2 rfl ?_
      refine z_iload_n dX12_powerOf_10 0 rfl ?_
      refine z_imul dX12_powerOf_11 ?_
      refine z_istore_nL (lv2 := fun v1 => [(2, .int v1), (0, .int x0), (1, .int x1), (3, .int x3)]) dX12_powerOf_12 (Nat.le_of_ble_eq_true rfl) (fun _ => rfl) (fun v1 => ?_)
      refine z_iincL (lv2 := fun v2 => [(3, .int v2), (2, .int v1), (0, .int x0), (1, .int x1)]) dX12_powerOf_13 3 rfl rfl (Nat.le_of_ble_eq_true rfl) (fun _ => rfl) (fun v2 => ?_)
      refine z_goto (tgt := 4) dX12_powerOf_16 (by decide) ?_
      exact z_sub [2, 3, 1, 0] rfl (ih _ _ _ _ _)
set_option maxHeartbeats 4000000 in
set_option maxRecDepth 100000 in
theorem w_X12_powerOf (x0 : Int32) (x1 : Int32) (h : AHp) : WO tvI QX12_powerOf 0 0 [(0, .int x0), (1, .int x1)] [] h (m_X12_powerOf x0 x1 h) := by
  unfold m_X12_powerOf
  refine z_iconst (v := 1) dX12_powerOf_0 (by decide) ?_
  refine z_istore_n (lv2 := [(2, .int 1), (0, .int x0), (1, .int x1)]) dX12_powerOf_1 (Nat.le_of_ble_eq_true rfl) rfl ?_
  refine z_iconst (v := 0) dX12_powerOf_2 (by decide) ?_
  refine z_istore_n (lv2 := [(3, .int 0), (2, .int 1), (0, .int x0), (1, .int x1)]) dX12_powerOf_3 (Nat.le_of_ble_eq_true rfl) rfl ?_
  exact z_sub [2, 3, 1, 0] rfl (w_X12_powerOf_4 FU _ _ _ _ _)
theorem M_X12_powerOf (x0 : Int32) (x1 : Int32) (h : AHp) : MI QX12_powerOf 0 [.int x0, .int x1] h (m_X12_powerOf x0 x1 h) := MI.of (by decide) rfl rfl (Nat.le_of_ble_eq_true rfl) (w_X12_powerOf x0 x1 h)
set_option maxHeartbeats 4000000 in
set_option maxRecDepth 100000 in
theorem w_X12_canHold_164 (k44 : Int32 → Int32 → Int32 → Int32 → Int32 → AHp → Option (Int32 × AHp)) (hk44 : ∀ (x1 : Int32) (x2 : Int32) (x3 : Int32) (x4 : Int32) (x5 : Int32) (h : AHp), WO tvI QX12_canHold 2 44 [(0, .ref 70), (1, .int x1), (2, .int x2), (3, .int x3), (4, .int x4), (5, .int x5)] [] h (k44 x1 x2 x3 x4 x5 h)) (k102 : Int32 → Int32 → Int32 → Int32 → Int32 → Int32 → Int32 → AHp → Option (Int32 × AHp)) (hk102 : ∀ (x1 : Int32) (x2 : Int32) (x3 : Int32) (x4 : Int32) (x5 : Int32) (x6 : Int32) (x7 : Int32) (h : AHp), WO tvI QX12_canHold 2 102 [(0, .ref 70), (1, .int x1), (2, .int x2), (3, .int x3), (4, .int x4), (5, .int x5), (6, .int x6), (7, .int x7)] [] h (k102 x1 x2 x3 x4 x5 x6 x7 h)) : ∀ (f : Nat) (x1 : Int32) (x2 : Int32) (x3 : Int32) (x4 : Int32) (x5 : Int32) (x6 : Int32) (x7 : Int32) (x8 : Int32) (x9 : Int32) (h : AHp), WO tvI QX12_canHold 2 164 [(0, .ref 70), (1, .int x1), (2, .int x2), (3, .int x3), (4, .int x4), (5, .int x5), (6, .int x6), (7, .int x7), (8, .int x8), (9, .int x9)] [] h (m_X12_canHold_164 k44 k102 f x1 x2 x3 x4 x5 x6 x7 x8 x9 h) := by
  intro f
  induction f with
  | zero => intro x1 x2 x3 x4 x5 x6 x7 x8 x9 h; exact z_none
  | succ f ih =>
    intro x1 x2 x3 x4 x5 x6 x7 x8 x9 h
    rw [m_X12_canHold_164]
    refine z_iload dX12_canHold_164 9 rfl ?_
    refine z_bipush (v := 24) dX12_canHold_166 (by decide) ?_
    refine z_ic_gt (tgt := 205) dX12_canHold_168 (by decide) ?_ ?_
    · refine z_iincL (lv2 := fun v1 => [(7, .int v1), (0, .ref 70), (1, .int x1), (2, .int x2), (3, .int x3), (4, .int x4), (5, .int x5), (6, .int x6), (8, .int x8), (9, .int x9)]) dX12_canHold_205 7 rfl rfl (Nat.le_of_ble_eq_true rfl) (fun _ => rfl) (fun v1 => ?_)
      refine z_goto (tgt := 102) dX12_canHold_208 (by decide) ?_
      exact z_sub [1, 2, 3, 4, 5, 6, 7, 0] rfl (hk102 _ _ _ _ _ _ _ _)
    · refine z_iload dX12_canHold_171 8 rfl ?_
      refine z_if_eq (tgt := 205) dX12_canHold_173 (by decide) ?_ ?_
      · refine z_iincL (lv2 := fun v2 => [(7, .int v2), (0, .ref 70), (1, .int x1), (2, .int x2), (3, .int x3), (4, .int x4), (5, .int x5), (6, .int x6), (8, .int x8), (9, .int x9)]) dX12_canHold_205 7 rfl rfl (Nat.le_of_ble_eq_true rfl) (fun _ => rfl) (fun v2 => ?_)
        refine z_goto (tgt := 102) dX12_canHold_208 (by decide) ?_
        exact z_sub [1, 2, 3, 4, 5, 6, 7, 0] rfl (hk102 _ _ _ _ _ _ _ _)
      · refine z_iload dX12_canHold_176 8 rfl ?_
        refine z_iload dX12_canHold_178 9 rfl ?_
        refine z_callSI dX12_canHold_180 (M_X12_has _ _ _) bX12_has lX12_187 rfl rfl (Nat.le_of_ble_eq_true rfl) (Nat.le_of_ble_eq_true rfl) (fun r3 h4 => ?_)
        refine z_if_eq (tgt := 199) dX12_canHold_183 (by decide) ?_ ?_
        · refine z_iincL (lv2 := fun v5 => [(9, .int v5), (0, .ref 70), (1, .int x1), (2, .int x2), (3, .int x3), (4, .int x4), (5, .int x5), (6, .int x6), (7, .int x7), (8, .int x8)]) dX12_canHold_199 9 rfl rfl (Nat.le_of_ble_eq_true rfl) (fun _ => rfl) (fun v5 => ?_)
          refine z_goto (tgt := 164) dX12_canHold_202 (by decide) ?_
          exact z_sub [1, 2, 3, 4, 5, 6, 7, 8, 9, 0] rfl (ih _ _ _ _ _ _ _ _ _ _)
        · refine z_aload_n dX12_canHold_186 0 rfl ?_
          refine z_getR (j := 107) fX12_124 kc_70 rfl rfl rfl (by decide) dX12_canHold_187 ?_
          refine z_iload dX12_canHold_190 7 rfl ?_
          refine z_iload dX12_canHold_192 9 rfl ?_
          refine z_callSI dX12_canHold_194 (M_X12_pairBehind _ _ _) bX12_pairBehind lX12_419 rfl rfl (Nat.le_of_ble_eq_true rfl) (Nat.le_of_ble_eq_true rfl) (fun r6 h7 => ?_)
          refine z_iconst (v := 1) dX12_canHold_197 (by decide) ?_
          refine z_gd (fun g9 => ?_)
          refine z_zast kc_107 dX12_canHold_198 g9 ?_
          refine z_lh (fun h8 => ?_)
          refine z_iincL (lv2 := fun v10 => [(9, .int v10), (0, .ref 70), (1, .int x1), (2, .int x2), (3, .int x3), (4, .int x4), (5, .int x5), (6, .int x6), (7, .int x7), (8, .int x8)]) dX12_canHold_199 9 rfl rfl (Nat.le_of_ble_eq_true rfl) (fun _ => rfl) (fun v10 => ?_)
          refine z_goto (tgt := 164) dX12_canHold_202 (by decide) ?_
          exact z_sub [1, 2, 3, 4, 5, 6, 7, 8, 9, 0] rfl (ih _ _ _ _ _ _ _ _ _ _)
set_option maxHeartbeats 4000000 in
set_option maxRecDepth 100000 in
theorem w_X12_canHold_214 (k44 : Int32 → Int32 → Int32 → Int32 → Int32 → AHp → Option (Int32 × AHp)) (hk44 : ∀ (x1 : Int32) (x2 : Int32) (x3 : Int32) (x4 : Int32) (x5 : Int32) (h : AHp), WO tvI QX12_canHold 2 44 [(0, .ref 70), (1, .int x1), (2, .int x2), (3, .int x3), (4, .int x4), (5, .int x5)] [] h (k44 x1 x2 x3 x4 x5 h)) : ∀ (f : Nat) (x1 : Int32) (x2 : Int32) (x3 : Int32) (x4 : Int32) (x5 : Int32) (x7 : Int32) (h : AHp), WO tvI QX12_canHold 2 214 [(0, .ref 70), (1, .int x1), (2, .int x2), (3, .int x3), (4, .int x4), (5, .int x5), (7, .int x7)] [] h (m_X12_canHold_214 k44 f x1 x2 x3 x4 x5 x7 h) := by
  intro f
  induction f with
  | zero => intro x1 x2 x3 x4 x5 x7 h; exact z_none
  | succ f ih =>
    intro x1 x2 x3 x4 x5 x7 h
    rw [m_X12_canHold_214]
    refine z_iload dX12_canHold_214 6 rfl ?_
    refine z_sipush (v := 625) dX12_canHold_216 (by decide) ?_
    refine z_ic_ge (tgt := 242) dX12_canHold_219 (by decide) ?_ ?_
    · refine z_iincL (lv2 := fun v11 => [(5, .int v11), (0, .ref 70), (1, .int x1), (2, .int x2), (3, .int x3), (4, .int x4), (7, .int x7)]) dX12_canHold_242 5 rfl rfl (Nat.le_of_ble_eq_true rfl) (fun _ => rfl) (fun v11 => ?_)
      refine z_goto (tgt := 44) dX12_canHold_245 (by decide) ?_
      exact z_sub [1, 2, 3, 4, 5, 0] rfl (hk44 _ _ _ _ _ _)
    · refine z_aload_n dX12_canHold_222 0 rfl ?_
      refine z_getR (j := 106) fX12_121 kc_70 rfl rfl rfl (by decide) dX12_canHold_223 ?_
      refine z_iload dX12_canHold_226 6 rfl ?_
      refine z_aload_n dX12_canHold_228 0 rfl ?_
      refine z_getR (j := 107) fX12_124 kc_70 rfl rfl rfl (by decide) dX12_canHold_229 ?_
      refine z_iload dX12_canHold_232 6 rfl ?_
      refine z_gd (fun g12 => ?_)
      refine z_zald kc_107 dX12_canHold_234 g12 ?_
      refine z_gd (fun g14 => ?_)
      refine z_zast kc_106 dX12_canHold_235 g14 ?_
      refine z_lh (fun h13 => ?_)
      refine z_iincL (lv2 := fun v15 => [(7, .int v15), (0, .ref 70), (1, .int x1), (2, .int x2), (3, .int x3), (4, .int x4), (5, .int x5)]) dX12_canHold_236 6 rfl rfl (Nat.le_of_ble_eq_true rfl) (fun _ => rfl) (fun v15 => ?_)
      refine z_goto (tgt := 214) dX12_canHold_239 (by decide) ?_
      exact z_sub [1, 2, 3, 4, 5, 6, 0] rfl (ih _ _ _ _ _ _ _)
set_option maxHeartbeats 4000000 in
set_option maxRecDepth 100000 in
theorem w_X12_canHold_102 (k44 : Int32 → Int32 → Int32 → Int32 → Int32 → AHp → Option (Int32 × AHp)) (hk44 : ∀ (x1 : Int32) (x2 : Int32) (x3 : Int32) (x4 : Int32) (x5 : Int32) (h : AHp), WO tvI QX12_canHold 2 44 [(0, .ref 70), (1, .int x1), (2, .int x2), (3, .int x3), (4, .int x4), (5, .int x5)] [] h (k44 x1 x2 x3 x4 x5 h)) : ∀ (f : Nat) (x1 : Int32) (x2 : Int32) (x3 : Int32) (x4 : Int32) (x5 : Int32) (x6 : Int32) (x7 : Int32) (h : AHp), WO tvI QX12_canHold 2 102 [(0, .ref 70), (1, .int x1), (2, .int x2), (3, .int x3), (4, .int x4), (5, .int x5), (6, .int x6), (7, .int x7)] [] h (m_X12_canHold_102 k44 f x1 x2 x3 x4 x5 x6 x7 h) := by
  intro f
  induction f with
  | zero => intro x1 x2 x3 x4 x5 x6 x7 h; exact z_none
  | succ f ih =>
    intro x1 x2 x3 x4 x5 x6 x7 h
    rw [m_X12_canHold_102]
    refine z_iload dX12_canHold_102 7 rfl ?_
    refine z_sipush (v := 625) dX12_canHold_104 (by decide) ?_
    refine z_ic_ge (tgt := 211) dX12_canHold_107 (by decide) ?_ ?_
    · refine z_iconst (v := 0) dX12_canHold_211 (by decide) ?_
      refine z_istore (lv2 := [(7, .int 0), (0, .ref 70), (1, .int x1), (2, .int x2), (3, .int x3), (4, .int x4), (5, .int x5), (6, .int x6)]) dX12_canHold_212 (Nat.le_of_ble_eq_true rfl) rfl ?_
      exact z_sub [1, 2, 3, 4, 5, 6, 0] rfl (w_X12_canHold_214 _ hk44 FU _ _ _ _ _ _ _)
    · refine z_aload_n dX12_canHold_110 0 rfl ?_
      refine z_getR (j := 106) fX12_121 kc_70 rfl rfl rfl (by decide) dX12_canHold_111 ?_
      refine z_iload dX12_canHold_114 7 rfl ?_
      refine z_gd (fun g16 => ?_)
      refine z_zald kc_106 dX12_canHold_116 g16 ?_
      refine z_if_ne (tgt := 123) dX12_canHold_117 (by decide) ?_ ?_
      · refine z_aload_n dX12_canHold_123 0 rfl ?_
        refine z_getR (j := 105) fX12_118 kc_70 rfl rfl rfl (by decide) dX12_canHold_124 ?_
        refine z_iconst (v := 4) dX12_canHold_127 (by decide) ?_
        refine z_iload dX12_canHold_128 5 rfl ?_
        refine z_imul dX12_canHold_130 ?_
        refine z_iload dX12_canHold_131 6 rfl ?_
        refine z_iadd dX12_canHold_133 ?_
        refine z_sipush (v := 625) dX12_canHold_134 (by decide) ?_
        refine z_imul dX12_canHold_137 ?_
        refine z_iload dX12_canHold_138 7 rfl ?_
        refine z_iadd dX12_canHold_140 ?_
        refine z_gd (fun g17 => ?_)
        refine z_iald kc_105 dX12_canHold_141 g17 ?_
        refine z_istoreL (lv2 := fun v18 => [(8, .int v18), (0, .ref 70), (1, .int x1), (2, .int x2), (3, .int x3), (4, .int x4), (5, .int x5), (6, .int x6), (7, .int x7)]) dX12_canHold_142 (Nat.le_of_ble_eq_true rfl) (fun _ => rfl) (fun v18 => ?_)
        refine z_iload dX12_canHold_144 5 rfl ?_
        refine z_if_ne (tgt := 154) dX12_canHold_146 (by decide) ?_ ?_
        · refine z_iconst (v := 1) dX12_canHold_154 (by decide) ?_
          refine z_goto (tgt := 159) dX12_canHold_155 (by decide) ?_
          refine z_istore (lv2 := [(4, .int 1), (8, .int v18), (0, .ref 70), (1, .int x1), (2, .int x2), (3, .int x3), (5, .int x5), (6, .int x6), (7, .int x7)]) dX12_canHold_159 (Nat.le_of_ble_eq_true rfl) rfl ?_
          refine z_iconst (v := 1) dX12_canHold_161 (by decide) ?_
          refine z_istore (lv2 := [(9, .int 1), (4, .int 1), (8, .int v18), (0, .ref 70), (1, .int x1), (2, .int x2), (3, .int x3), (5, .int x5), (6, .int x6), (7, .int x7)]) dX12_canHold_162 (Nat.le_of_ble_eq_true rfl) rfl ?_
          exact z_sub [3, 4, 5, 6, 1, 7, 8, 9, 2, 0] rfl (w_X12_canHold_164 _ hk44 _ ih FU _ _ _ _ _ _ _ _ _ _)
        · refine z_iload dX12_canHold_149 0 rfl ?_
          refine z_if_eq (tgt := 158) dX12_canHold_151 (by decide) ?_ ?_
          · refine z_iconst (v := 0) dX12_canHold_158 (by decide) ?_
            refine z_istore (lv2 := [(4, .int 0), (8, .int v18), (0, .ref 70), (1, .int x1), (2, .int x2), (3, .int x3), (5, .int x5), (6, .int x6), (7, .int x7)]) dX12_canHold_159 (Nat.le_of_ble_eq_true rfl) rfl ?_
            refine z_iconst (v := 1) dX12_canHold_161 (by decide) ?_
            refine z_istore (lv2 := [(9, .int 1), (4, .int 0), (8, .int v18), (0, .ref 70), (1, .int x1), (2, .int x2), (3, .int x3), (5, .int x5), (6, .int x6), (7, .int x7)]) dX12_canHold_162 (Nat.le_of_ble_eq_true rfl) rfl ?_
            exact z_sub [3, 4, 5, 6, 1, 7, 8, 9, 2, 0] rfl (w_X12_canHold_164 _ hk44 _ ih FU _ _ _ _ _ _ _ _ _ _)
          · refine z_iconst (v := 1) dX12_canHold_154 (by decide) ?_
            refine z_goto (tgt := 159) dX12_canHold_155 (by decide) ?_
            refine z_istore (lv2 := [(4, .int 1), (8, .int v18), (0, .ref 70), (1, .int x1), (2, .int x2), (3, .int x3), (5, .int x5), (6, .int x6), (7, .int x7)]) dX12_canHold_159 (Nat.le_of_ble_eq_true rfl) rfl ?_
            refine z_iconst (v := 1) dX12_canHold_161 (by decide) ?_
            refine z_istore (lv2 := [(9, .int 1), (4, .int 1), (8, .int v18), (0, .ref 70), (1, .int x1), (2, .int x2), (3, .int x3), (5, .int x5), (6, .int x6), (7, .int x7)]) dX12_canHold_162 (Nat.le_of_ble_eq_true rfl) rfl ?_
            exact z_sub [3, 4, 5, 6, 1, 7, 8, 9, 2, 0] rfl (w_X12_canHold_164 _ hk44 _ ih FU _ _ _ _ _ _ _ _ _ _)
      · refine z_goto (tgt := 205) dX12_canHold_120 (by decide) ?_
        refine z_iincL (lv2 := fun v19 => [(7, .int v19), (0, .ref 70), (1, .int x1), (2, .int x2), (3, .int x3), (4, .int x4), (5, .int x5), (6, .int x6)]) dX12_canHold_205 7 rfl rfl (Nat.le_of_ble_eq_true rfl) (fun _ => rfl) (fun v19 => ?_)
        refine z_goto (tgt := 102) dX12_canHold_208 (by decide) ?_
        exact z_sub [1, 2, 3, 4, 5, 6, 7, 0] rfl (ih _ _ _ _ _ _ _ _)
set_option maxHeartbeats 4000000 in
set_option maxRecDepth 100000 in
theorem w_X12_canHold_77 (k44 : Int32 → Int32 → Int32 → Int32 → Int32 → AHp → Option (Int32 × AHp)) (hk44 : ∀ (x1 : Int32) (x2 : Int32) (x3 : Int32) (x4 : Int32) (x5 : Int32) (h : AHp), WO tvI QX12_canHold 2 44 [(0, .ref 70), (1, .int x1), (2, .int x2), (3, .int x3), (4, .int x4), (5, .int x5)] [] h (k44 x1 x2 x3 x4 x5 h)) : ∀ (f : Nat) (x1 : Int32) (x2 : Int32) (x3 : Int32) (x4 : Int32) (x5 : Int32) (x6 : Int32) (x7 : Int32) (h : AHp), WO tvI QX12_canHold 2 77 [(0, .ref 70), (1, .int x1), (2, .int x2), (3, .int x3), (4, .int x4), (5, .int x5), (6, .int x6), (7, .int x7)] [] h (m_X12_canHold_77 k44 f x1 x2 x3 x4 x5 x6 x7 h) := by
  intro f
  induction f with
  | zero => intro x1 x2 x3 x4 x5 x6 x7 h; exact z_none
  | succ f ih =>
    intro x1 x2 x3 x4 x5 x6 x7 h
    rw [m_X12_canHold_77]
    refine z_iload dX12_canHold_77 7 rfl ?_
    refine z_sipush (v := 625) dX12_canHold_79 (by decide) ?_
    refine z_ic_ge (tgt := 99) dX12_canHold_82 (by decide) ?_ ?_
    · refine z_iconst (v := 0) dX12_canHold_99 (by decide) ?_
      refine z_istore (lv2 := [(7, .int 0), (0, .ref 70), (1, .int x1), (2, .int x2), (3, .int x3), (4, .int x4), (5, .int x5), (6, .int x6)]) dX12_canHold_100 (Nat.le_of_ble_eq_true rfl) rfl ?_
      exact z_sub [1, 2, 3, 4, 5, 6, 7, 0] rfl (w_X12_canHold_102 _ hk44 FU _ _ _ _ _ _ _ _)
    · refine z_aload_n dX12_canHold_85 0 rfl ?_
      refine z_getR (j := 107) fX12_124 kc_70 rfl rfl rfl (by decide) dX12_canHold_86 ?_
      refine z_iload dX12_canHold_89 7 rfl ?_
      refine z_iconst (v := 0) dX12_canHold_91 (by decide) ?_
      refine z_gd (fun g21 => ?_)
      refine z_zast kc_107 dX12_canHold_92 g21 ?_
      refine z_lh (fun h20 => ?_)
      refine z_iincL (lv2 := fun v22 => [(7, .int v22), (0, .ref 70), (1, .int x1), (2, .int x2), (3, .int x3), (4, .int x4), (5, .int x5), (6, .int x6)]) dX12_canHold_93 7 rfl rfl (Nat.le_of_ble_eq_true rfl) (fun _ => rfl) (fun v22 => ?_)
      refine z_goto (tgt := 77) dX12_canHold_96 (by decide) ?_
      exact z_sub [1, 2, 3, 4, 5, 6, 7, 0] rfl (ih _ _ _ _ _ _ _ _)
set_option maxHeartbeats 4000000 in
set_option maxRecDepth 100000 in
theorem w_X12_canHold_44 : ∀ (f : Nat) (x1 : Int32) (x2 : Int32) (x3 : Int32) (x4 : Int32) (x5 : Int32) (h : AHp), WO tvI QX12_canHold 2 44 [(0, .ref 70), (1, .int x1), (2, .int x2), (3, .int x3), (4, .int x4), (5, .int x5)] [] h (m_X12_canHold_44 f x1 x2 x3 x4 x5 h) := by
  intro f
  induction f with
  | zero => intro x1 x2 x3 x4 x5 h; exact z_none
  | succ f ih =>
    intro x1 x2 x3 x4 x5 h
    rw [m_X12_canHold_44]
    refine z_iload dX12_canHold_44 5 rfl ?_
    refine z_iload_n dX12_canHold_46 3 rfl ?_
    refine z_ic_ge (tgt := 248) dX12_canHold_47 (by decide) ?_ ?_
    · refine z_iload dX12_canHold_248 4 rfl ?_
      refine z_gd (fun g23 => ?_)
      exact z_zret dX12_canHold_250 rfl g23
    · refine z_iload dX12_canHold_50 4 rfl ?_
      refine z_if_eq (tgt := 248) dX12_canHold_52 (by decide) ?_ ?_
      · refine z_iload dX12_canHold_248 4 rfl ?_
        refine z_gd (fun g24 => ?_)
        exact z_zret dX12_canHold_250 rfl g24
      · refine z_iload_n dX12_canHold_55 1 rfl ?_
        refine z_iload_n dX12_canHold_56 2 rfl ?_
        refine z_iload_n dX12_canHold_57 3 rfl ?_
        refine z_iconst (v := 1) dX12_canHold_58 (by decide) ?_
        refine z_isub dX12_canHold_59 ?_
        refine z_iload dX12_canHold_60 5 rfl ?_
        refine z_isub dX12_canHold_62 ?_
        refine z_callSI dX12_canHold_63 (M_X12_powerOf _ _ _) bX12_powerOf lX12_451 rfl rfl (Nat.le_of_ble_eq_true rfl) (Nat.le_of_ble_eq_true rfl) (fun r25 h26 => ?_)
        refine z_gd (fun g27 => ?_)
        refine z_idiv dX12_canHold_66 g27 ?_
        refine z_iload_n dX12_canHold_67 2 rfl ?_
        refine z_gd (fun g28 => ?_)
        refine z_irem dX12_canHold_68 g28 ?_
        refine z_istoreL (lv2 := fun v29 => [(6, .int v29), (0, .ref 70), (1, .int x1), (2, .int x2), (3, .int x3), (4, .int x4), (5, .int x5)]) dX12_canHold_69 (Nat.le_of_ble_eq_true rfl) (fun _ => rfl) (fun v29 => ?_)
        refine z_iconst (v := 0) dX12_canHold_71 (by decide) ?_
        refine z_istore (lv2 := [(4, .int 0), (6, .int v29), (0, .ref 70), (1, .int x1), (2, .int x2), (3, .int x3), (5, .int x5)]) dX12_canHold_72 (Nat.le_of_ble_eq_true rfl) rfl ?_
        refine z_iconst (v := 0) dX12_canHold_74 (by decide) ?_
        refine z_istore (lv2 := [(7, .int 0), (4, .int 0), (6, .int v29), (0, .ref 70), (1, .int x1), (2, .int x2), (3, .int x3), (5, .int x5)]) dX12_canHold_75 (Nat.le_of_ble_eq_true rfl) rfl ?_
        exact z_sub [3, 4, 5, 6, 1, 7, 2, 0] rfl (w_X12_canHold_77 _ ih FU _ _ _ _ _ _ _ _)
set_option maxHeartbeats 4000000 in
set_option maxRecDepth 100000 in
theorem w_X12_canHold_3 : ∀ (f : Nat) (x1 : Int32) (x2 : Int32) (x3 : Int32) (x4 : Int32) (h : AHp), WO tvI QX12_canHold 2 3 [(0, .ref 70), (1, .int x1), (2, .int x2), (3, .int x3), (4, .int x4)] [] h (m_X12_canHold_3 f x1 x2 x3 x4 h) := by
  intro f
  induction f with
  | zero => intro x1 x2 x3 x4 h; exact z_none
  | succ f ih =>
    intro x1 x2 x3 x4 h
    rw [m_X12_canHold_3]
    refine z_iload dX12_canHold_3 4 rfl ?_
    refine z_sipush (v := 625) dX12_canHold_5 (by decide) ?_
    refine z_ic_ge (tgt := 38) dX12_canHold_8 (by decide) ?_ ?_
    · refine z_iconst (v := 1) dX12_canHold_38 (by decide) ?_
      refine z_istore (lv2 := [(4, .int 1), (0, .ref 70), (1, .int x1), (2, .int x2), (3, .int x3)]) dX12_canHold_39 (Nat.le_of_ble_eq_true rfl) rfl ?_
      refine z_iconst (v := 0) dX12_canHold_41 (by decide) ?_
      refine z_istore (lv2 := [(5, .int 0), (4, .int 1), (0, .ref 70), (1, .int x1), (2, .int x2), (3, .int x3)]) dX12_canHold_42 (Nat.le_of_ble_eq_true rfl) rfl ?_
      exact z_sub [2, 3, 4, 5, 1, 0] rfl (w_X12_canHold_44 FU _ _ _ _ _ _)
    · refine z_aload_n dX12_canHold_11 0 rfl ?_
      refine z_getR (j := 106) fX12_121 kc_70 rfl rfl rfl (by decide) dX12_canHold_12 ?_
      refine z_iload dX12_canHold_15 4 rfl ?_
      refine z_iload dX12_canHold_17 4 rfl ?_
      refine z_aload_n dX12_canHold_19 0 rfl ?_
      refine z_callVI dX12_canHold_20 (M_X12_startPair _) bX12_startPair lX12_410 kc_70 rfl rfl (Nat.le_of_ble_eq_true rfl) (Nat.le_of_ble_eq_true rfl) (fun r30 h31 => ?_)
      refine z_ic_ne (tgt := 30) dX12_canHold_23 (by decide) ?_ ?_
      · refine z_iconst (v := 0) dX12_canHold_30 (by decide) ?_
        refine z_gd (fun g33 => ?_)
        refine z_zast kc_106 dX12_canHold_31 g33 ?_
        refine z_lh (fun h32 => ?_)
        refine z_iincL (lv2 := fun v34 => [(4, .int v34), (0, .ref 70), (1, .int x1), (2, .int x2), (3, .int x3)]) dX12_canHold_32 4 rfl rfl (Nat.le_of_ble_eq_true rfl) (fun _ => rfl) (fun v34 => ?_)
        refine z_goto (tgt := 3) dX12_canHold_35 (by decide) ?_
        exact z_sub [1, 2, 3, 4, 0] rfl (ih _ _ _ _ _)
      · refine z_iconst (v := 1) dX12_canHold_26 (by decide) ?_
        refine z_goto (tgt := 31) dX12_canHold_27 (by decide) ?_
        refine z_gd (fun g36 => ?_)
        refine z_zast kc_106 dX12_canHold_31 g36 ?_
        refine z_lh (fun h35 => ?_)
        refine z_iincL (lv2 := fun v37 => [(4, .int v37), (0, .ref 70), (1, .int x1), (2, .int x2), (3, .int x3)]) dX12_canHold_32 4 rfl rfl (Nat.le_of_ble_eq_true rfl) (fun _ => rfl) (fun v37 => ?_)
        refine z_goto (tgt := 3) dX12_canHold_35 (by decide) ?_
        exact z_sub [1, 2, 3, 4, 0] rfl (ih _ _ _ _ _)
set_option maxHeartbeats 4000000 in
set_option maxRecDepth 100000 in
theorem w_X12_canHold (x1 : Int32) (x2 : Int32) (x3 : Int32) (h : AHp) : WO tvI QX12_canHold 2 0 [(0, .ref 70), (1, .int x1), (2, .int x2), (3, .int x3)] [] h (m_X12_canHold x1 x2 x3 h) := by
  unfold m_X12_canHold
  refine z_iconst (v := 0) dX12_canHold_0 (by decide) ?_
  refine z_istore (lv2 := [(4, .int 0), (0, .ref 70), (1, .int x1), (2, .int x2), (3, .int x3)]) dX12_canHold_1 (Nat.le_of_ble_eq_true rfl) rfl ?_
  exact z_sub [1, 2, 3, 4, 0] rfl (w_X12_canHold_3 FU _ _ _ _ _)
theorem M_X12_canHold (x1 : Int32) (x2 : Int32) (x3 : Int32) (h : AHp) : MI QX12_canHold 2 [.ref 70, .int x1, .int x2, .int x3] h (m_X12_canHold x1 x2 x3 h) := MI.of (by decide) rfl rfl (Nat.le_of_ble_eq_true rfl) (w_X12_canHold x1 x2 x3 h)
set_option maxHeartbeats 4000000 in
set_option maxRecDepth 100000 in
theorem w_X12_anyTalk_114 : ∀ (f : Nat) (x2 : Int32) (x3 : Int32) (x4 : Int32) (x5 : Int32) (x6 : Int32) (h : AHp), WO tvI QX12_anyTalk 7 114 [(0, .ref 70), (2, .int x2), (3, .int x3), (4, .int x4), (5, .int x5), (6, .int x6)] [] h (m_X12_anyTalk_114 f x2 x3 x4 x5 x6 h) := by
  intro f
  induction f with
  | zero => intro x2 x3 x4 x5 x6 h; exact z_none
  | succ f ih =>
    intro x2 x3 x4 x5 x6 h
    rw [m_X12_anyTalk_114]
    refine z_iload dX12_anyTalk_114 5 rfl ?_
    refine z_iload dX12_anyTalk_116 4 rfl ?_
    refine z_ic_ge (tgt := 170) dX12_anyTalk_118 (by decide) ?_ ?_
    · refine z_iload_n dX12_anyTalk_170 2 rfl ?_
      refine z_iconst (v := -1) dX12_anyTalk_171 (by decide) ?_
      refine z_ic_ne (tgt := 179) dX12_anyTalk_172 (by decide) ?_ ?_
      · refine z_bipush (v := -2) dX12_anyTalk_179 (by decide) ?_
        exact z_iret dX12_anyTalk_181 rfl
      · refine z_iconst (v := 1) dX12_anyTalk_175 (by decide) ?_
        refine z_goto (tgt := 181) dX12_anyTalk_176 (by decide) ?_
        exact z_iret dX12_anyTalk_181 rfl
    · refine z_aload_n dX12_anyTalk_121 0 rfl ?_
      refine z_iload dX12_anyTalk_122 5 rfl ?_
      refine z_iload dX12_anyTalk_124 3 rfl ?_
      refine z_iload_n dX12_anyTalk_126 1 rfl ?_
      refine z_callVI dX12_anyTalk_127 (M_X12_canHold _ _ _ _) bX12_canHold lX12_459 kc_70 rfl rfl (Nat.le_of_ble_eq_true rfl) (Nat.le_of_ble_eq_true rfl) (fun r1 h2 => ?_)
      refine z_if_ne (tgt := 164) dX12_anyTalk_130 (by decide) ?_ ?_
      · refine z_iincL (lv2 := fun v3 => [(6, .int v3), (0, .ref 70), (2, .int x2), (3, .int x3), (4, .int x4), (5, .int x5)]) dX12_anyTalk_164 5 rfl rfl (Nat.le_of_ble_eq_true rfl) (fun _ => rfl) (fun v3 => ?_)
        refine z_goto (tgt := 114) dX12_anyTalk_167 (by decide) ?_
        exact z_sub [1, 2, 3, 4, 5, 0] rfl (ih _ _ _ _ _ _)
      · refine z_iload_n dX12_anyTalk_133 2 rfl ?_
        refine z_iconst (v := -1) dX12_anyTalk_134 (by decide) ?_
        refine z_ic_ne (tgt := 142) dX12_anyTalk_135 (by decide) ?_ ?_
        · refine z_aload_n dX12_anyTalk_142 0 rfl ?_
          refine z_getR (j := 104) fX12_115 kc_70 rfl rfl rfl (by decide) dX12_anyTalk_143 ?_
          refine z_iload dX12_anyTalk_146 5 rfl ?_
          refine z_iload dX12_anyTalk_148 3 rfl ?_
          refine z_iload_n dX12_anyTalk_150 1 rfl ?_
          refine z_iconst (v := 1) dX12_anyTalk_151 (by decide) ?_
          refine z_isub dX12_anyTalk_152 ?_
          refine z_iload_n dX12_anyTalk_153 2 rfl ?_
          refine z_isub dX12_anyTalk_154 ?_
          refine z_callSI dX12_anyTalk_155 (M_X12_powerOf _ _ _) bX12_powerOf lX12_451 rfl rfl (Nat.le_of_ble_eq_true rfl) (Nat.le_of_ble_eq_true rfl) (fun r4 h5 => ?_)
          refine z_gd (fun g6 => ?_)
          refine z_idiv dX12_anyTalk_158 g6 ?_
          refine z_iload dX12_anyTalk_159 3 rfl ?_
          refine z_gd (fun g7 => ?_)
          refine z_irem dX12_anyTalk_161 g7 ?_
          refine z_gd (fun g8 => ?_)
          refine z_iald kc_104 dX12_anyTalk_162 g8 ?_
          exact z_iret dX12_anyTalk_163 rfl
        · refine z_iconst (v := 0) dX12_anyTalk_138 (by decide) ?_
          refine z_goto (tgt := 163) dX12_anyTalk_139 (by decide) ?_
          exact z_iret dX12_anyTalk_163 rfl
set_option maxHeartbeats 4000000 in
set_option maxRecDepth 100000 in
theorem w_X12_anyTalk_59 : ∀ (f : Nat) (x1 : Int32) (x2 : Int32) (x3 : Int32) (x4 : Int32) (x5 : Int32) (h : AHp), WO tvI QX12_anyTalk 7 59 [(0, .ref 70), (1, .int x1), (2, .int x2), (3, .int x3), (4, .int x4), (5, .int x5)] [] h (m_X12_anyTalk_59 f x1 x2 x3 x4 x5 h) := by
  intro f
  induction f with
  | zero => intro x1 x2 x3 x4 x5 h; exact z_none
  | succ f ih =>
    intro x1 x2 x3 x4 x5 h
    rw [m_X12_anyTalk_59]
    refine z_iload dX12_anyTalk_59 5 rfl ?_
    refine z_bipush (v := 12) dX12_anyTalk_61 (by decide) ?_
    refine z_ic_ge (tgt := 96) dX12_anyTalk_63 (by decide) ?_ ?_
    · refine z_aload_n dX12_anyTalk_96 0 rfl ?_
      refine z_iload dX12_anyTalk_97 4 rfl ?_
      refine z_iload_n dX12_anyTalk_99 2 rfl ?_
      refine z_callVV dX12_anyTalk_100 (M_X12_laysAny _ _ _) bX12_laysAny lX12_456 kc_70 rfl rfl (Nat.le_of_ble_eq_true rfl) (Nat.le_of_ble_eq_true rfl) (fun r9 h10 => ?_)
      refine z_iload dX12_anyTalk_103 4 rfl ?_
      refine z_iload_n dX12_anyTalk_105 2 rfl ?_
      refine z_callSI dX12_anyTalk_106 (M_X12_powerOf _ _ _) bX12_powerOf lX12_451 rfl rfl (Nat.le_of_ble_eq_true rfl) (Nat.le_of_ble_eq_true rfl) (fun r11 h12 => ?_)
      refine z_istore (lv2 := [(5, .int r11), (0, .ref 70), (1, .int x1), (2, .int x2), (3, .int x3), (4, .int x4)]) dX12_anyTalk_109 (Nat.le_of_ble_eq_true rfl) rfl ?_
      refine z_iconst (v := 0) dX12_anyTalk_111 (by decide) ?_
      refine z_istore (lv2 := [(6, .int 0), (5, .int r11), (0, .ref 70), (1, .int x1), (2, .int x2), (3, .int x3), (4, .int x4)]) dX12_anyTalk_112 (Nat.le_of_ble_eq_true rfl) rfl ?_
      exact z_sub [2, 4, 5, 6, 1, 0] rfl (w_X12_anyTalk_114 FU _ _ _ _ _ _)
    · refine z_iload_n dX12_anyTalk_66 1 rfl ?_
      refine z_iload dX12_anyTalk_67 5 rfl ?_
      refine z_callSI dX12_anyTalk_69 (M_X12_has _ _ _) bX12_has lX12_187 rfl rfl (Nat.le_of_ble_eq_true rfl) (Nat.le_of_ble_eq_true rfl) (fun r13 h14 => ?_)
      refine z_if_ne (tgt := 78) dX12_anyTalk_72 (by decide) ?_ ?_
      · refine z_aload_n dX12_anyTalk_78 0 rfl ?_
        refine z_getR (j := 104) fX12_115 kc_70 rfl rfl rfl (by decide) dX12_anyTalk_79 ?_
        refine z_iload dX12_anyTalk_82 4 rfl ?_
        refine z_iload dX12_anyTalk_84 5 rfl ?_
        refine z_gd (fun g16 => ?_)
        refine z_iast kc_104 dX12_anyTalk_86 g16 ?_
        refine z_lh (fun h15 => ?_)
        refine z_iincL (lv2 := fun v17 => [(4, .int v17), (0, .ref 70), (1, .int x1), (2, .int x2), (3, .int x3), (5, .int x5)]) dX12_anyTalk_87 4 rfl rfl (Nat.le_of_ble_eq_true rfl) (fun _ => rfl) (fun v17 => ?_)
        refine z_iincL (lv2 := fun v18 => [(5, .int v18), (4, .int v17), (0, .ref 70), (1, .int x1), (2, .int x2), (3, .int x3)]) dX12_anyTalk_90 5 rfl rfl (Nat.le_of_ble_eq_true rfl) (fun _ => rfl) (fun v18 => ?_)
        refine z_goto (tgt := 59) dX12_anyTalk_93 (by decide) ?_
        exact z_sub [2, 3, 4, 5, 1, 0] rfl (ih _ _ _ _ _ _)
      · refine z_goto (tgt := 90) dX12_anyTalk_75 (by decide) ?_
        refine z_iincL (lv2 := fun v19 => [(5, .int v19), (0, .ref 70), (1, .int x1), (2, .int x2), (3, .int x3), (4, .int x4)]) dX12_anyTalk_90 5 rfl rfl (Nat.le_of_ble_eq_true rfl) (fun _ => rfl) (fun v19 => ?_)
        refine z_goto (tgt := 59) dX12_anyTalk_93 (by decide) ?_
        exact z_sub [1, 2, 3, 4, 5, 0] rfl (ih _ _ _ _ _ _)
set_option maxHeartbeats 4000000 in
set_option maxRecDepth 100000 in
theorem w_X12_anyTalk (x1 : Int32) (x2 : Int32) (x3 : Int32) (h : AHp) : WO tvI QX12_anyTalk 7 0 [(0, .ref 70), (1, .int x1), (2, .int x2), (3, .int x3)] [] h (m_X12_anyTalk x1 x2 x3 h) := by
  unfold m_X12_anyTalk
  refine z_iload_n dX12_anyTalk_0 1 rfl ?_
  refine z_i2l dX12_anyTalk_1 ?_
  refine z_lconst (v := 1) dX12_anyTalk_2 (by decide) ?_
  refine z_ldc2 dX12_anyTalk_3 kX12_454 ?_
  refine z_callSI dX12_anyTalk_6 (M_X12_lies _ _ _ _) bX12_lies lX12_181 rfl rfl (Nat.le_of_ble_eq_true rfl) (Nat.le_of_ble_eq_true rfl) (fun r20 h21 => ?_)
  refine z_if_eq (tgt := 50) dX12_anyTalk_9 (by decide) ?_ ?_
  · refine z_bipush (v := -3) dX12_anyTalk_50 (by decide) ?_
    exact z_iret dX12_anyTalk_52 rfl
  · refine z_iload_n dX12_anyTalk_12 1 rfl ?_
    refine z_callSI dX12_anyTalk_13 (M_X12_sizeOf _ _) bX12_sizeOf lX12_239 rfl rfl (Nat.le_of_ble_eq_true rfl) (Nat.le_of_ble_eq_true rfl) (fun r22 h23 => ?_)
    refine z_iconst (v := 4) dX12_anyTalk_16 (by decide) ?_
    refine z_ic_gt (tgt := 50) dX12_anyTalk_17 (by decide) ?_ ?_
    · refine z_bipush (v := -3) dX12_anyTalk_50 (by decide) ?_
      exact z_iret dX12_anyTalk_52 rfl
    · refine z_iload_n dX12_anyTalk_20 2 rfl ?_
      refine z_i2l dX12_anyTalk_21 ?_
      refine z_lconst (v := 1) dX12_anyTalk_22 (by decide) ?_
      refine z_ldc2 dX12_anyTalk_23 kX12_364 ?_
      refine z_callSI dX12_anyTalk_26 (M_X12_lies _ _ _ _) bX12_lies lX12_181 rfl rfl (Nat.le_of_ble_eq_true rfl) (Nat.le_of_ble_eq_true rfl) (fun r24 h25 => ?_)
      refine z_if_eq (tgt := 50) dX12_anyTalk_29 (by decide) ?_ ?_
      · refine z_bipush (v := -3) dX12_anyTalk_50 (by decide) ?_
        exact z_iret dX12_anyTalk_52 rfl
      · refine z_iload_n dX12_anyTalk_32 3 rfl ?_
        refine z_iconst (v := -1) dX12_anyTalk_33 (by decide) ?_
        refine z_ic_eq (tgt := 53) dX12_anyTalk_34 (by decide) ?_ ?_
        · refine z_iconst (v := 0) dX12_anyTalk_53 (by decide) ?_
          refine z_istore (lv2 := [(4, .int 0), (0, .ref 70), (1, .int x1), (2, .int x2), (3, .int x3)]) dX12_anyTalk_54 (Nat.le_of_ble_eq_true rfl) rfl ?_
          refine z_iconst (v := 0) dX12_anyTalk_56 (by decide) ?_
          refine z_istore (lv2 := [(5, .int 0), (4, .int 0), (0, .ref 70), (1, .int x1), (2, .int x2), (3, .int x3)]) dX12_anyTalk_57 (Nat.le_of_ble_eq_true rfl) rfl ?_
          exact z_sub [2, 3, 4, 5, 1, 0] rfl (w_X12_anyTalk_59 FU _ _ _ _ _ _)
        · refine z_iload_n dX12_anyTalk_37 3 rfl ?_
          refine z_i2l dX12_anyTalk_38 ?_
          refine z_lconst (v := 0) dX12_anyTalk_39 (by decide) ?_
          refine z_iload_n dX12_anyTalk_40 2 rfl ?_
          refine z_iconst (v := 1) dX12_anyTalk_41 (by decide) ?_
          refine z_isub dX12_anyTalk_42 ?_
          refine z_i2l dX12_anyTalk_43 ?_
          refine z_callSI dX12_anyTalk_44 (M_X12_lies _ _ _ _) bX12_lies lX12_181 rfl rfl (Nat.le_of_ble_eq_true rfl) (Nat.le_of_ble_eq_true rfl) (fun r26 h27 => ?_)
          refine z_if_ne (tgt := 53) dX12_anyTalk_47 (by decide) ?_ ?_
          · refine z_iconst (v := 0) dX12_anyTalk_53 (by decide) ?_
            refine z_istore (lv2 := [(4, .int 0), (0, .ref 70), (1, .int x1), (2, .int x2), (3, .int x3)]) dX12_anyTalk_54 (Nat.le_of_ble_eq_true rfl) rfl ?_
            refine z_iconst (v := 0) dX12_anyTalk_56 (by decide) ?_
            refine z_istore (lv2 := [(5, .int 0), (4, .int 0), (0, .ref 70), (1, .int x1), (2, .int x2), (3, .int x3)]) dX12_anyTalk_57 (Nat.le_of_ble_eq_true rfl) rfl ?_
            exact z_sub [2, 3, 4, 5, 1, 0] rfl (w_X12_anyTalk_59 FU _ _ _ _ _ _)
          · refine z_bipush (v := -3) dX12_anyTalk_50 (by decide) ?_
            exact z_iret dX12_anyTalk_52 rfl
theorem M_X12_anyTalk (x1 : Int32) (x2 : Int32) (x3 : Int32) (h : AHp) : MI QX12_anyTalk 7 [.ref 70, .int x1, .int x2, .int x3] h (m_X12_anyTalk x1 x2 x3 h) := MI.of (by decide) rfl rfl (Nat.le_of_ble_eq_true rfl) (w_X12_anyTalk x1 x2 x3 h)
set_option maxHeartbeats 4000000 in
set_option maxRecDepth 100000 in
theorem w_X12_betterOf (x0 : Int32) (x1 : Int32) (h : AHp) : WO tvI QX12_betterOf 0 0 [(0, .int x0), (1, .int x1)] [] h (m_X12_betterOf x0 x1 h) := by
  unfold m_X12_betterOf
  refine z_iload_n dX12_betterOf_0 0 rfl ?_
  refine z_iload_n dX12_betterOf_1 1 rfl ?_
  refine z_ic_le (tgt := 9) dX12_betterOf_2 (by decide) ?_ ?_
  · refine z_iload_n dX12_betterOf_9 1 rfl ?_
    exact z_iret dX12_betterOf_10 rfl
  · refine z_iload_n dX12_betterOf_5 0 rfl ?_
    refine z_goto (tgt := 10) dX12_betterOf_6 (by decide) ?_
    exact z_iret dX12_betterOf_10 rfl
theorem M_X12_betterOf (x0 : Int32) (x1 : Int32) (h : AHp) : MI QX12_betterOf 0 [.int x0, .int x1] h (m_X12_betterOf x0 x1 h) := MI.of (by decide) rfl rfl (Nat.le_of_ble_eq_true rfl) (w_X12_betterOf x0 x1 h)
set_option maxHeartbeats 4000000 in
set_option maxRecDepth 100000 in
theorem w_X12_comesOut_52 (k19 : Int32 → Int32 → Int32 → Int32 → Int32 → Int32 → AHp → Option (Int32 × AHp)) (hk19 : ∀ (x1 : Int32) (x2 : Int32) (x3 : Int32) (x4 : Int32) (x5 : Int32) (x6 : Int32) (h : AHp), WO tvI QX12_comesOut 6 19 [(0, .ref 70), (1, .int x1), (2, .int x2), (3, .int x3), (4, .int x4), (5, .int x5), (6, .int x6)] [] h (k19 x1 x2 x3 x4 x5 x6 h)) : ∀ (f : Nat) (x1 : Int32) (x2 : Int32) (x3 : Int32) (x4 : Int32) (x5 : Int32) (x6 : Int32) (x7 : Int32) (x8 : Int32) (h : AHp), WO tvI QX12_comesOut 6 52 [(0, .ref 70), (1, .int x1), (2, .int x2), (3, .int x3), (4, .int x4), (5, .int x5), (6, .int x6), (7, .int x7), (8, .int x8)] [] h (m_X12_comesOut_52 k19 f x1 x2 x3 x4 x5 x6 x7 x8 h) := by
  intro f
  induction f with
  | zero => intro x1 x2 x3 x4 x5 x6 x7 x8 h; exact z_none
  | succ f ih =>
    intro x1 x2 x3 x4 x5 x6 x7 x8 h
    rw [m_X12_comesOut_52]
    refine z_iload dX12_comesOut_52 8 rfl ?_
    refine z_bipush (v := 24) dX12_comesOut_54 (by decide) ?_
    refine z_ic_gt (tgt := 102) dX12_comesOut_56 (by decide) ?_ ?_
    · refine z_iincL (lv2 := fun v1 => [(6, .int v1), (0, .ref 70), (1, .int x1), (2, .int x2), (3, .int x3), (4, .int x4), (5, .int x5), (7, .int x7), (8, .int x8)]) dX12_comesOut_102 6 rfl rfl (Nat.le_of_ble_eq_true rfl) (fun _ => rfl) (fun v1 => ?_)
      refine z_goto (tgt := 19) dX12_comesOut_105 (by decide) ?_
      exact z_sub [1, 2, 3, 4, 5, 6, 0] rfl (hk19 _ _ _ _ _ _ _)
    · refine z_iload dX12_comesOut_59 7 rfl ?_
      refine z_iload dX12_comesOut_61 8 rfl ?_
      refine z_callSI dX12_comesOut_63 (M_X12_has _ _ _) bX12_has lX12_187 rfl rfl (Nat.le_of_ble_eq_true rfl) (Nat.le_of_ble_eq_true rfl) (fun r2 h3 => ?_)
      refine z_if_eq (tgt := 96) dX12_comesOut_66 (by decide) ?_ ?_
      · refine z_iincL (lv2 := fun v4 => [(8, .int v4), (0, .ref 70), (1, .int x1), (2, .int x2), (3, .int x3), (4, .int x4), (5, .int x5), (6, .int x6), (7, .int x7)]) dX12_comesOut_96 8 rfl rfl (Nat.le_of_ble_eq_true rfl) (fun _ => rfl) (fun v4 => ?_)
        refine z_goto (tgt := 52) dX12_comesOut_99 (by decide) ?_
        exact z_sub [1, 2, 3, 4, 5, 6, 7, 8, 0] rfl (ih _ _ _ _ _ _ _ _ _)
      · refine z_iload dX12_comesOut_69 5 rfl ?_
        refine z_aload_n dX12_comesOut_71 0 rfl ?_
        refine z_getR (j := 108) fX12_127 kc_70 rfl rfl rfl (by decide) dX12_comesOut_72 ?_
        refine z_sipush (v := 625) dX12_comesOut_75 (by decide) ?_
        refine z_iload_n dX12_comesOut_78 1 rfl ?_
        refine z_iconst (v := 1) dX12_comesOut_79 (by decide) ?_
        refine z_iadd dX12_comesOut_80 ?_
        refine z_imul dX12_comesOut_81 ?_
        refine z_iload_n dX12_comesOut_82 2 rfl ?_
        refine z_iload dX12_comesOut_83 8 rfl ?_
        refine z_callSI dX12_comesOut_85 (M_X12_pairBehind _ _ _) bX12_pairBehind lX12_419 rfl rfl (Nat.le_of_ble_eq_true rfl) (Nat.le_of_ble_eq_true rfl) (fun r5 h6 => ?_)
        refine z_iadd dX12_comesOut_88 ?_
        refine z_gd (fun g7 => ?_)
        refine z_iald kc_108 dX12_comesOut_89 g7 ?_
        refine z_ineg dX12_comesOut_90 ?_
        refine z_callSI dX12_comesOut_91 (M_X12_betterOf _ _ _) bX12_betterOf lX12_462 rfl rfl (Nat.le_of_ble_eq_true rfl) (Nat.le_of_ble_eq_true rfl) (fun r8 h9 => ?_)
        refine z_istore (lv2 := [(5, .int r8), (0, .ref 70), (1, .int x1), (2, .int x2), (3, .int x3), (4, .int x4), (6, .int x6), (7, .int x7), (8, .int x8)]) dX12_comesOut_94 (Nat.le_of_ble_eq_true rfl) rfl ?_
        refine z_iincL (lv2 := fun v10 => [(8, .int v10), (5, .int r8), (0, .ref 70), (1, .int x1), (2, .int x2), (3, .int x3), (4, .int x4), (6, .int x6), (7, .int x7)]) dX12_comesOut_96 8 rfl rfl (Nat.le_of_ble_eq_true rfl) (fun _ => rfl) (fun v10 => ?_)
        refine z_goto (tgt := 52) dX12_comesOut_99 (by decide) ?_
        exact z_sub [2, 3, 4, 5, 6, 1, 7, 8, 0] rfl (ih _ _ _ _ _ _ _ _ _)
set_option maxHeartbeats 4000000 in
set_option maxRecDepth 100000 in
theorem w_X12_comesOut_19 : ∀ (f : Nat) (x1 : Int32) (x2 : Int32) (x3 : Int32) (x4 : Int32) (x5 : Int32) (x6 : Int32) (h : AHp), WO tvI QX12_comesOut 6 19 [(0, .ref 70), (1, .int x1), (2, .int x2), (3, .int x3), (4, .int x4), (5, .int x5), (6, .int x6)] [] h (m_X12_comesOut_19 f x1 x2 x3 x4 x5 x6 h) := by
  intro f
  induction f with
  | zero => intro x1 x2 x3 x4 x5 x6 h; exact z_none
  | succ f ih =>
    intro x1 x2 x3 x4 x5 x6 h
    rw [m_X12_comesOut_19]
    refine z_iload dX12_comesOut_19 6 rfl ?_
    refine z_bipush (v := 12) dX12_comesOut_21 (by decide) ?_
    refine z_ic_ge (tgt := 108) dX12_comesOut_23 (by decide) ?_ ?_
    · refine z_iload dX12_comesOut_108 5 rfl ?_
      exact z_iret dX12_comesOut_110 rfl
    · refine z_iload dX12_comesOut_26 4 rfl ?_
      refine z_iload dX12_comesOut_28 6 rfl ?_
      refine z_callSI dX12_comesOut_30 (M_X12_has _ _ _) bX12_has lX12_187 rfl rfl (Nat.le_of_ble_eq_true rfl) (Nat.le_of_ble_eq_true rfl) (fun r11 h12 => ?_)
      refine z_if_ne (tgt := 39) dX12_comesOut_33 (by decide) ?_ ?_
      · refine z_aload_n dX12_comesOut_39 0 rfl ?_
        refine z_iconst (v := 1) dX12_comesOut_40 (by decide) ?_
        refine z_iload_n dX12_comesOut_41 3 rfl ?_
        refine z_iload dX12_comesOut_42 6 rfl ?_
        refine z_callVI dX12_comesOut_44 (M_X12_waysBy _ _ _ _) bX12_waysBy lX12_392 kc_70 rfl rfl (Nat.le_of_ble_eq_true rfl) (Nat.le_of_ble_eq_true rfl) (fun r13 h14 => ?_)
        refine z_istore (lv2 := [(7, .int r13), (0, .ref 70), (1, .int x1), (2, .int x2), (3, .int x3), (4, .int x4), (5, .int x5), (6, .int x6)]) dX12_comesOut_47 (Nat.le_of_ble_eq_true rfl) rfl ?_
        refine z_iconst (v := 1) dX12_comesOut_49 (by decide) ?_
        refine z_istore (lv2 := [(8, .int 1), (7, .int r13), (0, .ref 70), (1, .int x1), (2, .int x2), (3, .int x3), (4, .int x4), (5, .int x5), (6, .int x6)]) dX12_comesOut_50 (Nat.le_of_ble_eq_true rfl) rfl ?_
        exact z_sub [2, 3, 4, 5, 6, 7, 8, 1, 0] rfl (w_X12_comesOut_52 _ ih FU _ _ _ _ _ _ _ _ _)
      · refine z_goto (tgt := 102) dX12_comesOut_36 (by decide) ?_
        refine z_iincL (lv2 := fun v15 => [(6, .int v15), (0, .ref 70), (1, .int x1), (2, .int x2), (3, .int x3), (4, .int x4), (5, .int x5)]) dX12_comesOut_102 6 rfl rfl (Nat.le_of_ble_eq_true rfl) (fun _ => rfl) (fun v15 => ?_)
        refine z_goto (tgt := 19) dX12_comesOut_105 (by decide) ?_
        exact z_sub [1, 2, 3, 4, 5, 6, 0] rfl (ih _ _ _ _ _ _ _)
set_option maxHeartbeats 4000000 in
set_option maxRecDepth 100000 in
theorem w_X12_comesOut (x1 : Int32) (x2 : Int32) (x3 : Int32) (x4 : Int32) (h : AHp) : WO tvI QX12_comesOut 6 0 [(0, .ref 70), (1, .int x1), (2, .int x2), (3, .int x3), (4, .int x4)] [] h (m_X12_comesOut x1 x2 x3 x4 h) := by
  unfold m_X12_comesOut
  refine z_aload_n dX12_comesOut_0 0 rfl ?_
  refine z_iload_n dX12_comesOut_1 1 rfl ?_
  refine z_iload_n dX12_comesOut_2 2 rfl ?_
  refine z_bipush (v := 25) dX12_comesOut_3 (by decide) ?_
  refine z_idiv dX12_comesOut_5 (by decide) ?_
  refine z_iload_n dX12_comesOut_6 2 rfl ?_
  refine z_bipush (v := 25) dX12_comesOut_7 (by decide) ?_
  refine z_irem dX12_comesOut_9 (by decide) ?_
  refine z_callVV dX12_comesOut_10 (M_X12_standsBehind _ _ _ _) bX12_standsBehind lX12_413 kc_70 rfl rfl (Nat.le_of_ble_eq_true rfl) (Nat.le_of_ble_eq_true rfl) (fun r16 h17 => ?_)
  refine z_iconst (v := -1) dX12_comesOut_13 (by decide) ?_
  refine z_istore (lv2 := [(5, .int (-1)), (0, .ref 70), (1, .int x1), (2, .int x2), (3, .int x3), (4, .int x4)]) dX12_comesOut_14 (Nat.le_of_ble_eq_true rfl) rfl ?_
  refine z_iconst (v := 0) dX12_comesOut_16 (by decide) ?_
  refine z_istore (lv2 := [(6, .int 0), (5, .int (-1)), (0, .ref 70), (1, .int x1), (2, .int x2), (3, .int x3), (4, .int x4)]) dX12_comesOut_17 (Nat.le_of_ble_eq_true rfl) rfl ?_
  exact z_sub [2, 3, 4, 5, 6, 1, 0] rfl (w_X12_comesOut_19 FU _ _ _ _ _ _ _)
theorem M_X12_comesOut (x1 : Int32) (x2 : Int32) (x3 : Int32) (x4 : Int32) (h : AHp) : MI QX12_comesOut 6 [.ref 70, .int x1, .int x2, .int x3, .int x4] h (m_X12_comesOut x1 x2 x3 x4 h) := MI.of (by decide) rfl rfl (Nat.le_of_ble_eq_true rfl) (w_X12_comesOut x1 x2 x3 x4 h)
set_option maxHeartbeats 4000000 in
set_option maxRecDepth 100000 in
theorem w_X12_canBe (x1 : Int32) (x2 : Int32) (h : AHp) : WO tvI QX12_canBe 2 0 [(0, .ref 70), (1, .int x1), (2, .int x2)] [] h (m_X12_canBe x1 x2 h) := by
  unfold m_X12_canBe
  refine z_iload_n dX12_canBe_0 1 rfl ?_
  refine z_iconst (v := 1) dX12_canBe_1 (by decide) ?_
  refine z_ic_le (tgt := 27) dX12_canBe_2 (by decide) ?_ ?_
  · refine z_iload_n dX12_canBe_27 1 rfl ?_
    refine z_iconst (v := 1) dX12_canBe_28 (by decide) ?_
    refine z_ic_ne (tgt := 57) dX12_canBe_29 (by decide) ?_ ?_
    · refine z_iload_n dX12_canBe_57 2 rfl ?_
      refine z_aload_n dX12_canBe_58 0 rfl ?_
      refine z_callVI dX12_canBe_59 (M_X12_startPair _) bX12_startPair lX12_410 kc_70 rfl rfl (Nat.le_of_ble_eq_true rfl) (Nat.le_of_ble_eq_true rfl) (fun r1 h2 => ?_)
      refine z_ic_ne (tgt := 69) dX12_canBe_62 (by decide) ?_ ?_
      · refine z_iconst (v := 0) dX12_canBe_69 (by decide) ?_
        exact z_zret dX12_canBe_70 rfl (Or.inl rfl)
      · refine z_iconst (v := 1) dX12_canBe_65 (by decide) ?_
        refine z_goto (tgt := 70) dX12_canBe_66 (by decide) ?_
        exact z_zret dX12_canBe_70 rfl (Or.inr rfl)
    · refine z_iload_n dX12_canBe_32 2 rfl ?_
      refine z_bipush (v := 25) dX12_canBe_33 (by decide) ?_
      refine z_irem dX12_canBe_35 (by decide) ?_
      refine z_aload_n dX12_canBe_36 0 rfl ?_
      refine z_aload_n dX12_canBe_37 0 rfl ?_
      refine z_getI fX12_386 kc_70 rfl dX12_canBe_38 ?_
      refine z_iconst (v := 1) dX12_canBe_41 (by decide) ?_
      refine z_isub dX12_canBe_42 ?_
      refine z_callVI dX12_canBe_43 (M_X12_lengthAt _ _) bX12_lengthAt lX12_366 kc_70 rfl rfl (Nat.le_of_ble_eq_true rfl) (Nat.le_of_ble_eq_true rfl) (fun r3 h4 => ?_)
      refine z_ic_ne (tgt := 53) dX12_canBe_46 (by decide) ?_ ?_
      · refine z_iconst (v := 0) dX12_canBe_53 (by decide) ?_
        refine z_goto (tgt := 70) dX12_canBe_54 (by decide) ?_
        exact z_zret dX12_canBe_70 rfl (Or.inl rfl)
      · refine z_iconst (v := 1) dX12_canBe_49 (by decide) ?_
        refine z_goto (tgt := 70) dX12_canBe_50 (by decide) ?_
        exact z_zret dX12_canBe_70 rfl (Or.inr rfl)
  · refine z_iload_n dX12_canBe_5 2 rfl ?_
    refine z_bipush (v := 25) dX12_canBe_6 (by decide) ?_
    refine z_idiv dX12_canBe_8 (by decide) ?_
    refine z_if_le (tgt := 23) dX12_canBe_9 (by decide) ?_ ?_
    · refine z_iconst (v := 0) dX12_canBe_23 (by decide) ?_
      refine z_goto (tgt := 70) dX12_canBe_24 (by decide) ?_
      exact z_zret dX12_canBe_70 rfl (Or.inl rfl)
    · refine z_iload_n dX12_canBe_12 2 rfl ?_
      refine z_bipush (v := 25) dX12_canBe_13 (by decide) ?_
      refine z_irem dX12_canBe_15 (by decide) ?_
      refine z_if_le (tgt := 23) dX12_canBe_16 (by decide) ?_ ?_
      · refine z_iconst (v := 0) dX12_canBe_23 (by decide) ?_
        refine z_goto (tgt := 70) dX12_canBe_24 (by decide) ?_
        exact z_zret dX12_canBe_70 rfl (Or.inl rfl)
      · refine z_iconst (v := 1) dX12_canBe_19 (by decide) ?_
        refine z_goto (tgt := 70) dX12_canBe_20 (by decide) ?_
        exact z_zret dX12_canBe_70 rfl (Or.inr rfl)
theorem M_X12_canBe (x1 : Int32) (x2 : Int32) (h : AHp) : MI QX12_canBe 2 [.ref 70, .int x1, .int x2] h (m_X12_canBe x1 x2 h) := MI.of (by decide) rfl rfl (Nat.le_of_ble_eq_true rfl) (w_X12_canBe x1 x2 h)
set_option maxHeartbeats 4000000 in
set_option maxRecDepth 100000 in
theorem w_X12_firstFor_56 (k24 : Int32 → Int32 → Int32 → Int32 → Int32 → AHp → Option (Int32 × AHp)) (hk24 : ∀ (x1 : Int32) (x2 : Int32) (x3 : Int32) (x4 : Int32) (x5 : Int32) (h : AHp), WO tvI QX12_firstFor 6 24 [(0, .ref 70), (1, .int x1), (2, .int x2), (3, .int x3), (4, .int x4), (5, .int x5)] [] h (k24 x1 x2 x3 x4 x5 h)) : ∀ (f : Nat) (x1 : Int32) (x2 : Int32) (x3 : Int32) (x4 : Int32) (x5 : Int32) (x6 : Int32) (x7 : Int32) (h : AHp), WO tvI QX12_firstFor 6 56 [(0, .ref 70), (1, .int x1), (2, .int x2), (3, .int x3), (4, .int x4), (5, .int x5), (6, .int x6), (7, .int x7)] [] h (m_X12_firstFor_56 k24 f x1 x2 x3 x4 x5 x6 x7 h) := by
  intro f
  induction f with
  | zero => intro x1 x2 x3 x4 x5 x6 x7 h; exact z_none
  | succ f ih =>
    intro x1 x2 x3 x4 x5 x6 x7 h
    rw [m_X12_firstFor_56]
    refine z_iload dX12_firstFor_56 7 rfl ?_
    refine z_bipush (v := 24) dX12_firstFor_58 (by decide) ?_
    refine z_ic_gt (tgt := 109) dX12_firstFor_60 (by decide) ?_ ?_
    · refine z_iincL (lv2 := fun v1 => [(5, .int v1), (0, .ref 70), (1, .int x1), (2, .int x2), (3, .int x3), (4, .int x4), (6, .int x6), (7, .int x7)]) dX12_firstFor_109 5 rfl rfl (Nat.le_of_ble_eq_true rfl) (fun _ => rfl) (fun v1 => ?_)
      refine z_goto (tgt := 24) dX12_firstFor_112 (by decide) ?_
      exact z_sub [1, 2, 3, 4, 5, 0] rfl (hk24 _ _ _ _ _ _)
    · refine z_iload dX12_firstFor_63 6 rfl ?_
      refine z_iload dX12_firstFor_65 7 rfl ?_
      refine z_callSI dX12_firstFor_67 (M_X12_has _ _ _) bX12_has lX12_187 rfl rfl (Nat.le_of_ble_eq_true rfl) (Nat.le_of_ble_eq_true rfl) (fun r2 h3 => ?_)
      refine z_if_eq (tgt := 103) dX12_firstFor_70 (by decide) ?_ ?_
      · refine z_iincL (lv2 := fun v4 => [(7, .int v4), (0, .ref 70), (1, .int x1), (2, .int x2), (3, .int x3), (4, .int x4), (5, .int x5), (6, .int x6)]) dX12_firstFor_103 7 rfl rfl (Nat.le_of_ble_eq_true rfl) (fun _ => rfl) (fun v4 => ?_)
        refine z_goto (tgt := 56) dX12_firstFor_106 (by decide) ?_
        exact z_sub [1, 2, 3, 4, 5, 6, 7, 0] rfl (ih _ _ _ _ _ _ _ _)
      · refine z_aload_n dX12_firstFor_73 0 rfl ?_
        refine z_getR (j := 108) fX12_127 kc_70 rfl rfl rfl (by decide) dX12_firstFor_74 ?_
        refine z_sipush (v := 625) dX12_firstFor_77 (by decide) ?_
        refine z_iload dX12_firstFor_80 4 rfl ?_
        refine z_iload dX12_firstFor_82 7 rfl ?_
        refine z_callSI dX12_firstFor_84 (M_X12_pairBehind _ _ _) bX12_pairBehind lX12_419 rfl rfl (Nat.le_of_ble_eq_true rfl) (Nat.le_of_ble_eq_true rfl) (fun r5 h6 => ?_)
        refine z_iadd dX12_firstFor_87 ?_
        refine z_gd (fun g7 => ?_)
        refine z_iald kc_108 dX12_firstFor_88 g7 ?_
        refine z_ineg dX12_firstFor_89 ?_
        refine z_iload_n dX12_firstFor_90 3 rfl ?_
        refine z_ic_ne (tgt := 103) dX12_firstFor_91 (by decide) ?_ ?_
        · refine z_iincL (lv2 := fun v8 => [(7, .int v8), (0, .ref 70), (1, .int x1), (2, .int x2), (3, .int x3), (4, .int x4), (5, .int x5), (6, .int x6)]) dX12_firstFor_103 7 rfl rfl (Nat.le_of_ble_eq_true rfl) (fun _ => rfl) (fun v8 => ?_)
          refine z_goto (tgt := 56) dX12_firstFor_106 (by decide) ?_
          exact z_sub [1, 2, 3, 4, 5, 6, 7, 0] rfl (ih _ _ _ _ _ _ _ _)
        · refine z_bipush (v := 100) dX12_firstFor_94 (by decide) ?_
          refine z_iload dX12_firstFor_96 5 rfl ?_
          refine z_imul dX12_firstFor_98 ?_
          refine z_iload dX12_firstFor_99 7 rfl ?_
          refine z_iadd dX12_firstFor_101 ?_
          exact z_iret dX12_firstFor_102 rfl
set_option maxHeartbeats 4000000 in
set_option maxRecDepth 100000 in
theorem w_X12_firstFor_24 : ∀ (f : Nat) (x1 : Int32) (x2 : Int32) (x3 : Int32) (x4 : Int32) (x5 : Int32) (h : AHp), WO tvI QX12_firstFor 6 24 [(0, .ref 70), (1, .int x1), (2, .int x2), (3, .int x3), (4, .int x4), (5, .int x5)] [] h (m_X12_firstFor_24 f x1 x2 x3 x4 x5 h) := by
  intro f
  induction f with
  | zero => intro x1 x2 x3 x4 x5 h; exact z_none
  | succ f ih =>
    intro x1 x2 x3 x4 x5 h
    rw [m_X12_firstFor_24]
    refine z_iload dX12_firstFor_24 5 rfl ?_
    refine z_bipush (v := 12) dX12_firstFor_26 (by decide) ?_
    refine z_ic_ge (tgt := 115) dX12_firstFor_28 (by decide) ?_ ?_
    · refine z_bipush (v := -2) dX12_firstFor_115 (by decide) ?_
      exact z_iret dX12_firstFor_117 rfl
    · refine z_iload_n dX12_firstFor_31 2 rfl ?_
      refine z_iload dX12_firstFor_32 5 rfl ?_
      refine z_callSI dX12_firstFor_34 (M_X12_has _ _ _) bX12_has lX12_187 rfl rfl (Nat.le_of_ble_eq_true rfl) (Nat.le_of_ble_eq_true rfl) (fun r9 h10 => ?_)
      refine z_if_ne (tgt := 43) dX12_firstFor_37 (by decide) ?_ ?_
      · refine z_aload_n dX12_firstFor_43 0 rfl ?_
        refine z_iconst (v := 1) dX12_firstFor_44 (by decide) ?_
        refine z_iload_n dX12_firstFor_45 1 rfl ?_
        refine z_iload dX12_firstFor_46 5 rfl ?_
        refine z_callVI dX12_firstFor_48 (M_X12_waysBy _ _ _ _) bX12_waysBy lX12_392 kc_70 rfl rfl (Nat.le_of_ble_eq_true rfl) (Nat.le_of_ble_eq_true rfl) (fun r11 h12 => ?_)
        refine z_istore (lv2 := [(6, .int r11), (0, .ref 70), (1, .int x1), (2, .int x2), (3, .int x3), (4, .int x4), (5, .int x5)]) dX12_firstFor_51 (Nat.le_of_ble_eq_true rfl) rfl ?_
        refine z_iconst (v := 1) dX12_firstFor_53 (by decide) ?_
        refine z_istore (lv2 := [(7, .int 1), (6, .int r11), (0, .ref 70), (1, .int x1), (2, .int x2), (3, .int x3), (4, .int x4), (5, .int x5)]) dX12_firstFor_54 (Nat.le_of_ble_eq_true rfl) rfl ?_
        exact z_sub [2, 3, 4, 5, 6, 7, 1, 0] rfl (w_X12_firstFor_56 _ ih FU _ _ _ _ _ _ _ _)
      · refine z_goto (tgt := 109) dX12_firstFor_40 (by decide) ?_
        refine z_iincL (lv2 := fun v13 => [(5, .int v13), (0, .ref 70), (1, .int x1), (2, .int x2), (3, .int x3), (4, .int x4)]) dX12_firstFor_109 5 rfl rfl (Nat.le_of_ble_eq_true rfl) (fun _ => rfl) (fun v13 => ?_)
        refine z_goto (tgt := 24) dX12_firstFor_112 (by decide) ?_
        exact z_sub [1, 2, 3, 4, 5, 0] rfl (ih _ _ _ _ _ _)
set_option maxHeartbeats 4000000 in
set_option maxRecDepth 100000 in
theorem w_X12_firstFor (x1 : Int32) (x2 : Int32) (x3 : Int32) (h : AHp) : WO tvI QX12_firstFor 6 0 [(0, .ref 70), (1, .int x1), (2, .int x2), (3, .int x3)] [] h (m_X12_firstFor x1 x2 x3 h) := by
  unfold m_X12_firstFor
  refine z_aload_n dX12_firstFor_0 0 rfl ?_
  refine z_callVI dX12_firstFor_1 (M_X12_startPair _) bX12_startPair lX12_410 kc_70 rfl rfl (Nat.le_of_ble_eq_true rfl) (Nat.le_of_ble_eq_true rfl) (fun r14 h15 => ?_)
  refine z_istore (lv2 := [(4, .int r14), (0, .ref 70), (1, .int x1), (2, .int x2), (3, .int x3)]) dX12_firstFor_4 (Nat.le_of_ble_eq_true rfl) rfl ?_
  refine z_aload_n dX12_firstFor_6 1 rfl ?_
  refine z_iconst (v := 0) dX12_firstFor_7 (by decide) ?_
  refine z_iload dX12_firstFor_8 0 rfl ?_
  refine z_bipush (v := 25) dX12_firstFor_10 (by decide) ?_
  refine z_idiv dX12_firstFor_12 (by decide) ?_
  refine z_iload dX12_firstFor_13 0 rfl ?_
  refine z_bipush (v := 25) dX12_firstFor_15 (by decide) ?_
  refine z_irem dX12_firstFor_17 (by decide) ?_
  refine z_callVV dX12_firstFor_18 (M_X12_standsBehind _ _ _ _) bX12_standsBehind lX12_413 kc_70 rfl rfl (Nat.le_of_ble_eq_true rfl) (Nat.le_of_ble_eq_true rfl) (fun r16 h17 => ?_)
  refine z_iconst (v := 0) dX12_firstFor_21 (by decide) ?_
  refine z_istore (lv2 := [(5, .int 0), (4, .int r14), (0, .ref 70), (1, .int x1), (2, .int x2), (3, .int x3)]) dX12_firstFor_22 (Nat.le_of_ble_eq_true rfl) rfl ?_
  exact z_sub [2, 3, 4, 5, 1, 0] rfl (w_X12_firstFor_24 FU _ _ _ _ _ _)
theorem M_X12_firstFor (x1 : Int32) (x2 : Int32) (x3 : Int32) (h : AHp) : MI QX12_firstFor 6 [.ref 70, .int x1, .int x2, .int x3] h (m_X12_firstFor x1 x2 x3 h) := MI.of (by decide) rfl rfl (Nat.le_of_ble_eq_true rfl) (w_X12_firstFor x1 x2 x3 h)
set_option maxHeartbeats 4000000 in
set_option maxRecDepth 100000 in
theorem w_X12_silenced_154 (k146 : Int32 → Int32 → Int32 → Int32 → Int32 → AHp → Option (Int32 × AHp)) (hk146 : ∀ (x1 : Int32) (x2 : Int32) (x4 : Int32) (x6 : Int32) (x7 : Int32) (h : AHp), WO tvI QX12_silenced 7 146 [(0, .ref 70), (1, .int x1), (2, .int x2), (4, .int x4), (6, .int x6), (7, .int x7)] [] h (k146 x1 x2 x4 x6 x7 h)) : ∀ (f : Nat) (x1 : Int32) (x2 : Int32) (x4 : Int32) (x6 : Int32) (x7 : Int32) (x8 : Int32) (h : AHp), WO tvI QX12_silenced 7 154 [(0, .ref 70), (1, .int x1), (2, .int x2), (4, .int x4), (6, .int x6), (7, .int x7), (8, .int x8)] [] h (m_X12_silenced_154 k146 f x1 x2 x4 x6 x7 x8 h) := by
  intro f
  induction f with
  | zero => intro x1 x2 x4 x6 x7 x8 h; exact z_none
  | succ f ih =>
    intro x1 x2 x4 x6 x7 x8 h
    rw [m_X12_silenced_154]
    refine z_iload dX12_silenced_154 6 rfl ?_
    refine z_sipush (v := 625) dX12_silenced_156 (by decide) ?_
    refine z_ic_ge (tgt := 221) dX12_silenced_159 (by decide) ?_ ?_
    · refine z_iincL (lv2 := fun v1 => [(7, .int v1), (0, .ref 70), (1, .int x1), (2, .int x2), (4, .int x4), (6, .int x6), (8, .int x8)]) dX12_silenced_221 5 rfl rfl (Nat.le_of_ble_eq_true rfl) (fun _ => rfl) (fun v1 => ?_)
      refine z_goto (tgt := 146) dX12_silenced_224 (by decide) ?_
      exact z_sub [1, 2, 3, 4, 5, 0] rfl (hk146 _ _ _ _ _ _)
    · refine z_aload_n dX12_silenced_162 0 rfl ?_
      refine z_iload dX12_silenced_163 5 rfl ?_
      refine z_iload dX12_silenced_165 6 rfl ?_
      refine z_callVI dX12_silenced_167 (M_X12_canBe _ _ _) bX12_canBe lX12_467 kc_70 rfl rfl (Nat.le_of_ble_eq_true rfl) (Nat.le_of_ble_eq_true rfl) (fun r2 h3 => ?_)
      refine z_if_eq (tgt := 215) dX12_silenced_170 (by decide) ?_ ?_
      · refine z_iincL (lv2 := fun v4 => [(8, .int v4), (0, .ref 70), (1, .int x1), (2, .int x2), (4, .int x4), (6, .int x6), (7, .int x7)]) dX12_silenced_215 6 rfl rfl (Nat.le_of_ble_eq_true rfl) (fun _ => rfl) (fun v4 => ?_)
        refine z_goto (tgt := 154) dX12_silenced_218 (by decide) ?_
        exact z_sub [1, 2, 3, 4, 5, 6, 0] rfl (ih _ _ _ _ _ _ _)
      · refine z_aload_n dX12_silenced_173 0 rfl ?_
        refine z_getR (j := 108) fX12_127 kc_70 rfl rfl rfl (by decide) dX12_silenced_174 ?_
        refine z_sipush (v := 625) dX12_silenced_177 (by decide) ?_
        refine z_iload dX12_silenced_180 5 rfl ?_
        refine z_imul dX12_silenced_182 ?_
        refine z_iload dX12_silenced_183 6 rfl ?_
        refine z_iadd dX12_silenced_185 ?_
        refine z_aload_n dX12_silenced_186 0 rfl ?_
        refine z_iload dX12_silenced_187 5 rfl ?_
        refine z_iload dX12_silenced_189 6 rfl ?_
        refine z_aload_n dX12_silenced_191 0 rfl ?_
        refine z_getR (j := 97) fX12_94 kc_70 rfl rfl rfl (by decide) dX12_silenced_192 ?_
        refine z_iload dX12_silenced_195 5 rfl ?_
        refine z_gd (fun g5 => ?_)
        refine z_iald kc_97 dX12_silenced_197 g5 ?_
        refine z_iload dX12_silenced_198 5 rfl ?_
        refine z_iconst (v := 2) dX12_silenced_200 (by decide) ?_
        refine z_irem dX12_silenced_201 (by decide) ?_
        refine z_if_ne (tgt := 209) dX12_silenced_202 (by decide) ?_ ?_
        · refine z_iload dX12_silenced_209 3 rfl ?_
          refine z_callVI dX12_silenced_211 (M_X12_comesOut _ _ _ _ _) bX12_comesOut lX12_470 kc_70 rfl rfl (Nat.le_of_ble_eq_true rfl) (Nat.le_of_ble_eq_true rfl) (fun r6 h7 => ?_)
          refine z_gd (fun g9 => ?_)
          refine z_iast kc_108 dX12_silenced_214 g9 ?_
          refine z_lh (fun h8 => ?_)
          refine z_iincL (lv2 := fun v10 => [(8, .int v10), (0, .ref 70), (1, .int x1), (2, .int x2), (4, .int x4), (6, .int x6), (7, .int x7)]) dX12_silenced_215 6 rfl rfl (Nat.le_of_ble_eq_true rfl) (fun _ => rfl) (fun v10 => ?_)
          refine z_goto (tgt := 154) dX12_silenced_218 (by decide) ?_
          exact z_sub [1, 2, 3, 4, 5, 6, 0] rfl (ih _ _ _ _ _ _ _)
        · refine z_iload_n dX12_silenced_205 2 rfl ?_
          refine z_goto (tgt := 211) dX12_silenced_206 (by decide) ?_
          refine z_callVI dX12_silenced_211 (M_X12_comesOut _ _ _ _ _) bX12_comesOut lX12_470 kc_70 rfl rfl (Nat.le_of_ble_eq_true rfl) (Nat.le_of_ble_eq_true rfl) (fun r11 h12 => ?_)
          refine z_gd (fun g14 => ?_)
          refine z_iast kc_108 dX12_silenced_214 g14 ?_
          refine z_lh (fun h13 => ?_)
          refine z_iincL (lv2 := fun v15 => [(8, .int v15), (0, .ref 70), (1, .int x1), (2, .int x2), (4, .int x4), (6, .int x6), (7, .int x7)]) dX12_silenced_215 6 rfl rfl (Nat.le_of_ble_eq_true rfl) (fun _ => rfl) (fun v15 => ?_)
          refine z_goto (tgt := 154) dX12_silenced_218 (by decide) ?_
          exact z_sub [1, 2, 3, 4, 5, 6, 0] rfl (ih _ _ _ _ _ _ _)
set_option maxHeartbeats 4000000 in
set_option maxRecDepth 100000 in
theorem w_X12_silenced_146 : ∀ (f : Nat) (x1 : Int32) (x2 : Int32) (x4 : Int32) (x6 : Int32) (x7 : Int32) (h : AHp), WO tvI QX12_silenced 7 146 [(0, .ref 70), (1, .int x1), (2, .int x2), (4, .int x4), (6, .int x6), (7, .int x7)] [] h (m_X12_silenced_146 f x1 x2 x4 x6 x7 h) := by
  intro f
  induction f with
  | zero => intro x1 x2 x4 x6 x7 h; exact z_none
  | succ f ih =>
    intro x1 x2 x4 x6 x7 h
    rw [m_X12_silenced_146]
    refine z_iload dX12_silenced_146 5 rfl ?_
    refine z_if_lt (tgt := 227) dX12_silenced_148 (by decide) ?_ ?_
    · refine z_aload_n dX12_silenced_227 0 rfl ?_
      refine z_getR (j := 108) fX12_127 kc_70 rfl rfl rfl (by decide) dX12_silenced_228 ?_
      refine z_aload_n dX12_silenced_231 0 rfl ?_
      refine z_callVI dX12_silenced_232 (M_X12_startPair _) bX12_startPair lX12_410 kc_70 rfl rfl (Nat.le_of_ble_eq_true rfl) (Nat.le_of_ble_eq_true rfl) (fun r16 h17 => ?_)
      refine z_gd (fun g18 => ?_)
      refine z_iald kc_108 dX12_silenced_235 g18 ?_
      refine z_istoreL (lv2 := fun v19 => [(7, .int v19), (0, .ref 70), (1, .int x1), (2, .int x2), (4, .int x4), (6, .int x6)]) dX12_silenced_236 (Nat.le_of_ble_eq_true rfl) (fun _ => rfl) (fun v19 => ?_)
      refine z_iload dX12_silenced_238 5 rfl ?_
      refine z_if_ne (tgt := 246) dX12_silenced_240 (by decide) ?_ ?_
      · refine z_aload_n dX12_silenced_246 1 rfl ?_
        refine z_iload_n dX12_silenced_247 2 rfl ?_
        refine z_iload_n dX12_silenced_248 3 rfl ?_
        refine z_iload dX12_silenced_249 0 rfl ?_
        refine z_callVI dX12_silenced_251 (M_X12_firstFor _ _ _ _) bX12_firstFor lX12_473 kc_70 rfl rfl (Nat.le_of_ble_eq_true rfl) (Nat.le_of_ble_eq_true rfl) (fun r20 h21 => ?_)
        refine z_istore (lv2 := [(8, .int r20), (7, .int v19), (0, .ref 70), (1, .int x1), (2, .int x2), (4, .int x4), (6, .int x6)]) dX12_silenced_254 (Nat.le_of_ble_eq_true rfl) rfl ?_
        refine z_iload dX12_silenced_256 0 rfl ?_
        refine z_if_ge (tgt := 266) dX12_silenced_258 (by decide) ?_ ?_
        · refine z_iload dX12_silenced_266 6 rfl ?_
          refine z_iconst (v := 1) dX12_silenced_268 (by decide) ?_
          refine z_ic_ne (tgt := 280) dX12_silenced_269 (by decide) ?_ ?_
          · refine z_iload dX12_silenced_280 0 rfl ?_
            refine z_bipush (v := 100) dX12_silenced_282 (by decide) ?_
            refine z_irem dX12_silenced_284 (by decide) ?_
            exact z_iret dX12_silenced_285 rfl
          · refine z_iload dX12_silenced_272 0 rfl ?_
            refine z_bipush (v := 100) dX12_silenced_274 (by decide) ?_
            refine z_idiv dX12_silenced_276 (by decide) ?_
            refine z_goto (tgt := 285) dX12_silenced_277 (by decide) ?_
            exact z_iret dX12_silenced_285 rfl
        · refine z_bipush (v := -2) dX12_silenced_261 (by decide) ?_
          refine z_goto (tgt := 285) dX12_silenced_263 (by decide) ?_
          exact z_iret dX12_silenced_285 rfl
      · refine z_iload dX12_silenced_243 0 rfl ?_
        exact z_iret dX12_silenced_245 rfl
    · refine z_iconst (v := 0) dX12_silenced_151 (by decide) ?_
      refine z_istore (lv2 := [(8, .int 0), (0, .ref 70), (1, .int x1), (2, .int x2), (4, .int x4), (6, .int x6), (7, .int x7)]) dX12_silenced_152 (Nat.le_of_ble_eq_true rfl) rfl ?_
      exact z_sub [1, 2, 3, 4, 5, 6, 0] rfl (w_X12_silenced_154 _ ih FU _ _ _ _ _ _ _)
set_option maxHeartbeats 4000000 in
set_option maxRecDepth 100000 in
theorem w_X12_silenced_111 : ∀ (f : Nat) (x1 : Int32) (x2 : Int32) (x4 : Int32) (x5 : Int32) (x6 : Int32) (x7 : Int32) (h : AHp), WO tvI QX12_silenced 7 111 [(0, .ref 70), (1, .int x1), (2, .int x2), (4, .int x4), (5, .int x5), (6, .int x6), (7, .int x7)] [] h (m_X12_silenced_111 f x1 x2 x4 x5 x6 x7 h) := by
  intro f
  induction f with
  | zero => intro x1 x2 x4 x5 x6 x7 h; exact z_none
  | succ f ih =>
    intro x1 x2 x4 x5 x6 x7 h
    rw [m_X12_silenced_111]
    refine z_iload dX12_silenced_111 6 rfl ?_
    refine z_sipush (v := 625) dX12_silenced_113 (by decide) ?_
    refine z_ic_ge (tgt := 140) dX12_silenced_116 (by decide) ?_ ?_
    · refine z_iload dX12_silenced_140 4 rfl ?_
      refine z_iconst (v := 1) dX12_silenced_142 (by decide) ?_
      refine z_isub dX12_silenced_143 ?_
      refine z_istoreL (lv2 := fun v22 => [(7, .int v22), (0, .ref 70), (1, .int x1), (2, .int x2), (4, .int x4), (5, .int x5), (6, .int x6)]) dX12_silenced_144 (Nat.le_of_ble_eq_true rfl) (fun _ => rfl) (fun v22 => ?_)
      exact z_sub [1, 2, 3, 4, 6, 0] rfl (w_X12_silenced_146 FU _ _ _ _ _ _)
    · refine z_aload_n dX12_silenced_119 0 rfl ?_
      refine z_getR (j := 108) fX12_127 kc_70 rfl rfl rfl (by decide) dX12_silenced_120 ?_
      refine z_sipush (v := 625) dX12_silenced_123 (by decide) ?_
      refine z_iload dX12_silenced_126 4 rfl ?_
      refine z_imul dX12_silenced_128 ?_
      refine z_iload dX12_silenced_129 6 rfl ?_
      refine z_iadd dX12_silenced_131 ?_
      refine z_iconst (v := 0) dX12_silenced_132 (by decide) ?_
      refine z_gd (fun g24 => ?_)
      refine z_iast kc_108 dX12_silenced_133 g24 ?_
      refine z_lh (fun h23 => ?_)
      refine z_iincL (lv2 := fun v25 => [(7, .int v25), (0, .ref 70), (1, .int x1), (2, .int x2), (4, .int x4), (5, .int x5), (6, .int x6)]) dX12_silenced_134 6 rfl rfl (Nat.le_of_ble_eq_true rfl) (fun _ => rfl) (fun v25 => ?_)
      refine z_goto (tgt := 111) dX12_silenced_137 (by decide) ?_
      exact z_sub [1, 2, 3, 4, 5, 6, 0] rfl (ih _ _ _ _ _ _ _)
set_option maxHeartbeats 4000000 in
set_option maxRecDepth 100000 in
theorem w_X12_silenced_76 : ∀ (f : Nat) (x1 : Int32) (x2 : Int32) (x3 : Int32) (x4 : Int32) (x5 : Int32) (x6 : Int32) (x7 : Int32) (h : AHp), WO tvI QX12_silenced 7 76 [(0, .ref 70), (1, .int x1), (2, .int x2), (3, .int x3), (4, .int x4), (5, .int x5), (6, .int x6), (7, .int x7)] [] h (m_X12_silenced_76 f x1 x2 x3 x4 x5 x6 x7 h) := by
  intro f
  induction f with
  | zero => intro x1 x2 x3 x4 x5 x6 x7 h; exact z_none
  | succ f ih =>
    intro x1 x2 x3 x4 x5 x6 x7 h
    rw [m_X12_silenced_76]
    refine z_iload dX12_silenced_76 7 rfl ?_
    refine z_iload dX12_silenced_78 5 rfl ?_
    refine z_ic_ge (tgt := 108) dX12_silenced_80 (by decide) ?_ ?_
    · refine z_iconst (v := 0) dX12_silenced_108 (by decide) ?_
      refine z_istore (lv2 := [(7, .int 0), (0, .ref 70), (1, .int x1), (2, .int x2), (3, .int x3), (4, .int x4), (5, .int x5), (6, .int x6)]) dX12_silenced_109 (Nat.le_of_ble_eq_true rfl) rfl ?_
      exact z_sub [1, 2, 3, 5, 6, 7, 0] rfl (w_X12_silenced_111 FU _ _ _ _ _ _ _)
    · refine z_aload_n dX12_silenced_83 0 rfl ?_
      refine z_getR (j := 97) fX12_94 kc_70 rfl rfl rfl (by decide) dX12_silenced_84 ?_
      refine z_iload dX12_silenced_87 7 rfl ?_
      refine z_iload dX12_silenced_89 7 rfl ?_
      refine z_iconst (v := 2) dX12_silenced_91 (by decide) ?_
      refine z_irem dX12_silenced_92 (by decide) ?_
      refine z_if_ne (tgt := 100) dX12_silenced_93 (by decide) ?_ ?_
      · refine z_iload_n dX12_silenced_100 3 rfl ?_
        refine z_gd (fun g27 => ?_)
        refine z_iast kc_97 dX12_silenced_101 g27 ?_
        refine z_lh (fun h26 => ?_)
        refine z_iincL (lv2 := fun v28 => [(7, .int v28), (0, .ref 70), (1, .int x1), (2, .int x2), (3, .int x3), (4, .int x4), (5, .int x5), (6, .int x6)]) dX12_silenced_102 7 rfl rfl (Nat.le_of_ble_eq_true rfl) (fun _ => rfl) (fun v28 => ?_)
        refine z_goto (tgt := 76) dX12_silenced_105 (by decide) ?_
        exact z_sub [1, 2, 3, 4, 5, 6, 7, 0] rfl (ih _ _ _ _ _ _ _ _)
      · refine z_iload_n dX12_silenced_96 1 rfl ?_
        refine z_goto (tgt := 101) dX12_silenced_97 (by decide) ?_
        refine z_gd (fun g30 => ?_)
        refine z_iast kc_97 dX12_silenced_101 g30 ?_
        refine z_lh (fun h29 => ?_)
        refine z_iincL (lv2 := fun v31 => [(7, .int v31), (0, .ref 70), (1, .int x1), (2, .int x2), (3, .int x3), (4, .int x4), (5, .int x5), (6, .int x6)]) dX12_silenced_102 7 rfl rfl (Nat.le_of_ble_eq_true rfl) (fun _ => rfl) (fun v31 => ?_)
        refine z_goto (tgt := 76) dX12_silenced_105 (by decide) ?_
        exact z_sub [1, 2, 3, 4, 5, 6, 7, 0] rfl (ih _ _ _ _ _ _ _ _)
set_option maxHeartbeats 4000000 in
set_option maxRecDepth 100000 in
theorem w_X12_silenced (x1 : Int32) (x2 : Int32) (x3 : Int32) (x4 : Int32) (x5 : Int32) (x6 : Int32) (h : AHp) : WO tvI QX12_silenced 7 0 [(0, .ref 70), (1, .int x1), (2, .int x2), (3, .int x3), (4, .int x4), (5, .int x5), (6, .int x6)] [] h (m_X12_silenced x1 x2 x3 x4 x5 x6 h) := by
  unfold m_X12_silenced
  refine z_iload_n dX12_silenced_0 1 rfl ?_
  refine z_callSI dX12_silenced_1 (M_X12_isSpeaker _ _) bX12_isSpeaker lX12_378 rfl rfl (Nat.le_of_ble_eq_true rfl) (Nat.le_of_ble_eq_true rfl) (fun r32 h33 => ?_)
  refine z_if_eq (tgt := 70) dX12_silenced_4 (by decide) ?_ ?_
  · refine z_bipush (v := -3) dX12_silenced_70 (by decide) ?_
    exact z_iret dX12_silenced_72 rfl
  · refine z_iload_n dX12_silenced_7 3 rfl ?_
    refine z_callSI dX12_silenced_8 (M_X12_isSpeaker _ _) bX12_isSpeaker lX12_378 rfl rfl (Nat.le_of_ble_eq_true rfl) (Nat.le_of_ble_eq_true rfl) (fun r34 h35 => ?_)
    refine z_if_eq (tgt := 70) dX12_silenced_11 (by decide) ?_ ?_
    · refine z_bipush (v := -3) dX12_silenced_70 (by decide) ?_
      exact z_iret dX12_silenced_72 rfl
    · refine z_iload_n dX12_silenced_14 1 rfl ?_
      refine z_iload_n dX12_silenced_15 3 rfl ?_
      refine z_ic_eq (tgt := 70) dX12_silenced_16 (by decide) ?_ ?_
      · refine z_bipush (v := -3) dX12_silenced_70 (by decide) ?_
        exact z_iret dX12_silenced_72 rfl
      · refine z_iload_n dX12_silenced_19 2 rfl ?_
        refine z_i2l dX12_silenced_20 ?_
        refine z_lconst (v := 0) dX12_silenced_21 (by decide) ?_
        refine z_ldc2 dX12_silenced_22 kX12_454 ?_
        refine z_callSI dX12_silenced_25 (M_X12_lies _ _ _ _) bX12_lies lX12_181 rfl rfl (Nat.le_of_ble_eq_true rfl) (Nat.le_of_ble_eq_true rfl) (fun r36 h37 => ?_)
        refine z_if_eq (tgt := 70) dX12_silenced_28 (by decide) ?_ ?_
        · refine z_bipush (v := -3) dX12_silenced_70 (by decide) ?_
          exact z_iret dX12_silenced_72 rfl
        · refine z_iload dX12_silenced_31 4 rfl ?_
          refine z_i2l dX12_silenced_33 ?_
          refine z_lconst (v := 0) dX12_silenced_34 (by decide) ?_
          refine z_ldc2 dX12_silenced_35 kX12_454 ?_
          refine z_callSI dX12_silenced_38 (M_X12_lies _ _ _ _) bX12_lies lX12_181 rfl rfl (Nat.le_of_ble_eq_true rfl) (Nat.le_of_ble_eq_true rfl) (fun r38 h39 => ?_)
          refine z_if_eq (tgt := 70) dX12_silenced_41 (by decide) ?_ ?_
          · refine z_bipush (v := -3) dX12_silenced_70 (by decide) ?_
            exact z_iret dX12_silenced_72 rfl
          · refine z_iload dX12_silenced_44 5 rfl ?_
            refine z_i2l dX12_silenced_46 ?_
            refine z_lconst (v := 1) dX12_silenced_47 (by decide) ?_
            refine z_ldc2 dX12_silenced_48 kX12_465 ?_
            refine z_callSI dX12_silenced_51 (M_X12_lies _ _ _ _) bX12_lies lX12_181 rfl rfl (Nat.le_of_ble_eq_true rfl) (Nat.le_of_ble_eq_true rfl) (fun r40 h41 => ?_)
            refine z_if_eq (tgt := 70) dX12_silenced_54 (by decide) ?_ ?_
            · refine z_bipush (v := -3) dX12_silenced_70 (by decide) ?_
              exact z_iret dX12_silenced_72 rfl
            · refine z_iload dX12_silenced_57 6 rfl ?_
              refine z_i2l dX12_silenced_59 ?_
              refine z_lconst (v := 0) dX12_silenced_60 (by decide) ?_
              refine z_ldc2 dX12_silenced_61 kX12_439 ?_
              refine z_callSI dX12_silenced_64 (M_X12_lies _ _ _ _) bX12_lies lX12_181 rfl rfl (Nat.le_of_ble_eq_true rfl) (Nat.le_of_ble_eq_true rfl) (fun r42 h43 => ?_)
              refine z_if_ne (tgt := 73) dX12_silenced_67 (by decide) ?_ ?_
              · refine z_iconst (v := 0) dX12_silenced_73 (by decide) ?_
                refine z_istore (lv2 := [(7, .int 0), (0, .ref 70), (1, .int x1), (2, .int x2), (3, .int x3), (4, .int x4), (5, .int x5), (6, .int x6)]) dX12_silenced_74 (Nat.le_of_ble_eq_true rfl) rfl ?_
                exact z_sub [1, 2, 3, 4, 5, 6, 7, 0] rfl (w_X12_silenced_76 FU _ _ _ _ _ _ _ _)
              · refine z_bipush (v := -3) dX12_silenced_70 (by decide) ?_
                exact z_iret dX12_silenced_72 rfl
theorem M_X12_silenced (x1 : Int32) (x2 : Int32) (x3 : Int32) (x4 : Int32) (x5 : Int32) (x6 : Int32) (h : AHp) : MI QX12_silenced 7 [.ref 70, .int x1, .int x2, .int x3, .int x4, .int x5, .int x6] h (m_X12_silenced x1 x2 x3 x4 x5 x6 h) := MI.of (by decide) rfl rfl (Nat.le_of_ble_eq_true rfl) (w_X12_silenced x1 x2 x3 x4 x5 x6 h)
set_option maxHeartbeats 4000000 in
set_option maxRecDepth 100000 in
theorem w_X12_standsIn (x1 : Int32) (x2 : Int32) (h : AHp) : WO tvV QX12_standsIn 0 0 [(0, .ref 70), (1, .int x1), (2, .int x2)] [] h (m_X12_standsIn x1 x2 h) := by
  unfold m_X12_standsIn
  refine z_aload_n dX12_standsIn_0 0 rfl ?_
  refine z_aload_n dX12_standsIn_1 0 rfl ?_
  refine z_getI fX12_386 kc_70 rfl dX12_standsIn_2 ?_
  refine z_iload_n dX12_standsIn_5 2 rfl ?_
  refine z_iadd dX12_standsIn_6 ?_
  refine z_putI fX12_345 kc_70 rfl dX12_standsIn_7 ?_
  refine z_lh (fun h1 => ?_)
  refine z_aload_n dX12_standsIn_10 0 rfl ?_
  refine z_iload_n dX12_standsIn_11 1 rfl ?_
  refine z_bipush (v := 7) dX12_standsIn_12 (by decide) ?_
  refine z_idiv dX12_standsIn_14 (by decide) ?_
  refine z_bipush (v := 25) dX12_standsIn_15 (by decide) ?_
  refine z_idiv dX12_standsIn_17 (by decide) ?_
  refine z_putI fX12_336 kc_70 rfl dX12_standsIn_18 ?_
  refine z_lh (fun h2 => ?_)
  refine z_aload_n dX12_standsIn_21 0 rfl ?_
  refine z_iload_n dX12_standsIn_22 1 rfl ?_
  refine z_bipush (v := 7) dX12_standsIn_23 (by decide) ?_
  refine z_idiv dX12_standsIn_25 (by decide) ?_
  refine z_bipush (v := 25) dX12_standsIn_26 (by decide) ?_
  refine z_irem dX12_standsIn_28 (by decide) ?_
  refine z_putI fX12_339 kc_70 rfl dX12_standsIn_29 ?_
  refine z_lh (fun h3 => ?_)
  refine z_aload_n dX12_standsIn_32 0 rfl ?_
  refine z_iload_n dX12_standsIn_33 1 rfl ?_
  refine z_bipush (v := 7) dX12_standsIn_34 (by decide) ?_
  refine z_irem dX12_standsIn_36 (by decide) ?_
  refine z_bipush (v := 6) dX12_standsIn_37 (by decide) ?_
  refine z_ic_ne (tgt := 46) dX12_standsIn_39 (by decide) ?_ ?_
  · refine z_iload_n dX12_standsIn_46 1 rfl ?_
    refine z_bipush (v := 7) dX12_standsIn_47 (by decide) ?_
    refine z_irem dX12_standsIn_49 (by decide) ?_
    refine z_putI fX12_342 kc_70 rfl dX12_standsIn_50 ?_
    refine z_lh (fun h4 => ?_)
    exact z_vret dX12_standsIn_53 rfl
  · refine z_iconst (v := -1) dX12_standsIn_42 (by decide) ?_
    refine z_goto (tgt := 50) dX12_standsIn_43 (by decide) ?_
    refine z_putI fX12_342 kc_70 rfl dX12_standsIn_50 ?_
    refine z_lh (fun h5 => ?_)
    exact z_vret dX12_standsIn_53 rfl
theorem M_X12_standsIn (x1 : Int32) (x2 : Int32) (h : AHp) : MV QX12_standsIn 0 [.ref 70, .int x1, .int x2] h (m_X12_standsIn x1 x2 h) := MV.of (by decide) rfl rfl (Nat.le_of_ble_eq_true rfl) (w_X12_standsIn x1 x2 h)
set_option maxHeartbeats 4000000 in
set_option maxRecDepth 100000 in
theorem w_X12_maySay_11 (k2 : Int32 → Int32 → Int32 → AHp → Option (Int32 × AHp)) (hk2 : ∀ (x1 : Int32) (x2 : Int32) (x3 : Int32) (h : AHp), WO tvI QX12_maySay 5 2 [(0, .ref 70), (1, .int x1), (2, .int x2), (3, .int x3)] [] h (k2 x1 x2 x3 h)) : ∀ (f : Nat) (x1 : Int32) (x2 : Int32) (x3 : Int32) (x4 : Int32) (h : AHp), WO tvI QX12_maySay 5 11 [(0, .ref 70), (1, .int x1), (2, .int x2), (3, .int x3), (4, .int x4)] [] h (m_X12_maySay_11 k2 f x1 x2 x3 x4 h) := by
  intro f
  induction f with
  | zero => intro x1 x2 x3 x4 h; exact z_none
  | succ f ih =>
    intro x1 x2 x3 x4 h
    rw [m_X12_maySay_11]
    refine z_iload dX12_maySay_11 4 rfl ?_
    refine z_bipush (v := 12) dX12_maySay_13 (by decide) ?_
    refine z_ic_ge (tgt := 67) dX12_maySay_15 (by decide) ?_ ?_
    · refine z_iincL (lv2 := fun v1 => [(3, .int v1), (0, .ref 70), (1, .int x1), (2, .int x2), (4, .int x4)]) dX12_maySay_67 3 rfl rfl (Nat.le_of_ble_eq_true rfl) (fun _ => rfl) (fun v1 => ?_)
      refine z_goto (tgt := 2) dX12_maySay_70 (by decide) ?_
      exact z_sub [1, 2, 3, 0] rfl (hk2 _ _ _ _)
    · refine z_iload_n dX12_maySay_18 1 rfl ?_
      refine z_iload_n dX12_maySay_19 3 rfl ?_
      refine z_callSI dX12_maySay_20 (M_X12_has _ _ _) bX12_has lX12_187 rfl rfl (Nat.le_of_ble_eq_true rfl) (Nat.le_of_ble_eq_true rfl) (fun r2 h3 => ?_)
      refine z_if_eq (tgt := 67) dX12_maySay_23 (by decide) ?_ ?_
      · refine z_iincL (lv2 := fun v4 => [(3, .int v4), (0, .ref 70), (1, .int x1), (2, .int x2), (4, .int x4)]) dX12_maySay_67 3 rfl rfl (Nat.le_of_ble_eq_true rfl) (fun _ => rfl) (fun v4 => ?_)
        refine z_goto (tgt := 2) dX12_maySay_70 (by decide) ?_
        exact z_sub [1, 2, 3, 0] rfl (hk2 _ _ _ _)
      · refine z_aload_n dX12_maySay_26 0 rfl ?_
        refine z_getR (j := 72) fX12_17 kc_70 rfl rfl rfl (by decide) dX12_maySay_27 ?_
        refine z_iload dX12_maySay_30 4 rfl ?_
        refine z_gd (fun g5 => ?_)
        refine z_iald kc_72 dX12_maySay_32 g5 ?_
        refine z_iload_n dX12_maySay_33 2 rfl ?_
        refine z_callSI dX12_maySay_34 (M_X12_has _ _ _) bX12_has lX12_187 rfl rfl (Nat.le_of_ble_eq_true rfl) (Nat.le_of_ble_eq_true rfl) (fun r6 h7 => ?_)
        refine z_if_ne (tgt := 43) dX12_maySay_37 (by decide) ?_ ?_
        · refine z_aload_n dX12_maySay_43 0 rfl ?_
          refine z_iload_n dX12_maySay_44 3 rfl ?_
          refine z_iload dX12_maySay_45 4 rfl ?_
          refine z_iload_n dX12_maySay_47 2 rfl ?_
          refine z_callVV dX12_maySay_48 (M_X12_says _ _ _ _) bX12_says lX12_371 kc_70 rfl rfl (Nat.le_of_ble_eq_true rfl) (Nat.le_of_ble_eq_true rfl) (fun r8 h9 => ?_)
          refine z_aload_n dX12_maySay_51 0 rfl ?_
          refine z_iconst (v := 0) dX12_maySay_52 (by decide) ?_
          refine z_callVI dX12_maySay_53 (M_X12_lets _ _) bX12_lets lX12_375 kc_70 rfl rfl (Nat.le_of_ble_eq_true rfl) (Nat.le_of_ble_eq_true rfl) (fun r10 h11 => ?_)
          refine z_if_eq (tgt := 61) dX12_maySay_56 (by decide) ?_ ?_
          · refine z_iincL (lv2 := fun v12 => [(4, .int v12), (0, .ref 70), (1, .int x1), (2, .int x2), (3, .int x3)]) dX12_maySay_61 4 rfl rfl (Nat.le_of_ble_eq_true rfl) (fun _ => rfl) (fun v12 => ?_)
            refine z_goto (tgt := 11) dX12_maySay_64 (by decide) ?_
            exact z_sub [1, 2, 3, 4, 0] rfl (ih _ _ _ _ _)
          · refine z_iconst (v := 1) dX12_maySay_59 (by decide) ?_
            exact z_zret dX12_maySay_60 rfl (Or.inr rfl)
        · refine z_goto (tgt := 61) dX12_maySay_40 (by decide) ?_
          refine z_iincL (lv2 := fun v13 => [(4, .int v13), (0, .ref 70), (1, .int x1), (2, .int x2), (3, .int x3)]) dX12_maySay_61 4 rfl rfl (Nat.le_of_ble_eq_true rfl) (fun _ => rfl) (fun v13 => ?_)
          refine z_goto (tgt := 11) dX12_maySay_64 (by decide) ?_
          exact z_sub [1, 2, 3, 4, 0] rfl (ih _ _ _ _ _)
set_option maxHeartbeats 4000000 in
set_option maxRecDepth 100000 in
theorem w_X12_maySay_2 : ∀ (f : Nat) (x1 : Int32) (x2 : Int32) (x3 : Int32) (h : AHp), WO tvI QX12_maySay 5 2 [(0, .ref 70), (1, .int x1), (2, .int x2), (3, .int x3)] [] h (m_X12_maySay_2 f x1 x2 x3 h) := by
  intro f
  induction f with
  | zero => intro x1 x2 x3 h; exact z_none
  | succ f ih =>
    intro x1 x2 x3 h
    rw [m_X12_maySay_2]
    refine z_iload_n dX12_maySay_2 3 rfl ?_
    refine z_bipush (v := 6) dX12_maySay_3 (by decide) ?_
    refine z_ic_ge (tgt := 73) dX12_maySay_5 (by decide) ?_ ?_
    · refine z_iconst (v := 0) dX12_maySay_73 (by decide) ?_
      exact z_zret dX12_maySay_74 rfl (Or.inl rfl)
    · refine z_iconst (v := 0) dX12_maySay_8 (by decide) ?_
      refine z_istore (lv2 := [(4, .int 0), (0, .ref 70), (1, .int x1), (2, .int x2), (3, .int x3)]) dX12_maySay_9 (Nat.le_of_ble_eq_true rfl) rfl ?_
      exact z_sub [1, 2, 3, 4, 0] rfl (w_X12_maySay_11 _ ih FU _ _ _ _ _)
set_option maxHeartbeats 4000000 in
set_option maxRecDepth 100000 in
theorem w_X12_maySay (x1 : Int32) (x2 : Int32) (h : AHp) : WO tvI QX12_maySay 5 0 [(0, .ref 70), (1, .int x1), (2, .int x2)] [] h (m_X12_maySay x1 x2 h) := by
  unfold m_X12_maySay
  refine z_iconst (v := 0) dX12_maySay_0 (by decide) ?_
  refine z_istore_n (lv2 := [(3, .int 0), (0, .ref 70), (1, .int x1), (2, .int x2)]) dX12_maySay_1 (Nat.le_of_ble_eq_true rfl) rfl ?_
  exact z_sub [1, 2, 3, 0] rfl (w_X12_maySay_2 FU _ _ _ _)
theorem M_X12_maySay (x1 : Int32) (x2 : Int32) (h : AHp) : MI QX12_maySay 5 [.ref 70, .int x1, .int x2] h (m_X12_maySay x1 x2 h) := MI.of (by decide) rfl rfl (Nat.le_of_ble_eq_true rfl) (w_X12_maySay x1 x2 h)
set_option maxHeartbeats 4000000 in
set_option maxRecDepth 100000 in
theorem w_X12_spreads_13 (k3 : Int32 → Int32 → Int32 → Int32 → AHp → Option (Unit × AHp)) (hk3 : ∀ (x1 : Int32) (x2 : Int32) (x3 : Int32) (x4 : Int32) (h : AHp), WO tvV QX12_spreads 6 3 [(0, .ref 70), (1, .int x1), (2, .int x2), (3, .int x3), (4, .int x4)] [] h (k3 x1 x2 x3 x4 h)) : ∀ (f : Nat) (x1 : Int32) (x2 : Int32) (x3 : Int32) (x4 : Int32) (x5 : Int32) (h : AHp), WO tvV QX12_spreads 6 13 [(0, .ref 70), (1, .int x1), (2, .int x2), (3, .int x3), (4, .int x4), (5, .int x5)] [] h (m_X12_spreads_13 k3 f x1 x2 x3 x4 x5 h) := by
  intro f
  induction f with
  | zero => intro x1 x2 x3 x4 x5 h; exact z_none
  | succ f ih =>
    intro x1 x2 x3 x4 x5 h
    rw [m_X12_spreads_13]
    refine z_iload dX12_spreads_13 5 rfl ?_
    refine z_bipush (v := 24) dX12_spreads_15 (by decide) ?_
    refine z_ic_gt (tgt := 88) dX12_spreads_17 (by decide) ?_ ?_
    · refine z_iincL (lv2 := fun v1 => [(4, .int v1), (0, .ref 70), (1, .int x1), (2, .int x2), (3, .int x3), (5, .int x5)]) dX12_spreads_88 4 rfl rfl (Nat.le_of_ble_eq_true rfl) (fun _ => rfl) (fun v1 => ?_)
      refine z_goto (tgt := 3) dX12_spreads_91 (by decide) ?_
      exact z_sub [1, 2, 3, 4, 0] rfl (hk3 _ _ _ _ _)
    · refine z_iload_n dX12_spreads_20 3 rfl ?_
      refine z_iload dX12_spreads_21 4 rfl ?_
      refine z_callSI dX12_spreads_23 (M_X12_has _ _ _) bX12_has lX12_187 rfl rfl (Nat.le_of_ble_eq_true rfl) (Nat.le_of_ble_eq_true rfl) (fun r2 h3 => ?_)
      refine z_if_eq (tgt := 88) dX12_spreads_26 (by decide) ?_ ?_
      · refine z_iincL (lv2 := fun v4 => [(4, .int v4), (0, .ref 70), (1, .int x1), (2, .int x2), (3, .int x3), (5, .int x5)]) dX12_spreads_88 4 rfl rfl (Nat.le_of_ble_eq_true rfl) (fun _ => rfl) (fun v4 => ?_)
        refine z_goto (tgt := 3) dX12_spreads_91 (by decide) ?_
        exact z_sub [1, 2, 3, 4, 0] rfl (hk3 _ _ _ _ _)
      · refine z_bipush (v := 7) dX12_spreads_29 (by decide) ?_
        refine z_iload_n dX12_spreads_31 1 rfl ?_
        refine z_bipush (v := 7) dX12_spreads_32 (by decide) ?_
        refine z_idiv dX12_spreads_34 (by decide) ?_
        refine z_iload dX12_spreads_35 5 rfl ?_
        refine z_callSI dX12_spreads_37 (M_X12_pairBehind _ _ _) bX12_pairBehind lX12_419 rfl rfl (Nat.le_of_ble_eq_true rfl) (Nat.le_of_ble_eq_true rfl) (fun r5 h6 => ?_)
        refine z_imul dX12_spreads_40 ?_
        refine z_iload dX12_spreads_41 4 rfl ?_
        refine z_iadd dX12_spreads_43 ?_
        refine z_istoreL (lv2 := fun v7 => [(6, .int v7), (0, .ref 70), (1, .int x1), (2, .int x2), (3, .int x3), (4, .int x4), (5, .int x5)]) dX12_spreads_44 (Nat.le_of_ble_eq_true rfl) (fun _ => rfl) (fun v7 => ?_)
        refine z_aload_n dX12_spreads_46 1 rfl ?_
        refine z_getR (j := 110) fX12_133 kc_70 rfl rfl rfl (by decide) dX12_spreads_47 ?_
        refine z_iload dX12_spreads_50 0 rfl ?_
        refine z_gd (fun g8 => ?_)
        refine z_zald kc_110 dX12_spreads_52 g8 ?_
        refine z_if_eq (tgt := 59) dX12_spreads_53 (by decide) ?_ ?_
        · refine z_aload_n dX12_spreads_59 1 rfl ?_
          refine z_iload_n dX12_spreads_60 2 rfl ?_
          refine z_iload_n dX12_spreads_61 3 rfl ?_
          refine z_callVV dX12_spreads_62 (M_X12_standsIn _ _ _) bX12_standsIn lX12_476 kc_70 rfl rfl (Nat.le_of_ble_eq_true rfl) (Nat.le_of_ble_eq_true rfl) (fun r9 h10 => ?_)
          refine z_aload_n dX12_spreads_65 1 rfl ?_
          refine z_getR (j := 110) fX12_133 kc_70 rfl rfl rfl (by decide) dX12_spreads_66 ?_
          refine z_iload dX12_spreads_69 0 rfl ?_
          refine z_aload_n dX12_spreads_71 1 rfl ?_
          refine z_iconst (v := 1) dX12_spreads_72 (by decide) ?_
          refine z_iload dX12_spreads_73 5 rfl ?_
          refine z_ishl dX12_spreads_75 ?_
          refine z_iload dX12_spreads_76 6 rfl ?_
          refine z_callVI dX12_spreads_78 (M_X12_maySay _ _ _) bX12_maySay lX12_479 kc_70 rfl rfl (Nat.le_of_ble_eq_true rfl) (Nat.le_of_ble_eq_true rfl) (fun r11 h12 => ?_)
          refine z_gd (fun g14 => ?_)
          refine z_zast kc_110 dX12_spreads_81 g14 ?_
          refine z_lh (fun h13 => ?_)
          refine z_iincL (lv2 := fun v15 => [(5, .int v15), (6, .int v7), (0, .ref 70), (1, .int x1), (2, .int x2), (3, .int x3), (4, .int x4)]) dX12_spreads_82 6 rfl rfl (Nat.le_of_ble_eq_true rfl) (fun _ => rfl) (fun v15 => ?_)
          refine z_goto (tgt := 13) dX12_spreads_85 (by decide) ?_
          exact z_sub [2, 3, 4, 5, 6, 0] rfl (ih _ _ _ _ _ _)
        · refine z_goto (tgt := 82) dX12_spreads_56 (by decide) ?_
          refine z_iincL (lv2 := fun v16 => [(5, .int v16), (6, .int v7), (0, .ref 70), (1, .int x1), (2, .int x2), (3, .int x3), (4, .int x4)]) dX12_spreads_82 6 rfl rfl (Nat.le_of_ble_eq_true rfl) (fun _ => rfl) (fun v16 => ?_)
          refine z_goto (tgt := 13) dX12_spreads_85 (by decide) ?_
          exact z_sub [2, 3, 4, 5, 6, 0] rfl (ih _ _ _ _ _ _)
set_option maxHeartbeats 4000000 in
set_option maxRecDepth 100000 in
theorem w_X12_spreads_3 : ∀ (f : Nat) (x1 : Int32) (x2 : Int32) (x3 : Int32) (x4 : Int32) (h : AHp), WO tvV QX12_spreads 6 3 [(0, .ref 70), (1, .int x1), (2, .int x2), (3, .int x3), (4, .int x4)] [] h (m_X12_spreads_3 f x1 x2 x3 x4 h) := by
  intro f
  induction f with
  | zero => intro x1 x2 x3 x4 h; exact z_none
  | succ f ih =>
    intro x1 x2 x3 x4 h
    rw [m_X12_spreads_3]
    refine z_iload dX12_spreads_3 4 rfl ?_
    refine z_bipush (v := 6) dX12_spreads_5 (by decide) ?_
    refine z_ic_ge (tgt := 94) dX12_spreads_7 (by decide) ?_ ?_
    · exact z_vret dX12_spreads_94 rfl
    · refine z_iconst (v := 1) dX12_spreads_10 (by decide) ?_
      refine z_istore (lv2 := [(5, .int 1), (0, .ref 70), (1, .int x1), (2, .int x2), (3, .int x3), (4, .int x4)]) dX12_spreads_11 (Nat.le_of_ble_eq_true rfl) rfl ?_
      exact z_sub [1, 2, 3, 4, 5, 0] rfl (w_X12_spreads_13 _ ih FU _ _ _ _ _ _)
set_option maxHeartbeats 4000000 in
set_option maxRecDepth 100000 in
theorem w_X12_spreads (x1 : Int32) (x2 : Int32) (x3 : Int32) (h : AHp) : WO tvV QX12_spreads 6 0 [(0, .ref 70), (1, .int x1), (2, .int x2), (3, .int x3)] [] h (m_X12_spreads x1 x2 x3 h) := by
  unfold m_X12_spreads
  refine z_iconst (v := 0) dX12_spreads_0 (by decide) ?_
  refine z_istore (lv2 := [(4, .int 0), (0, .ref 70), (1, .int x1), (2, .int x2), (3, .int x3)]) dX12_spreads_1 (Nat.le_of_ble_eq_true rfl) rfl ?_
  exact z_sub [1, 2, 3, 4, 0] rfl (w_X12_spreads_3 FU _ _ _ _ _)
theorem M_X12_spreads (x1 : Int32) (x2 : Int32) (x3 : Int32) (h : AHp) : MV QX12_spreads 6 [.ref 70, .int x1, .int x2, .int x3] h (m_X12_spreads x1 x2 x3 h) := MV.of (by decide) rfl rfl (Nat.le_of_ble_eq_true rfl) (w_X12_spreads x1 x2 x3 h)
