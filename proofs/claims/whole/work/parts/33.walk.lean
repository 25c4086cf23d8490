set_option maxHeartbeats 4000000 in
set_option maxRecDepth 100000 in
theorem w_X11_held_57 : ∀ (f : Nat) (x2 : Int32) (x3 : Int32) (x5 : Int32) (h : AHp), WO tvI QX11_held 56 57 [(0, .ref 0), (2, .int x2), (3, .int x3), (5, .int x5)] [] h (m_X11_held_57 f x2 x3 x5 h) := by
  intro f
  induction f with
  | zero => intro x2 x3 x5 h; exact z_none
  | succ f ih =>
    intro x2 x3 x5 h
    rw [m_X11_held_57]
    refine z_iload dX11_held_57 3 rfl ?_
    refine z_iload_n dX11_held_59 1 rfl ?_
    refine z_ic_ge (tgt := 103) dX11_held_60 (by decide) ?_ ?_
    · refine z_aload_n dX11_held_103 0 rfl ?_
      refine z_getR (j := 51) fX11_54 kc_0 rfl rfl rfl (by decide) dX11_held_104 ?_
      refine z_aload_n dX11_held_107 0 rfl ?_
      refine z_getR (j := 42) fX11_38 kc_0 rfl rfl rfl (by decide) dX11_held_108 ?_
      refine z_iload_n dX11_held_111 2 rfl ?_
      refine z_callVI dX11_held_112 (M_X1_answer _ _) bX1_answer lX11_196 kc_51 rfl rfl (Nat.le_of_ble_eq_true rfl) (Nat.le_of_ble_eq_true rfl) (fun r1 h2 => ?_)
      refine z_istore (lv2 := [(4, .int r1), (0, .ref 0), (2, .int x2), (3, .int x3), (5, .int x5)]) dX11_held_115 (Nat.le_of_ble_eq_true rfl) rfl ?_
      refine z_aload_n dX11_held_117 1 rfl ?_
      refine z_getR (j := 1) fX11_18 kc_0 rfl rfl rfl (by decide) dX11_held_118 ?_
      refine z_callVV dX11_held_121 (M_X8_clear _) bX8_clear lX11_111 kc_1 rfl rfl (Nat.le_of_ble_eq_true rfl) (Nat.le_of_ble_eq_true rfl) (fun r3 h4 => ?_)
      refine z_iload dX11_held_124 0 rfl ?_
      exact z_iret dX11_held_126 rfl
    · refine z_aload_n dX11_held_63 0 rfl ?_
      refine z_getR (j := 51) fX11_54 kc_0 rfl rfl rfl (by decide) dX11_held_64 ?_
      refine z_iload dX11_held_67 3 rfl ?_
      refine z_aload_n dX11_held_69 0 rfl ?_
      refine z_getR (j := 1) fX11_18 kc_0 rfl rfl rfl (by decide) dX11_held_70 ?_
      refine z_iconst (v := 2) dX11_held_73 (by decide) ?_
      refine z_iload dX11_held_74 3 rfl ?_
      refine z_imul dX11_held_76 ?_
      refine z_callVI dX11_held_77 (M_X8_byteAt _ _) bX8_byteAt lX11_189 kc_1 rfl rfl (Nat.le_of_ble_eq_true rfl) (Nat.le_of_ble_eq_true rfl) (fun r5 h6 => ?_)
      refine z_aload_n dX11_held_80 0 rfl ?_
      refine z_getR (j := 1) fX11_18 kc_0 rfl rfl rfl (by decide) dX11_held_81 ?_
      refine z_iconst (v := 2) dX11_held_84 (by decide) ?_
      refine z_iload dX11_held_85 3 rfl ?_
      refine z_imul dX11_held_87 ?_
      refine z_iconst (v := 1) dX11_held_88 (by decide) ?_
      refine z_iadd dX11_held_89 ?_
      refine z_callVI dX11_held_90 (M_X8_byteAt _ _) bX8_byteAt lX11_189 kc_1 rfl rfl (Nat.le_of_ble_eq_true rfl) (Nat.le_of_ble_eq_true rfl) (fun r7 h8 => ?_)
      refine z_iconst (v := 0) dX11_held_93 (by decide) ?_
      refine z_callVV dX11_held_94 (M_X1_tell _ _ _ _ _) bX1_tell lX11_192 kc_51 rfl rfl (Nat.le_of_ble_eq_true rfl) (Nat.le_of_ble_eq_true rfl) (fun r9 h10 => ?_)
      refine z_iincL (lv2 := fun v11 => [(5, .int v11), (0, .ref 0), (2, .int x2), (3, .int x3)]) dX11_held_97 3 rfl rfl (Nat.le_of_ble_eq_true rfl) (fun _ => rfl) (fun v11 => ?_)
      refine z_goto (tgt := 57) dX11_held_100 (by decide) ?_
      exact z_sub [1, 2, 3, 0] rfl (ih _ _ _ _)
set_option maxHeartbeats 4000000 in
set_option maxRecDepth 100000 in
theorem w_X11_held (x1 : Int32) (x2 : Int32) (x3 : Int32) (h : AHp) : WO tvI QX11_held 56 0 [(0, .ref 0), (1, .int x1), (2, .int x2), (3, .int x3)] [] h (m_X11_held x1 x2 x3 h) := by
  unfold m_X11_held
  refine z_iload_n dX11_held_0 1 rfl ?_
  refine z_iconst (v := 1) dX11_held_1 (by decide) ?_
  refine z_ic_lt (tgt := 29) dX11_held_2 (by decide) ?_ ?_
  · refine z_iconst (v := -1) dX11_held_29 (by decide) ?_
    exact z_iret dX11_held_30 rfl
  · refine z_iload_n dX11_held_5 1 rfl ?_
    refine z_iconst (v := 3) dX11_held_6 (by decide) ?_
    refine z_ic_gt (tgt := 29) dX11_held_7 (by decide) ?_ ?_
    · refine z_iconst (v := -1) dX11_held_29 (by decide) ?_
      exact z_iret dX11_held_30 rfl
    · refine z_aload_n dX11_held_10 0 rfl ?_
      refine z_iload_n dX11_held_11 2 rfl ?_
      refine z_bipush (v := 12) dX11_held_12 (by decide) ?_
      refine z_iconst (v := 2) dX11_held_14 (by decide) ?_
      refine z_callVI dX11_held_15 (M_X11_isOnTape _ _ _ _) bX11_isOnTape lX11_103 kc_0 rfl rfl (Nat.le_of_ble_eq_true rfl) (Nat.le_of_ble_eq_true rfl) (fun r12 h13 => ?_)
      refine z_if_eq (tgt := 29) dX11_held_18 (by decide) ?_ ?_
      · refine z_iconst (v := -1) dX11_held_29 (by decide) ?_
        exact z_iret dX11_held_30 rfl
      · refine z_iload_n dX11_held_21 2 rfl ?_
        refine z_iload_n dX11_held_22 3 rfl ?_
        refine z_callSI dX11_held_23 (M_X11_isHeldPlace _ _ _) bX11_isHeldPlace lX11_183 rfl rfl (Nat.le_of_ble_eq_true rfl) (Nat.le_of_ble_eq_true rfl) (fun r14 h15 => ?_)
        refine z_if_ne (tgt := 31) dX11_held_26 (by decide) ?_ ?_
        · refine z_bipush (v := -3) dX11_held_31 (by decide) ?_
          refine z_istore (lv2 := [(4, .int (-3)), (0, .ref 0), (1, .int x1), (2, .int x2), (3, .int x3)]) dX11_held_33 (Nat.le_of_ble_eq_true rfl) rfl ?_
          refine z_aload_n dX11_held_35 1 rfl ?_
          refine z_iload_n dX11_held_36 3 rfl ?_
          refine z_iconst (v := 2) dX11_held_37 (by decide) ?_
          refine z_callVI dX11_held_38 (M_X11_tellsSpeakersAndThings _ _ _) bX11_tellsSpeakersAndThings lX11_176 kc_0 rfl rfl (Nat.le_of_ble_eq_true rfl) (Nat.le_of_ble_eq_true rfl) (fun r16 h17 => ?_)
          refine z_if_eq (tgt := 117) dX11_held_41 (by decide) ?_ ?_
          · refine z_aload_n dX11_held_117 1 rfl ?_
            refine z_getR (j := 1) fX11_18 kc_0 rfl rfl rfl (by decide) dX11_held_118 ?_
            refine z_callVV dX11_held_121 (M_X8_clear _) bX8_clear lX11_111 kc_1 rfl rfl (Nat.le_of_ble_eq_true rfl) (Nat.le_of_ble_eq_true rfl) (fun r18 h19 => ?_)
            refine z_iload dX11_held_124 0 rfl ?_
            exact z_iret dX11_held_126 rfl
          · refine z_aload_n dX11_held_44 1 rfl ?_
            refine z_getR (j := 51) fX11_54 kc_0 rfl rfl rfl (by decide) dX11_held_45 ?_
            refine z_iload_n dX11_held_48 2 rfl ?_
            refine z_iconst (v := 1) dX11_held_49 (by decide) ?_
            refine z_iload_n dX11_held_50 3 rfl ?_
            refine z_callVV dX11_held_51 (M_X1_begin _ _ _ _) bX1_begin lX11_186 kc_51 rfl rfl (Nat.le_of_ble_eq_true rfl) (Nat.le_of_ble_eq_true rfl) (fun r20 h21 => ?_)
            refine z_iconst (v := 0) dX11_held_54 (by decide) ?_
            refine z_istore (lv2 := [(5, .int 0), (4, .int (-3)), (0, .ref 0), (1, .int x1), (2, .int x2), (3, .int x3)]) dX11_held_55 (Nat.le_of_ble_eq_true rfl) rfl ?_
            exact z_sub [2, 4, 5, 0] rfl (w_X11_held_57 FU _ _ _ _)
        · refine z_iconst (v := -1) dX11_held_29 (by decide) ?_
          exact z_iret dX11_held_30 rfl
theorem M_X11_held (x1 : Int32) (x2 : Int32) (x3 : Int32) (h : AHp) : MI QX11_held 56 [.ref 0, .int x1, .int x2, .int x3] h (m_X11_held x1 x2 x3 h) := MI.of (by decide) rfl rfl (Nat.le_of_ble_eq_true rfl) (w_X11_held x1 x2 x3 h)
set_option maxHeartbeats 4000000 in
set_option maxRecDepth 100000 in
theorem w_X11_tellsDigits_2 : ∀ (f : Nat) (x1 : Int32) (x2 : Int32) (x3 : Int32) (h : AHp), WO tvI QX11_tellsDigits 1 2 [(0, .ref 0), (1, .int x1), (2, .int x2), (3, .int x3)] [] h (m_X11_tellsDigits_2 f x1 x2 x3 h) := by
  intro f
  induction f with
  | zero => intro x1 x2 x3 h; exact z_none
  | succ f ih =>
    intro x1 x2 x3 h
    rw [m_X11_tellsDigits_2]
    refine z_iload_n dX11_tellsDigits_2 3 rfl ?_
    refine z_iload_n dX11_tellsDigits_3 2 rfl ?_
    refine z_ic_ge (tgt := 31) dX11_tellsDigits_4 (by decide) ?_ ?_
    · refine z_iconst (v := 1) dX11_tellsDigits_31 (by decide) ?_
      exact z_zret dX11_tellsDigits_32 rfl (Or.inr rfl)
    · refine z_aload_n dX11_tellsDigits_7 0 rfl ?_
      refine z_getR (j := 1) fX11_18 kc_0 rfl rfl rfl (by decide) dX11_tellsDigits_8 ?_
      refine z_iconst (v := 3) dX11_tellsDigits_11 (by decide) ?_
      refine z_iload_n dX11_tellsDigits_12 3 rfl ?_
      refine z_imul dX11_tellsDigits_13 ?_
      refine z_iconst (v := 2) dX11_tellsDigits_14 (by decide) ?_
      refine z_iadd dX11_tellsDigits_15 ?_
      refine z_callVI dX11_tellsDigits_16 (M_X8_byteAt _ _) bX8_byteAt lX11_189 kc_1 rfl rfl (Nat.le_of_ble_eq_true rfl) (Nat.le_of_ble_eq_true rfl) (fun r1 h2 => ?_)
      refine z_iload_n dX11_tellsDigits_19 1 rfl ?_
      refine z_ic_lt (tgt := 25) dX11_tellsDigits_20 (by decide) ?_ ?_
      · refine z_iincL (lv2 := fun v3 => [(3, .int v3), (0, .ref 0), (1, .int x1), (2, .int x2)]) dX11_tellsDigits_25 3 rfl rfl (Nat.le_of_ble_eq_true rfl) (fun _ => rfl) (fun v3 => ?_)
        refine z_goto (tgt := 2) dX11_tellsDigits_28 (by decide) ?_
        exact z_sub [1, 2, 3, 0] rfl (ih _ _ _ _)
      · refine z_iconst (v := 0) dX11_tellsDigits_23 (by decide) ?_
        exact z_zret dX11_tellsDigits_24 rfl (Or.inl rfl)
set_option maxHeartbeats 4000000 in
set_option maxRecDepth 100000 in
theorem w_X11_tellsDigits (x1 : Int32) (x2 : Int32) (h : AHp) : WO tvI QX11_tellsDigits 1 0 [(0, .ref 0), (1, .int x1), (2, .int x2)] [] h (m_X11_tellsDigits x1 x2 h) := by
  unfold m_X11_tellsDigits
  refine z_iconst (v := 0) dX11_tellsDigits_0 (by decide) ?_
  refine z_istore_n (lv2 := [(3, .int 0), (0, .ref 0), (1, .int x1), (2, .int x2)]) dX11_tellsDigits_1 (Nat.le_of_ble_eq_true rfl) rfl ?_
  exact z_sub [1, 2, 3, 0] rfl (w_X11_tellsDigits_2 FU _ _ _ _)
theorem M_X11_tellsDigits (x1 : Int32) (x2 : Int32) (h : AHp) : MI QX11_tellsDigits 1 [.ref 0, .int x1, .int x2] h (m_X11_tellsDigits x1 x2 h) := MI.of (by decide) rfl rfl (Nat.le_of_ble_eq_true rfl) (w_X11_tellsDigits x1 x2 h)
set_option maxHeartbeats 4000000 in
set_option maxRecDepth 100000 in
theorem w_X11_coded_66 : ∀ (f : Nat) (x2 : Int32) (x3 : Int32) (x5 : Int32) (h : AHp), WO tvI QX11_coded 56 66 [(0, .ref 0), (2, .int x2), (3, .int x3), (5, .int x5)] [] h (m_X11_coded_66 f x2 x3 x5 h) := by
  intro f
  induction f with
  | zero => intro x2 x3 x5 h; exact z_none
  | succ f ih =>
    intro x2 x3 x5 h
    rw [m_X11_coded_66]
    refine z_iload dX11_coded_66 3 rfl ?_
    refine z_iload_n dX11_coded_68 1 rfl ?_
    refine z_ic_ge (tgt := 124) dX11_coded_69 (by decide) ?_ ?_
    · refine z_aload_n dX11_coded_124 0 rfl ?_
      refine z_getR (j := 51) fX11_54 kc_0 rfl rfl rfl (by decide) dX11_coded_125 ?_
      refine z_aload_n dX11_coded_128 0 rfl ?_
      refine z_getR (j := 42) fX11_38 kc_0 rfl rfl rfl (by decide) dX11_coded_129 ?_
      refine z_iload_n dX11_coded_132 2 rfl ?_
      refine z_callVI dX11_coded_133 (M_X1_answer _ _) bX1_answer lX11_196 kc_51 rfl rfl (Nat.le_of_ble_eq_true rfl) (Nat.le_of_ble_eq_true rfl) (fun r1 h2 => ?_)
      refine z_istore (lv2 := [(4, .int r1), (0, .ref 0), (2, .int x2), (3, .int x3), (5, .int x5)]) dX11_coded_136 (Nat.le_of_ble_eq_true rfl) rfl ?_
      refine z_aload_n dX11_coded_138 1 rfl ?_
      refine z_getR (j := 1) fX11_18 kc_0 rfl rfl rfl (by decide) dX11_coded_139 ?_
      refine z_callVV dX11_coded_142 (M_X8_clear _) bX8_clear lX11_111 kc_1 rfl rfl (Nat.le_of_ble_eq_true rfl) (Nat.le_of_ble_eq_true rfl) (fun r3 h4 => ?_)
      refine z_iload dX11_coded_145 0 rfl ?_
      exact z_iret dX11_coded_147 rfl
    · refine z_aload_n dX11_coded_72 0 rfl ?_
      refine z_getR (j := 51) fX11_54 kc_0 rfl rfl rfl (by decide) dX11_coded_73 ?_
      refine z_iload dX11_coded_76 3 rfl ?_
      refine z_aload_n dX11_coded_78 0 rfl ?_
      refine z_getR (j := 1) fX11_18 kc_0 rfl rfl rfl (by decide) dX11_coded_79 ?_
      refine z_iconst (v := 3) dX11_coded_82 (by decide) ?_
      refine z_iload dX11_coded_83 3 rfl ?_
      refine z_imul dX11_coded_85 ?_
      refine z_callVI dX11_coded_86 (M_X8_byteAt _ _) bX8_byteAt lX11_189 kc_1 rfl rfl (Nat.le_of_ble_eq_true rfl) (Nat.le_of_ble_eq_true rfl) (fun r5 h6 => ?_)
      refine z_aload_n dX11_coded_89 0 rfl ?_
      refine z_getR (j := 1) fX11_18 kc_0 rfl rfl rfl (by decide) dX11_coded_90 ?_
      refine z_iconst (v := 3) dX11_coded_93 (by decide) ?_
      refine z_iload dX11_coded_94 3 rfl ?_
      refine z_imul dX11_coded_96 ?_
      refine z_iconst (v := 1) dX11_coded_97 (by decide) ?_
      refine z_iadd dX11_coded_98 ?_
      refine z_callVI dX11_coded_99 (M_X8_byteAt _ _) bX8_byteAt lX11_189 kc_1 rfl rfl (Nat.le_of_ble_eq_true rfl) (Nat.le_of_ble_eq_true rfl) (fun r7 h8 => ?_)
      refine z_aload_n dX11_coded_102 0 rfl ?_
      refine z_getR (j := 1) fX11_18 kc_0 rfl rfl rfl (by decide) dX11_coded_103 ?_
      refine z_iconst (v := 3) dX11_coded_106 (by decide) ?_
      refine z_iload dX11_coded_107 3 rfl ?_
      refine z_imul dX11_coded_109 ?_
      refine z_iconst (v := 2) dX11_coded_110 (by decide) ?_
      refine z_iadd dX11_coded_111 ?_
      refine z_callVI dX11_coded_112 (M_X8_byteAt _ _) bX8_byteAt lX11_189 kc_1 rfl rfl (Nat.le_of_ble_eq_true rfl) (Nat.le_of_ble_eq_true rfl) (fun r9 h10 => ?_)
      refine z_callVV dX11_coded_115 (M_X1_tell _ _ _ _ _) bX1_tell lX11_192 kc_51 rfl rfl (Nat.le_of_ble_eq_true rfl) (Nat.le_of_ble_eq_true rfl) (fun r11 h12 => ?_)
      refine z_iincL (lv2 := fun v13 => [(5, .int v13), (0, .ref 0), (2, .int x2), (3, .int x3)]) dX11_coded_118 3 rfl rfl (Nat.le_of_ble_eq_true rfl) (fun _ => rfl) (fun v13 => ?_)
      refine z_goto (tgt := 66) dX11_coded_121 (by decide) ?_
      exact z_sub [1, 2, 3, 0] rfl (ih _ _ _ _)
set_option maxHeartbeats 4000000 in
set_option maxRecDepth 100000 in
theorem w_X11_coded (x1 : Int32) (x2 : Int32) (x3 : Int32) (h : AHp) : WO tvI QX11_coded 56 0 [(0, .ref 0), (1, .int x1), (2, .int x2), (3, .int x3)] [] h (m_X11_coded x1 x2 x3 h) := by
  unfold m_X11_coded
  refine z_iload_n dX11_coded_0 1 rfl ?_
  refine z_iconst (v := 2) dX11_coded_1 (by decide) ?_
  refine z_ic_lt (tgt := 29) dX11_coded_2 (by decide) ?_ ?_
  · refine z_iconst (v := -1) dX11_coded_29 (by decide) ?_
    exact z_iret dX11_coded_30 rfl
  · refine z_iload_n dX11_coded_5 1 rfl ?_
    refine z_iconst (v := 5) dX11_coded_6 (by decide) ?_
    refine z_ic_gt (tgt := 29) dX11_coded_7 (by decide) ?_ ?_
    · refine z_iconst (v := -1) dX11_coded_29 (by decide) ?_
      exact z_iret dX11_coded_30 rfl
    · refine z_aload_n dX11_coded_10 0 rfl ?_
      refine z_iload_n dX11_coded_11 2 rfl ?_
      refine z_bipush (v := 12) dX11_coded_12 (by decide) ?_
      refine z_iconst (v := 3) dX11_coded_14 (by decide) ?_
      refine z_callVI dX11_coded_15 (M_X11_isOnTape _ _ _ _) bX11_isOnTape lX11_103 kc_0 rfl rfl (Nat.le_of_ble_eq_true rfl) (Nat.le_of_ble_eq_true rfl) (fun r14 h15 => ?_)
      refine z_if_eq (tgt := 29) dX11_coded_18 (by decide) ?_ ?_
      · refine z_iconst (v := -1) dX11_coded_29 (by decide) ?_
        exact z_iret dX11_coded_30 rfl
      · refine z_iload_n dX11_coded_21 2 rfl ?_
        refine z_iload_n dX11_coded_22 3 rfl ?_
        refine z_callSI dX11_coded_23 (M_X11_isHeldPlace _ _ _) bX11_isHeldPlace lX11_183 rfl rfl (Nat.le_of_ble_eq_true rfl) (Nat.le_of_ble_eq_true rfl) (fun r16 h17 => ?_)
        refine z_if_ne (tgt := 31) dX11_coded_26 (by decide) ?_ ?_
        · refine z_bipush (v := -3) dX11_coded_31 (by decide) ?_
          refine z_istore (lv2 := [(4, .int (-3)), (0, .ref 0), (1, .int x1), (2, .int x2), (3, .int x3)]) dX11_coded_33 (Nat.le_of_ble_eq_true rfl) rfl ?_
          refine z_aload_n dX11_coded_35 1 rfl ?_
          refine z_iload_n dX11_coded_36 3 rfl ?_
          refine z_iconst (v := 3) dX11_coded_37 (by decide) ?_
          refine z_callVI dX11_coded_38 (M_X11_tellsSpeakersAndThings _ _ _) bX11_tellsSpeakersAndThings lX11_176 kc_0 rfl rfl (Nat.le_of_ble_eq_true rfl) (Nat.le_of_ble_eq_true rfl) (fun r18 h19 => ?_)
          refine z_if_eq (tgt := 138) dX11_coded_41 (by decide) ?_ ?_
          · refine z_aload_n dX11_coded_138 1 rfl ?_
            refine z_getR (j := 1) fX11_18 kc_0 rfl rfl rfl (by decide) dX11_coded_139 ?_
            refine z_callVV dX11_coded_142 (M_X8_clear _) bX8_clear lX11_111 kc_1 rfl rfl (Nat.le_of_ble_eq_true rfl) (Nat.le_of_ble_eq_true rfl) (fun r20 h21 => ?_)
            refine z_iload dX11_coded_145 0 rfl ?_
            exact z_iret dX11_coded_147 rfl
          · refine z_aload_n dX11_coded_44 1 rfl ?_
            refine z_iload_n dX11_coded_45 2 rfl ?_
            refine z_iload_n dX11_coded_46 3 rfl ?_
            refine z_callVI dX11_coded_47 (M_X11_tellsDigits _ _ _) bX11_tellsDigits lX11_200 kc_0 rfl rfl (Nat.le_of_ble_eq_true rfl) (Nat.le_of_ble_eq_true rfl) (fun r22 h23 => ?_)
            refine z_if_eq (tgt := 138) dX11_coded_50 (by decide) ?_ ?_
            · refine z_aload_n dX11_coded_138 1 rfl ?_
              refine z_getR (j := 1) fX11_18 kc_0 rfl rfl rfl (by decide) dX11_coded_139 ?_
              refine z_callVV dX11_coded_142 (M_X8_clear _) bX8_clear lX11_111 kc_1 rfl rfl (Nat.le_of_ble_eq_true rfl) (Nat.le_of_ble_eq_true rfl) (fun r24 h25 => ?_)
              refine z_iload dX11_coded_145 0 rfl ?_
              exact z_iret dX11_coded_147 rfl
            · refine z_aload_n dX11_coded_53 1 rfl ?_
              refine z_getR (j := 51) fX11_54 kc_0 rfl rfl rfl (by decide) dX11_coded_54 ?_
              refine z_iconst (v := 1) dX11_coded_57 (by decide) ?_
              refine z_iload_n dX11_coded_58 2 rfl ?_
              refine z_iload_n dX11_coded_59 3 rfl ?_
              refine z_callVV dX11_coded_60 (M_X1_begin _ _ _ _) bX1_begin lX11_186 kc_51 rfl rfl (Nat.le_of_ble_eq_true rfl) (Nat.le_of_ble_eq_true rfl) (fun r26 h27 => ?_)
              refine z_iconst (v := 0) dX11_coded_63 (by decide) ?_
              refine z_istore (lv2 := [(5, .int 0), (4, .int (-3)), (0, .ref 0), (1, .int x1), (2, .int x2), (3, .int x3)]) dX11_coded_64 (Nat.le_of_ble_eq_true rfl) rfl ?_
              exact z_sub [2, 4, 5, 0] rfl (w_X11_coded_66 FU _ _ _ _)
        · refine z_iconst (v := -1) dX11_coded_29 (by decide) ?_
          exact z_iret dX11_coded_30 rfl
theorem M_X11_coded (x1 : Int32) (x2 : Int32) (x3 : Int32) (h : AHp) : MI QX11_coded 56 [.ref 0, .int x1, .int x2, .int x3] h (m_X11_coded x1 x2 x3 h) := MI.of (by decide) rfl rfl (Nat.le_of_ble_eq_true rfl) (w_X11_coded x1 x2 x3 h)
set_option maxHeartbeats 4000000 in
set_option maxRecDepth 100000 in
theorem w_X11_isHeardPlace_10 (x0 : Int32) (x1 : Int32) (h : AHp) : WO tvI QX11_isHeardPlace 0 10 [(0, .int x0), (1, .int x1)] [] h (m_X11_isHeardPlace_10 x0 x1 h) := by
  unfold m_X11_isHeardPlace_10
  refine z_iload_n dX11_isHeardPlace_10 1 rfl ?_
  refine z_bipush (v := 10) dX11_isHeardPlace_11 (by decide) ?_
  refine z_ic_lt (tgt := 28) dX11_isHeardPlace_13 (by decide) ?_ ?_
  · refine z_iconst (v := 0) dX11_isHeardPlace_28 (by decide) ?_
    exact z_zret dX11_isHeardPlace_29 rfl (Or.inl rfl)
  · refine z_iload_n dX11_isHeardPlace_16 1 rfl ?_
    refine z_bipush (v := 10) dX11_isHeardPlace_17 (by decide) ?_
    refine z_iload_n dX11_isHeardPlace_19 0 rfl ?_
    refine z_iadd dX11_isHeardPlace_20 ?_
    refine z_ic_ge (tgt := 28) dX11_isHeardPlace_21 (by decide) ?_ ?_
    · refine z_iconst (v := 0) dX11_isHeardPlace_28 (by decide) ?_
      exact z_zret dX11_isHeardPlace_29 rfl (Or.inl rfl)
    · refine z_iconst (v := 1) dX11_isHeardPlace_24 (by decide) ?_
      refine z_goto (tgt := 29) dX11_isHeardPlace_25 (by decide) ?_
      exact z_zret dX11_isHeardPlace_29 rfl (Or.inr rfl)
set_option maxHeartbeats 4000000 in
set_option maxRecDepth 100000 in
theorem w_X11_isHeardPlace (x0 : Int32) (x1 : Int32) (h : AHp) : WO tvI QX11_isHeardPlace 0 0 [(0, .int x0), (1, .int x1)] [] h (m_X11_isHeardPlace x0 x1 h) := by
  unfold m_X11_isHeardPlace
  refine z_iload_n dX11_isHeardPlace_0 1 rfl ?_
  refine z_iconst (v := -1) dX11_isHeardPlace_1 (by decide) ?_
  refine z_ic_lt (tgt := 10) dX11_isHeardPlace_2 (by decide) ?_ ?_
  · exact w_X11_isHeardPlace_10 _ _ _
  · refine z_iload_n dX11_isHeardPlace_5 1 rfl ?_
    refine z_iload_n dX11_isHeardPlace_6 0 rfl ?_
    refine z_ic_lt (tgt := 24) dX11_isHeardPlace_7 (by decide) ?_ ?_
    · refine z_iconst (v := 1) dX11_isHeardPlace_24 (by decide) ?_
      refine z_goto (tgt := 29) dX11_isHeardPlace_25 (by decide) ?_
      exact z_zret dX11_isHeardPlace_29 rfl (Or.inr rfl)
    · exact w_X11_isHeardPlace_10 _ _ _
theorem M_X11_isHeardPlace (x0 : Int32) (x1 : Int32) (h : AHp) : MI QX11_isHeardPlace 0 [.int x0, .int x1] h (m_X11_isHeardPlace x0 x1 h) := MI.of (by decide) rfl rfl (Nat.le_of_ble_eq_true rfl) (w_X11_isHeardPlace x0 x1 h)
set_option maxHeartbeats 4000000 in
set_option maxRecDepth 100000 in
theorem w_X11_tellsSpeakersAndLengths_2 : ∀ (f : Nat) (x1 : Int32) (x2 : Int32) (h : AHp), WO tvI QX11_tellsSpeakersAndLengths 1 2 [(0, .ref 0), (1, .int x1), (2, .int x2)] [] h (m_X11_tellsSpeakersAndLengths_2 f x1 x2 h) := by
  intro f
  induction f with
  | zero => intro x1 x2 h; exact z_none
  | succ f ih =>
    intro x1 x2 h
    rw [m_X11_tellsSpeakersAndLengths_2]
    refine z_iload_n dX11_tellsSpeakersAndLengths_2 2 rfl ?_
    refine z_iload_n dX11_tellsSpeakersAndLengths_3 1 rfl ?_
    refine z_ic_ge (tgt := 55) dX11_tellsSpeakersAndLengths_4 (by decide) ?_ ?_
    · refine z_iconst (v := 1) dX11_tellsSpeakersAndLengths_55 (by decide) ?_
      exact z_zret dX11_tellsSpeakersAndLengths_56 rfl (Or.inr rfl)
    · refine z_aload_n dX11_tellsSpeakersAndLengths_7 0 rfl ?_
      refine z_getR (j := 1) fX11_18 kc_0 rfl rfl rfl (by decide) dX11_tellsSpeakersAndLengths_8 ?_
      refine z_iconst (v := 2) dX11_tellsSpeakersAndLengths_11 (by decide) ?_
      refine z_iload_n dX11_tellsSpeakersAndLengths_12 2 rfl ?_
      refine z_imul dX11_tellsSpeakersAndLengths_13 ?_
      refine z_iconst (v := 1) dX11_tellsSpeakersAndLengths_14 (by decide) ?_
      refine z_iadd dX11_tellsSpeakersAndLengths_15 ?_
      refine z_callVI dX11_tellsSpeakersAndLengths_16 (M_X8_byteAt _ _) bX8_byteAt lX11_189 kc_1 rfl rfl (Nat.le_of_ble_eq_true rfl) (Nat.le_of_ble_eq_true rfl) (fun r1 h2 => ?_)
      refine z_istore_n (lv2 := [(3, .int r1), (0, .ref 0), (1, .int x1), (2, .int x2)]) dX11_tellsSpeakersAndLengths_19 (Nat.le_of_ble_eq_true rfl) rfl ?_
      refine z_aload_n dX11_tellsSpeakersAndLengths_20 1 rfl ?_
      refine z_getR (j := 1) fX11_18 kc_0 rfl rfl rfl (by decide) dX11_tellsSpeakersAndLengths_21 ?_
      refine z_iconst (v := 2) dX11_tellsSpeakersAndLengths_24 (by decide) ?_
      refine z_iload_n dX11_tellsSpeakersAndLengths_25 3 rfl ?_
      refine z_imul dX11_tellsSpeakersAndLengths_26 ?_
      refine z_callVI dX11_tellsSpeakersAndLengths_27 (M_X8_byteAt _ _) bX8_byteAt lX11_189 kc_1 rfl rfl (Nat.le_of_ble_eq_true rfl) (Nat.le_of_ble_eq_true rfl) (fun r3 h4 => ?_)
      refine z_callSI dX11_tellsSpeakersAndLengths_30 (M_X11_isSpeaker _ _) bX11_isSpeaker lX11_126 rfl rfl (Nat.le_of_ble_eq_true rfl) (Nat.le_of_ble_eq_true rfl) (fun r5 h6 => ?_)
      refine z_if_eq (tgt := 47) dX11_tellsSpeakersAndLengths_33 (by decide) ?_ ?_
      · refine z_iconst (v := 0) dX11_tellsSpeakersAndLengths_47 (by decide) ?_
        exact z_zret dX11_tellsSpeakersAndLengths_48 rfl (Or.inl rfl)
      · refine z_iload_n dX11_tellsSpeakersAndLengths_36 0 rfl ?_
        refine z_iconst (v := 1) dX11_tellsSpeakersAndLengths_37 (by decide) ?_
        refine z_ic_lt (tgt := 47) dX11_tellsSpeakersAndLengths_38 (by decide) ?_ ?_
        · refine z_iconst (v := 0) dX11_tellsSpeakersAndLengths_47 (by decide) ?_
          exact z_zret dX11_tellsSpeakersAndLengths_48 rfl (Or.inl rfl)
        · refine z_iload_n dX11_tellsSpeakersAndLengths_41 0 rfl ?_
          refine z_bipush (v := 24) dX11_tellsSpeakersAndLengths_42 (by decide) ?_
          refine z_ic_le (tgt := 49) dX11_tellsSpeakersAndLengths_44 (by decide) ?_ ?_
          · refine z_iincL (lv2 := fun v7 => [(2, .int v7), (3, .int r1), (0, .ref 0), (1, .int x1)]) dX11_tellsSpeakersAndLengths_49 3 rfl rfl (Nat.le_of_ble_eq_true rfl) (fun _ => rfl) (fun v7 => ?_)
            refine z_goto (tgt := 2) dX11_tellsSpeakersAndLengths_52 (by decide) ?_
            exact z_sub [2, 3, 0] rfl (ih _ _ _)
          · refine z_iconst (v := 0) dX11_tellsSpeakersAndLengths_47 (by decide) ?_
            exact z_zret dX11_tellsSpeakersAndLengths_48 rfl (Or.inl rfl)
set_option maxHeartbeats 4000000 in
set_option maxRecDepth 100000 in
theorem w_X11_tellsSpeakersAndLengths (x1 : Int32) (h : AHp) : WO tvI QX11_tellsSpeakersAndLengths 1 0 [(0, .ref 0), (1, .int x1)] [] h (m_X11_tellsSpeakersAndLengths x1 h) := by
  unfold m_X11_tellsSpeakersAndLengths
  refine z_iconst (v := 0) dX11_tellsSpeakersAndLengths_0 (by decide) ?_
  refine z_istore_n (lv2 := [(2, .int 0), (0, .ref 0), (1, .int x1)]) dX11_tellsSpeakersAndLengths_1 (Nat.le_of_ble_eq_true rfl) rfl ?_
  exact z_sub [1, 2, 0] rfl (w_X11_tellsSpeakersAndLengths_2 FU _ _ _)
theorem M_X11_tellsSpeakersAndLengths (x1 : Int32) (h : AHp) : MI QX11_tellsSpeakersAndLengths 1 [.ref 0, .int x1] h (m_X11_tellsSpeakersAndLengths x1 h) := MI.of (by decide) rfl rfl (Nat.le_of_ble_eq_true rfl) (w_X11_tellsSpeakersAndLengths x1 h)
set_option maxHeartbeats 4000000 in
set_option maxRecDepth 100000 in
theorem w_X9_thingsIn_5 : ∀ (f : Nat) (x1 : Int32) (x2 : Int32) (x3 : Int32) (x4 : Int32) (h : AHp), WO tvI QX9_thingsIn 3 5 [(0, .ref 3), (1, .int x1), (2, .int x2), (3, .int x3), (4, .int x4)] [] h (m_X9_thingsIn_5 f x1 x2 x3 x4 h) := by
  intro f
  induction f with
  | zero => intro x1 x2 x3 x4 h; exact z_none
  | succ f ih =>
    intro x1 x2 x3 x4 h
    rw [m_X9_thingsIn_5]
    refine z_iload dX9_thingsIn_5 4 rfl ?_
    refine z_bipush (v := 12) dX9_thingsIn_7 (by decide) ?_
    refine z_ic_ge (tgt := 52) dX9_thingsIn_9 (by decide) ?_ ?_
    · refine z_iload_n dX9_thingsIn_52 3 rfl ?_
      exact z_iret dX9_thingsIn_53 rfl
    · refine z_aload_n dX9_thingsIn_12 0 rfl ?_
      refine z_iload dX9_thingsIn_13 4 rfl ?_
      refine z_iload_n dX9_thingsIn_15 2 rfl ?_
      refine z_callVI dX9_thingsIn_16 (M_X9_bitOf _ _ _) bX9_bitOf lX9_66 kc_3 rfl rfl (Nat.le_of_ble_eq_true rfl) (Nat.le_of_ble_eq_true rfl) (fun r1 h2 => ?_)
      refine z_istore (lv2 := [(5, .int r1), (0, .ref 3), (1, .int x1), (2, .int x2), (3, .int x3), (4, .int x4)]) dX9_thingsIn_19 (Nat.le_of_ble_eq_true rfl) rfl ?_
      refine z_iload dX9_thingsIn_21 0 rfl ?_
      refine z_if_eq (tgt := 46) dX9_thingsIn_23 (by decide) ?_ ?_
      · refine z_iincL (lv2 := fun v3 => [(4, .int v3), (5, .int r1), (0, .ref 3), (1, .int x1), (2, .int x2), (3, .int x3)]) dX9_thingsIn_46 5 rfl rfl (Nat.le_of_ble_eq_true rfl) (fun _ => rfl) (fun v3 => ?_)
        refine z_goto (tgt := 5) dX9_thingsIn_49 (by decide) ?_
        exact z_sub [2, 3, 4, 5, 0] rfl (ih _ _ _ _ _)
      · refine z_aload_n dX9_thingsIn_26 1 rfl ?_
        refine z_iconst (v := 1) dX9_thingsIn_27 (by decide) ?_
        refine z_iload_n dX9_thingsIn_28 2 rfl ?_
        refine z_iload dX9_thingsIn_29 5 rfl ?_
        refine z_iload dX9_thingsIn_31 0 rfl ?_
        refine z_callVI dX9_thingsIn_33 (M_X9_lets _ _ _ _ _) bX9_lets lX9_62 kc_3 rfl rfl (Nat.le_of_ble_eq_true rfl) (Nat.le_of_ble_eq_true rfl) (fun r4 h5 => ?_)
        refine z_if_eq (tgt := 46) dX9_thingsIn_36 (by decide) ?_ ?_
        · refine z_iincL (lv2 := fun v6 => [(4, .int v6), (5, .int r1), (0, .ref 3), (1, .int x1), (2, .int x2), (3, .int x3)]) dX9_thingsIn_46 5 rfl rfl (Nat.le_of_ble_eq_true rfl) (fun _ => rfl) (fun v6 => ?_)
          refine z_goto (tgt := 5) dX9_thingsIn_49 (by decide) ?_
          exact z_sub [2, 3, 4, 5, 0] rfl (ih _ _ _ _ _)
        · refine z_iload_n dX9_thingsIn_39 4 rfl ?_
          refine z_iconst (v := 1) dX9_thingsIn_40 (by decide) ?_
          refine z_iload dX9_thingsIn_41 5 rfl ?_
          refine z_ishl dX9_thingsIn_43 ?_
          refine z_ior dX9_thingsIn_44 ?_
          refine z_istore_nL (lv2 := fun v7 => [(3, .int v7), (5, .int r1), (0, .ref 3), (1, .int x1), (2, .int x2), (4, .int x4)]) dX9_thingsIn_45 (Nat.le_of_ble_eq_true rfl) (fun _ => rfl) (fun v7 => ?_)
          refine z_iincL (lv2 := fun v8 => [(4, .int v8), (3, .int v7), (5, .int r1), (0, .ref 3), (1, .int x1), (2, .int x2)]) dX9_thingsIn_46 5 rfl rfl (Nat.le_of_ble_eq_true rfl) (fun _ => rfl) (fun v8 => ?_)
          refine z_goto (tgt := 5) dX9_thingsIn_49 (by decide) ?_
          exact z_sub [3, 4, 5, 1, 0] rfl (ih _ _ _ _ _)
set_option maxHeartbeats 4000000 in
set_option maxRecDepth 100000 in
theorem w_X9_thingsIn (x1 : Int32) (x2 : Int32) (h : AHp) : WO tvI QX9_thingsIn 3 0 [(0, .ref 3), (1, .int x1), (2, .int x2)] [] h (m_X9_thingsIn x1 x2 h) := by
  unfold m_X9_thingsIn
  refine z_iconst (v := 0) dX9_thingsIn_0 (by decide) ?_
  refine z_istore_n (lv2 := [(3, .int 0), (0, .ref 3), (1, .int x1), (2, .int x2)]) dX9_thingsIn_1 (Nat.le_of_ble_eq_true rfl) rfl ?_
  refine z_iconst (v := 0) dX9_thingsIn_2 (by decide) ?_
  refine z_istore (lv2 := [(4, .int 0), (3, .int 0), (0, .ref 3), (1, .int x1), (2, .int x2)]) dX9_thingsIn_3 (Nat.le_of_ble_eq_true rfl) rfl ?_
  exact z_sub [2, 3, 4, 1, 0] rfl (w_X9_thingsIn_5 FU _ _ _ _ _)
theorem M_X9_thingsIn (x1 : Int32) (x2 : Int32) (h : AHp) : MI QX9_thingsIn 3 [.ref 3, .int x1, .int x2] h (m_X9_thingsIn x1 x2 h) := MI.of (by decide) rfl rfl (Nat.le_of_ble_eq_true rfl) (w_X9_thingsIn x1 x2 h)
set_option maxHeartbeats 4000000 in
set_option maxRecDepth 100000 in
theorem w_X11_heardAnswer_184 (x2 : Int32) (x3 : Int64) (x5 : Int32) (h : AHp) : WO tvL QX11_heardAnswer 4 184 [(2, .int x2), (3, .long x3), (5, .int x5)] [] h (m_X11_heardAnswer_184 x2 x3 x5 h) := by
  unfold m_X11_heardAnswer_184
  refine z_iload_n dX11_heardAnswer_184 0 rfl ?_
  refine z_iconst (v := -1) dX11_heardAnswer_185 (by decide) ?_
  refine z_ic_ne (tgt := 191) dX11_heardAnswer_186 (by decide) ?_ ?_
  · refine z_iload_n dX11_heardAnswer_191 0 rfl ?_
    refine z_bipush (v := 10) dX11_heardAnswer_192 (by decide) ?_
    refine z_ic_lt (tgt := 211) dX11_heardAnswer_194 (by decide) ?_ ?_
    · refine z_lload_n dX11_heardAnswer_211 1 rfl ?_
      refine z_lconst (v := 0) dX11_heardAnswer_212 (by decide) ?_
      refine z_lcmp dX11_heardAnswer_213 ?_
      refine z_if_ne (tgt := 223) dX11_heardAnswer_214 (by decide) ?_ ?_
      · refine z_iload dX11_heardAnswer_223 2 rfl ?_
        refine z_iconst (v := 0) dX11_heardAnswer_225 (by decide) ?_
        refine z_callSI dX11_heardAnswer_226 (M_X11_placeOfBit _ _ _) bX11_placeOfBit lX11_295 rfl rfl (Nat.le_of_ble_eq_true rfl) (Nat.le_of_ble_eq_true rfl) (fun r1 h2 => ?_)
        refine z_i2l dX11_heardAnswer_229 ?_
        exact z_lret dX11_heardAnswer_230 rfl
      · refine z_ldc2 dX11_heardAnswer_217 kX11_293 ?_
        refine z_goto (tgt := 230) dX11_heardAnswer_220 (by decide) ?_
        exact z_lret dX11_heardAnswer_230 rfl
    · refine z_lload_n dX11_heardAnswer_197 1 rfl ?_
      refine z_lconst (v := 0) dX11_heardAnswer_198 (by decide) ?_
      refine z_lcmp dX11_heardAnswer_199 ?_
      refine z_if_ne (tgt := 207) dX11_heardAnswer_200 (by decide) ?_ ?_
      · refine z_iload dX11_heardAnswer_207 2 rfl ?_
        refine z_i2l dX11_heardAnswer_209 ?_
        exact z_lret dX11_heardAnswer_210 rfl
      · refine z_lconst (v := 0) dX11_heardAnswer_203 (by decide) ?_
        refine z_goto (tgt := 210) dX11_heardAnswer_204 (by decide) ?_
        exact z_lret dX11_heardAnswer_210 rfl
  · refine z_lload_n dX11_heardAnswer_189 1 rfl ?_
    exact z_lret dX11_heardAnswer_190 rfl
set_option maxHeartbeats 4000000 in
set_option maxRecDepth 100000 in
theorem w_X11_heardAnswer_62 : ∀ (f : Nat) (x1 : Int32) (x2 : Int32) (x3 : Int64) (x5 : Int32) (x6 : Int32) (x7 : Int32) (x8 : Int32) (x9 : Int32) (h : AHp), WO tvL QX11_heardAnswer 4 62 [(0, .ref 0), (1, .int x1), (2, .int x2), (3, .long x3), (5, .int x5), (6, .int x6), (7, .int x7), (8, .int x8), (9, .int x9)] [] h (m_X11_heardAnswer_62 f x1 x2 x3 x5 x6 x7 x8 x9 h) := by
  intro f
  induction f with
  | zero => intro x1 x2 x3 x5 x6 x7 x8 x9 h; exact z_none
  | succ f ih =>
    intro x1 x2 x3 x5 x6 x7 x8 x9 h
    rw [m_X11_heardAnswer_62]
    refine z_iload dX11_heardAnswer_62 8 rfl ?_
    refine z_iload_n dX11_heardAnswer_64 1 rfl ?_
    refine z_ic_ge (tgt := 184) dX11_heardAnswer_65 (by decide) ?_ ?_
    · exact z_sub [2, 3, 4] rfl (w_X11_heardAnswer_184 _ _ _ _)
    · refine z_lload_n dX11_heardAnswer_68 3 rfl ?_
      refine z_lconst (v := 0) dX11_heardAnswer_69 (by decide) ?_
      refine z_lcmp dX11_heardAnswer_70 ?_
      refine z_if_le (tgt := 184) dX11_heardAnswer_71 (by decide) ?_ ?_
      · exact z_sub [2, 3, 4] rfl (w_X11_heardAnswer_184 _ _ _ _)
      · refine z_aload_n dX11_heardAnswer_74 0 rfl ?_
        refine z_getR (j := 1) fX11_18 kc_0 rfl rfl rfl (by decide) dX11_heardAnswer_75 ?_
        refine z_iconst (v := 2) dX11_heardAnswer_78 (by decide) ?_
        refine z_iload dX11_heardAnswer_79 8 rfl ?_
        refine z_imul dX11_heardAnswer_81 ?_
        refine z_callVI dX11_heardAnswer_82 (M_X8_byteAt _ _) bX8_byteAt lX11_189 kc_1 rfl rfl (Nat.le_of_ble_eq_true rfl) (Nat.le_of_ble_eq_true rfl) (fun r3 h4 => ?_)
        refine z_istore (lv2 := [(10, .int r3), (0, .ref 0), (1, .int x1), (2, .int x2), (3, .long x3), (5, .int x5), (6, .int x6), (7, .int x7), (8, .int x8), (9, .int x9)]) dX11_heardAnswer_85 (Nat.le_of_ble_eq_true rfl) rfl ?_
        refine z_aload_n dX11_heardAnswer_87 1 rfl ?_
        refine z_getR (j := 1) fX11_18 kc_0 rfl rfl rfl (by decide) dX11_heardAnswer_88 ?_
        refine z_iconst (v := 2) dX11_heardAnswer_91 (by decide) ?_
        refine z_iload dX11_heardAnswer_92 9 rfl ?_
        refine z_imul dX11_heardAnswer_94 ?_
        refine z_iconst (v := 1) dX11_heardAnswer_95 (by decide) ?_
        refine z_iadd dX11_heardAnswer_96 ?_
        refine z_callVI dX11_heardAnswer_97 (M_X8_byteAt _ _) bX8_byteAt lX11_189 kc_1 rfl rfl (Nat.le_of_ble_eq_true rfl) (Nat.le_of_ble_eq_true rfl) (fun r5 h6 => ?_)
        refine z_istore (lv2 := [(11, .int r5), (10, .int r3), (0, .ref 0), (1, .int x1), (2, .int x2), (3, .long x3), (5, .int x5), (6, .int x6), (7, .int x7), (8, .int x8), (9, .int x9)]) dX11_heardAnswer_100 (Nat.le_of_ble_eq_true rfl) rfl ?_
        refine z_aload_n dX11_heardAnswer_102 2 rfl ?_
        refine z_getR (j := 3) fX11_31 kc_0 rfl rfl rfl (by decide) dX11_heardAnswer_103 ?_
        refine z_iload dX11_heardAnswer_106 7 rfl ?_
        refine z_iload dX11_heardAnswer_108 8 rfl ?_
        refine z_iload dX11_heardAnswer_110 9 rfl ?_
        refine z_aload_n dX11_heardAnswer_112 2 rfl ?_
        refine z_getR (j := 42) fX11_38 kc_0 rfl rfl rfl (by decide) dX11_heardAnswer_113 ?_
        refine z_getIN fX11_157 kc_42 rfl dX11_heardAnswer_116 ?_
        refine z_iload dX11_heardAnswer_119 10 rfl ?_
        refine z_iadd dX11_heardAnswer_121 ?_
        refine z_callVV dX11_heardAnswer_122 (M_X9_stand _ _ _ _ _) bX9_stand lX11_284 kc_3 rfl rfl (Nat.le_of_ble_eq_true rfl) (Nat.le_of_ble_eq_true rfl) (fun r7 h8 => ?_)
        refine z_aload_n dX11_heardAnswer_125 2 rfl ?_
        refine z_getR (j := 3) fX11_31 kc_0 rfl rfl rfl (by decide) dX11_heardAnswer_126 ?_
        refine z_iload dX11_heardAnswer_129 1 rfl ?_
        refine z_iload dX11_heardAnswer_131 0 rfl ?_
        refine z_callVI dX11_heardAnswer_133 (M_X9_thingsIn _ _ _) bX9_thingsIn lX11_290 kc_3 rfl rfl (Nat.le_of_ble_eq_true rfl) (Nat.le_of_ble_eq_true rfl) (fun r9 h10 => ?_)
        refine z_istore (lv2 := [(12, .int r9), (11, .int r5), (10, .int r3), (0, .ref 0), (1, .int x1), (2, .int x2), (3, .long x3), (5, .int x5), (6, .int x6), (7, .int x7), (8, .int x8), (9, .int x9)]) dX11_heardAnswer_136 (Nat.le_of_ble_eq_true rfl) rfl ?_
        refine z_lload_n dX11_heardAnswer_138 6 rfl ?_
        refine z_iload dX11_heardAnswer_139 0 rfl ?_
        refine z_callSI dX11_heardAnswer_141 (M_J6_bitCount_0f7a4 _ _) bJ6_bitCount_0f7a4 lX11_118 rfl rfl (Nat.le_of_ble_eq_true rfl) (Nat.le_of_ble_eq_true rfl) (fun r11 h12 => ?_)
        refine z_i2l dX11_heardAnswer_144 ?_
        refine z_lmul dX11_heardAnswer_145 ?_
        refine z_lstore_nL (lv2 := fun v13 => [(3, .long v13), (12, .int r9), (11, .int r5), (10, .int r3), (0, .ref 0), (1, .int x1), (2, .int x2), (5, .int x5), (6, .int x6), (7, .int x7), (8, .int x8), (9, .int x9)]) dX11_heardAnswer_146 (Nat.le_of_ble_eq_true rfl) (fun _ => rfl) (fun v13 => ?_)
        refine z_iload_n dX11_heardAnswer_147 6 rfl ?_
        refine z_iload dX11_heardAnswer_148 11 rfl ?_
        refine z_ic_eq (tgt := 162) dX11_heardAnswer_150 (by decide) ?_ ?_
        · refine z_iload dX11_heardAnswer_162 1 rfl ?_
          refine z_istore (lv2 := [(5, .int r9), (3, .long v13), (12, .int r9), (11, .int r5), (10, .int r3), (0, .ref 0), (1, .int x1), (2, .int x2), (6, .int x6), (7, .int x7), (8, .int x8), (9, .int x9)]) dX11_heardAnswer_164 (Nat.le_of_ble_eq_true rfl) rfl ?_
          refine z_iload dX11_heardAnswer_166 8 rfl ?_
          refine z_istore (lv2 := [(7, .int x6), (5, .int r9), (3, .long v13), (12, .int r9), (11, .int r5), (10, .int r3), (0, .ref 0), (1, .int x1), (2, .int x2), (6, .int x6), (8, .int x8), (9, .int x9)]) dX11_heardAnswer_168 (Nat.le_of_ble_eq_true rfl) rfl ?_
          refine z_iload dX11_heardAnswer_170 4 rfl ?_
          refine z_istore (lv2 := [(6, .int r5), (7, .int x6), (5, .int r9), (3, .long v13), (12, .int r9), (11, .int r5), (10, .int r3), (0, .ref 0), (1, .int x1), (2, .int x2), (8, .int x8), (9, .int x9)]) dX11_heardAnswer_172 (Nat.le_of_ble_eq_true rfl) rfl ?_
          refine z_iload dX11_heardAnswer_174 6 rfl ?_
          refine z_istore (lv2 := [(8, .int r3), (6, .int r5), (7, .int x6), (5, .int r9), (3, .long v13), (12, .int r9), (11, .int r5), (10, .int r3), (0, .ref 0), (1, .int x1), (2, .int x2), (9, .int x9)]) dX11_heardAnswer_176 (Nat.le_of_ble_eq_true rfl) rfl ?_
          refine z_iincL (lv2 := fun v14 => [(9, .int v14), (8, .int r3), (6, .int r5), (7, .int x6), (5, .int r9), (3, .long v13), (12, .int r9), (11, .int r5), (10, .int r3), (0, .ref 0), (1, .int x1), (2, .int x2)]) dX11_heardAnswer_178 11 rfl rfl (Nat.le_of_ble_eq_true rfl) (fun _ => rfl) (fun v14 => ?_)
          refine z_goto (tgt := 62) dX11_heardAnswer_181 (by decide) ?_
          exact z_sub [9, 10, 11, 5, 4, 2, 3, 1, 0] rfl (ih _ _ _ _ _ _ _ _ _)
        · refine z_iload_n dX11_heardAnswer_153 6 rfl ?_
          refine z_bipush (v := 10) dX11_heardAnswer_154 (by decide) ?_
          refine z_iload dX11_heardAnswer_156 11 rfl ?_
          refine z_iadd dX11_heardAnswer_158 ?_
          refine z_ic_ne (tgt := 166) dX11_heardAnswer_159 (by decide) ?_ ?_
          · refine z_iload dX11_heardAnswer_166 8 rfl ?_
            refine z_istore (lv2 := [(7, .int x6), (3, .long v13), (12, .int r9), (11, .int r5), (10, .int r3), (0, .ref 0), (1, .int x1), (2, .int x2), (5, .int x5), (6, .int x6), (8, .int x8), (9, .int x9)]) dX11_heardAnswer_168 (Nat.le_of_ble_eq_true rfl) rfl ?_
            refine z_iload dX11_heardAnswer_170 3 rfl ?_
            refine z_istore (lv2 := [(6, .int r5), (7, .int x6), (3, .long v13), (12, .int r9), (11, .int r5), (10, .int r3), (0, .ref 0), (1, .int x1), (2, .int x2), (5, .int x5), (8, .int x8), (9, .int x9)]) dX11_heardAnswer_172 (Nat.le_of_ble_eq_true rfl) rfl ?_
            refine z_iload dX11_heardAnswer_174 5 rfl ?_
            refine z_istore (lv2 := [(8, .int r3), (6, .int r5), (7, .int x6), (3, .long v13), (12, .int r9), (11, .int r5), (10, .int r3), (0, .ref 0), (1, .int x1), (2, .int x2), (5, .int x5), (9, .int x9)]) dX11_heardAnswer_176 (Nat.le_of_ble_eq_true rfl) rfl ?_
            refine z_iincL (lv2 := fun v15 => [(9, .int v15), (8, .int r3), (6, .int r5), (7, .int x6), (3, .long v13), (12, .int r9), (11, .int r5), (10, .int r3), (0, .ref 0), (1, .int x1), (2, .int x2), (5, .int x5)]) dX11_heardAnswer_178 11 rfl rfl (Nat.le_of_ble_eq_true rfl) (fun _ => rfl) (fun v15 => ?_)
            refine z_goto (tgt := 62) dX11_heardAnswer_181 (by decide) ?_
            exact z_sub [8, 9, 10, 4, 11, 2, 3, 1, 0] rfl (ih _ _ _ _ _ _ _ _ _)
          · refine z_iload dX11_heardAnswer_162 1 rfl ?_
            refine z_istore (lv2 := [(5, .int r9), (3, .long v13), (12, .int r9), (11, .int r5), (10, .int r3), (0, .ref 0), (1, .int x1), (2, .int x2), (6, .int x6), (7, .int x7), (8, .int x8), (9, .int x9)]) dX11_heardAnswer_164 (Nat.le_of_ble_eq_true rfl) rfl ?_
            refine z_iload dX11_heardAnswer_166 8 rfl ?_
            refine z_istore (lv2 := [(7, .int x6), (5, .int r9), (3, .long v13), (12, .int r9), (11, .int r5), (10, .int r3), (0, .ref 0), (1, .int x1), (2, .int x2), (6, .int x6), (8, .int x8), (9, .int x9)]) dX11_heardAnswer_168 (Nat.le_of_ble_eq_true rfl) rfl ?_
            refine z_iload dX11_heardAnswer_170 4 rfl ?_
            refine z_istore (lv2 := [(6, .int r5), (7, .int x6), (5, .int r9), (3, .long v13), (12, .int r9), (11, .int r5), (10, .int r3), (0, .ref 0), (1, .int x1), (2, .int x2), (8, .int x8), (9, .int x9)]) dX11_heardAnswer_172 (Nat.le_of_ble_eq_true rfl) rfl ?_
            refine z_iload dX11_heardAnswer_174 6 rfl ?_
            refine z_istore (lv2 := [(8, .int r3), (6, .int r5), (7, .int x6), (5, .int r9), (3, .long v13), (12, .int r9), (11, .int r5), (10, .int r3), (0, .ref 0), (1, .int x1), (2, .int x2), (9, .int x9)]) dX11_heardAnswer_176 (Nat.le_of_ble_eq_true rfl) rfl ?_
            refine z_iincL (lv2 := fun v16 => [(9, .int v16), (8, .int r3), (6, .int r5), (7, .int x6), (5, .int r9), (3, .long v13), (12, .int r9), (11, .int r5), (10, .int r3), (0, .ref 0), (1, .int x1), (2, .int x2)]) dX11_heardAnswer_178 11 rfl rfl (Nat.le_of_ble_eq_true rfl) (fun _ => rfl) (fun v16 => ?_)
            refine z_goto (tgt := 62) dX11_heardAnswer_181 (by decide) ?_
            exact z_sub [9, 10, 11, 5, 4, 2, 3, 1, 0] rfl (ih _ _ _ _ _ _ _ _ _)
set_option maxHeartbeats 4000000 in
set_option maxRecDepth 100000 in
theorem w_X11_heardAnswer (x1 : Int32) (x2 : Int32) (h : AHp) : WO tvL QX11_heardAnswer 4 0 [(0, .ref 0), (1, .int x1), (2, .int x2)] [] h (m_X11_heardAnswer x1 x2 h) := by
  unfold m_X11_heardAnswer
  refine z_lconst (v := 1) dX11_heardAnswer_0 (by decide) ?_
  refine z_lstore_n (lv2 := [(3, .long 1), (0, .ref 0), (1, .int x1), (2, .int x2)]) dX11_heardAnswer_1 (Nat.le_of_ble_eq_true rfl) rfl ?_
  refine z_iconst (v := 0) dX11_heardAnswer_2 (by decide) ?_
  refine z_istore (lv2 := [(5, .int 0), (3, .long 1), (0, .ref 0), (1, .int x1), (2, .int x2)]) dX11_heardAnswer_3 (Nat.le_of_ble_eq_true rfl) rfl ?_
  refine z_aload_n dX11_heardAnswer_5 2 rfl ?_
  refine z_getR (j := 42) fX11_38 kc_0 rfl rfl rfl (by decide) dX11_heardAnswer_6 ?_
  refine z_aload_n dX11_heardAnswer_9 2 rfl ?_
  refine z_getR (j := 42) fX11_38 kc_0 rfl rfl rfl (by decide) dX11_heardAnswer_10 ?_
  refine z_getIN fX11_157 kc_42 rfl dX11_heardAnswer_13 ?_
  refine z_iconst (v := 1) dX11_heardAnswer_16 (by decide) ?_
  refine z_isub dX11_heardAnswer_17 ?_
  refine z_callVI dX11_heardAnswer_18 (M_X7_spanAt _ _) bX7_spanAt lX11_170 kc_42 rfl rfl (Nat.le_of_ble_eq_true rfl) (Nat.le_of_ble_eq_true rfl) (fun r17 h18 => ?_)
  refine z_istore (lv2 := [(6, .int r17), (5, .int 0), (3, .long 1), (0, .ref 0), (1, .int x1), (2, .int x2)]) dX11_heardAnswer_21 (Nat.le_of_ble_eq_true rfl) rfl ?_
  refine z_aload_n dX11_heardAnswer_23 3 rfl ?_
  refine z_getR (j := 42) fX11_38 kc_0 rfl rfl rfl (by decide) dX11_heardAnswer_24 ?_
  refine z_aload_n dX11_heardAnswer_27 3 rfl ?_
  refine z_getR (j := 42) fX11_38 kc_0 rfl rfl rfl (by decide) dX11_heardAnswer_28 ?_
  refine z_getIN fX11_157 kc_42 rfl dX11_heardAnswer_31 ?_
  refine z_iconst (v := 2) dX11_heardAnswer_34 (by decide) ?_
  refine z_isub dX11_heardAnswer_35 ?_
  refine z_callVI dX11_heardAnswer_36 (M_X7_spanAt _ _) bX7_spanAt lX11_170 kc_42 rfl rfl (Nat.le_of_ble_eq_true rfl) (Nat.le_of_ble_eq_true rfl) (fun r19 h20 => ?_)
  refine z_istore (lv2 := [(7, .int r19), (6, .int r17), (5, .int 0), (3, .long 1), (0, .ref 0), (1, .int x1), (2, .int x2)]) dX11_heardAnswer_39 (Nat.le_of_ble_eq_true rfl) rfl ?_
  refine z_aload_n dX11_heardAnswer_41 4 rfl ?_
  refine z_getR (j := 42) fX11_38 kc_0 rfl rfl rfl (by decide) dX11_heardAnswer_42 ?_
  refine z_aload_n dX11_heardAnswer_45 4 rfl ?_
  refine z_getR (j := 42) fX11_38 kc_0 rfl rfl rfl (by decide) dX11_heardAnswer_46 ?_
  refine z_getIN fX11_157 kc_42 rfl dX11_heardAnswer_49 ?_
  refine z_iconst (v := 1) dX11_heardAnswer_52 (by decide) ?_
  refine z_isub dX11_heardAnswer_53 ?_
  refine z_callVI dX11_heardAnswer_54 (M_X7_speakerAt _ _) bX7_speakerAt lX11_164 kc_42 rfl rfl (Nat.le_of_ble_eq_true rfl) (Nat.le_of_ble_eq_true rfl) (fun r21 h22 => ?_)
  refine z_istore (lv2 := [(8, .int r21), (7, .int r19), (6, .int r17), (5, .int 0), (3, .long 1), (0, .ref 0), (1, .int x1), (2, .int x2)]) dX11_heardAnswer_57 (Nat.le_of_ble_eq_true rfl) rfl ?_
  refine z_iconst (v := 0) dX11_heardAnswer_59 (by decide) ?_
  refine z_istore (lv2 := [(9, .int 0), (8, .int r21), (7, .int r19), (6, .int r17), (5, .int 0), (3, .long 1), (0, .ref 0), (1, .int x1), (2, .int x2)]) dX11_heardAnswer_60 (Nat.le_of_ble_eq_true rfl) rfl ?_
  exact z_sub [6, 7, 8, 5, 4, 3, 2, 1, 0] rfl (w_X11_heardAnswer_62 FU _ _ _ _ _ _ _ _ _)
theorem M_X11_heardAnswer (x1 : Int32) (x2 : Int32) (h : AHp) : ML QX11_heardAnswer 4 [.ref 0, .int x1, .int x2] h (m_X11_heardAnswer x1 x2 h) := ML.of (by decide) rfl rfl (Nat.le_of_ble_eq_true rfl) (w_X11_heardAnswer x1 x2 h)
set_option maxHeartbeats 4000000 in
set_option maxRecDepth 100000 in
theorem w_X11_heard (x1 : Int32) (x2 : Int32) (h : AHp) : WO tvL QX11_heard 5 0 [(0, .ref 0), (1, .int x1), (2, .int x2)] [] h (m_X11_heard x1 x2 h) := by
  unfold m_X11_heard
  refine z_aload_n dX11_heard_0 0 rfl ?_
  refine z_iload_n dX11_heard_1 1 rfl ?_
  refine z_bipush (v := 8) dX11_heard_2 (by decide) ?_
  refine z_iconst (v := 2) dX11_heard_4 (by decide) ?_
  refine z_callVI dX11_heard_5 (M_X11_isOnTape _ _ _ _) bX11_isOnTape lX11_103 kc_0 rfl rfl (Nat.le_of_ble_eq_true rfl) (Nat.le_of_ble_eq_true rfl) (fun r1 h2 => ?_)
  refine z_if_eq (tgt := 19) dX11_heard_8 (by decide) ?_ ?_
  · refine z_ldc2 dX11_heard_19 kX11_206 ?_
    exact z_lret dX11_heard_22 rfl
  · refine z_iload_n dX11_heard_11 1 rfl ?_
    refine z_iload_n dX11_heard_12 2 rfl ?_
    refine z_callSI dX11_heard_13 (M_X11_isHeardPlace _ _ _) bX11_isHeardPlace lX11_203 rfl rfl (Nat.le_of_ble_eq_true rfl) (Nat.le_of_ble_eq_true rfl) (fun r3 h4 => ?_)
    refine z_if_ne (tgt := 23) dX11_heard_16 (by decide) ?_ ?_
    · refine z_aload_n dX11_heard_23 0 rfl ?_
      refine z_iload_n dX11_heard_24 1 rfl ?_
      refine z_callVI dX11_heard_25 (M_X11_tellsSpeakersAndLengths _ _) bX11_tellsSpeakersAndLengths lX11_208 kc_0 rfl rfl (Nat.le_of_ble_eq_true rfl) (Nat.le_of_ble_eq_true rfl) (fun r5 h6 => ?_)
      refine z_if_eq (tgt := 40) dX11_heard_28 (by decide) ?_ ?_
      · refine z_ldc2 dX11_heard_40 kX11_215 ?_
        refine z_lstore_n (lv2 := [(3, .long (-3)), (0, .ref 0), (1, .int x1), (2, .int x2)]) dX11_heard_43 (Nat.le_of_ble_eq_true rfl) rfl ?_
        refine z_aload_n dX11_heard_44 1 rfl ?_
        refine z_getR (j := 1) fX11_18 kc_0 rfl rfl rfl (by decide) dX11_heard_45 ?_
        refine z_callVV dX11_heard_48 (M_X8_clear _) bX8_clear lX11_111 kc_1 rfl rfl (Nat.le_of_ble_eq_true rfl) (Nat.le_of_ble_eq_true rfl) (fun r7 h8 => ?_)
        refine z_lload_n dX11_heard_51 0 rfl ?_
        exact z_lret dX11_heard_52 rfl
      · refine z_aload_n dX11_heard_31 0 rfl ?_
        refine z_iload_n dX11_heard_32 1 rfl ?_
        refine z_iload_n dX11_heard_33 2 rfl ?_
        refine z_callVL dX11_heard_34 (M_X11_heardAnswer _ _ _) bX11_heardAnswer lX11_211 kc_0 rfl rfl (Nat.le_of_ble_eq_true rfl) (Nat.le_of_ble_eq_true rfl) (fun r9 h10 => ?_)
        refine z_goto (tgt := 43) dX11_heard_37 (by decide) ?_
        refine z_lstore_n (lv2 := [(3, .long r9), (0, .ref 0), (1, .int x1), (2, .int x2)]) dX11_heard_43 (Nat.le_of_ble_eq_true rfl) rfl ?_
        refine z_aload_n dX11_heard_44 1 rfl ?_
        refine z_getR (j := 1) fX11_18 kc_0 rfl rfl rfl (by decide) dX11_heard_45 ?_
        refine z_callVV dX11_heard_48 (M_X8_clear _) bX8_clear lX11_111 kc_1 rfl rfl (Nat.le_of_ble_eq_true rfl) (Nat.le_of_ble_eq_true rfl) (fun r11 h12 => ?_)
        refine z_lload_n dX11_heard_51 0 rfl ?_
        exact z_lret dX11_heard_52 rfl
    · refine z_ldc2 dX11_heard_19 kX11_206 ?_
      exact z_lret dX11_heard_22 rfl
theorem M_X11_heard (x1 : Int32) (x2 : Int32) (h : AHp) : ML QX11_heard 5 [.ref 0, .int x1, .int x2] h (m_X11_heard x1 x2 h) := ML.of (by decide) rfl rfl (Nat.le_of_ble_eq_true rfl) (w_X11_heard x1 x2 h)
set_option maxHeartbeats 4000000 in
set_option maxRecDepth 100000 in
theorem w_X0_begin_173 : ∀ (f : Nat) (x5 : Int32) (h : AHp), WO tvV QX0_begin 2 173 [(0, .ref 56), (1, .ref 42), (5, .int x5)] [] h (m_X0_begin_173 f x5 h) := by
  intro f
  induction f with
  | zero => intro x5 h; exact z_none
  | succ f ih =>
    intro x5 h
    rw [m_X0_begin_173]
    refine z_iload dX0_begin_173 2 rfl ?_
    refine z_iconst (v := 5) dX0_begin_175 (by decide) ?_
    refine z_ic_ge (tgt := 193) dX0_begin_176 (by decide) ?_ ?_
    · refine z_aload_n dX0_begin_193 0 rfl ?_
      refine z_iconst (v := 0) dX0_begin_194 (by decide) ?_
      refine z_callVV dX0_begin_195 (M_X0_clearLevel _ _) bX0_clearLevel lX0_93 kc_56 rfl rfl (Nat.le_of_ble_eq_true rfl) (Nat.le_of_ble_eq_true rfl) (fun r1 h2 => ?_)
      refine z_aload_n dX0_begin_198 0 rfl ?_
      refine z_iconst (v := 0) dX0_begin_199 (by decide) ?_
      refine z_aload_n dX0_begin_200 1 rfl ?_
      refine z_aload_n dX0_begin_201 1 rfl ?_
      refine z_getIN fX0_60 kc_42 rfl dX0_begin_202 ?_
      refine z_iconst (v := 2) dX0_begin_205 (by decide) ?_
      refine z_isub dX0_begin_206 ?_
      refine z_callVI dX0_begin_207 (M_X7_spanAt _ _) bX7_spanAt lX0_97 kc_42 rfl rfl (Nat.le_of_ble_eq_true rfl) (Nat.le_of_ble_eq_true rfl) (fun r3 h4 => ?_)
      refine z_iconst (v := 1) dX0_begin_210 (by decide) ?_
      refine z_aload_n dX0_begin_211 1 rfl ?_
      refine z_aload_n dX0_begin_212 1 rfl ?_
      refine z_getIN fX0_60 kc_42 rfl dX0_begin_213 ?_
      refine z_iconst (v := 1) dX0_begin_216 (by decide) ?_
      refine z_isub dX0_begin_217 ?_
      refine z_callVI dX0_begin_218 (M_X7_spanAt _ _) bX7_spanAt lX0_97 kc_42 rfl rfl (Nat.le_of_ble_eq_true rfl) (Nat.le_of_ble_eq_true rfl) (fun r5 h6 => ?_)
      refine z_ishl dX0_begin_221 ?_
      refine z_callVV dX0_begin_222 (M_X0_reached _ _ _ _) bX0_reached lX0_100 kc_56 rfl rfl (Nat.le_of_ble_eq_true rfl) (Nat.le_of_ble_eq_true rfl) (fun r7 h8 => ?_)
      exact z_vret dX0_begin_225 rfl
    · refine z_aload_n dX0_begin_179 0 rfl ?_
      refine z_getR (j := 59) fX0_18 kc_56 rfl rfl rfl (by decide) dX0_begin_180 ?_
      refine z_iload dX0_begin_183 2 rfl ?_
      refine z_iconst (v := 0) dX0_begin_185 (by decide) ?_
      refine z_gd (fun g10 => ?_)
      refine z_iast kc_59 dX0_begin_186 g10 ?_
      refine z_lh (fun h9 => ?_)
      refine z_iincL (lv2 := fun v11 => [(5, .int v11), (0, .ref 56), (1, .ref 42)]) dX0_begin_187 2 rfl rfl (Nat.le_of_ble_eq_true rfl) (fun _ => rfl) (fun v11 => ?_)
      refine z_goto (tgt := 173) dX0_begin_190 (by decide) ?_
      exact z_sub [1, 2, 0] rfl (ih _ _)
set_option maxHeartbeats 4000000 in
set_option maxRecDepth 100000 in
theorem w_X0_begin_119 : ∀ (f : Nat) (x2 : Int32) (x5 : Int32) (h : AHp), WO tvV QX0_begin 2 119 [(0, .ref 56), (1, .ref 42), (2, .int x2), (5, .int x5)] [] h (m_X0_begin_119 f x2 x5 h) := by
  intro f
  induction f with
  | zero => intro x2 x5 h; exact z_none
  | succ f ih =>
    intro x2 x5 h
    rw [m_X0_begin_119]
    refine z_iload dX0_begin_119 3 rfl ?_
    refine z_bipush (v := 12) dX0_begin_121 (by decide) ?_
    refine z_ic_ge (tgt := 170) dX0_begin_123 (by decide) ?_ ?_
    · refine z_iconst (v := 0) dX0_begin_170 (by decide) ?_
      refine z_istore (lv2 := [(5, .int 0), (0, .ref 56), (1, .ref 42), (2, .int x2)]) dX0_begin_171 (Nat.le_of_ble_eq_true rfl) rfl ?_
      exact z_sub [1, 2, 0] rfl (w_X0_begin_173 FU _ _)
    · refine z_iload_n dX0_begin_126 2 rfl ?_
      refine z_iload dX0_begin_127 3 rfl ?_
      refine z_ishr dX0_begin_129 ?_
      refine z_iconst (v := 1) dX0_begin_130 (by decide) ?_
      refine z_iand dX0_begin_131 ?_
      refine z_if_eq (tgt := 164) dX0_begin_132 (by decide) ?_ ?_
      · refine z_iincL (lv2 := fun v12 => [(5, .int v12), (0, .ref 56), (1, .ref 42), (2, .int x2)]) dX0_begin_164 3 rfl rfl (Nat.le_of_ble_eq_true rfl) (fun _ => rfl) (fun v12 => ?_)
        refine z_goto (tgt := 119) dX0_begin_167 (by decide) ?_
        exact z_sub [1, 2, 3, 0] rfl (ih _ _ _)
      · refine z_aload_n dX0_begin_135 0 rfl ?_
        refine z_getI fX0_90 kc_56 rfl dX0_begin_136 ?_
        refine z_iconst (v := 4) dX0_begin_139 (by decide) ?_
        refine z_ic_ge (tgt := 164) dX0_begin_140 (by decide) ?_ ?_
        · refine z_iincL (lv2 := fun v13 => [(5, .int v13), (0, .ref 56), (1, .ref 42), (2, .int x2)]) dX0_begin_164 3 rfl rfl (Nat.le_of_ble_eq_true rfl) (fun _ => rfl) (fun v13 => ?_)
          refine z_goto (tgt := 119) dX0_begin_167 (by decide) ?_
          exact z_sub [1, 2, 3, 0] rfl (ih _ _ _)
        · refine z_aload_n dX0_begin_143 0 rfl ?_
          refine z_getR (j := 61) fX0_24 kc_56 rfl rfl rfl (by decide) dX0_begin_144 ?_
          refine z_aload_n dX0_begin_147 0 rfl ?_
          refine z_getI fX0_90 kc_56 rfl dX0_begin_148 ?_
          refine z_iload dX0_begin_151 3 rfl ?_
          refine z_gd (fun g15 => ?_)
          refine z_iast kc_61 dX0_begin_153 g15 ?_
          refine z_lh (fun h14 => ?_)
          refine z_aload_n dX0_begin_154 0 rfl ?_
          refine z_dup dX0_begin_155 rfl ?_
          refine z_getI fX0_90 kc_56 rfl dX0_begin_156 ?_
          refine z_iconst (v := 1) dX0_begin_159 (by decide) ?_
          refine z_iadd dX0_begin_160 ?_
          refine z_putI fX0_90 kc_56 rfl dX0_begin_161 ?_
          refine z_lh (fun h16 => ?_)
          refine z_iincL (lv2 := fun v17 => [(5, .int v17), (0, .ref 56), (1, .ref 42), (2, .int x2)]) dX0_begin_164 3 rfl rfl (Nat.le_of_ble_eq_true rfl) (fun _ => rfl) (fun v17 => ?_)
          refine z_goto (tgt := 119) dX0_begin_167 (by decide) ?_
          exact z_sub [1, 2, 3, 0] rfl (ih _ _ _)
set_option maxHeartbeats 4000000 in
set_option maxRecDepth 100000 in
theorem w_X0_begin_90 (x2 : Int32) (x4 : Int32) (s1 : Int32) (h : AHp) : WO tvV QX0_begin 2 90 [(0, .ref 56), (1, .ref 42), (2, .int x2), (4, .int x4)] [.int s1, .ref 56] h (m_X0_begin_90 x2 x4 s1 h) := by
  unfold m_X0_begin_90
  refine z_gd (fun g19 => ?_)
  refine z_putZ fX0_84 kc_56 rfl g19 dX0_begin_90 ?_
  refine z_lh (fun h18 => ?_)
  refine z_aload_n dX0_begin_93 0 rfl ?_
  refine z_iload dX0_begin_94 3 rfl ?_
  refine z_sipush (v := 256) dX0_begin_96 (by decide) ?_
  refine z_iand dX0_begin_99 ?_
  refine z_if_eq (tgt := 107) dX0_begin_100 (by decide) ?_ ?_
  · refine z_iconst (v := 0) dX0_begin_107 (by decide) ?_
    refine z_putZ fX0_87 kc_56 rfl (Or.inl rfl) dX0_begin_108 ?_
    refine z_lh (fun h20 => ?_)
    refine z_aload_n dX0_begin_111 0 rfl ?_
    refine z_iconst (v := 0) dX0_begin_112 (by decide) ?_
    refine z_putI fX0_90 kc_56 rfl dX0_begin_113 ?_
    refine z_lh (fun h21 => ?_)
    refine z_iconst (v := 0) dX0_begin_116 (by decide) ?_
    refine z_istore (lv2 := [(5, .int 0), (0, .ref 56), (1, .ref 42), (2, .int x2), (4, .int x4)]) dX0_begin_117 (Nat.le_of_ble_eq_true rfl) rfl ?_
    exact z_sub [1, 2, 3, 0] rfl (w_X0_begin_119 FU _ _ _)
  · refine z_iconst (v := 1) dX0_begin_103 (by decide) ?_
    refine z_goto (tgt := 108) dX0_begin_104 (by decide) ?_
    refine z_putZ fX0_87 kc_56 rfl (Or.inr rfl) dX0_begin_108 ?_
    refine z_lh (fun h22 => ?_)
    refine z_aload_n dX0_begin_111 0 rfl ?_
    refine z_iconst (v := 0) dX0_begin_112 (by decide) ?_
    refine z_putI fX0_90 kc_56 rfl dX0_begin_113 ?_
    refine z_lh (fun h23 => ?_)
    refine z_iconst (v := 0) dX0_begin_116 (by decide) ?_
    refine z_istore (lv2 := [(5, .int 0), (0, .ref 56), (1, .ref 42), (2, .int x2), (4, .int x4)]) dX0_begin_117 (Nat.le_of_ble_eq_true rfl) rfl ?_
    exact z_sub [1, 2, 3, 0] rfl (w_X0_begin_119 FU _ _ _)
set_option maxHeartbeats 4000000 in
set_option maxRecDepth 100000 in
theorem w_X0_begin_66 (x2 : Int32) (x4 : Int32) (s1 : Int32) (h : AHp) : WO tvV QX0_begin 2 66 [(0, .ref 56), (1, .ref 42), (2, .int x2), (4, .int x4)] [.int s1, .ref 56] h (m_X0_begin_66 x2 x4 s1 h) := by
  unfold m_X0_begin_66
  refine z_gd (fun g25 => ?_)
  refine z_putZ fX0_80 kc_56 rfl g25 dX0_begin_66 ?_
  refine z_lh (fun h24 => ?_)
  refine z_aload_n dX0_begin_69 0 rfl ?_
  refine z_aload_n dX0_begin_70 0 rfl ?_
  refine z_getI fX0_80 kc_56 rfl dX0_begin_71 ?_
  refine z_if_ne (tgt := 85) dX0_begin_74 (by decide) ?_ ?_
  · refine z_iconst (v := 1) dX0_begin_85 (by decide) ?_
    refine z_goto (tgt := 90) dX0_begin_86 (by decide) ?_
    exact w_X0_begin_90 _ _ _ _
  · refine z_iload dX0_begin_77 3 rfl ?_
    refine z_bipush (v := 16) dX0_begin_79 (by decide) ?_
    refine z_iand dX0_begin_81 ?_
    refine z_if_eq (tgt := 89) dX0_begin_82 (by decide) ?_ ?_
    · refine z_iconst (v := 0) dX0_begin_89 (by decide) ?_
      exact w_X0_begin_90 _ _ _ _
    · refine z_iconst (v := 1) dX0_begin_85 (by decide) ?_
      refine z_goto (tgt := 90) dX0_begin_86 (by decide) ?_
      exact w_X0_begin_90 _ _ _ _
set_option maxHeartbeats 4000000 in
set_option maxRecDepth 100000 in
theorem w_X0_begin (x2 : Int32) (x3 : Int32) (h : AHp) : WO tvV QX0_begin 2 0 [(0, .ref 56), (1, .ref 42), (2, .int x2), (3, .int x3)] [] h (m_X0_begin x2 x3 h) := by
  unfold m_X0_begin
  refine z_aload_n dX0_begin_0 0 rfl ?_
  refine z_getR (j := 31) fX0_31 kc_56 rfl rfl rfl (by decide) dX0_begin_1 ?_
  refine z_callVV dX0_begin_4 (M_X3_begin _) bX3_begin lX0_43 kc_31 rfl rfl (Nat.le_of_ble_eq_true rfl) (Nat.le_of_ble_eq_true rfl) (fun r26 h27 => ?_)
  refine z_aload_n dX0_begin_7 0 rfl ?_
  refine z_iconst (v := 0) dX0_begin_8 (by decide) ?_
  refine z_iload_n dX0_begin_9 3 rfl ?_
  refine z_iconst (v := 5) dX0_begin_10 (by decide) ?_
  refine z_mmin dX0_begin_11 lX0_47 w_mmin (Nat.le_of_ble_eq_true rfl) (Nat.le_of_ble_eq_true rfl) ?_
  refine z_mmax dX0_begin_14 lX0_53 w_mmax (Nat.le_of_ble_eq_true rfl) (Nat.le_of_ble_eq_true rfl) ?_
  refine z_putI fX0_56 kc_56 rfl dX0_begin_17 ?_
  refine z_lh (fun h28 => ?_)
  refine z_aload_n dX0_begin_20 0 rfl ?_
  refine z_aload_n dX0_begin_21 1 rfl ?_
  refine z_aload_n dX0_begin_22 1 rfl ?_
  refine z_getIN fX0_60 kc_42 rfl dX0_begin_23 ?_
  refine z_iconst (v := 1) dX0_begin_26 (by decide) ?_
  refine z_isub dX0_begin_27 ?_
  refine z_callVI dX0_begin_28 (M_X7_speakerAt _ _) bX7_speakerAt lX0_65 kc_42 rfl rfl (Nat.le_of_ble_eq_true rfl) (Nat.le_of_ble_eq_true rfl) (fun r29 h30 => ?_)
  refine z_putI fX0_69 kc_56 rfl dX0_begin_31 ?_
  refine z_lh (fun h31 => ?_)
  refine z_aload_n dX0_begin_34 0 rfl ?_
  refine z_aload_n dX0_begin_35 1 rfl ?_
  refine z_getIN fX0_60 kc_42 rfl dX0_begin_36 ?_
  refine z_putI fX0_72 kc_56 rfl dX0_begin_39 ?_
  refine z_lh (fun h32 => ?_)
  refine z_aload_n dX0_begin_42 0 rfl ?_
  refine z_getR (j := 3) fX0_27 kc_56 rfl rfl rfl (by decide) dX0_begin_43 ?_
  refine z_iconst (v := 1) dX0_begin_46 (by decide) ?_
  refine z_callVI dX0_begin_47 (M_X9_asks _ _) bX9_asks lX0_75 kc_3 rfl rfl (Nat.le_of_ble_eq_true rfl) (Nat.le_of_ble_eq_true rfl) (fun r33 h34 => ?_)
  refine z_istore (lv2 := [(4, .int r33), (0, .ref 56), (1, .ref 42), (2, .int x2), (3, .int x3)]) dX0_begin_50 (Nat.le_of_ble_eq_true rfl) rfl ?_
  refine z_aload_n dX0_begin_52 1 rfl ?_
  refine z_iload dX0_begin_53 0 rfl ?_
  refine z_bipush (v := 32) dX0_begin_55 (by decide) ?_
  refine z_iand dX0_begin_57 ?_
  refine z_if_eq (tgt := 65) dX0_begin_58 (by decide) ?_ ?_
  · refine z_iconst (v := 0) dX0_begin_65 (by decide) ?_
    exact z_sub [1, 2, 3, 0] rfl (w_X0_begin_66 _ _ _ _)
  · refine z_iconst (v := 1) dX0_begin_61 (by decide) ?_
    refine z_goto (tgt := 66) dX0_begin_62 (by decide) ?_
    exact z_sub [1, 2, 3, 0] rfl (w_X0_begin_66 _ _ _ _)
theorem M_X0_begin (x2 : Int32) (x3 : Int32) (h : AHp) : MV QX0_begin 2 [.ref 56, .ref 42, .int x2, .int x3] h (m_X0_begin x2 x3 h) := MV.of (by decide) rfl rfl (Nat.le_of_ble_eq_true rfl) (w_X0_begin x2 x3 h)
set_option maxHeartbeats 4000000 in
set_option maxRecDepth 100000 in
theorem w_X0_answer (x2 : Int32) (x3 : Int32) (x4 : Int32) (h : AHp) : WO tvI QX0_answer 49 0 [(0, .ref 56), (1, .ref 42), (2, .int x2), (3, .int x3), (4, .int x4)] [] h (m_X0_answer x2 x3 x4 h) := by
  unfold m_X0_answer
  refine z_aload_n dX0_answer_0 0 rfl ?_
  refine z_aload_n dX0_answer_1 1 rfl ?_
  refine z_iload_n dX0_answer_2 2 rfl ?_
  refine z_iload_n dX0_answer_3 3 rfl ?_
  refine z_callVV dX0_answer_4 (M_X0_begin _ _ _) bX0_begin lX0_35 kc_56 rfl rfl (Nat.le_of_ble_eq_true rfl) (Nat.le_of_ble_eq_true rfl) (fun r1 h2 => ?_)
  refine z_aload_n dX0_answer_7 0 rfl ?_
  refine z_iconst (v := 0) dX0_answer_8 (by decide) ?_
  refine z_callVI dX0_answer_9 (M_X0_breaks 8 _ _) bX0_breaks lX0_39 kc_56 rfl rfl (Nat.le_of_ble_eq_true rfl) (Nat.le_of_ble_eq_true rfl) (fun r3 h4 => ?_)
  refine z_istore (lv2 := [(5, .int r3), (0, .ref 56), (1, .ref 42), (2, .int x2), (3, .int x3), (4, .int x4)]) dX0_answer_12 (Nat.le_of_ble_eq_true rfl) rfl ?_
  refine z_iload dX0_answer_14 5 rfl ?_
  refine z_iconst (v := -1) dX0_answer_16 (by decide) ?_
  refine z_ic_ne (tgt := 31) dX0_answer_17 (by decide) ?_ ?_
  · refine z_iload dX0_answer_31 0 rfl ?_
    refine z_if_ne (tgt := 39) dX0_answer_33 (by decide) ?_ ?_
    · refine z_iload dX0_answer_39 5 rfl ?_
      refine z_if_lt (tgt := 60) dX0_answer_41 (by decide) ?_ ?_
      · refine z_bipush (v := -3) dX0_answer_60 (by decide) ?_
        exact z_iret dX0_answer_62 rfl
      · refine z_iload dX0_answer_44 5 rfl ?_
        refine z_iconst (v := 5) dX0_answer_46 (by decide) ?_
        refine z_ic_ge (tgt := 60) dX0_answer_47 (by decide) ?_ ?_
        · refine z_bipush (v := -3) dX0_answer_60 (by decide) ?_
          exact z_iret dX0_answer_62 rfl
        · refine z_aload_n dX0_answer_50 1 rfl ?_
          refine z_getR (j := 60) fX0_21 kc_56 rfl rfl rfl (by decide) dX0_answer_51 ?_
          refine z_iload dX0_answer_54 5 rfl ?_
          refine z_gd (fun g5 => ?_)
          refine z_iald kc_60 dX0_answer_56 g5 ?_
          refine z_goto (tgt := 62) dX0_answer_57 (by decide) ?_
          exact z_iret dX0_answer_62 rfl
    · refine z_bipush (v := -2) dX0_answer_36 (by decide) ?_
      exact z_iret dX0_answer_38 rfl
  · refine z_iload dX0_answer_20 0 rfl ?_
    refine z_if_eq (tgt := 29) dX0_answer_22 (by decide) ?_ ?_
    · refine z_iconst (v := 1) dX0_answer_29 (by decide) ?_
      exact z_iret dX0_answer_30 rfl
    · refine z_iconst (v := 0) dX0_answer_25 (by decide) ?_
      refine z_goto (tgt := 30) dX0_answer_26 (by decide) ?_
      exact z_iret dX0_answer_30 rfl
theorem M_X0_answer (x2 : Int32) (x3 : Int32) (x4 : Int32) (h : AHp) : MI QX0_answer 49 [.ref 56, .ref 42, .int x2, .int x3, .int x4] h (m_X0_answer x2 x3 x4 h) := MI.of (by decide) rfl rfl (Nat.le_of_ble_eq_true rfl) (w_X0_answer x2 x3 x4 h)
set_option maxHeartbeats 4000000 in
set_option maxRecDepth 100000 in
theorem w_X11_anyTalk_31 (x1 : Int32) (x2 : Int32) (x3 : Int32) (s0 : Int32) (h : AHp) : WO tvI QX11_anyTalk 50 31 [(0, .ref 0), (1, .int x1), (2, .int x2), (3, .int x3)] [.int s0] h (m_X11_anyTalk_31 x1 x2 x3 s0 h) := by
  unfold m_X11_anyTalk_31
  refine z_istore (lv2 := [(5, .int s0), (0, .ref 0), (1, .int x1), (2, .int x2), (3, .int x3)]) dX11_anyTalk_31 (Nat.le_of_ble_eq_true rfl) rfl ?_
  refine z_iload dX11_anyTalk_33 0 rfl ?_
  refine z_if_eq (tgt := 58) dX11_anyTalk_35 (by decide) ?_ ?_
  · refine z_bipush (v := -3) dX11_anyTalk_58 (by decide) ?_
    exact z_iret dX11_anyTalk_60 rfl
  · refine z_iload_n dX11_anyTalk_38 3 rfl ?_
    refine z_iconst (v := 1) dX11_anyTalk_39 (by decide) ?_
    refine z_ic_lt (tgt := 58) dX11_anyTalk_40 (by decide) ?_ ?_
    · refine z_bipush (v := -3) dX11_anyTalk_58 (by decide) ?_
      exact z_iret dX11_anyTalk_60 rfl
    · refine z_iload_n dX11_anyTalk_43 3 rfl ?_
      refine z_iconst (v := 5) dX11_anyTalk_44 (by decide) ?_
      refine z_ic_gt (tgt := 58) dX11_anyTalk_45 (by decide) ?_ ?_
      · refine z_bipush (v := -3) dX11_anyTalk_58 (by decide) ?_
        exact z_iret dX11_anyTalk_60 rfl
      · refine z_iload_n dX11_anyTalk_48 4 rfl ?_
        refine z_iconst (v := -1) dX11_anyTalk_49 (by decide) ?_
        refine z_ic_lt (tgt := 58) dX11_anyTalk_50 (by decide) ?_ ?_
        · refine z_bipush (v := -3) dX11_anyTalk_58 (by decide) ?_
          exact z_iret dX11_anyTalk_60 rfl
        · refine z_iload_n dX11_anyTalk_53 4 rfl ?_
          refine z_iload_n dX11_anyTalk_54 3 rfl ?_
          refine z_ic_lt (tgt := 61) dX11_anyTalk_55 (by decide) ?_ ?_
          · refine z_aload_n dX11_anyTalk_61 1 rfl ?_
            refine z_getR (j := 56) fX11_61 kc_0 rfl rfl rfl (by decide) dX11_anyTalk_62 ?_
            refine z_aload_n dX11_anyTalk_65 1 rfl ?_
            refine z_getR (j := 42) fX11_38 kc_0 rfl rfl rfl (by decide) dX11_anyTalk_66 ?_
            refine z_iload_n dX11_anyTalk_69 2 rfl ?_
            refine z_iload_n dX11_anyTalk_70 3 rfl ?_
            refine z_iload_n dX11_anyTalk_71 4 rfl ?_
            refine z_callVI dX11_anyTalk_72 (M_X0_answer _ _ _ _) bX0_answer lX11_217 kc_56 rfl rfl (Nat.le_of_ble_eq_true rfl) (Nat.le_of_ble_eq_true rfl) (fun r1 h2 => ?_)
            exact z_iret dX11_anyTalk_75 rfl
          · refine z_bipush (v := -3) dX11_anyTalk_58 (by decide) ?_
            exact z_iret dX11_anyTalk_60 rfl
set_option maxHeartbeats 4000000 in
set_option maxRecDepth 100000 in
theorem w_X11_anyTalk (x1 : Int32) (x2 : Int32) (x3 : Int32) (h : AHp) : WO tvI QX11_anyTalk 50 0 [(0, .ref 0), (1, .int x1), (2, .int x2), (3, .int x3)] [] h (m_X11_anyTalk x1 x2 x3 h) := by
  unfold m_X11_anyTalk
  refine z_iload_n dX11_anyTalk_0 1 rfl ?_
  refine z_callSI dX11_anyTalk_1 (M_J6_bitCount_0f7a4 _ _) bJ6_bitCount_0f7a4 lX11_118 rfl rfl (Nat.le_of_ble_eq_true rfl) (Nat.le_of_ble_eq_true rfl) (fun r3 h4 => ?_)
  refine z_istore (lv2 := [(4, .int r3), (0, .ref 0), (1, .int x1), (2, .int x2), (3, .int x3)]) dX11_anyTalk_4 (Nat.le_of_ble_eq_true rfl) rfl ?_
  refine z_iload_n dX11_anyTalk_6 2 rfl ?_
  refine z_sipush (v := -4096) dX11_anyTalk_7 (by decide) ?_
  refine z_iand dX11_anyTalk_10 ?_
  refine z_if_ne (tgt := 30) dX11_anyTalk_11 (by decide) ?_ ?_
  · refine z_iconst (v := 0) dX11_anyTalk_30 (by decide) ?_
    exact z_sub [1, 2, 3, 4] rfl (w_X11_anyTalk_31 _ _ _ _ _)
  · refine z_iload dX11_anyTalk_14 0 rfl ?_
    refine z_iconst (v := 1) dX11_anyTalk_16 (by decide) ?_
    refine z_ic_lt (tgt := 30) dX11_anyTalk_17 (by decide) ?_ ?_
    · refine z_iconst (v := 0) dX11_anyTalk_30 (by decide) ?_
      exact z_sub [1, 2, 3, 4] rfl (w_X11_anyTalk_31 _ _ _ _ _)
    · refine z_iload dX11_anyTalk_20 0 rfl ?_
      refine z_iconst (v := 4) dX11_anyTalk_22 (by decide) ?_
      refine z_ic_gt (tgt := 30) dX11_anyTalk_23 (by decide) ?_ ?_
      · refine z_iconst (v := 0) dX11_anyTalk_30 (by decide) ?_
        exact z_sub [1, 2, 3, 4] rfl (w_X11_anyTalk_31 _ _ _ _ _)
      · refine z_iconst (v := 1) dX11_anyTalk_26 (by decide) ?_
        refine z_goto (tgt := 31) dX11_anyTalk_27 (by decide) ?_
        exact z_sub [1, 2, 3, 4] rfl (w_X11_anyTalk_31 _ _ _ _ _)
theorem M_X11_anyTalk (x1 : Int32) (x2 : Int32) (x3 : Int32) (h : AHp) : MI QX11_anyTalk 50 [.ref 0, .int x1, .int x2, .int x3] h (m_X11_anyTalk x1 x2 x3 h) := MI.of (by decide) rfl rfl (Nat.le_of_ble_eq_true rfl) (w_X11_anyTalk x1 x2 x3 h)
set_option maxHeartbeats 4000000 in
set_option maxRecDepth 100000 in
theorem w_X6_begin_93 (x3 : Int32) (s1 : Int32) (h : AHp) : WO tvV QX6_begin 2 93 [(0, .ref 62), (3, .int x3)] [.int s1, .ref 62] h (m_X6_begin_93 x3 s1 h) := by
  unfold m_X6_begin_93
  refine z_gd (fun g2 => ?_)
  refine z_putZ fX6_66 kc_62 rfl g2 dX6_begin_93 ?_
  refine z_lh (fun h1 => ?_)
  refine z_aload_n dX6_begin_96 0 rfl ?_
  refine z_aload_n dX6_begin_97 0 rfl ?_
  refine z_getI fX6_66 kc_62 rfl dX6_begin_98 ?_
  refine z_if_ne (tgt := 111) dX6_begin_101 (by decide) ?_ ?_
  · refine z_iconst (v := 1) dX6_begin_111 (by decide) ?_
    refine z_goto (tgt := 116) dX6_begin_112 (by decide) ?_
    refine z_putZ fX6_70 kc_62 rfl (Or.inr rfl) dX6_begin_116 ?_
    refine z_lh (fun h3 => ?_)
    exact z_vret dX6_begin_119 rfl
  · refine z_iload_n dX6_begin_104 1 rfl ?_
    refine z_bipush (v := 16) dX6_begin_105 (by decide) ?_
    refine z_iand dX6_begin_107 ?_
    refine z_if_eq (tgt := 115) dX6_begin_108 (by decide) ?_ ?_
    · refine z_iconst (v := 0) dX6_begin_115 (by decide) ?_
      refine z_putZ fX6_70 kc_62 rfl (Or.inl rfl) dX6_begin_116 ?_
      refine z_lh (fun h4 => ?_)
      exact z_vret dX6_begin_119 rfl
    · refine z_iconst (v := 1) dX6_begin_111 (by decide) ?_
      refine z_goto (tgt := 116) dX6_begin_112 (by decide) ?_
      refine z_putZ fX6_70 kc_62 rfl (Or.inr rfl) dX6_begin_116 ?_
      refine z_lh (fun h5 => ?_)
      exact z_vret dX6_begin_119 rfl
set_option maxHeartbeats 4000000 in
set_option maxRecDepth 100000 in
theorem w_X6_begin (x2 : Int32) (h : AHp) : WO tvV QX6_begin 2 0 [(0, .ref 62), (1, .ref 42), (2, .int x2)] [] h (m_X6_begin x2 h) := by
  unfold m_X6_begin
  refine z_aload_n dX6_begin_0 0 rfl ?_
  refine z_getR (j := 31) fX6_15 kc_62 rfl rfl rfl (by decide) dX6_begin_1 ?_
  refine z_callVV dX6_begin_4 (M_X3_begin _) bX3_begin lX6_19 kc_31 rfl rfl (Nat.le_of_ble_eq_true rfl) (Nat.le_of_ble_eq_true rfl) (fun r6 h7 => ?_)
  refine z_aload_n dX6_begin_7 0 rfl ?_
  refine z_iconst (v := 0) dX6_begin_8 (by decide) ?_
  refine z_iload_n dX6_begin_9 2 rfl ?_
  refine z_bipush (v := 6) dX6_begin_10 (by decide) ?_
  refine z_mmin dX6_begin_12 lX6_24 w_mmin (Nat.le_of_ble_eq_true rfl) (Nat.le_of_ble_eq_true rfl) ?_
  refine z_mmax dX6_begin_15 lX6_30 w_mmax (Nat.le_of_ble_eq_true rfl) (Nat.le_of_ble_eq_true rfl) ?_
  refine z_putI fX6_33 kc_62 rfl dX6_begin_18 ?_
  refine z_lh (fun h8 => ?_)
  refine z_aload_n dX6_begin_21 0 rfl ?_
  refine z_aload_n dX6_begin_22 1 rfl ?_
  refine z_aload_n dX6_begin_23 1 rfl ?_
  refine z_getIN fX6_37 kc_42 rfl dX6_begin_24 ?_
  refine z_iconst (v := 1) dX6_begin_27 (by decide) ?_
  refine z_isub dX6_begin_28 ?_
  refine z_callVI dX6_begin_29 (M_X7_speakerAt _ _) bX7_speakerAt lX6_42 kc_42 rfl rfl (Nat.le_of_ble_eq_true rfl) (Nat.le_of_ble_eq_true rfl) (fun r9 h10 => ?_)
  refine z_putI fX6_46 kc_62 rfl dX6_begin_32 ?_
  refine z_lh (fun h11 => ?_)
  refine z_aload_n dX6_begin_35 0 rfl ?_
  refine z_aload_n dX6_begin_36 1 rfl ?_
  refine z_aload_n dX6_begin_37 1 rfl ?_
  refine z_getIN fX6_37 kc_42 rfl dX6_begin_38 ?_
  refine z_iconst (v := 1) dX6_begin_41 (by decide) ?_
  refine z_isub dX6_begin_42 ?_
  refine z_callVI dX6_begin_43 (M_X7_spanAt _ _) bX7_spanAt lX6_49 kc_42 rfl rfl (Nat.le_of_ble_eq_true rfl) (Nat.le_of_ble_eq_true rfl) (fun r12 h13 => ?_)
  refine z_putI fX6_52 kc_62 rfl dX6_begin_46 ?_
  refine z_lh (fun h14 => ?_)
  refine z_aload_n dX6_begin_49 0 rfl ?_
  refine z_aload_n dX6_begin_50 1 rfl ?_
  refine z_aload_n dX6_begin_51 1 rfl ?_
  refine z_getIN fX6_37 kc_42 rfl dX6_begin_52 ?_
  refine z_iconst (v := 2) dX6_begin_55 (by decide) ?_
  refine z_isub dX6_begin_56 ?_
  refine z_callVI dX6_begin_57 (M_X7_spanAt _ _) bX7_spanAt lX6_49 kc_42 rfl rfl (Nat.le_of_ble_eq_true rfl) (Nat.le_of_ble_eq_true rfl) (fun r15 h16 => ?_)
  refine z_putI fX6_55 kc_62 rfl dX6_begin_60 ?_
  refine z_lh (fun h17 => ?_)
  refine z_aload_n dX6_begin_63 0 rfl ?_
  refine z_aload_n dX6_begin_64 1 rfl ?_
  refine z_getIN fX6_37 kc_42 rfl dX6_begin_65 ?_
  refine z_putI fX6_58 kc_62 rfl dX6_begin_68 ?_
  refine z_lh (fun h18 => ?_)
  refine z_aload_n dX6_begin_71 0 rfl ?_
  refine z_getR (j := 3) fX6_9 kc_62 rfl rfl rfl (by decide) dX6_begin_72 ?_
  refine z_iconst (v := 1) dX6_begin_75 (by decide) ?_
  refine z_callVI dX6_begin_76 (M_X9_asks _ _) bX9_asks lX6_61 kc_3 rfl rfl (Nat.le_of_ble_eq_true rfl) (Nat.le_of_ble_eq_true rfl) (fun r19 h20 => ?_)
  refine z_istore_n (lv2 := [(3, .int r19), (0, .ref 62), (1, .ref 42), (2, .int x2)]) dX6_begin_79 (Nat.le_of_ble_eq_true rfl) rfl ?_
  refine z_aload_n dX6_begin_80 1 rfl ?_
  refine z_iload_n dX6_begin_81 0 rfl ?_
  refine z_bipush (v := 32) dX6_begin_82 (by decide) ?_
  refine z_iand dX6_begin_84 ?_
  refine z_if_eq (tgt := 92) dX6_begin_85 (by decide) ?_ ?_
  · refine z_iconst (v := 0) dX6_begin_92 (by decide) ?_
    exact z_sub [1, 0] rfl (w_X6_begin_93 _ _ _)
  · refine z_iconst (v := 1) dX6_begin_88 (by decide) ?_
    refine z_goto (tgt := 93) dX6_begin_89 (by decide) ?_
    exact z_sub [1, 0] rfl (w_X6_begin_93 _ _ _)
theorem M_X6_begin (x2 : Int32) (h : AHp) : MV QX6_begin 2 [.ref 62, .ref 42, .int x2] h (m_X6_begin x2 h) := MV.of (by decide) rfl rfl (Nat.le_of_ble_eq_true rfl) (w_X6_begin x2 h)
set_option maxHeartbeats 4000000 in
set_option maxRecDepth 100000 in
theorem w_X6_tell (x1 : Int32) (x2 : Int32) (x3 : Int32) (x4 : Int32) (h : AHp) : WO tvV QX6_tell 0 0 [(0, .ref 62), (1, .int x1), (2, .int x2), (3, .int x3), (4, .int x4)] [] h (m_X6_tell x1 x2 x3 x4 h) := by
  unfold m_X6_tell
  refine z_aload_n dX6_tell_0 0 rfl ?_
  refine z_iload_n dX6_tell_1 1 rfl ?_
  refine z_putI fX6_73 kc_62 rfl dX6_tell_2 ?_
  refine z_lh (fun h1 => ?_)
  refine z_aload_n dX6_tell_5 0 rfl ?_
  refine z_iload_n dX6_tell_6 2 rfl ?_
  refine z_putI fX6_76 kc_62 rfl dX6_tell_7 ?_
  refine z_lh (fun h2 => ?_)
  refine z_aload_n dX6_tell_10 0 rfl ?_
  refine z_iload_n dX6_tell_11 3 rfl ?_
  refine z_putI fX6_79 kc_62 rfl dX6_tell_12 ?_
  refine z_lh (fun h3 => ?_)
  refine z_aload_n dX6_tell_15 0 rfl ?_
  refine z_iload dX6_tell_16 4 rfl ?_
  refine z_putI fX6_82 kc_62 rfl dX6_tell_18 ?_
  refine z_lh (fun h4 => ?_)
  exact z_vret dX6_tell_21 rfl
theorem M_X6_tell (x1 : Int32) (x2 : Int32) (x3 : Int32) (x4 : Int32) (h : AHp) : MV QX6_tell 0 [.ref 62, .int x1, .int x2, .int x3, .int x4] h (m_X6_tell x1 x2 x3 x4 h) := MV.of (by decide) rfl rfl (Nat.le_of_ble_eq_true rfl) (w_X6_tell x1 x2 x3 x4 h)
set_option maxHeartbeats 4000000 in
set_option maxRecDepth 100000 in
theorem w_X6_firstLength_48 : ∀ (f : Nat) (x2 : Int32) (x3 : Int32) (x4 : Int32) (h : AHp), WO tvI QX6_firstLength 50 48 [(0, .ref 62), (2, .int x2), (3, .int x3), (4, .int x4)] [] h (m_X6_firstLength_48 f x2 x3 x4 h) := by
  intro f
  induction f with
  | zero => intro x2 x3 x4 h; exact z_none
  | succ f ih =>
    intro x2 x3 x4 h
    rw [m_X6_firstLength_48]
    refine z_iload dX6_firstLength_48 3 rfl ?_
    refine z_bipush (v := 24) dX6_firstLength_50 (by decide) ?_
    refine z_ic_gt (tgt := 89) dX6_firstLength_52 (by decide) ?_ ?_
    · refine z_iconst (v := -1) dX6_firstLength_89 (by decide) ?_
      exact z_iret dX6_firstLength_90 rfl
    · refine z_iload_n dX6_firstLength_55 2 rfl ?_
      refine z_iload dX6_firstLength_56 3 rfl ?_
      refine z_ishr dX6_firstLength_58 ?_
      refine z_iconst (v := 1) dX6_firstLength_59 (by decide) ?_
      refine z_iand dX6_firstLength_60 ?_
      refine z_if_eq (tgt := 83) dX6_firstLength_61 (by decide) ?_ ?_
      · refine z_iincL (lv2 := fun v1 => [(4, .int v1), (0, .ref 62), (2, .int x2), (3, .int x3)]) dX6_firstLength_83 3 rfl rfl (Nat.le_of_ble_eq_true rfl) (fun _ => rfl) (fun v1 => ?_)
        refine z_goto (tgt := 48) dX6_firstLength_86 (by decide) ?_
        exact z_sub [1, 2, 3, 0] rfl (ih _ _ _ _)
      · refine z_aload_n dX6_firstLength_64 0 rfl ?_
        refine z_iconst (v := 1) dX6_firstLength_65 (by decide) ?_
        refine z_iload dX6_firstLength_66 3 rfl ?_
        refine z_aload_n dX6_firstLength_68 0 rfl ?_
        refine z_getI fX6_52 kc_62 rfl dX6_firstLength_69 ?_
        refine z_callVI dX6_firstLength_72 (M_X6_value 9 _ _ _ _) bX6_value lX6_85 kc_62 rfl rfl (Nat.le_of_ble_eq_true rfl) (Nat.le_of_ble_eq_true rfl) (fun r2 h3 => ?_)
        refine z_ineg dX6_firstLength_75 ?_
        refine z_iload_n dX6_firstLength_76 1 rfl ?_
        refine z_ic_ne (tgt := 83) dX6_firstLength_77 (by decide) ?_ ?_
        · refine z_iincL (lv2 := fun v4 => [(4, .int v4), (0, .ref 62), (2, .int x2), (3, .int x3)]) dX6_firstLength_83 3 rfl rfl (Nat.le_of_ble_eq_true rfl) (fun _ => rfl) (fun v4 => ?_)
          refine z_goto (tgt := 48) dX6_firstLength_86 (by decide) ?_
          exact z_sub [1, 2, 3, 0] rfl (ih _ _ _ _)
        · refine z_iload dX6_firstLength_80 3 rfl ?_
          exact z_iret dX6_firstLength_82 rfl
set_option maxHeartbeats 4000000 in
set_option maxRecDepth 100000 in
theorem w_X6_firstLength (x1 : Int32) (x2 : Int32) (h : AHp) : WO tvI QX6_firstLength 50 0 [(0, .ref 62), (1, .int x1), (2, .int x2)] [] h (m_X6_firstLength x1 x2 h) := by
  unfold m_X6_firstLength
  refine z_aload_n dX6_firstLength_0 0 rfl ?_
  refine z_getR (j := 3) fX6_9 kc_62 rfl rfl rfl (by decide) dX6_firstLength_1 ?_
  refine z_aload_n dX6_firstLength_4 0 rfl ?_
  refine z_getI fX6_52 kc_62 rfl dX6_firstLength_5 ?_
  refine z_aload_n dX6_firstLength_8 0 rfl ?_
  refine z_getI fX6_55 kc_62 rfl dX6_firstLength_9 ?_
  refine z_aload_n dX6_firstLength_12 0 rfl ?_
  refine z_getI fX6_46 kc_62 rfl dX6_firstLength_13 ?_
  refine z_aload_n dX6_firstLength_16 0 rfl ?_
  refine z_getI fX6_58 kc_62 rfl dX6_firstLength_17 ?_
  refine z_callVV dX6_firstLength_20 (M_X9_stand _ _ _ _ _) bX9_stand lX6_92 kc_3 rfl rfl (Nat.le_of_ble_eq_true rfl) (Nat.le_of_ble_eq_true rfl) (fun r5 h6 => ?_)
  refine z_aload_n dX6_firstLength_23 0 rfl ?_
  refine z_getR (j := 3) fX6_9 kc_62 rfl rfl rfl (by decide) dX6_firstLength_24 ?_
  refine z_iconst (v := 1) dX6_firstLength_27 (by decide) ?_
  refine z_aload_n dX6_firstLength_28 0 rfl ?_
  refine z_getI fX6_73 kc_62 rfl dX6_firstLength_29 ?_
  refine z_iload_n dX6_firstLength_32 1 rfl ?_
  refine z_aload_n dX6_firstLength_33 0 rfl ?_
  refine z_getR (j := 3) fX6_9 kc_62 rfl rfl rfl (by decide) dX6_firstLength_34 ?_
  refine z_iload_n dX6_firstLength_37 1 rfl ?_
  refine z_callVI dX6_firstLength_38 (M_X9_sizesOf _ _) bX9_sizesOf lX6_96 kc_3 rfl rfl (Nat.le_of_ble_eq_true rfl) (Nat.le_of_ble_eq_true rfl) (fun r7 h8 => ?_)
  refine z_callVI dX6_firstLength_41 (M_X9_lets _ _ _ _ _) bX9_lets lX6_99 kc_3 rfl rfl (Nat.le_of_ble_eq_true rfl) (Nat.le_of_ble_eq_true rfl) (fun r9 h10 => ?_)
  refine z_istore_n (lv2 := [(3, .int r9), (0, .ref 62), (1, .int x1), (2, .int x2)]) dX6_firstLength_44 (Nat.le_of_ble_eq_true rfl) rfl ?_
  refine z_iconst (v := 1) dX6_firstLength_45 (by decide) ?_
  refine z_istore (lv2 := [(4, .int 1), (3, .int r9), (0, .ref 62), (1, .int x1), (2, .int x2)]) dX6_firstLength_46 (Nat.le_of_ble_eq_true rfl) rfl ?_
  exact z_sub [2, 4, 1, 0] rfl (w_X6_firstLength_48 FU _ _ _ _)
theorem M_X6_firstLength (x1 : Int32) (x2 : Int32) (h : AHp) : MI QX6_firstLength 50 [.ref 62, .int x1, .int x2] h (m_X6_firstLength x1 x2 h) := MI.of (by decide) rfl rfl (Nat.le_of_ble_eq_true rfl) (w_X6_firstLength x1 x2 h)
set_option maxHeartbeats 4000000 in
set_option maxRecDepth 100000 in
theorem w_X6_answer_49 (k22 : Int32 → Int32 → Int32 → AHp → Option (Int32 × AHp)) (hk22 : ∀ (x1 : Int32) (x2 : Int32) (x3 : Int32) (h : AHp), WO tvI QX6_answer 51 22 [(0, .ref 62), (1, .int x1), (2, .int x2), (3, .int x3)] [] h (k22 x1 x2 x3 h)) (x1 : Int32) (x2 : Int32) (x3 : Int32) (s0 : Int32) (h : AHp) : WO tvI QX6_answer 51 49 [(0, .ref 62), (1, .int x1), (2, .int x2), (3, .int x3)] [.int s0] h (m_X6_answer_49 k22 x1 x2 x3 s0 h) := by
  unfold m_X6_answer_49
  refine z_istore (lv2 := [(4, .int s0), (0, .ref 62), (1, .int x1), (2, .int x2), (3, .int x3)]) dX6_answer_49 (Nat.le_of_ble_eq_true rfl) rfl ?_
  refine z_iload dX6_answer_51 0 rfl ?_
  refine z_iconst (v := -1) dX6_answer_53 (by decide) ?_
  refine z_ic_eq (tgt := 69) dX6_answer_54 (by decide) ?_ ?_
  · refine z_iincL (lv2 := fun v1 => [(3, .int v1), (4, .int s0), (0, .ref 62), (1, .int x1), (2, .int x2)]) dX6_answer_69 4 rfl rfl (Nat.le_of_ble_eq_true rfl) (fun _ => rfl) (fun v1 => ?_)
    refine z_goto (tgt := 22) dX6_answer_72 (by decide) ?_
    exact z_sub [2, 3, 4, 0] rfl (hk22 _ _ _ _)
  · refine z_iload_n dX6_answer_57 2 rfl ?_
    refine z_iconst (v := 1) dX6_answer_58 (by decide) ?_
    refine z_ic_ne (tgt := 66) dX6_answer_59 (by decide) ?_ ?_
    · refine z_iload dX6_answer_66 0 rfl ?_
      exact z_iret dX6_answer_68 rfl
    · refine z_iload_n dX6_answer_62 4 rfl ?_
      refine z_goto (tgt := 68) dX6_answer_63 (by decide) ?_
      exact z_iret dX6_answer_68 rfl
set_option maxHeartbeats 4000000 in
set_option maxRecDepth 100000 in
theorem w_X6_answer_22 : ∀ (f : Nat) (x1 : Int32) (x2 : Int32) (x3 : Int32) (h : AHp), WO tvI QX6_answer 51 22 [(0, .ref 62), (1, .int x1), (2, .int x2), (3, .int x3)] [] h (m_X6_answer_22 f x1 x2 x3 h) := by
  intro f
  induction f with
  | zero => intro x1 x2 x3 h; exact z_none
  | succ f ih =>
    intro x1 x2 x3 h
    rw [m_X6_answer_22]
    refine z_iload_n dX6_answer_22 3 rfl ?_
    refine z_bipush (v := 12) dX6_answer_23 (by decide) ?_
    refine z_ic_ge (tgt := 75) dX6_answer_25 (by decide) ?_ ?_
    · refine z_bipush (v := -2) dX6_answer_75 (by decide) ?_
      exact z_iret dX6_answer_77 rfl
    · refine z_aload_n dX6_answer_28 0 rfl ?_
      refine z_getI fX6_76 kc_62 rfl dX6_answer_29 ?_
      refine z_iload_n dX6_answer_32 3 rfl ?_
      refine z_ishr dX6_answer_33 ?_
      refine z_iconst (v := 1) dX6_answer_34 (by decide) ?_
      refine z_iand dX6_answer_35 ?_
      refine z_if_eq (tgt := 48) dX6_answer_36 (by decide) ?_ ?_
      · refine z_iconst (v := -1) dX6_answer_48 (by decide) ?_
        exact w_X6_answer_49 _ ih _ _ _ _ _
      · refine z_aload_n dX6_answer_39 0 rfl ?_
        refine z_iload_n dX6_answer_40 3 rfl ?_
        refine z_iload_n dX6_answer_41 2 rfl ?_
        refine z_callVI dX6_answer_42 (M_X6_firstLength _ _ _) bX6_firstLength lX6_89 kc_62 rfl rfl (Nat.le_of_ble_eq_true rfl) (Nat.le_of_ble_eq_true rfl) (fun r2 h3 => ?_)
        refine z_goto (tgt := 49) dX6_answer_45 (by decide) ?_
        exact w_X6_answer_49 _ ih _ _ _ _ _
set_option maxHeartbeats 4000000 in
set_option maxRecDepth 100000 in
theorem w_X6_answer (x1 : Int32) (h : AHp) : WO tvI QX6_answer 51 0 [(0, .ref 62), (1, .int x1)] [] h (m_X6_answer x1 h) := by
  unfold m_X6_answer
  refine z_aload_n dX6_answer_0 0 rfl ?_
  refine z_iconst (v := 0) dX6_answer_1 (by decide) ?_
  refine z_aload_n dX6_answer_2 0 rfl ?_
  refine z_getI fX6_52 kc_62 rfl dX6_answer_3 ?_
  refine z_aload_n dX6_answer_6 0 rfl ?_
  refine z_getI fX6_55 kc_62 rfl dX6_answer_7 ?_
  refine z_callVI dX6_answer_10 (M_X6_value 9 _ _ _ _) bX6_value lX6_85 kc_62 rfl rfl (Nat.le_of_ble_eq_true rfl) (Nat.le_of_ble_eq_true rfl) (fun r4 h5 => ?_)
  refine z_istore_n (lv2 := [(2, .int r4), (0, .ref 62), (1, .int x1)]) dX6_answer_13 (Nat.le_of_ble_eq_true rfl) rfl ?_
  refine z_iload_n dX6_answer_14 2 rfl ?_
  refine z_if_ne (tgt := 20) dX6_answer_15 (by decide) ?_ ?_
  · refine z_iconst (v := 0) dX6_answer_20 (by decide) ?_
    refine z_istore_n (lv2 := [(3, .int 0), (2, .int r4), (0, .ref 62), (1, .int x1)]) dX6_answer_21 (Nat.le_of_ble_eq_true rfl) rfl ?_
    exact z_sub [2, 3, 1, 0] rfl (w_X6_answer_22 FU _ _ _ _)
  · refine z_iload_n dX6_answer_18 0 rfl ?_
    exact z_iret dX6_answer_19 rfl
theorem M_X6_answer (x1 : Int32) (h : AHp) : MI QX6_answer 51 [.ref 62, .int x1] h (m_X6_answer x1 h) := MI.of (by decide) rfl rfl (Nat.le_of_ble_eq_true rfl) (w_X6_answer x1 h)
set_option maxHeartbeats 4000000 in
set_option maxRecDepth 100000 in
theorem w_X11_silenced_48 (x1 : Int32) (x2 : Int32) (x3 : Int32) (x4 : Int32) (x5 : Int32) (x6 : Int32) (x7 : Int32) (s0 : Int32) (h : AHp) : WO tvI QX11_silenced 52 48 [(0, .ref 0), (1, .int x1), (2, .int x2), (3, .int x3), (4, .int x4), (5, .int x5), (6, .int x6), (7, .int x7)] [.int s0] h (m_X11_silenced_48 x1 x2 x3 x4 x5 x6 x7 s0 h) := by
  unfold m_X11_silenced_48
  refine z_istore (lv2 := [(8, .int s0), (0, .ref 0), (1, .int x1), (2, .int x2), (3, .int x3), (4, .int x4), (5, .int x5), (6, .int x6), (7, .int x7)]) dX11_silenced_48 (Nat.le_of_ble_eq_true rfl) rfl ?_
  refine z_iload dX11_silenced_50 8 rfl ?_
  refine z_if_eq (tgt := 84) dX11_silenced_52 (by decide) ?_ ?_
  · refine z_bipush (v := -3) dX11_silenced_84 (by decide) ?_
    exact z_iret dX11_silenced_86 rfl
  · refine z_iload dX11_silenced_55 0 rfl ?_
    refine z_if_eq (tgt := 84) dX11_silenced_57 (by decide) ?_ ?_
    · refine z_bipush (v := -3) dX11_silenced_84 (by decide) ?_
      exact z_iret dX11_silenced_86 rfl
    · refine z_iload dX11_silenced_60 6 rfl ?_
      refine z_iconst (v := 1) dX11_silenced_62 (by decide) ?_
      refine z_ic_lt (tgt := 84) dX11_silenced_63 (by decide) ?_ ?_
      · refine z_bipush (v := -3) dX11_silenced_84 (by decide) ?_
        exact z_iret dX11_silenced_86 rfl
      · refine z_iload dX11_silenced_66 6 rfl ?_
        refine z_bipush (v := 6) dX11_silenced_68 (by decide) ?_
        refine z_ic_gt (tgt := 84) dX11_silenced_70 (by decide) ?_ ?_
        · refine z_bipush (v := -3) dX11_silenced_84 (by decide) ?_
          exact z_iret dX11_silenced_86 rfl
        · refine z_iload dX11_silenced_73 7 rfl ?_
          refine z_if_lt (tgt := 84) dX11_silenced_75 (by decide) ?_ ?_
          · refine z_bipush (v := -3) dX11_silenced_84 (by decide) ?_
            exact z_iret dX11_silenced_86 rfl
          · refine z_iload dX11_silenced_78 7 rfl ?_
            refine z_iconst (v := 2) dX11_silenced_80 (by decide) ?_
            refine z_ic_le (tgt := 87) dX11_silenced_81 (by decide) ?_ ?_
            · refine z_aload_n dX11_silenced_87 1 rfl ?_
              refine z_getR (j := 62) fX11_68 kc_0 rfl rfl rfl (by decide) dX11_silenced_88 ?_
              refine z_aload_n dX11_silenced_91 1 rfl ?_
              refine z_getR (j := 42) fX11_38 kc_0 rfl rfl rfl (by decide) dX11_silenced_92 ?_
              refine z_iload dX11_silenced_95 6 rfl ?_
              refine z_callVV dX11_silenced_97 (M_X6_begin _ _) bX6_begin lX11_220 kc_62 rfl rfl (Nat.le_of_ble_eq_true rfl) (Nat.le_of_ble_eq_true rfl) (fun r1 h2 => ?_)
              refine z_aload_n dX11_silenced_100 1 rfl ?_
              refine z_getR (j := 62) fX11_68 kc_0 rfl rfl rfl (by decide) dX11_silenced_101 ?_
              refine z_iload_n dX11_silenced_104 2 rfl ?_
              refine z_iload_n dX11_silenced_105 3 rfl ?_
              refine z_iload_n dX11_silenced_106 4 rfl ?_
              refine z_iload dX11_silenced_107 5 rfl ?_
              refine z_callVV dX11_silenced_109 (M_X6_tell _ _ _ _ _) bX6_tell lX11_223 kc_62 rfl rfl (Nat.le_of_ble_eq_true rfl) (Nat.le_of_ble_eq_true rfl) (fun r3 h4 => ?_)
              refine z_aload_n dX11_silenced_112 1 rfl ?_
              refine z_getR (j := 62) fX11_68 kc_0 rfl rfl rfl (by decide) dX11_silenced_113 ?_
              refine z_iload dX11_silenced_116 7 rfl ?_
              refine z_callVI dX11_silenced_118 (M_X6_answer _ _) bX6_answer lX11_224 kc_62 rfl rfl (Nat.le_of_ble_eq_true rfl) (Nat.le_of_ble_eq_true rfl) (fun r5 h6 => ?_)
              exact z_iret dX11_silenced_121 rfl
            · refine z_bipush (v := -3) dX11_silenced_84 (by decide) ?_
              exact z_iret dX11_silenced_86 rfl
set_option maxHeartbeats 4000000 in
set_option maxRecDepth 100000 in
theorem w_X11_silenced_24 (x1 : Int32) (x2 : Int32) (x3 : Int32) (x4 : Int32) (x5 : Int32) (x6 : Int32) (s0 : Int32) (h : AHp) : WO tvI QX11_silenced 52 24 [(0, .ref 0), (1, .int x1), (2, .int x2), (3, .int x3), (4, .int x4), (5, .int x5), (6, .int x6)] [.int s0] h (m_X11_silenced_24 x1 x2 x3 x4 x5 x6 s0 h) := by
  unfold m_X11_silenced_24
  refine z_istore (lv2 := [(7, .int s0), (0, .ref 0), (1, .int x1), (2, .int x2), (3, .int x3), (4, .int x4), (5, .int x5), (6, .int x6)]) dX11_silenced_24 (Nat.le_of_ble_eq_true rfl) rfl ?_
  refine z_iload_n dX11_silenced_26 3 rfl ?_
  refine z_sipush (v := -4096) dX11_silenced_27 (by decide) ?_
  refine z_iand dX11_silenced_30 ?_
  refine z_if_ne (tgt := 47) dX11_silenced_31 (by decide) ?_ ?_
  · refine z_iconst (v := 0) dX11_silenced_47 (by decide) ?_
    exact z_sub [1, 2, 3, 4, 5, 6, 7, 0] rfl (w_X11_silenced_48 _ _ _ _ _ _ _ _ _)
  · refine z_iload dX11_silenced_34 5 rfl ?_
    refine z_sipush (v := -4096) dX11_silenced_36 (by decide) ?_
    refine z_iand dX11_silenced_39 ?_
    refine z_if_ne (tgt := 47) dX11_silenced_40 (by decide) ?_ ?_
    · refine z_iconst (v := 0) dX11_silenced_47 (by decide) ?_
      exact z_sub [1, 2, 3, 4, 5, 6, 7, 0] rfl (w_X11_silenced_48 _ _ _ _ _ _ _ _ _)
    · refine z_iconst (v := 1) dX11_silenced_43 (by decide) ?_
      refine z_goto (tgt := 48) dX11_silenced_44 (by decide) ?_
      exact z_sub [1, 2, 3, 4, 5, 6, 7, 0] rfl (w_X11_silenced_48 _ _ _ _ _ _ _ _ _)
set_option maxHeartbeats 4000000 in
set_option maxRecDepth 100000 in
theorem w_X11_silenced (x1 : Int32) (x2 : Int32) (x3 : Int32) (x4 : Int32) (x5 : Int32) (x6 : Int32) (h : AHp) : WO tvI QX11_silenced 52 0 [(0, .ref 0), (1, .int x1), (2, .int x2), (3, .int x3), (4, .int x4), (5, .int x5), (6, .int x6)] [] h (m_X11_silenced x1 x2 x3 x4 x5 x6 h) := by
  unfold m_X11_silenced
  refine z_iload_n dX11_silenced_0 1 rfl ?_
  refine z_callSI dX11_silenced_1 (M_X11_isSpeaker _ _) bX11_isSpeaker lX11_126 rfl rfl (Nat.le_of_ble_eq_true rfl) (Nat.le_of_ble_eq_true rfl) (fun r7 h8 => ?_)
  refine z_if_eq (tgt := 23) dX11_silenced_4 (by decide) ?_ ?_
  · refine z_iconst (v := 0) dX11_silenced_23 (by decide) ?_
    exact w_X11_silenced_24 _ _ _ _ _ _ _ _
  · refine z_iload_n dX11_silenced_7 3 rfl ?_
    refine z_callSI dX11_silenced_8 (M_X11_isSpeaker _ _) bX11_isSpeaker lX11_126 rfl rfl (Nat.le_of_ble_eq_true rfl) (Nat.le_of_ble_eq_true rfl) (fun r9 h10 => ?_)
    refine z_if_eq (tgt := 23) dX11_silenced_11 (by decide) ?_ ?_
    · refine z_iconst (v := 0) dX11_silenced_23 (by decide) ?_
      exact w_X11_silenced_24 _ _ _ _ _ _ _ _
    · refine z_iload_n dX11_silenced_14 1 rfl ?_
      refine z_iload_n dX11_silenced_15 3 rfl ?_
      refine z_ic_eq (tgt := 23) dX11_silenced_16 (by decide) ?_ ?_
      · refine z_iconst (v := 0) dX11_silenced_23 (by decide) ?_
        exact w_X11_silenced_24 _ _ _ _ _ _ _ _
      · refine z_iconst (v := 1) dX11_silenced_19 (by decide) ?_
        refine z_goto (tgt := 24) dX11_silenced_20 (by decide) ?_
        exact w_X11_silenced_24 _ _ _ _ _ _ _ _
theorem M_X11_silenced (x1 : Int32) (x2 : Int32) (x3 : Int32) (x4 : Int32) (x5 : Int32) (x6 : Int32) (h : AHp) : MI QX11_silenced 52 [.ref 0, .int x1, .int x2, .int x3, .int x4, .int x5, .int x6] h (m_X11_silenced x1 x2 x3 x4 x5 x6 h) := MI.of (by decide) rfl rfl (Nat.le_of_ble_eq_true rfl) (w_X11_silenced x1 x2 x3 x4 x5 x6 h)
set_option maxHeartbeats 4000000 in
set_option maxRecDepth 100000 in
theorem w_X10_standAt (x1 : Int32) (x2 : Int32) (x3 : Int32) (h : AHp) : WO tvV QX10_standAt 3 0 [(0, .ref 63), (1, .int x1), (2, .int x2), (3, .int x3)] [] h (m_X10_standAt x1 x2 x3 h) := by
  unfold m_X10_standAt
  refine z_aload_n dX10_standAt_0 0 rfl ?_
  refine z_getR (j := 3) fX10_21 kc_63 rfl rfl rfl (by decide) dX10_standAt_1 ?_
  refine z_iload_n dX10_standAt_4 2 rfl ?_
  refine z_iload_n dX10_standAt_5 1 rfl ?_
  refine z_bipush (v := 25) dX10_standAt_6 (by decide) ?_
  refine z_irem dX10_standAt_8 (by decide) ?_
  refine z_iload_n dX10_standAt_9 1 rfl ?_
  refine z_bipush (v := 25) dX10_standAt_10 (by decide) ?_
  refine z_idiv dX10_standAt_12 (by decide) ?_
  refine z_iconst (v := 1) dX10_standAt_13 (by decide) ?_
  refine z_isub dX10_standAt_14 ?_
  refine z_iload_n dX10_standAt_15 3 rfl ?_
  refine z_callVV dX10_standAt_16 (M_X9_stand _ _ _ _ _) bX9_stand lX10_87 kc_3 rfl rfl (Nat.le_of_ble_eq_true rfl) (Nat.le_of_ble_eq_true rfl) (fun r1 h2 => ?_)
  exact z_vret dX10_standAt_19 rfl
theorem M_X10_standAt (x1 : Int32) (x2 : Int32) (x3 : Int32) (h : AHp) : MV QX10_standAt 3 [.ref 63, .int x1, .int x2, .int x3] h (m_X10_standAt x1 x2 x3 h) := MV.of (by decide) rfl rfl (Nat.le_of_ble_eq_true rfl) (w_X10_standAt x1 x2 x3 h)
set_option maxHeartbeats 4000000 in
set_option maxRecDepth 100000 in
theorem w_X10_anyMay_2 : ∀ (f : Nat) (x1 : Int32) (h : AHp), WO tvI QX10_anyMay 4 2 [(0, .ref 63), (1, .int x1)] [] h (m_X10_anyMay_2 f x1 h) := by
  intro f
  induction f with
  | zero => intro x1 h; exact z_none
  | succ f ih =>
    intro x1 h
    rw [m_X10_anyMay_2]
    refine z_iload_n dX10_anyMay_2 1 rfl ?_
    refine z_bipush (v := 6) dX10_anyMay_3 (by decide) ?_
    refine z_ic_ge (tgt := 54) dX10_anyMay_5 (by decide) ?_ ?_
    · refine z_iconst (v := 0) dX10_anyMay_54 (by decide) ?_
      exact z_zret dX10_anyMay_55 rfl (Or.inl rfl)
    · refine z_aload_n dX10_anyMay_8 0 rfl ?_
      refine z_getI fX10_59 kc_63 rfl dX10_anyMay_9 ?_
      refine z_iload_n dX10_anyMay_12 1 rfl ?_
      refine z_ishr dX10_anyMay_13 ?_
      refine z_iconst (v := 1) dX10_anyMay_14 (by decide) ?_
      refine z_iand dX10_anyMay_15 ?_
      refine z_if_eq (tgt := 48) dX10_anyMay_16 (by decide) ?_ ?_
      · refine z_iincL (lv2 := fun v1 => [(1, .int v1), (0, .ref 63)]) dX10_anyMay_48 1 rfl rfl (Nat.le_of_ble_eq_true rfl) (fun _ => rfl) (fun v1 => ?_)
        refine z_goto (tgt := 2) dX10_anyMay_51 (by decide) ?_
        exact z_sub [1, 0] rfl (ih _ _)
      · refine z_aload_n dX10_anyMay_19 0 rfl ?_
        refine z_getR (j := 3) fX10_21 kc_63 rfl rfl rfl (by decide) dX10_anyMay_20 ?_
        refine z_iload_n dX10_anyMay_23 1 rfl ?_
        refine z_sipush (v := 4095) dX10_anyMay_24 (by decide) ?_
        refine z_aload_n dX10_anyMay_27 0 rfl ?_
        refine z_getI fX10_25 kc_63 rfl dX10_anyMay_28 ?_
        refine z_callVI dX10_anyMay_31 (M_X9_letsAny _ _ _ _) bX9_letsAny lX10_99 kc_3 rfl rfl (Nat.le_of_ble_eq_true rfl) (Nat.le_of_ble_eq_true rfl) (fun r2 h3 => ?_)
        refine z_if_eq (tgt := 39) dX10_anyMay_34 (by decide) ?_ ?_
        · refine z_aload_n dX10_anyMay_39 0 rfl ?_
          refine z_getI fX10_69 kc_63 rfl dX10_anyMay_40 ?_
          refine z_if_ne (tgt := 48) dX10_anyMay_43 (by decide) ?_ ?_
          · refine z_iincL (lv2 := fun v4 => [(1, .int v4), (0, .ref 63)]) dX10_anyMay_48 1 rfl rfl (Nat.le_of_ble_eq_true rfl) (fun _ => rfl) (fun v4 => ?_)
            refine z_goto (tgt := 2) dX10_anyMay_51 (by decide) ?_
            exact z_sub [1, 0] rfl (ih _ _)
          · refine z_iconst (v := 0) dX10_anyMay_46 (by decide) ?_
            exact z_zret dX10_anyMay_47 rfl (Or.inl rfl)
        · refine z_iconst (v := 1) dX10_anyMay_37 (by decide) ?_
          exact z_zret dX10_anyMay_38 rfl (Or.inr rfl)
set_option maxHeartbeats 4000000 in
set_option maxRecDepth 100000 in
theorem w_X10_anyMay (h : AHp) : WO tvI QX10_anyMay 4 0 [(0, .ref 63)] [] h (m_X10_anyMay h) := by
  unfold m_X10_anyMay
  refine z_iconst (v := 0) dX10_anyMay_0 (by decide) ?_
  refine z_istore_n (lv2 := [(1, .int 0), (0, .ref 63)]) dX10_anyMay_1 (Nat.le_of_ble_eq_true rfl) rfl ?_
  exact z_sub [1, 0] rfl (w_X10_anyMay_2 FU _ _)
theorem M_X10_anyMay (h : AHp) : MI QX10_anyMay 4 [.ref 63] h (m_X10_anyMay h) := MI.of (by decide) rfl rfl (Nat.le_of_ble_eq_true rfl) (w_X10_anyMay h)
set_option maxHeartbeats 4000000 in
set_option maxRecDepth 100000 in
theorem w_X10_somebodyMay_11 (k2 : Int32 → Int32 → AHp → Option (Int32 × AHp)) (hk2 : ∀ (x1 : Int32) (x2 : Int32) (h : AHp), WO tvI QX10_somebodyMay 5 2 [(0, .ref 63), (1, .int x1), (2, .int x2)] [] h (k2 x1 x2 h)) : ∀ (f : Nat) (x1 : Int32) (x2 : Int32) (x3 : Int32) (h : AHp), WO tvI QX10_somebodyMay 5 11 [(0, .ref 63), (1, .int x1), (2, .int x2), (3, .int x3)] [] h (m_X10_somebodyMay_11 k2 f x1 x2 x3 h) := by
  intro f
  induction f with
  | zero => intro x1 x2 x3 h; exact z_none
  | succ f ih =>
    intro x1 x2 x3 h
    rw [m_X10_somebodyMay_11]
    refine z_iload_n dX10_somebodyMay_11 3 rfl ?_
    refine z_bipush (v := 25) dX10_somebodyMay_12 (by decide) ?_
    refine z_ic_ge (tgt := 61) dX10_somebodyMay_14 (by decide) ?_ ?_
    · refine z_iincL (lv2 := fun v1 => [(2, .int v1), (0, .ref 63), (1, .int x1), (3, .int x3)]) dX10_somebodyMay_61 2 rfl rfl (Nat.le_of_ble_eq_true rfl) (fun _ => rfl) (fun v1 => ?_)
      refine z_goto (tgt := 2) dX10_somebodyMay_64 (by decide) ?_
      exact z_sub [1, 2, 0] rfl (hk2 _ _ _)
    · refine z_aload_n dX10_somebodyMay_17 0 rfl ?_
      refine z_getR (j := 64) fX10_11 kc_63 rfl rfl rfl (by decide) dX10_somebodyMay_18 ?_
      refine z_iload_n dX10_somebodyMay_21 2 rfl ?_
      refine z_gd (fun g2 => ?_)
      refine z_iald kc_64 dX10_somebodyMay_22 g2 ?_
      refine z_if_eq (tgt := 61) dX10_somebodyMay_23 (by decide) ?_ ?_
      · refine z_iincL (lv2 := fun v3 => [(2, .int v3), (0, .ref 63), (1, .int x1), (3, .int x3)]) dX10_somebodyMay_61 2 rfl rfl (Nat.le_of_ble_eq_true rfl) (fun _ => rfl) (fun v3 => ?_)
        refine z_goto (tgt := 2) dX10_somebodyMay_64 (by decide) ?_
        exact z_sub [1, 2, 0] rfl (hk2 _ _ _)
      · refine z_aload_n dX10_somebodyMay_26 0 rfl ?_
        refine z_getR (j := 64) fX10_11 kc_63 rfl rfl rfl (by decide) dX10_somebodyMay_27 ?_
        refine z_iload_n dX10_somebodyMay_30 2 rfl ?_
        refine z_gd (fun g4 => ?_)
        refine z_iald kc_64 dX10_somebodyMay_31 g4 ?_
        refine z_iload_n dX10_somebodyMay_32 3 rfl ?_
        refine z_ishr dX10_somebodyMay_33 ?_
        refine z_iconst (v := 1) dX10_somebodyMay_34 (by decide) ?_
        refine z_iand dX10_somebodyMay_35 ?_
        refine z_if_eq (tgt := 55) dX10_somebodyMay_36 (by decide) ?_ ?_
        · refine z_iincL (lv2 := fun v5 => [(3, .int v5), (0, .ref 63), (1, .int x1), (2, .int x2)]) dX10_somebodyMay_55 3 rfl rfl (Nat.le_of_ble_eq_true rfl) (fun _ => rfl) (fun v5 => ?_)
          refine z_goto (tgt := 11) dX10_somebodyMay_58 (by decide) ?_
          exact z_sub [1, 2, 3, 0] rfl (ih _ _ _ _)
        · refine z_aload_n dX10_somebodyMay_39 0 rfl ?_
          refine z_iload_n dX10_somebodyMay_40 2 rfl ?_
          refine z_iload_n dX10_somebodyMay_41 3 rfl ?_
          refine z_iload_n dX10_somebodyMay_42 1 rfl ?_
          refine z_callVV dX10_somebodyMay_43 (M_X10_standAt _ _ _ _) bX10_standAt lX10_91 kc_63 rfl rfl (Nat.le_of_ble_eq_true rfl) (Nat.le_of_ble_eq_true rfl) (fun r6 h7 => ?_)
          refine z_aload_n dX10_somebodyMay_46 0 rfl ?_
          refine z_callVI dX10_somebodyMay_47 (M_X10_anyMay _) bX10_anyMay lX10_95 kc_63 rfl rfl (Nat.le_of_ble_eq_true rfl) (Nat.le_of_ble_eq_true rfl) (fun r8 h9 => ?_)
          refine z_if_eq (tgt := 55) dX10_somebodyMay_50 (by decide) ?_ ?_
          · refine z_iincL (lv2 := fun v10 => [(3, .int v10), (0, .ref 63), (1, .int x1), (2, .int x2)]) dX10_somebodyMay_55 3 rfl rfl (Nat.le_of_ble_eq_true rfl) (fun _ => rfl) (fun v10 => ?_)
            refine z_goto (tgt := 11) dX10_somebodyMay_58 (by decide) ?_
            exact z_sub [1, 2, 3, 0] rfl (ih _ _ _ _)
          · refine z_iconst (v := 1) dX10_somebodyMay_53 (by decide) ?_
            exact z_zret dX10_somebodyMay_54 rfl (Or.inr rfl)
set_option maxHeartbeats 4000000 in
set_option maxRecDepth 100000 in
theorem w_X10_somebodyMay_2 : ∀ (f : Nat) (x1 : Int32) (x2 : Int32) (h : AHp), WO tvI QX10_somebodyMay 5 2 [(0, .ref 63), (1, .int x1), (2, .int x2)] [] h (m_X10_somebodyMay_2 f x1 x2 h) := by
  intro f
  induction f with
  | zero => intro x1 x2 h; exact z_none
  | succ f ih =>
    intro x1 x2 h
    rw [m_X10_somebodyMay_2]
    refine z_iload_n dX10_somebodyMay_2 2 rfl ?_
    refine z_sipush (v := 175) dX10_somebodyMay_3 (by decide) ?_
    refine z_ic_ge (tgt := 67) dX10_somebodyMay_6 (by decide) ?_ ?_
    · refine z_iconst (v := 0) dX10_somebodyMay_67 (by decide) ?_
      exact z_zret dX10_somebodyMay_68 rfl (Or.inl rfl)
    · refine z_iconst (v := 0) dX10_somebodyMay_9 (by decide) ?_
      refine z_istore_n (lv2 := [(3, .int 0), (0, .ref 63), (1, .int x1), (2, .int x2)]) dX10_somebodyMay_10 (Nat.le_of_ble_eq_true rfl) rfl ?_
      exact z_sub [1, 2, 3, 0] rfl (w_X10_somebodyMay_11 _ ih FU _ _ _ _)
set_option maxHeartbeats 4000000 in
set_option maxRecDepth 100000 in
theorem w_X10_somebodyMay (x1 : Int32) (h : AHp) : WO tvI QX10_somebodyMay 5 0 [(0, .ref 63), (1, .int x1)] [] h (m_X10_somebodyMay x1 h) := by
  unfold m_X10_somebodyMay
  refine z_iconst (v := 0) dX10_somebodyMay_0 (by decide) ?_
  refine z_istore_n (lv2 := [(2, .int 0), (0, .ref 63), (1, .int x1)]) dX10_somebodyMay_1 (Nat.le_of_ble_eq_true rfl) rfl ?_
  exact z_sub [1, 2, 0] rfl (w_X10_somebodyMay_2 FU _ _ _)
theorem M_X10_somebodyMay (x1 : Int32) (h : AHp) : MI QX10_somebodyMay 5 [.ref 63, .int x1] h (m_X10_somebodyMay x1 h) := MI.of (by decide) rfl rfl (Nat.le_of_ble_eq_true rfl) (w_X10_somebodyMay x1 h)
set_option maxHeartbeats 4000000 in
set_option maxRecDepth 100000 in
theorem w_X10_rowOf (x1 : Int32) (x2 : Int32) (h : AHp) : WO tvI QX10_rowOf 0 0 [(0, .ref 63), (1, .int x1), (2, .int x2)] [] h (m_X10_rowOf x1 x2 h) := by
  unfold m_X10_rowOf
  refine z_aload_n dX10_rowOf_0 0 rfl ?_
  refine z_getI fX10_72 kc_63 rfl dX10_rowOf_1 ?_
  refine z_if_eq (tgt := 13) dX10_rowOf_4 (by decide) ?_ ?_
  · refine z_iconst (v := 0) dX10_rowOf_13 (by decide) ?_
    refine z_bipush (v := 25) dX10_rowOf_14 (by decide) ?_
    refine z_imul dX10_rowOf_16 ?_
    refine z_aload_n dX10_rowOf_17 0 rfl ?_
    refine z_getI fX10_62 kc_63 rfl dX10_rowOf_18 ?_
    refine z_if_eq (tgt := 28) dX10_rowOf_21 (by decide) ?_ ?_
    · refine z_iconst (v := 0) dX10_rowOf_28 (by decide) ?_
      refine z_iadd dX10_rowOf_29 ?_
      exact z_iret dX10_rowOf_30 rfl
    · refine z_iload_n dX10_rowOf_24 2 rfl ?_
      refine z_goto (tgt := 29) dX10_rowOf_25 (by decide) ?_
      refine z_iadd dX10_rowOf_29 ?_
      exact z_iret dX10_rowOf_30 rfl
  · refine z_iload_n dX10_rowOf_7 1 rfl ?_
    refine z_iconst (v := 1) dX10_rowOf_8 (by decide) ?_
    refine z_iadd dX10_rowOf_9 ?_
    refine z_goto (tgt := 14) dX10_rowOf_10 (by decide) ?_
    refine z_bipush (v := 25) dX10_rowOf_14 (by decide) ?_
    refine z_imul dX10_rowOf_16 ?_
    refine z_aload_n dX10_rowOf_17 0 rfl ?_
    refine z_getI fX10_62 kc_63 rfl dX10_rowOf_18 ?_
    refine z_if_eq (tgt := 28) dX10_rowOf_21 (by decide) ?_ ?_
    · refine z_iconst (v := 0) dX10_rowOf_28 (by decide) ?_
      refine z_iadd dX10_rowOf_29 ?_
      exact z_iret dX10_rowOf_30 rfl
    · refine z_iload_n dX10_rowOf_24 2 rfl ?_
      refine z_goto (tgt := 29) dX10_rowOf_25 (by decide) ?_
      refine z_iadd dX10_rowOf_29 ?_
      exact z_iret dX10_rowOf_30 rfl
theorem M_X10_rowOf (x1 : Int32) (x2 : Int32) (h : AHp) : MI QX10_rowOf 0 [.ref 63, .int x1, .int x2] h (m_X10_rowOf x1 x2 h) := MI.of (by decide) rfl rfl (Nat.le_of_ble_eq_true rfl) (w_X10_rowOf x1 x2 h)
set_option maxHeartbeats 4000000 in
set_option maxRecDepth 100000 in
theorem w_X10_speakOn_93 (k7 : Int32 → Int32 → Int32 → Int32 → AHp → Option (Unit × AHp)) (hk7 : ∀ (x1 : Int32) (x2 : Int32) (x3 : Int32) (x4 : Int32) (h : AHp), WO tvV QX10_speakOn 4 7 [(0, .ref 63), (1, .int x1), (2, .int x2), (3, .int x3), (4, .int x4)] [] h (k7 x1 x2 x3 x4 h)) (x1 : Int32) (x2 : Int32) (x3 : Int32) (x4 : Int32) (x5 : Int32) (h : AHp) : WO tvV QX10_speakOn 4 93 [(0, .ref 63), (1, .int x1), (2, .int x2), (3, .int x3), (4, .int x4), (5, .int x5)] [] h (m_X10_speakOn_93 k7 x1 x2 x3 x4 x5 h) := by
  unfold m_X10_speakOn_93
  refine z_iload_n dX10_speakOn_93 2 rfl ?_
  refine z_if_eq (tgt := 119) dX10_speakOn_94 (by decide) ?_ ?_
  · refine z_iincL (lv2 := fun v1 => [(4, .int v1), (0, .ref 63), (1, .int x1), (2, .int x2), (3, .int x3), (5, .int x5)]) dX10_speakOn_119 4 rfl rfl (Nat.le_of_ble_eq_true rfl) (fun _ => rfl) (fun v1 => ?_)
    refine z_goto (tgt := 7) dX10_speakOn_122 (by decide) ?_
    exact z_sub [1, 2, 3, 4, 0] rfl (hk7 _ _ _ _ _)
  · refine z_aload_n dX10_speakOn_97 0 rfl ?_
    refine z_getR (j := 65) fX10_15 kc_63 rfl rfl rfl (by decide) dX10_speakOn_98 ?_
    refine z_iload dX10_speakOn_101 5 rfl ?_
    refine z_dup2 dX10_speakOn_103 rfl rfl ?_
    refine z_gd (fun g2 => ?_)
    refine z_iald kc_65 dX10_speakOn_104 g2 ?_
    refine z_aload_n dX10_speakOn_105 0 rfl ?_
    refine z_getI fX10_66 kc_63 rfl dX10_speakOn_106 ?_
    refine z_if_eq (tgt := 116) dX10_speakOn_109 (by decide) ?_ ?_
    · refine z_iconst (v := 1) dX10_speakOn_116 (by decide) ?_
      refine z_ior dX10_speakOn_117 ?_
      refine z_gd (fun g4 => ?_)
      refine z_iast kc_65 dX10_speakOn_118 g4 ?_
      refine z_lh (fun h3 => ?_)
      refine z_iincL (lv2 := fun v5 => [(4, .int v5), (0, .ref 63), (1, .int x1), (2, .int x2), (3, .int x3), (5, .int x5)]) dX10_speakOn_119 4 rfl rfl (Nat.le_of_ble_eq_true rfl) (fun _ => rfl) (fun v5 => ?_)
      refine z_goto (tgt := 7) dX10_speakOn_122 (by decide) ?_
      exact z_sub [1, 2, 3, 4, 0] rfl (hk7 _ _ _ _ _)
    · refine z_iload_n dX10_speakOn_112 2 rfl ?_
      refine z_goto (tgt := 117) dX10_speakOn_113 (by decide) ?_
      refine z_ior dX10_speakOn_117 ?_
      refine z_gd (fun g7 => ?_)
      refine z_iast kc_65 dX10_speakOn_118 g7 ?_
      refine z_lh (fun h6 => ?_)
      refine z_iincL (lv2 := fun v8 => [(4, .int v8), (0, .ref 63), (1, .int x1), (2, .int x2), (3, .int x3), (5, .int x5)]) dX10_speakOn_119 4 rfl rfl (Nat.le_of_ble_eq_true rfl) (fun _ => rfl) (fun v8 => ?_)
      refine z_goto (tgt := 7) dX10_speakOn_122 (by decide) ?_
      exact z_sub [1, 2, 3, 4, 0] rfl (hk7 _ _ _ _ _)
set_option maxHeartbeats 4000000 in
set_option maxRecDepth 100000 in
theorem w_X10_speakOn_59 (k7 : Int32 → Int32 → Int32 → Int32 → AHp → Option (Unit × AHp)) (hk7 : ∀ (x1 : Int32) (x2 : Int32) (x3 : Int32) (x4 : Int32) (h : AHp), WO tvV QX10_speakOn 4 7 [(0, .ref 63), (1, .int x1), (2, .int x2), (3, .int x3), (4, .int x4)] [] h (k7 x1 x2 x3 x4 h)) (x1 : Int32) (x4 : Int32) (x5 : Int32) (h : AHp) : WO tvV QX10_speakOn 4 59 [(0, .ref 63), (1, .int x1), (4, .int x4), (5, .int x5)] [] h (m_X10_speakOn_59 k7 x1 x4 x5 h) := by
  unfold m_X10_speakOn_59
  refine z_aload_n dX10_speakOn_59 0 rfl ?_
  refine z_getR (j := 3) fX10_21 kc_63 rfl rfl rfl (by decide) dX10_speakOn_60 ?_
  refine z_iload dX10_speakOn_63 2 rfl ?_
  refine z_sipush (v := 4095) dX10_speakOn_65 (by decide) ?_
  refine z_ldc dX10_speakOn_68 kX10_107 ?_
  refine z_aload_n dX10_speakOn_70 0 rfl ?_
  refine z_getI fX10_25 kc_63 rfl dX10_speakOn_71 ?_
  refine z_iconst (v := -1) dX10_speakOn_74 (by decide) ?_
  refine z_ixor dX10_speakOn_75 ?_
  refine z_iand dX10_speakOn_76 ?_
  refine z_aload_n dX10_speakOn_77 0 rfl ?_
  refine z_getR (j := 65) fX10_15 kc_63 rfl rfl rfl (by decide) dX10_speakOn_78 ?_
  refine z_iload dX10_speakOn_81 3 rfl ?_
  refine z_gd (fun g9 => ?_)
  refine z_iald kc_65 dX10_speakOn_83 g9 ?_
  refine z_iconst (v := -1) dX10_speakOn_84 (by decide) ?_
  refine z_ixor dX10_speakOn_85 ?_
  refine z_iand dX10_speakOn_86 ?_
  refine z_callVI dX10_speakOn_87 (M_X9_letsAny _ _ _ _) bX9_letsAny lX10_99 kc_3 rfl rfl (Nat.le_of_ble_eq_true rfl) (Nat.le_of_ble_eq_true rfl) (fun r10 h11 => ?_)
  refine z_istore_n (lv2 := [(2, .int r10), (0, .ref 63), (1, .int x1), (4, .int x4), (5, .int x5)]) dX10_speakOn_90 (Nat.le_of_ble_eq_true rfl) rfl ?_
  refine z_iconst (v := 1) dX10_speakOn_91 (by decide) ?_
  refine z_istore_n (lv2 := [(3, .int 1), (2, .int r10), (0, .ref 63), (1, .int x1), (4, .int x4), (5, .int x5)]) dX10_speakOn_92 (Nat.le_of_ble_eq_true rfl) rfl ?_
  exact z_sub [2, 3, 1, 0, 4, 5] rfl (w_X10_speakOn_93 _ hk7 _ _ _ _ _ _)
set_option maxHeartbeats 4000000 in
set_option maxRecDepth 100000 in
theorem w_X10_speakOn_7 : ∀ (f : Nat) (x1 : Int32) (x2 : Int32) (x3 : Int32) (x4 : Int32) (h : AHp), WO tvV QX10_speakOn 4 7 [(0, .ref 63), (1, .int x1), (2, .int x2), (3, .int x3), (4, .int x4)] [] h (m_X10_speakOn_7 f x1 x2 x3 x4 h) := by
  intro f
  induction f with
  | zero => intro x1 x2 x3 x4 h; exact z_none
  | succ f ih =>
    intro x1 x2 x3 x4 h
    rw [m_X10_speakOn_7]
    refine z_iload dX10_speakOn_7 4 rfl ?_
    refine z_bipush (v := 6) dX10_speakOn_9 (by decide) ?_
    refine z_ic_ge (tgt := 125) dX10_speakOn_11 (by decide) ?_ ?_
    · exact z_vret dX10_speakOn_125 rfl
    · refine z_aload_n dX10_speakOn_14 0 rfl ?_
      refine z_iload dX10_speakOn_15 4 rfl ?_
      refine z_iload_n dX10_speakOn_17 1 rfl ?_
      refine z_callVI dX10_speakOn_18 (M_X10_rowOf _ _ _) bX10_rowOf lX10_84 kc_63 rfl rfl (Nat.le_of_ble_eq_true rfl) (Nat.le_of_ble_eq_true rfl) (fun r12 h13 => ?_)
      refine z_istore (lv2 := [(5, .int r12), (0, .ref 63), (1, .int x1), (2, .int x2), (3, .int x3), (4, .int x4)]) dX10_speakOn_21 (Nat.le_of_ble_eq_true rfl) rfl ?_
      refine z_aload_n dX10_speakOn_23 1 rfl ?_
      refine z_getI fX10_59 kc_63 rfl dX10_speakOn_24 ?_
      refine z_iload dX10_speakOn_27 5 rfl ?_
      refine z_ishr dX10_speakOn_29 ?_
      refine z_iconst (v := 1) dX10_speakOn_30 (by decide) ?_
      refine z_iand dX10_speakOn_31 ?_
      refine z_if_eq (tgt := 119) dX10_speakOn_32 (by decide) ?_ ?_
      · refine z_iincL (lv2 := fun v14 => [(4, .int v14), (5, .int r12), (0, .ref 63), (1, .int x1), (2, .int x2), (3, .int x3)]) dX10_speakOn_119 5 rfl rfl (Nat.le_of_ble_eq_true rfl) (fun _ => rfl) (fun v14 => ?_)
        refine z_goto (tgt := 7) dX10_speakOn_122 (by decide) ?_
        exact z_sub [2, 3, 4, 5, 0] rfl (ih _ _ _ _ _)
      · refine z_iload dX10_speakOn_35 0 rfl ?_
        refine z_if_lt (tgt := 119) dX10_speakOn_37 (by decide) ?_ ?_
        · refine z_iincL (lv2 := fun v15 => [(4, .int v15), (5, .int r12), (0, .ref 63), (1, .int x1), (2, .int x2), (3, .int x3)]) dX10_speakOn_119 5 rfl rfl (Nat.le_of_ble_eq_true rfl) (fun _ => rfl) (fun v15 => ?_)
          refine z_goto (tgt := 7) dX10_speakOn_122 (by decide) ?_
          exact z_sub [2, 3, 4, 5, 0] rfl (ih _ _ _ _ _)
        · refine z_iload dX10_speakOn_40 0 rfl ?_
          refine z_sipush (v := 175) dX10_speakOn_42 (by decide) ?_
          refine z_ic_ge (tgt := 119) dX10_speakOn_45 (by decide) ?_ ?_
          · refine z_iincL (lv2 := fun v16 => [(4, .int v16), (5, .int r12), (0, .ref 63), (1, .int x1), (2, .int x2), (3, .int x3)]) dX10_speakOn_119 5 rfl rfl (Nat.le_of_ble_eq_true rfl) (fun _ => rfl) (fun v16 => ?_)
            refine z_goto (tgt := 7) dX10_speakOn_122 (by decide) ?_
            exact z_sub [2, 3, 4, 5, 0] rfl (ih _ _ _ _ _)
          · refine z_aload_n dX10_speakOn_48 1 rfl ?_
            refine z_getI fX10_69 kc_63 rfl dX10_speakOn_49 ?_
            refine z_if_ne (tgt := 59) dX10_speakOn_52 (by decide) ?_ ?_
            · exact z_sub [1, 2, 5, 0] rfl (w_X10_speakOn_59 _ ih _ _ _ _)
            · refine z_iload_n dX10_speakOn_55 4 rfl ?_
              refine z_if_ne (tgt := 93) dX10_speakOn_56 (by decide) ?_ ?_
              · exact z_sub [1, 2, 3, 4, 5, 0] rfl (w_X10_speakOn_93 _ ih _ _ _ _ _ _)
              · exact z_sub [1, 2, 5, 0] rfl (w_X10_speakOn_59 _ ih _ _ _ _)
set_option maxHeartbeats 4000000 in
set_option maxRecDepth 100000 in
theorem w_X10_speakOn (x1 : Int32) (h : AHp) : WO tvV QX10_speakOn 4 0 [(0, .ref 63), (1, .int x1)] [] h (m_X10_speakOn x1 h) := by
  unfold m_X10_speakOn
  refine z_iconst (v := 0) dX10_speakOn_0 (by decide) ?_
  refine z_istore_n (lv2 := [(2, .int 0), (0, .ref 63), (1, .int x1)]) dX10_speakOn_1 (Nat.le_of_ble_eq_true rfl) rfl ?_
  refine z_iconst (v := 0) dX10_speakOn_2 (by decide) ?_
  refine z_istore_n (lv2 := [(3, .int 0), (2, .int 0), (0, .ref 63), (1, .int x1)]) dX10_speakOn_3 (Nat.le_of_ble_eq_true rfl) rfl ?_
  refine z_iconst (v := 0) dX10_speakOn_4 (by decide) ?_
  refine z_istore (lv2 := [(4, .int 0), (3, .int 0), (2, .int 0), (0, .ref 63), (1, .int x1)]) dX10_speakOn_5 (Nat.le_of_ble_eq_true rfl) rfl ?_
  exact z_sub [3, 4, 2, 1, 0] rfl (w_X10_speakOn_7 FU _ _ _ _ _)
theorem M_X10_speakOn (x1 : Int32) (h : AHp) : MV QX10_speakOn 4 [.ref 63, .int x1] h (m_X10_speakOn x1 h) := MV.of (by decide) rfl rfl (Nat.le_of_ble_eq_true rfl) (w_X10_speakOn x1 h)
set_option maxHeartbeats 4000000 in
set_option maxRecDepth 100000 in
theorem w_X10_spread_33 (k24 : Int32 → Int32 → AHp → Option (Int32 × AHp)) (hk24 : ∀ (x1 : Int32) (x2 : Int32) (h : AHp), WO tvI QX10_spread 5 24 [(0, .ref 63), (1, .int x1), (2, .int x2)] [] h (k24 x1 x2 h)) : ∀ (f : Nat) (x1 : Int32) (x2 : Int32) (x3 : Int32) (h : AHp), WO tvI QX10_spread 5 33 [(0, .ref 63), (1, .int x1), (2, .int x2), (3, .int x3)] [] h (m_X10_spread_33 k24 f x1 x2 x3 h) := by
  intro f
  induction f with
  | zero => intro x1 x2 x3 h; exact z_none
  | succ f ih =>
    intro x1 x2 x3 h
    rw [m_X10_spread_33]
    refine z_iload_n dX10_spread_33 3 rfl ?_
    refine z_bipush (v := 25) dX10_spread_34 (by decide) ?_
    refine z_ic_ge (tgt := 79) dX10_spread_36 (by decide) ?_ ?_
    · refine z_iincL (lv2 := fun v1 => [(2, .int v1), (0, .ref 63), (1, .int x1), (3, .int x3)]) dX10_spread_79 2 rfl rfl (Nat.le_of_ble_eq_true rfl) (fun _ => rfl) (fun v1 => ?_)
      refine z_goto (tgt := 24) dX10_spread_82 (by decide) ?_
      exact z_sub [1, 2, 0] rfl (hk24 _ _ _)
    · refine z_aload_n dX10_spread_39 0 rfl ?_
      refine z_getR (j := 64) fX10_11 kc_63 rfl rfl rfl (by decide) dX10_spread_40 ?_
      refine z_iload_n dX10_spread_43 2 rfl ?_
      refine z_gd (fun g2 => ?_)
      refine z_iald kc_64 dX10_spread_44 g2 ?_
      refine z_if_eq (tgt := 79) dX10_spread_45 (by decide) ?_ ?_
      · refine z_iincL (lv2 := fun v3 => [(2, .int v3), (0, .ref 63), (1, .int x1), (3, .int x3)]) dX10_spread_79 2 rfl rfl (Nat.le_of_ble_eq_true rfl) (fun _ => rfl) (fun v3 => ?_)
        refine z_goto (tgt := 24) dX10_spread_82 (by decide) ?_
        exact z_sub [1, 2, 0] rfl (hk24 _ _ _)
      · refine z_aload_n dX10_spread_48 0 rfl ?_
        refine z_getR (j := 64) fX10_11 kc_63 rfl rfl rfl (by decide) dX10_spread_49 ?_
        refine z_iload_n dX10_spread_52 2 rfl ?_
        refine z_gd (fun g4 => ?_)
        refine z_iald kc_64 dX10_spread_53 g4 ?_
        refine z_iload_n dX10_spread_54 3 rfl ?_
        refine z_ishr dX10_spread_55 ?_
        refine z_iconst (v := 1) dX10_spread_56 (by decide) ?_
        refine z_iand dX10_spread_57 ?_
        refine z_if_eq (tgt := 73) dX10_spread_58 (by decide) ?_ ?_
        · refine z_iincL (lv2 := fun v5 => [(3, .int v5), (0, .ref 63), (1, .int x1), (2, .int x2)]) dX10_spread_73 3 rfl rfl (Nat.le_of_ble_eq_true rfl) (fun _ => rfl) (fun v5 => ?_)
          refine z_goto (tgt := 33) dX10_spread_76 (by decide) ?_
          exact z_sub [1, 2, 3, 0] rfl (ih _ _ _ _)
        · refine z_aload_n dX10_spread_61 0 rfl ?_
          refine z_iload_n dX10_spread_62 2 rfl ?_
          refine z_iload_n dX10_spread_63 3 rfl ?_
          refine z_iload_n dX10_spread_64 1 rfl ?_
          refine z_callVV dX10_spread_65 (M_X10_standAt _ _ _ _) bX10_standAt lX10_91 kc_63 rfl rfl (Nat.le_of_ble_eq_true rfl) (Nat.le_of_ble_eq_true rfl) (fun r6 h7 => ?_)
          refine z_aload_n dX10_spread_68 0 rfl ?_
          refine z_iload_n dX10_spread_69 3 rfl ?_
          refine z_callVV dX10_spread_70 (M_X10_speakOn _ _) bX10_speakOn lX10_103 kc_63 rfl rfl (Nat.le_of_ble_eq_true rfl) (Nat.le_of_ble_eq_true rfl) (fun r8 h9 => ?_)
          refine z_iincL (lv2 := fun v10 => [(3, .int v10), (0, .ref 63), (1, .int x1), (2, .int x2)]) dX10_spread_73 3 rfl rfl (Nat.le_of_ble_eq_true rfl) (fun _ => rfl) (fun v10 => ?_)
          refine z_goto (tgt := 33) dX10_spread_76 (by decide) ?_
          exact z_sub [1, 2, 3, 0] rfl (ih _ _ _ _)
set_option maxHeartbeats 4000000 in
set_option maxRecDepth 100000 in
theorem w_X10_spread_132 (k89 : Int32 → Int32 → AHp → Option (Int32 × AHp)) (hk89 : ∀ (x2 : Int32) (x3 : Int32) (h : AHp), WO tvI QX10_spread 5 89 [(0, .ref 63), (2, .int x2), (3, .int x3)] [] h (k89 x2 x3 h)) (x2 : Int32) (x3 : Int32) (s1 : Int32) (s2 : Int32) (h : AHp) : WO tvI QX10_spread 5 132 [(0, .ref 63), (2, .int x2), (3, .int x3)] [.int s2, .int s1, .ref 64] h (m_X10_spread_132 k89 x2 x3 s1 s2 h) := by
  unfold m_X10_spread_132
  refine z_gd (fun g12 => ?_)
  refine z_iast kc_64 dX10_spread_132 g12 ?_
  refine z_lh (fun h11 => ?_)
  refine z_aload_n dX10_spread_133 0 rfl ?_
  refine z_getR (j := 66) fX10_18 kc_63 rfl rfl rfl (by decide) dX10_spread_134 ?_
  refine z_iload_n dX10_spread_137 2 rfl ?_
  refine z_dup2 dX10_spread_138 rfl rfl ?_
  refine z_gd (fun g13 => ?_)
  refine z_iald kc_66 dX10_spread_139 g13 ?_
  refine z_aload_n dX10_spread_140 0 rfl ?_
  refine z_getR (j := 65) fX10_15 kc_63 rfl rfl rfl (by decide) dX10_spread_141 ?_
  refine z_iload_n dX10_spread_144 2 rfl ?_
  refine z_gd (fun g14 => ?_)
  refine z_iald kc_65 dX10_spread_145 g14 ?_
  refine z_ior dX10_spread_146 ?_
  refine z_gd (fun g16 => ?_)
  refine z_iast kc_66 dX10_spread_147 g16 ?_
  refine z_lh (fun h15 => ?_)
  refine z_iload_n dX10_spread_148 1 rfl ?_
  refine z_if_ne (tgt := 161) dX10_spread_149 (by decide) ?_ ?_
  · refine z_iconst (v := 1) dX10_spread_161 (by decide) ?_
    refine z_goto (tgt := 166) dX10_spread_162 (by decide) ?_
    refine z_istore_n (lv2 := [(2, .int 1), (0, .ref 63), (3, .int x3)]) dX10_spread_166 (Nat.le_of_ble_eq_true rfl) rfl ?_
    refine z_iincL (lv2 := fun v17 => [(3, .int v17), (2, .int 1), (0, .ref 63)]) dX10_spread_167 2 rfl rfl (Nat.le_of_ble_eq_true rfl) (fun _ => rfl) (fun v17 => ?_)
    refine z_goto (tgt := 89) dX10_spread_170 (by decide) ?_
    exact z_sub [2, 1, 0] rfl (hk89 _ _ _)
  · refine z_aload_n dX10_spread_152 0 rfl ?_
    refine z_getR (j := 64) fX10_11 kc_63 rfl rfl rfl (by decide) dX10_spread_153 ?_
    refine z_iload_n dX10_spread_156 2 rfl ?_
    refine z_gd (fun g18 => ?_)
    refine z_iald kc_64 dX10_spread_157 g18 ?_
    refine z_if_eq (tgt := 165) dX10_spread_158 (by decide) ?_ ?_
    · refine z_iconst (v := 0) dX10_spread_165 (by decide) ?_
      refine z_istore_n (lv2 := [(2, .int 0), (0, .ref 63), (3, .int x3)]) dX10_spread_166 (Nat.le_of_ble_eq_true rfl) rfl ?_
      refine z_iincL (lv2 := fun v19 => [(3, .int v19), (2, .int 0), (0, .ref 63)]) dX10_spread_167 2 rfl rfl (Nat.le_of_ble_eq_true rfl) (fun _ => rfl) (fun v19 => ?_)
      refine z_goto (tgt := 89) dX10_spread_170 (by decide) ?_
      exact z_sub [2, 1, 0] rfl (hk89 _ _ _)
    · refine z_iconst (v := 1) dX10_spread_161 (by decide) ?_
      refine z_goto (tgt := 166) dX10_spread_162 (by decide) ?_
      refine z_istore_n (lv2 := [(2, .int 1), (0, .ref 63), (3, .int x3)]) dX10_spread_166 (Nat.le_of_ble_eq_true rfl) rfl ?_
      refine z_iincL (lv2 := fun v20 => [(3, .int v20), (2, .int 1), (0, .ref 63)]) dX10_spread_167 2 rfl rfl (Nat.le_of_ble_eq_true rfl) (fun _ => rfl) (fun v20 => ?_)
      refine z_goto (tgt := 89) dX10_spread_170 (by decide) ?_
      exact z_sub [2, 1, 0] rfl (hk89 _ _ _)
set_option maxHeartbeats 4000000 in
set_option maxRecDepth 100000 in
theorem w_X10_spread_89 : ∀ (f : Nat) (x2 : Int32) (x3 : Int32) (h : AHp), WO tvI QX10_spread 5 89 [(0, .ref 63), (2, .int x2), (3, .int x3)] [] h (m_X10_spread_89 f x2 x3 h) := by
  intro f
  induction f with
  | zero => intro x2 x3 h; exact z_none
  | succ f ih =>
    intro x2 x3 h
    rw [m_X10_spread_89]
    refine z_iload_n dX10_spread_89 2 rfl ?_
    refine z_sipush (v := 175) dX10_spread_90 (by decide) ?_
    refine z_ic_ge (tgt := 173) dX10_spread_93 (by decide) ?_ ?_
    · refine z_iload_n dX10_spread_173 1 rfl ?_
      refine z_gd (fun g21 => ?_)
      exact z_zret dX10_spread_174 rfl g21
    · refine z_aload_n dX10_spread_96 0 rfl ?_
      refine z_getR (j := 64) fX10_11 kc_63 rfl rfl rfl (by decide) dX10_spread_97 ?_
      refine z_iload_n dX10_spread_100 2 rfl ?_
      refine z_aload_n dX10_spread_101 0 rfl ?_
      refine z_getI fX10_75 kc_63 rfl dX10_spread_102 ?_
      refine z_if_eq (tgt := 117) dX10_spread_105 (by decide) ?_ ?_
      · refine z_aload_n dX10_spread_117 0 rfl ?_
        refine z_getR (j := 65) fX10_15 kc_63 rfl rfl rfl (by decide) dX10_spread_118 ?_
        refine z_iload_n dX10_spread_121 2 rfl ?_
        refine z_gd (fun g22 => ?_)
        refine z_iald kc_65 dX10_spread_122 g22 ?_
        refine z_aload_n dX10_spread_123 0 rfl ?_
        refine z_getR (j := 66) fX10_18 kc_63 rfl rfl rfl (by decide) dX10_spread_124 ?_
        refine z_iload_n dX10_spread_127 2 rfl ?_
        refine z_gd (fun g23 => ?_)
        refine z_iald kc_66 dX10_spread_128 g23 ?_
        refine z_iconst (v := -1) dX10_spread_129 (by decide) ?_
        refine z_ixor dX10_spread_130 ?_
        refine z_iand dX10_spread_131 ?_
        exact w_X10_spread_132 _ ih _ _ _ _ _
      · refine z_aload_n dX10_spread_108 0 rfl ?_
        refine z_getR (j := 65) fX10_15 kc_63 rfl rfl rfl (by decide) dX10_spread_109 ?_
        refine z_iload_n dX10_spread_112 2 rfl ?_
        refine z_gd (fun g24 => ?_)
        refine z_iald kc_65 dX10_spread_113 g24 ?_
        refine z_goto (tgt := 132) dX10_spread_114 (by decide) ?_
        exact w_X10_spread_132 _ ih _ _ _ _ _
set_option maxHeartbeats 4000000 in
set_option maxRecDepth 100000 in
theorem w_X10_spread_24 : ∀ (f : Nat) (x1 : Int32) (x2 : Int32) (h : AHp), WO tvI QX10_spread 5 24 [(0, .ref 63), (1, .int x1), (2, .int x2)] [] h (m_X10_spread_24 f x1 x2 h) := by
  intro f
  induction f with
  | zero => intro x1 x2 h; exact z_none
  | succ f ih =>
    intro x1 x2 h
    rw [m_X10_spread_24]
    refine z_iload_n dX10_spread_24 2 rfl ?_
    refine z_sipush (v := 175) dX10_spread_25 (by decide) ?_
    refine z_ic_ge (tgt := 85) dX10_spread_28 (by decide) ?_ ?_
    · refine z_iconst (v := 0) dX10_spread_85 (by decide) ?_
      refine z_istore_n (lv2 := [(2, .int 0), (0, .ref 63), (1, .int x1)]) dX10_spread_86 (Nat.le_of_ble_eq_true rfl) rfl ?_
      refine z_iconst (v := 0) dX10_spread_87 (by decide) ?_
      refine z_istore_n (lv2 := [(3, .int 0), (2, .int 0), (0, .ref 63), (1, .int x1)]) dX10_spread_88 (Nat.le_of_ble_eq_true rfl) rfl ?_
      exact z_sub [2, 1, 0] rfl (w_X10_spread_89 FU _ _ _)
    · refine z_iconst (v := 0) dX10_spread_31 (by decide) ?_
      refine z_istore_n (lv2 := [(3, .int 0), (0, .ref 63), (1, .int x1), (2, .int x2)]) dX10_spread_32 (Nat.le_of_ble_eq_true rfl) rfl ?_
      exact z_sub [1, 2, 3, 0] rfl (w_X10_spread_33 _ ih FU _ _ _ _)
set_option maxHeartbeats 4000000 in
set_option maxRecDepth 100000 in
theorem w_X10_spread_2 : ∀ (f : Nat) (x1 : Int32) (x2 : Int32) (h : AHp), WO tvI QX10_spread 5 2 [(0, .ref 63), (1, .int x1), (2, .int x2)] [] h (m_X10_spread_2 f x1 x2 h) := by
  intro f
  induction f with
  | zero => intro x1 x2 h; exact z_none
  | succ f ih =>
    intro x1 x2 h
    rw [m_X10_spread_2]
    refine z_iload_n dX10_spread_2 2 rfl ?_
    refine z_sipush (v := 175) dX10_spread_3 (by decide) ?_
    refine z_ic_ge (tgt := 22) dX10_spread_6 (by decide) ?_ ?_
    · refine z_iconst (v := 0) dX10_spread_22 (by decide) ?_
      refine z_istore_n (lv2 := [(2, .int 0), (0, .ref 63), (1, .int x1)]) dX10_spread_23 (Nat.le_of_ble_eq_true rfl) rfl ?_
      exact z_sub [1, 2, 0] rfl (w_X10_spread_24 FU _ _ _)
    · refine z_aload_n dX10_spread_9 0 rfl ?_
      refine z_getR (j := 65) fX10_15 kc_63 rfl rfl rfl (by decide) dX10_spread_10 ?_
      refine z_iload_n dX10_spread_13 2 rfl ?_
      refine z_iconst (v := 0) dX10_spread_14 (by decide) ?_
      refine z_gd (fun g26 => ?_)
      refine z_iast kc_65 dX10_spread_15 g26 ?_
      refine z_lh (fun h25 => ?_)
      refine z_iincL (lv2 := fun v27 => [(2, .int v27), (0, .ref 63), (1, .int x1)]) dX10_spread_16 2 rfl rfl (Nat.le_of_ble_eq_true rfl) (fun _ => rfl) (fun v27 => ?_)
      refine z_goto (tgt := 2) dX10_spread_19 (by decide) ?_
      exact z_sub [1, 2, 0] rfl (ih _ _ _)
set_option maxHeartbeats 4000000 in
set_option maxRecDepth 100000 in
theorem w_X10_spread (x1 : Int32) (h : AHp) : WO tvI QX10_spread 5 0 [(0, .ref 63), (1, .int x1)] [] h (m_X10_spread x1 h) := by
  unfold m_X10_spread
  refine z_iconst (v := 0) dX10_spread_0 (by decide) ?_
  refine z_istore_n (lv2 := [(2, .int 0), (0, .ref 63), (1, .int x1)]) dX10_spread_1 (Nat.le_of_ble_eq_true rfl) rfl ?_
  exact z_sub [1, 2, 0] rfl (w_X10_spread_2 FU _ _ _)
theorem M_X10_spread (x1 : Int32) (h : AHp) : MI QX10_spread 5 [.ref 63, .int x1] h (m_X10_spread x1 h) := MI.of (by decide) rfl rfl (Nat.le_of_ble_eq_true rfl) (w_X10_spread x1 h)
set_option maxHeartbeats 4000000 in
set_option maxRecDepth 100000 in
theorem w_X9_allSizes_4 : ∀ (f : Nat) (x1 : Int32) (x2 : Int32) (h : AHp), WO tvI QX9_allSizes 0 4 [(0, .ref 3), (1, .int x1), (2, .int x2)] [] h (m_X9_allSizes_4 f x1 x2 h) := by
  intro f
  induction f with
  | zero => intro x1 x2 h; exact z_none
  | succ f ih =>
    intro x1 x2 h
    rw [m_X9_allSizes_4]
    refine z_iload_n dX9_allSizes_4 2 rfl ?_
    refine z_bipush (v := 12) dX9_allSizes_5 (by decide) ?_
    refine z_ic_ge (tgt := 25) dX9_allSizes_7 (by decide) ?_ ?_
    · refine z_iload_n dX9_allSizes_25 1 rfl ?_
      exact z_iret dX9_allSizes_26 rfl
    · refine z_iload_n dX9_allSizes_10 1 rfl ?_
      refine z_aload_n dX9_allSizes_11 0 rfl ?_
      refine z_getR (j := 4) fX9_9 kc_3 rfl rfl rfl (by decide) dX9_allSizes_12 ?_
      refine z_iload_n dX9_allSizes_15 2 rfl ?_
      refine z_gd (fun g1 => ?_)
      refine z_iald kc_4 dX9_allSizes_16 g1 ?_
      refine z_ior dX9_allSizes_17 ?_
      refine z_istore_nL (lv2 := fun v2 => [(1, .int v2), (0, .ref 3), (2, .int x2)]) dX9_allSizes_18 (Nat.le_of_ble_eq_true rfl) (fun _ => rfl) (fun v2 => ?_)
      refine z_iincL (lv2 := fun v3 => [(2, .int v3), (1, .int v2), (0, .ref 3)]) dX9_allSizes_19 2 rfl rfl (Nat.le_of_ble_eq_true rfl) (fun _ => rfl) (fun v3 => ?_)
      refine z_goto (tgt := 4) dX9_allSizes_22 (by decide) ?_
      exact z_sub [2, 1, 0] rfl (ih _ _ _)
set_option maxHeartbeats 4000000 in
set_option maxRecDepth 100000 in
theorem w_X9_allSizes (h : AHp) : WO tvI QX9_allSizes 0 0 [(0, .ref 3)] [] h (m_X9_allSizes h) := by
  unfold m_X9_allSizes
  refine z_iconst (v := 0) dX9_allSizes_0 (by decide) ?_
  refine z_istore_n (lv2 := [(1, .int 0), (0, .ref 3)]) dX9_allSizes_1 (Nat.le_of_ble_eq_true rfl) rfl ?_
  refine z_iconst (v := 0) dX9_allSizes_2 (by decide) ?_
  refine z_istore_n (lv2 := [(2, .int 0), (1, .int 0), (0, .ref 3)]) dX9_allSizes_3 (Nat.le_of_ble_eq_true rfl) rfl ?_
  exact z_sub [2, 1, 0] rfl (w_X9_allSizes_4 FU _ _ _)
theorem M_X9_allSizes (h : AHp) : MI QX9_allSizes 0 [.ref 3] h (m_X9_allSizes h) := MI.of (by decide) rfl rfl (Nat.le_of_ble_eq_true rfl) (w_X9_allSizes h)
set_option maxHeartbeats 4000000 in
set_option maxRecDepth 100000 in
theorem w_X9_differing_85 (k37 : Int32 → Int32 → Int32 → Int32 → Int32 → Int32 → AHp → Option (Int32 × AHp)) (hk37 : ∀ (x1 : Int32) (x3 : Int32) (x4 : Int32) (x5 : Int32) (x6 : Int32) (x7 : Int32) (h : AHp), WO tvI QX9_differing 0 37 [(0, .ref 3), (1, .int x1), (3, .int x3), (4, .int x4), (5, .int x5), (6, .int x6), (7, .int x7)] [] h (k37 x1 x3 x4 x5 x6 x7 h)) (x1 : Int32) (x3 : Int32) (x4 : Int32) (x5 : Int32) (x6 : Int32) (x7 : Int32) (x8 : Int32) (h : AHp) : WO tvI QX9_differing 0 85 [(0, .ref 3), (1, .int x1), (3, .int x3), (4, .int x4), (5, .int x5), (6, .int x6), (7, .int x7), (8, .int x8)] [] h (m_X9_differing_85 k37 x1 x3 x4 x5 x6 x7 x8 h) := by
  unfold m_X9_differing_85
  refine z_iload dX9_differing_85 4 rfl ?_
  refine z_iconst (v := 1) dX9_differing_87 (by decide) ?_
  refine z_iload dX9_differing_88 6 rfl ?_
  refine z_ishl dX9_differing_90 ?_
  refine z_ior dX9_differing_91 ?_
  refine z_istoreL (lv2 := fun v1 => [(5, .int v1), (0, .ref 3), (1, .int x1), (3, .int x3), (4, .int x4), (6, .int x6), (7, .int x7), (8, .int x8)]) dX9_differing_92 (Nat.le_of_ble_eq_true rfl) (fun _ => rfl) (fun v1 => ?_)
  refine z_iload dX9_differing_94 5 rfl ?_
  refine z_iload dX9_differing_96 7 rfl ?_
  refine z_ior dX9_differing_98 ?_
  refine z_istoreL (lv2 := fun v2 => [(6, .int v2), (5, .int v1), (0, .ref 3), (1, .int x1), (3, .int x3), (4, .int x4), (7, .int x7), (8, .int x8)]) dX9_differing_99 (Nat.le_of_ble_eq_true rfl) (fun _ => rfl) (fun v2 => ?_)
  refine z_iincL (lv2 := fun v3 => [(7, .int v3), (6, .int v2), (5, .int v1), (0, .ref 3), (1, .int x1), (3, .int x3), (4, .int x4), (8, .int x8)]) dX9_differing_101 6 rfl rfl (Nat.le_of_ble_eq_true rfl) (fun _ => rfl) (fun v3 => ?_)
  refine z_goto (tgt := 37) dX9_differing_104 (by decide) ?_
  exact z_sub [3, 4, 5, 6, 2, 1, 0] rfl (hk37 _ _ _ _ _ _ _)
set_option maxHeartbeats 4000000 in
set_option maxRecDepth 100000 in
theorem w_X9_differing_61 (k37 : Int32 → Int32 → Int32 → Int32 → Int32 → Int32 → AHp → Option (Int32 × AHp)) (hk37 : ∀ (x1 : Int32) (x3 : Int32) (x4 : Int32) (x5 : Int32) (x6 : Int32) (x7 : Int32) (h : AHp), WO tvI QX9_differing 0 37 [(0, .ref 3), (1, .int x1), (3, .int x3), (4, .int x4), (5, .int x5), (6, .int x6), (7, .int x7)] [] h (k37 x1 x3 x4 x5 x6 x7 h)) (x1 : Int32) (x3 : Int32) (x4 : Int32) (x5 : Int32) (x6 : Int32) (x7 : Int32) (s0 : Int32) (s1 : Int32) (h : AHp) : WO tvI QX9_differing 0 61 [(0, .ref 3), (1, .int x1), (3, .int x3), (4, .int x4), (5, .int x5), (6, .int x6), (7, .int x7)] [.int s1, .int s0] h (m_X9_differing_61 k37 x1 x3 x4 x5 x6 x7 s0 s1 h) := by
  unfold m_X9_differing_61
  refine z_ishl dX9_differing_61 ?_
  refine z_istoreL (lv2 := fun v4 => [(8, .int v4), (0, .ref 3), (1, .int x1), (3, .int x3), (4, .int x4), (5, .int x5), (6, .int x6), (7, .int x7)]) dX9_differing_62 (Nat.le_of_ble_eq_true rfl) (fun _ => rfl) (fun v4 => ?_)
  refine z_iload_n dX9_differing_64 2 rfl ?_
  refine z_iload dX9_differing_65 7 rfl ?_
  refine z_ishr dX9_differing_67 ?_
  refine z_iconst (v := 1) dX9_differing_68 (by decide) ?_
  refine z_iand dX9_differing_69 ?_
  refine z_if_eq (tgt := 101) dX9_differing_70 (by decide) ?_ ?_
  · refine z_iincL (lv2 := fun v5 => [(7, .int v5), (8, .int v4), (0, .ref 3), (1, .int x1), (3, .int x3), (4, .int x4), (5, .int x5), (6, .int x6)]) dX9_differing_101 7 rfl rfl (Nat.le_of_ble_eq_true rfl) (fun _ => rfl) (fun v5 => ?_)
    refine z_goto (tgt := 37) dX9_differing_104 (by decide) ?_
    exact z_sub [2, 3, 4, 5, 6, 7, 0] rfl (hk37 _ _ _ _ _ _ _)
  · refine z_iload_n dX9_differing_73 3 rfl ?_
    refine z_if_ne (tgt := 85) dX9_differing_74 (by decide) ?_ ?_
    · exact z_sub [1, 2, 3, 4, 5, 6, 7, 0] rfl (w_X9_differing_85 _ hk37 _ _ _ _ _ _ _ _)
    · refine z_iload dX9_differing_77 6 rfl ?_
      refine z_iload dX9_differing_79 0 rfl ?_
      refine z_iand dX9_differing_81 ?_
      refine z_if_ne (tgt := 101) dX9_differing_82 (by decide) ?_ ?_
      · refine z_iincL (lv2 := fun v6 => [(7, .int v6), (8, .int v4), (0, .ref 3), (1, .int x1), (3, .int x3), (4, .int x4), (5, .int x5), (6, .int x6)]) dX9_differing_101 7 rfl rfl (Nat.le_of_ble_eq_true rfl) (fun _ => rfl) (fun v6 => ?_)
        refine z_goto (tgt := 37) dX9_differing_104 (by decide) ?_
        exact z_sub [2, 3, 4, 5, 6, 7, 0] rfl (hk37 _ _ _ _ _ _ _)
      · exact z_sub [1, 2, 3, 4, 5, 6, 7, 0] rfl (w_X9_differing_85 _ hk37 _ _ _ _ _ _ _ _)
set_option maxHeartbeats 4000000 in
set_option maxRecDepth 100000 in
theorem w_X9_differing_37 : ∀ (f : Nat) (x1 : Int32) (x3 : Int32) (x4 : Int32) (x5 : Int32) (x6 : Int32) (x7 : Int32) (h : AHp), WO tvI QX9_differing 0 37 [(0, .ref 3), (1, .int x1), (3, .int x3), (4, .int x4), (5, .int x5), (6, .int x6), (7, .int x7)] [] h (m_X9_differing_37 f x1 x3 x4 x5 x6 x7 h) := by
  intro f
  induction f with
  | zero => intro x1 x3 x4 x5 x6 x7 h; exact z_none
  | succ f ih =>
    intro x1 x3 x4 x5 x6 x7 h
    rw [m_X9_differing_37]
    refine z_iload dX9_differing_37 6 rfl ?_
    refine z_bipush (v := 6) dX9_differing_39 (by decide) ?_
    refine z_ic_ge (tgt := 107) dX9_differing_41 (by decide) ?_ ?_
    · refine z_iload dX9_differing_107 4 rfl ?_
      exact z_iret dX9_differing_109 rfl
    · refine z_iconst (v := 1) dX9_differing_44 (by decide) ?_
      refine z_iload dX9_differing_45 3 rfl ?_
      refine z_if_eq (tgt := 60) dX9_differing_47 (by decide) ?_ ?_
      · refine z_iconst (v := 0) dX9_differing_60 (by decide) ?_
        exact w_X9_differing_61 _ ih _ _ _ _ _ _ _ _ _
      · refine z_aload_n dX9_differing_50 0 rfl ?_
        refine z_getR (j := 5) fX9_15 kc_3 rfl rfl rfl (by decide) dX9_differing_51 ?_
        refine z_iload dX9_differing_54 6 rfl ?_
        refine z_gd (fun g7 => ?_)
        refine z_iald kc_5 dX9_differing_56 g7 ?_
        refine z_goto (tgt := 61) dX9_differing_57 (by decide) ?_
        exact w_X9_differing_61 _ ih _ _ _ _ _ _ _ _ _
set_option maxHeartbeats 4000000 in
set_option maxRecDepth 100000 in
theorem w_X9_differing (x1 : Int32) (x2 : Int32) (h : AHp) : WO tvI QX9_differing 0 0 [(0, .ref 3), (1, .int x1), (2, .int x2)] [] h (m_X9_differing x1 x2 h) := by
  unfold m_X9_differing
  refine z_iload_n dX9_differing_0 2 rfl ?_
  refine z_bipush (v := 68) dX9_differing_1 (by decide) ?_
  refine z_iand dX9_differing_3 ?_
  refine z_if_eq (tgt := 11) dX9_differing_4 (by decide) ?_ ?_
  · refine z_iconst (v := 0) dX9_differing_11 (by decide) ?_
    refine z_istore_n (lv2 := [(3, .int 0), (0, .ref 3), (1, .int x1), (2, .int x2)]) dX9_differing_12 (Nat.le_of_ble_eq_true rfl) rfl ?_
    refine z_iload_n dX9_differing_13 3 rfl ?_
    refine z_sipush (v := 136) dX9_differing_14 (by decide) ?_
    refine z_iand dX9_differing_17 ?_
    refine z_if_eq (tgt := 25) dX9_differing_18 (by decide) ?_ ?_
    · refine z_iconst (v := 0) dX9_differing_25 (by decide) ?_
      refine z_istore (lv2 := [(4, .int 0), (3, .int 0), (0, .ref 3), (1, .int x1), (2, .int x2)]) dX9_differing_26 (Nat.le_of_ble_eq_true rfl) rfl ?_
      refine z_iconst (v := 0) dX9_differing_28 (by decide) ?_
      refine z_istore (lv2 := [(5, .int 0), (4, .int 0), (3, .int 0), (0, .ref 3), (1, .int x1), (2, .int x2)]) dX9_differing_29 (Nat.le_of_ble_eq_true rfl) rfl ?_
      refine z_iconst (v := 0) dX9_differing_31 (by decide) ?_
      refine z_istore (lv2 := [(6, .int 0), (5, .int 0), (4, .int 0), (3, .int 0), (0, .ref 3), (1, .int x1), (2, .int x2)]) dX9_differing_32 (Nat.le_of_ble_eq_true rfl) rfl ?_
      refine z_iconst (v := 0) dX9_differing_34 (by decide) ?_
      refine z_istore (lv2 := [(7, .int 0), (6, .int 0), (5, .int 0), (4, .int 0), (3, .int 0), (0, .ref 3), (1, .int x1), (2, .int x2)]) dX9_differing_35 (Nat.le_of_ble_eq_true rfl) rfl ?_
      exact z_sub [5, 6, 4, 3, 2, 1, 0] rfl (w_X9_differing_37 FU _ _ _ _ _ _ _)
    · refine z_iconst (v := 1) dX9_differing_21 (by decide) ?_
      refine z_goto (tgt := 26) dX9_differing_22 (by decide) ?_
      refine z_istore (lv2 := [(4, .int 1), (3, .int 0), (0, .ref 3), (1, .int x1), (2, .int x2)]) dX9_differing_26 (Nat.le_of_ble_eq_true rfl) rfl ?_
      refine z_iconst (v := 0) dX9_differing_28 (by decide) ?_
      refine z_istore (lv2 := [(5, .int 0), (4, .int 1), (3, .int 0), (0, .ref 3), (1, .int x1), (2, .int x2)]) dX9_differing_29 (Nat.le_of_ble_eq_true rfl) rfl ?_
      refine z_iconst (v := 0) dX9_differing_31 (by decide) ?_
      refine z_istore (lv2 := [(6, .int 0), (5, .int 0), (4, .int 1), (3, .int 0), (0, .ref 3), (1, .int x1), (2, .int x2)]) dX9_differing_32 (Nat.le_of_ble_eq_true rfl) rfl ?_
      refine z_iconst (v := 0) dX9_differing_34 (by decide) ?_
      refine z_istore (lv2 := [(7, .int 0), (6, .int 0), (5, .int 0), (4, .int 1), (3, .int 0), (0, .ref 3), (1, .int x1), (2, .int x2)]) dX9_differing_35 (Nat.le_of_ble_eq_true rfl) rfl ?_
      exact z_sub [5, 6, 4, 3, 2, 1, 0] rfl (w_X9_differing_37 FU _ _ _ _ _ _ _)
  · refine z_iconst (v := 1) dX9_differing_7 (by decide) ?_
    refine z_goto (tgt := 12) dX9_differing_8 (by decide) ?_
    refine z_istore_n (lv2 := [(3, .int 1), (0, .ref 3), (1, .int x1), (2, .int x2)]) dX9_differing_12 (Nat.le_of_ble_eq_true rfl) rfl ?_
    refine z_iload_n dX9_differing_13 3 rfl ?_
    refine z_sipush (v := 136) dX9_differing_14 (by decide) ?_
    refine z_iand dX9_differing_17 ?_
    refine z_if_eq (tgt := 25) dX9_differing_18 (by decide) ?_ ?_
    · refine z_iconst (v := 0) dX9_differing_25 (by decide) ?_
      refine z_istore (lv2 := [(4, .int 0), (3, .int 1), (0, .ref 3), (1, .int x1), (2, .int x2)]) dX9_differing_26 (Nat.le_of_ble_eq_true rfl) rfl ?_
      refine z_iconst (v := 0) dX9_differing_28 (by decide) ?_
      refine z_istore (lv2 := [(5, .int 0), (4, .int 0), (3, .int 1), (0, .ref 3), (1, .int x1), (2, .int x2)]) dX9_differing_29 (Nat.le_of_ble_eq_true rfl) rfl ?_
      refine z_iconst (v := 0) dX9_differing_31 (by decide) ?_
      refine z_istore (lv2 := [(6, .int 0), (5, .int 0), (4, .int 0), (3, .int 1), (0, .ref 3), (1, .int x1), (2, .int x2)]) dX9_differing_32 (Nat.le_of_ble_eq_true rfl) rfl ?_
      refine z_iconst (v := 0) dX9_differing_34 (by decide) ?_
      refine z_istore (lv2 := [(7, .int 0), (6, .int 0), (5, .int 0), (4, .int 0), (3, .int 1), (0, .ref 3), (1, .int x1), (2, .int x2)]) dX9_differing_35 (Nat.le_of_ble_eq_true rfl) rfl ?_
      exact z_sub [5, 6, 4, 3, 2, 1, 0] rfl (w_X9_differing_37 FU _ _ _ _ _ _ _)
    · refine z_iconst (v := 1) dX9_differing_21 (by decide) ?_
      refine z_goto (tgt := 26) dX9_differing_22 (by decide) ?_
      refine z_istore (lv2 := [(4, .int 1), (3, .int 1), (0, .ref 3), (1, .int x1), (2, .int x2)]) dX9_differing_26 (Nat.le_of_ble_eq_true rfl) rfl ?_
      refine z_iconst (v := 0) dX9_differing_28 (by decide) ?_
      refine z_istore (lv2 := [(5, .int 0), (4, .int 1), (3, .int 1), (0, .ref 3), (1, .int x1), (2, .int x2)]) dX9_differing_29 (Nat.le_of_ble_eq_true rfl) rfl ?_
      refine z_iconst (v := 0) dX9_differing_31 (by decide) ?_
      refine z_istore (lv2 := [(6, .int 0), (5, .int 0), (4, .int 1), (3, .int 1), (0, .ref 3), (1, .int x1), (2, .int x2)]) dX9_differing_32 (Nat.le_of_ble_eq_true rfl) rfl ?_
      refine z_iconst (v := 0) dX9_differing_34 (by decide) ?_
      refine z_istore (lv2 := [(7, .int 0), (6, .int 0), (5, .int 0), (4, .int 1), (3, .int 1), (0, .ref 3), (1, .int x1), (2, .int x2)]) dX9_differing_35 (Nat.le_of_ble_eq_true rfl) rfl ?_
      exact z_sub [5, 6, 4, 3, 2, 1, 0] rfl (w_X9_differing_37 FU _ _ _ _ _ _ _)
theorem M_X9_differing (x1 : Int32) (x2 : Int32) (h : AHp) : MI QX9_differing 0 [.ref 3, .int x1, .int x2] h (m_X9_differing x1 x2 h) := MI.of (by decide) rfl rfl (Nat.le_of_ble_eq_true rfl) (w_X9_differing x1 x2 h)
