set_option maxHeartbeats 4000000 in
set_option maxRecDepth 100000 in
theorem w_X12_waited_176 (k82 : Int32 → Int32 → Int32 → AHp → Option (Int32 × AHp)) (hk82 : ∀ (x1 : Int32) (x2 : Int32) (x3 : Int32) (h : AHp), WO tvI QX12_waited 7 82 [(0, .ref 70), (1, .int x1), (2, .int x2), (3, .int x3)] [] h (k82 x1 x2 x3 h)) : ∀ (f : Nat) (x1 : Int32) (x2 : Int32) (x3 : Int32) (x4 : Int32) (h : AHp), WO tvI QX12_waited 7 176 [(0, .ref 70), (1, .int x1), (2, .int x2), (3, .int x3), (4, .int x4)] [] h (m_X12_waited_176 k82 f x1 x2 x3 x4 h) := by
  intro f
  induction f with
  | zero => intro x1 x2 x3 x4 h; exact z_none
  | succ f ih =>
    intro x1 x2 x3 x4 h
    rw [m_X12_waited_176]
    refine z_iload dX12_waited_176 4 rfl ?_
    refine z_sipush (v := 4375) dX12_waited_178 (by decide) ?_
    refine z_ic_ge (tgt := 204) dX12_waited_181 (by decide) ?_ ?_
    · refine z_iincL (lv2 := fun v1 => [(3, .int v1), (0, .ref 70), (1, .int x1), (2, .int x2), (4, .int x4)]) dX12_waited_204 3 rfl rfl (Nat.le_of_ble_eq_true rfl) (fun _ => rfl) (fun v1 => ?_)
      refine z_goto (tgt := 82) dX12_waited_207 (by decide) ?_
      exact z_sub [1, 2, 3, 0] rfl (hk82 _ _ _ _)
    · refine z_aload_n dX12_waited_184 0 rfl ?_
      refine z_getR (j := 109) fX12_130 kc_70 rfl rfl rfl (by decide) dX12_waited_185 ?_
      refine z_iload dX12_waited_188 4 rfl ?_
      refine z_aload_n dX12_waited_190 0 rfl ?_
      refine z_getR (j := 110) fX12_133 kc_70 rfl rfl rfl (by decide) dX12_waited_191 ?_
      refine z_iload dX12_waited_194 4 rfl ?_
      refine z_gd (fun g2 => ?_)
      refine z_zald kc_110 dX12_waited_196 g2 ?_
      refine z_gd (fun g4 => ?_)
      refine z_zast kc_109 dX12_waited_197 g4 ?_
      refine z_lh (fun h3 => ?_)
      refine z_iincL (lv2 := fun v5 => [(4, .int v5), (0, .ref 70), (1, .int x1), (2, .int x2), (3, .int x3)]) dX12_waited_198 4 rfl rfl (Nat.le_of_ble_eq_true rfl) (fun _ => rfl) (fun v5 => ?_)
      refine z_goto (tgt := 176) dX12_waited_201 (by decide) ?_
      exact z_sub [1, 2, 3, 4, 0] rfl (ih _ _ _ _ _)
set_option maxHeartbeats 4000000 in
set_option maxRecDepth 100000 in
theorem w_X12_waited_115 (k82 : Int32 → Int32 → Int32 → AHp → Option (Int32 × AHp)) (hk82 : ∀ (x1 : Int32) (x2 : Int32) (x3 : Int32) (h : AHp), WO tvI QX12_waited 7 82 [(0, .ref 70), (1, .int x1), (2, .int x2), (3, .int x3)] [] h (k82 x1 x2 x3 h)) : ∀ (f : Nat) (x1 : Int32) (x2 : Int32) (x3 : Int32) (x4 : Int32) (h : AHp), WO tvI QX12_waited 7 115 [(0, .ref 70), (1, .int x1), (2, .int x2), (3, .int x3), (4, .int x4)] [] h (m_X12_waited_115 k82 f x1 x2 x3 x4 h) := by
  intro f
  induction f with
  | zero => intro x1 x2 x3 x4 h; exact z_none
  | succ f ih =>
    intro x1 x2 x3 x4 h
    rw [m_X12_waited_115]
    refine z_iload dX12_waited_115 4 rfl ?_
    refine z_sipush (v := 4375) dX12_waited_117 (by decide) ?_
    refine z_ic_ge (tgt := 173) dX12_waited_120 (by decide) ?_ ?_
    · refine z_iconst (v := 0) dX12_waited_173 (by decide) ?_
      refine z_istore (lv2 := [(4, .int 0), (0, .ref 70), (1, .int x1), (2, .int x2), (3, .int x3)]) dX12_waited_174 (Nat.le_of_ble_eq_true rfl) rfl ?_
      exact z_sub [1, 2, 3, 4, 0] rfl (w_X12_waited_176 _ hk82 FU _ _ _ _ _)
    · refine z_aload_n dX12_waited_123 0 rfl ?_
      refine z_getR (j := 109) fX12_130 kc_70 rfl rfl rfl (by decide) dX12_waited_124 ?_
      refine z_iload dX12_waited_127 4 rfl ?_
      refine z_gd (fun g6 => ?_)
      refine z_zald kc_109 dX12_waited_129 g6 ?_
      refine z_if_ne (tgt := 136) dX12_waited_130 (by decide) ?_ ?_
      · refine z_aload_n dX12_waited_136 0 rfl ?_
        refine z_iload dX12_waited_137 4 rfl ?_
        refine z_iload_n dX12_waited_139 3 rfl ?_
        refine z_callVV dX12_waited_140 (M_X12_standsIn _ _ _) bX12_standsIn lX12_476 kc_70 rfl rfl (Nat.le_of_ble_eq_true rfl) (Nat.le_of_ble_eq_true rfl) (fun r7 h8 => ?_)
        refine z_aload_n dX12_waited_143 0 rfl ?_
        refine z_iload_n dX12_waited_144 1 rfl ?_
        refine z_iload_n dX12_waited_145 2 rfl ?_
        refine z_callVI dX12_waited_146 (M_X12_maySay _ _ _) bX12_maySay lX12_479 kc_70 rfl rfl (Nat.le_of_ble_eq_true rfl) (Nat.le_of_ble_eq_true rfl) (fun r9 h10 => ?_)
        refine z_if_eq (tgt := 154) dX12_waited_149 (by decide) ?_ ?_
        · refine z_iload_n dX12_waited_154 3 rfl ?_
          refine z_iconst (v := 5) dX12_waited_155 (by decide) ?_
          refine z_ic_ge (tgt := 167) dX12_waited_156 (by decide) ?_ ?_
          · refine z_iincL (lv2 := fun v11 => [(4, .int v11), (0, .ref 70), (1, .int x1), (2, .int x2), (3, .int x3)]) dX12_waited_167 4 rfl rfl (Nat.le_of_ble_eq_true rfl) (fun _ => rfl) (fun v11 => ?_)
            refine z_goto (tgt := 115) dX12_waited_170 (by decide) ?_
            exact z_sub [1, 2, 3, 4, 0] rfl (ih _ _ _ _ _)
          · refine z_aload_n dX12_waited_159 0 rfl ?_
            refine z_iload dX12_waited_160 4 rfl ?_
            refine z_iload_n dX12_waited_162 3 rfl ?_
            refine z_iload_n dX12_waited_163 1 rfl ?_
            refine z_callVV dX12_waited_164 (M_X12_spreads _ _ _ _) bX12_spreads lX12_484 kc_70 rfl rfl (Nat.le_of_ble_eq_true rfl) (Nat.le_of_ble_eq_true rfl) (fun r12 h13 => ?_)
            refine z_iincL (lv2 := fun v14 => [(4, .int v14), (0, .ref 70), (1, .int x1), (2, .int x2), (3, .int x3)]) dX12_waited_167 4 rfl rfl (Nat.le_of_ble_eq_true rfl) (fun _ => rfl) (fun v14 => ?_)
            refine z_goto (tgt := 115) dX12_waited_170 (by decide) ?_
            exact z_sub [1, 2, 3, 4, 0] rfl (ih _ _ _ _ _)
        · refine z_iload_n dX12_waited_152 3 rfl ?_
          exact z_iret dX12_waited_153 rfl
      · refine z_goto (tgt := 167) dX12_waited_133 (by decide) ?_
        refine z_iincL (lv2 := fun v15 => [(4, .int v15), (0, .ref 70), (1, .int x1), (2, .int x2), (3, .int x3)]) dX12_waited_167 4 rfl rfl (Nat.le_of_ble_eq_true rfl) (fun _ => rfl) (fun v15 => ?_)
        refine z_goto (tgt := 115) dX12_waited_170 (by decide) ?_
        exact z_sub [1, 2, 3, 4, 0] rfl (ih _ _ _ _ _)
set_option maxHeartbeats 4000000 in
set_option maxRecDepth 100000 in
theorem w_X12_waited_90 (k82 : Int32 → Int32 → Int32 → AHp → Option (Int32 × AHp)) (hk82 : ∀ (x1 : Int32) (x2 : Int32) (x3 : Int32) (h : AHp), WO tvI QX12_waited 7 82 [(0, .ref 70), (1, .int x1), (2, .int x2), (3, .int x3)] [] h (k82 x1 x2 x3 h)) : ∀ (f : Nat) (x1 : Int32) (x2 : Int32) (x3 : Int32) (x4 : Int32) (h : AHp), WO tvI QX12_waited 7 90 [(0, .ref 70), (1, .int x1), (2, .int x2), (3, .int x3), (4, .int x4)] [] h (m_X12_waited_90 k82 f x1 x2 x3 x4 h) := by
  intro f
  induction f with
  | zero => intro x1 x2 x3 x4 h; exact z_none
  | succ f ih =>
    intro x1 x2 x3 x4 h
    rw [m_X12_waited_90]
    refine z_iload dX12_waited_90 4 rfl ?_
    refine z_sipush (v := 4375) dX12_waited_92 (by decide) ?_
    refine z_ic_ge (tgt := 112) dX12_waited_95 (by decide) ?_ ?_
    · refine z_iconst (v := 0) dX12_waited_112 (by decide) ?_
      refine z_istore (lv2 := [(4, .int 0), (0, .ref 70), (1, .int x1), (2, .int x2), (3, .int x3)]) dX12_waited_113 (Nat.le_of_ble_eq_true rfl) rfl ?_
      exact z_sub [1, 2, 3, 4, 0] rfl (w_X12_waited_115 _ hk82 FU _ _ _ _ _)
    · refine z_aload_n dX12_waited_98 0 rfl ?_
      refine z_getR (j := 110) fX12_133 kc_70 rfl rfl rfl (by decide) dX12_waited_99 ?_
      refine z_iload dX12_waited_102 4 rfl ?_
      refine z_iconst (v := 0) dX12_waited_104 (by decide) ?_
      refine z_gd (fun g17 => ?_)
      refine z_zast kc_110 dX12_waited_105 g17 ?_
      refine z_lh (fun h16 => ?_)
      refine z_iincL (lv2 := fun v18 => [(4, .int v18), (0, .ref 70), (1, .int x1), (2, .int x2), (3, .int x3)]) dX12_waited_106 4 rfl rfl (Nat.le_of_ble_eq_true rfl) (fun _ => rfl) (fun v18 => ?_)
      refine z_goto (tgt := 90) dX12_waited_109 (by decide) ?_
      exact z_sub [1, 2, 3, 4, 0] rfl (ih _ _ _ _ _)
set_option maxHeartbeats 4000000 in
set_option maxRecDepth 100000 in
theorem w_X12_waited_82 : ∀ (f : Nat) (x1 : Int32) (x2 : Int32) (x3 : Int32) (h : AHp), WO tvI QX12_waited 7 82 [(0, .ref 70), (1, .int x1), (2, .int x2), (3, .int x3)] [] h (m_X12_waited_82 f x1 x2 x3 h) := by
  intro f
  induction f with
  | zero => intro x1 x2 x3 h; exact z_none
  | succ f ih =>
    intro x1 x2 x3 h
    rw [m_X12_waited_82]
    refine z_iload_n dX12_waited_82 3 rfl ?_
    refine z_iconst (v := 5) dX12_waited_83 (by decide) ?_
    refine z_ic_gt (tgt := 210) dX12_waited_84 (by decide) ?_ ?_
    · refine z_bipush (v := -2) dX12_waited_210 (by decide) ?_
      exact z_iret dX12_waited_212 rfl
    · refine z_iconst (v := 0) dX12_waited_87 (by decide) ?_
      refine z_istore (lv2 := [(4, .int 0), (0, .ref 70), (1, .int x1), (2, .int x2), (3, .int x3)]) dX12_waited_88 (Nat.le_of_ble_eq_true rfl) rfl ?_
      exact z_sub [1, 2, 3, 4, 0] rfl (w_X12_waited_90 _ ih FU _ _ _ _ _)
set_option maxHeartbeats 4000000 in
set_option maxRecDepth 100000 in
theorem w_X12_waited_23 : ∀ (f : Nat) (x1 : Int32) (x2 : Int32) (x3 : Int32) (h : AHp), WO tvI QX12_waited 7 23 [(0, .ref 70), (1, .int x1), (2, .int x2), (3, .int x3)] [] h (m_X12_waited_23 f x1 x2 x3 h) := by
  intro f
  induction f with
  | zero => intro x1 x2 x3 h; exact z_none
  | succ f ih =>
    intro x1 x2 x3 h
    rw [m_X12_waited_23]
    refine z_iload_n dX12_waited_23 3 rfl ?_
    refine z_sipush (v := 4375) dX12_waited_24 (by decide) ?_
    refine z_ic_ge (tgt := 43) dX12_waited_27 (by decide) ?_ ?_
    · refine z_aload_n dX12_waited_43 0 rfl ?_
      refine z_getR (j := 109) fX12_130 kc_70 rfl rfl rfl (by decide) dX12_waited_44 ?_
      refine z_bipush (v := 7) dX12_waited_47 (by decide) ?_
      refine z_aload_n dX12_waited_49 0 rfl ?_
      refine z_callVI dX12_waited_50 (M_X12_startPair _) bX12_startPair lX12_410 kc_70 rfl rfl (Nat.le_of_ble_eq_true rfl) (Nat.le_of_ble_eq_true rfl) (fun r19 h20 => ?_)
      refine z_imul dX12_waited_53 ?_
      refine z_aload_n dX12_waited_54 0 rfl ?_
      refine z_getI fX12_386 kc_70 rfl dX12_waited_55 ?_
      refine z_if_le (tgt := 75) dX12_waited_58 (by decide) ?_ ?_
      · refine z_bipush (v := 6) dX12_waited_75 (by decide) ?_
        refine z_iadd dX12_waited_77 ?_
        refine z_iconst (v := 1) dX12_waited_78 (by decide) ?_
        refine z_gd (fun g22 => ?_)
        refine z_zast kc_109 dX12_waited_79 g22 ?_
        refine z_lh (fun h21 => ?_)
        refine z_iconst (v := 0) dX12_waited_80 (by decide) ?_
        refine z_istore_n (lv2 := [(3, .int 0), (0, .ref 70), (1, .int x1), (2, .int x2)]) dX12_waited_81 (Nat.le_of_ble_eq_true rfl) rfl ?_
        exact z_sub [1, 2, 3, 0] rfl (w_X12_waited_82 FU _ _ _ _)
      · refine z_aload_n dX12_waited_61 0 rfl ?_
        refine z_getR (j := 94) fX12_85 kc_70 rfl rfl rfl (by decide) dX12_waited_62 ?_
        refine z_aload_n dX12_waited_65 0 rfl ?_
        refine z_getI fX12_386 kc_70 rfl dX12_waited_66 ?_
        refine z_iconst (v := 1) dX12_waited_69 (by decide) ?_
        refine z_isub dX12_waited_70 ?_
        refine z_gd (fun g23 => ?_)
        refine z_iald kc_94 dX12_waited_71 g23 ?_
        refine z_goto (tgt := 77) dX12_waited_72 (by decide) ?_
        refine z_iadd dX12_waited_77 ?_
        refine z_iconst (v := 1) dX12_waited_78 (by decide) ?_
        refine z_gd (fun g25 => ?_)
        refine z_zast kc_109 dX12_waited_79 g25 ?_
        refine z_lh (fun h24 => ?_)
        refine z_iconst (v := 0) dX12_waited_80 (by decide) ?_
        refine z_istore_n (lv2 := [(3, .int 0), (0, .ref 70), (1, .int x1), (2, .int x2)]) dX12_waited_81 (Nat.le_of_ble_eq_true rfl) rfl ?_
        exact z_sub [1, 2, 3, 0] rfl (w_X12_waited_82 FU _ _ _ _)
    · refine z_aload_n dX12_waited_30 0 rfl ?_
      refine z_getR (j := 109) fX12_130 kc_70 rfl rfl rfl (by decide) dX12_waited_31 ?_
      refine z_iload_n dX12_waited_34 3 rfl ?_
      refine z_iconst (v := 0) dX12_waited_35 (by decide) ?_
      refine z_gd (fun g27 => ?_)
      refine z_zast kc_109 dX12_waited_36 g27 ?_
      refine z_lh (fun h26 => ?_)
      refine z_iincL (lv2 := fun v28 => [(3, .int v28), (0, .ref 70), (1, .int x1), (2, .int x2)]) dX12_waited_37 3 rfl rfl (Nat.le_of_ble_eq_true rfl) (fun _ => rfl) (fun v28 => ?_)
      refine z_goto (tgt := 23) dX12_waited_40 (by decide) ?_
      exact z_sub [1, 2, 3, 0] rfl (ih _ _ _ _)
set_option maxHeartbeats 4000000 in
set_option maxRecDepth 100000 in
theorem w_X12_waited (x1 : Int32) (x2 : Int32) (h : AHp) : WO tvI QX12_waited 7 0 [(0, .ref 70), (1, .int x1), (2, .int x2)] [] h (m_X12_waited x1 x2 h) := by
  unfold m_X12_waited
  refine z_iload_n dX12_waited_0 1 rfl ?_
  refine z_i2l dX12_waited_1 ?_
  refine z_lconst (v := 1) dX12_waited_2 (by decide) ?_
  refine z_ldc2 dX12_waited_3 kX12_482 ?_
  refine z_callSI dX12_waited_6 (M_X12_lies _ _ _ _) bX12_lies lX12_181 rfl rfl (Nat.le_of_ble_eq_true rfl) (Nat.le_of_ble_eq_true rfl) (fun r29 h30 => ?_)
  refine z_if_eq (tgt := 19) dX12_waited_9 (by decide) ?_ ?_
  · refine z_iconst (v := -1) dX12_waited_19 (by decide) ?_
    exact z_iret dX12_waited_20 rfl
  · refine z_iload_n dX12_waited_12 2 rfl ?_
    refine z_callSI dX12_waited_13 (M_X12_isSize _ _) bX12_isSize lX12_383 rfl rfl (Nat.le_of_ble_eq_true rfl) (Nat.le_of_ble_eq_true rfl) (fun r31 h32 => ?_)
    refine z_if_ne (tgt := 21) dX12_waited_16 (by decide) ?_ ?_
    · refine z_iconst (v := 0) dX12_waited_21 (by decide) ?_
      refine z_istore_n (lv2 := [(3, .int 0), (0, .ref 70), (1, .int x1), (2, .int x2)]) dX12_waited_22 (Nat.le_of_ble_eq_true rfl) rfl ?_
      exact z_sub [1, 2, 3, 0] rfl (w_X12_waited_23 FU _ _ _ _)
    · refine z_iconst (v := -1) dX12_waited_19 (by decide) ?_
      exact z_iret dX12_waited_20 rfl
theorem M_X12_waited (x1 : Int32) (x2 : Int32) (h : AHp) : MI QX12_waited 7 [.ref 70, .int x1, .int x2] h (m_X12_waited x1 x2 h) := MI.of (by decide) rfl rfl (Nat.le_of_ble_eq_true rfl) (w_X12_waited x1 x2 h)
set_option maxHeartbeats 4000000 in
set_option maxRecDepth 100000 in
theorem w_X12_laysRound_9 (k2 : Int32 → Int32 → AHp → Option (Unit × AHp)) (hk2 : ∀ (x1 : Int32) (x2 : Int32) (h : AHp), WO tvV QX12_laysRound 6 2 [(0, .ref 70), (1, .int x1), (2, .int x2)] [] h (k2 x1 x2 h)) : ∀ (f : Nat) (x1 : Int32) (x2 : Int32) (x3 : Int32) (h : AHp), WO tvV QX12_laysRound 6 9 [(0, .ref 70), (1, .int x1), (2, .int x2), (3, .int x3)] [] h (m_X12_laysRound_9 k2 f x1 x2 x3 h) := by
  intro f
  induction f with
  | zero => intro x1 x2 x3 h; exact z_none
  | succ f ih =>
    intro x1 x2 x3 h
    rw [m_X12_laysRound_9]
    refine z_iload_n dX12_laysRound_9 3 rfl ?_
    refine z_sipush (v := 625) dX12_laysRound_10 (by decide) ?_
    refine z_ic_ge (tgt := 122) dX12_laysRound_13 (by decide) ?_ ?_
    · refine z_iincL (lv2 := fun v1 => [(2, .int v1), (0, .ref 70), (1, .int x1), (3, .int x3)]) dX12_laysRound_122 2 rfl rfl (Nat.le_of_ble_eq_true rfl) (fun _ => rfl) (fun v1 => ?_)
      refine z_goto (tgt := 2) dX12_laysRound_125 (by decide) ?_
      exact z_sub [1, 2, 0] rfl (hk2 _ _ _)
    · refine z_aload_n dX12_laysRound_16 0 rfl ?_
      refine z_aload_n dX12_laysRound_17 0 rfl ?_
      refine z_getI fX12_386 kc_70 rfl dX12_laysRound_18 ?_
      refine z_putI fX12_345 kc_70 rfl dX12_laysRound_21 ?_
      refine z_lh (fun h2 => ?_)
      refine z_aload_n dX12_laysRound_24 0 rfl ?_
      refine z_iload_n dX12_laysRound_25 3 rfl ?_
      refine z_bipush (v := 25) dX12_laysRound_26 (by decide) ?_
      refine z_idiv dX12_laysRound_28 (by decide) ?_
      refine z_putI fX12_336 kc_70 rfl dX12_laysRound_29 ?_
      refine z_lh (fun h3 => ?_)
      refine z_aload_n dX12_laysRound_32 0 rfl ?_
      refine z_iload_n dX12_laysRound_33 3 rfl ?_
      refine z_bipush (v := 25) dX12_laysRound_34 (by decide) ?_
      refine z_irem dX12_laysRound_36 (by decide) ?_
      refine z_putI fX12_339 kc_70 rfl dX12_laysRound_37 ?_
      refine z_lh (fun h4 => ?_)
      refine z_aload_n dX12_laysRound_40 0 rfl ?_
      refine z_iconst (v := 1) dX12_laysRound_41 (by decide) ?_
      refine z_iload_n dX12_laysRound_42 2 rfl ?_
      refine z_isub dX12_laysRound_43 ?_
      refine z_putI fX12_342 kc_70 rfl dX12_laysRound_44 ?_
      refine z_lh (fun h5 => ?_)
      refine z_aload_n dX12_laysRound_47 0 rfl ?_
      refine z_getR (j := 111) fX12_136 kc_70 rfl rfl rfl (by decide) dX12_laysRound_48 ?_
      refine z_sipush (v := 625) dX12_laysRound_51 (by decide) ?_
      refine z_iload_n dX12_laysRound_54 2 rfl ?_
      refine z_imul dX12_laysRound_55 ?_
      refine z_iload_n dX12_laysRound_56 3 rfl ?_
      refine z_iadd dX12_laysRound_57 ?_
      refine z_iload_n dX12_laysRound_58 3 rfl ?_
      refine z_bipush (v := 25) dX12_laysRound_59 (by decide) ?_
      refine z_idiv dX12_laysRound_61 (by decide) ?_
      refine z_if_le (tgt := 114) dX12_laysRound_62 (by decide) ?_ ?_
      · refine z_iconst (v := 0) dX12_laysRound_114 (by decide) ?_
        refine z_gd (fun g7 => ?_)
        refine z_iast kc_111 dX12_laysRound_115 g7 ?_
        refine z_lh (fun h6 => ?_)
        refine z_iincL (lv2 := fun v8 => [(3, .int v8), (0, .ref 70), (1, .int x1), (2, .int x2)]) dX12_laysRound_116 3 rfl rfl (Nat.le_of_ble_eq_true rfl) (fun _ => rfl) (fun v8 => ?_)
        refine z_goto (tgt := 9) dX12_laysRound_119 (by decide) ?_
        exact z_sub [1, 2, 3, 0] rfl (ih _ _ _ _)
      · refine z_iload_n dX12_laysRound_65 3 rfl ?_
        refine z_bipush (v := 25) dX12_laysRound_66 (by decide) ?_
        refine z_irem dX12_laysRound_68 (by decide) ?_
        refine z_if_le (tgt := 114) dX12_laysRound_69 (by decide) ?_ ?_
        · refine z_iconst (v := 0) dX12_laysRound_114 (by decide) ?_
          refine z_gd (fun g10 => ?_)
          refine z_iast kc_111 dX12_laysRound_115 g10 ?_
          refine z_lh (fun h9 => ?_)
          refine z_iincL (lv2 := fun v11 => [(3, .int v11), (0, .ref 70), (1, .int x1), (2, .int x2)]) dX12_laysRound_116 3 rfl rfl (Nat.le_of_ble_eq_true rfl) (fun _ => rfl) (fun v11 => ?_)
          refine z_goto (tgt := 9) dX12_laysRound_119 (by decide) ?_
          exact z_sub [1, 2, 3, 0] rfl (ih _ _ _ _)
        · refine z_aload_n dX12_laysRound_72 0 rfl ?_
          refine z_getR (j := 72) fX12_17 kc_70 rfl rfl rfl (by decide) dX12_laysRound_73 ?_
          refine z_iload_n dX12_laysRound_76 1 rfl ?_
          refine z_gd (fun g12 => ?_)
          refine z_iald kc_72 dX12_laysRound_77 g12 ?_
          refine z_iload_n dX12_laysRound_78 3 rfl ?_
          refine z_bipush (v := 25) dX12_laysRound_79 (by decide) ?_
          refine z_idiv dX12_laysRound_81 (by decide) ?_
          refine z_callSI dX12_laysRound_82 (M_X12_has _ _ _) bX12_has lX12_187 rfl rfl (Nat.le_of_ble_eq_true rfl) (Nat.le_of_ble_eq_true rfl) (fun r13 h14 => ?_)
          refine z_if_eq (tgt := 114) dX12_laysRound_85 (by decide) ?_ ?_
          · refine z_iconst (v := 0) dX12_laysRound_114 (by decide) ?_
            refine z_gd (fun g16 => ?_)
            refine z_iast kc_111 dX12_laysRound_115 g16 ?_
            refine z_lh (fun h15 => ?_)
            refine z_iincL (lv2 := fun v17 => [(3, .int v17), (0, .ref 70), (1, .int x1), (2, .int x2)]) dX12_laysRound_116 3 rfl rfl (Nat.le_of_ble_eq_true rfl) (fun _ => rfl) (fun v17 => ?_)
            refine z_goto (tgt := 9) dX12_laysRound_119 (by decide) ?_
            exact z_sub [1, 2, 3, 0] rfl (ih _ _ _ _)
          · refine z_aload_n dX12_laysRound_88 0 rfl ?_
            refine z_getR (j := 72) fX12_17 kc_70 rfl rfl rfl (by decide) dX12_laysRound_89 ?_
            refine z_iload_n dX12_laysRound_92 1 rfl ?_
            refine z_gd (fun g18 => ?_)
            refine z_iald kc_72 dX12_laysRound_93 g18 ?_
            refine z_iload_n dX12_laysRound_94 3 rfl ?_
            refine z_bipush (v := 25) dX12_laysRound_95 (by decide) ?_
            refine z_irem dX12_laysRound_97 (by decide) ?_
            refine z_callSI dX12_laysRound_98 (M_X12_has _ _ _) bX12_has lX12_187 rfl rfl (Nat.le_of_ble_eq_true rfl) (Nat.le_of_ble_eq_true rfl) (fun r19 h20 => ?_)
            refine z_if_eq (tgt := 114) dX12_laysRound_101 (by decide) ?_ ?_
            · refine z_iconst (v := 0) dX12_laysRound_114 (by decide) ?_
              refine z_gd (fun g22 => ?_)
              refine z_iast kc_111 dX12_laysRound_115 g22 ?_
              refine z_lh (fun h21 => ?_)
              refine z_iincL (lv2 := fun v23 => [(3, .int v23), (0, .ref 70), (1, .int x1), (2, .int x2)]) dX12_laysRound_116 3 rfl rfl (Nat.le_of_ble_eq_true rfl) (fun _ => rfl) (fun v23 => ?_)
              refine z_goto (tgt := 9) dX12_laysRound_119 (by decide) ?_
              exact z_sub [1, 2, 3, 0] rfl (ih _ _ _ _)
            · refine z_aload_n dX12_laysRound_104 0 rfl ?_
              refine z_iconst (v := 1) dX12_laysRound_105 (by decide) ?_
              refine z_iload_n dX12_laysRound_106 2 rfl ?_
              refine z_iload_n dX12_laysRound_107 1 rfl ?_
              refine z_callVI dX12_laysRound_108 (M_X12_waysBy _ _ _ _) bX12_waysBy lX12_392 kc_70 rfl rfl (Nat.le_of_ble_eq_true rfl) (Nat.le_of_ble_eq_true rfl) (fun r24 h25 => ?_)
              refine z_goto (tgt := 115) dX12_laysRound_111 (by decide) ?_
              refine z_gd (fun g27 => ?_)
              refine z_iast kc_111 dX12_laysRound_115 g27 ?_
              refine z_lh (fun h26 => ?_)
              refine z_iincL (lv2 := fun v28 => [(3, .int v28), (0, .ref 70), (1, .int x1), (2, .int x2)]) dX12_laysRound_116 3 rfl rfl (Nat.le_of_ble_eq_true rfl) (fun _ => rfl) (fun v28 => ?_)
              refine z_goto (tgt := 9) dX12_laysRound_119 (by decide) ?_
              exact z_sub [1, 2, 3, 0] rfl (ih _ _ _ _)
set_option maxHeartbeats 4000000 in
set_option maxRecDepth 100000 in
theorem w_X12_laysRound_2 : ∀ (f : Nat) (x1 : Int32) (x2 : Int32) (h : AHp), WO tvV QX12_laysRound 6 2 [(0, .ref 70), (1, .int x1), (2, .int x2)] [] h (m_X12_laysRound_2 f x1 x2 h) := by
  intro f
  induction f with
  | zero => intro x1 x2 h; exact z_none
  | succ f ih =>
    intro x1 x2 h
    rw [m_X12_laysRound_2]
    refine z_iload_n dX12_laysRound_2 2 rfl ?_
    refine z_iconst (v := 2) dX12_laysRound_3 (by decide) ?_
    refine z_ic_ge (tgt := 128) dX12_laysRound_4 (by decide) ?_ ?_
    · exact z_vret dX12_laysRound_128 rfl
    · refine z_iconst (v := 0) dX12_laysRound_7 (by decide) ?_
      refine z_istore_n (lv2 := [(3, .int 0), (0, .ref 70), (1, .int x1), (2, .int x2)]) dX12_laysRound_8 (Nat.le_of_ble_eq_true rfl) rfl ?_
      exact z_sub [1, 2, 3, 0] rfl (w_X12_laysRound_9 _ ih FU _ _ _ _)
set_option maxHeartbeats 4000000 in
set_option maxRecDepth 100000 in
theorem w_X12_laysRound (x1 : Int32) (h : AHp) : WO tvV QX12_laysRound 6 0 [(0, .ref 70), (1, .int x1)] [] h (m_X12_laysRound x1 h) := by
  unfold m_X12_laysRound
  refine z_iconst (v := 0) dX12_laysRound_0 (by decide) ?_
  refine z_istore_n (lv2 := [(2, .int 0), (0, .ref 70), (1, .int x1)]) dX12_laysRound_1 (Nat.le_of_ble_eq_true rfl) rfl ?_
  exact z_sub [1, 2, 0] rfl (w_X12_laysRound_2 FU _ _ _)
theorem M_X12_laysRound (x1 : Int32) (h : AHp) : MV QX12_laysRound 6 [.ref 70, .int x1] h (m_X12_laysRound x1 h) := MV.of (by decide) rfl rfl (Nat.le_of_ble_eq_true rfl) (w_X12_laysRound x1 h)
set_option maxHeartbeats 4000000 in
set_option maxRecDepth 100000 in
theorem w_X12_laysBack_142 (k41 : Int32 → AHp → Option (Unit × AHp)) (hk41 : ∀ (x3 : Int32) (h : AHp), WO tvV QX12_laysBack 1 41 [(0, .ref 70), (3, .int x3)] [] h (k41 x3 h)) (k48 : Int32 → Int32 → AHp → Option (Unit × AHp)) (hk48 : ∀ (x3 : Int32) (x4 : Int32) (h : AHp), WO tvV QX12_laysBack 1 48 [(0, .ref 70), (3, .int x3), (4, .int x4)] [] h (k48 x3 x4 h)) (x3 : Int32) (x4 : Int32) (x5 : Int32) (h : AHp) : WO tvV QX12_laysBack 1 142 [(0, .ref 70), (3, .int x3), (4, .int x4), (5, .int x5)] [] h (m_X12_laysBack_142 k41 k48 x3 x4 x5 h) := by
  unfold m_X12_laysBack_142
  refine z_aload_n dX12_laysBack_142 0 rfl ?_
  refine z_getR (j := 112) fX12_139 kc_70 rfl rfl rfl (by decide) dX12_laysBack_143 ?_
  refine z_sipush (v := 625) dX12_laysBack_146 (by decide) ?_
  refine z_iload_n dX12_laysBack_149 1 rfl ?_
  refine z_imul dX12_laysBack_150 ?_
  refine z_iload dX12_laysBack_151 2 rfl ?_
  refine z_iadd dX12_laysBack_153 ?_
  refine z_iload dX12_laysBack_154 3 rfl ?_
  refine z_gd (fun g2 => ?_)
  refine z_zast kc_112 dX12_laysBack_156 g2 ?_
  refine z_lh (fun h1 => ?_)
  refine z_iincL (lv2 := fun v3 => [(4, .int v3), (0, .ref 70), (3, .int x3), (5, .int x5)]) dX12_laysBack_157 2 rfl rfl (Nat.le_of_ble_eq_true rfl) (fun _ => rfl) (fun v3 => ?_)
  refine z_goto (tgt := 48) dX12_laysBack_160 (by decide) ?_
  exact z_sub [1, 2, 0] rfl (hk48 _ _ _)
set_option maxHeartbeats 4000000 in
set_option maxRecDepth 100000 in
theorem w_X12_laysBack_79 (k41 : Int32 → AHp → Option (Unit × AHp)) (hk41 : ∀ (x3 : Int32) (h : AHp), WO tvV QX12_laysBack 1 41 [(0, .ref 70), (3, .int x3)] [] h (k41 x3 h)) (k48 : Int32 → Int32 → AHp → Option (Unit × AHp)) (hk48 : ∀ (x3 : Int32) (x4 : Int32) (h : AHp), WO tvV QX12_laysBack 1 48 [(0, .ref 70), (3, .int x3), (4, .int x4)] [] h (k48 x3 x4 h)) : ∀ (f : Nat) (x3 : Int32) (x4 : Int32) (x5 : Int32) (x6 : Int32) (x7 : Int32) (h : AHp), WO tvV QX12_laysBack 1 79 [(0, .ref 70), (3, .int x3), (4, .int x4), (5, .int x5), (6, .int x6), (7, .int x7)] [] h (m_X12_laysBack_79 k41 k48 f x3 x4 x5 x6 x7 h) := by
  intro f
  induction f with
  | zero => intro x3 x4 x5 x6 x7 h; exact z_none
  | succ f ih =>
    intro x3 x4 x5 x6 x7 h
    rw [m_X12_laysBack_79]
    refine z_iload dX12_laysBack_79 5 rfl ?_
    refine z_bipush (v := 24) dX12_laysBack_81 (by decide) ?_
    refine z_ic_gt (tgt := 142) dX12_laysBack_83 (by decide) ?_ ?_
    · exact z_sub [0, 1, 2, 3] rfl (w_X12_laysBack_142 _ hk41 _ hk48 _ _ _ _)
    · refine z_iload dX12_laysBack_86 4 rfl ?_
      refine z_if_eq (tgt := 142) dX12_laysBack_88 (by decide) ?_ ?_
      · exact z_sub [0, 1, 2, 3] rfl (w_X12_laysBack_142 _ hk41 _ hk48 _ _ _ _)
      · refine z_iload dX12_laysBack_91 3 rfl ?_
        refine z_if_ne (tgt := 142) dX12_laysBack_93 (by decide) ?_ ?_
        · exact z_sub [0, 1, 2, 3] rfl (w_X12_laysBack_142 _ hk41 _ hk48 _ _ _ _)
        · refine z_iload dX12_laysBack_96 4 rfl ?_
          refine z_iload dX12_laysBack_98 5 rfl ?_
          refine z_callSI dX12_laysBack_100 (M_X12_has _ _ _) bX12_has lX12_187 rfl rfl (Nat.le_of_ble_eq_true rfl) (Nat.le_of_ble_eq_true rfl) (fun r4 h5 => ?_)
          refine z_if_eq (tgt := 133) dX12_laysBack_103 (by decide) ?_ ?_
          · refine z_iconst (v := 0) dX12_laysBack_133 (by decide) ?_
            refine z_istore (lv2 := [(5, .int 0), (0, .ref 70), (3, .int x3), (4, .int x4), (6, .int x6), (7, .int x7)]) dX12_laysBack_134 (Nat.le_of_ble_eq_true rfl) rfl ?_
            refine z_iincL (lv2 := fun v6 => [(7, .int v6), (5, .int 0), (0, .ref 70), (3, .int x3), (4, .int x4), (6, .int x6)]) dX12_laysBack_136 5 rfl rfl (Nat.le_of_ble_eq_true rfl) (fun _ => rfl) (fun v6 => ?_)
            refine z_goto (tgt := 79) dX12_laysBack_139 (by decide) ?_
            exact z_sub [2, 3, 4, 1, 5, 0] rfl (ih _ _ _ _ _ _)
          · refine z_aload_n dX12_laysBack_106 0 rfl ?_
            refine z_getR (j := 112) fX12_139 kc_70 rfl rfl rfl (by decide) dX12_laysBack_107 ?_
            refine z_sipush (v := 625) dX12_laysBack_110 (by decide) ?_
            refine z_iload_n dX12_laysBack_113 1 rfl ?_
            refine z_iconst (v := 1) dX12_laysBack_114 (by decide) ?_
            refine z_iadd dX12_laysBack_115 ?_
            refine z_imul dX12_laysBack_116 ?_
            refine z_iload dX12_laysBack_117 2 rfl ?_
            refine z_iload dX12_laysBack_119 5 rfl ?_
            refine z_callSI dX12_laysBack_121 (M_X12_pairBehind _ _ _) bX12_pairBehind lX12_419 rfl rfl (Nat.le_of_ble_eq_true rfl) (Nat.le_of_ble_eq_true rfl) (fun r7 h8 => ?_)
            refine z_iadd dX12_laysBack_124 ?_
            refine z_gd (fun g9 => ?_)
            refine z_zald kc_112 dX12_laysBack_125 g9 ?_
            refine z_if_eq (tgt := 133) dX12_laysBack_126 (by decide) ?_ ?_
            · refine z_iconst (v := 0) dX12_laysBack_133 (by decide) ?_
              refine z_istore (lv2 := [(5, .int 0), (0, .ref 70), (3, .int x3), (4, .int x4), (6, .int x6), (7, .int x7)]) dX12_laysBack_134 (Nat.le_of_ble_eq_true rfl) rfl ?_
              refine z_iincL (lv2 := fun v10 => [(7, .int v10), (5, .int 0), (0, .ref 70), (3, .int x3), (4, .int x4), (6, .int x6)]) dX12_laysBack_136 5 rfl rfl (Nat.le_of_ble_eq_true rfl) (fun _ => rfl) (fun v10 => ?_)
              refine z_goto (tgt := 79) dX12_laysBack_139 (by decide) ?_
              exact z_sub [2, 3, 4, 1, 5, 0] rfl (ih _ _ _ _ _ _)
            · refine z_iconst (v := 1) dX12_laysBack_129 (by decide) ?_
              refine z_goto (tgt := 134) dX12_laysBack_130 (by decide) ?_
              refine z_istore (lv2 := [(5, .int 1), (0, .ref 70), (3, .int x3), (4, .int x4), (6, .int x6), (7, .int x7)]) dX12_laysBack_134 (Nat.le_of_ble_eq_true rfl) rfl ?_
              refine z_iincL (lv2 := fun v11 => [(7, .int v11), (5, .int 1), (0, .ref 70), (3, .int x3), (4, .int x4), (6, .int x6)]) dX12_laysBack_136 5 rfl rfl (Nat.le_of_ble_eq_true rfl) (fun _ => rfl) (fun v11 => ?_)
              refine z_goto (tgt := 79) dX12_laysBack_139 (by decide) ?_
              exact z_sub [2, 3, 4, 1, 5, 0] rfl (ih _ _ _ _ _ _)
set_option maxHeartbeats 4000000 in
set_option maxRecDepth 100000 in
theorem w_X12_laysBack_48 (k41 : Int32 → AHp → Option (Unit × AHp)) (hk41 : ∀ (x3 : Int32) (h : AHp), WO tvV QX12_laysBack 1 41 [(0, .ref 70), (3, .int x3)] [] h (k41 x3 h)) : ∀ (f : Nat) (x3 : Int32) (x4 : Int32) (h : AHp), WO tvV QX12_laysBack 1 48 [(0, .ref 70), (3, .int x3), (4, .int x4)] [] h (m_X12_laysBack_48 k41 f x3 x4 h) := by
  intro f
  induction f with
  | zero => intro x3 x4 h; exact z_none
  | succ f ih =>
    intro x3 x4 h
    rw [m_X12_laysBack_48]
    refine z_iload dX12_laysBack_48 2 rfl ?_
    refine z_sipush (v := 625) dX12_laysBack_50 (by decide) ?_
    refine z_ic_ge (tgt := 163) dX12_laysBack_53 (by decide) ?_ ?_
    · refine z_iincL (lv2 := fun v12 => [(3, .int v12), (0, .ref 70), (4, .int x4)]) dX12_laysBack_163 1 rfl rfl (Nat.le_of_ble_eq_true rfl) (fun _ => rfl) (fun v12 => ?_)
      refine z_goto (tgt := 41) dX12_laysBack_166 (by decide) ?_
      exact z_sub [1, 0] rfl (hk41 _ _)
    · refine z_iconst (v := 0) dX12_laysBack_56 (by decide) ?_
      refine z_istore (lv2 := [(5, .int 0), (0, .ref 70), (3, .int x3), (4, .int x4)]) dX12_laysBack_57 (Nat.le_of_ble_eq_true rfl) rfl ?_
      refine z_aload_n dX12_laysBack_59 1 rfl ?_
      refine z_getR (j := 111) fX12_136 kc_70 rfl rfl rfl (by decide) dX12_laysBack_60 ?_
      refine z_sipush (v := 625) dX12_laysBack_63 (by decide) ?_
      refine z_iload_n dX12_laysBack_66 2 rfl ?_
      refine z_iconst (v := 2) dX12_laysBack_67 (by decide) ?_
      refine z_irem dX12_laysBack_68 (by decide) ?_
      refine z_imul dX12_laysBack_69 ?_
      refine z_iload dX12_laysBack_70 3 rfl ?_
      refine z_iadd dX12_laysBack_72 ?_
      refine z_gd (fun g13 => ?_)
      refine z_iald kc_111 dX12_laysBack_73 g13 ?_
      refine z_istoreL (lv2 := fun v14 => [(6, .int v14), (5, .int 0), (0, .ref 70), (3, .int x3), (4, .int x4)]) dX12_laysBack_74 (Nat.le_of_ble_eq_true rfl) (fun _ => rfl) (fun v14 => ?_)
      refine z_iconst (v := 1) dX12_laysBack_76 (by decide) ?_
      refine z_istore (lv2 := [(7, .int 1), (6, .int v14), (5, .int 0), (0, .ref 70), (3, .int x3), (4, .int x4)]) dX12_laysBack_77 (Nat.le_of_ble_eq_true rfl) rfl ?_
      exact z_sub [3, 4, 5, 2, 1, 0] rfl (w_X12_laysBack_79 _ hk41 _ ih FU _ _ _ _ _ _)
set_option maxHeartbeats 4000000 in
set_option maxRecDepth 100000 in
theorem w_X12_laysBack_41 : ∀ (f : Nat) (x3 : Int32) (h : AHp), WO tvV QX12_laysBack 1 41 [(0, .ref 70), (3, .int x3)] [] h (m_X12_laysBack_41 f x3 h) := by
  intro f
  induction f with
  | zero => intro x3 h; exact z_none
  | succ f ih =>
    intro x3 h
    rw [m_X12_laysBack_41]
    refine z_iload_n dX12_laysBack_41 1 rfl ?_
    refine z_if_lt (tgt := 169) dX12_laysBack_42 (by decide) ?_ ?_
    · exact z_vret dX12_laysBack_169 rfl
    · refine z_iconst (v := 0) dX12_laysBack_45 (by decide) ?_
      refine z_istore (lv2 := [(4, .int 0), (0, .ref 70), (3, .int x3)]) dX12_laysBack_46 (Nat.le_of_ble_eq_true rfl) rfl ?_
      exact z_sub [1, 2, 0] rfl (w_X12_laysBack_48 _ ih FU _ _ _)
set_option maxHeartbeats 4000000 in
set_option maxRecDepth 100000 in
theorem w_X12_laysBack_2 : ∀ (f : Nat) (x1 : Int32) (x2 : Int32) (x3 : Int32) (h : AHp), WO tvV QX12_laysBack 1 2 [(0, .ref 70), (1, .int x1), (2, .int x2), (3, .int x3)] [] h (m_X12_laysBack_2 f x1 x2 x3 h) := by
  intro f
  induction f with
  | zero => intro x1 x2 x3 h; exact z_none
  | succ f ih =>
    intro x1 x2 x3 h
    rw [m_X12_laysBack_2]
    refine z_iload_n dX12_laysBack_2 3 rfl ?_
    refine z_sipush (v := 625) dX12_laysBack_3 (by decide) ?_
    refine z_ic_ge (tgt := 37) dX12_laysBack_6 (by decide) ?_ ?_
    · refine z_iload_n dX12_laysBack_37 2 rfl ?_
      refine z_iconst (v := 1) dX12_laysBack_38 (by decide) ?_
      refine z_isub dX12_laysBack_39 ?_
      refine z_istore_nL (lv2 := fun v15 => [(3, .int v15), (0, .ref 70), (1, .int x1), (2, .int x2)]) dX12_laysBack_40 (Nat.le_of_ble_eq_true rfl) (fun _ => rfl) (fun v15 => ?_)
      exact z_sub [1, 0] rfl (w_X12_laysBack_41 FU _ _)
    · refine z_aload_n dX12_laysBack_9 0 rfl ?_
      refine z_getR (j := 112) fX12_139 kc_70 rfl rfl rfl (by decide) dX12_laysBack_10 ?_
      refine z_sipush (v := 625) dX12_laysBack_13 (by decide) ?_
      refine z_iload_n dX12_laysBack_16 2 rfl ?_
      refine z_imul dX12_laysBack_17 ?_
      refine z_iload_n dX12_laysBack_18 3 rfl ?_
      refine z_iadd dX12_laysBack_19 ?_
      refine z_iload_n dX12_laysBack_20 3 rfl ?_
      refine z_iload_n dX12_laysBack_21 1 rfl ?_
      refine z_ic_ne (tgt := 29) dX12_laysBack_22 (by decide) ?_ ?_
      · refine z_iconst (v := 0) dX12_laysBack_29 (by decide) ?_
        refine z_gd (fun g17 => ?_)
        refine z_zast kc_112 dX12_laysBack_30 g17 ?_
        refine z_lh (fun h16 => ?_)
        refine z_iincL (lv2 := fun v18 => [(3, .int v18), (0, .ref 70), (1, .int x1), (2, .int x2)]) dX12_laysBack_31 3 rfl rfl (Nat.le_of_ble_eq_true rfl) (fun _ => rfl) (fun v18 => ?_)
        refine z_goto (tgt := 2) dX12_laysBack_34 (by decide) ?_
        exact z_sub [1, 2, 3, 0] rfl (ih _ _ _ _)
      · refine z_iconst (v := 1) dX12_laysBack_25 (by decide) ?_
        refine z_goto (tgt := 30) dX12_laysBack_26 (by decide) ?_
        refine z_gd (fun g20 => ?_)
        refine z_zast kc_112 dX12_laysBack_30 g20 ?_
        refine z_lh (fun h19 => ?_)
        refine z_iincL (lv2 := fun v21 => [(3, .int v21), (0, .ref 70), (1, .int x1), (2, .int x2)]) dX12_laysBack_31 3 rfl rfl (Nat.le_of_ble_eq_true rfl) (fun _ => rfl) (fun v21 => ?_)
        refine z_goto (tgt := 2) dX12_laysBack_34 (by decide) ?_
        exact z_sub [1, 2, 3, 0] rfl (ih _ _ _ _)
set_option maxHeartbeats 4000000 in
set_option maxRecDepth 100000 in
theorem w_X12_laysBack (x1 : Int32) (x2 : Int32) (h : AHp) : WO tvV QX12_laysBack 1 0 [(0, .ref 70), (1, .int x1), (2, .int x2)] [] h (m_X12_laysBack x1 x2 h) := by
  unfold m_X12_laysBack
  refine z_iconst (v := 0) dX12_laysBack_0 (by decide) ?_
  refine z_istore_n (lv2 := [(3, .int 0), (0, .ref 70), (1, .int x1), (2, .int x2)]) dX12_laysBack_1 (Nat.le_of_ble_eq_true rfl) rfl ?_
  exact z_sub [1, 2, 3, 0] rfl (w_X12_laysBack_2 FU _ _ _ _)
theorem M_X12_laysBack (x1 : Int32) (x2 : Int32) (h : AHp) : MV QX12_laysBack 1 [.ref 70, .int x1, .int x2] h (m_X12_laysBack x1 x2 h) := MV.of (by decide) rfl rfl (Nat.le_of_ble_eq_true rfl) (w_X12_laysBack x1 x2 h)
set_option maxHeartbeats 4000000 in
set_option maxRecDepth 100000 in
theorem w_X12_findsRound_87 (k78 : Int32 → Int32 → Int32 → AHp → Option (Int32 × AHp)) (hk78 : ∀ (x1 : Int32) (x5 : Int32) (x6 : Int32) (h : AHp), WO tvI QX12_findsRound 2 78 [(0, .ref 70), (1, .int x1), (5, .int x5), (6, .int x6)] [] h (k78 x1 x5 x6 h)) : ∀ (f : Nat) (x1 : Int32) (x5 : Int32) (x6 : Int32) (x7 : Int32) (h : AHp), WO tvI QX12_findsRound 2 87 [(0, .ref 70), (1, .int x1), (5, .int x5), (6, .int x6), (7, .int x7)] [] h (m_X12_findsRound_87 k78 f x1 x5 x6 x7 h) := by
  intro f
  induction f with
  | zero => intro x1 x5 x6 x7 h; exact z_none
  | succ f ih =>
    intro x1 x5 x6 x7 h
    rw [m_X12_findsRound_87]
    refine z_aload_n dX12_findsRound_87 0 rfl ?_
    refine z_getR (j := 111) fX12_136 kc_70 rfl rfl rfl (by decide) dX12_findsRound_88 ?_
    refine z_sipush (v := 625) dX12_findsRound_91 (by decide) ?_
    refine z_iload dX12_findsRound_94 3 rfl ?_
    refine z_iconst (v := 2) dX12_findsRound_96 (by decide) ?_
    refine z_irem dX12_findsRound_97 (by decide) ?_
    refine z_imul dX12_findsRound_98 ?_
    refine z_iload dX12_findsRound_99 2 rfl ?_
    refine z_iadd dX12_findsRound_101 ?_
    refine z_gd (fun g1 => ?_)
    refine z_iald kc_111 dX12_findsRound_102 g1 ?_
    refine z_iload dX12_findsRound_103 4 rfl ?_
    refine z_callSI dX12_findsRound_105 (M_X12_has _ _ _) bX12_has lX12_187 rfl rfl (Nat.le_of_ble_eq_true rfl) (Nat.le_of_ble_eq_true rfl) (fun r2 h3 => ?_)
    refine z_if_eq (tgt := 135) dX12_findsRound_108 (by decide) ?_ ?_
    · refine z_iincL (lv2 := fun v4 => [(7, .int v4), (0, .ref 70), (1, .int x1), (5, .int x5), (6, .int x6)]) dX12_findsRound_135 4 rfl rfl (Nat.le_of_ble_eq_true rfl) (fun _ => rfl) (fun v4 => ?_)
      refine z_goto (tgt := 87) dX12_findsRound_138 (by decide) ?_
      exact z_sub [1, 2, 3, 4, 0] rfl (ih _ _ _ _ _)
    · refine z_aload_n dX12_findsRound_111 0 rfl ?_
      refine z_getR (j := 112) fX12_139 kc_70 rfl rfl rfl (by decide) dX12_findsRound_112 ?_
      refine z_sipush (v := 625) dX12_findsRound_115 (by decide) ?_
      refine z_iload dX12_findsRound_118 3 rfl ?_
      refine z_iconst (v := 1) dX12_findsRound_120 (by decide) ?_
      refine z_isub dX12_findsRound_121 ?_
      refine z_imul dX12_findsRound_122 ?_
      refine z_iload dX12_findsRound_123 2 rfl ?_
      refine z_iload dX12_findsRound_125 4 rfl ?_
      refine z_callSI dX12_findsRound_127 (M_X12_pairBehind _ _ _) bX12_pairBehind lX12_419 rfl rfl (Nat.le_of_ble_eq_true rfl) (Nat.le_of_ble_eq_true rfl) (fun r5 h6 => ?_)
      refine z_iadd dX12_findsRound_130 ?_
      refine z_gd (fun g7 => ?_)
      refine z_zald kc_112 dX12_findsRound_131 g7 ?_
      refine z_if_ne (tgt := 141) dX12_findsRound_132 (by decide) ?_ ?_
      · refine z_aload_n dX12_findsRound_141 0 rfl ?_
        refine z_getR (j := 113) fX12_142 kc_70 rfl rfl rfl (by decide) dX12_findsRound_142 ?_
        refine z_iload dX12_findsRound_145 3 rfl ?_
        refine z_iload dX12_findsRound_147 4 rfl ?_
        refine z_gd (fun g9 => ?_)
        refine z_iast kc_113 dX12_findsRound_149 g9 ?_
        refine z_lh (fun h8 => ?_)
        refine z_iload dX12_findsRound_150 2 rfl ?_
        refine z_iload dX12_findsRound_152 4 rfl ?_
        refine z_callSI dX12_findsRound_154 (M_X12_pairBehind _ _ _) bX12_pairBehind lX12_419 rfl rfl (Nat.le_of_ble_eq_true rfl) (Nat.le_of_ble_eq_true rfl) (fun r10 h11 => ?_)
        refine z_istore (lv2 := [(5, .int r10), (0, .ref 70), (1, .int x1), (6, .int x6), (7, .int x7)]) dX12_findsRound_157 (Nat.le_of_ble_eq_true rfl) rfl ?_
        refine z_iincL (lv2 := fun v12 => [(6, .int v12), (5, .int r10), (0, .ref 70), (1, .int x1), (7, .int x7)]) dX12_findsRound_159 3 rfl rfl (Nat.le_of_ble_eq_true rfl) (fun _ => rfl) (fun v12 => ?_)
        refine z_goto (tgt := 78) dX12_findsRound_162 (by decide) ?_
        exact z_sub [2, 3, 1, 0] rfl (hk78 _ _ _ _)
      · refine z_iincL (lv2 := fun v13 => [(7, .int v13), (0, .ref 70), (1, .int x1), (5, .int x5), (6, .int x6)]) dX12_findsRound_135 4 rfl rfl (Nat.le_of_ble_eq_true rfl) (fun _ => rfl) (fun v13 => ?_)
        refine z_goto (tgt := 87) dX12_findsRound_138 (by decide) ?_
        exact z_sub [1, 2, 3, 4, 0] rfl (ih _ _ _ _ _)
set_option maxHeartbeats 4000000 in
set_option maxRecDepth 100000 in
theorem w_X12_findsRound_78 : ∀ (f : Nat) (x1 : Int32) (x5 : Int32) (x6 : Int32) (h : AHp), WO tvI QX12_findsRound 2 78 [(0, .ref 70), (1, .int x1), (5, .int x5), (6, .int x6)] [] h (m_X12_findsRound_78 f x1 x5 x6 h) := by
  intro f
  induction f with
  | zero => intro x1 x5 x6 h; exact z_none
  | succ f ih =>
    intro x1 x5 x6 h
    rw [m_X12_findsRound_78]
    refine z_iload dX12_findsRound_78 3 rfl ?_
    refine z_iload_n dX12_findsRound_80 1 rfl ?_
    refine z_ic_ge (tgt := 165) dX12_findsRound_81 (by decide) ?_ ?_
    · refine z_iconst (v := 1) dX12_findsRound_165 (by decide) ?_
      exact z_zret dX12_findsRound_166 rfl (Or.inr rfl)
    · refine z_iconst (v := 1) dX12_findsRound_84 (by decide) ?_
      refine z_istore (lv2 := [(7, .int 1), (0, .ref 70), (1, .int x1), (5, .int x5), (6, .int x6)]) dX12_findsRound_85 (Nat.le_of_ble_eq_true rfl) rfl ?_
      exact z_sub [1, 2, 3, 4, 0] rfl (w_X12_findsRound_87 _ ih FU _ _ _ _ _)
set_option maxHeartbeats 4000000 in
set_option maxRecDepth 100000 in
theorem w_X12_findsRound_10 (k2 : Int32 → Int32 → AHp → Option (Int32 × AHp)) (hk2 : ∀ (x1 : Int32) (x2 : Int32) (h : AHp), WO tvI QX12_findsRound 2 2 [(0, .ref 70), (1, .int x1), (2, .int x2)] [] h (k2 x1 x2 h)) : ∀ (f : Nat) (x1 : Int32) (x2 : Int32) (x3 : Int32) (h : AHp), WO tvI QX12_findsRound 2 10 [(0, .ref 70), (1, .int x1), (2, .int x2), (3, .int x3)] [] h (m_X12_findsRound_10 k2 f x1 x2 x3 h) := by
  intro f
  induction f with
  | zero => intro x1 x2 x3 h; exact z_none
  | succ f ih =>
    intro x1 x2 x3 h
    rw [m_X12_findsRound_10]
    refine z_iload_n dX12_findsRound_10 3 rfl ?_
    refine z_bipush (v := 24) dX12_findsRound_11 (by decide) ?_
    refine z_ic_gt (tgt := 173) dX12_findsRound_13 (by decide) ?_ ?_
    · refine z_iincL (lv2 := fun v14 => [(2, .int v14), (0, .ref 70), (1, .int x1), (3, .int x3)]) dX12_findsRound_173 2 rfl rfl (Nat.le_of_ble_eq_true rfl) (fun _ => rfl) (fun v14 => ?_)
      refine z_goto (tgt := 2) dX12_findsRound_176 (by decide) ?_
      exact z_sub [1, 2, 0] rfl (hk2 _ _ _)
    · refine z_bipush (v := 25) dX12_findsRound_16 (by decide) ?_
      refine z_iload_n dX12_findsRound_18 3 rfl ?_
      refine z_imul dX12_findsRound_19 ?_
      refine z_iload_n dX12_findsRound_20 2 rfl ?_
      refine z_iadd dX12_findsRound_21 ?_
      refine z_istoreL (lv2 := fun v15 => [(4, .int v15), (0, .ref 70), (1, .int x1), (2, .int x2), (3, .int x3)]) dX12_findsRound_22 (Nat.le_of_ble_eq_true rfl) (fun _ => rfl) (fun v15 => ?_)
      refine z_aload_n dX12_findsRound_24 1 rfl ?_
      refine z_getR (j := 111) fX12_136 kc_70 rfl rfl rfl (by decide) dX12_findsRound_25 ?_
      refine z_iload dX12_findsRound_28 0 rfl ?_
      refine z_gd (fun g16 => ?_)
      refine z_iald kc_111 dX12_findsRound_30 g16 ?_
      refine z_if_ne (tgt := 37) dX12_findsRound_31 (by decide) ?_ ?_
      · refine z_aload_n dX12_findsRound_37 1 rfl ?_
        refine z_iload dX12_findsRound_38 0 rfl ?_
        refine z_iload_n dX12_findsRound_40 2 rfl ?_
        refine z_callVV dX12_findsRound_41 (M_X12_laysBack _ _ _) bX12_laysBack lX12_487 kc_70 rfl rfl (Nat.le_of_ble_eq_true rfl) (Nat.le_of_ble_eq_true rfl) (fun r17 h18 => ?_)
        refine z_aload_n dX12_findsRound_44 1 rfl ?_
        refine z_getR (j := 112) fX12_139 kc_70 rfl rfl rfl (by decide) dX12_findsRound_45 ?_
        refine z_iload dX12_findsRound_48 0 rfl ?_
        refine z_gd (fun g19 => ?_)
        refine z_zald kc_112 dX12_findsRound_50 g19 ?_
        refine z_if_ne (tgt := 57) dX12_findsRound_51 (by decide) ?_ ?_
        · refine z_aload_n dX12_findsRound_57 1 rfl ?_
          refine z_getR (j := 113) fX12_142 kc_70 rfl rfl rfl (by decide) dX12_findsRound_58 ?_
          refine z_iconst (v := 0) dX12_findsRound_61 (by decide) ?_
          refine z_iload_n dX12_findsRound_62 3 rfl ?_
          refine z_iast kc_113 dX12_findsRound_63 (by decide) ?_
          refine z_lh (fun h20 => ?_)
          refine z_aload_n dX12_findsRound_64 1 rfl ?_
          refine z_getR (j := 113) fX12_142 kc_70 rfl rfl rfl (by decide) dX12_findsRound_65 ?_
          refine z_iconst (v := 1) dX12_findsRound_68 (by decide) ?_
          refine z_iload_n dX12_findsRound_69 4 rfl ?_
          refine z_iast kc_113 dX12_findsRound_70 (by decide) ?_
          refine z_lh (fun h21 => ?_)
          refine z_iload dX12_findsRound_71 0 rfl ?_
          refine z_istore (lv2 := [(5, .int v15), (4, .int v15), (0, .ref 70), (1, .int x1), (2, .int x2), (3, .int x3)]) dX12_findsRound_73 (Nat.le_of_ble_eq_true rfl) rfl ?_
          refine z_iconst (v := 2) dX12_findsRound_75 (by decide) ?_
          refine z_istore (lv2 := [(6, .int 2), (5, .int v15), (4, .int v15), (0, .ref 70), (1, .int x1), (2, .int x2), (3, .int x3)]) dX12_findsRound_76 (Nat.le_of_ble_eq_true rfl) rfl ?_
          exact z_sub [3, 4, 1, 0] rfl (w_X12_findsRound_78 FU _ _ _ _)
        · refine z_goto (tgt := 167) dX12_findsRound_54 (by decide) ?_
          refine z_iincL (lv2 := fun v22 => [(3, .int v22), (4, .int v15), (0, .ref 70), (1, .int x1), (2, .int x2)]) dX12_findsRound_167 4 rfl rfl (Nat.le_of_ble_eq_true rfl) (fun _ => rfl) (fun v22 => ?_)
          refine z_goto (tgt := 10) dX12_findsRound_170 (by decide) ?_
          exact z_sub [2, 3, 4, 0] rfl (ih _ _ _ _)
      · refine z_goto (tgt := 167) dX12_findsRound_34 (by decide) ?_
        refine z_iincL (lv2 := fun v23 => [(3, .int v23), (4, .int v15), (0, .ref 70), (1, .int x1), (2, .int x2)]) dX12_findsRound_167 4 rfl rfl (Nat.le_of_ble_eq_true rfl) (fun _ => rfl) (fun v23 => ?_)
        refine z_goto (tgt := 10) dX12_findsRound_170 (by decide) ?_
        exact z_sub [2, 3, 4, 0] rfl (ih _ _ _ _)
set_option maxHeartbeats 4000000 in
set_option maxRecDepth 100000 in
theorem w_X12_findsRound_2 : ∀ (f : Nat) (x1 : Int32) (x2 : Int32) (h : AHp), WO tvI QX12_findsRound 2 2 [(0, .ref 70), (1, .int x1), (2, .int x2)] [] h (m_X12_findsRound_2 f x1 x2 h) := by
  intro f
  induction f with
  | zero => intro x1 x2 h; exact z_none
  | succ f ih =>
    intro x1 x2 h
    rw [m_X12_findsRound_2]
    refine z_iload_n dX12_findsRound_2 2 rfl ?_
    refine z_bipush (v := 24) dX12_findsRound_3 (by decide) ?_
    refine z_ic_gt (tgt := 179) dX12_findsRound_5 (by decide) ?_ ?_
    · refine z_iconst (v := 0) dX12_findsRound_179 (by decide) ?_
      exact z_zret dX12_findsRound_180 rfl (Or.inl rfl)
    · refine z_iconst (v := 1) dX12_findsRound_8 (by decide) ?_
      refine z_istore_n (lv2 := [(3, .int 1), (0, .ref 70), (1, .int x1), (2, .int x2)]) dX12_findsRound_9 (Nat.le_of_ble_eq_true rfl) rfl ?_
      exact z_sub [1, 2, 3, 0] rfl (w_X12_findsRound_10 _ ih FU _ _ _ _)
set_option maxHeartbeats 4000000 in
set_option maxRecDepth 100000 in
theorem w_X12_findsRound (x1 : Int32) (h : AHp) : WO tvI QX12_findsRound 2 0 [(0, .ref 70), (1, .int x1)] [] h (m_X12_findsRound x1 h) := by
  unfold m_X12_findsRound
  refine z_iconst (v := 1) dX12_findsRound_0 (by decide) ?_
  refine z_istore_n (lv2 := [(2, .int 1), (0, .ref 70), (1, .int x1)]) dX12_findsRound_1 (Nat.le_of_ble_eq_true rfl) rfl ?_
  exact z_sub [1, 2, 0] rfl (w_X12_findsRound_2 FU _ _ _)
theorem M_X12_findsRound (x1 : Int32) (h : AHp) : MI QX12_findsRound 2 [.ref 70, .int x1] h (m_X12_findsRound x1 h) := MI.of (by decide) rfl rfl (Nat.le_of_ble_eq_true rfl) (w_X12_findsRound x1 h)
set_option maxHeartbeats 4000000 in
set_option maxRecDepth 100000 in
theorem w_X12_round_31 : ∀ (f : Nat) (x2 : Int32) (x3 : Int32) (h : AHp), WO tvI QX12_round 7 31 [(0, .ref 70), (2, .int x2), (3, .int x3)] [] h (m_X12_round_31 f x2 x3 h) := by
  intro f
  induction f with
  | zero => intro x2 x3 h; exact z_none
  | succ f ih =>
    intro x2 x3 h
    rw [m_X12_round_31]
    refine z_iload_n dX12_round_31 2 rfl ?_
    refine z_bipush (v := 6) dX12_round_32 (by decide) ?_
    refine z_ic_gt (tgt := 77) dX12_round_34 (by decide) ?_ ?_
    · refine z_bipush (v := -2) dX12_round_77 (by decide) ?_
      exact z_iret dX12_round_79 rfl
    · refine z_aload_n dX12_round_37 0 rfl ?_
      refine z_iload_n dX12_round_38 2 rfl ?_
      refine z_callVI dX12_round_39 (M_X12_findsRound _ _) bX12_findsRound lX12_493 kc_70 rfl rfl (Nat.le_of_ble_eq_true rfl) (Nat.le_of_ble_eq_true rfl) (fun r1 h2 => ?_)
      refine z_if_eq (tgt := 71) dX12_round_42 (by decide) ?_ ?_
      · refine z_iincL (lv2 := fun v3 => [(3, .int v3), (0, .ref 70), (2, .int x2)]) dX12_round_71 2 rfl rfl (Nat.le_of_ble_eq_true rfl) (fun _ => rfl) (fun v3 => ?_)
        refine z_goto (tgt := 31) dX12_round_74 (by decide) ?_
        exact z_sub [1, 2, 0] rfl (ih _ _ _)
      · refine z_iload_n dX12_round_45 1 rfl ?_
        refine z_iconst (v := -1) dX12_round_46 (by decide) ?_
        refine z_ic_ne (tgt := 54) dX12_round_47 (by decide) ?_ ?_
        · refine z_iload_n dX12_round_54 1 rfl ?_
          refine z_iload_n dX12_round_55 2 rfl ?_
          refine z_ic_ge (tgt := 68) dX12_round_56 (by decide) ?_ ?_
          · refine z_bipush (v := -3) dX12_round_68 (by decide) ?_
            exact z_iret dX12_round_70 rfl
          · refine z_aload_n dX12_round_59 0 rfl ?_
            refine z_getR (j := 113) fX12_142 kc_70 rfl rfl rfl (by decide) dX12_round_60 ?_
            refine z_iload_n dX12_round_63 1 rfl ?_
            refine z_gd (fun g4 => ?_)
            refine z_iald kc_113 dX12_round_64 g4 ?_
            refine z_goto (tgt := 70) dX12_round_65 (by decide) ?_
            exact z_iret dX12_round_70 rfl
        · refine z_iload_n dX12_round_50 2 rfl ?_
          refine z_goto (tgt := 70) dX12_round_51 (by decide) ?_
          exact z_iret dX12_round_70 rfl
set_option maxHeartbeats 4000000 in
set_option maxRecDepth 100000 in
theorem w_X12_round (x1 : Int32) (x2 : Int32) (h : AHp) : WO tvI QX12_round 7 0 [(0, .ref 70), (1, .int x1), (2, .int x2)] [] h (m_X12_round x1 x2 h) := by
  unfold m_X12_round
  refine z_iload_n dX12_round_0 1 rfl ?_
  refine z_callSI dX12_round_1 (M_X12_isThing _ _) bX12_isThing lX12_229 rfl rfl (Nat.le_of_ble_eq_true rfl) (Nat.le_of_ble_eq_true rfl) (fun r5 h6 => ?_)
  refine z_if_eq (tgt := 21) dX12_round_4 (by decide) ?_ ?_
  · refine z_bipush (v := -3) dX12_round_21 (by decide) ?_
    exact z_iret dX12_round_23 rfl
  · refine z_iload_n dX12_round_7 2 rfl ?_
    refine z_i2l dX12_round_8 ?_
    refine z_ldc2 dX12_round_9 kX12_445 ?_
    refine z_ldc2 dX12_round_12 kX12_364 ?_
    refine z_callSI dX12_round_15 (M_X12_lies _ _ _ _) bX12_lies lX12_181 rfl rfl (Nat.le_of_ble_eq_true rfl) (Nat.le_of_ble_eq_true rfl) (fun r7 h8 => ?_)
    refine z_if_ne (tgt := 24) dX12_round_18 (by decide) ?_ ?_
    · refine z_aload_n dX12_round_24 0 rfl ?_
      refine z_iload_n dX12_round_25 1 rfl ?_
      refine z_callVV dX12_round_26 (M_X12_laysRound _ _) bX12_laysRound lX12_490 kc_70 rfl rfl (Nat.le_of_ble_eq_true rfl) (Nat.le_of_ble_eq_true rfl) (fun r9 h10 => ?_)
      refine z_iconst (v := 2) dX12_round_29 (by decide) ?_
      refine z_istore_n (lv2 := [(3, .int 2), (0, .ref 70), (1, .int x1), (2, .int x2)]) dX12_round_30 (Nat.le_of_ble_eq_true rfl) rfl ?_
      exact z_sub [1, 3, 0] rfl (w_X12_round_31 FU _ _ _)
    · refine z_bipush (v := -3) dX12_round_21 (by decide) ?_
      exact z_iret dX12_round_23 rfl
theorem M_X12_round (x1 : Int32) (x2 : Int32) (h : AHp) : MI QX12_round 7 [.ref 70, .int x1, .int x2] h (m_X12_round x1 x2 h) := MI.of (by decide) rfl rfl (Nat.le_of_ble_eq_true rfl) (w_X12_round x1 x2 h)
set_option maxHeartbeats 4000000 in
set_option maxRecDepth 100000 in
theorem w_X12_seed (x1 : Int32) (h : AHp) : WO tvI QX12_seed 1 0 [(0, .ref 70), (1, .int x1)] [] h (m_X12_seed x1 h) := by
  unfold m_X12_seed
  refine z_iload_n dX12_seed_0 1 rfl ?_
  refine z_i2l dX12_seed_1 ?_
  refine z_lconst (v := 0) dX12_seed_2 (by decide) ?_
  refine z_ldc2 dX12_seed_3 kX12_496 ?_
  refine z_callSI dX12_seed_6 (M_X12_lies _ _ _ _) bX12_lies lX12_181 rfl rfl (Nat.le_of_ble_eq_true rfl) (Nat.le_of_ble_eq_true rfl) (fun r1 h2 => ?_)
  refine z_if_ne (tgt := 14) dX12_seed_9 (by decide) ?_ ?_
  · refine z_aload_n dX12_seed_14 0 rfl ?_
    refine z_iload_n dX12_seed_15 1 rfl ?_
    refine z_putI fX12_13 kc_70 rfl dX12_seed_16 ?_
    refine z_lh (fun h3 => ?_)
    refine z_iconst (v := 1) dX12_seed_19 (by decide) ?_
    exact z_zret dX12_seed_20 rfl (Or.inr rfl)
  · refine z_iconst (v := 0) dX12_seed_12 (by decide) ?_
    exact z_zret dX12_seed_13 rfl (Or.inl rfl)
theorem M_X12_seed (x1 : Int32) (h : AHp) : MI QX12_seed 1 [.ref 70, .int x1] h (m_X12_seed x1 h) := MI.of (by decide) rfl rfl (Nat.le_of_ble_eq_true rfl) (w_X12_seed x1 h)
set_option maxHeartbeats 4000000 in
set_option maxRecDepth 100000 in
theorem w_X12_draw_119 (k18 : Int32 → Int32 → Int32 → AHp → Option (Int32 × AHp)) (hk18 : ∀ (x1 : Int32) (x2 : Int32) (x3 : Int32) (h : AHp), WO tvI QX12_draw 6 18 [(0, .ref 70), (1, .int x1), (2, .int x2), (3, .int x3)] [] h (k18 x1 x2 x3 h)) : ∀ (f : Nat) (x1 : Int32) (x2 : Int32) (x3 : Int32) (x4 : Int32) (x5 : Int32) (x6 : Int32) (x7 : Int32) (x8 : Int32) (h : AHp), WO tvI QX12_draw 6 119 [(0, .ref 70), (1, .int x1), (2, .int x2), (3, .int x3), (4, .int x4), (5, .int x5), (6, .int x6), (7, .int x7), (8, .int x8)] [] h (m_X12_draw_119 k18 f x1 x2 x3 x4 x5 x6 x7 x8 h) := by
  intro f
  induction f with
  | zero => intro x1 x2 x3 x4 x5 x6 x7 x8 h; exact z_none
  | succ f ih =>
    intro x1 x2 x3 x4 x5 x6 x7 x8 h
    rw [m_X12_draw_119]
    refine z_iload dX12_draw_119 6 rfl ?_
    refine z_iload dX12_draw_121 8 rfl ?_
    refine z_callSI dX12_draw_123 (M_X12_has _ _ _) bX12_has lX12_187 rfl rfl (Nat.le_of_ble_eq_true rfl) (Nat.le_of_ble_eq_true rfl) (fun r1 h2 => ?_)
    refine z_if_eq (tgt := 134) dX12_draw_126 (by decide) ?_ ?_
    · refine z_iload dX12_draw_134 7 rfl ?_
      refine z_iload dX12_draw_136 6 rfl ?_
      refine z_iload dX12_draw_138 8 rfl ?_
      refine z_callSI dX12_draw_140 (M_X12_has _ _ _) bX12_has lX12_187 rfl rfl (Nat.le_of_ble_eq_true rfl) (Nat.le_of_ble_eq_true rfl) (fun r3 h4 => ?_)
      refine z_if_eq (tgt := 150) dX12_draw_143 (by decide) ?_ ?_
      · refine z_iconst (v := 0) dX12_draw_150 (by decide) ?_
        refine z_isub dX12_draw_151 ?_
        refine z_istoreL (lv2 := fun v5 => [(7, .int v5), (0, .ref 70), (1, .int x1), (2, .int x2), (3, .int x3), (4, .int x4), (5, .int x5), (6, .int x6), (8, .int x8)]) dX12_draw_152 (Nat.le_of_ble_eq_true rfl) (fun _ => rfl) (fun v5 => ?_)
        refine z_iincL (lv2 := fun v6 => [(8, .int v6), (7, .int v5), (0, .ref 70), (1, .int x1), (2, .int x2), (3, .int x3), (4, .int x4), (5, .int x5), (6, .int x6)]) dX12_draw_154 8 rfl rfl (Nat.le_of_ble_eq_true rfl) (fun _ => rfl) (fun v6 => ?_)
        refine z_goto (tgt := 119) dX12_draw_157 (by decide) ?_
        exact z_sub [2, 3, 4, 5, 6, 7, 8, 1, 0] rfl (ih _ _ _ _ _ _ _ _ _)
      · refine z_iconst (v := 1) dX12_draw_146 (by decide) ?_
        refine z_goto (tgt := 151) dX12_draw_147 (by decide) ?_
        refine z_isub dX12_draw_151 ?_
        refine z_istoreL (lv2 := fun v7 => [(7, .int v7), (0, .ref 70), (1, .int x1), (2, .int x2), (3, .int x3), (4, .int x4), (5, .int x5), (6, .int x6), (8, .int x8)]) dX12_draw_152 (Nat.le_of_ble_eq_true rfl) (fun _ => rfl) (fun v7 => ?_)
        refine z_iincL (lv2 := fun v8 => [(8, .int v8), (7, .int v7), (0, .ref 70), (1, .int x1), (2, .int x2), (3, .int x3), (4, .int x4), (5, .int x5), (6, .int x6)]) dX12_draw_154 8 rfl rfl (Nat.le_of_ble_eq_true rfl) (fun _ => rfl) (fun v8 => ?_)
        refine z_goto (tgt := 119) dX12_draw_157 (by decide) ?_
        exact z_sub [2, 3, 4, 5, 6, 7, 8, 1, 0] rfl (ih _ _ _ _ _ _ _ _ _)
    · refine z_iload dX12_draw_129 7 rfl ?_
      refine z_if_le (tgt := 160) dX12_draw_131 (by decide) ?_ ?_
      · refine z_aload_n dX12_draw_160 0 rfl ?_
        refine z_iload dX12_draw_161 4 rfl ?_
        refine z_iload dX12_draw_163 5 rfl ?_
        refine z_iload dX12_draw_165 8 rfl ?_
        refine z_callVV dX12_draw_167 (M_X12_isSaid _ _ _ _) bX12_isSaid lX12_395 kc_70 rfl rfl (Nat.le_of_ble_eq_true rfl) (Nat.le_of_ble_eq_true rfl) (fun r9 h10 => ?_)
        refine z_iincL (lv2 := fun v11 => [(2, .int v11), (0, .ref 70), (1, .int x1), (3, .int x3), (4, .int x4), (5, .int x5), (6, .int x6), (7, .int x7), (8, .int x8)]) dX12_draw_170 2 rfl rfl (Nat.le_of_ble_eq_true rfl) (fun _ => rfl) (fun v11 => ?_)
        refine z_iincL (lv2 := fun v12 => [(3, .int v12), (2, .int v11), (0, .ref 70), (1, .int x1), (4, .int x4), (5, .int x5), (6, .int x6), (7, .int x7), (8, .int x8)]) dX12_draw_173 3 rfl rfl (Nat.le_of_ble_eq_true rfl) (fun _ => rfl) (fun v12 => ?_)
        refine z_goto (tgt := 18) dX12_draw_176 (by decide) ?_
        exact z_sub [2, 3, 1, 0] rfl (hk18 _ _ _ _)
      · refine z_iload dX12_draw_134 7 rfl ?_
        refine z_iload dX12_draw_136 6 rfl ?_
        refine z_iload dX12_draw_138 8 rfl ?_
        refine z_callSI dX12_draw_140 (M_X12_has _ _ _) bX12_has lX12_187 rfl rfl (Nat.le_of_ble_eq_true rfl) (Nat.le_of_ble_eq_true rfl) (fun r13 h14 => ?_)
        refine z_if_eq (tgt := 150) dX12_draw_143 (by decide) ?_ ?_
        · refine z_iconst (v := 0) dX12_draw_150 (by decide) ?_
          refine z_isub dX12_draw_151 ?_
          refine z_istoreL (lv2 := fun v15 => [(7, .int v15), (0, .ref 70), (1, .int x1), (2, .int x2), (3, .int x3), (4, .int x4), (5, .int x5), (6, .int x6), (8, .int x8)]) dX12_draw_152 (Nat.le_of_ble_eq_true rfl) (fun _ => rfl) (fun v15 => ?_)
          refine z_iincL (lv2 := fun v16 => [(8, .int v16), (7, .int v15), (0, .ref 70), (1, .int x1), (2, .int x2), (3, .int x3), (4, .int x4), (5, .int x5), (6, .int x6)]) dX12_draw_154 8 rfl rfl (Nat.le_of_ble_eq_true rfl) (fun _ => rfl) (fun v16 => ?_)
          refine z_goto (tgt := 119) dX12_draw_157 (by decide) ?_
          exact z_sub [2, 3, 4, 5, 6, 7, 8, 1, 0] rfl (ih _ _ _ _ _ _ _ _ _)
        · refine z_iconst (v := 1) dX12_draw_146 (by decide) ?_
          refine z_goto (tgt := 151) dX12_draw_147 (by decide) ?_
          refine z_isub dX12_draw_151 ?_
          refine z_istoreL (lv2 := fun v17 => [(7, .int v17), (0, .ref 70), (1, .int x1), (2, .int x2), (3, .int x3), (4, .int x4), (5, .int x5), (6, .int x6), (8, .int x8)]) dX12_draw_152 (Nat.le_of_ble_eq_true rfl) (fun _ => rfl) (fun v17 => ?_)
          refine z_iincL (lv2 := fun v18 => [(8, .int v18), (7, .int v17), (0, .ref 70), (1, .int x1), (2, .int x2), (3, .int x3), (4, .int x4), (5, .int x5), (6, .int x6)]) dX12_draw_154 8 rfl rfl (Nat.le_of_ble_eq_true rfl) (fun _ => rfl) (fun v18 => ?_)
          refine z_goto (tgt := 119) dX12_draw_157 (by decide) ?_
          exact z_sub [2, 3, 4, 5, 6, 7, 8, 1, 0] rfl (ih _ _ _ _ _ _ _ _ _)
set_option maxHeartbeats 4000000 in
set_option maxRecDepth 100000 in
theorem w_X12_draw_18 : ∀ (f : Nat) (x1 : Int32) (x2 : Int32) (x3 : Int32) (h : AHp), WO tvI QX12_draw 6 18 [(0, .ref 70), (1, .int x1), (2, .int x2), (3, .int x3)] [] h (m_X12_draw_18 f x1 x2 x3 h) := by
  intro f
  induction f with
  | zero => intro x1 x2 x3 h; exact z_none
  | succ f ih =>
    intro x1 x2 x3 h
    rw [m_X12_draw_18]
    refine z_iload_n dX12_draw_18 3 rfl ?_
    refine z_iload_n dX12_draw_19 1 rfl ?_
    refine z_ic_ge (tgt := 179) dX12_draw_20 (by decide) ?_ ?_
    · refine z_iload_n dX12_draw_179 2 rfl ?_
      exact z_iret dX12_draw_180 rfl
    · refine z_aload_n dX12_draw_23 0 rfl ?_
      refine z_sipush (v := 25173) dX12_draw_24 (by decide) ?_
      refine z_aload_n dX12_draw_27 0 rfl ?_
      refine z_getI fX12_13 kc_70 rfl dX12_draw_28 ?_
      refine z_imul dX12_draw_31 ?_
      refine z_sipush (v := 13849) dX12_draw_32 (by decide) ?_
      refine z_iadd dX12_draw_35 ?_
      refine z_ldcw dX12_draw_36 kX12_500 ?_
      refine z_irem dX12_draw_39 (by decide) ?_
      refine z_putI fX12_13 kc_70 rfl dX12_draw_40 ?_
      refine z_lh (fun h19 => ?_)
      refine z_aload_n dX12_draw_43 0 rfl ?_
      refine z_getI fX12_13 kc_70 rfl dX12_draw_44 ?_
      refine z_bipush (v := 6) dX12_draw_47 (by decide) ?_
      refine z_irem dX12_draw_49 (by decide) ?_
      refine z_istoreL (lv2 := fun v20 => [(4, .int v20), (0, .ref 70), (1, .int x1), (2, .int x2), (3, .int x3)]) dX12_draw_50 (Nat.le_of_ble_eq_true rfl) (fun _ => rfl) (fun v20 => ?_)
      refine z_aload_n dX12_draw_52 1 rfl ?_
      refine z_getI fX12_13 kc_70 rfl dX12_draw_53 ?_
      refine z_bipush (v := 6) dX12_draw_56 (by decide) ?_
      refine z_idiv dX12_draw_58 (by decide) ?_
      refine z_bipush (v := 12) dX12_draw_59 (by decide) ?_
      refine z_irem dX12_draw_61 (by decide) ?_
      refine z_istoreL (lv2 := fun v21 => [(5, .int v21), (4, .int v20), (0, .ref 70), (1, .int x1), (2, .int x2), (3, .int x3)]) dX12_draw_62 (Nat.le_of_ble_eq_true rfl) (fun _ => rfl) (fun v21 => ?_)
      refine z_aload_n dX12_draw_64 2 rfl ?_
      refine z_aload_n dX12_draw_65 2 rfl ?_
      refine z_getI fX12_386 kc_70 rfl dX12_draw_66 ?_
      refine z_callVV dX12_draw_69 (M_X12_standsAt _ _) bX12_standsAt lX12_389 kc_70 rfl rfl (Nat.le_of_ble_eq_true rfl) (Nat.le_of_ble_eq_true rfl) (fun r22 h23 => ?_)
      refine z_aload_n dX12_draw_72 2 rfl ?_
      refine z_iconst (v := 1) dX12_draw_73 (by decide) ?_
      refine z_iload dX12_draw_74 1 rfl ?_
      refine z_iload dX12_draw_76 0 rfl ?_
      refine z_callVI dX12_draw_78 (M_X12_waysBy _ _ _ _) bX12_waysBy lX12_392 kc_70 rfl rfl (Nat.le_of_ble_eq_true rfl) (Nat.le_of_ble_eq_true rfl) (fun r24 h25 => ?_)
      refine z_istore (lv2 := [(6, .int r24), (5, .int v21), (4, .int v20), (0, .ref 70), (1, .int x1), (2, .int x2), (3, .int x3)]) dX12_draw_81 (Nat.le_of_ble_eq_true rfl) rfl ?_
      refine z_iload dX12_draw_83 0 rfl ?_
      refine z_if_eq (tgt := 173) dX12_draw_85 (by decide) ?_ ?_
      · refine z_iincL (lv2 := fun v26 => [(3, .int v26), (6, .int r24), (5, .int v21), (4, .int v20), (0, .ref 70), (1, .int x1), (2, .int x2)]) dX12_draw_173 6 rfl rfl (Nat.le_of_ble_eq_true rfl) (fun _ => rfl) (fun v26 => ?_)
        refine z_goto (tgt := 18) dX12_draw_176 (by decide) ?_
        exact z_sub [4, 5, 6, 0] rfl (ih _ _ _ _)
      · refine z_aload_n dX12_draw_88 3 rfl ?_
        refine z_getI fX12_386 kc_70 rfl dX12_draw_89 ?_
        refine z_sipush (v := 200) dX12_draw_92 (by decide) ?_
        refine z_ic_ne (tgt := 101) dX12_draw_95 (by decide) ?_ ?_
        · refine z_aload_n dX12_draw_101 3 rfl ?_
          refine z_getI fX12_13 kc_70 rfl dX12_draw_102 ?_
          refine z_bipush (v := 72) dX12_draw_105 (by decide) ?_
          refine z_idiv dX12_draw_107 (by decide) ?_
          refine z_iload dX12_draw_108 0 rfl ?_
          refine z_callSI dX12_draw_110 (M_X12_sizeOf _ _) bX12_sizeOf lX12_239 rfl rfl (Nat.le_of_ble_eq_true rfl) (Nat.le_of_ble_eq_true rfl) (fun r27 h28 => ?_)
          refine z_gd (fun g29 => ?_)
          refine z_irem dX12_draw_113 g29 ?_
          refine z_istoreL (lv2 := fun v30 => [(7, .int v30), (6, .int r24), (5, .int v21), (4, .int v20), (0, .ref 70), (1, .int x1), (2, .int x2), (3, .int x3)]) dX12_draw_114 (Nat.le_of_ble_eq_true rfl) (fun _ => rfl) (fun v30 => ?_)
          refine z_iconst (v := 1) dX12_draw_116 (by decide) ?_
          refine z_istore (lv2 := [(8, .int 1), (7, .int v30), (6, .int r24), (5, .int v21), (4, .int v20), (0, .ref 70), (1, .int x1), (2, .int x2), (3, .int x3)]) dX12_draw_117 (Nat.le_of_ble_eq_true rfl) rfl ?_
          exact z_sub [5, 6, 7, 8, 4, 3, 2, 1, 0] rfl (w_X12_draw_119 _ ih FU _ _ _ _ _ _ _ _ _)
        · refine z_goto (tgt := 173) dX12_draw_98 (by decide) ?_
          refine z_iincL (lv2 := fun v31 => [(3, .int v31), (6, .int r24), (5, .int v21), (4, .int v20), (0, .ref 70), (1, .int x1), (2, .int x2)]) dX12_draw_173 6 rfl rfl (Nat.le_of_ble_eq_true rfl) (fun _ => rfl) (fun v31 => ?_)
          refine z_goto (tgt := 18) dX12_draw_176 (by decide) ?_
          exact z_sub [4, 5, 6, 0] rfl (ih _ _ _ _)
set_option maxHeartbeats 4000000 in
set_option maxRecDepth 100000 in
theorem w_X12_draw (x1 : Int32) (h : AHp) : WO tvI QX12_draw 6 0 [(0, .ref 70), (1, .int x1)] [] h (m_X12_draw x1 h) := by
  unfold m_X12_draw
  refine z_iload_n dX12_draw_0 1 rfl ?_
  refine z_i2l dX12_draw_1 ?_
  refine z_lconst (v := 1) dX12_draw_2 (by decide) ?_
  refine z_ldc2 dX12_draw_3 kX12_498 ?_
  refine z_callSI dX12_draw_6 (M_X12_lies _ _ _ _) bX12_lies lX12_181 rfl rfl (Nat.le_of_ble_eq_true rfl) (Nat.le_of_ble_eq_true rfl) (fun r32 h33 => ?_)
  refine z_if_ne (tgt := 14) dX12_draw_9 (by decide) ?_ ?_
  · refine z_iconst (v := 0) dX12_draw_14 (by decide) ?_
    refine z_istore_n (lv2 := [(2, .int 0), (0, .ref 70), (1, .int x1)]) dX12_draw_15 (Nat.le_of_ble_eq_true rfl) rfl ?_
    refine z_iconst (v := 0) dX12_draw_16 (by decide) ?_
    refine z_istore_n (lv2 := [(3, .int 0), (2, .int 0), (0, .ref 70), (1, .int x1)]) dX12_draw_17 (Nat.le_of_ble_eq_true rfl) rfl ?_
    exact z_sub [2, 3, 1, 0] rfl (w_X12_draw_18 FU _ _ _ _)
  · refine z_iconst (v := -1) dX12_draw_12 (by decide) ?_
    exact z_iret dX12_draw_13 rfl
theorem M_X12_draw (x1 : Int32) (h : AHp) : MI QX12_draw 6 [.ref 70, .int x1] h (m_X12_draw x1 h) := MI.of (by decide) rfl rfl (Nat.le_of_ble_eq_true rfl) (w_X12_draw x1 h)
set_option maxHeartbeats 4000000 in
set_option maxRecDepth 100000 in
theorem w_X12_keep_75 : ∀ (f : Nat) (x1 : Int32) (h : AHp), WO tvI QX12_keep 0 75 [(0, .ref 70), (1, .int x1)] [] h (m_X12_keep_75 f x1 h) := by
  intro f
  induction f with
  | zero => intro x1 h; exact z_none
  | succ f ih =>
    intro x1 h
    rw [m_X12_keep_75]
    refine z_iload_n dX12_keep_75 1 rfl ?_
    refine z_bipush (v := 6) dX12_keep_76 (by decide) ?_
    refine z_ic_ge (tgt := 99) dX12_keep_78 (by decide) ?_ ?_
    · refine z_aload_n dX12_keep_99 0 rfl ?_
      refine z_getI fX12_386 kc_70 rfl dX12_keep_100 ?_
      exact z_iret dX12_keep_103 rfl
    · refine z_aload_n dX12_keep_81 0 rfl ?_
      refine z_getR (j := 117) fX12_154 kc_70 rfl rfl rfl (by decide) dX12_keep_82 ?_
      refine z_iload_n dX12_keep_85 1 rfl ?_
      refine z_aload_n dX12_keep_86 0 rfl ?_
      refine z_getR (j := 91) fX12_76 kc_70 rfl rfl rfl (by decide) dX12_keep_87 ?_
      refine z_iload_n dX12_keep_90 1 rfl ?_
      refine z_gd (fun g1 => ?_)
      refine z_iald kc_91 dX12_keep_91 g1 ?_
      refine z_gd (fun g3 => ?_)
      refine z_iast kc_117 dX12_keep_92 g3 ?_
      refine z_lh (fun h2 => ?_)
      refine z_iincL (lv2 := fun v4 => [(1, .int v4), (0, .ref 70)]) dX12_keep_93 1 rfl rfl (Nat.le_of_ble_eq_true rfl) (fun _ => rfl) (fun v4 => ?_)
      refine z_goto (tgt := 75) dX12_keep_96 (by decide) ?_
      exact z_sub [1, 0] rfl (ih _ _)
set_option maxHeartbeats 4000000 in
set_option maxRecDepth 100000 in
theorem w_X12_keep_23 : ∀ (f : Nat) (x1 : Int32) (h : AHp), WO tvI QX12_keep 0 23 [(0, .ref 70), (1, .int x1)] [] h (m_X12_keep_23 f x1 h) := by
  intro f
  induction f with
  | zero => intro x1 h; exact z_none
  | succ f ih =>
    intro x1 h
    rw [m_X12_keep_23]
    refine z_iload_n dX12_keep_23 1 rfl ?_
    refine z_aload_n dX12_keep_24 0 rfl ?_
    refine z_getI fX12_386 kc_70 rfl dX12_keep_25 ?_
    refine z_ic_ge (tgt := 73) dX12_keep_28 (by decide) ?_ ?_
    · refine z_iconst (v := 0) dX12_keep_73 (by decide) ?_
      refine z_istore_n (lv2 := [(1, .int 0), (0, .ref 70)]) dX12_keep_74 (Nat.le_of_ble_eq_true rfl) rfl ?_
      exact z_sub [1, 0] rfl (w_X12_keep_75 FU _ _)
    · refine z_aload_n dX12_keep_31 0 rfl ?_
      refine z_getR (j := 114) fX12_145 kc_70 rfl rfl rfl (by decide) dX12_keep_32 ?_
      refine z_iload_n dX12_keep_35 1 rfl ?_
      refine z_aload_n dX12_keep_36 0 rfl ?_
      refine z_getR (j := 94) fX12_85 kc_70 rfl rfl rfl (by decide) dX12_keep_37 ?_
      refine z_iload_n dX12_keep_40 1 rfl ?_
      refine z_gd (fun g5 => ?_)
      refine z_iald kc_94 dX12_keep_41 g5 ?_
      refine z_gd (fun g7 => ?_)
      refine z_iast kc_114 dX12_keep_42 g7 ?_
      refine z_lh (fun h6 => ?_)
      refine z_aload_n dX12_keep_43 0 rfl ?_
      refine z_getR (j := 115) fX12_148 kc_70 rfl rfl rfl (by decide) dX12_keep_44 ?_
      refine z_iload_n dX12_keep_47 1 rfl ?_
      refine z_aload_n dX12_keep_48 0 rfl ?_
      refine z_getR (j := 95) fX12_88 kc_70 rfl rfl rfl (by decide) dX12_keep_49 ?_
      refine z_iload_n dX12_keep_52 1 rfl ?_
      refine z_gd (fun g8 => ?_)
      refine z_iald kc_95 dX12_keep_53 g8 ?_
      refine z_gd (fun g10 => ?_)
      refine z_iast kc_115 dX12_keep_54 g10 ?_
      refine z_lh (fun h9 => ?_)
      refine z_aload_n dX12_keep_55 0 rfl ?_
      refine z_getR (j := 116) fX12_151 kc_70 rfl rfl rfl (by decide) dX12_keep_56 ?_
      refine z_iload_n dX12_keep_59 1 rfl ?_
      refine z_aload_n dX12_keep_60 0 rfl ?_
      refine z_getR (j := 96) fX12_91 kc_70 rfl rfl rfl (by decide) dX12_keep_61 ?_
      refine z_iload_n dX12_keep_64 1 rfl ?_
      refine z_gd (fun g11 => ?_)
      refine z_iald kc_96 dX12_keep_65 g11 ?_
      refine z_gd (fun g13 => ?_)
      refine z_iast kc_116 dX12_keep_66 g13 ?_
      refine z_lh (fun h12 => ?_)
      refine z_iincL (lv2 := fun v14 => [(1, .int v14), (0, .ref 70)]) dX12_keep_67 1 rfl rfl (Nat.le_of_ble_eq_true rfl) (fun _ => rfl) (fun v14 => ?_)
      refine z_goto (tgt := 23) dX12_keep_70 (by decide) ?_
      exact z_sub [1, 0] rfl (ih _ _)
set_option maxHeartbeats 4000000 in
set_option maxRecDepth 100000 in
theorem w_X12_keep (h : AHp) : WO tvI QX12_keep 0 0 [(0, .ref 70)] [] h (m_X12_keep h) := by
  unfold m_X12_keep
  refine z_aload_n dX12_keep_0 0 rfl ?_
  refine z_iconst (v := 1) dX12_keep_1 (by decide) ?_
  refine z_putZ fX12_501 kc_70 rfl (Or.inr rfl) dX12_keep_2 ?_
  refine z_lh (fun h15 => ?_)
  refine z_aload_n dX12_keep_5 0 rfl ?_
  refine z_aload_n dX12_keep_6 0 rfl ?_
  refine z_getI fX12_386 kc_70 rfl dX12_keep_7 ?_
  refine z_putI fX12_504 kc_70 rfl dX12_keep_10 ?_
  refine z_lh (fun h16 => ?_)
  refine z_aload_n dX12_keep_13 0 rfl ?_
  refine z_aload_n dX12_keep_14 0 rfl ?_
  refine z_getI fX12_13 kc_70 rfl dX12_keep_15 ?_
  refine z_putI fX12_507 kc_70 rfl dX12_keep_18 ?_
  refine z_lh (fun h17 => ?_)
  refine z_iconst (v := 0) dX12_keep_21 (by decide) ?_
  refine z_istore_n (lv2 := [(1, .int 0), (0, .ref 70)]) dX12_keep_22 (Nat.le_of_ble_eq_true rfl) rfl ?_
  exact z_sub [1, 0] rfl (w_X12_keep_23 FU _ _)
theorem M_X12_keep (h : AHp) : MI QX12_keep 0 [.ref 70] h (m_X12_keep h) := MI.of (by decide) rfl rfl (Nat.le_of_ble_eq_true rfl) (w_X12_keep h)
set_option maxHeartbeats 4000000 in
set_option maxRecDepth 100000 in
theorem w_X12_undo_79 : ∀ (f : Nat) (x1 : Int32) (h : AHp), WO tvI QX12_undo 0 79 [(0, .ref 70), (1, .int x1)] [] h (m_X12_undo_79 f x1 h) := by
  intro f
  induction f with
  | zero => intro x1 h; exact z_none
  | succ f ih =>
    intro x1 h
    rw [m_X12_undo_79]
    refine z_iload_n dX12_undo_79 1 rfl ?_
    refine z_bipush (v := 6) dX12_undo_80 (by decide) ?_
    refine z_ic_ge (tgt := 103) dX12_undo_82 (by decide) ?_ ?_
    · refine z_iconst (v := 1) dX12_undo_103 (by decide) ?_
      exact z_zret dX12_undo_104 rfl (Or.inr rfl)
    · refine z_aload_n dX12_undo_85 0 rfl ?_
      refine z_getR (j := 91) fX12_76 kc_70 rfl rfl rfl (by decide) dX12_undo_86 ?_
      refine z_iload_n dX12_undo_89 1 rfl ?_
      refine z_aload_n dX12_undo_90 0 rfl ?_
      refine z_getR (j := 117) fX12_154 kc_70 rfl rfl rfl (by decide) dX12_undo_91 ?_
      refine z_iload_n dX12_undo_94 1 rfl ?_
      refine z_gd (fun g1 => ?_)
      refine z_iald kc_117 dX12_undo_95 g1 ?_
      refine z_gd (fun g3 => ?_)
      refine z_iast kc_91 dX12_undo_96 g3 ?_
      refine z_lh (fun h2 => ?_)
      refine z_iincL (lv2 := fun v4 => [(1, .int v4), (0, .ref 70)]) dX12_undo_97 1 rfl rfl (Nat.le_of_ble_eq_true rfl) (fun _ => rfl) (fun v4 => ?_)
      refine z_goto (tgt := 79) dX12_undo_100 (by decide) ?_
      exact z_sub [1, 0] rfl (ih _ _)
set_option maxHeartbeats 4000000 in
set_option maxRecDepth 100000 in
theorem w_X12_undo_27 : ∀ (f : Nat) (x1 : Int32) (h : AHp), WO tvI QX12_undo 0 27 [(0, .ref 70), (1, .int x1)] [] h (m_X12_undo_27 f x1 h) := by
  intro f
  induction f with
  | zero => intro x1 h; exact z_none
  | succ f ih =>
    intro x1 h
    rw [m_X12_undo_27]
    refine z_iload_n dX12_undo_27 1 rfl ?_
    refine z_aload_n dX12_undo_28 0 rfl ?_
    refine z_getI fX12_386 kc_70 rfl dX12_undo_29 ?_
    refine z_ic_ge (tgt := 77) dX12_undo_32 (by decide) ?_ ?_
    · refine z_iconst (v := 0) dX12_undo_77 (by decide) ?_
      refine z_istore_n (lv2 := [(1, .int 0), (0, .ref 70)]) dX12_undo_78 (Nat.le_of_ble_eq_true rfl) rfl ?_
      exact z_sub [1, 0] rfl (w_X12_undo_79 FU _ _)
    · refine z_aload_n dX12_undo_35 0 rfl ?_
      refine z_getR (j := 94) fX12_85 kc_70 rfl rfl rfl (by decide) dX12_undo_36 ?_
      refine z_iload_n dX12_undo_39 1 rfl ?_
      refine z_aload_n dX12_undo_40 0 rfl ?_
      refine z_getR (j := 114) fX12_145 kc_70 rfl rfl rfl (by decide) dX12_undo_41 ?_
      refine z_iload_n dX12_undo_44 1 rfl ?_
      refine z_gd (fun g5 => ?_)
      refine z_iald kc_114 dX12_undo_45 g5 ?_
      refine z_gd (fun g7 => ?_)
      refine z_iast kc_94 dX12_undo_46 g7 ?_
      refine z_lh (fun h6 => ?_)
      refine z_aload_n dX12_undo_47 0 rfl ?_
      refine z_getR (j := 95) fX12_88 kc_70 rfl rfl rfl (by decide) dX12_undo_48 ?_
      refine z_iload_n dX12_undo_51 1 rfl ?_
      refine z_aload_n dX12_undo_52 0 rfl ?_
      refine z_getR (j := 115) fX12_148 kc_70 rfl rfl rfl (by decide) dX12_undo_53 ?_
      refine z_iload_n dX12_undo_56 1 rfl ?_
      refine z_gd (fun g8 => ?_)
      refine z_iald kc_115 dX12_undo_57 g8 ?_
      refine z_gd (fun g10 => ?_)
      refine z_iast kc_95 dX12_undo_58 g10 ?_
      refine z_lh (fun h9 => ?_)
      refine z_aload_n dX12_undo_59 0 rfl ?_
      refine z_getR (j := 96) fX12_91 kc_70 rfl rfl rfl (by decide) dX12_undo_60 ?_
      refine z_iload_n dX12_undo_63 1 rfl ?_
      refine z_aload_n dX12_undo_64 0 rfl ?_
      refine z_getR (j := 116) fX12_151 kc_70 rfl rfl rfl (by decide) dX12_undo_65 ?_
      refine z_iload_n dX12_undo_68 1 rfl ?_
      refine z_gd (fun g11 => ?_)
      refine z_iald kc_116 dX12_undo_69 g11 ?_
      refine z_gd (fun g13 => ?_)
      refine z_iast kc_96 dX12_undo_70 g13 ?_
      refine z_lh (fun h12 => ?_)
      refine z_iincL (lv2 := fun v14 => [(1, .int v14), (0, .ref 70)]) dX12_undo_71 1 rfl rfl (Nat.le_of_ble_eq_true rfl) (fun _ => rfl) (fun v14 => ?_)
      refine z_goto (tgt := 27) dX12_undo_74 (by decide) ?_
      exact z_sub [1, 0] rfl (ih _ _)
set_option maxHeartbeats 4000000 in
set_option maxRecDepth 100000 in
theorem w_X12_undo (h : AHp) : WO tvI QX12_undo 0 0 [(0, .ref 70)] [] h (m_X12_undo h) := by
  unfold m_X12_undo
  refine z_aload_n dX12_undo_0 0 rfl ?_
  refine z_getI fX12_501 kc_70 rfl dX12_undo_1 ?_
  refine z_if_ne (tgt := 9) dX12_undo_4 (by decide) ?_ ?_
  · refine z_aload_n dX12_undo_9 0 rfl ?_
    refine z_aload_n dX12_undo_10 0 rfl ?_
    refine z_getI fX12_504 kc_70 rfl dX12_undo_11 ?_
    refine z_putI fX12_386 kc_70 rfl dX12_undo_14 ?_
    refine z_lh (fun h15 => ?_)
    refine z_aload_n dX12_undo_17 0 rfl ?_
    refine z_aload_n dX12_undo_18 0 rfl ?_
    refine z_getI fX12_507 kc_70 rfl dX12_undo_19 ?_
    refine z_putI fX12_13 kc_70 rfl dX12_undo_22 ?_
    refine z_lh (fun h16 => ?_)
    refine z_iconst (v := 0) dX12_undo_25 (by decide) ?_
    refine z_istore_n (lv2 := [(1, .int 0), (0, .ref 70)]) dX12_undo_26 (Nat.le_of_ble_eq_true rfl) rfl ?_
    exact z_sub [1, 0] rfl (w_X12_undo_27 FU _ _)
  · refine z_iconst (v := 0) dX12_undo_7 (by decide) ?_
    exact z_zret dX12_undo_8 rfl (Or.inl rfl)
theorem M_X12_undo (h : AHp) : MI QX12_undo 0 [.ref 70] h (m_X12_undo h) := MI.of (by decide) rfl rfl (Nat.le_of_ble_eq_true rfl) (w_X12_undo h)
set_option maxHeartbeats 4000000 in
set_option maxRecDepth 100000 in
theorem w_X12_numberAt_4 : ∀ (f : Nat) (x1 : Int32) (x2 : Int32) (x3 : Int32) (h : AHp), WO tvI QX12_numberAt 0 4 [(0, .ref 70), (1, .int x1), (2, .int x2), (3, .int x3)] [] h (m_X12_numberAt_4 f x1 x2 x3 h) := by
  intro f
  induction f with
  | zero => intro x1 x2 x3 h; exact z_none
  | succ f ih =>
    intro x1 x2 x3 h
    rw [m_X12_numberAt_4]
    refine z_iload_n dX12_numberAt_4 3 rfl ?_
    refine z_iconst (v := 4) dX12_numberAt_5 (by decide) ?_
    refine z_ic_ge (tgt := 35) dX12_numberAt_6 (by decide) ?_ ?_
    · refine z_iload_n dX12_numberAt_35 2 rfl ?_
      exact z_iret dX12_numberAt_36 rfl
    · refine z_iload_n dX12_numberAt_9 2 rfl ?_
      refine z_bipush (v := 8) dX12_numberAt_10 (by decide) ?_
      refine z_ishl dX12_numberAt_12 ?_
      refine z_aload_n dX12_numberAt_13 0 rfl ?_
      refine z_getR (j := 71) fX12_7 kc_70 rfl rfl rfl (by decide) dX12_numberAt_14 ?_
      refine z_iconst (v := 4) dX12_numberAt_17 (by decide) ?_
      refine z_iload_n dX12_numberAt_18 1 rfl ?_
      refine z_imul dX12_numberAt_19 ?_
      refine z_iload_n dX12_numberAt_20 3 rfl ?_
      refine z_iadd dX12_numberAt_21 ?_
      refine z_gd (fun g1 => ?_)
      refine z_bald kc_71 dX12_numberAt_22 g1 ?_
      refine z_sipush (v := 255) dX12_numberAt_23 (by decide) ?_
      refine z_iand dX12_numberAt_26 ?_
      refine z_ior dX12_numberAt_27 ?_
      refine z_istore_nL (lv2 := fun v2 => [(2, .int v2), (0, .ref 70), (1, .int x1), (3, .int x3)]) dX12_numberAt_28 (Nat.le_of_ble_eq_true rfl) (fun _ => rfl) (fun v2 => ?_)
      refine z_iincL (lv2 := fun v3 => [(3, .int v3), (2, .int v2), (0, .ref 70), (1, .int x1)]) dX12_numberAt_29 3 rfl rfl (Nat.le_of_ble_eq_true rfl) (fun _ => rfl) (fun v3 => ?_)
      refine z_goto (tgt := 4) dX12_numberAt_32 (by decide) ?_
      exact z_sub [2, 3, 1, 0] rfl (ih _ _ _ _)
set_option maxHeartbeats 4000000 in
set_option maxRecDepth 100000 in
theorem w_X12_numberAt (x1 : Int32) (h : AHp) : WO tvI QX12_numberAt 0 0 [(0, .ref 70), (1, .int x1)] [] h (m_X12_numberAt x1 h) := by
  unfold m_X12_numberAt
  refine z_iconst (v := 0) dX12_numberAt_0 (by decide) ?_
  refine z_istore_n (lv2 := [(2, .int 0), (0, .ref 70), (1, .int x1)]) dX12_numberAt_1 (Nat.le_of_ble_eq_true rfl) rfl ?_
  refine z_iconst (v := 0) dX12_numberAt_2 (by decide) ?_
  refine z_istore_n (lv2 := [(3, .int 0), (2, .int 0), (0, .ref 70), (1, .int x1)]) dX12_numberAt_3 (Nat.le_of_ble_eq_true rfl) rfl ?_
  exact z_sub [2, 3, 1, 0] rfl (w_X12_numberAt_4 FU _ _ _ _)
theorem M_X12_numberAt (x1 : Int32) (h : AHp) : MI QX12_numberAt 0 [.ref 70, .int x1] h (m_X12_numberAt x1 h) := MI.of (by decide) rfl rfl (Nat.le_of_ble_eq_true rfl) (w_X12_numberAt x1 h)
set_option maxHeartbeats 4000000 in
set_option maxRecDepth 100000 in
theorem w_X12_check_40 : ∀ (f : Nat) (x1 : Int32) (x2 : Int32) (h : AHp), WO tvI QX12_check 1 40 [(0, .ref 70), (1, .int x1), (2, .int x2)] [] h (m_X12_check_40 f x1 x2 h) := by
  intro f
  induction f with
  | zero => intro x1 x2 h; exact z_none
  | succ f ih =>
    intro x1 x2 h
    rw [m_X12_check_40]
    refine z_iload_n dX12_check_40 2 rfl ?_
    refine z_iload_n dX12_check_41 1 rfl ?_
    refine z_ic_ge (tgt := 74) dX12_check_42 (by decide) ?_ ?_
    · refine z_iconst (v := -1) dX12_check_74 (by decide) ?_
      exact z_iret dX12_check_75 rfl
    · refine z_aload_n dX12_check_45 0 rfl ?_
      refine z_iload_n dX12_check_46 2 rfl ?_
      refine z_callVI dX12_check_47 (M_X12_numberAt _ _) bX12_numberAt lX12_510 kc_70 rfl rfl (Nat.le_of_ble_eq_true rfl) (Nat.le_of_ble_eq_true rfl) (fun r1 h2 => ?_)
      refine z_aload_n dX12_check_50 0 rfl ?_
      refine z_getR (j := 96) fX12_91 kc_70 rfl rfl rfl (by decide) dX12_check_51 ?_
      refine z_aload_n dX12_check_54 0 rfl ?_
      refine z_getI fX12_386 kc_70 rfl dX12_check_55 ?_
      refine z_iload_n dX12_check_58 1 rfl ?_
      refine z_isub dX12_check_59 ?_
      refine z_iload_n dX12_check_60 2 rfl ?_
      refine z_iadd dX12_check_61 ?_
      refine z_gd (fun g3 => ?_)
      refine z_iald kc_96 dX12_check_62 g3 ?_
      refine z_ic_eq (tgt := 68) dX12_check_63 (by decide) ?_ ?_
      · refine z_iincL (lv2 := fun v4 => [(2, .int v4), (0, .ref 70), (1, .int x1)]) dX12_check_68 2 rfl rfl (Nat.le_of_ble_eq_true rfl) (fun _ => rfl) (fun v4 => ?_)
        refine z_goto (tgt := 40) dX12_check_71 (by decide) ?_
        exact z_sub [1, 2, 0] rfl (ih _ _ _)
      · refine z_iload_n dX12_check_66 2 rfl ?_
        exact z_iret dX12_check_67 rfl
set_option maxHeartbeats 4000000 in
set_option maxRecDepth 100000 in
theorem w_X12_check (x1 : Int32) (h : AHp) : WO tvI QX12_check 1 0 [(0, .ref 70), (1, .int x1)] [] h (m_X12_check x1 h) := by
  unfold m_X12_check
  refine z_iload_n dX12_check_0 1 rfl ?_
  refine z_i2l dX12_check_1 ?_
  refine z_lconst (v := 0) dX12_check_2 (by decide) ?_
  refine z_ldc2 dX12_check_3 kX12_498 ?_
  refine z_callSI dX12_check_6 (M_X12_lies _ _ _ _) bX12_lies lX12_181 rfl rfl (Nat.le_of_ble_eq_true rfl) (Nat.le_of_ble_eq_true rfl) (fun r5 h6 => ?_)
  refine z_if_eq (tgt := 30) dX12_check_9 (by decide) ?_ ?_
  · refine z_bipush (v := -2) dX12_check_30 (by decide) ?_
    exact z_iret dX12_check_32 rfl
  · refine z_iload_n dX12_check_12 1 rfl ?_
    refine z_aload_n dX12_check_13 0 rfl ?_
    refine z_getI fX12_386 kc_70 rfl dX12_check_14 ?_
    refine z_ic_gt (tgt := 30) dX12_check_17 (by decide) ?_ ?_
    · refine z_bipush (v := -2) dX12_check_30 (by decide) ?_
      exact z_iret dX12_check_32 rfl
    · refine z_iload_n dX12_check_20 1 rfl ?_
      refine z_aload_n dX12_check_21 0 rfl ?_
      refine z_getI fX12_157 kc_70 rfl dX12_check_22 ?_
      refine z_iconst (v := 4) dX12_check_25 (by decide) ?_
      refine z_idiv dX12_check_26 (by decide) ?_
      refine z_ic_le (tgt := 33) dX12_check_27 (by decide) ?_ ?_
      · refine z_aload_n dX12_check_33 0 rfl ?_
        refine z_iconst (v := 0) dX12_check_34 (by decide) ?_
        refine z_putI fX12_157 kc_70 rfl dX12_check_35 ?_
        refine z_lh (fun h7 => ?_)
        refine z_iconst (v := 0) dX12_check_38 (by decide) ?_
        refine z_istore_n (lv2 := [(2, .int 0), (0, .ref 70), (1, .int x1)]) dX12_check_39 (Nat.le_of_ble_eq_true rfl) rfl ?_
        exact z_sub [1, 2, 0] rfl (w_X12_check_40 FU _ _ _)
      · refine z_bipush (v := -2) dX12_check_30 (by decide) ?_
        exact z_iret dX12_check_32 rfl
theorem M_X12_check (x1 : Int32) (h : AHp) : MI QX12_check 1 [.ref 70, .int x1] h (m_X12_check x1 h) := MI.of (by decide) rfl rfl (Nat.le_of_ble_eq_true rfl) (w_X12_check x1 h)
set_option maxHeartbeats 4000000 in
set_option maxRecDepth 100000 in
theorem w_X12_allWords_4 : ∀ (f : Nat) (x1 : Int32) (x2 : Int32) (h : AHp), WO tvI QX12_allWords 0 4 [(0, .ref 70), (1, .int x1), (2, .int x2)] [] h (m_X12_allWords_4 f x1 x2 h) := by
  intro f
  induction f with
  | zero => intro x1 x2 h; exact z_none
  | succ f ih =>
    intro x1 x2 h
    rw [m_X12_allWords_4]
    refine z_iload_n dX12_allWords_4 2 rfl ?_
    refine z_aload_n dX12_allWords_5 0 rfl ?_
    refine z_getI fX12_386 kc_70 rfl dX12_allWords_6 ?_
    refine z_ic_ge (tgt := 27) dX12_allWords_9 (by decide) ?_ ?_
    · refine z_iload_n dX12_allWords_27 1 rfl ?_
      exact z_iret dX12_allWords_28 rfl
    · refine z_iload_n dX12_allWords_12 1 rfl ?_
      refine z_aload_n dX12_allWords_13 0 rfl ?_
      refine z_getR (j := 96) fX12_91 kc_70 rfl rfl rfl (by decide) dX12_allWords_14 ?_
      refine z_iload_n dX12_allWords_17 2 rfl ?_
      refine z_gd (fun g1 => ?_)
      refine z_iald kc_96 dX12_allWords_18 g1 ?_
      refine z_iadd dX12_allWords_19 ?_
      refine z_istore_nL (lv2 := fun v2 => [(1, .int v2), (0, .ref 70), (2, .int x2)]) dX12_allWords_20 (Nat.le_of_ble_eq_true rfl) (fun _ => rfl) (fun v2 => ?_)
      refine z_iincL (lv2 := fun v3 => [(2, .int v3), (1, .int v2), (0, .ref 70)]) dX12_allWords_21 2 rfl rfl (Nat.le_of_ble_eq_true rfl) (fun _ => rfl) (fun v3 => ?_)
      refine z_goto (tgt := 4) dX12_allWords_24 (by decide) ?_
      exact z_sub [2, 1, 0] rfl (ih _ _ _)
set_option maxHeartbeats 4000000 in
set_option maxRecDepth 100000 in
theorem w_X12_allWords (h : AHp) : WO tvI QX12_allWords 0 0 [(0, .ref 70)] [] h (m_X12_allWords h) := by
  unfold m_X12_allWords
  refine z_iconst (v := 0) dX12_allWords_0 (by decide) ?_
  refine z_istore_n (lv2 := [(1, .int 0), (0, .ref 70)]) dX12_allWords_1 (Nat.le_of_ble_eq_true rfl) rfl ?_
  refine z_iconst (v := 0) dX12_allWords_2 (by decide) ?_
  refine z_istore_n (lv2 := [(2, .int 0), (1, .int 0), (0, .ref 70)]) dX12_allWords_3 (Nat.le_of_ble_eq_true rfl) rfl ?_
  exact z_sub [2, 1, 0] rfl (w_X12_allWords_4 FU _ _ _)
theorem M_X12_allWords (h : AHp) : MI QX12_allWords 0 [.ref 70] h (m_X12_allWords h) := MI.of (by decide) rfl rfl (Nat.le_of_ble_eq_true rfl) (w_X12_allWords h)
set_option maxHeartbeats 4000000 in
set_option maxRecDepth 100000 in
theorem w_X12_saidBy_4 : ∀ (f : Nat) (x1 : Int32) (x2 : Int32) (x3 : Int32) (h : AHp), WO tvI QX12_saidBy 0 4 [(0, .ref 70), (1, .int x1), (2, .int x2), (3, .int x3)] [] h (m_X12_saidBy_4 f x1 x2 x3 h) := by
  intro f
  induction f with
  | zero => intro x1 x2 x3 h; exact z_none
  | succ f ih =>
    intro x1 x2 x3 h
    rw [m_X12_saidBy_4]
    refine z_iload_n dX12_saidBy_4 3 rfl ?_
    refine z_aload_n dX12_saidBy_5 0 rfl ?_
    refine z_getI fX12_386 kc_70 rfl dX12_saidBy_6 ?_
    refine z_ic_ge (tgt := 36) dX12_saidBy_9 (by decide) ?_ ?_
    · refine z_iload_n dX12_saidBy_36 2 rfl ?_
      exact z_iret dX12_saidBy_37 rfl
    · refine z_iload_n dX12_saidBy_12 2 rfl ?_
      refine z_aload_n dX12_saidBy_13 0 rfl ?_
      refine z_getR (j := 94) fX12_85 kc_70 rfl rfl rfl (by decide) dX12_saidBy_14 ?_
      refine z_iload_n dX12_saidBy_17 3 rfl ?_
      refine z_gd (fun g1 => ?_)
      refine z_iald kc_94 dX12_saidBy_18 g1 ?_
      refine z_iload_n dX12_saidBy_19 1 rfl ?_
      refine z_ic_ne (tgt := 27) dX12_saidBy_20 (by decide) ?_ ?_
      · refine z_iconst (v := 0) dX12_saidBy_27 (by decide) ?_
        refine z_iadd dX12_saidBy_28 ?_
        refine z_istore_nL (lv2 := fun v2 => [(2, .int v2), (0, .ref 70), (1, .int x1), (3, .int x3)]) dX12_saidBy_29 (Nat.le_of_ble_eq_true rfl) (fun _ => rfl) (fun v2 => ?_)
        refine z_iincL (lv2 := fun v3 => [(3, .int v3), (2, .int v2), (0, .ref 70), (1, .int x1)]) dX12_saidBy_30 3 rfl rfl (Nat.le_of_ble_eq_true rfl) (fun _ => rfl) (fun v3 => ?_)
        refine z_goto (tgt := 4) dX12_saidBy_33 (by decide) ?_
        exact z_sub [2, 3, 1, 0] rfl (ih _ _ _ _)
      · refine z_iconst (v := 1) dX12_saidBy_23 (by decide) ?_
        refine z_goto (tgt := 28) dX12_saidBy_24 (by decide) ?_
        refine z_iadd dX12_saidBy_28 ?_
        refine z_istore_nL (lv2 := fun v4 => [(2, .int v4), (0, .ref 70), (1, .int x1), (3, .int x3)]) dX12_saidBy_29 (Nat.le_of_ble_eq_true rfl) (fun _ => rfl) (fun v4 => ?_)
        refine z_iincL (lv2 := fun v5 => [(3, .int v5), (2, .int v4), (0, .ref 70), (1, .int x1)]) dX12_saidBy_30 3 rfl rfl (Nat.le_of_ble_eq_true rfl) (fun _ => rfl) (fun v5 => ?_)
        refine z_goto (tgt := 4) dX12_saidBy_33 (by decide) ?_
        exact z_sub [2, 3, 1, 0] rfl (ih _ _ _ _)
set_option maxHeartbeats 4000000 in
set_option maxRecDepth 100000 in
theorem w_X12_saidBy (x1 : Int32) (h : AHp) : WO tvI QX12_saidBy 0 0 [(0, .ref 70), (1, .int x1)] [] h (m_X12_saidBy x1 h) := by
  unfold m_X12_saidBy
  refine z_iconst (v := 0) dX12_saidBy_0 (by decide) ?_
  refine z_istore_n (lv2 := [(2, .int 0), (0, .ref 70), (1, .int x1)]) dX12_saidBy_1 (Nat.le_of_ble_eq_true rfl) rfl ?_
  refine z_iconst (v := 0) dX12_saidBy_2 (by decide) ?_
  refine z_istore_n (lv2 := [(3, .int 0), (2, .int 0), (0, .ref 70), (1, .int x1)]) dX12_saidBy_3 (Nat.le_of_ble_eq_true rfl) rfl ?_
  exact z_sub [2, 3, 1, 0] rfl (w_X12_saidBy_4 FU _ _ _ _)
theorem M_X12_saidBy (x1 : Int32) (h : AHp) : MI QX12_saidBy 0 [.ref 70, .int x1] h (m_X12_saidBy x1 h) := MI.of (by decide) rfl rfl (Nat.le_of_ble_eq_true rfl) (w_X12_saidBy x1 h)
set_option maxHeartbeats 4000000 in
set_option maxRecDepth 100000 in
theorem w_X12_thingsThere_4 : ∀ (f : Nat) (x1 : Int32) (x2 : Int32) (h : AHp), WO tvI QX12_thingsThere 0 4 [(0, .ref 70), (1, .int x1), (2, .int x2)] [] h (m_X12_thingsThere_4 f x1 x2 h) := by
  intro f
  induction f with
  | zero => intro x1 x2 h; exact z_none
  | succ f ih =>
    intro x1 x2 h
    rw [m_X12_thingsThere_4]
    refine z_iload_n dX12_thingsThere_4 2 rfl ?_
    refine z_bipush (v := 12) dX12_thingsThere_5 (by decide) ?_
    refine z_ic_ge (tgt := 35) dX12_thingsThere_7 (by decide) ?_ ?_
    · refine z_iload_n dX12_thingsThere_35 1 rfl ?_
      exact z_iret dX12_thingsThere_36 rfl
    · refine z_iload_n dX12_thingsThere_10 1 rfl ?_
      refine z_aload_n dX12_thingsThere_11 0 rfl ?_
      refine z_getR (j := 72) fX12_17 kc_70 rfl rfl rfl (by decide) dX12_thingsThere_12 ?_
      refine z_iload_n dX12_thingsThere_15 2 rfl ?_
      refine z_gd (fun g1 => ?_)
      refine z_iald kc_72 dX12_thingsThere_16 g1 ?_
      refine z_if_eq (tgt := 26) dX12_thingsThere_17 (by decide) ?_ ?_
      · refine z_iconst (v := 0) dX12_thingsThere_26 (by decide) ?_
        refine z_ior dX12_thingsThere_27 ?_
        refine z_istore_nL (lv2 := fun v2 => [(1, .int v2), (0, .ref 70), (2, .int x2)]) dX12_thingsThere_28 (Nat.le_of_ble_eq_true rfl) (fun _ => rfl) (fun v2 => ?_)
        refine z_iincL (lv2 := fun v3 => [(2, .int v3), (1, .int v2), (0, .ref 70)]) dX12_thingsThere_29 2 rfl rfl (Nat.le_of_ble_eq_true rfl) (fun _ => rfl) (fun v3 => ?_)
        refine z_goto (tgt := 4) dX12_thingsThere_32 (by decide) ?_
        exact z_sub [2, 1, 0] rfl (ih _ _ _)
      · refine z_iconst (v := 1) dX12_thingsThere_20 (by decide) ?_
        refine z_iload_n dX12_thingsThere_21 2 rfl ?_
        refine z_ishl dX12_thingsThere_22 ?_
        refine z_goto (tgt := 27) dX12_thingsThere_23 (by decide) ?_
        refine z_ior dX12_thingsThere_27 ?_
        refine z_istore_nL (lv2 := fun v4 => [(1, .int v4), (0, .ref 70), (2, .int x2)]) dX12_thingsThere_28 (Nat.le_of_ble_eq_true rfl) (fun _ => rfl) (fun v4 => ?_)
        refine z_iincL (lv2 := fun v5 => [(2, .int v5), (1, .int v4), (0, .ref 70)]) dX12_thingsThere_29 2 rfl rfl (Nat.le_of_ble_eq_true rfl) (fun _ => rfl) (fun v5 => ?_)
        refine z_goto (tgt := 4) dX12_thingsThere_32 (by decide) ?_
        exact z_sub [2, 1, 0] rfl (ih _ _ _)
set_option maxHeartbeats 4000000 in
set_option maxRecDepth 100000 in
theorem w_X12_thingsThere (h : AHp) : WO tvI QX12_thingsThere 0 0 [(0, .ref 70)] [] h (m_X12_thingsThere h) := by
  unfold m_X12_thingsThere
  refine z_iconst (v := 0) dX12_thingsThere_0 (by decide) ?_
  refine z_istore_n (lv2 := [(1, .int 0), (0, .ref 70)]) dX12_thingsThere_1 (Nat.le_of_ble_eq_true rfl) rfl ?_
  refine z_iconst (v := 0) dX12_thingsThere_2 (by decide) ?_
  refine z_istore_n (lv2 := [(2, .int 0), (1, .int 0), (0, .ref 70)]) dX12_thingsThere_3 (Nat.le_of_ble_eq_true rfl) rfl ?_
  exact z_sub [2, 1, 0] rfl (w_X12_thingsThere_4 FU _ _ _)
theorem M_X12_thingsThere (h : AHp) : MI QX12_thingsThere 0 [.ref 70] h (m_X12_thingsThere h) := MI.of (by decide) rfl rfl (Nat.le_of_ble_eq_true rfl) (w_X12_thingsThere h)
set_option maxHeartbeats 4000000 in
set_option maxRecDepth 100000 in
theorem w_X12_count (x1 : Int32) (h : AHp) : WO tvI QX12_count 2 0 [(0, .ref 70), (1, .int x1)] [] h (m_X12_count x1 h) := by
  unfold m_X12_count
  refine z_iload_n dX12_count_0 1 rfl ?_
  refine z_bipush (v := 10) dX12_count_1 (by decide) ?_
  refine z_isub dX12_count_3 ?_
  refine z_callSI dX12_count_4 (M_X12_isSpeaker _ _) bX12_isSpeaker lX12_378 rfl rfl (Nat.le_of_ble_eq_true rfl) (Nat.le_of_ble_eq_true rfl) (fun r1 h2 => ?_)
  refine z_if_eq (tgt := 20) dX12_count_7 (by decide) ?_ ?_
  · refine z_iload_n dX12_count_20 1 rfl ?_
    refine z_bipush (v := 20) dX12_count_21 (by decide) ?_
    refine z_isub dX12_count_23 ?_
    refine z_callSI dX12_count_24 (M_X12_isSpeaker _ _) bX12_isSpeaker lX12_378 rfl rfl (Nat.le_of_ble_eq_true rfl) (Nat.le_of_ble_eq_true rfl) (fun r3 h4 => ?_)
    refine z_if_eq (tgt := 39) dX12_count_27 (by decide) ?_ ?_
    · refine z_iload_n dX12_count_39 1 rfl ?_
      refine z_ite (fun c5 => ?_) (fun c5 => ?_)
      · refine z_tin (tgt := 92) (off := 52) dX12_count_40 (by rw [c5]; decide) (by rw [c5]; decide) (by rw [c5]; decide) (by decide) ?_
        refine z_aload_n dX12_count_92 0 rfl ?_
        refine z_getI fX12_386 kc_70 rfl dX12_count_93 ?_
        exact z_iret dX12_count_96 rfl
      · refine z_ite (fun c6 => ?_) (fun c6 => ?_)
        · refine z_tin (tgt := 97) (off := 57) dX12_count_40 (by rw [c6]; decide) (by rw [c6]; decide) (by rw [c6]; decide) (by decide) ?_
          refine z_aload_n dX12_count_97 0 rfl ?_
          refine z_callVI dX12_count_98 (M_X12_allWords _) bX12_allWords lX12_516 kc_70 rfl rfl (Nat.le_of_ble_eq_true rfl) (Nat.le_of_ble_eq_true rfl) (fun r7 h8 => ?_)
          exact z_iret dX12_count_101 rfl
        · refine z_ite (fun c9 => ?_) (fun c9 => ?_)
          · refine z_tin (tgt := 102) (off := 62) dX12_count_40 (by rw [c9]; decide) (by rw [c9]; decide) (by rw [c9]; decide) (by decide) ?_
            refine z_aload_n dX12_count_102 0 rfl ?_
            refine z_getR (j := 77) fX12_34 kc_70 rfl rfl rfl (by decide) dX12_count_103 ?_
            refine z_iconst (v := 0) dX12_count_106 (by decide) ?_
            refine z_iald kc_77 dX12_count_107 (by decide) ?_
            exact z_iret dX12_count_108 rfl
          · refine z_ite (fun c10 => ?_) (fun c10 => ?_)
            · refine z_tin (tgt := 109) (off := 69) dX12_count_40 (by rw [c10]; decide) (by rw [c10]; decide) (by rw [c10]; decide) (by decide) ?_
              refine z_aload_n dX12_count_109 0 rfl ?_
              refine z_getR (j := 77) fX12_34 kc_70 rfl rfl rfl (by decide) dX12_count_110 ?_
              refine z_iconst (v := 1) dX12_count_113 (by decide) ?_
              refine z_iald kc_77 dX12_count_114 (by decide) ?_
              exact z_iret dX12_count_115 rfl
            · refine z_ite (fun c11 => ?_) (fun c11 => ?_)
              · refine z_tin (tgt := 116) (off := 76) dX12_count_40 (by rw [c11]; decide) (by rw [c11]; decide) (by rw [c11]; decide) (by decide) ?_
                refine z_aload_n dX12_count_116 0 rfl ?_
                refine z_getI fX12_157 kc_70 rfl dX12_count_117 ?_
                exact z_iret dX12_count_120 rfl
              · refine z_ite (fun c12 => ?_) (fun c12 => ?_)
                · refine z_tin (tgt := 121) (off := 81) dX12_count_40 (by rw [c12]; decide) (by rw [c12]; decide) (by rw [c12]; decide) (by decide) ?_
                  refine z_aload_n dX12_count_121 0 rfl ?_
                  refine z_getI fX12_13 kc_70 rfl dX12_count_122 ?_
                  exact z_iret dX12_count_125 rfl
                · refine z_ite (fun c13 => ?_) (fun c13 => ?_)
                  · refine z_tin (tgt := 126) (off := 86) dX12_count_40 (by rw [c13]; decide) (by rw [c13]; decide) (by rw [c13]; decide) (by decide) ?_
                    refine z_aload_n dX12_count_126 0 rfl ?_
                    refine z_callVI dX12_count_127 (M_X12_thingsThere _) bX12_thingsThere lX12_519 kc_70 rfl rfl (Nat.le_of_ble_eq_true rfl) (Nat.le_of_ble_eq_true rfl) (fun r14 h15 => ?_)
                    exact z_iret dX12_count_130 rfl
                  · refine z_ite (fun c16 => ?_) (fun c16 => ?_)
                    · refine z_tin (tgt := 131) (off := 91) dX12_count_40 (by rw [c16]; decide) (by rw [c16]; decide) (by rw [c16]; decide) (by decide) ?_
                      refine z_aload_n dX12_count_131 0 rfl ?_
                      refine z_aload_n dX12_count_132 0 rfl ?_
                      refine z_getI fX12_386 kc_70 rfl dX12_count_133 ?_
                      refine z_iconst (v := 1) dX12_count_136 (by decide) ?_
                      refine z_isub dX12_count_137 ?_
                      refine z_callVI dX12_count_138 (M_X12_lengthAt _ _) bX12_lengthAt lX12_366 kc_70 rfl rfl (Nat.le_of_ble_eq_true rfl) (Nat.le_of_ble_eq_true rfl) (fun r17 h18 => ?_)
                      exact z_iret dX12_count_141 rfl
                    · refine z_ite (fun c19 => ?_) (fun c19 => ?_)
                      · refine z_tin (tgt := 142) (off := 102) dX12_count_40 (by rw [c19]; decide) (by rw [c19]; decide) (by rw [c19]; decide) (by decide) ?_
                        refine z_aload_n dX12_count_142 0 rfl ?_
                        refine z_aload_n dX12_count_143 0 rfl ?_
                        refine z_getI fX12_386 kc_70 rfl dX12_count_144 ?_
                        refine z_iconst (v := 2) dX12_count_147 (by decide) ?_
                        refine z_isub dX12_count_148 ?_
                        refine z_callVI dX12_count_149 (M_X12_lengthAt _ _) bX12_lengthAt lX12_366 kc_70 rfl rfl (Nat.le_of_ble_eq_true rfl) (Nat.le_of_ble_eq_true rfl) (fun r20 h21 => ?_)
                        exact z_iret dX12_count_152 rfl
                      · refine z_tout (tgt := 153) dX12_count_40 (by have a0 := n32 (k := 0) c5 rfl; have a1 := n32 (k := 1) c6 rfl; have a2 := n32 (k := 2) c9 rfl; have a3 := n32 (k := 3) c10 rfl; have a4 := n32 (k := 4) c11 rfl; have a5 := n32 (k := 5) c12 rfl; have a6 := n32 (k := 6) c13 rfl; have a7 := n32 (k := 7) c16 rfl; have a8 := n32 (k := 8) c19 rfl; omega) (by decide) ?_
                        refine z_iconst (v := -1) dX12_count_153 (by decide) ?_
                        exact z_iret dX12_count_154 rfl
    · refine z_aload_n dX12_count_30 0 rfl ?_
      refine z_iload_n dX12_count_31 1 rfl ?_
      refine z_bipush (v := 20) dX12_count_32 (by decide) ?_
      refine z_isub dX12_count_34 ?_
      refine z_callVI dX12_count_35 (M_X12_saidBy _ _) bX12_saidBy lX12_513 kc_70 rfl rfl (Nat.le_of_ble_eq_true rfl) (Nat.le_of_ble_eq_true rfl) (fun r22 h23 => ?_)
      exact z_iret dX12_count_38 rfl
  · refine z_aload_n dX12_count_10 0 rfl ?_
    refine z_getR (j := 91) fX12_76 kc_70 rfl rfl rfl (by decide) dX12_count_11 ?_
    refine z_iload_n dX12_count_14 1 rfl ?_
    refine z_bipush (v := 10) dX12_count_15 (by decide) ?_
    refine z_isub dX12_count_17 ?_
    refine z_gd (fun g24 => ?_)
    refine z_iald kc_91 dX12_count_18 g24 ?_
    exact z_iret dX12_count_19 rfl
theorem M_X12_count (x1 : Int32) (h : AHp) : MI QX12_count 2 [.ref 70, .int x1] h (m_X12_count x1 h) := MI.of (by decide) rfl rfl (Nat.le_of_ble_eq_true rfl) (w_X12_count x1 h)
