set_option maxHeartbeats 4000000 in
set_option maxRecDepth 100000 in
theorem w_X10_begin_212 (x4 : Int32) (s1 : Int32) (s2 : Int32) (h : AHp) : WO tvV QX10_begin 2 212 [(0, .ref 63), (4, .int x4)] [.int s2, .int s1, .ref 64] h (m_X10_begin_212 x4 s1 s2 h) := by
  unfold m_X10_begin_212
  refine z_gd (fun g2 => ?_)
  refine z_iast kc_64 dX10_begin_212 g2 ?_
  refine z_lh (fun h1 => ?_)
  refine z_aload_n dX10_begin_213 0 rfl ?_
  refine z_getR (j := 66) fX10_18 kc_63 rfl rfl rfl (by decide) dX10_begin_214 ?_
  refine z_iload dX10_begin_217 1 rfl ?_
  refine z_aload_n dX10_begin_219 0 rfl ?_
  refine z_getR (j := 64) fX10_11 kc_63 rfl rfl rfl (by decide) dX10_begin_220 ?_
  refine z_iload dX10_begin_223 1 rfl ?_
  refine z_gd (fun g3 => ?_)
  refine z_iald kc_64 dX10_begin_225 g3 ?_
  refine z_gd (fun g5 => ?_)
  refine z_iast kc_66 dX10_begin_226 g5 ?_
  refine z_lh (fun h4 => ?_)
  exact z_vret dX10_begin_227 rfl
set_option maxHeartbeats 4000000 in
set_option maxRecDepth 100000 in
theorem w_X10_begin_114 : ∀ (f : Nat) (x4 : Int32) (h : AHp), WO tvV QX10_begin 2 114 [(0, .ref 63), (1, .ref 42), (4, .int x4)] [] h (m_X10_begin_114 f x4 h) := by
  intro f
  induction f with
  | zero => intro x4 h; exact z_none
  | succ f ih =>
    intro x4 h
    rw [m_X10_begin_114]
    refine z_iload dX10_begin_114 2 rfl ?_
    refine z_sipush (v := 175) dX10_begin_116 (by decide) ?_
    refine z_ic_ge (tgt := 144) dX10_begin_119 (by decide) ?_ ?_
    · refine z_aload_n dX10_begin_144 0 rfl ?_
      refine z_aload_n dX10_begin_145 1 rfl ?_
      refine z_aload_n dX10_begin_146 1 rfl ?_
      refine z_getIN fX10_39 kc_42 rfl dX10_begin_147 ?_
      refine z_iconst (v := 1) dX10_begin_150 (by decide) ?_
      refine z_isub dX10_begin_151 ?_
      refine z_callVI dX10_begin_152 (M_X7_speakerAt _ _) bX7_speakerAt lX10_78 kc_42 rfl rfl (Nat.le_of_ble_eq_true rfl) (Nat.le_of_ble_eq_true rfl) (fun r6 h7 => ?_)
      refine z_aload_n dX10_begin_155 1 rfl ?_
      refine z_aload_n dX10_begin_156 1 rfl ?_
      refine z_getIN fX10_39 kc_42 rfl dX10_begin_157 ?_
      refine z_iconst (v := 2) dX10_begin_160 (by decide) ?_
      refine z_isub dX10_begin_161 ?_
      refine z_callVI dX10_begin_162 (M_X7_spanAt _ _) bX7_spanAt lX10_81 kc_42 rfl rfl (Nat.le_of_ble_eq_true rfl) (Nat.le_of_ble_eq_true rfl) (fun r8 h9 => ?_)
      refine z_callVI dX10_begin_165 (M_X10_rowOf _ _ _) bX10_rowOf lX10_84 kc_63 rfl rfl (Nat.le_of_ble_eq_true rfl) (Nat.le_of_ble_eq_true rfl) (fun r10 h11 => ?_)
      refine z_istore (lv2 := [(4, .int r10), (0, .ref 63), (1, .ref 42)]) dX10_begin_168 (Nat.le_of_ble_eq_true rfl) rfl ?_
      refine z_iload dX10_begin_170 0 rfl ?_
      refine z_if_lt (tgt := 227) dX10_begin_172 (by decide) ?_ ?_
      · exact z_vret dX10_begin_227 rfl
      · refine z_iload dX10_begin_175 0 rfl ?_
        refine z_sipush (v := 175) dX10_begin_177 (by decide) ?_
        refine z_ic_ge (tgt := 227) dX10_begin_180 (by decide) ?_ ?_
        · exact z_vret dX10_begin_227 rfl
        · refine z_aload_n dX10_begin_183 1 rfl ?_
          refine z_getR (j := 64) fX10_11 kc_63 rfl rfl rfl (by decide) dX10_begin_184 ?_
          refine z_iload dX10_begin_187 0 rfl ?_
          refine z_aload_n dX10_begin_189 1 rfl ?_
          refine z_getI fX10_66 kc_63 rfl dX10_begin_190 ?_
          refine z_if_eq (tgt := 211) dX10_begin_193 (by decide) ?_ ?_
          · refine z_iconst (v := 1) dX10_begin_211 (by decide) ?_
            exact z_sub [1, 0] rfl (w_X10_begin_212 _ _ _ _)
          · refine z_iconst (v := 1) dX10_begin_196 (by decide) ?_
            refine z_aload_n dX10_begin_197 2 rfl ?_
            refine z_aload_n dX10_begin_198 2 rfl ?_
            refine z_getIN fX10_39 kc_42 rfl dX10_begin_199 ?_
            refine z_iconst (v := 1) dX10_begin_202 (by decide) ?_
            refine z_isub dX10_begin_203 ?_
            refine z_callVI dX10_begin_204 (M_X7_spanAt _ _) bX7_spanAt lX10_81 kc_42 rfl rfl (Nat.le_of_ble_eq_true rfl) (Nat.le_of_ble_eq_true rfl) (fun r12 h13 => ?_)
            refine z_ishl dX10_begin_207 ?_
            refine z_goto (tgt := 212) dX10_begin_208 (by decide) ?_
            exact z_sub [1, 0] rfl (w_X10_begin_212 _ _ _ _)
    · refine z_aload_n dX10_begin_122 0 rfl ?_
      refine z_getR (j := 64) fX10_11 kc_63 rfl rfl rfl (by decide) dX10_begin_123 ?_
      refine z_iload dX10_begin_126 2 rfl ?_
      refine z_iconst (v := 0) dX10_begin_128 (by decide) ?_
      refine z_gd (fun g15 => ?_)
      refine z_iast kc_64 dX10_begin_129 g15 ?_
      refine z_lh (fun h14 => ?_)
      refine z_aload_n dX10_begin_130 0 rfl ?_
      refine z_getR (j := 66) fX10_18 kc_63 rfl rfl rfl (by decide) dX10_begin_131 ?_
      refine z_iload dX10_begin_134 2 rfl ?_
      refine z_iconst (v := 0) dX10_begin_136 (by decide) ?_
      refine z_gd (fun g17 => ?_)
      refine z_iast kc_66 dX10_begin_137 g17 ?_
      refine z_lh (fun h16 => ?_)
      refine z_iincL (lv2 := fun v18 => [(4, .int v18), (0, .ref 63), (1, .ref 42)]) dX10_begin_138 2 rfl rfl (Nat.le_of_ble_eq_true rfl) (fun _ => rfl) (fun v18 => ?_)
      refine z_goto (tgt := 114) dX10_begin_141 (by decide) ?_
      exact z_sub [1, 2, 0] rfl (ih _ _)
set_option maxHeartbeats 4000000 in
set_option maxRecDepth 100000 in
theorem w_X10_begin_91 (x3 : Int32) (s1 : Int32) (h : AHp) : WO tvV QX10_begin 2 91 [(0, .ref 63), (1, .ref 42), (3, .int x3)] [.int s1, .ref 63] h (m_X10_begin_91 x3 s1 h) := by
  unfold m_X10_begin_91
  refine z_gd (fun g20 => ?_)
  refine z_putZ fX10_72 kc_63 rfl g20 dX10_begin_91 ?_
  refine z_lh (fun h19 => ?_)
  refine z_aload_n dX10_begin_94 0 rfl ?_
  refine z_iload_n dX10_begin_95 2 rfl ?_
  refine z_sipush (v := 256) dX10_begin_96 (by decide) ?_
  refine z_iand dX10_begin_99 ?_
  refine z_if_eq (tgt := 107) dX10_begin_100 (by decide) ?_ ?_
  · refine z_iconst (v := 0) dX10_begin_107 (by decide) ?_
    refine z_putZ fX10_75 kc_63 rfl (Or.inl rfl) dX10_begin_108 ?_
    refine z_lh (fun h21 => ?_)
    refine z_iconst (v := 0) dX10_begin_111 (by decide) ?_
    refine z_istore (lv2 := [(4, .int 0), (0, .ref 63), (1, .ref 42), (3, .int x3)]) dX10_begin_112 (Nat.le_of_ble_eq_true rfl) rfl ?_
    exact z_sub [1, 2, 0] rfl (w_X10_begin_114 FU _ _)
  · refine z_iconst (v := 1) dX10_begin_103 (by decide) ?_
    refine z_goto (tgt := 108) dX10_begin_104 (by decide) ?_
    refine z_putZ fX10_75 kc_63 rfl (Or.inr rfl) dX10_begin_108 ?_
    refine z_lh (fun h22 => ?_)
    refine z_iconst (v := 0) dX10_begin_111 (by decide) ?_
    refine z_istore (lv2 := [(4, .int 0), (0, .ref 63), (1, .ref 42), (3, .int x3)]) dX10_begin_112 (Nat.le_of_ble_eq_true rfl) rfl ?_
    exact z_sub [1, 2, 0] rfl (w_X10_begin_114 FU _ _)
set_option maxHeartbeats 4000000 in
set_option maxRecDepth 100000 in
theorem w_X10_begin_74 (x3 : Int32) (s1 : Int32) (h : AHp) : WO tvV QX10_begin 2 74 [(0, .ref 63), (1, .ref 42), (3, .int x3)] [.int s1, .ref 63] h (m_X10_begin_74 x3 s1 h) := by
  unfold m_X10_begin_74
  refine z_gd (fun g24 => ?_)
  refine z_putZ fX10_69 kc_63 rfl g24 dX10_begin_74 ?_
  refine z_lh (fun h23 => ?_)
  refine z_aload_n dX10_begin_77 0 rfl ?_
  refine z_iload_n dX10_begin_78 2 rfl ?_
  refine z_sipush (v := 192) dX10_begin_79 (by decide) ?_
  refine z_iand dX10_begin_82 ?_
  refine z_if_eq (tgt := 90) dX10_begin_83 (by decide) ?_ ?_
  · refine z_iconst (v := 0) dX10_begin_90 (by decide) ?_
    exact w_X10_begin_91 _ _ _
  · refine z_iconst (v := 1) dX10_begin_86 (by decide) ?_
    refine z_goto (tgt := 91) dX10_begin_87 (by decide) ?_
    exact w_X10_begin_91 _ _ _
set_option maxHeartbeats 4000000 in
set_option maxRecDepth 100000 in
theorem w_X10_begin_58 (x3 : Int32) (s1 : Int32) (h : AHp) : WO tvV QX10_begin 2 58 [(0, .ref 63), (1, .ref 42), (3, .int x3)] [.int s1, .ref 63] h (m_X10_begin_58 x3 s1 h) := by
  unfold m_X10_begin_58
  refine z_gd (fun g26 => ?_)
  refine z_putZ fX10_66 kc_63 rfl g26 dX10_begin_58 ?_
  refine z_lh (fun h25 => ?_)
  refine z_aload_n dX10_begin_61 0 rfl ?_
  refine z_iload_n dX10_begin_62 2 rfl ?_
  refine z_bipush (v := 12) dX10_begin_63 (by decide) ?_
  refine z_iand dX10_begin_65 ?_
  refine z_if_eq (tgt := 73) dX10_begin_66 (by decide) ?_ ?_
  · refine z_iconst (v := 0) dX10_begin_73 (by decide) ?_
    exact w_X10_begin_74 _ _ _
  · refine z_iconst (v := 1) dX10_begin_69 (by decide) ?_
    refine z_goto (tgt := 74) dX10_begin_70 (by decide) ?_
    exact w_X10_begin_74 _ _ _
set_option maxHeartbeats 4000000 in
set_option maxRecDepth 100000 in
theorem w_X10_begin_35 (x3 : Int32) (s1 : Int32) (h : AHp) : WO tvV QX10_begin 2 35 [(0, .ref 63), (1, .ref 42), (3, .int x3)] [.int s1, .ref 63] h (m_X10_begin_35 x3 s1 h) := by
  unfold m_X10_begin_35
  refine z_gd (fun g28 => ?_)
  refine z_putZ fX10_62 kc_63 rfl g28 dX10_begin_35 ?_
  refine z_lh (fun h27 => ?_)
  refine z_aload_n dX10_begin_38 0 rfl ?_
  refine z_aload_n dX10_begin_39 0 rfl ?_
  refine z_getI fX10_62 kc_63 rfl dX10_begin_40 ?_
  refine z_if_ne (tgt := 53) dX10_begin_43 (by decide) ?_ ?_
  · refine z_iconst (v := 1) dX10_begin_53 (by decide) ?_
    refine z_goto (tgt := 58) dX10_begin_54 (by decide) ?_
    exact w_X10_begin_58 _ _ _
  · refine z_iload_n dX10_begin_46 2 rfl ?_
    refine z_bipush (v := 16) dX10_begin_47 (by decide) ?_
    refine z_iand dX10_begin_49 ?_
    refine z_if_eq (tgt := 57) dX10_begin_50 (by decide) ?_ ?_
    · refine z_iconst (v := 0) dX10_begin_57 (by decide) ?_
      exact w_X10_begin_58 _ _ _
    · refine z_iconst (v := 1) dX10_begin_53 (by decide) ?_
      refine z_goto (tgt := 58) dX10_begin_54 (by decide) ?_
      exact w_X10_begin_58 _ _ _
set_option maxHeartbeats 4000000 in
set_option maxRecDepth 100000 in
theorem w_X10_begin (x2 : Int32) (h : AHp) : WO tvV QX10_begin 2 0 [(0, .ref 63), (1, .ref 42), (2, .int x2)] [] h (m_X10_begin x2 h) := by
  unfold m_X10_begin
  refine z_aload_n dX10_begin_0 0 rfl ?_
  refine z_getR (j := 3) fX10_21 kc_63 rfl rfl rfl (by decide) dX10_begin_1 ?_
  refine z_iconst (v := 1) dX10_begin_4 (by decide) ?_
  refine z_callVI dX10_begin_5 (M_X9_asks _ _) bX9_asks lX10_51 kc_3 rfl rfl (Nat.le_of_ble_eq_true rfl) (Nat.le_of_ble_eq_true rfl) (fun r29 h30 => ?_)
  refine z_istore_n (lv2 := [(3, .int r29), (0, .ref 63), (1, .ref 42), (2, .int x2)]) dX10_begin_8 (Nat.le_of_ble_eq_true rfl) rfl ?_
  refine z_aload_n dX10_begin_9 1 rfl ?_
  refine z_aload_n dX10_begin_10 1 rfl ?_
  refine z_getR (j := 3) fX10_21 kc_63 rfl rfl rfl (by decide) dX10_begin_11 ?_
  refine z_iload_n dX10_begin_14 3 rfl ?_
  refine z_iload_n dX10_begin_15 0 rfl ?_
  refine z_callVI dX10_begin_16 (M_X9_differing _ _ _) bX9_differing lX10_55 kc_3 rfl rfl (Nat.le_of_ble_eq_true rfl) (Nat.le_of_ble_eq_true rfl) (fun r31 h32 => ?_)
  refine z_putI fX10_59 kc_63 rfl dX10_begin_19 ?_
  refine z_lh (fun h33 => ?_)
  refine z_aload_n dX10_begin_22 1 rfl ?_
  refine z_iload_n dX10_begin_23 0 rfl ?_
  refine z_bipush (v := 32) dX10_begin_24 (by decide) ?_
  refine z_iand dX10_begin_26 ?_
  refine z_if_eq (tgt := 34) dX10_begin_27 (by decide) ?_ ?_
  · refine z_iconst (v := 0) dX10_begin_34 (by decide) ?_
    exact z_sub [1, 2, 0] rfl (w_X10_begin_35 _ _ _)
  · refine z_iconst (v := 1) dX10_begin_30 (by decide) ?_
    refine z_goto (tgt := 35) dX10_begin_31 (by decide) ?_
    exact z_sub [1, 2, 0] rfl (w_X10_begin_35 _ _ _)
theorem M_X10_begin (x2 : Int32) (h : AHp) : MV QX10_begin 2 [.ref 63, .ref 42, .int x2] h (m_X10_begin x2 h) := MV.of (by decide) rfl rfl (Nat.le_of_ble_eq_true rfl) (w_X10_begin x2 h)
set_option maxHeartbeats 4000000 in
set_option maxRecDepth 100000 in
theorem w_X10_answer_34 : ∀ (f : Nat) (x4 : Int32) (h : AHp), WO tvI QX10_answer 6 34 [(0, .ref 63), (1, .ref 42), (4, .int x4)] [] h (m_X10_answer_34 f x4 h) := by
  intro f
  induction f with
  | zero => intro x4 h; exact z_none
  | succ f ih =>
    intro x4 h
    rw [m_X10_answer_34]
    refine z_iload dX10_answer_34 2 rfl ?_
    refine z_iconst (v := 5) dX10_answer_36 (by decide) ?_
    refine z_ic_gt (tgt := 86) dX10_answer_37 (by decide) ?_ ?_
    · refine z_bipush (v := -2) dX10_answer_86 (by decide) ?_
      exact z_iret dX10_answer_88 rfl
    · refine z_aload_n dX10_answer_40 0 rfl ?_
      refine z_aload_n dX10_answer_41 1 rfl ?_
      refine z_getIN fX10_39 kc_42 rfl dX10_answer_42 ?_
      refine z_iload dX10_answer_45 2 rfl ?_
      refine z_iadd dX10_answer_47 ?_
      refine z_callVI dX10_answer_48 (M_X10_somebodyMay _ _) bX10_somebodyMay lX10_44 kc_63 rfl rfl (Nat.le_of_ble_eq_true rfl) (Nat.le_of_ble_eq_true rfl) (fun r1 h2 => ?_)
      refine z_if_eq (tgt := 57) dX10_answer_51 (by decide) ?_ ?_
      · refine z_iload dX10_answer_57 2 rfl ?_
        refine z_iconst (v := 5) dX10_answer_59 (by decide) ?_
        refine z_ic_ge (tgt := 80) dX10_answer_60 (by decide) ?_ ?_
        · refine z_iincL (lv2 := fun v3 => [(4, .int v3), (0, .ref 63), (1, .ref 42)]) dX10_answer_80 2 rfl rfl (Nat.le_of_ble_eq_true rfl) (fun _ => rfl) (fun v3 => ?_)
          refine z_goto (tgt := 34) dX10_answer_83 (by decide) ?_
          exact z_sub [1, 2, 0] rfl (ih _ _)
        · refine z_aload_n dX10_answer_63 0 rfl ?_
          refine z_aload_n dX10_answer_64 1 rfl ?_
          refine z_getIN fX10_39 kc_42 rfl dX10_answer_65 ?_
          refine z_iload dX10_answer_68 2 rfl ?_
          refine z_iadd dX10_answer_70 ?_
          refine z_callVI dX10_answer_71 (M_X10_spread _ _) bX10_spread lX10_48 kc_63 rfl rfl (Nat.le_of_ble_eq_true rfl) (Nat.le_of_ble_eq_true rfl) (fun r4 h5 => ?_)
          refine z_if_ne (tgt := 80) dX10_answer_74 (by decide) ?_ ?_
          · refine z_iincL (lv2 := fun v6 => [(4, .int v6), (0, .ref 63), (1, .ref 42)]) dX10_answer_80 2 rfl rfl (Nat.le_of_ble_eq_true rfl) (fun _ => rfl) (fun v6 => ?_)
            refine z_goto (tgt := 34) dX10_answer_83 (by decide) ?_
            exact z_sub [1, 2, 0] rfl (ih _ _)
          · refine z_bipush (v := -2) dX10_answer_77 (by decide) ?_
            exact z_iret dX10_answer_79 rfl
      · refine z_iload dX10_answer_54 2 rfl ?_
        exact z_iret dX10_answer_56 rfl
set_option maxHeartbeats 4000000 in
set_option maxRecDepth 100000 in
theorem w_X10_answer (x2 : Int32) (x3 : Int32) (h : AHp) : WO tvI QX10_answer 6 0 [(0, .ref 63), (1, .ref 42), (2, .int x2), (3, .int x3)] [] h (m_X10_answer x2 x3 h) := by
  unfold m_X10_answer
  refine z_aload_n dX10_answer_0 0 rfl ?_
  refine z_iconst (v := 1) dX10_answer_1 (by decide) ?_
  refine z_iload_n dX10_answer_2 3 rfl ?_
  refine z_ishl dX10_answer_3 ?_
  refine z_putI fX10_25 kc_63 rfl dX10_answer_4 ?_
  refine z_lh (fun h7 => ?_)
  refine z_aload_n dX10_answer_7 0 rfl ?_
  refine z_getR (j := 3) fX10_21 kc_63 rfl rfl rfl (by decide) dX10_answer_8 ?_
  refine z_callVI dX10_answer_11 (M_X9_allSizes _) bX9_allSizes lX10_29 kc_3 rfl rfl (Nat.le_of_ble_eq_true rfl) (Nat.le_of_ble_eq_true rfl) (fun r8 h9 => ?_)
  refine z_aload_n dX10_answer_14 0 rfl ?_
  refine z_getI fX10_25 kc_63 rfl dX10_answer_15 ?_
  refine z_iand dX10_answer_18 ?_
  refine z_if_ne (tgt := 25) dX10_answer_19 (by decide) ?_ ?_
  · refine z_aload_n dX10_answer_25 0 rfl ?_
    refine z_aload_n dX10_answer_26 1 rfl ?_
    refine z_iload_n dX10_answer_27 2 rfl ?_
    refine z_callVV dX10_answer_28 (M_X10_begin _ _) bX10_begin lX10_35 kc_63 rfl rfl (Nat.le_of_ble_eq_true rfl) (Nat.le_of_ble_eq_true rfl) (fun r10 h11 => ?_)
    refine z_iconst (v := 0) dX10_answer_31 (by decide) ?_
    refine z_istore (lv2 := [(4, .int 0), (0, .ref 63), (1, .ref 42), (2, .int x2), (3, .int x3)]) dX10_answer_32 (Nat.le_of_ble_eq_true rfl) rfl ?_
    exact z_sub [1, 2, 0] rfl (w_X10_answer_34 FU _ _)
  · refine z_bipush (v := -2) dX10_answer_22 (by decide) ?_
    exact z_iret dX10_answer_24 rfl
theorem M_X10_answer (x2 : Int32) (x3 : Int32) (h : AHp) : MI QX10_answer 6 [.ref 63, .ref 42, .int x2, .int x3] h (m_X10_answer x2 x3 h) := MI.of (by decide) rfl rfl (Nat.le_of_ble_eq_true rfl) (w_X10_answer x2 x3 h)
set_option maxHeartbeats 4000000 in
set_option maxRecDepth 100000 in
theorem w_X11_waited (x1 : Int32) (x2 : Int32) (h : AHp) : WO tvI QX11_waited 7 0 [(0, .ref 0), (1, .int x1), (2, .int x2)] [] h (m_X11_waited x1 x2 h) := by
  unfold m_X11_waited
  refine z_iload_n dX11_waited_0 1 rfl ?_
  refine z_iconst (v := 1) dX11_waited_1 (by decide) ?_
  refine z_ic_lt (tgt := 22) dX11_waited_2 (by decide) ?_ ?_
  · refine z_iconst (v := -1) dX11_waited_22 (by decide) ?_
    exact z_iret dX11_waited_23 rfl
  · refine z_iload_n dX11_waited_5 1 rfl ?_
    refine z_bipush (v := 63) dX11_waited_6 (by decide) ?_
    refine z_ic_gt (tgt := 22) dX11_waited_8 (by decide) ?_ ?_
    · refine z_iconst (v := -1) dX11_waited_22 (by decide) ?_
      exact z_iret dX11_waited_23 rfl
    · refine z_iload_n dX11_waited_11 2 rfl ?_
      refine z_iconst (v := 1) dX11_waited_12 (by decide) ?_
      refine z_ic_lt (tgt := 22) dX11_waited_13 (by decide) ?_ ?_
      · refine z_iconst (v := -1) dX11_waited_22 (by decide) ?_
        exact z_iret dX11_waited_23 rfl
      · refine z_iload_n dX11_waited_16 2 rfl ?_
        refine z_bipush (v := 24) dX11_waited_17 (by decide) ?_
        refine z_ic_le (tgt := 24) dX11_waited_19 (by decide) ?_ ?_
        · refine z_aload_n dX11_waited_24 0 rfl ?_
          refine z_getR (j := 63) fX11_77 kc_0 rfl rfl rfl (by decide) dX11_waited_25 ?_
          refine z_aload_n dX11_waited_28 0 rfl ?_
          refine z_getR (j := 42) fX11_38 kc_0 rfl rfl rfl (by decide) dX11_waited_29 ?_
          refine z_iload_n dX11_waited_32 1 rfl ?_
          refine z_iload_n dX11_waited_33 2 rfl ?_
          refine z_callVI dX11_waited_34 (M_X10_answer _ _ _) bX10_answer lX11_226 kc_63 rfl rfl (Nat.le_of_ble_eq_true rfl) (Nat.le_of_ble_eq_true rfl) (fun r1 h2 => ?_)
          exact z_iret dX11_waited_37 rfl
        · refine z_iconst (v := -1) dX11_waited_22 (by decide) ?_
          exact z_iret dX11_waited_23 rfl
theorem M_X11_waited (x1 : Int32) (x2 : Int32) (h : AHp) : MI QX11_waited 7 [.ref 0, .int x1, .int x2] h (m_X11_waited x1 x2 h) := MI.of (by decide) rfl rfl (Nat.le_of_ble_eq_true rfl) (w_X11_waited x1 x2 h)
set_option maxHeartbeats 4000000 in
set_option maxRecDepth 100000 in
theorem w_X5_beginsRound_10 (k2 : Int32 → AHp → Option (Int32 × AHp)) (hk2 : ∀ (x1 : Int32) (h : AHp), WO tvI QX5_beginsRound 50 2 [(0, .ref 67), (1, .int x1)] [] h (k2 x1 h)) : ∀ (f : Nat) (x1 : Int32) (x2 : Int32) (h : AHp), WO tvI QX5_beginsRound 50 10 [(0, .ref 67), (1, .int x1), (2, .int x2)] [] h (m_X5_beginsRound_10 k2 f x1 x2 h) := by
  intro f
  induction f with
  | zero => intro x1 x2 h; exact z_none
  | succ f ih =>
    intro x1 x2 h
    rw [m_X5_beginsRound_10]
    refine z_iload_n dX5_beginsRound_10 2 rfl ?_
    refine z_bipush (v := 25) dX5_beginsRound_11 (by decide) ?_
    refine z_ic_ge (tgt := 68) dX5_beginsRound_13 (by decide) ?_ ?_
    · refine z_iincL (lv2 := fun v1 => [(1, .int v1), (0, .ref 67), (2, .int x2)]) dX5_beginsRound_68 1 rfl rfl (Nat.le_of_ble_eq_true rfl) (fun _ => rfl) (fun v1 => ?_)
      refine z_goto (tgt := 2) dX5_beginsRound_71 (by decide) ?_
      exact z_sub [1, 0] rfl (hk2 _ _)
    · refine z_aload_n dX5_beginsRound_16 0 rfl ?_
      refine z_getR (j := 69) fX5_15 kc_67 rfl rfl rfl (by decide) dX5_beginsRound_17 ?_
      refine z_iload_n dX5_beginsRound_20 1 rfl ?_
      refine z_gd (fun g2 => ?_)
      refine z_iald kc_69 dX5_beginsRound_21 g2 ?_
      refine z_if_eq (tgt := 68) dX5_beginsRound_22 (by decide) ?_ ?_
      · refine z_iincL (lv2 := fun v3 => [(1, .int v3), (0, .ref 67), (2, .int x2)]) dX5_beginsRound_68 1 rfl rfl (Nat.le_of_ble_eq_true rfl) (fun _ => rfl) (fun v3 => ?_)
        refine z_goto (tgt := 2) dX5_beginsRound_71 (by decide) ?_
        exact z_sub [1, 0] rfl (hk2 _ _)
      · refine z_aload_n dX5_beginsRound_25 0 rfl ?_
        refine z_getR (j := 68) fX5_9 kc_67 rfl rfl rfl (by decide) dX5_beginsRound_26 ?_
        refine z_iconst (v := 0) dX5_beginsRound_29 (by decide) ?_
        refine z_iload_n dX5_beginsRound_30 1 rfl ?_
        refine z_iast kc_68 dX5_beginsRound_31 (by decide) ?_
        refine z_lh (fun h4 => ?_)
        refine z_aload_n dX5_beginsRound_32 0 rfl ?_
        refine z_getR (j := 68) fX5_9 kc_67 rfl rfl rfl (by decide) dX5_beginsRound_33 ?_
        refine z_iconst (v := 1) dX5_beginsRound_36 (by decide) ?_
        refine z_iload_n dX5_beginsRound_37 2 rfl ?_
        refine z_iast kc_68 dX5_beginsRound_38 (by decide) ?_
        refine z_lh (fun h5 => ?_)
        refine z_aload_n dX5_beginsRound_39 0 rfl ?_
        refine z_getR (j := 69) fX5_15 kc_67 rfl rfl rfl (by decide) dX5_beginsRound_40 ?_
        refine z_iload_n dX5_beginsRound_43 1 rfl ?_
        refine z_gd (fun g6 => ?_)
        refine z_iald kc_69 dX5_beginsRound_44 g6 ?_
        refine z_iload_n dX5_beginsRound_45 2 rfl ?_
        refine z_ishr dX5_beginsRound_46 ?_
        refine z_iconst (v := 1) dX5_beginsRound_47 (by decide) ?_
        refine z_iand dX5_beginsRound_48 ?_
        refine z_if_eq (tgt := 62) dX5_beginsRound_49 (by decide) ?_ ?_
        · refine z_iincL (lv2 := fun v7 => [(2, .int v7), (0, .ref 67), (1, .int x1)]) dX5_beginsRound_62 2 rfl rfl (Nat.le_of_ble_eq_true rfl) (fun _ => rfl) (fun v7 => ?_)
          refine z_goto (tgt := 10) dX5_beginsRound_65 (by decide) ?_
          exact z_sub [1, 2, 0] rfl (ih _ _ _)
        · refine z_aload_n dX5_beginsRound_52 0 rfl ?_
          refine z_iconst (v := 2) dX5_beginsRound_53 (by decide) ?_
          refine z_callVI dX5_beginsRound_54 (M_X5_goesOn 9 _ _) bX5_goesOn lX5_75 kc_67 rfl rfl (Nat.le_of_ble_eq_true rfl) (Nat.le_of_ble_eq_true rfl) (fun r8 h9 => ?_)
          refine z_if_eq (tgt := 62) dX5_beginsRound_57 (by decide) ?_ ?_
          · refine z_iincL (lv2 := fun v10 => [(2, .int v10), (0, .ref 67), (1, .int x1)]) dX5_beginsRound_62 2 rfl rfl (Nat.le_of_ble_eq_true rfl) (fun _ => rfl) (fun v10 => ?_)
            refine z_goto (tgt := 10) dX5_beginsRound_65 (by decide) ?_
            exact z_sub [1, 2, 0] rfl (ih _ _ _)
          · refine z_iconst (v := 1) dX5_beginsRound_60 (by decide) ?_
            exact z_zret dX5_beginsRound_61 rfl (Or.inr rfl)
set_option maxHeartbeats 4000000 in
set_option maxRecDepth 100000 in
theorem w_X5_beginsRound_2 : ∀ (f : Nat) (x1 : Int32) (h : AHp), WO tvI QX5_beginsRound 50 2 [(0, .ref 67), (1, .int x1)] [] h (m_X5_beginsRound_2 f x1 h) := by
  intro f
  induction f with
  | zero => intro x1 h; exact z_none
  | succ f ih =>
    intro x1 h
    rw [m_X5_beginsRound_2]
    refine z_iload_n dX5_beginsRound_2 1 rfl ?_
    refine z_bipush (v := 25) dX5_beginsRound_3 (by decide) ?_
    refine z_ic_ge (tgt := 74) dX5_beginsRound_5 (by decide) ?_ ?_
    · refine z_iconst (v := 0) dX5_beginsRound_74 (by decide) ?_
      exact z_zret dX5_beginsRound_75 rfl (Or.inl rfl)
    · refine z_iconst (v := 1) dX5_beginsRound_8 (by decide) ?_
      refine z_istore_n (lv2 := [(2, .int 1), (0, .ref 67), (1, .int x1)]) dX5_beginsRound_9 (Nat.le_of_ble_eq_true rfl) rfl ?_
      exact z_sub [1, 2, 0] rfl (w_X5_beginsRound_10 _ ih FU _ _ _)
set_option maxHeartbeats 4000000 in
set_option maxRecDepth 100000 in
theorem w_X5_beginsRound (h : AHp) : WO tvI QX5_beginsRound 50 0 [(0, .ref 67)] [] h (m_X5_beginsRound h) := by
  unfold m_X5_beginsRound
  refine z_iconst (v := 1) dX5_beginsRound_0 (by decide) ?_
  refine z_istore_n (lv2 := [(1, .int 1), (0, .ref 67)]) dX5_beginsRound_1 (Nat.le_of_ble_eq_true rfl) rfl ?_
  exact z_sub [1, 0] rfl (w_X5_beginsRound_2 FU _ _)
theorem M_X5_beginsRound (h : AHp) : MI QX5_beginsRound 50 [.ref 67] h (m_X5_beginsRound h) := MI.of (by decide) rfl rfl (Nat.le_of_ble_eq_true rfl) (w_X5_beginsRound h)
set_option maxHeartbeats 4000000 in
set_option maxRecDepth 100000 in
theorem w_X5_thinOutBehind_147 (x4 : Int32) (x6 : Int32) (s0 : Int32) (s1 : Int32) (h : AHp) : WO tvI QX5_thinOutBehind 4 147 [(0, .ref 67), (4, .int x4), (6, .int x6)] [.int s1, .int s0] h (m_X5_thinOutBehind_147 x4 x6 s0 s1 h) := by
  unfold m_X5_thinOutBehind_147
  refine z_ior dX5_thinOutBehind_147 ?_
  refine z_istoreL (lv2 := fun v1 => [(5, .int v1), (0, .ref 67), (4, .int x4), (6, .int x6)]) dX5_thinOutBehind_148 (Nat.le_of_ble_eq_true rfl) (fun _ => rfl) (fun v1 => ?_)
  refine z_aload_n dX5_thinOutBehind_150 1 rfl ?_
  refine z_getR (j := 69) fX5_15 kc_67 rfl rfl rfl (by decide) dX5_thinOutBehind_151 ?_
  refine z_iload dX5_thinOutBehind_154 2 rfl ?_
  refine z_dup2 dX5_thinOutBehind_156 rfl rfl ?_
  refine z_gd (fun g2 => ?_)
  refine z_iald kc_69 dX5_thinOutBehind_157 g2 ?_
  refine z_iload dX5_thinOutBehind_158 3 rfl ?_
  refine z_iand dX5_thinOutBehind_160 ?_
  refine z_gd (fun g4 => ?_)
  refine z_iast kc_69 dX5_thinOutBehind_161 g4 ?_
  refine z_lh (fun h3 => ?_)
  refine z_iload dX5_thinOutBehind_162 0 rfl ?_
  refine z_gd (fun g5 => ?_)
  exact z_zret dX5_thinOutBehind_164 rfl g5
set_option maxHeartbeats 4000000 in
set_option maxRecDepth 100000 in
theorem w_X5_thinOutBehind_46 : ∀ (f : Nat) (x1 : Int32) (x2 : Int32) (x3 : Int32) (x4 : Int32) (x5 : Int32) (x6 : Int32) (x7 : Int32) (h : AHp), WO tvI QX5_thinOutBehind 4 46 [(0, .ref 67), (1, .int x1), (2, .int x2), (3, .int x3), (4, .int x4), (5, .int x5), (6, .int x6), (7, .int x7)] [] h (m_X5_thinOutBehind_46 f x1 x2 x3 x4 x5 x6 x7 h) := by
  intro f
  induction f with
  | zero => intro x1 x2 x3 x4 x5 x6 x7 h; exact z_none
  | succ f ih =>
    intro x1 x2 x3 x4 x5 x6 x7 h
    rw [m_X5_thinOutBehind_46]
    refine z_iload dX5_thinOutBehind_46 7 rfl ?_
    refine z_bipush (v := 25) dX5_thinOutBehind_48 (by decide) ?_
    refine z_ic_ge (tgt := 125) dX5_thinOutBehind_50 (by decide) ?_ ?_
    · refine z_iload dX5_thinOutBehind_125 5 rfl ?_
      refine z_aload_n dX5_thinOutBehind_127 0 rfl ?_
      refine z_getR (j := 69) fX5_15 kc_67 rfl rfl rfl (by decide) dX5_thinOutBehind_128 ?_
      refine z_iload dX5_thinOutBehind_131 4 rfl ?_
      refine z_gd (fun g6 => ?_)
      refine z_iald kc_69 dX5_thinOutBehind_133 g6 ?_
      refine z_iload dX5_thinOutBehind_134 6 rfl ?_
      refine z_iconst (v := -1) dX5_thinOutBehind_136 (by decide) ?_
      refine z_ixor dX5_thinOutBehind_137 ?_
      refine z_iand dX5_thinOutBehind_138 ?_
      refine z_if_eq (tgt := 146) dX5_thinOutBehind_139 (by decide) ?_ ?_
      · refine z_iconst (v := 0) dX5_thinOutBehind_146 (by decide) ?_
        exact z_sub [0, 4, 6] rfl (w_X5_thinOutBehind_147 _ _ _ _ _)
      · refine z_iconst (v := 1) dX5_thinOutBehind_142 (by decide) ?_
        refine z_goto (tgt := 147) dX5_thinOutBehind_143 (by decide) ?_
        exact z_sub [0, 4, 6] rfl (w_X5_thinOutBehind_147 _ _ _ _ _)
    · refine z_aload_n dX5_thinOutBehind_53 0 rfl ?_
      refine z_getR (j := 69) fX5_15 kc_67 rfl rfl rfl (by decide) dX5_thinOutBehind_54 ?_
      refine z_iload_n dX5_thinOutBehind_57 3 rfl ?_
      refine z_iload dX5_thinOutBehind_58 7 rfl ?_
      refine z_iadd dX5_thinOutBehind_60 ?_
      refine z_gd (fun g7 => ?_)
      refine z_iald kc_69 dX5_thinOutBehind_61 g7 ?_
      refine z_iload_n dX5_thinOutBehind_62 2 rfl ?_
      refine z_ishr dX5_thinOutBehind_63 ?_
      refine z_iconst (v := 1) dX5_thinOutBehind_64 (by decide) ?_
      refine z_iand dX5_thinOutBehind_65 ?_
      refine z_if_eq (tgt := 119) dX5_thinOutBehind_66 (by decide) ?_ ?_
      · refine z_iincL (lv2 := fun v8 => [(7, .int v8), (0, .ref 67), (1, .int x1), (2, .int x2), (3, .int x3), (4, .int x4), (5, .int x5), (6, .int x6)]) dX5_thinOutBehind_119 7 rfl rfl (Nat.le_of_ble_eq_true rfl) (fun _ => rfl) (fun v8 => ?_)
        refine z_goto (tgt := 46) dX5_thinOutBehind_122 (by decide) ?_
        exact z_sub [1, 2, 3, 4, 5, 6, 7, 0] rfl (ih _ _ _ _ _ _ _ _)
      · refine z_aload_n dX5_thinOutBehind_69 0 rfl ?_
        refine z_iload_n dX5_thinOutBehind_70 1 rfl ?_
        refine z_iload_n dX5_thinOutBehind_71 2 rfl ?_
        refine z_iload dX5_thinOutBehind_72 7 rfl ?_
        refine z_callVI dX5_thinOutBehind_74 (M_X5_following _ _ _ _) bX5_following lX5_71 kc_67 rfl rfl (Nat.le_of_ble_eq_true rfl) (Nat.le_of_ble_eq_true rfl) (fun r9 h10 => ?_)
        refine z_aload_n dX5_thinOutBehind_77 0 rfl ?_
        refine z_getR (j := 69) fX5_15 kc_67 rfl rfl rfl (by decide) dX5_thinOutBehind_78 ?_
        refine z_iload dX5_thinOutBehind_81 4 rfl ?_
        refine z_gd (fun g11 => ?_)
        refine z_iald kc_69 dX5_thinOutBehind_83 g11 ?_
        refine z_iand dX5_thinOutBehind_84 ?_
        refine z_istoreL (lv2 := fun v12 => [(8, .int v12), (0, .ref 67), (1, .int x1), (2, .int x2), (3, .int x3), (4, .int x4), (5, .int x5), (6, .int x6), (7, .int x7)]) dX5_thinOutBehind_85 (Nat.le_of_ble_eq_true rfl) (fun _ => rfl) (fun v12 => ?_)
        refine z_iload dX5_thinOutBehind_87 7 rfl ?_
        refine z_iload dX5_thinOutBehind_89 0 rfl ?_
        refine z_ior dX5_thinOutBehind_91 ?_
        refine z_istoreL (lv2 := fun v13 => [(6, .int v13), (8, .int v12), (0, .ref 67), (1, .int x1), (2, .int x2), (3, .int x3), (4, .int x4), (5, .int x5), (7, .int x7)]) dX5_thinOutBehind_92 (Nat.le_of_ble_eq_true rfl) (fun _ => rfl) (fun v13 => ?_)
        refine z_iload dX5_thinOutBehind_94 1 rfl ?_
        refine z_if_ne (tgt := 119) dX5_thinOutBehind_96 (by decide) ?_ ?_
        · refine z_iincL (lv2 := fun v14 => [(7, .int v14), (6, .int v13), (8, .int v12), (0, .ref 67), (1, .int x1), (2, .int x2), (3, .int x3), (4, .int x4), (5, .int x5)]) dX5_thinOutBehind_119 8 rfl rfl (Nat.le_of_ble_eq_true rfl) (fun _ => rfl) (fun v14 => ?_)
          refine z_goto (tgt := 46) dX5_thinOutBehind_122 (by decide) ?_
          exact z_sub [3, 4, 5, 6, 7, 8, 1, 0] rfl (ih _ _ _ _ _ _ _ _)
        · refine z_aload_n dX5_thinOutBehind_99 2 rfl ?_
          refine z_getR (j := 69) fX5_15 kc_67 rfl rfl rfl (by decide) dX5_thinOutBehind_100 ?_
          refine z_iload_n dX5_thinOutBehind_103 5 rfl ?_
          refine z_iload dX5_thinOutBehind_104 8 rfl ?_
          refine z_iadd dX5_thinOutBehind_106 ?_
          refine z_dup2 dX5_thinOutBehind_107 rfl rfl ?_
          refine z_gd (fun g15 => ?_)
          refine z_iald kc_69 dX5_thinOutBehind_108 g15 ?_
          refine z_iconst (v := 1) dX5_thinOutBehind_109 (by decide) ?_
          refine z_iload_n dX5_thinOutBehind_110 4 rfl ?_
          refine z_ishl dX5_thinOutBehind_111 ?_
          refine z_iconst (v := -1) dX5_thinOutBehind_112 (by decide) ?_
          refine z_ixor dX5_thinOutBehind_113 ?_
          refine z_iand dX5_thinOutBehind_114 ?_
          refine z_gd (fun g17 => ?_)
          refine z_iast kc_69 dX5_thinOutBehind_115 g17 ?_
          refine z_lh (fun h16 => ?_)
          refine z_iconst (v := 1) dX5_thinOutBehind_116 (by decide) ?_
          refine z_istore (lv2 := [(5, .int 1), (6, .int v13), (8, .int v12), (0, .ref 67), (1, .int x1), (2, .int x2), (3, .int x3), (4, .int x4), (7, .int x7)]) dX5_thinOutBehind_117 (Nat.le_of_ble_eq_true rfl) rfl ?_
          refine z_iincL (lv2 := fun v18 => [(7, .int v18), (5, .int 1), (6, .int v13), (8, .int v12), (0, .ref 67), (1, .int x1), (2, .int x2), (3, .int x3), (4, .int x4)]) dX5_thinOutBehind_119 8 rfl rfl (Nat.le_of_ble_eq_true rfl) (fun _ => rfl) (fun v18 => ?_)
          refine z_goto (tgt := 46) dX5_thinOutBehind_122 (by decide) ?_
          exact z_sub [4, 5, 6, 7, 8, 1, 2, 0] rfl (ih _ _ _ _ _ _ _ _)
set_option maxHeartbeats 4000000 in
set_option maxRecDepth 100000 in
theorem w_X5_thinOutBehind_21 (x1 : Int32) (x2 : Int32) (x3 : Int32) (s0 : Int32) (h : AHp) : WO tvI QX5_thinOutBehind 4 21 [(0, .ref 67), (1, .int x1), (2, .int x2), (3, .int x3)] [.int s0] h (m_X5_thinOutBehind_21 x1 x2 x3 s0 h) := by
  unfold m_X5_thinOutBehind_21
  refine z_iload_n dX5_thinOutBehind_21 2 rfl ?_
  refine z_iadd dX5_thinOutBehind_22 ?_
  refine z_istoreL (lv2 := fun v19 => [(4, .int v19), (0, .ref 67), (1, .int x1), (2, .int x2), (3, .int x3)]) dX5_thinOutBehind_23 (Nat.le_of_ble_eq_true rfl) (fun _ => rfl) (fun v19 => ?_)
  refine z_iload_n dX5_thinOutBehind_25 3 rfl ?_
  refine z_if_lt (tgt := 35) dX5_thinOutBehind_26 (by decide) ?_ ?_
  · refine z_iconst (v := 0) dX5_thinOutBehind_35 (by decide) ?_
    exact z_zret dX5_thinOutBehind_36 rfl (Or.inl rfl)
  · refine z_iload_n dX5_thinOutBehind_29 3 rfl ?_
    refine z_bipush (v := 25) dX5_thinOutBehind_30 (by decide) ?_
    refine z_ic_lt (tgt := 37) dX5_thinOutBehind_32 (by decide) ?_ ?_
    · refine z_iconst (v := 0) dX5_thinOutBehind_37 (by decide) ?_
      refine z_istore (lv2 := [(5, .int 0), (4, .int v19), (0, .ref 67), (1, .int x1), (2, .int x2), (3, .int x3)]) dX5_thinOutBehind_38 (Nat.le_of_ble_eq_true rfl) rfl ?_
      refine z_iconst (v := 0) dX5_thinOutBehind_40 (by decide) ?_
      refine z_istore (lv2 := [(6, .int 0), (5, .int 0), (4, .int v19), (0, .ref 67), (1, .int x1), (2, .int x2), (3, .int x3)]) dX5_thinOutBehind_41 (Nat.le_of_ble_eq_true rfl) rfl ?_
      refine z_iconst (v := 1) dX5_thinOutBehind_43 (by decide) ?_
      refine z_istore (lv2 := [(7, .int 1), (6, .int 0), (5, .int 0), (4, .int v19), (0, .ref 67), (1, .int x1), (2, .int x2), (3, .int x3)]) dX5_thinOutBehind_44 (Nat.le_of_ble_eq_true rfl) rfl ?_
      exact z_sub [4, 5, 6, 7, 3, 2, 1, 0] rfl (w_X5_thinOutBehind_46 FU _ _ _ _ _ _ _ _)
    · refine z_iconst (v := 0) dX5_thinOutBehind_35 (by decide) ?_
      exact z_zret dX5_thinOutBehind_36 rfl (Or.inl rfl)
set_option maxHeartbeats 4000000 in
set_option maxRecDepth 100000 in
theorem w_X5_thinOutBehind (x1 : Int32) (x2 : Int32) (h : AHp) : WO tvI QX5_thinOutBehind 4 0 [(0, .ref 67), (1, .int x1), (2, .int x2)] [] h (m_X5_thinOutBehind x1 x2 h) := by
  unfold m_X5_thinOutBehind
  refine z_iload_n dX5_thinOutBehind_0 1 rfl ?_
  refine z_if_ne (tgt := 8) dX5_thinOutBehind_1 (by decide) ?_ ?_
  · refine z_bipush (v := 25) dX5_thinOutBehind_8 (by decide) ?_
    refine z_istore_n (lv2 := [(3, .int 25), (0, .ref 67), (1, .int x1), (2, .int x2)]) dX5_thinOutBehind_10 (Nat.le_of_ble_eq_true rfl) rfl ?_
    refine z_iload_n dX5_thinOutBehind_11 2 rfl ?_
    refine z_if_ne (tgt := 20) dX5_thinOutBehind_12 (by decide) ?_ ?_
    · refine z_iconst (v := 0) dX5_thinOutBehind_20 (by decide) ?_
      exact z_sub [1, 2, 3, 0] rfl (w_X5_thinOutBehind_21 _ _ _ _ _)
    · refine z_bipush (v := 25) dX5_thinOutBehind_15 (by decide) ?_
      refine z_goto (tgt := 21) dX5_thinOutBehind_17 (by decide) ?_
      exact z_sub [1, 2, 3, 0] rfl (w_X5_thinOutBehind_21 _ _ _ _ _)
  · refine z_iconst (v := 0) dX5_thinOutBehind_4 (by decide) ?_
    refine z_goto (tgt := 10) dX5_thinOutBehind_5 (by decide) ?_
    refine z_istore_n (lv2 := [(3, .int 0), (0, .ref 67), (1, .int x1), (2, .int x2)]) dX5_thinOutBehind_10 (Nat.le_of_ble_eq_true rfl) rfl ?_
    refine z_iload_n dX5_thinOutBehind_11 2 rfl ?_
    refine z_if_ne (tgt := 20) dX5_thinOutBehind_12 (by decide) ?_ ?_
    · refine z_iconst (v := 0) dX5_thinOutBehind_20 (by decide) ?_
      exact z_sub [1, 2, 3, 0] rfl (w_X5_thinOutBehind_21 _ _ _ _ _)
    · refine z_bipush (v := 25) dX5_thinOutBehind_15 (by decide) ?_
      refine z_goto (tgt := 21) dX5_thinOutBehind_17 (by decide) ?_
      exact z_sub [1, 2, 3, 0] rfl (w_X5_thinOutBehind_21 _ _ _ _ _)
theorem M_X5_thinOutBehind (x1 : Int32) (x2 : Int32) (h : AHp) : MI QX5_thinOutBehind 4 [.ref 67, .int x1, .int x2] h (m_X5_thinOutBehind x1 x2 h) := MI.of (by decide) rfl rfl (Nat.le_of_ble_eq_true rfl) (w_X5_thinOutBehind x1 x2 h)
set_option maxHeartbeats 4000000 in
set_option maxRecDepth 100000 in
theorem w_X5_thinOutAll_18 (k4 : Int32 → Int32 → AHp → Option (Unit × AHp)) (hk4 : ∀ (x1 : Int32) (x2 : Int32) (h : AHp), WO tvV QX5_thinOutAll 5 4 [(0, .ref 67), (1, .int x1), (2, .int x2)] [] h (k4 x1 x2 h)) : ∀ (f : Nat) (x1 : Int32) (x2 : Int32) (x3 : Int32) (h : AHp), WO tvV QX5_thinOutAll 5 18 [(0, .ref 67), (1, .int x1), (2, .int x2), (3, .int x3)] [] h (m_X5_thinOutAll_18 k4 f x1 x2 x3 h) := by
  intro f
  induction f with
  | zero => intro x1 x2 x3 h; exact z_none
  | succ f ih =>
    intro x1 x2 x3 h
    rw [m_X5_thinOutAll_18]
    refine z_iload_n dX5_thinOutAll_18 3 rfl ?_
    refine z_bipush (v := 25) dX5_thinOutAll_19 (by decide) ?_
    refine z_ic_ge (tgt := 48) dX5_thinOutAll_21 (by decide) ?_ ?_
    · refine z_iincL (lv2 := fun v1 => [(2, .int v1), (0, .ref 67), (1, .int x1), (3, .int x3)]) dX5_thinOutAll_48 2 rfl rfl (Nat.le_of_ble_eq_true rfl) (fun _ => rfl) (fun v1 => ?_)
      refine z_goto (tgt := 4) dX5_thinOutAll_51 (by decide) ?_
      exact z_sub [1, 2, 0] rfl (hk4 _ _ _)
    · refine z_iload_n dX5_thinOutAll_24 1 rfl ?_
      refine z_aload_n dX5_thinOutAll_25 0 rfl ?_
      refine z_iconst (v := 0) dX5_thinOutAll_26 (by decide) ?_
      refine z_iload_n dX5_thinOutAll_27 3 rfl ?_
      refine z_callVI dX5_thinOutAll_28 (M_X5_thinOutBehind _ _ _) bX5_thinOutBehind lX5_67 kc_67 rfl rfl (Nat.le_of_ble_eq_true rfl) (Nat.le_of_ble_eq_true rfl) (fun r2 h3 => ?_)
      refine z_ior dX5_thinOutAll_31 ?_
      refine z_istore_nL (lv2 := fun v4 => [(1, .int v4), (0, .ref 67), (2, .int x2), (3, .int x3)]) dX5_thinOutAll_32 (Nat.le_of_ble_eq_true rfl) (fun _ => rfl) (fun v4 => ?_)
      refine z_iload_n dX5_thinOutAll_33 0 rfl ?_
      refine z_aload_n dX5_thinOutAll_34 1 rfl ?_
      refine z_iconst (v := 1) dX5_thinOutAll_35 (by decide) ?_
      refine z_iload_n dX5_thinOutAll_36 3 rfl ?_
      refine z_callVI dX5_thinOutAll_37 (M_X5_thinOutBehind _ _ _) bX5_thinOutBehind lX5_67 kc_67 rfl rfl (Nat.le_of_ble_eq_true rfl) (Nat.le_of_ble_eq_true rfl) (fun r5 h6 => ?_)
      refine z_ior dX5_thinOutAll_40 ?_
      refine z_istore_nL (lv2 := fun v7 => [(1, .int v7), (0, .ref 67), (2, .int x2), (3, .int x3)]) dX5_thinOutAll_41 (Nat.le_of_ble_eq_true rfl) (fun _ => rfl) (fun v7 => ?_)
      refine z_iincL (lv2 := fun v8 => [(3, .int v8), (1, .int v7), (0, .ref 67), (2, .int x2)]) dX5_thinOutAll_42 3 rfl rfl (Nat.le_of_ble_eq_true rfl) (fun _ => rfl) (fun v8 => ?_)
      refine z_goto (tgt := 18) dX5_thinOutAll_45 (by decide) ?_
      exact z_sub [2, 1, 3, 0] rfl (ih _ _ _ _)
set_option maxHeartbeats 4000000 in
set_option maxRecDepth 100000 in
theorem w_X5_thinOutAll_4 : ∀ (f : Nat) (x1 : Int32) (x2 : Int32) (h : AHp), WO tvV QX5_thinOutAll 5 4 [(0, .ref 67), (1, .int x1), (2, .int x2)] [] h (m_X5_thinOutAll_4 f x1 x2 h) := by
  intro f
  induction f with
  | zero => intro x1 x2 h; exact z_none
  | succ f ih =>
    intro x1 x2 h
    rw [m_X5_thinOutAll_4]
    refine z_iload_n dX5_thinOutAll_4 2 rfl ?_
    refine z_bipush (v := 64) dX5_thinOutAll_5 (by decide) ?_
    refine z_ic_ge (tgt := 54) dX5_thinOutAll_7 (by decide) ?_ ?_
    · exact z_vret dX5_thinOutAll_54 rfl
    · refine z_iload_n dX5_thinOutAll_10 1 rfl ?_
      refine z_if_eq (tgt := 54) dX5_thinOutAll_11 (by decide) ?_ ?_
      · exact z_vret dX5_thinOutAll_54 rfl
      · refine z_iconst (v := 0) dX5_thinOutAll_14 (by decide) ?_
        refine z_istore_n (lv2 := [(1, .int 0), (0, .ref 67), (2, .int x2)]) dX5_thinOutAll_15 (Nat.le_of_ble_eq_true rfl) rfl ?_
        refine z_iconst (v := 1) dX5_thinOutAll_16 (by decide) ?_
        refine z_istore_n (lv2 := [(3, .int 1), (1, .int 0), (0, .ref 67), (2, .int x2)]) dX5_thinOutAll_17 (Nat.le_of_ble_eq_true rfl) rfl ?_
        exact z_sub [2, 1, 3, 0] rfl (w_X5_thinOutAll_18 _ ih FU _ _ _ _)
set_option maxHeartbeats 4000000 in
set_option maxRecDepth 100000 in
theorem w_X5_thinOutAll (h : AHp) : WO tvV QX5_thinOutAll 5 0 [(0, .ref 67)] [] h (m_X5_thinOutAll h) := by
  unfold m_X5_thinOutAll
  refine z_iconst (v := 1) dX5_thinOutAll_0 (by decide) ?_
  refine z_istore_n (lv2 := [(1, .int 1), (0, .ref 67)]) dX5_thinOutAll_1 (Nat.le_of_ble_eq_true rfl) rfl ?_
  refine z_iconst (v := 0) dX5_thinOutAll_2 (by decide) ?_
  refine z_istore_n (lv2 := [(2, .int 0), (1, .int 1), (0, .ref 67)]) dX5_thinOutAll_3 (Nat.le_of_ble_eq_true rfl) rfl ?_
  exact z_sub [2, 1, 0] rfl (w_X5_thinOutAll_4 FU _ _ _)
theorem M_X5_thinOutAll (h : AHp) : MV QX5_thinOutAll 5 [.ref 67] h (m_X5_thinOutAll h) := MV.of (by decide) rfl rfl (Nat.le_of_ble_eq_true rfl) (w_X5_thinOutAll h)
set_option maxHeartbeats 4000000 in
set_option maxRecDepth 100000 in
theorem w_X5_begin_100 (k71 : Int32 → Int32 → AHp → Option (Unit × AHp)) (hk71 : ∀ (x4 : Int32) (x5 : Int32) (h : AHp), WO tvV QX5_begin 2 71 [(0, .ref 67), (4, .int x4), (5, .int x5)] [] h (k71 x4 x5 h)) (x4 : Int32) (x5 : Int32) (s1 : Int32) (s2 : Int32) (h : AHp) : WO tvV QX5_begin 2 100 [(0, .ref 67), (4, .int x4), (5, .int x5)] [.int s2, .int s1, .ref 69] h (m_X5_begin_100 k71 x4 x5 s1 s2 h) := by
  unfold m_X5_begin_100
  refine z_gd (fun g2 => ?_)
  refine z_iast kc_69 dX5_begin_100 g2 ?_
  refine z_lh (fun h1 => ?_)
  refine z_aload_n dX5_begin_101 0 rfl ?_
  refine z_getR (j := 69) fX5_15 kc_67 rfl rfl rfl (by decide) dX5_begin_102 ?_
  refine z_bipush (v := 25) dX5_begin_105 (by decide) ?_
  refine z_iload dX5_begin_107 2 rfl ?_
  refine z_iadd dX5_begin_109 ?_
  refine z_aload_n dX5_begin_110 0 rfl ?_
  refine z_getR (j := 69) fX5_15 kc_67 rfl rfl rfl (by decide) dX5_begin_111 ?_
  refine z_iload dX5_begin_114 2 rfl ?_
  refine z_gd (fun g3 => ?_)
  refine z_iald kc_69 dX5_begin_116 g3 ?_
  refine z_gd (fun g5 => ?_)
  refine z_iast kc_69 dX5_begin_117 g5 ?_
  refine z_lh (fun h4 => ?_)
  refine z_iincL (lv2 := fun v6 => [(5, .int v6), (0, .ref 67), (4, .int x4)]) dX5_begin_118 2 rfl rfl (Nat.le_of_ble_eq_true rfl) (fun _ => rfl) (fun v6 => ?_)
  refine z_goto (tgt := 71) dX5_begin_121 (by decide) ?_
  exact z_sub [1, 2, 0] rfl (hk71 _ _ _)
set_option maxHeartbeats 4000000 in
set_option maxRecDepth 100000 in
theorem w_X5_begin_71 : ∀ (f : Nat) (x4 : Int32) (x5 : Int32) (h : AHp), WO tvV QX5_begin 2 71 [(0, .ref 67), (4, .int x4), (5, .int x5)] [] h (m_X5_begin_71 f x4 x5 h) := by
  intro f
  induction f with
  | zero => intro x4 x5 h; exact z_none
  | succ f ih =>
    intro x4 x5 h
    rw [m_X5_begin_71]
    refine z_iload dX5_begin_71 2 rfl ?_
    refine z_bipush (v := 25) dX5_begin_73 (by decide) ?_
    refine z_ic_ge (tgt := 124) dX5_begin_75 (by decide) ?_ ?_
    · exact z_vret dX5_begin_124 rfl
    · refine z_aload_n dX5_begin_78 0 rfl ?_
      refine z_getR (j := 69) fX5_15 kc_67 rfl rfl rfl (by decide) dX5_begin_79 ?_
      refine z_iload dX5_begin_82 2 rfl ?_
      refine z_iload dX5_begin_84 1 rfl ?_
      refine z_iload dX5_begin_86 2 rfl ?_
      refine z_ishr dX5_begin_88 ?_
      refine z_iconst (v := 1) dX5_begin_89 (by decide) ?_
      refine z_iand dX5_begin_90 ?_
      refine z_if_eq (tgt := 99) dX5_begin_91 (by decide) ?_ ?_
      · refine z_iconst (v := 0) dX5_begin_99 (by decide) ?_
        exact w_X5_begin_100 _ ih _ _ _ _ _
      · refine z_iload dX5_begin_94 1 rfl ?_
        refine z_goto (tgt := 100) dX5_begin_96 (by decide) ?_
        exact w_X5_begin_100 _ ih _ _ _ _ _
set_option maxHeartbeats 4000000 in
set_option maxRecDepth 100000 in
theorem w_X5_begin_39 (x1 : Int32) (x3 : Int32) (s1 : Int32) (h : AHp) : WO tvV QX5_begin 2 39 [(0, .ref 67), (1, .int x1), (3, .int x3)] [.int s1, .ref 67] h (m_X5_begin_39 x1 x3 s1 h) := by
  unfold m_X5_begin_39
  refine z_gd (fun g8 => ?_)
  refine z_putZ fX5_57 kc_67 rfl g8 dX5_begin_39 ?_
  refine z_lh (fun h7 => ?_)
  refine z_aload_n dX5_begin_42 0 rfl ?_
  refine z_iload_n dX5_begin_43 2 rfl ?_
  refine z_bipush (v := 32) dX5_begin_44 (by decide) ?_
  refine z_iand dX5_begin_46 ?_
  refine z_if_eq (tgt := 54) dX5_begin_47 (by decide) ?_ ?_
  · refine z_iconst (v := 0) dX5_begin_54 (by decide) ?_
    refine z_putZ fX5_61 kc_67 rfl (Or.inl rfl) dX5_begin_55 ?_
    refine z_lh (fun h9 => ?_)
    refine z_aload_n dX5_begin_58 0 rfl ?_
    refine z_getR (j := 3) fX5_18 kc_67 rfl rfl rfl (by decide) dX5_begin_59 ?_
    refine z_iload_n dX5_begin_62 1 rfl ?_
    refine z_callVI dX5_begin_63 (M_X9_sizesOf _ _) bX9_sizesOf lX5_64 kc_3 rfl rfl (Nat.le_of_ble_eq_true rfl) (Nat.le_of_ble_eq_true rfl) (fun r10 h11 => ?_)
    refine z_istore (lv2 := [(4, .int r10), (0, .ref 67), (1, .int x1), (3, .int x3)]) dX5_begin_66 (Nat.le_of_ble_eq_true rfl) rfl ?_
    refine z_iconst (v := 0) dX5_begin_68 (by decide) ?_
    refine z_istore (lv2 := [(5, .int 0), (4, .int r10), (0, .ref 67), (1, .int x1), (3, .int x3)]) dX5_begin_69 (Nat.le_of_ble_eq_true rfl) rfl ?_
    exact z_sub [2, 1, 0] rfl (w_X5_begin_71 FU _ _ _)
  · refine z_iconst (v := 1) dX5_begin_50 (by decide) ?_
    refine z_goto (tgt := 55) dX5_begin_51 (by decide) ?_
    refine z_putZ fX5_61 kc_67 rfl (Or.inr rfl) dX5_begin_55 ?_
    refine z_lh (fun h12 => ?_)
    refine z_aload_n dX5_begin_58 0 rfl ?_
    refine z_getR (j := 3) fX5_18 kc_67 rfl rfl rfl (by decide) dX5_begin_59 ?_
    refine z_iload_n dX5_begin_62 1 rfl ?_
    refine z_callVI dX5_begin_63 (M_X9_sizesOf _ _) bX9_sizesOf lX5_64 kc_3 rfl rfl (Nat.le_of_ble_eq_true rfl) (Nat.le_of_ble_eq_true rfl) (fun r13 h14 => ?_)
    refine z_istore (lv2 := [(4, .int r13), (0, .ref 67), (1, .int x1), (3, .int x3)]) dX5_begin_66 (Nat.le_of_ble_eq_true rfl) rfl ?_
    refine z_iconst (v := 0) dX5_begin_68 (by decide) ?_
    refine z_istore (lv2 := [(5, .int 0), (4, .int r13), (0, .ref 67), (1, .int x1), (3, .int x3)]) dX5_begin_69 (Nat.le_of_ble_eq_true rfl) rfl ?_
    exact z_sub [2, 1, 0] rfl (w_X5_begin_71 FU _ _ _)
set_option maxHeartbeats 4000000 in
set_option maxRecDepth 100000 in
theorem w_X5_begin (x1 : Int32) (x2 : Int32) (h : AHp) : WO tvV QX5_begin 2 0 [(0, .ref 67), (1, .int x1), (2, .int x2)] [] h (m_X5_begin x1 x2 h) := by
  unfold m_X5_begin
  refine z_aload_n dX5_begin_0 0 rfl ?_
  refine z_getR (j := 31) fX5_22 kc_67 rfl rfl rfl (by decide) dX5_begin_1 ?_
  refine z_callVV dX5_begin_4 (M_X3_begin _) bX3_begin lX5_41 kc_31 rfl rfl (Nat.le_of_ble_eq_true rfl) (Nat.le_of_ble_eq_true rfl) (fun r15 h16 => ?_)
  refine z_aload_n dX5_begin_7 0 rfl ?_
  refine z_iload_n dX5_begin_8 1 rfl ?_
  refine z_putI fX5_45 kc_67 rfl dX5_begin_9 ?_
  refine z_lh (fun h17 => ?_)
  refine z_aload_n dX5_begin_12 0 rfl ?_
  refine z_iload_n dX5_begin_13 2 rfl ?_
  refine z_putI fX5_48 kc_67 rfl dX5_begin_14 ?_
  refine z_lh (fun h18 => ?_)
  refine z_aload_n dX5_begin_17 0 rfl ?_
  refine z_getR (j := 3) fX5_18 kc_67 rfl rfl rfl (by decide) dX5_begin_18 ?_
  refine z_iconst (v := 1) dX5_begin_21 (by decide) ?_
  refine z_callVI dX5_begin_22 (M_X9_asks _ _) bX9_asks lX5_51 kc_3 rfl rfl (Nat.le_of_ble_eq_true rfl) (Nat.le_of_ble_eq_true rfl) (fun r19 h20 => ?_)
  refine z_istore_n (lv2 := [(3, .int r19), (0, .ref 67), (1, .int x1), (2, .int x2)]) dX5_begin_25 (Nat.le_of_ble_eq_true rfl) rfl ?_
  refine z_aload_n dX5_begin_26 1 rfl ?_
  refine z_iload_n dX5_begin_27 0 rfl ?_
  refine z_bipush (v := 16) dX5_begin_28 (by decide) ?_
  refine z_iand dX5_begin_30 ?_
  refine z_if_eq (tgt := 38) dX5_begin_31 (by decide) ?_ ?_
  · refine z_iconst (v := 0) dX5_begin_38 (by decide) ?_
    exact z_sub [1, 2, 0] rfl (w_X5_begin_39 _ _ _ _)
  · refine z_iconst (v := 1) dX5_begin_34 (by decide) ?_
    refine z_goto (tgt := 39) dX5_begin_35 (by decide) ?_
    exact z_sub [1, 2, 0] rfl (w_X5_begin_39 _ _ _ _)
theorem M_X5_begin (x1 : Int32) (x2 : Int32) (h : AHp) : MV QX5_begin 2 [.ref 67, .int x1, .int x2] h (m_X5_begin x1 x2 h) := MV.of (by decide) rfl rfl (Nat.le_of_ble_eq_true rfl) (w_X5_begin x1 x2 h)
set_option maxHeartbeats 4000000 in
set_option maxRecDepth 100000 in
theorem w_X5_answer_52 (x3 : Int32) (x4 : Int32) (h : AHp) : WO tvI QX5_answer 51 52 [(0, .ref 67), (3, .int x3), (4, .int x4)] [] h (m_X5_answer_52 x3 x4 h) := by
  unfold m_X5_answer_52
  refine z_iload dX5_answer_52 2 rfl ?_
  refine z_if_ne (tgt := 60) dX5_answer_54 (by decide) ?_ ?_
  · refine z_iload_n dX5_answer_60 1 rfl ?_
    refine z_iconst (v := -1) dX5_answer_61 (by decide) ?_
    refine z_ic_ne (tgt := 70) dX5_answer_62 (by decide) ?_ ?_
    · refine z_iload_n dX5_answer_70 1 rfl ?_
      refine z_if_lt (tgt := 97) dX5_answer_71 (by decide) ?_ ?_
      · refine z_bipush (v := -3) dX5_answer_97 (by decide) ?_
        exact z_iret dX5_answer_99 rfl
      · refine z_iload_n dX5_answer_74 1 rfl ?_
        refine z_aload_n dX5_answer_75 0 rfl ?_
        refine z_getI fX5_30 kc_67 rfl dX5_answer_76 ?_
        refine z_ic_ge (tgt := 97) dX5_answer_79 (by decide) ?_ ?_
        · refine z_bipush (v := -3) dX5_answer_97 (by decide) ?_
          exact z_iret dX5_answer_99 rfl
        · refine z_iload_n dX5_answer_82 1 rfl ?_
          refine z_bipush (v := 6) dX5_answer_83 (by decide) ?_
          refine z_ic_ge (tgt := 97) dX5_answer_85 (by decide) ?_ ?_
          · refine z_bipush (v := -3) dX5_answer_97 (by decide) ?_
            exact z_iret dX5_answer_99 rfl
          · refine z_aload_n dX5_answer_88 0 rfl ?_
            refine z_getR (j := 68) fX5_9 kc_67 rfl rfl rfl (by decide) dX5_answer_89 ?_
            refine z_iload_n dX5_answer_92 1 rfl ?_
            refine z_gd (fun g1 => ?_)
            refine z_iald kc_68 dX5_answer_93 g1 ?_
            refine z_goto (tgt := 99) dX5_answer_94 (by decide) ?_
            exact z_iret dX5_answer_99 rfl
    · refine z_aload_n dX5_answer_65 0 rfl ?_
      refine z_getI fX5_30 kc_67 rfl dX5_answer_66 ?_
      exact z_iret dX5_answer_69 rfl
  · refine z_bipush (v := -2) dX5_answer_57 (by decide) ?_
    exact z_iret dX5_answer_59 rfl
set_option maxHeartbeats 4000000 in
set_option maxRecDepth 100000 in
theorem w_X5_answer_12 : ∀ (f : Nat) (x3 : Int32) (x4 : Int32) (x5 : Int32) (h : AHp), WO tvI QX5_answer 51 12 [(0, .ref 67), (3, .int x3), (4, .int x4), (5, .int x5)] [] h (m_X5_answer_12 f x3 x4 x5 h) := by
  intro f
  induction f with
  | zero => intro x3 x4 x5 h; exact z_none
  | succ f ih =>
    intro x3 x4 x5 h
    rw [m_X5_answer_12]
    refine z_iload dX5_answer_12 3 rfl ?_
    refine z_bipush (v := 6) dX5_answer_14 (by decide) ?_
    refine z_ic_gt (tgt := 52) dX5_answer_16 (by decide) ?_ ?_
    · exact z_sub [0, 1, 2] rfl (w_X5_answer_52 _ _ _)
    · refine z_iload dX5_answer_19 2 rfl ?_
      refine z_if_ne (tgt := 52) dX5_answer_21 (by decide) ?_ ?_
      · exact z_sub [0, 1, 2] rfl (w_X5_answer_52 _ _ _)
      · refine z_aload_n dX5_answer_24 0 rfl ?_
        refine z_iload dX5_answer_25 3 rfl ?_
        refine z_putI fX5_30 kc_67 rfl dX5_answer_27 ?_
        refine z_lh (fun h2 => ?_)
        refine z_iload dX5_answer_30 3 rfl ?_
        refine z_iconst (v := 4) dX5_answer_32 (by decide) ?_
        refine z_ic_ne (tgt := 40) dX5_answer_33 (by decide) ?_ ?_
        · refine z_aload_n dX5_answer_40 0 rfl ?_
          refine z_callVI dX5_answer_41 (M_X5_beginsRound _) bX5_beginsRound lX5_37 kc_67 rfl rfl (Nat.le_of_ble_eq_true rfl) (Nat.le_of_ble_eq_true rfl) (fun r3 h4 => ?_)
          refine z_istore (lv2 := [(4, .int r3), (0, .ref 67), (3, .int x3), (5, .int x5)]) dX5_answer_44 (Nat.le_of_ble_eq_true rfl) rfl ?_
          refine z_iincL (lv2 := fun v5 => [(5, .int v5), (4, .int r3), (0, .ref 67), (3, .int x3)]) dX5_answer_46 3 rfl rfl (Nat.le_of_ble_eq_true rfl) (fun _ => rfl) (fun v5 => ?_)
          refine z_goto (tgt := 12) dX5_answer_49 (by decide) ?_
          exact z_sub [2, 3, 1, 0] rfl (ih _ _ _ _)
        · refine z_aload_n dX5_answer_36 0 rfl ?_
          refine z_callVV dX5_answer_37 (M_X5_thinOutAll _) bX5_thinOutAll lX5_34 kc_67 rfl rfl (Nat.le_of_ble_eq_true rfl) (Nat.le_of_ble_eq_true rfl) (fun r6 h7 => ?_)
          refine z_aload_n dX5_answer_40 0 rfl ?_
          refine z_callVI dX5_answer_41 (M_X5_beginsRound _) bX5_beginsRound lX5_37 kc_67 rfl rfl (Nat.le_of_ble_eq_true rfl) (Nat.le_of_ble_eq_true rfl) (fun r8 h9 => ?_)
          refine z_istore (lv2 := [(4, .int r8), (0, .ref 67), (3, .int x3), (5, .int x5)]) dX5_answer_44 (Nat.le_of_ble_eq_true rfl) rfl ?_
          refine z_iincL (lv2 := fun v10 => [(5, .int v10), (4, .int r8), (0, .ref 67), (3, .int x3)]) dX5_answer_46 3 rfl rfl (Nat.le_of_ble_eq_true rfl) (fun _ => rfl) (fun v10 => ?_)
          refine z_goto (tgt := 12) dX5_answer_49 (by decide) ?_
          exact z_sub [2, 3, 1, 0] rfl (ih _ _ _ _)
set_option maxHeartbeats 4000000 in
set_option maxRecDepth 100000 in
theorem w_X5_answer (x1 : Int32) (x2 : Int32) (x3 : Int32) (h : AHp) : WO tvI QX5_answer 51 0 [(0, .ref 67), (1, .int x1), (2, .int x2), (3, .int x3)] [] h (m_X5_answer x1 x2 x3 h) := by
  unfold m_X5_answer
  refine z_aload_n dX5_answer_0 0 rfl ?_
  refine z_iload_n dX5_answer_1 1 rfl ?_
  refine z_iload_n dX5_answer_2 2 rfl ?_
  refine z_callVV dX5_answer_3 (M_X5_begin _ _ _) bX5_begin lX5_26 kc_67 rfl rfl (Nat.le_of_ble_eq_true rfl) (Nat.le_of_ble_eq_true rfl) (fun r11 h12 => ?_)
  refine z_iconst (v := 0) dX5_answer_6 (by decide) ?_
  refine z_istore (lv2 := [(4, .int 0), (0, .ref 67), (1, .int x1), (2, .int x2), (3, .int x3)]) dX5_answer_7 (Nat.le_of_ble_eq_true rfl) rfl ?_
  refine z_iconst (v := 2) dX5_answer_9 (by decide) ?_
  refine z_istore (lv2 := [(5, .int 2), (4, .int 0), (0, .ref 67), (1, .int x1), (2, .int x2), (3, .int x3)]) dX5_answer_10 (Nat.le_of_ble_eq_true rfl) rfl ?_
  exact z_sub [2, 5, 1, 0] rfl (w_X5_answer_12 FU _ _ _ _)
theorem M_X5_answer (x1 : Int32) (x2 : Int32) (x3 : Int32) (h : AHp) : MI QX5_answer 51 [.ref 67, .int x1, .int x2, .int x3] h (m_X5_answer x1 x2 x3 h) := MI.of (by decide) rfl rfl (Nat.le_of_ble_eq_true rfl) (w_X5_answer x1 x2 x3 h)
set_option maxHeartbeats 4000000 in
set_option maxRecDepth 100000 in
theorem w_X11_round (x1 : Int32) (x2 : Int32) (h : AHp) : WO tvI QX11_round 52 0 [(0, .ref 0), (1, .int x1), (2, .int x2)] [] h (m_X11_round x1 x2 h) := by
  unfold m_X11_round
  refine z_iload_n dX11_round_0 1 rfl ?_
  refine z_callSI dX11_round_1 (M_X11_isThing _ _) bX11_isThing lX11_99 rfl rfl (Nat.le_of_ble_eq_true rfl) (Nat.le_of_ble_eq_true rfl) (fun r1 h2 => ?_)
  refine z_if_eq (tgt := 18) dX11_round_4 (by decide) ?_ ?_
  · refine z_bipush (v := -3) dX11_round_18 (by decide) ?_
    exact z_iret dX11_round_20 rfl
  · refine z_iload_n dX11_round_7 2 rfl ?_
    refine z_iconst (v := -1) dX11_round_8 (by decide) ?_
    refine z_ic_lt (tgt := 18) dX11_round_9 (by decide) ?_ ?_
    · refine z_bipush (v := -3) dX11_round_18 (by decide) ?_
      exact z_iret dX11_round_20 rfl
    · refine z_iload_n dX11_round_12 2 rfl ?_
      refine z_bipush (v := 6) dX11_round_13 (by decide) ?_
      refine z_ic_lt (tgt := 21) dX11_round_15 (by decide) ?_ ?_
      · refine z_aload_n dX11_round_21 0 rfl ?_
        refine z_getR (j := 67) fX11_84 kc_0 rfl rfl rfl (by decide) dX11_round_22 ?_
        refine z_iload_n dX11_round_25 1 rfl ?_
        refine z_aload_n dX11_round_26 0 rfl ?_
        refine z_getR (j := 42) fX11_38 kc_0 rfl rfl rfl (by decide) dX11_round_27 ?_
        refine z_getIN fX11_157 kc_42 rfl dX11_round_30 ?_
        refine z_iload_n dX11_round_33 2 rfl ?_
        refine z_callVI dX11_round_34 (M_X5_answer _ _ _ _) bX5_answer lX11_229 kc_67 rfl rfl (Nat.le_of_ble_eq_true rfl) (Nat.le_of_ble_eq_true rfl) (fun r3 h4 => ?_)
        exact z_iret dX11_round_37 rfl
      · refine z_bipush (v := -3) dX11_round_18 (by decide) ?_
        exact z_iret dX11_round_20 rfl
theorem M_X11_round (x1 : Int32) (x2 : Int32) (h : AHp) : MI QX11_round 52 [.ref 0, .int x1, .int x2] h (m_X11_round x1 x2 h) := MI.of (by decide) rfl rfl (Nat.le_of_ble_eq_true rfl) (w_X11_round x1 x2 h)
set_option maxHeartbeats 4000000 in
set_option maxRecDepth 100000 in
theorem w_X11_seed (x1 : Int32) (h : AHp) : WO tvI QX11_seed 0 0 [(0, .ref 0), (1, .int x1)] [] h (m_X11_seed x1 h) := by
  unfold m_X11_seed
  refine z_iload_n dX11_seed_0 1 rfl ?_
  refine z_if_lt (tgt := 10) dX11_seed_1 (by decide) ?_ ?_
  · refine z_iconst (v := 0) dX11_seed_10 (by decide) ?_
    exact z_zret dX11_seed_11 rfl (Or.inl rfl)
  · refine z_iload_n dX11_seed_4 1 rfl ?_
    refine z_ldc dX11_seed_5 kX11_232 ?_
    refine z_ic_lt (tgt := 12) dX11_seed_7 (by decide) ?_ ?_
    · refine z_aload_n dX11_seed_12 0 rfl ?_
      refine z_iload_n dX11_seed_13 1 rfl ?_
      refine z_putI fX11_88 kc_0 rfl dX11_seed_14 ?_
      refine z_lh (fun h1 => ?_)
      refine z_iconst (v := 1) dX11_seed_17 (by decide) ?_
      exact z_zret dX11_seed_18 rfl (Or.inr rfl)
    · refine z_iconst (v := 0) dX11_seed_10 (by decide) ?_
      exact z_zret dX11_seed_11 rfl (Or.inl rfl)
theorem M_X11_seed (x1 : Int32) (h : AHp) : MI QX11_seed 0 [.ref 0, .int x1] h (m_X11_seed x1 h) := MI.of (by decide) rfl rfl (Nat.le_of_ble_eq_true rfl) (w_X11_seed x1 h)
set_option maxHeartbeats 4000000 in
set_option maxRecDepth 100000 in
theorem w_X11_drawOne (h : AHp) : WO tvI QX11_drawOne 4 0 [(0, .ref 0)] [] h (m_X11_drawOne h) := by
  unfold m_X11_drawOne
  refine z_aload_n dX11_drawOne_0 0 rfl ?_
  refine z_getI fX11_88 kc_0 rfl dX11_drawOne_1 ?_
  refine z_bipush (v := 6) dX11_drawOne_4 (by decide) ?_
  refine z_irem dX11_drawOne_6 (by decide) ?_
  refine z_istore_nL (lv2 := fun v1 => [(1, .int v1), (0, .ref 0)]) dX11_drawOne_7 (Nat.le_of_ble_eq_true rfl) (fun _ => rfl) (fun v1 => ?_)
  refine z_aload_n dX11_drawOne_8 1 rfl ?_
  refine z_getI fX11_88 kc_0 rfl dX11_drawOne_9 ?_
  refine z_bipush (v := 6) dX11_drawOne_12 (by decide) ?_
  refine z_idiv dX11_drawOne_14 (by decide) ?_
  refine z_bipush (v := 12) dX11_drawOne_15 (by decide) ?_
  refine z_irem dX11_drawOne_17 (by decide) ?_
  refine z_istore_nL (lv2 := fun v2 => [(2, .int v2), (1, .int v1), (0, .ref 0)]) dX11_drawOne_18 (Nat.le_of_ble_eq_true rfl) (fun _ => rfl) (fun v2 => ?_)
  refine z_aload_n dX11_drawOne_19 2 rfl ?_
  refine z_callVV dX11_drawOne_20 (M_X11_standNow _) bX11_standNow lX11_150 kc_0 rfl rfl (Nat.le_of_ble_eq_true rfl) (Nat.le_of_ble_eq_true rfl) (fun r3 h4 => ?_)
  refine z_aload_n dX11_drawOne_23 2 rfl ?_
  refine z_getR (j := 3) fX11_31 kc_0 rfl rfl rfl (by decide) dX11_drawOne_24 ?_
  refine z_iconst (v := 1) dX11_drawOne_27 (by decide) ?_
  refine z_iload_n dX11_drawOne_28 1 rfl ?_
  refine z_iload_n dX11_drawOne_29 0 rfl ?_
  refine z_aload_n dX11_drawOne_30 2 rfl ?_
  refine z_getR (j := 3) fX11_31 kc_0 rfl rfl rfl (by decide) dX11_drawOne_31 ?_
  refine z_iload_n dX11_drawOne_34 0 rfl ?_
  refine z_callVI dX11_drawOne_35 (M_X9_sizesOf _ _) bX9_sizesOf lX11_123 kc_3 rfl rfl (Nat.le_of_ble_eq_true rfl) (Nat.le_of_ble_eq_true rfl) (fun r5 h6 => ?_)
  refine z_callVI dX11_drawOne_38 (M_X9_lets _ _ _ _ _) bX9_lets lX11_153 kc_3 rfl rfl (Nat.le_of_ble_eq_true rfl) (Nat.le_of_ble_eq_true rfl) (fun r7 h8 => ?_)
  refine z_istore_n (lv2 := [(3, .int r7), (2, .int v2), (1, .int v1), (0, .ref 0)]) dX11_drawOne_41 (Nat.le_of_ble_eq_true rfl) rfl ?_
  refine z_iload_n dX11_drawOne_42 0 rfl ?_
  refine z_callSI dX11_drawOne_43 (M_J6_bitCount_0f7a4 _ _) bJ6_bitCount_0f7a4 lX11_118 rfl rfl (Nat.le_of_ble_eq_true rfl) (Nat.le_of_ble_eq_true rfl) (fun r9 h10 => ?_)
  refine z_istore (lv2 := [(4, .int r9), (3, .int r7), (2, .int v2), (1, .int v1), (0, .ref 0)]) dX11_drawOne_46 (Nat.le_of_ble_eq_true rfl) rfl ?_
  refine z_iload dX11_drawOne_48 0 rfl ?_
  refine z_if_eq (tgt := 66) dX11_drawOne_50 (by decide) ?_ ?_
  · refine z_iconst (v := 0) dX11_drawOne_66 (by decide) ?_
    exact z_zret dX11_drawOne_67 rfl (Or.inl rfl)
  · refine z_aload_n dX11_drawOne_53 4 rfl ?_
    refine z_getR (j := 42) fX11_38 kc_0 rfl rfl rfl (by decide) dX11_drawOne_54 ?_
    refine z_getIN fX11_157 kc_42 rfl dX11_drawOne_57 ?_
    refine z_sipush (v := 200) dX11_drawOne_60 (by decide) ?_
    refine z_ic_lt (tgt := 68) dX11_drawOne_63 (by decide) ?_ ?_
    · refine z_aload_n dX11_drawOne_68 4 rfl ?_
      refine z_getR (j := 42) fX11_38 kc_0 rfl rfl rfl (by decide) dX11_drawOne_69 ?_
      refine z_iload_n dX11_drawOne_72 3 rfl ?_
      refine z_iload_n dX11_drawOne_73 2 rfl ?_
      refine z_iload_n dX11_drawOne_74 1 rfl ?_
      refine z_aload_n dX11_drawOne_75 4 rfl ?_
      refine z_getI fX11_88 kc_0 rfl dX11_drawOne_76 ?_
      refine z_bipush (v := 72) dX11_drawOne_79 (by decide) ?_
      refine z_idiv dX11_drawOne_81 (by decide) ?_
      refine z_iload dX11_drawOne_82 0 rfl ?_
      refine z_gd (fun g11 => ?_)
      refine z_irem dX11_drawOne_84 g11 ?_
      refine z_callSI dX11_drawOne_85 (M_X11_placeOfBit _ _ _) bX11_placeOfBit lX11_295 rfl rfl (Nat.le_of_ble_eq_true rfl) (Nat.le_of_ble_eq_true rfl) (fun r12 h13 => ?_)
      refine z_callVV dX11_drawOne_88 (M_X7_add _ _ _ _) bX7_add lX11_160 kc_42 rfl rfl (Nat.le_of_ble_eq_true rfl) (Nat.le_of_ble_eq_true rfl) (fun r14 h15 => ?_)
      refine z_iconst (v := 1) dX11_drawOne_91 (by decide) ?_
      exact z_zret dX11_drawOne_92 rfl (Or.inr rfl)
    · refine z_iconst (v := 0) dX11_drawOne_66 (by decide) ?_
      exact z_zret dX11_drawOne_67 rfl (Or.inl rfl)
theorem M_X11_drawOne (h : AHp) : MI QX11_drawOne 4 [.ref 0] h (m_X11_drawOne h) := MI.of (by decide) rfl rfl (Nat.le_of_ble_eq_true rfl) (w_X11_drawOne h)
set_option maxHeartbeats 4000000 in
set_option maxRecDepth 100000 in
theorem w_X11_draw_17 : ∀ (f : Nat) (x1 : Int32) (x2 : Int32) (x3 : Int32) (h : AHp), WO tvI QX11_draw 5 17 [(0, .ref 0), (1, .int x1), (2, .int x2), (3, .int x3)] [] h (m_X11_draw_17 f x1 x2 x3 h) := by
  intro f
  induction f with
  | zero => intro x1 x2 x3 h; exact z_none
  | succ f ih =>
    intro x1 x2 x3 h
    rw [m_X11_draw_17]
    refine z_iload_n dX11_draw_17 3 rfl ?_
    refine z_iload_n dX11_draw_18 1 rfl ?_
    refine z_ic_ge (tgt := 57) dX11_draw_19 (by decide) ?_ ?_
    · refine z_iload_n dX11_draw_57 2 rfl ?_
      exact z_iret dX11_draw_58 rfl
    · refine z_aload_n dX11_draw_22 0 rfl ?_
      refine z_sipush (v := 25173) dX11_draw_23 (by decide) ?_
      refine z_aload_n dX11_draw_26 0 rfl ?_
      refine z_getI fX11_88 kc_0 rfl dX11_draw_27 ?_
      refine z_imul dX11_draw_30 ?_
      refine z_sipush (v := 13849) dX11_draw_31 (by decide) ?_
      refine z_iadd dX11_draw_34 ?_
      refine z_ldc dX11_draw_35 kX11_232 ?_
      refine z_irem dX11_draw_37 (by decide) ?_
      refine z_putI fX11_88 kc_0 rfl dX11_draw_38 ?_
      refine z_lh (fun h1 => ?_)
      refine z_aload_n dX11_draw_41 0 rfl ?_
      refine z_callVI dX11_draw_42 (M_X11_drawOne _) bX11_drawOne lX11_233 kc_0 rfl rfl (Nat.le_of_ble_eq_true rfl) (Nat.le_of_ble_eq_true rfl) (fun r2 h3 => ?_)
      refine z_if_eq (tgt := 51) dX11_draw_45 (by decide) ?_ ?_
      · refine z_iincL (lv2 := fun v4 => [(3, .int v4), (0, .ref 0), (1, .int x1), (2, .int x2)]) dX11_draw_51 3 rfl rfl (Nat.le_of_ble_eq_true rfl) (fun _ => rfl) (fun v4 => ?_)
        refine z_goto (tgt := 17) dX11_draw_54 (by decide) ?_
        exact z_sub [1, 2, 3, 0] rfl (ih _ _ _ _)
      · refine z_iincL (lv2 := fun v5 => [(2, .int v5), (0, .ref 0), (1, .int x1), (3, .int x3)]) dX11_draw_48 2 rfl rfl (Nat.le_of_ble_eq_true rfl) (fun _ => rfl) (fun v5 => ?_)
        refine z_iincL (lv2 := fun v6 => [(3, .int v6), (2, .int v5), (0, .ref 0), (1, .int x1)]) dX11_draw_51 3 rfl rfl (Nat.le_of_ble_eq_true rfl) (fun _ => rfl) (fun v6 => ?_)
        refine z_goto (tgt := 17) dX11_draw_54 (by decide) ?_
        exact z_sub [2, 3, 1, 0] rfl (ih _ _ _ _)
set_option maxHeartbeats 4000000 in
set_option maxRecDepth 100000 in
theorem w_X11_draw (x1 : Int32) (h : AHp) : WO tvI QX11_draw 5 0 [(0, .ref 0), (1, .int x1)] [] h (m_X11_draw x1 h) := by
  unfold m_X11_draw
  refine z_iload_n dX11_draw_0 1 rfl ?_
  refine z_iconst (v := 1) dX11_draw_1 (by decide) ?_
  refine z_ic_lt (tgt := 11) dX11_draw_2 (by decide) ?_ ?_
  · refine z_iconst (v := -1) dX11_draw_11 (by decide) ?_
    exact z_iret dX11_draw_12 rfl
  · refine z_iload_n dX11_draw_5 1 rfl ?_
    refine z_bipush (v := 20) dX11_draw_6 (by decide) ?_
    refine z_ic_le (tgt := 13) dX11_draw_8 (by decide) ?_ ?_
    · refine z_iconst (v := 0) dX11_draw_13 (by decide) ?_
      refine z_istore_n (lv2 := [(2, .int 0), (0, .ref 0), (1, .int x1)]) dX11_draw_14 (Nat.le_of_ble_eq_true rfl) rfl ?_
      refine z_iconst (v := 0) dX11_draw_15 (by decide) ?_
      refine z_istore_n (lv2 := [(3, .int 0), (2, .int 0), (0, .ref 0), (1, .int x1)]) dX11_draw_16 (Nat.le_of_ble_eq_true rfl) rfl ?_
      exact z_sub [2, 3, 1, 0] rfl (w_X11_draw_17 FU _ _ _ _)
    · refine z_iconst (v := -1) dX11_draw_11 (by decide) ?_
      exact z_iret dX11_draw_12 rfl
theorem M_X11_draw (x1 : Int32) (h : AHp) : MI QX11_draw 5 [.ref 0, .int x1] h (m_X11_draw x1 h) := MI.of (by decide) rfl rfl (Nat.le_of_ble_eq_true rfl) (w_X11_draw x1 h)
set_option maxHeartbeats 4000000 in
set_option maxRecDepth 100000 in
theorem w_X7_copyFrom_46 (h : AHp) : WO tvV QX7_copyFrom 1 0 [(0, .ref 46), (1, .ref 42)] [] h (m_X7_copyFrom_46 h) := by
  unfold m_X7_copyFrom_46
  refine z_aload_n dX7_copyFrom_0 1 rfl ?_
  refine z_getR (j := 43) fX7_9 kc_42 rfl rfl rfl (by decide) dX7_copyFrom_1 ?_
  refine z_iconst (v := 0) dX7_copyFrom_4 (by decide) ?_
  refine z_aload_n dX7_copyFrom_5 0 rfl ?_
  refine z_getR (j := 47) fX7_9 kc_46 rfl rfl rfl (by decide) dX7_copyFrom_6 ?_
  refine z_iconst (v := 0) dX7_copyFrom_9 (by decide) ?_
  refine z_sipush (v := 200) dX7_copyFrom_10 (by decide) ?_
  refine z_copy kc_43 kc_47 dX7_copyFrom_13 lX7_32 w_copy (Nat.le_of_ble_eq_true rfl) (Nat.le_of_ble_eq_true rfl) (by decide) ?_
  refine z_lh (fun h1 => ?_)
  refine z_aload_n dX7_copyFrom_16 1 rfl ?_
  refine z_getR (j := 44) fX7_15 kc_42 rfl rfl rfl (by decide) dX7_copyFrom_17 ?_
  refine z_iconst (v := 0) dX7_copyFrom_20 (by decide) ?_
  refine z_aload_n dX7_copyFrom_21 0 rfl ?_
  refine z_getR (j := 48) fX7_15 kc_46 rfl rfl rfl (by decide) dX7_copyFrom_22 ?_
  refine z_iconst (v := 0) dX7_copyFrom_25 (by decide) ?_
  refine z_sipush (v := 200) dX7_copyFrom_26 (by decide) ?_
  refine z_copy kc_44 kc_48 dX7_copyFrom_29 lX7_32 w_copy (Nat.le_of_ble_eq_true rfl) (Nat.le_of_ble_eq_true rfl) (by decide) ?_
  refine z_lh (fun h2 => ?_)
  refine z_aload_n dX7_copyFrom_32 1 rfl ?_
  refine z_getR (j := 45) fX7_18 kc_42 rfl rfl rfl (by decide) dX7_copyFrom_33 ?_
  refine z_iconst (v := 0) dX7_copyFrom_36 (by decide) ?_
  refine z_aload_n dX7_copyFrom_37 0 rfl ?_
  refine z_getR (j := 49) fX7_18 kc_46 rfl rfl rfl (by decide) dX7_copyFrom_38 ?_
  refine z_iconst (v := 0) dX7_copyFrom_41 (by decide) ?_
  refine z_sipush (v := 200) dX7_copyFrom_42 (by decide) ?_
  refine z_copy kc_45 kc_49 dX7_copyFrom_45 lX7_32 w_copy (Nat.le_of_ble_eq_true rfl) (Nat.le_of_ble_eq_true rfl) (by decide) ?_
  refine z_lh (fun h3 => ?_)
  refine z_aload_n dX7_copyFrom_48 0 rfl ?_
  refine z_aload_n dX7_copyFrom_49 1 rfl ?_
  refine z_getI fX7_21 kc_42 rfl dX7_copyFrom_50 ?_
  refine z_putI fX7_21 kc_46 rfl dX7_copyFrom_53 ?_
  refine z_lh (fun h4 => ?_)
  refine z_aload_n dX7_copyFrom_56 0 rfl ?_
  refine z_aload_n dX7_copyFrom_57 1 rfl ?_
  refine z_getI fX7_25 kc_42 rfl dX7_copyFrom_58 ?_
  refine z_putI fX7_25 kc_46 rfl dX7_copyFrom_61 ?_
  refine z_lh (fun h5 => ?_)
  exact z_vret dX7_copyFrom_64 rfl
theorem M_X7_copyFrom_46 (h : AHp) : MV QX7_copyFrom 1 [.ref 46, .ref 42] h (m_X7_copyFrom_46 h) := MV.of (by decide) rfl rfl (Nat.le_of_ble_eq_true rfl) (w_X7_copyFrom_46 h)
set_option maxHeartbeats 4000000 in
set_option maxRecDepth 100000 in
theorem w_X11_keep (h : AHp) : WO tvI QX11_keep 2 0 [(0, .ref 0)] [] h (m_X11_keep h) := by
  unfold m_X11_keep
  refine z_aload_n dX11_keep_0 0 rfl ?_
  refine z_getR (j := 46) fX11_42 kc_0 rfl rfl rfl (by decide) dX11_keep_1 ?_
  refine z_aload_n dX11_keep_4 0 rfl ?_
  refine z_getR (j := 42) fX11_38 kc_0 rfl rfl rfl (by decide) dX11_keep_5 ?_
  refine z_callVV dX11_keep_8 (M_X7_copyFrom_46 _) bX7_copyFrom lX11_237 kc_46 rfl rfl (Nat.le_of_ble_eq_true rfl) (Nat.le_of_ble_eq_true rfl) (fun r1 h2 => ?_)
  refine z_aload_n dX11_keep_11 0 rfl ?_
  refine z_getR (j := 3) fX11_31 kc_0 rfl rfl rfl (by decide) dX11_keep_12 ?_
  refine z_getRN (j := 5) fX11_241 kc_3 rfl rfl rfl (by decide) dX11_keep_15 ?_
  refine z_iconst (v := 0) dX11_keep_18 (by decide) ?_
  refine z_aload_n dX11_keep_19 0 rfl ?_
  refine z_getR (j := 50) fX11_45 kc_0 rfl rfl rfl (by decide) dX11_keep_20 ?_
  refine z_iconst (v := 0) dX11_keep_23 (by decide) ?_
  refine z_bipush (v := 6) dX11_keep_24 (by decide) ?_
  refine z_copy kc_5 kc_50 dX11_keep_26 lX11_244 w_copy (Nat.le_of_ble_eq_true rfl) (Nat.le_of_ble_eq_true rfl) (by decide) ?_
  refine z_lh (fun h3 => ?_)
  refine z_aload_n dX11_keep_29 0 rfl ?_
  refine z_aload_n dX11_keep_30 0 rfl ?_
  refine z_getI fX11_88 kc_0 rfl dX11_keep_31 ?_
  refine z_putI fX11_250 kc_0 rfl dX11_keep_34 ?_
  refine z_lh (fun h4 => ?_)
  refine z_aload_n dX11_keep_37 0 rfl ?_
  refine z_iconst (v := 1) dX11_keep_38 (by decide) ?_
  refine z_putZ fX11_253 kc_0 rfl (Or.inr rfl) dX11_keep_39 ?_
  refine z_lh (fun h5 => ?_)
  refine z_aload_n dX11_keep_42 0 rfl ?_
  refine z_getR (j := 42) fX11_38 kc_0 rfl rfl rfl (by decide) dX11_keep_43 ?_
  refine z_getIN fX11_157 kc_42 rfl dX11_keep_46 ?_
  exact z_iret dX11_keep_49 rfl
theorem M_X11_keep (h : AHp) : MI QX11_keep 2 [.ref 0] h (m_X11_keep h) := MI.of (by decide) rfl rfl (Nat.le_of_ble_eq_true rfl) (w_X11_keep h)
set_option maxHeartbeats 4000000 in
set_option maxRecDepth 100000 in
theorem w_X7_copyFrom (h : AHp) : WO tvV QX7_copyFrom 1 0 [(0, .ref 42), (1, .ref 46)] [] h (m_X7_copyFrom h) := by
  unfold m_X7_copyFrom
  refine z_aload_n dX7_copyFrom_0 1 rfl ?_
  refine z_getR (j := 47) fX7_9 kc_46 rfl rfl rfl (by decide) dX7_copyFrom_1 ?_
  refine z_iconst (v := 0) dX7_copyFrom_4 (by decide) ?_
  refine z_aload_n dX7_copyFrom_5 0 rfl ?_
  refine z_getR (j := 43) fX7_9 kc_42 rfl rfl rfl (by decide) dX7_copyFrom_6 ?_
  refine z_iconst (v := 0) dX7_copyFrom_9 (by decide) ?_
  refine z_sipush (v := 200) dX7_copyFrom_10 (by decide) ?_
  refine z_copy kc_47 kc_43 dX7_copyFrom_13 lX7_32 w_copy (Nat.le_of_ble_eq_true rfl) (Nat.le_of_ble_eq_true rfl) (by decide) ?_
  refine z_lh (fun h1 => ?_)
  refine z_aload_n dX7_copyFrom_16 1 rfl ?_
  refine z_getR (j := 48) fX7_15 kc_46 rfl rfl rfl (by decide) dX7_copyFrom_17 ?_
  refine z_iconst (v := 0) dX7_copyFrom_20 (by decide) ?_
  refine z_aload_n dX7_copyFrom_21 0 rfl ?_
  refine z_getR (j := 44) fX7_15 kc_42 rfl rfl rfl (by decide) dX7_copyFrom_22 ?_
  refine z_iconst (v := 0) dX7_copyFrom_25 (by decide) ?_
  refine z_sipush (v := 200) dX7_copyFrom_26 (by decide) ?_
  refine z_copy kc_48 kc_44 dX7_copyFrom_29 lX7_32 w_copy (Nat.le_of_ble_eq_true rfl) (Nat.le_of_ble_eq_true rfl) (by decide) ?_
  refine z_lh (fun h2 => ?_)
  refine z_aload_n dX7_copyFrom_32 1 rfl ?_
  refine z_getR (j := 49) fX7_18 kc_46 rfl rfl rfl (by decide) dX7_copyFrom_33 ?_
  refine z_iconst (v := 0) dX7_copyFrom_36 (by decide) ?_
  refine z_aload_n dX7_copyFrom_37 0 rfl ?_
  refine z_getR (j := 45) fX7_18 kc_42 rfl rfl rfl (by decide) dX7_copyFrom_38 ?_
  refine z_iconst (v := 0) dX7_copyFrom_41 (by decide) ?_
  refine z_sipush (v := 200) dX7_copyFrom_42 (by decide) ?_
  refine z_copy kc_49 kc_45 dX7_copyFrom_45 lX7_32 w_copy (Nat.le_of_ble_eq_true rfl) (Nat.le_of_ble_eq_true rfl) (by decide) ?_
  refine z_lh (fun h3 => ?_)
  refine z_aload_n dX7_copyFrom_48 0 rfl ?_
  refine z_aload_n dX7_copyFrom_49 1 rfl ?_
  refine z_getI fX7_21 kc_46 rfl dX7_copyFrom_50 ?_
  refine z_putI fX7_21 kc_42 rfl dX7_copyFrom_53 ?_
  refine z_lh (fun h4 => ?_)
  refine z_aload_n dX7_copyFrom_56 0 rfl ?_
  refine z_aload_n dX7_copyFrom_57 1 rfl ?_
  refine z_getI fX7_25 kc_46 rfl dX7_copyFrom_58 ?_
  refine z_putI fX7_25 kc_42 rfl dX7_copyFrom_61 ?_
  refine z_lh (fun h5 => ?_)
  exact z_vret dX7_copyFrom_64 rfl
theorem M_X7_copyFrom (h : AHp) : MV QX7_copyFrom 1 [.ref 42, .ref 46] h (m_X7_copyFrom h) := MV.of (by decide) rfl rfl (Nat.le_of_ble_eq_true rfl) (w_X7_copyFrom h)
set_option maxHeartbeats 4000000 in
set_option maxRecDepth 100000 in
theorem w_X11_undo (h : AHp) : WO tvI QX11_undo 2 0 [(0, .ref 0)] [] h (m_X11_undo h) := by
  unfold m_X11_undo
  refine z_aload_n dX11_undo_0 0 rfl ?_
  refine z_getI fX11_253 kc_0 rfl dX11_undo_1 ?_
  refine z_if_ne (tgt := 9) dX11_undo_4 (by decide) ?_ ?_
  · refine z_aload_n dX11_undo_9 0 rfl ?_
    refine z_getR (j := 42) fX11_38 kc_0 rfl rfl rfl (by decide) dX11_undo_10 ?_
    refine z_aload_n dX11_undo_13 0 rfl ?_
    refine z_getR (j := 46) fX11_42 kc_0 rfl rfl rfl (by decide) dX11_undo_14 ?_
    refine z_callVV dX11_undo_17 (M_X7_copyFrom _) bX7_copyFrom lX11_237 kc_42 rfl rfl (Nat.le_of_ble_eq_true rfl) (Nat.le_of_ble_eq_true rfl) (fun r1 h2 => ?_)
    refine z_aload_n dX11_undo_20 0 rfl ?_
    refine z_getR (j := 50) fX11_45 kc_0 rfl rfl rfl (by decide) dX11_undo_21 ?_
    refine z_iconst (v := 0) dX11_undo_24 (by decide) ?_
    refine z_aload_n dX11_undo_25 0 rfl ?_
    refine z_getR (j := 3) fX11_31 kc_0 rfl rfl rfl (by decide) dX11_undo_26 ?_
    refine z_getRN (j := 5) fX11_241 kc_3 rfl rfl rfl (by decide) dX11_undo_29 ?_
    refine z_iconst (v := 0) dX11_undo_32 (by decide) ?_
    refine z_bipush (v := 6) dX11_undo_33 (by decide) ?_
    refine z_copy kc_50 kc_5 dX11_undo_35 lX11_244 w_copy (Nat.le_of_ble_eq_true rfl) (Nat.le_of_ble_eq_true rfl) (by decide) ?_
    refine z_lh (fun h3 => ?_)
    refine z_aload_n dX11_undo_38 0 rfl ?_
    refine z_aload_n dX11_undo_39 0 rfl ?_
    refine z_getI fX11_250 kc_0 rfl dX11_undo_40 ?_
    refine z_putI fX11_88 kc_0 rfl dX11_undo_43 ?_
    refine z_lh (fun h4 => ?_)
    refine z_iconst (v := 1) dX11_undo_46 (by decide) ?_
    exact z_zret dX11_undo_47 rfl (Or.inr rfl)
  · refine z_iconst (v := 0) dX11_undo_7 (by decide) ?_
    exact z_zret dX11_undo_8 rfl (Or.inl rfl)
theorem M_X11_undo (h : AHp) : MI QX11_undo 2 [.ref 0] h (m_X11_undo h) := MI.of (by decide) rfl rfl (Nat.le_of_ble_eq_true rfl) (w_X11_undo h)
set_option maxHeartbeats 4000000 in
set_option maxRecDepth 100000 in
theorem w_X8_numberAt (x1 : Int32) (h : AHp) : WO tvI QX8_numberAt 1 0 [(0, .ref 1), (1, .int x1)] [] h (m_X8_numberAt x1 h) := by
  unfold m_X8_numberAt
  refine z_iconst (v := 4) dX8_numberAt_0 (by decide) ?_
  refine z_iload_n dX8_numberAt_1 1 rfl ?_
  refine z_imul dX8_numberAt_2 ?_
  refine z_istore_nL (lv2 := fun v1 => [(2, .int v1), (0, .ref 1), (1, .int x1)]) dX8_numberAt_3 (Nat.le_of_ble_eq_true rfl) (fun _ => rfl) (fun v1 => ?_)
  refine z_aload_n dX8_numberAt_4 1 rfl ?_
  refine z_iload_n dX8_numberAt_5 0 rfl ?_
  refine z_callVI dX8_numberAt_6 (M_X8_byteAt _ _) bX8_byteAt lX8_19 kc_1 rfl rfl (Nat.le_of_ble_eq_true rfl) (Nat.le_of_ble_eq_true rfl) (fun r2 h3 => ?_)
  refine z_bipush (v := 24) dX8_numberAt_9 (by decide) ?_
  refine z_ishl dX8_numberAt_11 ?_
  refine z_aload_n dX8_numberAt_12 1 rfl ?_
  refine z_iload_n dX8_numberAt_13 0 rfl ?_
  refine z_iconst (v := 1) dX8_numberAt_14 (by decide) ?_
  refine z_iadd dX8_numberAt_15 ?_
  refine z_callVI dX8_numberAt_16 (M_X8_byteAt _ _) bX8_byteAt lX8_19 kc_1 rfl rfl (Nat.le_of_ble_eq_true rfl) (Nat.le_of_ble_eq_true rfl) (fun r4 h5 => ?_)
  refine z_bipush (v := 16) dX8_numberAt_19 (by decide) ?_
  refine z_ishl dX8_numberAt_21 ?_
  refine z_ior dX8_numberAt_22 ?_
  refine z_aload_n dX8_numberAt_23 1 rfl ?_
  refine z_iload_n dX8_numberAt_24 0 rfl ?_
  refine z_iconst (v := 2) dX8_numberAt_25 (by decide) ?_
  refine z_iadd dX8_numberAt_26 ?_
  refine z_callVI dX8_numberAt_27 (M_X8_byteAt _ _) bX8_byteAt lX8_19 kc_1 rfl rfl (Nat.le_of_ble_eq_true rfl) (Nat.le_of_ble_eq_true rfl) (fun r6 h7 => ?_)
  refine z_bipush (v := 8) dX8_numberAt_30 (by decide) ?_
  refine z_ishl dX8_numberAt_32 ?_
  refine z_ior dX8_numberAt_33 ?_
  refine z_aload_n dX8_numberAt_34 1 rfl ?_
  refine z_iload_n dX8_numberAt_35 0 rfl ?_
  refine z_iconst (v := 3) dX8_numberAt_36 (by decide) ?_
  refine z_iadd dX8_numberAt_37 ?_
  refine z_callVI dX8_numberAt_38 (M_X8_byteAt _ _) bX8_byteAt lX8_19 kc_1 rfl rfl (Nat.le_of_ble_eq_true rfl) (Nat.le_of_ble_eq_true rfl) (fun r8 h9 => ?_)
  refine z_ior dX8_numberAt_41 ?_
  exact z_iret dX8_numberAt_42 rfl
theorem M_X8_numberAt (x1 : Int32) (h : AHp) : MI QX8_numberAt 1 [.ref 1, .int x1] h (m_X8_numberAt x1 h) := MI.of (by decide) rfl rfl (Nat.le_of_ble_eq_true rfl) (w_X8_numberAt x1 h)
set_option maxHeartbeats 4000000 in
set_option maxRecDepth 100000 in
theorem w_X11_check_41 : ∀ (f : Nat) (x1 : Int32) (x2 : Int32) (x3 : Int32) (h : AHp), WO tvI QX11_check 2 41 [(0, .ref 0), (1, .int x1), (2, .int x2), (3, .int x3)] [] h (m_X11_check_41 f x1 x2 x3 h) := by
  intro f
  induction f with
  | zero => intro x1 x2 x3 h; exact z_none
  | succ f ih =>
    intro x1 x2 x3 h
    rw [m_X11_check_41]
    refine z_iload_n dX11_check_41 3 rfl ?_
    refine z_iload_n dX11_check_42 1 rfl ?_
    refine z_ic_ge (tgt := 88) dX11_check_43 (by decide) ?_ ?_
    · refine z_aload_n dX11_check_88 0 rfl ?_
      refine z_getR (j := 1) fX11_18 kc_0 rfl rfl rfl (by decide) dX11_check_89 ?_
      refine z_callVV dX11_check_92 (M_X8_clear _) bX8_clear lX11_111 kc_1 rfl rfl (Nat.le_of_ble_eq_true rfl) (Nat.le_of_ble_eq_true rfl) (fun r1 h2 => ?_)
      refine z_iload_n dX11_check_95 2 rfl ?_
      exact z_iret dX11_check_96 rfl
    · refine z_iload_n dX11_check_46 2 rfl ?_
      refine z_iconst (v := -1) dX11_check_47 (by decide) ?_
      refine z_ic_ne (tgt := 88) dX11_check_48 (by decide) ?_ ?_
      · refine z_aload_n dX11_check_88 0 rfl ?_
        refine z_getR (j := 1) fX11_18 kc_0 rfl rfl rfl (by decide) dX11_check_89 ?_
        refine z_callVV dX11_check_92 (M_X8_clear _) bX8_clear lX11_111 kc_1 rfl rfl (Nat.le_of_ble_eq_true rfl) (Nat.le_of_ble_eq_true rfl) (fun r3 h4 => ?_)
        refine z_iload_n dX11_check_95 2 rfl ?_
        exact z_iret dX11_check_96 rfl
      · refine z_aload_n dX11_check_51 0 rfl ?_
        refine z_getR (j := 1) fX11_18 kc_0 rfl rfl rfl (by decide) dX11_check_52 ?_
        refine z_iload_n dX11_check_55 3 rfl ?_
        refine z_callVI dX11_check_56 (M_X8_numberAt _ _) bX8_numberAt lX11_257 kc_1 rfl rfl (Nat.le_of_ble_eq_true rfl) (Nat.le_of_ble_eq_true rfl) (fun r5 h6 => ?_)
        refine z_aload_n dX11_check_59 0 rfl ?_
        refine z_getR (j := 42) fX11_38 kc_0 rfl rfl rfl (by decide) dX11_check_60 ?_
        refine z_aload_n dX11_check_63 0 rfl ?_
        refine z_getR (j := 42) fX11_38 kc_0 rfl rfl rfl (by decide) dX11_check_64 ?_
        refine z_getIN fX11_157 kc_42 rfl dX11_check_67 ?_
        refine z_iload_n dX11_check_70 1 rfl ?_
        refine z_isub dX11_check_71 ?_
        refine z_iload_n dX11_check_72 3 rfl ?_
        refine z_iadd dX11_check_73 ?_
        refine z_callVI dX11_check_74 (M_X7_spanAt _ _) bX7_spanAt lX11_170 kc_42 rfl rfl (Nat.le_of_ble_eq_true rfl) (Nat.le_of_ble_eq_true rfl) (fun r7 h8 => ?_)
        refine z_ic_eq (tgt := 82) dX11_check_77 (by decide) ?_ ?_
        · refine z_iincL (lv2 := fun v9 => [(3, .int v9), (0, .ref 0), (1, .int x1), (2, .int x2)]) dX11_check_82 3 rfl rfl (Nat.le_of_ble_eq_true rfl) (fun _ => rfl) (fun v9 => ?_)
          refine z_goto (tgt := 41) dX11_check_85 (by decide) ?_
          exact z_sub [1, 2, 3, 0] rfl (ih _ _ _ _)
        · refine z_iload_n dX11_check_80 3 rfl ?_
          refine z_istore_n (lv2 := [(2, .int x3), (0, .ref 0), (1, .int x1), (3, .int x3)]) dX11_check_81 (Nat.le_of_ble_eq_true rfl) rfl ?_
          refine z_iincL (lv2 := fun v10 => [(3, .int v10), (2, .int x3), (0, .ref 0), (1, .int x1)]) dX11_check_82 3 rfl rfl (Nat.le_of_ble_eq_true rfl) (fun _ => rfl) (fun v10 => ?_)
          refine z_goto (tgt := 41) dX11_check_85 (by decide) ?_
          exact z_sub [2, 3, 1, 0] rfl (ih _ _ _ _)
set_option maxHeartbeats 4000000 in
set_option maxRecDepth 100000 in
theorem w_X11_check (x1 : Int32) (h : AHp) : WO tvI QX11_check 2 0 [(0, .ref 0), (1, .int x1)] [] h (m_X11_check x1 h) := by
  unfold m_X11_check
  refine z_iload_n dX11_check_0 1 rfl ?_
  refine z_if_lt (tgt := 34) dX11_check_1 (by decide) ?_ ?_
  · refine z_bipush (v := -2) dX11_check_34 (by decide) ?_
    exact z_iret dX11_check_36 rfl
  · refine z_iload_n dX11_check_4 1 rfl ?_
    refine z_bipush (v := 20) dX11_check_5 (by decide) ?_
    refine z_ic_gt (tgt := 34) dX11_check_7 (by decide) ?_ ?_
    · refine z_bipush (v := -2) dX11_check_34 (by decide) ?_
      exact z_iret dX11_check_36 rfl
    · refine z_iload_n dX11_check_10 1 rfl ?_
      refine z_aload_n dX11_check_11 0 rfl ?_
      refine z_getR (j := 42) fX11_38 kc_0 rfl rfl rfl (by decide) dX11_check_12 ?_
      refine z_getIN fX11_157 kc_42 rfl dX11_check_15 ?_
      refine z_ic_gt (tgt := 34) dX11_check_18 (by decide) ?_ ?_
      · refine z_bipush (v := -2) dX11_check_34 (by decide) ?_
        exact z_iret dX11_check_36 rfl
      · refine z_iconst (v := 4) dX11_check_21 (by decide) ?_
        refine z_iload_n dX11_check_22 1 rfl ?_
        refine z_imul dX11_check_23 ?_
        refine z_aload_n dX11_check_24 0 rfl ?_
        refine z_getR (j := 1) fX11_18 kc_0 rfl rfl rfl (by decide) dX11_check_25 ?_
        refine z_getIN fX11_92 kc_1 rfl dX11_check_28 ?_
        refine z_ic_le (tgt := 37) dX11_check_31 (by decide) ?_ ?_
        · refine z_iconst (v := -1) dX11_check_37 (by decide) ?_
          refine z_istore_n (lv2 := [(2, .int (-1)), (0, .ref 0), (1, .int x1)]) dX11_check_38 (Nat.le_of_ble_eq_true rfl) rfl ?_
          refine z_iconst (v := 0) dX11_check_39 (by decide) ?_
          refine z_istore_n (lv2 := [(3, .int 0), (2, .int (-1)), (0, .ref 0), (1, .int x1)]) dX11_check_40 (Nat.le_of_ble_eq_true rfl) rfl ?_
          exact z_sub [2, 3, 1, 0] rfl (w_X11_check_41 FU _ _ _ _)
        · refine z_bipush (v := -2) dX11_check_34 (by decide) ?_
          exact z_iret dX11_check_36 rfl
theorem M_X11_check (x1 : Int32) (h : AHp) : MI QX11_check 2 [.ref 0, .int x1] h (m_X11_check x1 h) := MI.of (by decide) rfl rfl (Nat.le_of_ble_eq_true rfl) (w_X11_check x1 h)
set_option maxHeartbeats 4000000 in
set_option maxRecDepth 100000 in
theorem w_X9_sayable_4 : ∀ (f : Nat) (x1 : Int32) (x2 : Int32) (h : AHp), WO tvI QX9_sayable 0 4 [(0, .ref 3), (1, .int x1), (2, .int x2)] [] h (m_X9_sayable_4 f x1 x2 h) := by
  intro f
  induction f with
  | zero => intro x1 x2 h; exact z_none
  | succ f ih =>
    intro x1 x2 h
    rw [m_X9_sayable_4]
    refine z_iload_n dX9_sayable_4 2 rfl ?_
    refine z_bipush (v := 12) dX9_sayable_5 (by decide) ?_
    refine z_ic_ge (tgt := 35) dX9_sayable_7 (by decide) ?_ ?_
    · refine z_iload_n dX9_sayable_35 1 rfl ?_
      exact z_iret dX9_sayable_36 rfl
    · refine z_iload_n dX9_sayable_10 1 rfl ?_
      refine z_aload_n dX9_sayable_11 0 rfl ?_
      refine z_getR (j := 4) fX9_9 kc_3 rfl rfl rfl (by decide) dX9_sayable_12 ?_
      refine z_iload_n dX9_sayable_15 2 rfl ?_
      refine z_gd (fun g1 => ?_)
      refine z_iald kc_4 dX9_sayable_16 g1 ?_
      refine z_if_eq (tgt := 26) dX9_sayable_17 (by decide) ?_ ?_
      · refine z_iconst (v := 0) dX9_sayable_26 (by decide) ?_
        refine z_ior dX9_sayable_27 ?_
        refine z_istore_nL (lv2 := fun v2 => [(1, .int v2), (0, .ref 3), (2, .int x2)]) dX9_sayable_28 (Nat.le_of_ble_eq_true rfl) (fun _ => rfl) (fun v2 => ?_)
        refine z_iincL (lv2 := fun v3 => [(2, .int v3), (1, .int v2), (0, .ref 3)]) dX9_sayable_29 2 rfl rfl (Nat.le_of_ble_eq_true rfl) (fun _ => rfl) (fun v3 => ?_)
        refine z_goto (tgt := 4) dX9_sayable_32 (by decide) ?_
        exact z_sub [2, 1, 0] rfl (ih _ _ _)
      · refine z_iconst (v := 1) dX9_sayable_20 (by decide) ?_
        refine z_iload_n dX9_sayable_21 2 rfl ?_
        refine z_ishl dX9_sayable_22 ?_
        refine z_goto (tgt := 27) dX9_sayable_23 (by decide) ?_
        refine z_ior dX9_sayable_27 ?_
        refine z_istore_nL (lv2 := fun v4 => [(1, .int v4), (0, .ref 3), (2, .int x2)]) dX9_sayable_28 (Nat.le_of_ble_eq_true rfl) (fun _ => rfl) (fun v4 => ?_)
        refine z_iincL (lv2 := fun v5 => [(2, .int v5), (1, .int v4), (0, .ref 3)]) dX9_sayable_29 2 rfl rfl (Nat.le_of_ble_eq_true rfl) (fun _ => rfl) (fun v5 => ?_)
        refine z_goto (tgt := 4) dX9_sayable_32 (by decide) ?_
        exact z_sub [2, 1, 0] rfl (ih _ _ _)
set_option maxHeartbeats 4000000 in
set_option maxRecDepth 100000 in
theorem w_X9_sayable (h : AHp) : WO tvI QX9_sayable 0 0 [(0, .ref 3)] [] h (m_X9_sayable h) := by
  unfold m_X9_sayable
  refine z_iconst (v := 0) dX9_sayable_0 (by decide) ?_
  refine z_istore_n (lv2 := [(1, .int 0), (0, .ref 3)]) dX9_sayable_1 (Nat.le_of_ble_eq_true rfl) rfl ?_
  refine z_iconst (v := 0) dX9_sayable_2 (by decide) ?_
  refine z_istore_n (lv2 := [(2, .int 0), (1, .int 0), (0, .ref 3)]) dX9_sayable_3 (Nat.le_of_ble_eq_true rfl) rfl ?_
  exact z_sub [2, 1, 0] rfl (w_X9_sayable_4 FU _ _ _)
theorem M_X9_sayable (h : AHp) : MI QX9_sayable 0 [.ref 3] h (m_X9_sayable h) := MI.of (by decide) rfl rfl (Nat.le_of_ble_eq_true rfl) (w_X9_sayable h)
set_option maxHeartbeats 4000000 in
set_option maxRecDepth 100000 in
theorem w_X7_saidBy_4 : ∀ (f : Nat) (x1 : Int32) (x2 : Int32) (x3 : Int32) (h : AHp), WO tvI QX7_saidBy 0 4 [(0, .ref 42), (1, .int x1), (2, .int x2), (3, .int x3)] [] h (m_X7_saidBy_4 f x1 x2 x3 h) := by
  intro f
  induction f with
  | zero => intro x1 x2 x3 h; exact z_none
  | succ f ih =>
    intro x1 x2 x3 h
    rw [m_X7_saidBy_4]
    refine z_iload_n dX7_saidBy_4 3 rfl ?_
    refine z_aload_n dX7_saidBy_5 0 rfl ?_
    refine z_getI fX7_21 kc_42 rfl dX7_saidBy_6 ?_
    refine z_ic_ge (tgt := 43) dX7_saidBy_9 (by decide) ?_ ?_
    · refine z_iload_n dX7_saidBy_43 2 rfl ?_
      exact z_iret dX7_saidBy_44 rfl
    · refine z_iload_n dX7_saidBy_12 3 rfl ?_
      refine z_sipush (v := 200) dX7_saidBy_13 (by decide) ?_
      refine z_ic_ge (tgt := 43) dX7_saidBy_16 (by decide) ?_ ?_
      · refine z_iload_n dX7_saidBy_43 2 rfl ?_
        exact z_iret dX7_saidBy_44 rfl
      · refine z_iload_n dX7_saidBy_19 2 rfl ?_
        refine z_aload_n dX7_saidBy_20 0 rfl ?_
        refine z_getR (j := 43) fX7_9 kc_42 rfl rfl rfl (by decide) dX7_saidBy_21 ?_
        refine z_iload_n dX7_saidBy_24 3 rfl ?_
        refine z_gd (fun g1 => ?_)
        refine z_iald kc_43 dX7_saidBy_25 g1 ?_
        refine z_iload_n dX7_saidBy_26 1 rfl ?_
        refine z_ic_ne (tgt := 34) dX7_saidBy_27 (by decide) ?_ ?_
        · refine z_iconst (v := 0) dX7_saidBy_34 (by decide) ?_
          refine z_iadd dX7_saidBy_35 ?_
          refine z_istore_nL (lv2 := fun v2 => [(2, .int v2), (0, .ref 42), (1, .int x1), (3, .int x3)]) dX7_saidBy_36 (Nat.le_of_ble_eq_true rfl) (fun _ => rfl) (fun v2 => ?_)
          refine z_iincL (lv2 := fun v3 => [(3, .int v3), (2, .int v2), (0, .ref 42), (1, .int x1)]) dX7_saidBy_37 3 rfl rfl (Nat.le_of_ble_eq_true rfl) (fun _ => rfl) (fun v3 => ?_)
          refine z_goto (tgt := 4) dX7_saidBy_40 (by decide) ?_
          exact z_sub [2, 3, 1, 0] rfl (ih _ _ _ _)
        · refine z_iconst (v := 1) dX7_saidBy_30 (by decide) ?_
          refine z_goto (tgt := 35) dX7_saidBy_31 (by decide) ?_
          refine z_iadd dX7_saidBy_35 ?_
          refine z_istore_nL (lv2 := fun v4 => [(2, .int v4), (0, .ref 42), (1, .int x1), (3, .int x3)]) dX7_saidBy_36 (Nat.le_of_ble_eq_true rfl) (fun _ => rfl) (fun v4 => ?_)
          refine z_iincL (lv2 := fun v5 => [(3, .int v5), (2, .int v4), (0, .ref 42), (1, .int x1)]) dX7_saidBy_37 3 rfl rfl (Nat.le_of_ble_eq_true rfl) (fun _ => rfl) (fun v5 => ?_)
          refine z_goto (tgt := 4) dX7_saidBy_40 (by decide) ?_
          exact z_sub [2, 3, 1, 0] rfl (ih _ _ _ _)
set_option maxHeartbeats 4000000 in
set_option maxRecDepth 100000 in
theorem w_X7_saidBy (x1 : Int32) (h : AHp) : WO tvI QX7_saidBy 0 0 [(0, .ref 42), (1, .int x1)] [] h (m_X7_saidBy x1 h) := by
  unfold m_X7_saidBy
  refine z_iconst (v := 0) dX7_saidBy_0 (by decide) ?_
  refine z_istore_n (lv2 := [(2, .int 0), (0, .ref 42), (1, .int x1)]) dX7_saidBy_1 (Nat.le_of_ble_eq_true rfl) rfl ?_
  refine z_iconst (v := 0) dX7_saidBy_2 (by decide) ?_
  refine z_istore_n (lv2 := [(3, .int 0), (2, .int 0), (0, .ref 42), (1, .int x1)]) dX7_saidBy_3 (Nat.le_of_ble_eq_true rfl) rfl ?_
  exact z_sub [2, 3, 1, 0] rfl (w_X7_saidBy_4 FU _ _ _ _)
theorem M_X7_saidBy (x1 : Int32) (h : AHp) : MI QX7_saidBy 0 [.ref 42, .int x1] h (m_X7_saidBy x1 h) := MI.of (by decide) rfl rfl (Nat.le_of_ble_eq_true rfl) (w_X7_saidBy x1 h)
set_option maxHeartbeats 4000000 in
set_option maxRecDepth 100000 in
theorem w_X11_count_48 (x1 : Int32) (h : AHp) : WO tvI QX11_count 2 48 [(0, .ref 0), (1, .int x1)] [] h (m_X11_count_48 x1 h) := by
  unfold m_X11_count_48
  refine z_iload_n dX11_count_48 1 rfl ?_
  refine z_ite (fun c1 => ?_) (fun c1 => ?_)
  · refine z_tin (tgt := 100) (off := 51) dX11_count_49 (by rw [c1]; decide) (by rw [c1]; decide) (by rw [c1]; decide) (by decide) ?_
    refine z_aload_n dX11_count_100 0 rfl ?_
    refine z_getR (j := 42) fX11_38 kc_0 rfl rfl rfl (by decide) dX11_count_101 ?_
    refine z_getIN fX11_157 kc_42 rfl dX11_count_104 ?_
    exact z_iret dX11_count_107 rfl
  · refine z_ite (fun c2 => ?_) (fun c2 => ?_)
    · refine z_tin (tgt := 108) (off := 59) dX11_count_49 (by rw [c2]; decide) (by rw [c2]; decide) (by rw [c2]; decide) (by decide) ?_
      refine z_aload_n dX11_count_108 0 rfl ?_
      refine z_getR (j := 42) fX11_38 kc_0 rfl rfl rfl (by decide) dX11_count_109 ?_
      refine z_getIN fX11_266 kc_42 rfl dX11_count_112 ?_
      exact z_iret dX11_count_115 rfl
    · refine z_ite (fun c3 => ?_) (fun c3 => ?_)
      · refine z_tin (tgt := 116) (off := 67) dX11_count_49 (by rw [c3]; decide) (by rw [c3]; decide) (by rw [c3]; decide) (by decide) ?_
        refine z_aload_n dX11_count_116 0 rfl ?_
        refine z_getR (j := 3) fX11_31 kc_0 rfl rfl rfl (by decide) dX11_count_117 ?_
        refine z_gd (fun g4 => ?_)
        refine z_getMN fX11_269 kc_3 rfl rfl (law_ne g4) dX11_count_120 ?_
        refine z_getIN fX11_272 (law_k g4) rfl dX11_count_123 ?_
        exact z_iret dX11_count_126 rfl
      · refine z_ite (fun c5 => ?_) (fun c5 => ?_)
        · refine z_tin (tgt := 127) (off := 78) dX11_count_49 (by rw [c5]; decide) (by rw [c5]; decide) (by rw [c5]; decide) (by decide) ?_
          refine z_aload_n dX11_count_127 0 rfl ?_
          refine z_getR (j := 3) fX11_31 kc_0 rfl rfl rfl (by decide) dX11_count_128 ?_
          refine z_gd (fun g6 => ?_)
          refine z_getMN fX11_277 kc_3 rfl rfl (law_ne g6) dX11_count_131 ?_
          refine z_getIN fX11_272 (law_k g6) rfl dX11_count_134 ?_
          exact z_iret dX11_count_137 rfl
        · refine z_ite (fun c7 => ?_) (fun c7 => ?_)
          · refine z_tin (tgt := 138) (off := 89) dX11_count_49 (by rw [c7]; decide) (by rw [c7]; decide) (by rw [c7]; decide) (by decide) ?_
            refine z_aload_n dX11_count_138 0 rfl ?_
            refine z_getR (j := 1) fX11_18 kc_0 rfl rfl rfl (by decide) dX11_count_139 ?_
            refine z_getIN fX11_92 kc_1 rfl dX11_count_142 ?_
            exact z_iret dX11_count_145 rfl
          · refine z_ite (fun c8 => ?_) (fun c8 => ?_)
            · refine z_tin (tgt := 146) (off := 97) dX11_count_49 (by rw [c8]; decide) (by rw [c8]; decide) (by rw [c8]; decide) (by decide) ?_
              refine z_aload_n dX11_count_146 0 rfl ?_
              refine z_getI fX11_88 kc_0 rfl dX11_count_147 ?_
              exact z_iret dX11_count_150 rfl
            · refine z_ite (fun c9 => ?_) (fun c9 => ?_)
              · refine z_tin (tgt := 151) (off := 102) dX11_count_49 (by rw [c9]; decide) (by rw [c9]; decide) (by rw [c9]; decide) (by decide) ?_
                refine z_aload_n dX11_count_151 0 rfl ?_
                refine z_getR (j := 3) fX11_31 kc_0 rfl rfl rfl (by decide) dX11_count_152 ?_
                refine z_callVI dX11_count_155 (M_X9_sayable _) bX9_sayable lX11_280 kc_3 rfl rfl (Nat.le_of_ble_eq_true rfl) (Nat.le_of_ble_eq_true rfl) (fun r10 h11 => ?_)
                exact z_iret dX11_count_158 rfl
              · refine z_ite (fun c12 => ?_) (fun c12 => ?_)
                · refine z_tin (tgt := 159) (off := 110) dX11_count_49 (by rw [c12]; decide) (by rw [c12]; decide) (by rw [c12]; decide) (by decide) ?_
                  refine z_aload_n dX11_count_159 0 rfl ?_
                  refine z_getR (j := 42) fX11_38 kc_0 rfl rfl rfl (by decide) dX11_count_160 ?_
                  refine z_aload_n dX11_count_163 0 rfl ?_
                  refine z_getR (j := 42) fX11_38 kc_0 rfl rfl rfl (by decide) dX11_count_164 ?_
                  refine z_getIN fX11_157 kc_42 rfl dX11_count_167 ?_
                  refine z_iconst (v := 1) dX11_count_170 (by decide) ?_
                  refine z_isub dX11_count_171 ?_
                  refine z_callVI dX11_count_172 (M_X7_spanAt _ _) bX7_spanAt lX11_170 kc_42 rfl rfl (Nat.le_of_ble_eq_true rfl) (Nat.le_of_ble_eq_true rfl) (fun r13 h14 => ?_)
                  exact z_iret dX11_count_175 rfl
                · refine z_ite (fun c15 => ?_) (fun c15 => ?_)
                  · refine z_tin (tgt := 176) (off := 127) dX11_count_49 (by rw [c15]; decide) (by rw [c15]; decide) (by rw [c15]; decide) (by decide) ?_
                    refine z_aload_n dX11_count_176 0 rfl ?_
                    refine z_getR (j := 42) fX11_38 kc_0 rfl rfl rfl (by decide) dX11_count_177 ?_
                    refine z_aload_n dX11_count_180 0 rfl ?_
                    refine z_getR (j := 42) fX11_38 kc_0 rfl rfl rfl (by decide) dX11_count_181 ?_
                    refine z_getIN fX11_157 kc_42 rfl dX11_count_184 ?_
                    refine z_iconst (v := 2) dX11_count_187 (by decide) ?_
                    refine z_isub dX11_count_188 ?_
                    refine z_callVI dX11_count_189 (M_X7_spanAt _ _) bX7_spanAt lX11_170 kc_42 rfl rfl (Nat.le_of_ble_eq_true rfl) (Nat.le_of_ble_eq_true rfl) (fun r16 h17 => ?_)
                    exact z_iret dX11_count_192 rfl
                  · refine z_tout (tgt := 193) dX11_count_49 (by have a0 := n32 (k := 0) c1 rfl; have a1 := n32 (k := 1) c2 rfl; have a2 := n32 (k := 2) c3 rfl; have a3 := n32 (k := 3) c5 rfl; have a4 := n32 (k := 4) c7 rfl; have a5 := n32 (k := 5) c8 rfl; have a6 := n32 (k := 6) c9 rfl; have a7 := n32 (k := 7) c12 rfl; have a8 := n32 (k := 8) c15 rfl; omega) (by decide) ?_
                    refine z_iconst (v := -1) dX11_count_193 (by decide) ?_
                    exact z_iret dX11_count_194 rfl
set_option maxHeartbeats 4000000 in
set_option maxRecDepth 100000 in
theorem w_X11_count_24 (x1 : Int32) (h : AHp) : WO tvI QX11_count 2 24 [(0, .ref 0), (1, .int x1)] [] h (m_X11_count_24 x1 h) := by
  unfold m_X11_count_24
  refine z_iload_n dX11_count_24 1 rfl ?_
  refine z_bipush (v := 20) dX11_count_25 (by decide) ?_
  refine z_ic_lt (tgt := 48) dX11_count_27 (by decide) ?_ ?_
  · exact w_X11_count_48 _ _
  · refine z_iload_n dX11_count_30 1 rfl ?_
    refine z_bipush (v := 26) dX11_count_31 (by decide) ?_
    refine z_ic_ge (tgt := 48) dX11_count_33 (by decide) ?_ ?_
    · exact w_X11_count_48 _ _
    · refine z_aload_n dX11_count_36 0 rfl ?_
      refine z_getR (j := 42) fX11_38 kc_0 rfl rfl rfl (by decide) dX11_count_37 ?_
      refine z_iload_n dX11_count_40 1 rfl ?_
      refine z_bipush (v := 20) dX11_count_41 (by decide) ?_
      refine z_isub dX11_count_43 ?_
      refine z_callVI dX11_count_44 (M_X7_saidBy _ _) bX7_saidBy lX11_263 kc_42 rfl rfl (Nat.le_of_ble_eq_true rfl) (Nat.le_of_ble_eq_true rfl) (fun r18 h19 => ?_)
      exact z_iret dX11_count_47 rfl
set_option maxHeartbeats 4000000 in
set_option maxRecDepth 100000 in
theorem w_X11_count (x1 : Int32) (h : AHp) : WO tvI QX11_count 2 0 [(0, .ref 0), (1, .int x1)] [] h (m_X11_count x1 h) := by
  unfold m_X11_count
  refine z_iload_n dX11_count_0 1 rfl ?_
  refine z_bipush (v := 10) dX11_count_1 (by decide) ?_
  refine z_ic_lt (tgt := 24) dX11_count_3 (by decide) ?_ ?_
  · exact w_X11_count_24 _ _
  · refine z_iload_n dX11_count_6 1 rfl ?_
    refine z_bipush (v := 16) dX11_count_7 (by decide) ?_
    refine z_ic_ge (tgt := 24) dX11_count_9 (by decide) ?_ ?_
    · exact w_X11_count_24 _ _
    · refine z_aload_n dX11_count_12 0 rfl ?_
      refine z_getR (j := 3) fX11_31 kc_0 rfl rfl rfl (by decide) dX11_count_13 ?_
      refine z_iload_n dX11_count_16 1 rfl ?_
      refine z_bipush (v := 10) dX11_count_17 (by decide) ?_
      refine z_isub dX11_count_19 ?_
      refine z_callVI dX11_count_20 (M_X9_colourOf _ _) bX9_colourOf lX11_260 kc_3 rfl rfl (Nat.le_of_ble_eq_true rfl) (Nat.le_of_ble_eq_true rfl) (fun r20 h21 => ?_)
      exact z_iret dX11_count_23 rfl
theorem M_X11_count (x1 : Int32) (h : AHp) : MI QX11_count 2 [.ref 0, .int x1] h (m_X11_count x1 h) := MI.of (by decide) rfl rfl (Nat.le_of_ble_eq_true rfl) (w_X11_count x1 h)
