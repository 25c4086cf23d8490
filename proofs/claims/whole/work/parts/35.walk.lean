set_option maxHeartbeats 4000000 in
set_option maxRecDepth 100000 in
theorem w_X12_lies (x0 : Int64) (x2 : Int64) (x4 : Int64) (h : AHp) : WO tvI QX12_lies 0 0 [(0, .long x0), (2, .long x2), (4, .long x4)] [] h (m_X12_lies x0 x2 x4 h) := by
  unfold m_X12_lies
  refine z_lload_n dX12_lies_0 0 rfl ?_
  refine z_lload_n dX12_lies_1 1 rfl ?_
  refine z_lcmp dX12_lies_2 ?_
  refine z_if_lt (tgt := 17) dX12_lies_3 (by decide) ?_ ?_
  · refine z_iconst (v := 0) dX12_lies_17 (by decide) ?_
    exact z_zret dX12_lies_18 rfl (Or.inl rfl)
  · refine z_lload_n dX12_lies_6 0 rfl ?_
    refine z_lload dX12_lies_7 2 rfl ?_
    refine z_lcmp dX12_lies_9 ?_
    refine z_if_gt (tgt := 17) dX12_lies_10 (by decide) ?_ ?_
    · refine z_iconst (v := 0) dX12_lies_17 (by decide) ?_
      exact z_zret dX12_lies_18 rfl (Or.inl rfl)
    · refine z_iconst (v := 1) dX12_lies_13 (by decide) ?_
      refine z_goto (tgt := 18) dX12_lies_14 (by decide) ?_
      exact z_zret dX12_lies_18 rfl (Or.inr rfl)
theorem M_X12_lies (x0 : Int64) (x2 : Int64) (x4 : Int64) (h : AHp) : MI QX12_lies 0 [.long x0, .long x2, .long x4] h (m_X12_lies x0 x2 x4 h) := MI.of (by decide) rfl rfl (Nat.le_of_ble_eq_true rfl) (w_X12_lies x0 x2 x4 h)
set_option maxHeartbeats 4000000 in
set_option maxRecDepth 100000 in
theorem w_X12_has (x0 : Int32) (x1 : Int32) (h : AHp) : WO tvI QX12_has 0 0 [(0, .int x0), (1, .int x1)] [] h (m_X12_has x0 x1 h) := by
  unfold m_X12_has
  refine z_iload_n dX12_has_0 0 rfl ?_
  refine z_iload_n dX12_has_1 1 rfl ?_
  refine z_ishr dX12_has_2 ?_
  refine z_iconst (v := 1) dX12_has_3 (by decide) ?_
  refine z_iand dX12_has_4 ?_
  refine z_iconst (v := 1) dX12_has_5 (by decide) ?_
  refine z_ic_ne (tgt := 13) dX12_has_6 (by decide) ?_ ?_
  · refine z_iconst (v := 0) dX12_has_13 (by decide) ?_
    exact z_zret dX12_has_14 rfl (Or.inl rfl)
  · refine z_iconst (v := 1) dX12_has_9 (by decide) ?_
    refine z_goto (tgt := 14) dX12_has_10 (by decide) ?_
    exact z_zret dX12_has_14 rfl (Or.inr rfl)
theorem M_X12_has (x0 : Int32) (x1 : Int32) (h : AHp) : MI QX12_has 0 [.int x0, .int x1] h (m_X12_has x0 x1 h) := MI.of (by decide) rfl rfl (Nat.le_of_ble_eq_true rfl) (w_X12_has x0 x1 h)
set_option maxHeartbeats 4000000 in
set_option maxRecDepth 100000 in
theorem w_X12_sizeOf_4 : ∀ (f : Nat) (x1 : Int32) (x2 : Int32) (h : AHp), WO tvI QX12_sizeOf 0 4 [(1, .int x1), (2, .int x2)] [] h (m_X12_sizeOf_4 f x1 x2 h) := by
  intro f
  induction f with
  | zero => intro x1 x2 h; exact z_none
  | succ f ih =>
    intro x1 x2 h
    rw [m_X12_sizeOf_4]
    refine z_iload_n dX12_sizeOf_4 1 rfl ?_
    refine z_if_eq (tgt := 20) dX12_sizeOf_5 (by decide) ?_ ?_
    · refine z_iload_n dX12_sizeOf_20 0 rfl ?_
      exact z_iret dX12_sizeOf_21 rfl
    · refine z_iincL (lv2 := fun v1 => [(1, .int v1), (2, .int x2)]) dX12_sizeOf_8 0 rfl rfl (Nat.le_of_ble_eq_true rfl) (fun _ => rfl) (fun v1 => ?_)
      refine z_iload_n dX12_sizeOf_11 1 rfl ?_
      refine z_iload_n dX12_sizeOf_12 1 rfl ?_
      refine z_iconst (v := 1) dX12_sizeOf_13 (by decide) ?_
      refine z_isub dX12_sizeOf_14 ?_
      refine z_iand dX12_sizeOf_15 ?_
      refine z_istore_nL (lv2 := fun v2 => [(2, .int v2), (1, .int v1)]) dX12_sizeOf_16 (Nat.le_of_ble_eq_true rfl) (fun _ => rfl) (fun v2 => ?_)
      refine z_goto (tgt := 4) dX12_sizeOf_17 (by decide) ?_
      exact z_sub [1, 0] rfl (ih _ _ _)
set_option maxHeartbeats 4000000 in
set_option maxRecDepth 100000 in
theorem w_X12_sizeOf (x0 : Int32) (h : AHp) : WO tvI QX12_sizeOf 0 0 [(0, .int x0)] [] h (m_X12_sizeOf x0 h) := by
  unfold m_X12_sizeOf
  refine z_iconst (v := 0) dX12_sizeOf_0 (by decide) ?_
  refine z_istore_n (lv2 := [(1, .int 0), (0, .int x0)]) dX12_sizeOf_1 (Nat.le_of_ble_eq_true rfl) rfl ?_
  refine z_iload_n dX12_sizeOf_2 1 rfl ?_
  refine z_istore_n (lv2 := [(2, .int x0), (1, .int 0), (0, .int x0)]) dX12_sizeOf_3 (Nat.le_of_ble_eq_true rfl) rfl ?_
  exact z_sub [1, 0] rfl (w_X12_sizeOf_4 FU _ _ _)
theorem M_X12_sizeOf (x0 : Int32) (h : AHp) : MI QX12_sizeOf 0 [.int x0] h (m_X12_sizeOf x0 h) := MI.of (by decide) rfl rfl (Nat.le_of_ble_eq_true rfl) (w_X12_sizeOf x0 h)
set_option maxHeartbeats 4000000 in
set_option maxRecDepth 100000 in
theorem w_X12_push_3 : ∀ (f : Nat) (x1 : Int32) (x2 : Int32) (h : AHp), WO tvV QX12_push 0 3 [(0, .ref 70), (1, .int x1), (2, .int x2)] [] h (m_X12_push_3 f x1 x2 h) := by
  intro f
  induction f with
  | zero => intro x1 x2 h; exact z_none
  | succ f ih =>
    intro x1 x2 h
    rw [m_X12_push_3]
    refine z_iload_n dX12_push_3 2 rfl ?_
    refine z_if_lt (tgt := 36) dX12_push_4 (by decide) ?_ ?_
    · exact z_vret dX12_push_36 rfl
    · refine z_aload_n dX12_push_7 0 rfl ?_
      refine z_getR (j := 71) fX12_7 kc_70 rfl rfl rfl (by decide) dX12_push_8 ?_
      refine z_aload_n dX12_push_11 0 rfl ?_
      refine z_getI fX12_157 kc_70 rfl dX12_push_12 ?_
      refine z_iload_n dX12_push_15 1 rfl ?_
      refine z_iload_n dX12_push_16 2 rfl ?_
      refine z_ishr dX12_push_17 ?_
      refine z_i2b dX12_push_18 ?_
      refine z_gd (fun g2 => ?_)
      refine z_bast kc_71 dX12_push_19 g2 ?_
      refine z_lh (fun h1 => ?_)
      refine z_aload_n dX12_push_20 0 rfl ?_
      refine z_dup dX12_push_21 rfl ?_
      refine z_getI fX12_157 kc_70 rfl dX12_push_22 ?_
      refine z_iconst (v := 1) dX12_push_25 (by decide) ?_
      refine z_iadd dX12_push_26 ?_
      refine z_putI fX12_157 kc_70 rfl dX12_push_27 ?_
      refine z_lh (fun h3 => ?_)
      refine z_iincL (lv2 := fun v4 => [(2, .int v4), (0, .ref 70), (1, .int x1)]) dX12_push_30 2 rfl rfl (Nat.le_of_ble_eq_true rfl) (fun _ => rfl) (fun v4 => ?_)
      refine z_goto (tgt := 3) dX12_push_33 (by decide) ?_
      exact z_sub [1, 2, 0] rfl (ih _ _ _)
set_option maxHeartbeats 4000000 in
set_option maxRecDepth 100000 in
theorem w_X12_push (x1 : Int32) (h : AHp) : WO tvV QX12_push 0 0 [(0, .ref 70), (1, .int x1)] [] h (m_X12_push x1 h) := by
  unfold m_X12_push
  refine z_bipush (v := 24) dX12_push_0 (by decide) ?_
  refine z_istore_n (lv2 := [(2, .int 24), (0, .ref 70), (1, .int x1)]) dX12_push_2 (Nat.le_of_ble_eq_true rfl) rfl ?_
  exact z_sub [1, 2, 0] rfl (w_X12_push_3 FU _ _ _)
theorem M_X12_push (x1 : Int32) (h : AHp) : MV QX12_push 0 [.ref 70, .int x1] h (m_X12_push x1 h) := MV.of (by decide) rfl rfl (Nat.le_of_ble_eq_true rfl) (w_X12_push x1 h)
set_option maxHeartbeats 4000000 in
set_option maxRecDepth 100000 in
theorem w_X12_feed (x1 : Int32) (x2 : Int32) (x3 : Int32) (x4 : Int32) (x5 : Int32) (h : AHp) : WO tvI QX12_feed 1 0 [(0, .ref 70), (1, .int x1), (2, .int x2), (3, .int x3), (4, .int x4), (5, .int x5)] [] h (m_X12_feed x1 x2 x3 x4 x5 h) := by
  unfold m_X12_feed
  refine z_aload_n dX12_feed_0 0 rfl ?_
  refine z_getI fX12_157 kc_70 rfl dX12_feed_1 ?_
  refine z_bipush (v := 20) dX12_feed_4 (by decide) ?_
  refine z_iadd dX12_feed_6 ?_
  refine z_sipush (v := 220) dX12_feed_7 (by decide) ?_
  refine z_ic_le (tgt := 15) dX12_feed_10 (by decide) ?_ ?_
  · refine z_aload_n dX12_feed_15 0 rfl ?_
    refine z_iload_n dX12_feed_16 1 rfl ?_
    refine z_callVV dX12_feed_17 (M_X12_push _ _) bX12_push lX12_160 kc_70 rfl rfl (Nat.le_of_ble_eq_true rfl) (Nat.le_of_ble_eq_true rfl) (fun r1 h2 => ?_)
    refine z_aload_n dX12_feed_20 0 rfl ?_
    refine z_iload_n dX12_feed_21 2 rfl ?_
    refine z_callVV dX12_feed_22 (M_X12_push _ _) bX12_push lX12_160 kc_70 rfl rfl (Nat.le_of_ble_eq_true rfl) (Nat.le_of_ble_eq_true rfl) (fun r3 h4 => ?_)
    refine z_aload_n dX12_feed_25 0 rfl ?_
    refine z_iload_n dX12_feed_26 3 rfl ?_
    refine z_callVV dX12_feed_27 (M_X12_push _ _) bX12_push lX12_160 kc_70 rfl rfl (Nat.le_of_ble_eq_true rfl) (Nat.le_of_ble_eq_true rfl) (fun r5 h6 => ?_)
    refine z_aload_n dX12_feed_30 0 rfl ?_
    refine z_iload dX12_feed_31 4 rfl ?_
    refine z_callVV dX12_feed_33 (M_X12_push _ _) bX12_push lX12_160 kc_70 rfl rfl (Nat.le_of_ble_eq_true rfl) (Nat.le_of_ble_eq_true rfl) (fun r7 h8 => ?_)
    refine z_aload_n dX12_feed_36 0 rfl ?_
    refine z_iload dX12_feed_37 5 rfl ?_
    refine z_callVV dX12_feed_39 (M_X12_push _ _) bX12_push lX12_160 kc_70 rfl rfl (Nat.le_of_ble_eq_true rfl) (Nat.le_of_ble_eq_true rfl) (fun r9 h10 => ?_)
    refine z_aload_n dX12_feed_42 0 rfl ?_
    refine z_getI fX12_157 kc_70 rfl dX12_feed_43 ?_
    exact z_iret dX12_feed_46 rfl
  · refine z_iconst (v := -1) dX12_feed_13 (by decide) ?_
    exact z_iret dX12_feed_14 rfl
theorem M_X12_feed (x1 : Int32) (x2 : Int32) (x3 : Int32) (x4 : Int32) (x5 : Int32) (h : AHp) : MI QX12_feed 1 [.ref 70, .int x1, .int x2, .int x3, .int x4, .int x5] h (m_X12_feed x1 x2 x3 x4 x5 h) := MI.of (by decide) rfl rfl (Nat.le_of_ble_eq_true rfl) (w_X12_feed x1 x2 x3 x4 x5 h)
set_option maxHeartbeats 4000000 in
set_option maxRecDepth 100000 in
theorem w_X12_byteAt (x1 : Int32) (h : AHp) : WO tvI QX12_byteAt 0 0 [(0, .ref 70), (1, .int x1)] [] h (m_X12_byteAt x1 h) := by
  unfold m_X12_byteAt
  refine z_aload_n dX12_byteAt_0 0 rfl ?_
  refine z_getR (j := 71) fX12_7 kc_70 rfl rfl rfl (by decide) dX12_byteAt_1 ?_
  refine z_iload_n dX12_byteAt_4 1 rfl ?_
  refine z_gd (fun g1 => ?_)
  refine z_bald kc_71 dX12_byteAt_5 g1 ?_
  refine z_sipush (v := 255) dX12_byteAt_6 (by decide) ?_
  refine z_iand dX12_byteAt_9 ?_
  exact z_iret dX12_byteAt_10 rfl
theorem M_X12_byteAt (x1 : Int32) (h : AHp) : MI QX12_byteAt 0 [.ref 70, .int x1] h (m_X12_byteAt x1 h) := MI.of (by decide) rfl rfl (Nat.le_of_ble_eq_true rfl) (w_X12_byteAt x1 h)
set_option maxHeartbeats 4000000 in
set_option maxRecDepth 100000 in
theorem w_X12_here (h : AHp) : WO tvI QX12_here 0 0 [(0, .ref 70)] [] h (m_X12_here h) := by
  unfold m_X12_here
  refine z_aload_n dX12_here_0 0 rfl ?_
  refine z_getI fX12_164 kc_70 rfl dX12_here_1 ?_
  refine z_aload_n dX12_here_4 0 rfl ?_
  refine z_getI fX12_167 kc_70 rfl dX12_here_5 ?_
  refine z_ic_ge (tgt := 27) dX12_here_8 (by decide) ?_ ?_
  · refine z_iconst (v := 0) dX12_here_27 (by decide) ?_
    exact z_iret dX12_here_28 rfl
  · refine z_aload_n dX12_here_11 0 rfl ?_
    refine z_getR (j := 71) fX12_7 kc_70 rfl rfl rfl (by decide) dX12_here_12 ?_
    refine z_aload_n dX12_here_15 0 rfl ?_
    refine z_getI fX12_164 kc_70 rfl dX12_here_16 ?_
    refine z_gd (fun g1 => ?_)
    refine z_bald kc_71 dX12_here_19 g1 ?_
    refine z_sipush (v := 255) dX12_here_20 (by decide) ?_
    refine z_iand dX12_here_23 ?_
    refine z_goto (tgt := 28) dX12_here_24 (by decide) ?_
    exact z_iret dX12_here_28 rfl
theorem M_X12_here (h : AHp) : MI QX12_here 0 [.ref 70] h (m_X12_here h) := MI.of (by decide) rfl rfl (Nat.le_of_ble_eq_true rfl) (w_X12_here h)
set_option maxHeartbeats 4000000 in
set_option maxRecDepth 100000 in
theorem w_X12_wrongs (x1 : Int32) (x2 : Int32) (h : AHp) : WO tvV QX12_wrongs 0 0 [(0, .ref 70), (1, .int x1), (2, .int x2)] [] h (m_X12_wrongs x1 x2 h) := by
  unfold m_X12_wrongs
  refine z_aload_n dX12_wrongs_0 0 rfl ?_
  refine z_aload_n dX12_wrongs_1 0 rfl ?_
  refine z_getI fX12_170 kc_70 rfl dX12_wrongs_2 ?_
  refine z_if_ge (tgt := 15) dX12_wrongs_5 (by decide) ?_ ?_
  · refine z_sipush (v := -1000) dX12_wrongs_15 (by decide) ?_
    refine z_iload_n dX12_wrongs_18 1 rfl ?_
    refine z_imul dX12_wrongs_19 ?_
    refine z_iload_n dX12_wrongs_20 2 rfl ?_
    refine z_isub dX12_wrongs_21 ?_
    refine z_putI fX12_170 kc_70 rfl dX12_wrongs_22 ?_
    refine z_lh (fun h1 => ?_)
    exact z_vret dX12_wrongs_25 rfl
  · refine z_aload_n dX12_wrongs_8 0 rfl ?_
    refine z_getI fX12_170 kc_70 rfl dX12_wrongs_9 ?_
    refine z_goto (tgt := 22) dX12_wrongs_12 (by decide) ?_
    refine z_putI fX12_170 kc_70 rfl dX12_wrongs_22 ?_
    refine z_lh (fun h2 => ?_)
    exact z_vret dX12_wrongs_25 rfl
theorem M_X12_wrongs (x1 : Int32) (x2 : Int32) (h : AHp) : MV QX12_wrongs 0 [.ref 70, .int x1, .int x2] h (m_X12_wrongs x1 x2 h) := MV.of (by decide) rfl rfl (Nat.le_of_ble_eq_true rfl) (w_X12_wrongs x1 x2 h)
set_option maxHeartbeats 4000000 in
set_option maxRecDepth 100000 in
theorem w_X12_isGood (h : AHp) : WO tvI QX12_isGood 0 0 [(0, .ref 70)] [] h (m_X12_isGood h) := by
  unfold m_X12_isGood
  refine z_aload_n dX12_isGood_0 0 rfl ?_
  refine z_getI fX12_170 kc_70 rfl dX12_isGood_1 ?_
  refine z_if_ne (tgt := 11) dX12_isGood_4 (by decide) ?_ ?_
  · refine z_iconst (v := 0) dX12_isGood_11 (by decide) ?_
    exact z_zret dX12_isGood_12 rfl (Or.inl rfl)
  · refine z_iconst (v := 1) dX12_isGood_7 (by decide) ?_
    refine z_goto (tgt := 12) dX12_isGood_8 (by decide) ?_
    exact z_zret dX12_isGood_12 rfl (Or.inr rfl)
theorem M_X12_isGood (h : AHp) : MI QX12_isGood 0 [.ref 70] h (m_X12_isGood h) := MI.of (by decide) rfl rfl (Nat.le_of_ble_eq_true rfl) (w_X12_isGood h)
set_option maxHeartbeats 4000000 in
set_option maxRecDepth 100000 in
theorem w_X12_seesDigit (h : AHp) : WO tvI QX12_seesDigit 1 0 [(0, .ref 70)] [] h (m_X12_seesDigit h) := by
  unfold m_X12_seesDigit
  refine z_aload_n dX12_seesDigit_0 0 rfl ?_
  refine z_callVI dX12_seesDigit_1 (M_X12_here _) bX12_here lX12_173 kc_70 rfl rfl (Nat.le_of_ble_eq_true rfl) (Nat.le_of_ble_eq_true rfl) (fun r1 h2 => ?_)
  refine z_i2l dX12_seesDigit_4 ?_
  refine z_ldc2 dX12_seesDigit_5 kX12_177 ?_
  refine z_ldc2 dX12_seesDigit_8 kX12_179 ?_
  refine z_callSI dX12_seesDigit_11 (M_X12_lies _ _ _ _) bX12_lies lX12_181 rfl rfl (Nat.le_of_ble_eq_true rfl) (Nat.le_of_ble_eq_true rfl) (fun r3 h4 => ?_)
  refine z_gd (fun g5 => ?_)
  exact z_zret dX12_seesDigit_14 rfl g5
theorem M_X12_seesDigit (h : AHp) : MI QX12_seesDigit 1 [.ref 70] h (m_X12_seesDigit h) := MI.of (by decide) rfl rfl (Nat.le_of_ble_eq_true rfl) (w_X12_seesDigit h)
set_option maxHeartbeats 4000000 in
set_option maxRecDepth 100000 in
theorem w_X12_isThing (x0 : Int32) (h : AHp) : WO tvI QX12_isThing 1 0 [(0, .int x0)] [] h (m_X12_isThing x0 h) := by
  unfold m_X12_isThing
  refine z_iload_n dX12_isThing_0 0 rfl ?_
  refine z_i2l dX12_isThing_1 ?_
  refine z_lconst (v := 0) dX12_isThing_2 (by decide) ?_
  refine z_ldc2 dX12_isThing_3 kX12_185 ?_
  refine z_callSI dX12_isThing_6 (M_X12_lies _ _ _ _) bX12_lies lX12_181 rfl rfl (Nat.le_of_ble_eq_true rfl) (Nat.le_of_ble_eq_true rfl) (fun r1 h2 => ?_)
  refine z_gd (fun g3 => ?_)
  exact z_zret dX12_isThing_9 rfl g3
theorem M_X12_isThing (x0 : Int32) (h : AHp) : MI QX12_isThing 1 [.int x0] h (m_X12_isThing x0 h) := MI.of (by decide) rfl rfl (Nat.le_of_ble_eq_true rfl) (w_X12_isThing x0 h)
set_option maxHeartbeats 4000000 in
set_option maxRecDepth 100000 in
theorem w_X12_behind_4 : ∀ (f : Nat) (x0 : Int32) (x1 : Int32) (x2 : Int32) (x3 : Int32) (h : AHp), WO tvI QX12_behind 1 4 [(0, .int x0), (1, .int x1), (2, .int x2), (3, .int x3)] [] h (m_X12_behind_4 f x0 x1 x2 x3 h) := by
  intro f
  induction f with
  | zero => intro x0 x1 x2 x3 h; exact z_none
  | succ f ih =>
    intro x0 x1 x2 x3 h
    rw [m_X12_behind_4]
    refine z_iload_n dX12_behind_4 3 rfl ?_
    refine z_bipush (v := 24) dX12_behind_5 (by decide) ?_
    refine z_ic_gt (tgt := 30) dX12_behind_7 (by decide) ?_ ?_
    · refine z_iload_n dX12_behind_30 2 rfl ?_
      refine z_ldc dX12_behind_31 kX12_191 ?_
      refine z_iand dX12_behind_33 ?_
      exact z_iret dX12_behind_34 rfl
    · refine z_iload_n dX12_behind_10 0 rfl ?_
      refine z_iload_n dX12_behind_11 3 rfl ?_
      refine z_callSI dX12_behind_12 (M_X12_has _ _ _) bX12_has lX12_187 rfl rfl (Nat.le_of_ble_eq_true rfl) (Nat.le_of_ble_eq_true rfl) (fun r1 h2 => ?_)
      refine z_if_eq (tgt := 24) dX12_behind_15 (by decide) ?_ ?_
      · refine z_iincL (lv2 := fun v3 => [(3, .int v3), (0, .int x0), (1, .int x1), (2, .int x2)]) dX12_behind_24 3 rfl rfl (Nat.le_of_ble_eq_true rfl) (fun _ => rfl) (fun v3 => ?_)
        refine z_goto (tgt := 4) dX12_behind_27 (by decide) ?_
        exact z_sub [1, 2, 3, 0] rfl (ih _ _ _ _ _)
      · refine z_iload_n dX12_behind_18 2 rfl ?_
        refine z_iload_n dX12_behind_19 1 rfl ?_
        refine z_iload_n dX12_behind_20 3 rfl ?_
        refine z_ishl dX12_behind_21 ?_
        refine z_ior dX12_behind_22 ?_
        refine z_istore_nL (lv2 := fun v4 => [(2, .int v4), (0, .int x0), (1, .int x1), (3, .int x3)]) dX12_behind_23 (Nat.le_of_ble_eq_true rfl) (fun _ => rfl) (fun v4 => ?_)
        refine z_iincL (lv2 := fun v5 => [(3, .int v5), (2, .int v4), (0, .int x0), (1, .int x1)]) dX12_behind_24 3 rfl rfl (Nat.le_of_ble_eq_true rfl) (fun _ => rfl) (fun v5 => ?_)
        refine z_goto (tgt := 4) dX12_behind_27 (by decide) ?_
        exact z_sub [2, 3, 1, 0] rfl (ih _ _ _ _ _)
set_option maxHeartbeats 4000000 in
set_option maxRecDepth 100000 in
theorem w_X12_behind (x0 : Int32) (x1 : Int32) (h : AHp) : WO tvI QX12_behind 1 0 [(0, .int x0), (1, .int x1)] [] h (m_X12_behind x0 x1 h) := by
  unfold m_X12_behind
  refine z_iconst (v := 0) dX12_behind_0 (by decide) ?_
  refine z_istore_n (lv2 := [(2, .int 0), (0, .int x0), (1, .int x1)]) dX12_behind_1 (Nat.le_of_ble_eq_true rfl) rfl ?_
  refine z_iconst (v := 0) dX12_behind_2 (by decide) ?_
  refine z_istore_n (lv2 := [(3, .int 0), (2, .int 0), (0, .int x0), (1, .int x1)]) dX12_behind_3 (Nat.le_of_ble_eq_true rfl) rfl ?_
  exact z_sub [2, 3, 1, 0] rfl (w_X12_behind_4 FU _ _ _ _ _)
theorem M_X12_behind (x0 : Int32) (x1 : Int32) (h : AHp) : MI QX12_behind 1 [.int x0, .int x1] h (m_X12_behind x0 x1 h) := MI.of (by decide) rfl rfl (Nat.le_of_ble_eq_true rfl) (w_X12_behind x0 x1 h)
set_option maxHeartbeats 4000000 in
set_option maxRecDepth 100000 in
theorem w_X12_begins (h : AHp) : WO tvV QX12_begins 0 0 [(0, .ref 70)] [] h (m_X12_begins h) := by
  unfold m_X12_begins
  refine z_aload_n dX12_begins_0 0 rfl ?_
  refine z_getR (j := 73) fX12_21 kc_70 rfl rfl rfl (by decide) dX12_begins_1 ?_
  refine z_aload_n dX12_begins_4 0 rfl ?_
  refine z_getI fX12_192 kc_70 rfl dX12_begins_5 ?_
  refine z_iconst (v := 0) dX12_begins_8 (by decide) ?_
  refine z_gd (fun g2 => ?_)
  refine z_iast kc_73 dX12_begins_9 g2 ?_
  refine z_lh (fun h1 => ?_)
  refine z_aload_n dX12_begins_10 0 rfl ?_
  refine z_getR (j := 74) fX12_24 kc_70 rfl rfl rfl (by decide) dX12_begins_11 ?_
  refine z_aload_n dX12_begins_14 0 rfl ?_
  refine z_getI fX12_192 kc_70 rfl dX12_begins_15 ?_
  refine z_iconst (v := 1) dX12_begins_18 (by decide) ?_
  refine z_gd (fun g4 => ?_)
  refine z_iast kc_74 dX12_begins_19 g4 ?_
  refine z_lh (fun h3 => ?_)
  refine z_aload_n dX12_begins_20 0 rfl ?_
  refine z_getR (j := 76) fX12_30 kc_70 rfl rfl rfl (by decide) dX12_begins_21 ?_
  refine z_aload_n dX12_begins_24 0 rfl ?_
  refine z_getI fX12_192 kc_70 rfl dX12_begins_25 ?_
  refine z_iconst (v := 0) dX12_begins_28 (by decide) ?_
  refine z_gd (fun g6 => ?_)
  refine z_zast kc_76 dX12_begins_29 g6 ?_
  refine z_lh (fun h5 => ?_)
  exact z_vret dX12_begins_30 rfl
theorem M_X12_begins (h : AHp) : MV QX12_begins 0 [.ref 70] h (m_X12_begins h) := MV.of (by decide) rfl rfl (Nat.le_of_ble_eq_true rfl) (w_X12_begins h)
set_option maxHeartbeats 4000000 in
set_option maxRecDepth 100000 in
theorem w_X12_repeated_26 : ∀ (f : Nat) (x1 : Int32) (x3 : Int32) (x4 : Int32) (h : AHp), WO tvI QX12_repeated 2 26 [(1, .int x1), (3, .int x3), (4, .int x4)] [] h (m_X12_repeated_26 f x1 x3 x4 h) := by
  intro f
  induction f with
  | zero => intro x1 x3 x4 h; exact z_none
  | succ f ih =>
    intro x1 x3 x4 h
    rw [m_X12_repeated_26]
    refine z_iload dX12_repeated_26 2 rfl ?_
    refine z_bipush (v := 24) dX12_repeated_28 (by decide) ?_
    refine z_ic_gt (tgt := 47) dX12_repeated_30 (by decide) ?_ ?_
    · refine z_goto (tgt := 98) dX12_repeated_47 (by decide) ?_
      refine z_iload_n dX12_repeated_98 1 rfl ?_
      exact z_iret dX12_repeated_99 rfl
    · refine z_iload_n dX12_repeated_33 1 rfl ?_
      refine z_iload_n dX12_repeated_34 1 rfl ?_
      refine z_iload_n dX12_repeated_35 0 rfl ?_
      refine z_callSI dX12_repeated_36 (M_X12_behind _ _ _) bX12_behind lX12_195 rfl rfl (Nat.le_of_ble_eq_true rfl) (Nat.le_of_ble_eq_true rfl) (fun r1 h2 => ?_)
      refine z_ior dX12_repeated_39 ?_
      refine z_istore_nL (lv2 := fun v3 => [(3, .int v3), (1, .int x1), (4, .int x4)]) dX12_repeated_40 (Nat.le_of_ble_eq_true rfl) (fun _ => rfl) (fun v3 => ?_)
      refine z_iincL (lv2 := fun v4 => [(4, .int v4), (3, .int v3), (1, .int x1)]) dX12_repeated_41 2 rfl rfl (Nat.le_of_ble_eq_true rfl) (fun _ => rfl) (fun v4 => ?_)
      refine z_goto (tgt := 26) dX12_repeated_44 (by decide) ?_
      exact z_sub [2, 1, 0] rfl (ih _ _ _ _)
set_option maxHeartbeats 4000000 in
set_option maxRecDepth 100000 in
theorem w_X12_repeated_77 : ∀ (f : Nat) (x1 : Int32) (x2 : Int32) (x3 : Int32) (x4 : Int32) (h : AHp), WO tvI QX12_repeated 2 77 [(1, .int x1), (2, .int x2), (3, .int x3), (4, .int x4)] [] h (m_X12_repeated_77 f x1 x2 x3 x4 h) := by
  intro f
  induction f with
  | zero => intro x1 x2 x3 x4 h; exact z_none
  | succ f ih =>
    intro x1 x2 x3 x4 h
    rw [m_X12_repeated_77]
    refine z_iload dX12_repeated_77 3 rfl ?_
    refine z_iload_n dX12_repeated_79 1 rfl ?_
    refine z_bipush (v := 48) dX12_repeated_80 (by decide) ?_
    refine z_isub dX12_repeated_82 ?_
    refine z_ic_ge (tgt := 98) dX12_repeated_83 (by decide) ?_ ?_
    · refine z_iload_n dX12_repeated_98 2 rfl ?_
      exact z_iret dX12_repeated_99 rfl
    · refine z_iload_n dX12_repeated_86 2 rfl ?_
      refine z_iload_n dX12_repeated_87 0 rfl ?_
      refine z_callSI dX12_repeated_88 (M_X12_behind _ _ _) bX12_behind lX12_195 rfl rfl (Nat.le_of_ble_eq_true rfl) (Nat.le_of_ble_eq_true rfl) (fun r5 h6 => ?_)
      refine z_istore_n (lv2 := [(3, .int r5), (1, .int x1), (2, .int x2), (4, .int x4)]) dX12_repeated_91 (Nat.le_of_ble_eq_true rfl) rfl ?_
      refine z_iincL (lv2 := fun v7 => [(4, .int v7), (3, .int r5), (1, .int x1), (2, .int x2)]) dX12_repeated_92 3 rfl rfl (Nat.le_of_ble_eq_true rfl) (fun _ => rfl) (fun v7 => ?_)
      refine z_goto (tgt := 77) dX12_repeated_95 (by decide) ?_
      exact z_sub [2, 3, 1, 0] rfl (ih _ _ _ _ _)
set_option maxHeartbeats 4000000 in
set_option maxRecDepth 100000 in
theorem w_X12_repeated (x1 : Int32) (h : AHp) : WO tvI QX12_repeated 2 0 [(0, .ref 70), (1, .int x1)] [] h (m_X12_repeated x1 h) := by
  unfold m_X12_repeated
  refine z_aload_n dX12_repeated_0 0 rfl ?_
  refine z_callVI dX12_repeated_1 (M_X12_here _) bX12_here lX12_173 kc_70 rfl rfl (Nat.le_of_ble_eq_true rfl) (Nat.le_of_ble_eq_true rfl) (fun r8 h9 => ?_)
  refine z_istore_n (lv2 := [(2, .int r8), (0, .ref 70), (1, .int x1)]) dX12_repeated_4 (Nat.le_of_ble_eq_true rfl) rfl ?_
  refine z_iload_n dX12_repeated_5 2 rfl ?_
  refine z_istore_n (lv2 := [(3, .int x1), (2, .int r8), (0, .ref 70), (1, .int x1)]) dX12_repeated_6 (Nat.le_of_ble_eq_true rfl) rfl ?_
  refine z_iload_n dX12_repeated_7 1 rfl ?_
  refine z_bipush (v := 43) dX12_repeated_8 (by decide) ?_
  refine z_ic_ne (tgt := 50) dX12_repeated_10 (by decide) ?_ ?_
  · refine z_iload_n dX12_repeated_50 1 rfl ?_
    refine z_i2l dX12_repeated_51 ?_
    refine z_ldc2 dX12_repeated_52 kX12_199 ?_
    refine z_ldc2 dX12_repeated_55 kX12_179 ?_
    refine z_callSI dX12_repeated_58 (M_X12_lies _ _ _ _) bX12_lies lX12_181 rfl rfl (Nat.le_of_ble_eq_true rfl) (Nat.le_of_ble_eq_true rfl) (fun r10 h11 => ?_)
    refine z_if_eq (tgt := 98) dX12_repeated_61 (by decide) ?_ ?_
    · refine z_iload_n dX12_repeated_98 0 rfl ?_
      exact z_iret dX12_repeated_99 rfl
    · refine z_aload_n dX12_repeated_64 2 rfl ?_
      refine z_dup dX12_repeated_65 rfl ?_
      refine z_getI fX12_164 kc_70 rfl dX12_repeated_66 ?_
      refine z_iconst (v := 1) dX12_repeated_69 (by decide) ?_
      refine z_iadd dX12_repeated_70 ?_
      refine z_putI fX12_164 kc_70 rfl dX12_repeated_71 ?_
      refine z_lh (fun h12 => ?_)
      refine z_iconst (v := 1) dX12_repeated_74 (by decide) ?_
      refine z_istore (lv2 := [(4, .int 1), (3, .int x1), (2, .int r8), (0, .ref 70), (1, .int x1)]) dX12_repeated_75 (Nat.le_of_ble_eq_true rfl) rfl ?_
      exact z_sub [4, 2, 1, 0] rfl (w_X12_repeated_77 FU _ _ _ _ _)
  · refine z_aload_n dX12_repeated_13 2 rfl ?_
    refine z_dup dX12_repeated_14 rfl ?_
    refine z_getI fX12_164 kc_70 rfl dX12_repeated_15 ?_
    refine z_iconst (v := 1) dX12_repeated_18 (by decide) ?_
    refine z_iadd dX12_repeated_19 ?_
    refine z_putI fX12_164 kc_70 rfl dX12_repeated_20 ?_
    refine z_lh (fun h13 => ?_)
    refine z_iconst (v := 1) dX12_repeated_23 (by decide) ?_
    refine z_istore (lv2 := [(4, .int 1), (3, .int x1), (2, .int r8), (0, .ref 70), (1, .int x1)]) dX12_repeated_24 (Nat.le_of_ble_eq_true rfl) rfl ?_
    exact z_sub [4, 1, 0] rfl (w_X12_repeated_26 FU _ _ _ _)
theorem M_X12_repeated (x1 : Int32) (h : AHp) : MI QX12_repeated 2 [.ref 70, .int x1] h (m_X12_repeated x1 h) := MI.of (by decide) rfl rfl (Nat.le_of_ble_eq_true rfl) (w_X12_repeated x1 h)
set_option maxHeartbeats 4000000 in
set_option maxRecDepth 100000 in
theorem w_X12_adds (x1 : Int32) (h : AHp) : WO tvV QX12_adds 3 0 [(0, .ref 70), (1, .int x1)] [] h (m_X12_adds x1 h) := by
  unfold m_X12_adds
  refine z_aload_n dX12_adds_0 0 rfl ?_
  refine z_getR (j := 74) fX12_24 kc_70 rfl rfl rfl (by decide) dX12_adds_1 ?_
  refine z_aload_n dX12_adds_4 0 rfl ?_
  refine z_getI fX12_192 kc_70 rfl dX12_adds_5 ?_
  refine z_aload_n dX12_adds_8 0 rfl ?_
  refine z_getR (j := 74) fX12_24 kc_70 rfl rfl rfl (by decide) dX12_adds_9 ?_
  refine z_aload_n dX12_adds_12 0 rfl ?_
  refine z_getI fX12_192 kc_70 rfl dX12_adds_13 ?_
  refine z_gd (fun g1 => ?_)
  refine z_iald kc_74 dX12_adds_16 g1 ?_
  refine z_aload_n dX12_adds_17 0 rfl ?_
  refine z_iload_n dX12_adds_18 1 rfl ?_
  refine z_callVI dX12_adds_19 (M_X12_repeated _ _) bX12_repeated lX12_201 kc_70 rfl rfl (Nat.le_of_ble_eq_true rfl) (Nat.le_of_ble_eq_true rfl) (fun r2 h3 => ?_)
  refine z_callSI dX12_adds_22 (M_X12_behind _ _ _) bX12_behind lX12_195 rfl rfl (Nat.le_of_ble_eq_true rfl) (Nat.le_of_ble_eq_true rfl) (fun r4 h5 => ?_)
  refine z_gd (fun g7 => ?_)
  refine z_iast kc_74 dX12_adds_25 g7 ?_
  refine z_lh (fun h6 => ?_)
  refine z_aload_n dX12_adds_26 0 rfl ?_
  refine z_getR (j := 76) fX12_30 kc_70 rfl rfl rfl (by decide) dX12_adds_27 ?_
  refine z_aload_n dX12_adds_30 0 rfl ?_
  refine z_getI fX12_192 kc_70 rfl dX12_adds_31 ?_
  refine z_iconst (v := 1) dX12_adds_34 (by decide) ?_
  refine z_gd (fun g9 => ?_)
  refine z_zast kc_76 dX12_adds_35 g9 ?_
  refine z_lh (fun h8 => ?_)
  exact z_vret dX12_adds_36 rfl
theorem M_X12_adds (x1 : Int32) (h : AHp) : MV QX12_adds 3 [.ref 70, .int x1] h (m_X12_adds x1 h) := MV.of (by decide) rfl rfl (Nat.le_of_ble_eq_true rfl) (w_X12_adds x1 h)
set_option maxHeartbeats 4000000 in
set_option maxRecDepth 100000 in
theorem w_X12_endsWay_21 (h : AHp) : WO tvV QX12_endsWay 1 21 [(0, .ref 70)] [] h (m_X12_endsWay_21 h) := by
  unfold m_X12_endsWay_21
  refine z_aload_n dX12_endsWay_21 0 rfl ?_
  refine z_getR (j := 73) fX12_21 kc_70 rfl rfl rfl (by decide) dX12_endsWay_22 ?_
  refine z_aload_n dX12_endsWay_25 0 rfl ?_
  refine z_getI fX12_192 kc_70 rfl dX12_endsWay_26 ?_
  refine z_dup2 dX12_endsWay_29 rfl rfl ?_
  refine z_gd (fun g1 => ?_)
  refine z_iald kc_73 dX12_endsWay_30 g1 ?_
  refine z_aload_n dX12_endsWay_31 0 rfl ?_
  refine z_getR (j := 74) fX12_24 kc_70 rfl rfl rfl (by decide) dX12_endsWay_32 ?_
  refine z_aload_n dX12_endsWay_35 0 rfl ?_
  refine z_getI fX12_192 kc_70 rfl dX12_endsWay_36 ?_
  refine z_gd (fun g2 => ?_)
  refine z_iald kc_74 dX12_endsWay_39 g2 ?_
  refine z_ior dX12_endsWay_40 ?_
  refine z_gd (fun g4 => ?_)
  refine z_iast kc_73 dX12_endsWay_41 g4 ?_
  refine z_lh (fun h3 => ?_)
  refine z_aload_n dX12_endsWay_42 0 rfl ?_
  refine z_getR (j := 74) fX12_24 kc_70 rfl rfl rfl (by decide) dX12_endsWay_43 ?_
  refine z_aload_n dX12_endsWay_46 0 rfl ?_
  refine z_getI fX12_192 kc_70 rfl dX12_endsWay_47 ?_
  refine z_iconst (v := 1) dX12_endsWay_50 (by decide) ?_
  refine z_gd (fun g6 => ?_)
  refine z_iast kc_74 dX12_endsWay_51 g6 ?_
  refine z_lh (fun h5 => ?_)
  refine z_aload_n dX12_endsWay_52 0 rfl ?_
  refine z_getR (j := 76) fX12_30 kc_70 rfl rfl rfl (by decide) dX12_endsWay_53 ?_
  refine z_aload_n dX12_endsWay_56 0 rfl ?_
  refine z_getI fX12_192 kc_70 rfl dX12_endsWay_57 ?_
  refine z_iconst (v := 0) dX12_endsWay_60 (by decide) ?_
  refine z_gd (fun g8 => ?_)
  refine z_zast kc_76 dX12_endsWay_61 g8 ?_
  refine z_lh (fun h7 => ?_)
  exact z_vret dX12_endsWay_62 rfl
set_option maxHeartbeats 4000000 in
set_option maxRecDepth 100000 in
theorem w_X12_endsWay (h : AHp) : WO tvV QX12_endsWay 1 0 [(0, .ref 70)] [] h (m_X12_endsWay h) := by
  unfold m_X12_endsWay
  refine z_aload_n dX12_endsWay_0 0 rfl ?_
  refine z_getR (j := 76) fX12_30 kc_70 rfl rfl rfl (by decide) dX12_endsWay_1 ?_
  refine z_aload_n dX12_endsWay_4 0 rfl ?_
  refine z_getI fX12_192 kc_70 rfl dX12_endsWay_5 ?_
  refine z_gd (fun g9 => ?_)
  refine z_zald kc_76 dX12_endsWay_8 g9 ?_
  refine z_if_ne (tgt := 21) dX12_endsWay_9 (by decide) ?_ ?_
  · exact w_X12_endsWay_21 _
  · refine z_aload_n dX12_endsWay_12 0 rfl ?_
    refine z_iconst (v := 1) dX12_endsWay_13 (by decide) ?_
    refine z_aload_n dX12_endsWay_14 0 rfl ?_
    refine z_getI fX12_164 kc_70 rfl dX12_endsWay_15 ?_
    refine z_callVV dX12_endsWay_18 (M_X12_wrongs _ _ _) bX12_wrongs lX12_205 kc_70 rfl rfl (Nat.le_of_ble_eq_true rfl) (Nat.le_of_ble_eq_true rfl) (fun r10 h11 => ?_)
    exact w_X12_endsWay_21 _
theorem M_X12_endsWay (h : AHp) : MV QX12_endsWay 1 [.ref 70] h (m_X12_endsWay h) := MV.of (by decide) rfl rfl (Nat.le_of_ble_eq_true rfl) (w_X12_endsWay h)
set_option maxHeartbeats 4000000 in
set_option maxRecDepth 100000 in
theorem w_X12_closes_81 (s0 : Int32) (s1 : Int32) (h : AHp) : WO tvV QX12_closes 4 81 [(0, .ref 70)] [.int s1, .int s0] h (m_X12_closes_81 s0 s1 h) := by
  unfold m_X12_closes_81
  refine z_ior dX12_closes_81 ?_
  refine z_istore_nL (lv2 := fun v1 => [(2, .int v1), (0, .ref 70)]) dX12_closes_82 (Nat.le_of_ble_eq_true rfl) (fun _ => rfl) (fun v1 => ?_)
  refine z_aload_n dX12_closes_83 1 rfl ?_
  refine z_dup dX12_closes_84 rfl ?_
  refine z_getI fX12_192 kc_70 rfl dX12_closes_85 ?_
  refine z_iconst (v := 1) dX12_closes_88 (by decide) ?_
  refine z_isub dX12_closes_89 ?_
  refine z_putI fX12_192 kc_70 rfl dX12_closes_90 ?_
  refine z_lh (fun h2 => ?_)
  refine z_aload_n dX12_closes_93 1 rfl ?_
  refine z_dup dX12_closes_94 rfl ?_
  refine z_getI fX12_164 kc_70 rfl dX12_closes_95 ?_
  refine z_iconst (v := 1) dX12_closes_98 (by decide) ?_
  refine z_iadd dX12_closes_99 ?_
  refine z_putI fX12_164 kc_70 rfl dX12_closes_100 ?_
  refine z_lh (fun h3 => ?_)
  refine z_aload_n dX12_closes_103 1 rfl ?_
  refine z_iload_n dX12_closes_104 0 rfl ?_
  refine z_callVV dX12_closes_105 (M_X12_adds _ _) bX12_adds lX12_216 kc_70 rfl rfl (Nat.le_of_ble_eq_true rfl) (Nat.le_of_ble_eq_true rfl) (fun r4 h5 => ?_)
  exact z_vret dX12_closes_108 rfl
set_option maxHeartbeats 4000000 in
set_option maxRecDepth 100000 in
theorem w_X12_closes_41 (x1 : Int32) (h : AHp) : WO tvV QX12_closes 4 41 [(0, .ref 70), (1, .int x1)] [] h (m_X12_closes_41 x1 h) := by
  unfold m_X12_closes_41
  refine z_aload_n dX12_closes_41 0 rfl ?_
  refine z_callVI dX12_closes_42 (M_X12_isGood _) bX12_isGood lX12_209 kc_70 rfl rfl (Nat.le_of_ble_eq_true rfl) (Nat.le_of_ble_eq_true rfl) (fun r6 h7 => ?_)
  refine z_if_ne (tgt := 49) dX12_closes_45 (by decide) ?_ ?_
  · refine z_aload_n dX12_closes_49 0 rfl ?_
    refine z_callVV dX12_closes_50 (M_X12_endsWay _) bX12_endsWay lX12_213 kc_70 rfl rfl (Nat.le_of_ble_eq_true rfl) (Nat.le_of_ble_eq_true rfl) (fun r8 h9 => ?_)
    refine z_aload_n dX12_closes_53 0 rfl ?_
    refine z_callVI dX12_closes_54 (M_X12_isGood _) bX12_isGood lX12_209 kc_70 rfl rfl (Nat.le_of_ble_eq_true rfl) (Nat.le_of_ble_eq_true rfl) (fun r10 h11 => ?_)
    refine z_if_ne (tgt := 61) dX12_closes_57 (by decide) ?_ ?_
    · refine z_aload_n dX12_closes_61 0 rfl ?_
      refine z_getR (j := 73) fX12_21 kc_70 rfl rfl rfl (by decide) dX12_closes_62 ?_
      refine z_aload_n dX12_closes_65 0 rfl ?_
      refine z_getI fX12_192 kc_70 rfl dX12_closes_66 ?_
      refine z_gd (fun g12 => ?_)
      refine z_iald kc_73 dX12_closes_69 g12 ?_
      refine z_iload_n dX12_closes_70 1 rfl ?_
      refine z_bipush (v := 93) dX12_closes_71 (by decide) ?_
      refine z_ic_ne (tgt := 80) dX12_closes_73 (by decide) ?_ ?_
      · refine z_iconst (v := 0) dX12_closes_80 (by decide) ?_
        exact z_sub [0] rfl (w_X12_closes_81 _ _ _)
      · refine z_iconst (v := 1) dX12_closes_76 (by decide) ?_
        refine z_goto (tgt := 81) dX12_closes_77 (by decide) ?_
        exact z_sub [0] rfl (w_X12_closes_81 _ _ _)
    · exact z_vret dX12_closes_60 rfl
  · exact z_vret dX12_closes_48 rfl
set_option maxHeartbeats 4000000 in
set_option maxRecDepth 100000 in
theorem w_X12_closes_29 (x1 : Int32) (s0 : Int32) (s1 : Int32) (h : AHp) : WO tvV QX12_closes 4 29 [(0, .ref 70), (1, .int x1)] [.int s1, .int s0] h (m_X12_closes_29 x1 s0 s1 h) := by
  unfold m_X12_closes_29
  refine z_ic_eq (tgt := 41) dX12_closes_29 (by decide) ?_ ?_
  · exact w_X12_closes_41 _ _
  · refine z_aload_n dX12_closes_32 0 rfl ?_
    refine z_iconst (v := 1) dX12_closes_33 (by decide) ?_
    refine z_aload_n dX12_closes_34 0 rfl ?_
    refine z_getI fX12_164 kc_70 rfl dX12_closes_35 ?_
    refine z_callVV dX12_closes_38 (M_X12_wrongs _ _ _) bX12_wrongs lX12_205 kc_70 rfl rfl (Nat.le_of_ble_eq_true rfl) (Nat.le_of_ble_eq_true rfl) (fun r13 h14 => ?_)
    exact w_X12_closes_41 _ _
set_option maxHeartbeats 4000000 in
set_option maxRecDepth 100000 in
theorem w_X12_closes (x1 : Int32) (h : AHp) : WO tvV QX12_closes 4 0 [(0, .ref 70), (1, .int x1)] [] h (m_X12_closes x1 h) := by
  unfold m_X12_closes
  refine z_aload_n dX12_closes_0 0 rfl ?_
  refine z_getI fX12_192 kc_70 rfl dX12_closes_1 ?_
  refine z_if_eq (tgt := 32) dX12_closes_4 (by decide) ?_ ?_
  · refine z_aload_n dX12_closes_32 0 rfl ?_
    refine z_iconst (v := 1) dX12_closes_33 (by decide) ?_
    refine z_aload_n dX12_closes_34 0 rfl ?_
    refine z_getI fX12_164 kc_70 rfl dX12_closes_35 ?_
    refine z_callVV dX12_closes_38 (M_X12_wrongs _ _ _) bX12_wrongs lX12_205 kc_70 rfl rfl (Nat.le_of_ble_eq_true rfl) (Nat.le_of_ble_eq_true rfl) (fun r15 h16 => ?_)
    exact w_X12_closes_41 _ _
  · refine z_aload_n dX12_closes_7 0 rfl ?_
    refine z_getR (j := 75) fX12_27 kc_70 rfl rfl rfl (by decide) dX12_closes_8 ?_
    refine z_aload_n dX12_closes_11 0 rfl ?_
    refine z_getI fX12_192 kc_70 rfl dX12_closes_12 ?_
    refine z_gd (fun g17 => ?_)
    refine z_iald kc_75 dX12_closes_15 g17 ?_
    refine z_iload_n dX12_closes_16 1 rfl ?_
    refine z_bipush (v := 41) dX12_closes_17 (by decide) ?_
    refine z_ic_ne (tgt := 27) dX12_closes_19 (by decide) ?_ ?_
    · refine z_bipush (v := 91) dX12_closes_27 (by decide) ?_
      exact w_X12_closes_29 _ _ _ _
    · refine z_bipush (v := 40) dX12_closes_22 (by decide) ?_
      refine z_goto (tgt := 29) dX12_closes_24 (by decide) ?_
      exact w_X12_closes_29 _ _ _ _
theorem M_X12_closes (x1 : Int32) (h : AHp) : MV QX12_closes 4 [.ref 70, .int x1] h (m_X12_closes x1 h) := MV.of (by decide) rfl rfl (Nat.le_of_ble_eq_true rfl) (w_X12_closes x1 h)
set_option maxHeartbeats 4000000 in
set_option maxRecDepth 100000 in
theorem w_X12_sign_67 (x1 : Int32) (h : AHp) : WO tvV QX12_sign 5 67 [(0, .ref 70), (1, .int x1)] [] h (m_X12_sign_67 x1 h) := by
  unfold m_X12_sign_67
  refine z_aload_n dX12_sign_67 0 rfl ?_
  refine z_callVI dX12_sign_68 (M_X12_isGood _) bX12_isGood lX12_209 kc_70 rfl rfl (Nat.le_of_ble_eq_true rfl) (Nat.le_of_ble_eq_true rfl) (fun r1 h2 => ?_)
  refine z_if_ne (tgt := 75) dX12_sign_71 (by decide) ?_ ?_
  · refine z_aload_n dX12_sign_75 0 rfl ?_
    refine z_dup dX12_sign_76 rfl ?_
    refine z_getI fX12_192 kc_70 rfl dX12_sign_77 ?_
    refine z_iconst (v := 1) dX12_sign_80 (by decide) ?_
    refine z_iadd dX12_sign_81 ?_
    refine z_putI fX12_192 kc_70 rfl dX12_sign_82 ?_
    refine z_lh (fun h3 => ?_)
    refine z_aload_n dX12_sign_85 0 rfl ?_
    refine z_getR (j := 75) fX12_27 kc_70 rfl rfl rfl (by decide) dX12_sign_86 ?_
    refine z_aload_n dX12_sign_89 0 rfl ?_
    refine z_getI fX12_192 kc_70 rfl dX12_sign_90 ?_
    refine z_iload_n dX12_sign_93 1 rfl ?_
    refine z_gd (fun g5 => ?_)
    refine z_iast kc_75 dX12_sign_94 g5 ?_
    refine z_lh (fun h4 => ?_)
    refine z_aload_n dX12_sign_95 0 rfl ?_
    refine z_dup dX12_sign_96 rfl ?_
    refine z_getI fX12_164 kc_70 rfl dX12_sign_97 ?_
    refine z_iconst (v := 1) dX12_sign_100 (by decide) ?_
    refine z_iadd dX12_sign_101 ?_
    refine z_putI fX12_164 kc_70 rfl dX12_sign_102 ?_
    refine z_lh (fun h6 => ?_)
    refine z_aload_n dX12_sign_105 0 rfl ?_
    refine z_callVV dX12_sign_106 (M_X12_begins _) bX12_begins lX12_223 kc_70 rfl rfl (Nat.le_of_ble_eq_true rfl) (Nat.le_of_ble_eq_true rfl) (fun r7 h8 => ?_)
    refine z_goto (tgt := 164) dX12_sign_109 (by decide) ?_
    exact z_vret dX12_sign_164 rfl
  · exact z_vret dX12_sign_74 rfl
set_option maxHeartbeats 4000000 in
set_option maxRecDepth 100000 in
theorem w_X12_sign_49 (x1 : Int32) (h : AHp) : WO tvV QX12_sign 5 49 [(0, .ref 70), (1, .int x1)] [] h (m_X12_sign_49 x1 h) := by
  unfold m_X12_sign_49
  refine z_aload_n dX12_sign_49 0 rfl ?_
  refine z_getI fX12_192 kc_70 rfl dX12_sign_50 ?_
  refine z_bipush (v := 6) dX12_sign_53 (by decide) ?_
  refine z_ic_ne (tgt := 67) dX12_sign_55 (by decide) ?_ ?_
  · exact w_X12_sign_67 _ _
  · refine z_aload_n dX12_sign_58 0 rfl ?_
    refine z_iconst (v := 5) dX12_sign_59 (by decide) ?_
    refine z_aload_n dX12_sign_60 0 rfl ?_
    refine z_getI fX12_164 kc_70 rfl dX12_sign_61 ?_
    refine z_callVV dX12_sign_64 (M_X12_wrongs _ _ _) bX12_wrongs lX12_205 kc_70 rfl rfl (Nat.le_of_ble_eq_true rfl) (Nat.le_of_ble_eq_true rfl) (fun r9 h10 => ?_)
    exact w_X12_sign_67 _ _
set_option maxHeartbeats 4000000 in
set_option maxRecDepth 100000 in
theorem w_X12_sign (h : AHp) : WO tvV QX12_sign 5 0 [(0, .ref 70)] [] h (m_X12_sign h) := by
  unfold m_X12_sign
  refine z_aload_n dX12_sign_0 0 rfl ?_
  refine z_callVI dX12_sign_1 (M_X12_here _) bX12_here lX12_173 kc_70 rfl rfl (Nat.le_of_ble_eq_true rfl) (Nat.le_of_ble_eq_true rfl) (fun r11 h12 => ?_)
  refine z_istore_n (lv2 := [(1, .int r11), (0, .ref 70)]) dX12_sign_4 (Nat.le_of_ble_eq_true rfl) rfl ?_
  refine z_iload_n dX12_sign_5 0 rfl ?_
  refine z_i2l dX12_sign_6 ?_
  refine z_ldc2 dX12_sign_7 kX12_219 ?_
  refine z_ldc2 dX12_sign_10 kX12_221 ?_
  refine z_callSI dX12_sign_13 (M_X12_lies _ _ _ _) bX12_lies lX12_181 rfl rfl (Nat.le_of_ble_eq_true rfl) (Nat.le_of_ble_eq_true rfl) (fun r13 h14 => ?_)
  refine z_if_eq (tgt := 37) dX12_sign_16 (by decide) ?_ ?_
  · refine z_iload_n dX12_sign_37 0 rfl ?_
    refine z_bipush (v := 40) dX12_sign_38 (by decide) ?_
    refine z_ic_eq (tgt := 49) dX12_sign_40 (by decide) ?_ ?_
    · exact z_sub [1, 0] rfl (w_X12_sign_49 _ _)
    · refine z_iload_n dX12_sign_43 0 rfl ?_
      refine z_bipush (v := 91) dX12_sign_44 (by decide) ?_
      refine z_ic_ne (tgt := 112) dX12_sign_46 (by decide) ?_ ?_
      · refine z_iload_n dX12_sign_112 0 rfl ?_
        refine z_bipush (v := 124) dX12_sign_113 (by decide) ?_
        refine z_ic_ne (tgt := 135) dX12_sign_115 (by decide) ?_ ?_
        · refine z_iload_n dX12_sign_135 0 rfl ?_
          refine z_bipush (v := 41) dX12_sign_136 (by decide) ?_
          refine z_ic_eq (tgt := 147) dX12_sign_138 (by decide) ?_ ?_
          · refine z_aload_n dX12_sign_147 1 rfl ?_
            refine z_iload_n dX12_sign_148 0 rfl ?_
            refine z_callVV dX12_sign_149 (M_X12_closes _ _) bX12_closes lX12_226 kc_70 rfl rfl (Nat.le_of_ble_eq_true rfl) (Nat.le_of_ble_eq_true rfl) (fun r15 h16 => ?_)
            refine z_goto (tgt := 164) dX12_sign_152 (by decide) ?_
            exact z_vret dX12_sign_164 rfl
          · refine z_iload_n dX12_sign_141 0 rfl ?_
            refine z_bipush (v := 93) dX12_sign_142 (by decide) ?_
            refine z_ic_ne (tgt := 155) dX12_sign_144 (by decide) ?_ ?_
            · refine z_aload_n dX12_sign_155 1 rfl ?_
              refine z_iconst (v := 1) dX12_sign_156 (by decide) ?_
              refine z_aload_n dX12_sign_157 1 rfl ?_
              refine z_getI fX12_164 kc_70 rfl dX12_sign_158 ?_
              refine z_callVV dX12_sign_161 (M_X12_wrongs _ _ _) bX12_wrongs lX12_205 kc_70 rfl rfl (Nat.le_of_ble_eq_true rfl) (Nat.le_of_ble_eq_true rfl) (fun r17 h18 => ?_)
              exact z_vret dX12_sign_164 rfl
            · refine z_aload_n dX12_sign_147 1 rfl ?_
              refine z_iload_n dX12_sign_148 0 rfl ?_
              refine z_callVV dX12_sign_149 (M_X12_closes _ _) bX12_closes lX12_226 kc_70 rfl rfl (Nat.le_of_ble_eq_true rfl) (Nat.le_of_ble_eq_true rfl) (fun r19 h20 => ?_)
              refine z_goto (tgt := 164) dX12_sign_152 (by decide) ?_
              exact z_vret dX12_sign_164 rfl
        · refine z_aload_n dX12_sign_118 1 rfl ?_
          refine z_callVV dX12_sign_119 (M_X12_endsWay _) bX12_endsWay lX12_213 kc_70 rfl rfl (Nat.le_of_ble_eq_true rfl) (Nat.le_of_ble_eq_true rfl) (fun r21 h22 => ?_)
          refine z_aload_n dX12_sign_122 1 rfl ?_
          refine z_dup dX12_sign_123 rfl ?_
          refine z_getI fX12_164 kc_70 rfl dX12_sign_124 ?_
          refine z_iconst (v := 1) dX12_sign_127 (by decide) ?_
          refine z_iadd dX12_sign_128 ?_
          refine z_putI fX12_164 kc_70 rfl dX12_sign_129 ?_
          refine z_lh (fun h23 => ?_)
          refine z_goto (tgt := 164) dX12_sign_132 (by decide) ?_
          exact z_vret dX12_sign_164 rfl
      · exact z_sub [1, 0] rfl (w_X12_sign_49 _ _)
  · refine z_aload_n dX12_sign_19 1 rfl ?_
    refine z_dup dX12_sign_20 rfl ?_
    refine z_getI fX12_164 kc_70 rfl dX12_sign_21 ?_
    refine z_iconst (v := 1) dX12_sign_24 (by decide) ?_
    refine z_iadd dX12_sign_25 ?_
    refine z_putI fX12_164 kc_70 rfl dX12_sign_26 ?_
    refine z_lh (fun h24 => ?_)
    refine z_aload_n dX12_sign_29 1 rfl ?_
    refine z_iconst (v := 2) dX12_sign_30 (by decide) ?_
    refine z_callVV dX12_sign_31 (M_X12_adds _ _) bX12_adds lX12_216 kc_70 rfl rfl (Nat.le_of_ble_eq_true rfl) (Nat.le_of_ble_eq_true rfl) (fun r25 h26 => ?_)
    refine z_goto (tgt := 164) dX12_sign_34 (by decide) ?_
    exact z_vret dX12_sign_164 rfl
theorem M_X12_sign (h : AHp) : MV QX12_sign 5 [.ref 70] h (m_X12_sign h) := MV.of (by decide) rfl rfl (Nat.le_of_ble_eq_true rfl) (w_X12_sign h)
set_option maxHeartbeats 4000000 in
set_option maxRecDepth 100000 in
theorem w_X12_thing_117 (x1 : Int32) (h : AHp) : WO tvI QX12_thing 6 117 [(0, .ref 70), (1, .int x1)] [] h (m_X12_thing_117 x1 h) := by
  unfold m_X12_thing_117
  refine z_aload_n dX12_thing_117 0 rfl ?_
  refine z_callVI dX12_thing_118 (M_X12_isGood _) bX12_isGood lX12_209 kc_70 rfl rfl (Nat.le_of_ble_eq_true rfl) (Nat.le_of_ble_eq_true rfl) (fun r1 h2 => ?_)
  refine z_if_ne (tgt := 129) dX12_thing_121 (by decide) ?_ ?_
  · refine z_aload_n dX12_thing_129 0 rfl ?_
    refine z_getR (j := 72) fX12_17 kc_70 rfl rfl rfl (by decide) dX12_thing_130 ?_
    refine z_iload_n dX12_thing_133 1 rfl ?_
    refine z_aload_n dX12_thing_134 0 rfl ?_
    refine z_getR (j := 73) fX12_21 kc_70 rfl rfl rfl (by decide) dX12_thing_135 ?_
    refine z_iconst (v := 0) dX12_thing_138 (by decide) ?_
    refine z_iald kc_73 dX12_thing_139 (by decide) ?_
    refine z_ldc dX12_thing_140 kX12_238 ?_
    refine z_iand dX12_thing_142 ?_
    refine z_gd (fun g4 => ?_)
    refine z_iast kc_72 dX12_thing_143 g4 ?_
    refine z_lh (fun h3 => ?_)
    refine z_aload_n dX12_thing_144 0 rfl ?_
    refine z_getR (j := 72) fX12_17 kc_70 rfl rfl rfl (by decide) dX12_thing_145 ?_
    refine z_iload_n dX12_thing_148 1 rfl ?_
    refine z_gd (fun g5 => ?_)
    refine z_iald kc_72 dX12_thing_149 g5 ?_
    refine z_callSI dX12_thing_150 (M_X12_sizeOf _ _) bX12_sizeOf lX12_239 rfl rfl (Nat.le_of_ble_eq_true rfl) (Nat.le_of_ble_eq_true rfl) (fun r6 h7 => ?_)
    exact z_iret dX12_thing_153 rfl
  · refine z_aload_n dX12_thing_124 0 rfl ?_
    refine z_getI fX12_170 kc_70 rfl dX12_thing_125 ?_
    exact z_iret dX12_thing_128 rfl
set_option maxHeartbeats 4000000 in
set_option maxRecDepth 100000 in
theorem w_X12_thing_83 (x1 : Int32) (h : AHp) : WO tvI QX12_thing 6 83 [(0, .ref 70), (1, .int x1)] [] h (m_X12_thing_83 x1 h) := by
  unfold m_X12_thing_83
  refine z_aload_n dX12_thing_83 0 rfl ?_
  refine z_callVI dX12_thing_84 (M_X12_isGood _) bX12_isGood lX12_209 kc_70 rfl rfl (Nat.le_of_ble_eq_true rfl) (Nat.le_of_ble_eq_true rfl) (fun r8 h9 => ?_)
  refine z_if_eq (tgt := 106) dX12_thing_87 (by decide) ?_ ?_
  · refine z_aload_n dX12_thing_106 0 rfl ?_
    refine z_callVI dX12_thing_107 (M_X12_isGood _) bX12_isGood lX12_209 kc_70 rfl rfl (Nat.le_of_ble_eq_true rfl) (Nat.le_of_ble_eq_true rfl) (fun r10 h11 => ?_)
    refine z_if_eq (tgt := 117) dX12_thing_110 (by decide) ?_ ?_
    · exact w_X12_thing_117 _ _
    · refine z_aload_n dX12_thing_113 0 rfl ?_
      refine z_callVV dX12_thing_114 (M_X12_endsWay _) bX12_endsWay lX12_213 kc_70 rfl rfl (Nat.le_of_ble_eq_true rfl) (Nat.le_of_ble_eq_true rfl) (fun r12 h13 => ?_)
      exact w_X12_thing_117 _ _
  · refine z_aload_n dX12_thing_90 0 rfl ?_
    refine z_getI fX12_192 kc_70 rfl dX12_thing_91 ?_
    refine z_if_le (tgt := 106) dX12_thing_94 (by decide) ?_ ?_
    · refine z_aload_n dX12_thing_106 0 rfl ?_
      refine z_callVI dX12_thing_107 (M_X12_isGood _) bX12_isGood lX12_209 kc_70 rfl rfl (Nat.le_of_ble_eq_true rfl) (Nat.le_of_ble_eq_true rfl) (fun r14 h15 => ?_)
      refine z_if_eq (tgt := 117) dX12_thing_110 (by decide) ?_ ?_
      · exact w_X12_thing_117 _ _
      · refine z_aload_n dX12_thing_113 0 rfl ?_
        refine z_callVV dX12_thing_114 (M_X12_endsWay _) bX12_endsWay lX12_213 kc_70 rfl rfl (Nat.le_of_ble_eq_true rfl) (Nat.le_of_ble_eq_true rfl) (fun r16 h17 => ?_)
        exact w_X12_thing_117 _ _
    · refine z_aload_n dX12_thing_97 0 rfl ?_
      refine z_iconst (v := 1) dX12_thing_98 (by decide) ?_
      refine z_aload_n dX12_thing_99 0 rfl ?_
      refine z_getI fX12_164 kc_70 rfl dX12_thing_100 ?_
      refine z_callVV dX12_thing_103 (M_X12_wrongs _ _ _) bX12_wrongs lX12_205 kc_70 rfl rfl (Nat.le_of_ble_eq_true rfl) (Nat.le_of_ble_eq_true rfl) (fun r18 h19 => ?_)
      refine z_aload_n dX12_thing_106 0 rfl ?_
      refine z_callVI dX12_thing_107 (M_X12_isGood _) bX12_isGood lX12_209 kc_70 rfl rfl (Nat.le_of_ble_eq_true rfl) (Nat.le_of_ble_eq_true rfl) (fun r20 h21 => ?_)
      refine z_if_eq (tgt := 117) dX12_thing_110 (by decide) ?_ ?_
      · exact w_X12_thing_117 _ _
      · refine z_aload_n dX12_thing_113 0 rfl ?_
        refine z_callVV dX12_thing_114 (M_X12_endsWay _) bX12_endsWay lX12_213 kc_70 rfl rfl (Nat.le_of_ble_eq_true rfl) (Nat.le_of_ble_eq_true rfl) (fun r22 h23 => ?_)
        exact w_X12_thing_117 _ _
set_option maxHeartbeats 4000000 in
set_option maxRecDepth 100000 in
theorem w_X12_thing_58 : ∀ (f : Nat) (x1 : Int32) (h : AHp), WO tvI QX12_thing 6 58 [(0, .ref 70), (1, .int x1)] [] h (m_X12_thing_58 f x1 h) := by
  intro f
  induction f with
  | zero => intro x1 h; exact z_none
  | succ f ih =>
    intro x1 h
    rw [m_X12_thing_58]
    refine z_aload_n dX12_thing_58 0 rfl ?_
    refine z_callVI dX12_thing_59 (M_X12_isGood _) bX12_isGood lX12_209 kc_70 rfl rfl (Nat.le_of_ble_eq_true rfl) (Nat.le_of_ble_eq_true rfl) (fun r24 h25 => ?_)
    refine z_if_eq (tgt := 83) dX12_thing_62 (by decide) ?_ ?_
    · exact w_X12_thing_83 _ _
    · refine z_aload_n dX12_thing_65 0 rfl ?_
      refine z_getI fX12_164 kc_70 rfl dX12_thing_66 ?_
      refine z_aload_n dX12_thing_69 0 rfl ?_
      refine z_getI fX12_167 kc_70 rfl dX12_thing_70 ?_
      refine z_ic_ge (tgt := 83) dX12_thing_73 (by decide) ?_ ?_
      · exact w_X12_thing_83 _ _
      · refine z_aload_n dX12_thing_76 0 rfl ?_
        refine z_callVV dX12_thing_77 (M_X12_sign _) bX12_sign lX12_235 kc_70 rfl rfl (Nat.le_of_ble_eq_true rfl) (Nat.le_of_ble_eq_true rfl) (fun r26 h27 => ?_)
        refine z_goto (tgt := 58) dX12_thing_80 (by decide) ?_
        exact ih _ _
set_option maxHeartbeats 4000000 in
set_option maxRecDepth 100000 in
theorem w_X12_thing (x1 : Int32) (x2 : Int32) (h : AHp) : WO tvI QX12_thing 6 0 [(0, .ref 70), (1, .int x1), (2, .int x2)] [] h (m_X12_thing x1 x2 h) := by
  unfold m_X12_thing
  refine z_iload_n dX12_thing_0 1 rfl ?_
  refine z_callSI dX12_thing_1 (M_X12_isThing _ _) bX12_isThing lX12_229 rfl rfl (Nat.le_of_ble_eq_true rfl) (Nat.le_of_ble_eq_true rfl) (fun r28 h29 => ?_)
  refine z_if_eq (tgt := 27) dX12_thing_4 (by decide) ?_ ?_
  · refine z_iconst (v := -1) dX12_thing_27 (by decide) ?_
    exact z_iret dX12_thing_28 rfl
  · refine z_iload_n dX12_thing_7 2 rfl ?_
    refine z_i2l dX12_thing_8 ?_
    refine z_lconst (v := 1) dX12_thing_9 (by decide) ?_
    refine z_ldc2 dX12_thing_10 kX12_233 ?_
    refine z_callSI dX12_thing_13 (M_X12_lies _ _ _ _) bX12_lies lX12_181 rfl rfl (Nat.le_of_ble_eq_true rfl) (Nat.le_of_ble_eq_true rfl) (fun r30 h31 => ?_)
    refine z_if_eq (tgt := 27) dX12_thing_16 (by decide) ?_ ?_
    · refine z_iconst (v := -1) dX12_thing_27 (by decide) ?_
      exact z_iret dX12_thing_28 rfl
    · refine z_iload_n dX12_thing_19 2 rfl ?_
      refine z_aload_n dX12_thing_20 0 rfl ?_
      refine z_getI fX12_157 kc_70 rfl dX12_thing_21 ?_
      refine z_ic_le (tgt := 29) dX12_thing_24 (by decide) ?_ ?_
      · refine z_aload_n dX12_thing_29 0 rfl ?_
        refine z_iconst (v := 0) dX12_thing_30 (by decide) ?_
        refine z_putI fX12_157 kc_70 rfl dX12_thing_31 ?_
        refine z_lh (fun h32 => ?_)
        refine z_aload_n dX12_thing_34 0 rfl ?_
        refine z_iconst (v := 0) dX12_thing_35 (by decide) ?_
        refine z_putI fX12_164 kc_70 rfl dX12_thing_36 ?_
        refine z_lh (fun h33 => ?_)
        refine z_aload_n dX12_thing_39 0 rfl ?_
        refine z_iload_n dX12_thing_40 2 rfl ?_
        refine z_putI fX12_167 kc_70 rfl dX12_thing_41 ?_
        refine z_lh (fun h34 => ?_)
        refine z_aload_n dX12_thing_44 0 rfl ?_
        refine z_iconst (v := 0) dX12_thing_45 (by decide) ?_
        refine z_putI fX12_170 kc_70 rfl dX12_thing_46 ?_
        refine z_lh (fun h35 => ?_)
        refine z_aload_n dX12_thing_49 0 rfl ?_
        refine z_iconst (v := 0) dX12_thing_50 (by decide) ?_
        refine z_putI fX12_192 kc_70 rfl dX12_thing_51 ?_
        refine z_lh (fun h36 => ?_)
        refine z_aload_n dX12_thing_54 0 rfl ?_
        refine z_callVV dX12_thing_55 (M_X12_begins _) bX12_begins lX12_223 kc_70 rfl rfl (Nat.le_of_ble_eq_true rfl) (Nat.le_of_ble_eq_true rfl) (fun r37 h38 => ?_)
        exact z_sub [0, 1] rfl (w_X12_thing_58 FU _ _)
      · refine z_iconst (v := -1) dX12_thing_27 (by decide) ?_
        exact z_iret dX12_thing_28 rfl
theorem M_X12_thing (x1 : Int32) (x2 : Int32) (h : AHp) : MI QX12_thing 6 [.ref 70, .int x1, .int x2] h (m_X12_thing x1 x2 h) := MI.of (by decide) rfl rfl (Nat.le_of_ble_eq_true rfl) (w_X12_thing x1 x2 h)
set_option maxHeartbeats 4000000 in
set_option maxRecDepth 100000 in
theorem w_X12_lengths (x1 : Int32) (h : AHp) : WO tvI QX12_lengths 2 0 [(0, .ref 70), (1, .int x1)] [] h (m_X12_lengths x1 h) := by
  unfold m_X12_lengths
  refine z_iload_n dX12_lengths_0 1 rfl ?_
  refine z_callSI dX12_lengths_1 (M_X12_isThing _ _) bX12_isThing lX12_229 rfl rfl (Nat.le_of_ble_eq_true rfl) (Nat.le_of_ble_eq_true rfl) (fun r1 h2 => ?_)
  refine z_if_eq (tgt := 16) dX12_lengths_4 (by decide) ?_ ?_
  · refine z_iconst (v := -1) dX12_lengths_16 (by decide) ?_
    exact z_iret dX12_lengths_17 rfl
  · refine z_aload_n dX12_lengths_7 0 rfl ?_
    refine z_getR (j := 72) fX12_17 kc_70 rfl rfl rfl (by decide) dX12_lengths_8 ?_
    refine z_iload_n dX12_lengths_11 1 rfl ?_
    refine z_gd (fun g3 => ?_)
    refine z_iald kc_72 dX12_lengths_12 g3 ?_
    refine z_goto (tgt := 17) dX12_lengths_13 (by decide) ?_
    exact z_iret dX12_lengths_17 rfl
theorem M_X12_lengths (x1 : Int32) (h : AHp) : MI QX12_lengths 2 [.ref 70, .int x1] h (m_X12_lengths x1 h) := MI.of (by decide) rfl rfl (Nat.le_of_ble_eq_true rfl) (w_X12_lengths x1 h)
set_option maxHeartbeats 4000000 in
set_option maxRecDepth 100000 in
theorem w_X12_emit (x1 : Int32) (x2 : Int32) (h : AHp) : WO tvV QX12_emit 1 0 [(0, .ref 70), (1, .int x1), (2, .int x2)] [] h (m_X12_emit x1 x2 h) := by
  unfold m_X12_emit
  refine z_aload_n dX12_emit_0 0 rfl ?_
  refine z_callVI dX12_emit_1 (M_X12_isGood _) bX12_isGood lX12_209 kc_70 rfl rfl (Nat.le_of_ble_eq_true rfl) (Nat.le_of_ble_eq_true rfl) (fun r1 h2 => ?_)
  refine z_if_ne (tgt := 8) dX12_emit_4 (by decide) ?_ ?_
  · refine z_aload_n dX12_emit_8 0 rfl ?_
    refine z_getR (j := 88) fX12_67 kc_70 rfl rfl rfl (by decide) dX12_emit_9 ?_
    refine z_aload_n dX12_emit_12 0 rfl ?_
    refine z_getI fX12_242 kc_70 rfl dX12_emit_13 ?_
    refine z_iload_n dX12_emit_16 1 rfl ?_
    refine z_gd (fun g4 => ?_)
    refine z_iast kc_88 dX12_emit_17 g4 ?_
    refine z_lh (fun h3 => ?_)
    refine z_aload_n dX12_emit_18 0 rfl ?_
    refine z_getR (j := 89) fX12_70 kc_70 rfl rfl rfl (by decide) dX12_emit_19 ?_
    refine z_aload_n dX12_emit_22 0 rfl ?_
    refine z_getI fX12_242 kc_70 rfl dX12_emit_23 ?_
    refine z_iload_n dX12_emit_26 2 rfl ?_
    refine z_gd (fun g6 => ?_)
    refine z_iast kc_89 dX12_emit_27 g6 ?_
    refine z_lh (fun h5 => ?_)
    refine z_aload_n dX12_emit_28 0 rfl ?_
    refine z_dup dX12_emit_29 rfl ?_
    refine z_getI fX12_242 kc_70 rfl dX12_emit_30 ?_
    refine z_iconst (v := 1) dX12_emit_33 (by decide) ?_
    refine z_iadd dX12_emit_34 ?_
    refine z_putI fX12_242 kc_70 rfl dX12_emit_35 ?_
    refine z_lh (fun h7 => ?_)
    exact z_vret dX12_emit_38 rfl
  · exact z_vret dX12_emit_7 rfl
theorem M_X12_emit (x1 : Int32) (x2 : Int32) (h : AHp) : MV QX12_emit 1 [.ref 70, .int x1, .int x2] h (m_X12_emit x1 x2 h) := MV.of (by decide) rfl rfl (Nat.le_of_ble_eq_true rfl) (w_X12_emit x1 x2 h)
set_option maxHeartbeats 4000000 in
set_option maxRecDepth 100000 in
theorem w_X12_top (h : AHp) : WO tvI QX12_top 0 0 [(0, .ref 70)] [] h (m_X12_top h) := by
  unfold m_X12_top
  refine z_aload_n dX12_top_0 0 rfl ?_
  refine z_getI fX12_245 kc_70 rfl dX12_top_1 ?_
  refine z_if_le (tgt := 21) dX12_top_4 (by decide) ?_ ?_
  · refine z_iconst (v := 0) dX12_top_21 (by decide) ?_
    exact z_iret dX12_top_22 rfl
  · refine z_aload_n dX12_top_7 0 rfl ?_
    refine z_getR (j := 90) fX12_73 kc_70 rfl rfl rfl (by decide) dX12_top_8 ?_
    refine z_aload_n dX12_top_11 0 rfl ?_
    refine z_getI fX12_245 kc_70 rfl dX12_top_12 ?_
    refine z_iconst (v := 1) dX12_top_15 (by decide) ?_
    refine z_isub dX12_top_16 ?_
    refine z_gd (fun g1 => ?_)
    refine z_iald kc_90 dX12_top_17 g1 ?_
    refine z_goto (tgt := 22) dX12_top_18 (by decide) ?_
    exact z_iret dX12_top_22 rfl
theorem M_X12_top (h : AHp) : MI QX12_top 0 [.ref 70] h (m_X12_top h) := MI.of (by decide) rfl rfl (Nat.le_of_ble_eq_true rfl) (w_X12_top h)
set_option maxHeartbeats 4000000 in
set_option maxRecDepth 100000 in
theorem w_X12_puts (x1 : Int32) (h : AHp) : WO tvV QX12_puts 0 0 [(0, .ref 70), (1, .int x1)] [] h (m_X12_puts x1 h) := by
  unfold m_X12_puts
  refine z_aload_n dX12_puts_0 0 rfl ?_
  refine z_getR (j := 90) fX12_73 kc_70 rfl rfl rfl (by decide) dX12_puts_1 ?_
  refine z_aload_n dX12_puts_4 0 rfl ?_
  refine z_getI fX12_245 kc_70 rfl dX12_puts_5 ?_
  refine z_iload_n dX12_puts_8 1 rfl ?_
  refine z_gd (fun g2 => ?_)
  refine z_iast kc_90 dX12_puts_9 g2 ?_
  refine z_lh (fun h1 => ?_)
  refine z_aload_n dX12_puts_10 0 rfl ?_
  refine z_dup dX12_puts_11 rfl ?_
  refine z_getI fX12_245 kc_70 rfl dX12_puts_12 ?_
  refine z_iconst (v := 1) dX12_puts_15 (by decide) ?_
  refine z_iadd dX12_puts_16 ?_
  refine z_putI fX12_245 kc_70 rfl dX12_puts_17 ?_
  refine z_lh (fun h3 => ?_)
  refine z_aload_n dX12_puts_20 0 rfl ?_
  refine z_dup dX12_puts_21 rfl ?_
  refine z_getI fX12_164 kc_70 rfl dX12_puts_22 ?_
  refine z_iconst (v := 1) dX12_puts_25 (by decide) ?_
  refine z_iadd dX12_puts_26 ?_
  refine z_putI fX12_164 kc_70 rfl dX12_puts_27 ?_
  refine z_lh (fun h4 => ?_)
  exact z_vret dX12_puts_30 rfl
theorem M_X12_puts (x1 : Int32) (h : AHp) : MV QX12_puts 0 [.ref 70, .int x1] h (m_X12_puts x1 h) := MV.of (by decide) rfl rfl (Nat.le_of_ble_eq_true rfl) (w_X12_puts x1 h)
set_option maxHeartbeats 4000000 in
set_option maxRecDepth 100000 in
theorem w_X12_opens_18 (h : AHp) : WO tvV QX12_opens 1 18 [(0, .ref 70)] [] h (m_X12_opens_18 h) := by
  unfold m_X12_opens_18
  refine z_aload_n dX12_opens_18 0 rfl ?_
  refine z_dup dX12_opens_19 rfl ?_
  refine z_getI fX12_248 kc_70 rfl dX12_opens_20 ?_
  refine z_iconst (v := 1) dX12_opens_23 (by decide) ?_
  refine z_iadd dX12_opens_24 ?_
  refine z_putI fX12_248 kc_70 rfl dX12_opens_25 ?_
  refine z_lh (fun h1 => ?_)
  refine z_aload_n dX12_opens_28 0 rfl ?_
  refine z_aload_n dX12_opens_29 0 rfl ?_
  refine z_callVI dX12_opens_30 (M_X12_here _) bX12_here lX12_173 kc_70 rfl rfl (Nat.le_of_ble_eq_true rfl) (Nat.le_of_ble_eq_true rfl) (fun r2 h3 => ?_)
  refine z_callVV dX12_opens_33 (M_X12_puts _ _) bX12_puts lX12_251 kc_70 rfl rfl (Nat.le_of_ble_eq_true rfl) (Nat.le_of_ble_eq_true rfl) (fun r4 h5 => ?_)
  exact z_vret dX12_opens_36 rfl
set_option maxHeartbeats 4000000 in
set_option maxRecDepth 100000 in
theorem w_X12_opens (h : AHp) : WO tvV QX12_opens 1 0 [(0, .ref 70)] [] h (m_X12_opens h) := by
  unfold m_X12_opens
  refine z_aload_n dX12_opens_0 0 rfl ?_
  refine z_getI fX12_248 kc_70 rfl dX12_opens_1 ?_
  refine z_bipush (v := 6) dX12_opens_4 (by decide) ?_
  refine z_ic_ne (tgt := 18) dX12_opens_6 (by decide) ?_ ?_
  · exact w_X12_opens_18 _
  · refine z_aload_n dX12_opens_9 0 rfl ?_
    refine z_iconst (v := 5) dX12_opens_10 (by decide) ?_
    refine z_aload_n dX12_opens_11 0 rfl ?_
    refine z_getI fX12_164 kc_70 rfl dX12_opens_12 ?_
    refine z_callVV dX12_opens_15 (M_X12_wrongs _ _ _) bX12_wrongs lX12_205 kc_70 rfl rfl (Nat.le_of_ble_eq_true rfl) (Nat.le_of_ble_eq_true rfl) (fun r6 h7 => ?_)
    exact w_X12_opens_18 _
theorem M_X12_opens (h : AHp) : MV QX12_opens 1 [.ref 70] h (m_X12_opens h) := MV.of (by decide) rfl rfl (Nat.le_of_ble_eq_true rfl) (w_X12_opens h)
set_option maxHeartbeats 4000000 in
set_option maxRecDepth 100000 in
theorem w_X12_reads_40 (k7 : Int32 → Int32 → AHp → Option (Int32 × AHp)) (hk7 : ∀ (x1 : Int32) (x2 : Int32) (h : AHp), WO tvI QX12_reads 2 7 [(0, .ref 70), (1, .int x1), (2, .int x2)] [] h (k7 x1 x2 h)) (x1 : Int32) (x2 : Int32) (h : AHp) : WO tvI QX12_reads 2 40 [(0, .ref 70), (1, .int x1), (2, .int x2)] [] h (m_X12_reads_40 k7 x1 x2 h) := by
  unfold m_X12_reads_40
  refine z_bipush (v := 10) dX12_reads_40 (by decide) ?_
  refine z_iload_n dX12_reads_42 2 rfl ?_
  refine z_imul dX12_reads_43 ?_
  refine z_aload_n dX12_reads_44 0 rfl ?_
  refine z_callVI dX12_reads_45 (M_X12_here _) bX12_here lX12_173 kc_70 rfl rfl (Nat.le_of_ble_eq_true rfl) (Nat.le_of_ble_eq_true rfl) (fun r1 h2 => ?_)
  refine z_iadd dX12_reads_48 ?_
  refine z_bipush (v := 48) dX12_reads_49 (by decide) ?_
  refine z_isub dX12_reads_51 ?_
  refine z_istore_nL (lv2 := fun v3 => [(2, .int v3), (0, .ref 70), (1, .int x1)]) dX12_reads_52 (Nat.le_of_ble_eq_true rfl) (fun _ => rfl) (fun v3 => ?_)
  refine z_aload_n dX12_reads_53 1 rfl ?_
  refine z_dup dX12_reads_54 rfl ?_
  refine z_getI fX12_164 kc_70 rfl dX12_reads_55 ?_
  refine z_iconst (v := 1) dX12_reads_58 (by decide) ?_
  refine z_iadd dX12_reads_59 ?_
  refine z_putI fX12_164 kc_70 rfl dX12_reads_60 ?_
  refine z_lh (fun h4 => ?_)
  refine z_goto (tgt := 7) dX12_reads_63 (by decide) ?_
  exact z_sub [1, 2, 0] rfl (hk7 _ _ _)
set_option maxHeartbeats 4000000 in
set_option maxRecDepth 100000 in
theorem w_X12_reads_7 : ∀ (f : Nat) (x1 : Int32) (x2 : Int32) (h : AHp), WO tvI QX12_reads 2 7 [(0, .ref 70), (1, .int x1), (2, .int x2)] [] h (m_X12_reads_7 f x1 x2 h) := by
  intro f
  induction f with
  | zero => intro x1 x2 h; exact z_none
  | succ f ih =>
    intro x1 x2 h
    rw [m_X12_reads_7]
    refine z_aload_n dX12_reads_7 0 rfl ?_
    refine z_callVI dX12_reads_8 (M_X12_isGood _) bX12_isGood lX12_209 kc_70 rfl rfl (Nat.le_of_ble_eq_true rfl) (Nat.le_of_ble_eq_true rfl) (fun r5 h6 => ?_)
    refine z_if_eq (tgt := 66) dX12_reads_11 (by decide) ?_ ?_
    · refine z_iload_n dX12_reads_66 2 rfl ?_
      exact z_iret dX12_reads_67 rfl
    · refine z_aload_n dX12_reads_14 0 rfl ?_
      refine z_callVI dX12_reads_15 (M_X12_seesDigit _) bX12_seesDigit lX12_254 kc_70 rfl rfl (Nat.le_of_ble_eq_true rfl) (Nat.le_of_ble_eq_true rfl) (fun r7 h8 => ?_)
      refine z_if_eq (tgt := 66) dX12_reads_18 (by decide) ?_ ?_
      · refine z_iload_n dX12_reads_66 2 rfl ?_
        exact z_iret dX12_reads_67 rfl
      · refine z_aload_n dX12_reads_21 0 rfl ?_
        refine z_getI fX12_164 kc_70 rfl dX12_reads_22 ?_
        refine z_iload_n dX12_reads_25 1 rfl ?_
        refine z_iconst (v := 5) dX12_reads_26 (by decide) ?_
        refine z_iadd dX12_reads_27 ?_
        refine z_ic_ne (tgt := 40) dX12_reads_28 (by decide) ?_ ?_
        · exact w_X12_reads_40 _ ih _ _ _
        · refine z_aload_n dX12_reads_31 0 rfl ?_
          refine z_iconst (v := 2) dX12_reads_32 (by decide) ?_
          refine z_aload_n dX12_reads_33 0 rfl ?_
          refine z_getI fX12_164 kc_70 rfl dX12_reads_34 ?_
          refine z_callVV dX12_reads_37 (M_X12_wrongs _ _ _) bX12_wrongs lX12_205 kc_70 rfl rfl (Nat.le_of_ble_eq_true rfl) (Nat.le_of_ble_eq_true rfl) (fun r9 h10 => ?_)
          exact w_X12_reads_40 _ ih _ _ _
set_option maxHeartbeats 4000000 in
set_option maxRecDepth 100000 in
theorem w_X12_reads (h : AHp) : WO tvI QX12_reads 2 0 [(0, .ref 70)] [] h (m_X12_reads h) := by
  unfold m_X12_reads
  refine z_aload_n dX12_reads_0 0 rfl ?_
  refine z_getI fX12_164 kc_70 rfl dX12_reads_1 ?_
  refine z_istore_nL (lv2 := fun v11 => [(1, .int v11), (0, .ref 70)]) dX12_reads_4 (Nat.le_of_ble_eq_true rfl) (fun _ => rfl) (fun v11 => ?_)
  refine z_iconst (v := 0) dX12_reads_5 (by decide) ?_
  refine z_istore_n (lv2 := [(2, .int 0), (1, .int v11), (0, .ref 70)]) dX12_reads_6 (Nat.le_of_ble_eq_true rfl) rfl ?_
  exact z_sub [2, 1, 0] rfl (w_X12_reads_7 FU _ _ _)
theorem M_X12_reads (h : AHp) : MI QX12_reads 2 [.ref 70] h (m_X12_reads h) := MI.of (by decide) rfl rfl (Nat.le_of_ble_eq_true rfl) (w_X12_reads h)
set_option maxHeartbeats 4000000 in
set_option maxRecDepth 100000 in
theorem w_X12_isTimes (x0 : Int32) (h : AHp) : WO tvI QX12_isTimes 0 0 [(0, .int x0)] [] h (m_X12_isTimes x0 h) := by
  unfold m_X12_isTimes
  refine z_iload_n dX12_isTimes_0 0 rfl ?_
  refine z_bipush (v := 42) dX12_isTimes_1 (by decide) ?_
  refine z_ic_eq (tgt := 18) dX12_isTimes_3 (by decide) ?_ ?_
  · refine z_iconst (v := 1) dX12_isTimes_18 (by decide) ?_
    refine z_goto (tgt := 23) dX12_isTimes_19 (by decide) ?_
    exact z_zret dX12_isTimes_23 rfl (Or.inr rfl)
  · refine z_iload_n dX12_isTimes_6 0 rfl ?_
    refine z_bipush (v := 47) dX12_isTimes_7 (by decide) ?_
    refine z_ic_eq (tgt := 18) dX12_isTimes_9 (by decide) ?_ ?_
    · refine z_iconst (v := 1) dX12_isTimes_18 (by decide) ?_
      refine z_goto (tgt := 23) dX12_isTimes_19 (by decide) ?_
      exact z_zret dX12_isTimes_23 rfl (Or.inr rfl)
    · refine z_iload_n dX12_isTimes_12 0 rfl ?_
      refine z_bipush (v := 37) dX12_isTimes_13 (by decide) ?_
      refine z_ic_ne (tgt := 22) dX12_isTimes_15 (by decide) ?_ ?_
      · refine z_iconst (v := 0) dX12_isTimes_22 (by decide) ?_
        exact z_zret dX12_isTimes_23 rfl (Or.inl rfl)
      · refine z_iconst (v := 1) dX12_isTimes_18 (by decide) ?_
        refine z_goto (tgt := 23) dX12_isTimes_19 (by decide) ?_
        exact z_zret dX12_isTimes_23 rfl (Or.inr rfl)
theorem M_X12_isTimes (x0 : Int32) (h : AHp) : MI QX12_isTimes 0 [.int x0] h (m_X12_isTimes x0 h) := MI.of (by decide) rfl rfl (Nat.le_of_ble_eq_true rfl) (w_X12_isTimes x0 h)
set_option maxHeartbeats 4000000 in
set_option maxRecDepth 100000 in
theorem w_X12_isPlus (x0 : Int32) (h : AHp) : WO tvI QX12_isPlus 0 0 [(0, .int x0)] [] h (m_X12_isPlus x0 h) := by
  unfold m_X12_isPlus
  refine z_iload_n dX12_isPlus_0 0 rfl ?_
  refine z_bipush (v := 43) dX12_isPlus_1 (by decide) ?_
  refine z_ic_eq (tgt := 12) dX12_isPlus_3 (by decide) ?_ ?_
  · refine z_iconst (v := 1) dX12_isPlus_12 (by decide) ?_
    refine z_goto (tgt := 17) dX12_isPlus_13 (by decide) ?_
    exact z_zret dX12_isPlus_17 rfl (Or.inr rfl)
  · refine z_iload_n dX12_isPlus_6 0 rfl ?_
    refine z_bipush (v := 45) dX12_isPlus_7 (by decide) ?_
    refine z_ic_ne (tgt := 16) dX12_isPlus_9 (by decide) ?_ ?_
    · refine z_iconst (v := 0) dX12_isPlus_16 (by decide) ?_
      exact z_zret dX12_isPlus_17 rfl (Or.inl rfl)
    · refine z_iconst (v := 1) dX12_isPlus_12 (by decide) ?_
      refine z_goto (tgt := 17) dX12_isPlus_13 (by decide) ?_
      exact z_zret dX12_isPlus_17 rfl (Or.inr rfl)
theorem M_X12_isPlus (x0 : Int32) (h : AHp) : MI QX12_isPlus 0 [.int x0] h (m_X12_isPlus x0 h) := MI.of (by decide) rfl rfl (Nat.le_of_ble_eq_true rfl) (w_X12_isPlus x0 h)
set_option maxHeartbeats 4000000 in
set_option maxRecDepth 100000 in
theorem w_X12_isSign (x0 : Int32) (h : AHp) : WO tvI QX12_isSign 0 0 [(0, .int x0)] [] h (m_X12_isSign x0 h) := by
  unfold m_X12_isSign
  refine z_iload_n dX12_isSign_0 0 rfl ?_
  refine z_bipush (v := 60) dX12_isSign_1 (by decide) ?_
  refine z_ic_eq (tgt := 18) dX12_isSign_3 (by decide) ?_ ?_
  · refine z_iconst (v := 1) dX12_isSign_18 (by decide) ?_
    refine z_goto (tgt := 23) dX12_isSign_19 (by decide) ?_
    exact z_zret dX12_isSign_23 rfl (Or.inr rfl)
  · refine z_iload_n dX12_isSign_6 0 rfl ?_
    refine z_bipush (v := 62) dX12_isSign_7 (by decide) ?_
    refine z_ic_eq (tgt := 18) dX12_isSign_9 (by decide) ?_ ?_
    · refine z_iconst (v := 1) dX12_isSign_18 (by decide) ?_
      refine z_goto (tgt := 23) dX12_isSign_19 (by decide) ?_
      exact z_zret dX12_isSign_23 rfl (Or.inr rfl)
    · refine z_iload_n dX12_isSign_12 0 rfl ?_
      refine z_bipush (v := 61) dX12_isSign_13 (by decide) ?_
      refine z_ic_ne (tgt := 22) dX12_isSign_15 (by decide) ?_ ?_
      · refine z_iconst (v := 0) dX12_isSign_22 (by decide) ?_
        exact z_zret dX12_isSign_23 rfl (Or.inl rfl)
      · refine z_iconst (v := 1) dX12_isSign_18 (by decide) ?_
        refine z_goto (tgt := 23) dX12_isSign_19 (by decide) ?_
        exact z_zret dX12_isSign_23 rfl (Or.inr rfl)
theorem M_X12_isSign (x0 : Int32) (h : AHp) : MI QX12_isSign 0 [.int x0] h (m_X12_isSign x0 h) := MI.of (by decide) rfl rfl (Nat.le_of_ble_eq_true rfl) (w_X12_isSign x0 h)
set_option maxHeartbeats 4000000 in
set_option maxRecDepth 100000 in
theorem w_X12_isValue (x0 : Int32) (h : AHp) : WO tvI QX12_isValue 0 0 [(0, .int x0)] [] h (m_X12_isValue x0 h) := by
  unfold m_X12_isValue
  refine z_iload_n dX12_isValue_0 0 rfl ?_
  refine z_bipush (v := 108) dX12_isValue_1 (by decide) ?_
  refine z_ic_eq (tgt := 54) dX12_isValue_3 (by decide) ?_ ?_
  · refine z_iconst (v := 1) dX12_isValue_54 (by decide) ?_
    refine z_goto (tgt := 59) dX12_isValue_55 (by decide) ?_
    exact z_zret dX12_isValue_59 rfl (Or.inr rfl)
  · refine z_iload_n dX12_isValue_6 0 rfl ?_
    refine z_bipush (v := 116) dX12_isValue_7 (by decide) ?_
    refine z_ic_eq (tgt := 54) dX12_isValue_9 (by decide) ?_ ?_
    · refine z_iconst (v := 1) dX12_isValue_54 (by decide) ?_
      refine z_goto (tgt := 59) dX12_isValue_55 (by decide) ?_
      exact z_zret dX12_isValue_59 rfl (Or.inr rfl)
    · refine z_iload_n dX12_isValue_12 0 rfl ?_
      refine z_bipush (v := 115) dX12_isValue_13 (by decide) ?_
      refine z_ic_eq (tgt := 54) dX12_isValue_15 (by decide) ?_ ?_
      · refine z_iconst (v := 1) dX12_isValue_54 (by decide) ?_
        refine z_goto (tgt := 59) dX12_isValue_55 (by decide) ?_
        exact z_zret dX12_isValue_59 rfl (Or.inr rfl)
      · refine z_iload_n dX12_isValue_18 0 rfl ?_
        refine z_bipush (v := 99) dX12_isValue_19 (by decide) ?_
        refine z_ic_eq (tgt := 54) dX12_isValue_21 (by decide) ?_ ?_
        · refine z_iconst (v := 1) dX12_isValue_54 (by decide) ?_
          refine z_goto (tgt := 59) dX12_isValue_55 (by decide) ?_
          exact z_zret dX12_isValue_59 rfl (Or.inr rfl)
        · refine z_iload_n dX12_isValue_24 0 rfl ?_
          refine z_bipush (v := 97) dX12_isValue_25 (by decide) ?_
          refine z_ic_eq (tgt := 54) dX12_isValue_27 (by decide) ?_ ?_
          · refine z_iconst (v := 1) dX12_isValue_54 (by decide) ?_
            refine z_goto (tgt := 59) dX12_isValue_55 (by decide) ?_
            exact z_zret dX12_isValue_59 rfl (Or.inr rfl)
          · refine z_iload_n dX12_isValue_30 0 rfl ?_
            refine z_bipush (v := 98) dX12_isValue_31 (by decide) ?_
            refine z_ic_eq (tgt := 54) dX12_isValue_33 (by decide) ?_ ?_
            · refine z_iconst (v := 1) dX12_isValue_54 (by decide) ?_
              refine z_goto (tgt := 59) dX12_isValue_55 (by decide) ?_
              exact z_zret dX12_isValue_59 rfl (Or.inr rfl)
            · refine z_iload_n dX12_isValue_36 0 rfl ?_
              refine z_bipush (v := 114) dX12_isValue_37 (by decide) ?_
              refine z_ic_eq (tgt := 54) dX12_isValue_39 (by decide) ?_ ?_
              · refine z_iconst (v := 1) dX12_isValue_54 (by decide) ?_
                refine z_goto (tgt := 59) dX12_isValue_55 (by decide) ?_
                exact z_zret dX12_isValue_59 rfl (Or.inr rfl)
              · refine z_iload_n dX12_isValue_42 0 rfl ?_
                refine z_bipush (v := 100) dX12_isValue_43 (by decide) ?_
                refine z_ic_eq (tgt := 54) dX12_isValue_45 (by decide) ?_ ?_
                · refine z_iconst (v := 1) dX12_isValue_54 (by decide) ?_
                  refine z_goto (tgt := 59) dX12_isValue_55 (by decide) ?_
                  exact z_zret dX12_isValue_59 rfl (Or.inr rfl)
                · refine z_iload_n dX12_isValue_48 0 rfl ?_
                  refine z_bipush (v := 107) dX12_isValue_49 (by decide) ?_
                  refine z_ic_ne (tgt := 58) dX12_isValue_51 (by decide) ?_ ?_
                  · refine z_iconst (v := 0) dX12_isValue_58 (by decide) ?_
                    exact z_zret dX12_isValue_59 rfl (Or.inl rfl)
                  · refine z_iconst (v := 1) dX12_isValue_54 (by decide) ?_
                    refine z_goto (tgt := 59) dX12_isValue_55 (by decide) ?_
                    exact z_zret dX12_isValue_59 rfl (Or.inr rfl)
theorem M_X12_isValue (x0 : Int32) (h : AHp) : MI QX12_isValue 0 [.int x0] h (m_X12_isValue x0 h) := MI.of (by decide) rfl rfl (Nat.le_of_ble_eq_true rfl) (w_X12_isValue x0 h)
set_option maxHeartbeats 4000000 in
set_option maxRecDepth 100000 in
theorem w_X12_sums_24 (k0 : Int32 → AHp → Option (Unit × AHp)) (hk0 : ∀ (x1 : Int32) (h : AHp), WO tvV QX12_sums 2 0 [(0, .ref 70), (1, .int x1)] [] h (k0 x1 h)) (x1 : Int32) (h : AHp) : WO tvV QX12_sums 2 24 [(0, .ref 70), (1, .int x1)] [] h (m_X12_sums_24 k0 x1 h) := by
  unfold m_X12_sums_24
  refine z_aload_n dX12_sums_24 0 rfl ?_
  refine z_aload_n dX12_sums_25 0 rfl ?_
  refine z_callVI dX12_sums_26 (M_X12_top _) bX12_top lX12_257 kc_70 rfl rfl (Nat.le_of_ble_eq_true rfl) (Nat.le_of_ble_eq_true rfl) (fun r1 h2 => ?_)
  refine z_iconst (v := 0) dX12_sums_29 (by decide) ?_
  refine z_callVV dX12_sums_30 (M_X12_emit _ _ _) bX12_emit lX12_266 kc_70 rfl rfl (Nat.le_of_ble_eq_true rfl) (Nat.le_of_ble_eq_true rfl) (fun r3 h4 => ?_)
  refine z_aload_n dX12_sums_33 0 rfl ?_
  refine z_dup dX12_sums_34 rfl ?_
  refine z_getI fX12_245 kc_70 rfl dX12_sums_35 ?_
  refine z_iconst (v := 1) dX12_sums_38 (by decide) ?_
  refine z_isub dX12_sums_39 ?_
  refine z_putI fX12_245 kc_70 rfl dX12_sums_40 ?_
  refine z_lh (fun h5 => ?_)
  refine z_goto (tgt := 0) dX12_sums_43 (by decide) ?_
  exact hk0 _ _
set_option maxHeartbeats 4000000 in
set_option maxRecDepth 100000 in
theorem w_X12_sums_0 : ∀ (f : Nat) (x1 : Int32) (h : AHp), WO tvV QX12_sums 2 0 [(0, .ref 70), (1, .int x1)] [] h (m_X12_sums_0 f x1 h) := by
  intro f
  induction f with
  | zero => intro x1 h; exact z_none
  | succ f ih =>
    intro x1 h
    rw [m_X12_sums_0]
    refine z_aload_n dX12_sums_0 0 rfl ?_
    refine z_callVI dX12_sums_1 (M_X12_top _) bX12_top lX12_257 kc_70 rfl rfl (Nat.le_of_ble_eq_true rfl) (Nat.le_of_ble_eq_true rfl) (fun r6 h7 => ?_)
    refine z_callSI dX12_sums_4 (M_X12_isTimes _ _) bX12_isTimes lX12_260 rfl rfl (Nat.le_of_ble_eq_true rfl) (Nat.le_of_ble_eq_true rfl) (fun r8 h9 => ?_)
    refine z_if_ne (tgt := 24) dX12_sums_7 (by decide) ?_ ?_
    · exact w_X12_sums_24 _ ih _ _
    · refine z_iload_n dX12_sums_10 1 rfl ?_
      refine z_if_eq (tgt := 46) dX12_sums_11 (by decide) ?_ ?_
      · exact z_vret dX12_sums_46 rfl
      · refine z_aload_n dX12_sums_14 0 rfl ?_
        refine z_callVI dX12_sums_15 (M_X12_top _) bX12_top lX12_257 kc_70 rfl rfl (Nat.le_of_ble_eq_true rfl) (Nat.le_of_ble_eq_true rfl) (fun r10 h11 => ?_)
        refine z_callSI dX12_sums_18 (M_X12_isPlus _ _) bX12_isPlus lX12_263 rfl rfl (Nat.le_of_ble_eq_true rfl) (Nat.le_of_ble_eq_true rfl) (fun r12 h13 => ?_)
        refine z_if_eq (tgt := 46) dX12_sums_21 (by decide) ?_ ?_
        · exact z_vret dX12_sums_46 rfl
        · exact w_X12_sums_24 _ ih _ _
theorem w_X12_sums (x1 : Int32) (h : AHp) : WO tvV QX12_sums 2 0 [(0, .ref 70), (1, .int x1)] [] h (m_X12_sums x1 h) := by
  unfold m_X12_sums
  exact w_X12_sums_0 FU _ _
theorem M_X12_sums (x1 : Int32) (h : AHp) : MV QX12_sums 2 [.ref 70, .int x1] h (m_X12_sums x1 h) := MV.of (by decide) rfl rfl (Nat.le_of_ble_eq_true rfl) (w_X12_sums x1 h)
set_option maxHeartbeats 4000000 in
set_option maxRecDepth 100000 in
theorem w_X12_joins_22 (k0 : Int32 → AHp → Option (Unit × AHp)) (hk0 : ∀ (x1 : Int32) (h : AHp), WO tvV QX12_joins 2 0 [(0, .ref 70), (1, .int x1)] [] h (k0 x1 h)) (x1 : Int32) (h : AHp) : WO tvV QX12_joins 2 22 [(0, .ref 70), (1, .int x1)] [] h (m_X12_joins_22 k0 x1 h) := by
  unfold m_X12_joins_22
  refine z_aload_n dX12_joins_22 0 rfl ?_
  refine z_aload_n dX12_joins_23 0 rfl ?_
  refine z_callVI dX12_joins_24 (M_X12_top _) bX12_top lX12_257 kc_70 rfl rfl (Nat.le_of_ble_eq_true rfl) (Nat.le_of_ble_eq_true rfl) (fun r1 h2 => ?_)
  refine z_iconst (v := 0) dX12_joins_27 (by decide) ?_
  refine z_callVV dX12_joins_28 (M_X12_emit _ _ _) bX12_emit lX12_266 kc_70 rfl rfl (Nat.le_of_ble_eq_true rfl) (Nat.le_of_ble_eq_true rfl) (fun r3 h4 => ?_)
  refine z_aload_n dX12_joins_31 0 rfl ?_
  refine z_dup dX12_joins_32 rfl ?_
  refine z_getI fX12_245 kc_70 rfl dX12_joins_33 ?_
  refine z_iconst (v := 1) dX12_joins_36 (by decide) ?_
  refine z_isub dX12_joins_37 ?_
  refine z_putI fX12_245 kc_70 rfl dX12_joins_38 ?_
  refine z_lh (fun h5 => ?_)
  refine z_goto (tgt := 0) dX12_joins_41 (by decide) ?_
  exact hk0 _ _
set_option maxHeartbeats 4000000 in
set_option maxRecDepth 100000 in
theorem w_X12_joins_0 : ∀ (f : Nat) (x1 : Int32) (h : AHp), WO tvV QX12_joins 2 0 [(0, .ref 70), (1, .int x1)] [] h (m_X12_joins_0 f x1 h) := by
  intro f
  induction f with
  | zero => intro x1 h; exact z_none
  | succ f ih =>
    intro x1 h
    rw [m_X12_joins_0]
    refine z_aload_n dX12_joins_0 0 rfl ?_
    refine z_callVI dX12_joins_1 (M_X12_top _) bX12_top lX12_257 kc_70 rfl rfl (Nat.le_of_ble_eq_true rfl) (Nat.le_of_ble_eq_true rfl) (fun r6 h7 => ?_)
    refine z_bipush (v := 38) dX12_joins_4 (by decide) ?_
    refine z_ic_eq (tgt := 22) dX12_joins_6 (by decide) ?_ ?_
    · exact w_X12_joins_22 _ ih _ _
    · refine z_iload_n dX12_joins_9 1 rfl ?_
      refine z_if_eq (tgt := 44) dX12_joins_10 (by decide) ?_ ?_
      · exact z_vret dX12_joins_44 rfl
      · refine z_aload_n dX12_joins_13 0 rfl ?_
        refine z_callVI dX12_joins_14 (M_X12_top _) bX12_top lX12_257 kc_70 rfl rfl (Nat.le_of_ble_eq_true rfl) (Nat.le_of_ble_eq_true rfl) (fun r8 h9 => ?_)
        refine z_bipush (v := 124) dX12_joins_17 (by decide) ?_
        refine z_ic_ne (tgt := 44) dX12_joins_19 (by decide) ?_ ?_
        · exact z_vret dX12_joins_44 rfl
        · exact w_X12_joins_22 _ ih _ _
theorem w_X12_joins (x1 : Int32) (h : AHp) : WO tvV QX12_joins 2 0 [(0, .ref 70), (1, .int x1)] [] h (m_X12_joins x1 h) := by
  unfold m_X12_joins
  exact w_X12_joins_0 FU _ _
theorem M_X12_joins (x1 : Int32) (h : AHp) : MV QX12_joins 2 [.ref 70, .int x1] h (m_X12_joins x1 h) := MV.of (by decide) rfl rfl (Nat.le_of_ble_eq_true rfl) (w_X12_joins x1 h)
set_option maxHeartbeats 4000000 in
set_option maxRecDepth 100000 in
theorem w_X12_ends_0 : ∀ (f : Nat) (h : AHp), WO tvV QX12_ends 2 0 [(0, .ref 70)] [] h (m_X12_ends_0 f h) := by
  intro f
  induction f with
  | zero => intro h; exact z_none
  | succ f ih =>
    intro h
    rw [m_X12_ends_0]
    refine z_aload_n dX12_ends_0 0 rfl ?_
    refine z_callVI dX12_ends_1 (M_X12_top _) bX12_top lX12_257 kc_70 rfl rfl (Nat.le_of_ble_eq_true rfl) (Nat.le_of_ble_eq_true rfl) (fun r1 h2 => ?_)
    refine z_bipush (v := 33) dX12_ends_4 (by decide) ?_
    refine z_ic_ne (tgt := 38) dX12_ends_6 (by decide) ?_ ?_
    · exact z_vret dX12_ends_38 rfl
    · refine z_aload_n dX12_ends_9 0 rfl ?_
      refine z_iconst (v := 2) dX12_ends_10 (by decide) ?_
      refine z_iconst (v := 0) dX12_ends_11 (by decide) ?_
      refine z_callVV dX12_ends_12 (M_X12_emit _ _ _) bX12_emit lX12_266 kc_70 rfl rfl (Nat.le_of_ble_eq_true rfl) (Nat.le_of_ble_eq_true rfl) (fun r3 h4 => ?_)
      refine z_aload_n dX12_ends_15 0 rfl ?_
      refine z_dup dX12_ends_16 rfl ?_
      refine z_getI fX12_245 kc_70 rfl dX12_ends_17 ?_
      refine z_iconst (v := 1) dX12_ends_20 (by decide) ?_
      refine z_isub dX12_ends_21 ?_
      refine z_putI fX12_245 kc_70 rfl dX12_ends_22 ?_
      refine z_lh (fun h5 => ?_)
      refine z_aload_n dX12_ends_25 0 rfl ?_
      refine z_dup dX12_ends_26 rfl ?_
      refine z_getI fX12_248 kc_70 rfl dX12_ends_27 ?_
      refine z_iconst (v := 1) dX12_ends_30 (by decide) ?_
      refine z_isub dX12_ends_31 ?_
      refine z_putI fX12_248 kc_70 rfl dX12_ends_32 ?_
      refine z_lh (fun h6 => ?_)
      refine z_goto (tgt := 0) dX12_ends_35 (by decide) ?_
      exact ih _
theorem w_X12_ends (h : AHp) : WO tvV QX12_ends 2 0 [(0, .ref 70)] [] h (m_X12_ends h) := by
  unfold m_X12_ends
  exact w_X12_ends_0 FU _
theorem M_X12_ends (h : AHp) : MV QX12_ends 2 [.ref 70] h (m_X12_ends h) := MV.of (by decide) rfl rfl (Nat.le_of_ble_eq_true rfl) (w_X12_ends h)
set_option maxHeartbeats 4000000 in
set_option maxRecDepth 100000 in
theorem w_X12_factor_23 (h : AHp) : WO tvV QX12_factor 3 23 [(0, .ref 70)] [] h (m_X12_factor_23 h) := by
  unfold m_X12_factor_23
  refine z_aload_n dX12_factor_23 0 rfl ?_
  refine z_callVI dX12_factor_24 (M_X12_isGood _) bX12_isGood lX12_209 kc_70 rfl rfl (Nat.le_of_ble_eq_true rfl) (Nat.le_of_ble_eq_true rfl) (fun r1 h2 => ?_)
  refine z_if_ne (tgt := 31) dX12_factor_27 (by decide) ?_ ?_
  · refine z_aload_n dX12_factor_31 0 rfl ?_
    refine z_callVI dX12_factor_32 (M_X12_seesDigit _) bX12_seesDigit lX12_254 kc_70 rfl rfl (Nat.le_of_ble_eq_true rfl) (Nat.le_of_ble_eq_true rfl) (fun r3 h4 => ?_)
    refine z_if_eq (tgt := 50) dX12_factor_35 (by decide) ?_ ?_
    · refine z_aload_n dX12_factor_50 0 rfl ?_
      refine z_callVI dX12_factor_51 (M_X12_here _) bX12_here lX12_173 kc_70 rfl rfl (Nat.le_of_ble_eq_true rfl) (Nat.le_of_ble_eq_true rfl) (fun r5 h6 => ?_)
      refine z_callSI dX12_factor_54 (M_X12_isValue _ _) bX12_isValue lX12_275 rfl rfl (Nat.le_of_ble_eq_true rfl) (Nat.le_of_ble_eq_true rfl) (fun r7 h8 => ?_)
      refine z_if_eq (tgt := 82) dX12_factor_57 (by decide) ?_ ?_
      · refine z_aload_n dX12_factor_82 0 rfl ?_
        refine z_iconst (v := 1) dX12_factor_83 (by decide) ?_
        refine z_aload_n dX12_factor_84 0 rfl ?_
        refine z_getI fX12_164 kc_70 rfl dX12_factor_85 ?_
        refine z_callVV dX12_factor_88 (M_X12_wrongs _ _ _) bX12_wrongs lX12_205 kc_70 rfl rfl (Nat.le_of_ble_eq_true rfl) (Nat.le_of_ble_eq_true rfl) (fun r9 h10 => ?_)
        exact z_vret dX12_factor_91 rfl
      · refine z_aload_n dX12_factor_60 0 rfl ?_
        refine z_iconst (v := 1) dX12_factor_61 (by decide) ?_
        refine z_aload_n dX12_factor_62 0 rfl ?_
        refine z_callVI dX12_factor_63 (M_X12_here _) bX12_here lX12_173 kc_70 rfl rfl (Nat.le_of_ble_eq_true rfl) (Nat.le_of_ble_eq_true rfl) (fun r11 h12 => ?_)
        refine z_callVV dX12_factor_66 (M_X12_emit _ _ _) bX12_emit lX12_266 kc_70 rfl rfl (Nat.le_of_ble_eq_true rfl) (Nat.le_of_ble_eq_true rfl) (fun r13 h14 => ?_)
        refine z_aload_n dX12_factor_69 0 rfl ?_
        refine z_dup dX12_factor_70 rfl ?_
        refine z_getI fX12_164 kc_70 rfl dX12_factor_71 ?_
        refine z_iconst (v := 1) dX12_factor_74 (by decide) ?_
        refine z_iadd dX12_factor_75 ?_
        refine z_putI fX12_164 kc_70 rfl dX12_factor_76 ?_
        refine z_lh (fun h15 => ?_)
        refine z_goto (tgt := 91) dX12_factor_79 (by decide) ?_
        exact z_vret dX12_factor_91 rfl
    · refine z_aload_n dX12_factor_38 0 rfl ?_
      refine z_iconst (v := 0) dX12_factor_39 (by decide) ?_
      refine z_aload_n dX12_factor_40 0 rfl ?_
      refine z_callVI dX12_factor_41 (M_X12_reads _) bX12_reads lX12_272 kc_70 rfl rfl (Nat.le_of_ble_eq_true rfl) (Nat.le_of_ble_eq_true rfl) (fun r16 h17 => ?_)
      refine z_callVV dX12_factor_44 (M_X12_emit _ _ _) bX12_emit lX12_266 kc_70 rfl rfl (Nat.le_of_ble_eq_true rfl) (Nat.le_of_ble_eq_true rfl) (fun r18 h19 => ?_)
      refine z_goto (tgt := 91) dX12_factor_47 (by decide) ?_
      exact z_vret dX12_factor_91 rfl
  · exact z_vret dX12_factor_30 rfl
set_option maxHeartbeats 4000000 in
set_option maxRecDepth 100000 in
theorem w_X12_factor_0 : ∀ (f : Nat) (h : AHp), WO tvV QX12_factor 3 0 [(0, .ref 70)] [] h (m_X12_factor_0 f h) := by
  intro f
  induction f with
  | zero => intro h; exact z_none
  | succ f ih =>
    intro h
    rw [m_X12_factor_0]
    refine z_aload_n dX12_factor_0 0 rfl ?_
    refine z_callVI dX12_factor_1 (M_X12_isGood _) bX12_isGood lX12_209 kc_70 rfl rfl (Nat.le_of_ble_eq_true rfl) (Nat.le_of_ble_eq_true rfl) (fun r20 h21 => ?_)
    refine z_if_eq (tgt := 23) dX12_factor_4 (by decide) ?_ ?_
    · exact w_X12_factor_23 _
    · refine z_aload_n dX12_factor_7 0 rfl ?_
      refine z_callVI dX12_factor_8 (M_X12_here _) bX12_here lX12_173 kc_70 rfl rfl (Nat.le_of_ble_eq_true rfl) (Nat.le_of_ble_eq_true rfl) (fun r22 h23 => ?_)
      refine z_bipush (v := 91) dX12_factor_11 (by decide) ?_
      refine z_ic_ne (tgt := 23) dX12_factor_13 (by decide) ?_ ?_
      · exact w_X12_factor_23 _
      · refine z_aload_n dX12_factor_16 0 rfl ?_
        refine z_callVV dX12_factor_17 (M_X12_opens _) bX12_opens lX12_269 kc_70 rfl rfl (Nat.le_of_ble_eq_true rfl) (Nat.le_of_ble_eq_true rfl) (fun r24 h25 => ?_)
        refine z_goto (tgt := 0) dX12_factor_20 (by decide) ?_
        exact ih _
theorem w_X12_factor (h : AHp) : WO tvV QX12_factor 3 0 [(0, .ref 70)] [] h (m_X12_factor h) := by
  unfold m_X12_factor
  exact w_X12_factor_0 FU _
theorem M_X12_factor (h : AHp) : MV QX12_factor 3 [.ref 70] h (m_X12_factor h) := MV.of (by decide) rfl rfl (Nat.le_of_ble_eq_true rfl) (w_X12_factor h)
set_option maxHeartbeats 4000000 in
set_option maxRecDepth 100000 in
theorem w_X12_stays_19 (x1 : Int32) (h : AHp) : WO tvI QX12_stays 3 19 [(0, .ref 70), (1, .int x1)] [] h (m_X12_stays_19 x1 h) := by
  unfold m_X12_stays_19
  refine z_aload_n dX12_stays_19 0 rfl ?_
  refine z_iload_n dX12_stays_20 1 rfl ?_
  refine z_callSI dX12_stays_21 (M_X12_isPlus _ _) bX12_isPlus lX12_263 rfl rfl (Nat.le_of_ble_eq_true rfl) (Nat.le_of_ble_eq_true rfl) (fun r1 h2 => ?_)
  refine z_callVV dX12_stays_24 (M_X12_sums _ _) bX12_sums lX12_278 kc_70 rfl rfl (Nat.le_of_ble_eq_true rfl) (Nat.le_of_ble_eq_true rfl) (fun r3 h4 => ?_)
  refine z_aload_n dX12_stays_27 0 rfl ?_
  refine z_iload_n dX12_stays_28 1 rfl ?_
  refine z_callVV dX12_stays_29 (M_X12_puts _ _) bX12_puts lX12_251 kc_70 rfl rfl (Nat.le_of_ble_eq_true rfl) (Nat.le_of_ble_eq_true rfl) (fun r5 h6 => ?_)
  refine z_iconst (v := 1) dX12_stays_32 (by decide) ?_
  exact z_zret dX12_stays_33 rfl (Or.inr rfl)
set_option maxHeartbeats 4000000 in
set_option maxRecDepth 100000 in
theorem w_X12_stays (h : AHp) : WO tvI QX12_stays 3 0 [(0, .ref 70)] [] h (m_X12_stays h) := by
  unfold m_X12_stays
  refine z_aload_n dX12_stays_0 0 rfl ?_
  refine z_callVI dX12_stays_1 (M_X12_here _) bX12_here lX12_173 kc_70 rfl rfl (Nat.le_of_ble_eq_true rfl) (Nat.le_of_ble_eq_true rfl) (fun r7 h8 => ?_)
  refine z_istore_n (lv2 := [(1, .int r7), (0, .ref 70)]) dX12_stays_4 (Nat.le_of_ble_eq_true rfl) rfl ?_
  refine z_iload_n dX12_stays_5 0 rfl ?_
  refine z_callSI dX12_stays_6 (M_X12_isTimes _ _) bX12_isTimes lX12_260 rfl rfl (Nat.le_of_ble_eq_true rfl) (Nat.le_of_ble_eq_true rfl) (fun r9 h10 => ?_)
  refine z_if_ne (tgt := 19) dX12_stays_9 (by decide) ?_ ?_
  · exact z_sub [1, 0] rfl (w_X12_stays_19 _ _)
  · refine z_iload_n dX12_stays_12 0 rfl ?_
    refine z_callSI dX12_stays_13 (M_X12_isPlus _ _) bX12_isPlus lX12_263 rfl rfl (Nat.le_of_ble_eq_true rfl) (Nat.le_of_ble_eq_true rfl) (fun r11 h12 => ?_)
    refine z_if_eq (tgt := 34) dX12_stays_16 (by decide) ?_ ?_
    · refine z_aload_n dX12_stays_34 1 rfl ?_
      refine z_iconst (v := 1) dX12_stays_35 (by decide) ?_
      refine z_callVV dX12_stays_36 (M_X12_sums _ _) bX12_sums lX12_278 kc_70 rfl rfl (Nat.le_of_ble_eq_true rfl) (Nat.le_of_ble_eq_true rfl) (fun r13 h14 => ?_)
      refine z_iload_n dX12_stays_39 0 rfl ?_
      refine z_bipush (v := 93) dX12_stays_40 (by decide) ?_
      refine z_ic_eq (tgt := 47) dX12_stays_42 (by decide) ?_ ?_
      · refine z_aload_n dX12_stays_47 1 rfl ?_
        refine z_callVI dX12_stays_48 (M_X12_top _) bX12_top lX12_257 kc_70 rfl rfl (Nat.le_of_ble_eq_true rfl) (Nat.le_of_ble_eq_true rfl) (fun r15 h16 => ?_)
        refine z_bipush (v := 91) dX12_stays_51 (by decide) ?_
        refine z_ic_eq (tgt := 67) dX12_stays_53 (by decide) ?_ ?_
        · refine z_aload_n dX12_stays_67 1 rfl ?_
          refine z_dup dX12_stays_68 rfl ?_
          refine z_getI fX12_245 kc_70 rfl dX12_stays_69 ?_
          refine z_iconst (v := 1) dX12_stays_72 (by decide) ?_
          refine z_isub dX12_stays_73 ?_
          refine z_putI fX12_245 kc_70 rfl dX12_stays_74 ?_
          refine z_lh (fun h17 => ?_)
          refine z_aload_n dX12_stays_77 1 rfl ?_
          refine z_dup dX12_stays_78 rfl ?_
          refine z_getI fX12_248 kc_70 rfl dX12_stays_79 ?_
          refine z_iconst (v := 1) dX12_stays_82 (by decide) ?_
          refine z_isub dX12_stays_83 ?_
          refine z_putI fX12_248 kc_70 rfl dX12_stays_84 ?_
          refine z_lh (fun h18 => ?_)
          refine z_aload_n dX12_stays_87 1 rfl ?_
          refine z_dup dX12_stays_88 rfl ?_
          refine z_getI fX12_164 kc_70 rfl dX12_stays_89 ?_
          refine z_iconst (v := 1) dX12_stays_92 (by decide) ?_
          refine z_iadd dX12_stays_93 ?_
          refine z_putI fX12_164 kc_70 rfl dX12_stays_94 ?_
          refine z_lh (fun h19 => ?_)
          refine z_aload_n dX12_stays_97 1 rfl ?_
          refine z_iconst (v := 1) dX12_stays_98 (by decide) ?_
          refine z_putZ fX12_282 kc_70 rfl (Or.inr rfl) dX12_stays_99 ?_
          refine z_lh (fun h20 => ?_)
          refine z_iconst (v := 1) dX12_stays_102 (by decide) ?_
          exact z_zret dX12_stays_103 rfl (Or.inr rfl)
        · refine z_aload_n dX12_stays_56 1 rfl ?_
          refine z_iconst (v := 1) dX12_stays_57 (by decide) ?_
          refine z_aload_n dX12_stays_58 1 rfl ?_
          refine z_getI fX12_164 kc_70 rfl dX12_stays_59 ?_
          refine z_callVV dX12_stays_62 (M_X12_wrongs _ _ _) bX12_wrongs lX12_205 kc_70 rfl rfl (Nat.le_of_ble_eq_true rfl) (Nat.le_of_ble_eq_true rfl) (fun r21 h22 => ?_)
          refine z_iconst (v := 0) dX12_stays_65 (by decide) ?_
          exact z_zret dX12_stays_66 rfl (Or.inl rfl)
      · refine z_iconst (v := 0) dX12_stays_45 (by decide) ?_
        exact z_zret dX12_stays_46 rfl (Or.inl rfl)
    · exact z_sub [1, 0] rfl (w_X12_stays_19 _ _)
theorem M_X12_stays (h : AHp) : MI QX12_stays 3 [.ref 70] h (m_X12_stays h) := MI.of (by decide) rfl rfl (Nat.le_of_ble_eq_true rfl) (w_X12_stays h)
set_option maxHeartbeats 4000000 in
set_option maxRecDepth 100000 in
theorem w_X12_value_29 (k7 : Int32 → AHp → Option (Unit × AHp)) (hk7 : ∀ (x1 : Int32) (h : AHp), WO tvV QX12_value 4 7 [(0, .ref 70), (1, .int x1)] [] h (k7 x1 h)) (h : AHp) : WO tvV QX12_value 4 29 [(0, .ref 70)] [] h (m_X12_value_29 k7 h) := by
  unfold m_X12_value_29
  refine z_aload_n dX12_value_29 0 rfl ?_
  refine z_iconst (v := 0) dX12_value_30 (by decide) ?_
  refine z_putZ fX12_282 kc_70 rfl (Or.inl rfl) dX12_value_31 ?_
  refine z_lh (fun h1 => ?_)
  refine z_aload_n dX12_value_34 0 rfl ?_
  refine z_callVI dX12_value_35 (M_X12_isGood _) bX12_isGood lX12_209 kc_70 rfl rfl (Nat.le_of_ble_eq_true rfl) (Nat.le_of_ble_eq_true rfl) (fun r2 h3 => ?_)
  refine z_if_eq (tgt := 52) dX12_value_38 (by decide) ?_ ?_
  · refine z_iconst (v := 0) dX12_value_52 (by decide) ?_
    refine z_istore_n (lv2 := [(1, .int 0), (0, .ref 70)]) dX12_value_53 (Nat.le_of_ble_eq_true rfl) rfl ?_
    refine z_goto (tgt := 7) dX12_value_54 (by decide) ?_
    exact z_sub [1, 0] rfl (hk7 _ _)
  · refine z_aload_n dX12_value_41 0 rfl ?_
    refine z_callVI dX12_value_42 (M_X12_stays _) bX12_stays lX12_289 kc_70 rfl rfl (Nat.le_of_ble_eq_true rfl) (Nat.le_of_ble_eq_true rfl) (fun r4 h5 => ?_)
    refine z_if_eq (tgt := 52) dX12_value_45 (by decide) ?_ ?_
    · refine z_iconst (v := 0) dX12_value_52 (by decide) ?_
      refine z_istore_n (lv2 := [(1, .int 0), (0, .ref 70)]) dX12_value_53 (Nat.le_of_ble_eq_true rfl) rfl ?_
      refine z_goto (tgt := 7) dX12_value_54 (by decide) ?_
      exact z_sub [1, 0] rfl (hk7 _ _)
    · refine z_iconst (v := 1) dX12_value_48 (by decide) ?_
      refine z_goto (tgt := 53) dX12_value_49 (by decide) ?_
      refine z_istore_n (lv2 := [(1, .int 1), (0, .ref 70)]) dX12_value_53 (Nat.le_of_ble_eq_true rfl) rfl ?_
      refine z_goto (tgt := 7) dX12_value_54 (by decide) ?_
      exact z_sub [1, 0] rfl (hk7 _ _)
set_option maxHeartbeats 4000000 in
set_option maxRecDepth 100000 in
theorem w_X12_value_57 (h : AHp) : WO tvV QX12_value 4 57 [(0, .ref 70)] [] h (m_X12_value_57 h) := by
  unfold m_X12_value_57
  refine z_aload_n dX12_value_57 0 rfl ?_
  refine z_callVI dX12_value_58 (M_X12_isGood _) bX12_isGood lX12_209 kc_70 rfl rfl (Nat.le_of_ble_eq_true rfl) (Nat.le_of_ble_eq_true rfl) (fun r6 h7 => ?_)
  refine z_if_eq (tgt := 82) dX12_value_61 (by decide) ?_ ?_
  · exact z_vret dX12_value_82 rfl
  · refine z_aload_n dX12_value_64 0 rfl ?_
    refine z_callVI dX12_value_65 (M_X12_top _) bX12_top lX12_257 kc_70 rfl rfl (Nat.le_of_ble_eq_true rfl) (Nat.le_of_ble_eq_true rfl) (fun r8 h9 => ?_)
    refine z_bipush (v := 91) dX12_value_68 (by decide) ?_
    refine z_ic_ne (tgt := 82) dX12_value_70 (by decide) ?_ ?_
    · exact z_vret dX12_value_82 rfl
    · refine z_aload_n dX12_value_73 0 rfl ?_
      refine z_iconst (v := 1) dX12_value_74 (by decide) ?_
      refine z_aload_n dX12_value_75 0 rfl ?_
      refine z_getI fX12_164 kc_70 rfl dX12_value_76 ?_
      refine z_callVV dX12_value_79 (M_X12_wrongs _ _ _) bX12_wrongs lX12_205 kc_70 rfl rfl (Nat.le_of_ble_eq_true rfl) (Nat.le_of_ble_eq_true rfl) (fun r10 h11 => ?_)
      exact z_vret dX12_value_82 rfl
set_option maxHeartbeats 4000000 in
set_option maxRecDepth 100000 in
theorem w_X12_value_7 : ∀ (f : Nat) (x1 : Int32) (h : AHp), WO tvV QX12_value 4 7 [(0, .ref 70), (1, .int x1)] [] h (m_X12_value_7 f x1 h) := by
  intro f
  induction f with
  | zero => intro x1 h; exact z_none
  | succ f ih =>
    intro x1 h
    rw [m_X12_value_7]
    refine z_iload_n dX12_value_7 1 rfl ?_
    refine z_if_eq (tgt := 57) dX12_value_8 (by decide) ?_ ?_
    · exact z_sub [0] rfl (w_X12_value_57 _)
    · refine z_aload_n dX12_value_11 0 rfl ?_
      refine z_callVI dX12_value_12 (M_X12_isGood _) bX12_isGood lX12_209 kc_70 rfl rfl (Nat.le_of_ble_eq_true rfl) (Nat.le_of_ble_eq_true rfl) (fun r12 h13 => ?_)
      refine z_if_eq (tgt := 57) dX12_value_15 (by decide) ?_ ?_
      · exact z_sub [0] rfl (w_X12_value_57 _)
      · refine z_aload_n dX12_value_18 0 rfl ?_
        refine z_getI fX12_282 kc_70 rfl dX12_value_19 ?_
        refine z_if_ne (tgt := 29) dX12_value_22 (by decide) ?_ ?_
        · exact z_sub [0] rfl (w_X12_value_29 _ ih _)
        · refine z_aload_n dX12_value_25 0 rfl ?_
          refine z_callVV dX12_value_26 (M_X12_factor _) bX12_factor lX12_286 kc_70 rfl rfl (Nat.le_of_ble_eq_true rfl) (Nat.le_of_ble_eq_true rfl) (fun r14 h15 => ?_)
          exact z_sub [0] rfl (w_X12_value_29 _ ih _)
set_option maxHeartbeats 4000000 in
set_option maxRecDepth 100000 in
theorem w_X12_value (h : AHp) : WO tvV QX12_value 4 0 [(0, .ref 70)] [] h (m_X12_value h) := by
  unfold m_X12_value
  refine z_iconst (v := 1) dX12_value_0 (by decide) ?_
  refine z_istore_n (lv2 := [(1, .int 1), (0, .ref 70)]) dX12_value_1 (Nat.le_of_ble_eq_true rfl) rfl ?_
  refine z_aload_n dX12_value_2 1 rfl ?_
  refine z_iconst (v := 0) dX12_value_3 (by decide) ?_
  refine z_putZ fX12_282 kc_70 rfl (Or.inl rfl) dX12_value_4 ?_
  refine z_lh (fun h16 => ?_)
  exact z_sub [1, 0] rfl (w_X12_value_7 FU _ _)
theorem M_X12_value (h : AHp) : MV QX12_value 4 [.ref 70] h (m_X12_value h) := MV.of (by decide) rfl rfl (Nat.le_of_ble_eq_true rfl) (w_X12_value h)
set_option maxHeartbeats 4000000 in
set_option maxRecDepth 100000 in
theorem w_X12_pieceOfC_43 (h : AHp) : WO tvV QX12_pieceOfC 5 43 [(0, .ref 70)] [] h (m_X12_pieceOfC_43 h) := by
  unfold m_X12_pieceOfC_43
  refine z_aload_n dX12_pieceOfC_43 0 rfl ?_
  refine z_callVI dX12_pieceOfC_44 (M_X12_isGood _) bX12_isGood lX12_209 kc_70 rfl rfl (Nat.le_of_ble_eq_true rfl) (Nat.le_of_ble_eq_true rfl) (fun r1 h2 => ?_)
  refine z_if_ne (tgt := 51) dX12_pieceOfC_47 (by decide) ?_ ?_
  · refine z_aload_n dX12_pieceOfC_51 0 rfl ?_
    refine z_callVI dX12_pieceOfC_52 (M_X12_here _) bX12_here lX12_173 kc_70 rfl rfl (Nat.le_of_ble_eq_true rfl) (Nat.le_of_ble_eq_true rfl) (fun r3 h4 => ?_)
    refine z_istore_n (lv2 := [(1, .int r3), (0, .ref 70)]) dX12_pieceOfC_55 (Nat.le_of_ble_eq_true rfl) rfl ?_
    refine z_iload_n dX12_pieceOfC_56 0 rfl ?_
    refine z_callSI dX12_pieceOfC_57 (M_X12_isSign _ _) bX12_isSign lX12_295 rfl rfl (Nat.le_of_ble_eq_true rfl) (Nat.le_of_ble_eq_true rfl) (fun r5 h6 => ?_)
    refine z_if_ne (tgt := 73) dX12_pieceOfC_60 (by decide) ?_ ?_
    · refine z_aload_n dX12_pieceOfC_73 1 rfl ?_
      refine z_iload_n dX12_pieceOfC_74 0 rfl ?_
      refine z_callVV dX12_pieceOfC_75 (M_X12_puts _ _) bX12_puts lX12_251 kc_70 rfl rfl (Nat.le_of_ble_eq_true rfl) (Nat.le_of_ble_eq_true rfl) (fun r7 h8 => ?_)
      refine z_aload_n dX12_pieceOfC_78 1 rfl ?_
      refine z_callVV dX12_pieceOfC_79 (M_X12_value _) bX12_value lX12_292 kc_70 rfl rfl (Nat.le_of_ble_eq_true rfl) (Nat.le_of_ble_eq_true rfl) (fun r9 h10 => ?_)
      refine z_aload_n dX12_pieceOfC_82 1 rfl ?_
      refine z_callVI dX12_pieceOfC_83 (M_X12_isGood _) bX12_isGood lX12_209 kc_70 rfl rfl (Nat.le_of_ble_eq_true rfl) (Nat.le_of_ble_eq_true rfl) (fun r11 h12 => ?_)
      refine z_if_ne (tgt := 90) dX12_pieceOfC_86 (by decide) ?_ ?_
      · refine z_aload_n dX12_pieceOfC_90 1 rfl ?_
        refine z_aload_n dX12_pieceOfC_91 1 rfl ?_
        refine z_callVI dX12_pieceOfC_92 (M_X12_top _) bX12_top lX12_257 kc_70 rfl rfl (Nat.le_of_ble_eq_true rfl) (Nat.le_of_ble_eq_true rfl) (fun r13 h14 => ?_)
        refine z_iconst (v := 0) dX12_pieceOfC_95 (by decide) ?_
        refine z_callVV dX12_pieceOfC_96 (M_X12_emit _ _ _) bX12_emit lX12_266 kc_70 rfl rfl (Nat.le_of_ble_eq_true rfl) (Nat.le_of_ble_eq_true rfl) (fun r15 h16 => ?_)
        refine z_aload_n dX12_pieceOfC_99 1 rfl ?_
        refine z_dup dX12_pieceOfC_100 rfl ?_
        refine z_getI fX12_245 kc_70 rfl dX12_pieceOfC_101 ?_
        refine z_iconst (v := 1) dX12_pieceOfC_104 (by decide) ?_
        refine z_isub dX12_pieceOfC_105 ?_
        refine z_putI fX12_245 kc_70 rfl dX12_pieceOfC_106 ?_
        refine z_lh (fun h17 => ?_)
        refine z_aload_n dX12_pieceOfC_109 1 rfl ?_
        refine z_callVV dX12_pieceOfC_110 (M_X12_ends _) bX12_ends lX12_298 kc_70 rfl rfl (Nat.le_of_ble_eq_true rfl) (Nat.le_of_ble_eq_true rfl) (fun r18 h19 => ?_)
        exact z_vret dX12_pieceOfC_113 rfl
      · exact z_vret dX12_pieceOfC_89 rfl
    · refine z_aload_n dX12_pieceOfC_63 1 rfl ?_
      refine z_iconst (v := 1) dX12_pieceOfC_64 (by decide) ?_
      refine z_aload_n dX12_pieceOfC_65 1 rfl ?_
      refine z_getI fX12_164 kc_70 rfl dX12_pieceOfC_66 ?_
      refine z_callVV dX12_pieceOfC_69 (M_X12_wrongs _ _ _) bX12_wrongs lX12_205 kc_70 rfl rfl (Nat.le_of_ble_eq_true rfl) (Nat.le_of_ble_eq_true rfl) (fun r20 h21 => ?_)
      exact z_vret dX12_pieceOfC_72 rfl
  · exact z_vret dX12_pieceOfC_50 rfl
set_option maxHeartbeats 4000000 in
set_option maxRecDepth 100000 in
theorem w_X12_pieceOfC_0 : ∀ (f : Nat) (h : AHp), WO tvV QX12_pieceOfC 5 0 [(0, .ref 70)] [] h (m_X12_pieceOfC_0 f h) := by
  intro f
  induction f with
  | zero => intro h; exact z_none
  | succ f ih =>
    intro h
    rw [m_X12_pieceOfC_0]
    refine z_aload_n dX12_pieceOfC_0 0 rfl ?_
    refine z_callVI dX12_pieceOfC_1 (M_X12_isGood _) bX12_isGood lX12_209 kc_70 rfl rfl (Nat.le_of_ble_eq_true rfl) (Nat.le_of_ble_eq_true rfl) (fun r22 h23 => ?_)
    refine z_if_eq (tgt := 32) dX12_pieceOfC_4 (by decide) ?_ ?_
    · refine z_aload_n dX12_pieceOfC_32 0 rfl ?_
      refine z_callVI dX12_pieceOfC_33 (M_X12_isGood _) bX12_isGood lX12_209 kc_70 rfl rfl (Nat.le_of_ble_eq_true rfl) (Nat.le_of_ble_eq_true rfl) (fun r24 h25 => ?_)
      refine z_if_eq (tgt := 43) dX12_pieceOfC_36 (by decide) ?_ ?_
      · exact w_X12_pieceOfC_43 _
      · refine z_aload_n dX12_pieceOfC_39 0 rfl ?_
        refine z_callVV dX12_pieceOfC_40 (M_X12_value _) bX12_value lX12_292 kc_70 rfl rfl (Nat.le_of_ble_eq_true rfl) (Nat.le_of_ble_eq_true rfl) (fun r26 h27 => ?_)
        exact w_X12_pieceOfC_43 _
    · refine z_aload_n dX12_pieceOfC_7 0 rfl ?_
      refine z_callVI dX12_pieceOfC_8 (M_X12_here _) bX12_here lX12_173 kc_70 rfl rfl (Nat.le_of_ble_eq_true rfl) (Nat.le_of_ble_eq_true rfl) (fun r28 h29 => ?_)
      refine z_bipush (v := 33) dX12_pieceOfC_11 (by decide) ?_
      refine z_ic_eq (tgt := 25) dX12_pieceOfC_13 (by decide) ?_ ?_
      · refine z_aload_n dX12_pieceOfC_25 0 rfl ?_
        refine z_callVV dX12_pieceOfC_26 (M_X12_opens _) bX12_opens lX12_269 kc_70 rfl rfl (Nat.le_of_ble_eq_true rfl) (Nat.le_of_ble_eq_true rfl) (fun r30 h31 => ?_)
        refine z_goto (tgt := 0) dX12_pieceOfC_29 (by decide) ?_
        exact ih _
      · refine z_aload_n dX12_pieceOfC_16 0 rfl ?_
        refine z_callVI dX12_pieceOfC_17 (M_X12_here _) bX12_here lX12_173 kc_70 rfl rfl (Nat.le_of_ble_eq_true rfl) (Nat.le_of_ble_eq_true rfl) (fun r32 h33 => ?_)
        refine z_bipush (v := 40) dX12_pieceOfC_20 (by decide) ?_
        refine z_ic_ne (tgt := 32) dX12_pieceOfC_22 (by decide) ?_ ?_
        · refine z_aload_n dX12_pieceOfC_32 0 rfl ?_
          refine z_callVI dX12_pieceOfC_33 (M_X12_isGood _) bX12_isGood lX12_209 kc_70 rfl rfl (Nat.le_of_ble_eq_true rfl) (Nat.le_of_ble_eq_true rfl) (fun r34 h35 => ?_)
          refine z_if_eq (tgt := 43) dX12_pieceOfC_36 (by decide) ?_ ?_
          · exact w_X12_pieceOfC_43 _
          · refine z_aload_n dX12_pieceOfC_39 0 rfl ?_
            refine z_callVV dX12_pieceOfC_40 (M_X12_value _) bX12_value lX12_292 kc_70 rfl rfl (Nat.le_of_ble_eq_true rfl) (Nat.le_of_ble_eq_true rfl) (fun r36 h37 => ?_)
            exact w_X12_pieceOfC_43 _
        · refine z_aload_n dX12_pieceOfC_25 0 rfl ?_
          refine z_callVV dX12_pieceOfC_26 (M_X12_opens _) bX12_opens lX12_269 kc_70 rfl rfl (Nat.le_of_ble_eq_true rfl) (Nat.le_of_ble_eq_true rfl) (fun r38 h39 => ?_)
          refine z_goto (tgt := 0) dX12_pieceOfC_29 (by decide) ?_
          exact ih _
theorem w_X12_pieceOfC (h : AHp) : WO tvV QX12_pieceOfC 5 0 [(0, .ref 70)] [] h (m_X12_pieceOfC h) := by
  unfold m_X12_pieceOfC
  exact w_X12_pieceOfC_0 FU _
theorem M_X12_pieceOfC (h : AHp) : MV QX12_pieceOfC 5 [.ref 70] h (m_X12_pieceOfC h) := MV.of (by decide) rfl rfl (Nat.le_of_ble_eq_true rfl) (w_X12_pieceOfC h)
set_option maxHeartbeats 4000000 in
set_option maxRecDepth 100000 in
theorem w_X12_goesBehind_17 (x1 : Int32) (h : AHp) : WO tvI QX12_goesBehind 3 17 [(0, .ref 70), (1, .int x1)] [] h (m_X12_goesBehind_17 x1 h) := by
  unfold m_X12_goesBehind_17
  refine z_aload_n dX12_goesBehind_17 0 rfl ?_
  refine z_iload_n dX12_goesBehind_18 1 rfl ?_
  refine z_bipush (v := 124) dX12_goesBehind_19 (by decide) ?_
  refine z_ic_ne (tgt := 28) dX12_goesBehind_21 (by decide) ?_ ?_
  · refine z_iconst (v := 0) dX12_goesBehind_28 (by decide) ?_
    refine z_callVV dX12_goesBehind_29 (M_X12_joins _ _) bX12_joins lX12_301 kc_70 rfl rfl (Nat.le_of_ble_eq_true rfl) (Nat.le_of_ble_eq_true rfl) (fun r1 h2 => ?_)
    refine z_aload_n dX12_goesBehind_32 0 rfl ?_
    refine z_iload_n dX12_goesBehind_33 1 rfl ?_
    refine z_callVV dX12_goesBehind_34 (M_X12_puts _ _) bX12_puts lX12_251 kc_70 rfl rfl (Nat.le_of_ble_eq_true rfl) (Nat.le_of_ble_eq_true rfl) (fun r3 h4 => ?_)
    refine z_iconst (v := 1) dX12_goesBehind_37 (by decide) ?_
    exact z_zret dX12_goesBehind_38 rfl (Or.inr rfl)
  · refine z_iconst (v := 1) dX12_goesBehind_24 (by decide) ?_
    refine z_goto (tgt := 29) dX12_goesBehind_25 (by decide) ?_
    refine z_callVV dX12_goesBehind_29 (M_X12_joins _ _) bX12_joins lX12_301 kc_70 rfl rfl (Nat.le_of_ble_eq_true rfl) (Nat.le_of_ble_eq_true rfl) (fun r5 h6 => ?_)
    refine z_aload_n dX12_goesBehind_32 0 rfl ?_
    refine z_iload_n dX12_goesBehind_33 1 rfl ?_
    refine z_callVV dX12_goesBehind_34 (M_X12_puts _ _) bX12_puts lX12_251 kc_70 rfl rfl (Nat.le_of_ble_eq_true rfl) (Nat.le_of_ble_eq_true rfl) (fun r7 h8 => ?_)
    refine z_iconst (v := 1) dX12_goesBehind_37 (by decide) ?_
    exact z_zret dX12_goesBehind_38 rfl (Or.inr rfl)
set_option maxHeartbeats 4000000 in
set_option maxRecDepth 100000 in
theorem w_X12_goesBehind (h : AHp) : WO tvI QX12_goesBehind 3 0 [(0, .ref 70)] [] h (m_X12_goesBehind h) := by
  unfold m_X12_goesBehind
  refine z_aload_n dX12_goesBehind_0 0 rfl ?_
  refine z_callVI dX12_goesBehind_1 (M_X12_here _) bX12_here lX12_173 kc_70 rfl rfl (Nat.le_of_ble_eq_true rfl) (Nat.le_of_ble_eq_true rfl) (fun r9 h10 => ?_)
  refine z_istore_n (lv2 := [(1, .int r9), (0, .ref 70)]) dX12_goesBehind_4 (Nat.le_of_ble_eq_true rfl) rfl ?_
  refine z_iload_n dX12_goesBehind_5 0 rfl ?_
  refine z_bipush (v := 38) dX12_goesBehind_6 (by decide) ?_
  refine z_ic_eq (tgt := 17) dX12_goesBehind_8 (by decide) ?_ ?_
  · exact z_sub [1, 0] rfl (w_X12_goesBehind_17 _ _)
  · refine z_iload_n dX12_goesBehind_11 0 rfl ?_
    refine z_bipush (v := 124) dX12_goesBehind_12 (by decide) ?_
    refine z_ic_ne (tgt := 39) dX12_goesBehind_14 (by decide) ?_ ?_
    · refine z_iload_n dX12_goesBehind_39 0 rfl ?_
      refine z_bipush (v := 41) dX12_goesBehind_40 (by decide) ?_
      refine z_ic_eq (tgt := 56) dX12_goesBehind_42 (by decide) ?_ ?_
      · refine z_aload_n dX12_goesBehind_56 1 rfl ?_
        refine z_iconst (v := 1) dX12_goesBehind_57 (by decide) ?_
        refine z_callVV dX12_goesBehind_58 (M_X12_joins _ _) bX12_joins lX12_301 kc_70 rfl rfl (Nat.le_of_ble_eq_true rfl) (Nat.le_of_ble_eq_true rfl) (fun r11 h12 => ?_)
        refine z_aload_n dX12_goesBehind_61 1 rfl ?_
        refine z_dup dX12_goesBehind_62 rfl ?_
        refine z_getI fX12_245 kc_70 rfl dX12_goesBehind_63 ?_
        refine z_iconst (v := 1) dX12_goesBehind_66 (by decide) ?_
        refine z_isub dX12_goesBehind_67 ?_
        refine z_putI fX12_245 kc_70 rfl dX12_goesBehind_68 ?_
        refine z_lh (fun h13 => ?_)
        refine z_aload_n dX12_goesBehind_71 1 rfl ?_
        refine z_dup dX12_goesBehind_72 rfl ?_
        refine z_getI fX12_248 kc_70 rfl dX12_goesBehind_73 ?_
        refine z_iconst (v := 1) dX12_goesBehind_76 (by decide) ?_
        refine z_isub dX12_goesBehind_77 ?_
        refine z_putI fX12_248 kc_70 rfl dX12_goesBehind_78 ?_
        refine z_lh (fun h14 => ?_)
        refine z_aload_n dX12_goesBehind_81 1 rfl ?_
        refine z_dup dX12_goesBehind_82 rfl ?_
        refine z_getI fX12_164 kc_70 rfl dX12_goesBehind_83 ?_
        refine z_iconst (v := 1) dX12_goesBehind_86 (by decide) ?_
        refine z_iadd dX12_goesBehind_87 ?_
        refine z_putI fX12_164 kc_70 rfl dX12_goesBehind_88 ?_
        refine z_lh (fun h15 => ?_)
        refine z_aload_n dX12_goesBehind_91 1 rfl ?_
        refine z_aload_n dX12_goesBehind_92 1 rfl ?_
        refine z_getI fX12_245 kc_70 rfl dX12_goesBehind_93 ?_
        refine z_if_ne (tgt := 103) dX12_goesBehind_96 (by decide) ?_ ?_
        · refine z_iconst (v := 0) dX12_goesBehind_103 (by decide) ?_
          refine z_putZ fX12_304 kc_70 rfl (Or.inl rfl) dX12_goesBehind_104 ?_
          refine z_lh (fun h16 => ?_)
          refine z_aload_n dX12_goesBehind_107 1 rfl ?_
          refine z_getI fX12_304 kc_70 rfl dX12_goesBehind_108 ?_
          refine z_if_ne (tgt := 118) dX12_goesBehind_111 (by decide) ?_ ?_
          · refine z_iconst (v := 0) dX12_goesBehind_118 (by decide) ?_
            exact z_zret dX12_goesBehind_119 rfl (Or.inl rfl)
          · refine z_aload_n dX12_goesBehind_114 1 rfl ?_
            refine z_callVV dX12_goesBehind_115 (M_X12_ends _) bX12_ends lX12_298 kc_70 rfl rfl (Nat.le_of_ble_eq_true rfl) (Nat.le_of_ble_eq_true rfl) (fun r17 h18 => ?_)
            refine z_iconst (v := 0) dX12_goesBehind_118 (by decide) ?_
            exact z_zret dX12_goesBehind_119 rfl (Or.inl rfl)
        · refine z_iconst (v := 1) dX12_goesBehind_99 (by decide) ?_
          refine z_goto (tgt := 104) dX12_goesBehind_100 (by decide) ?_
          refine z_putZ fX12_304 kc_70 rfl (Or.inr rfl) dX12_goesBehind_104 ?_
          refine z_lh (fun h19 => ?_)
          refine z_aload_n dX12_goesBehind_107 1 rfl ?_
          refine z_getI fX12_304 kc_70 rfl dX12_goesBehind_108 ?_
          refine z_if_ne (tgt := 118) dX12_goesBehind_111 (by decide) ?_ ?_
          · refine z_iconst (v := 0) dX12_goesBehind_118 (by decide) ?_
            exact z_zret dX12_goesBehind_119 rfl (Or.inl rfl)
          · refine z_aload_n dX12_goesBehind_114 1 rfl ?_
            refine z_callVV dX12_goesBehind_115 (M_X12_ends _) bX12_ends lX12_298 kc_70 rfl rfl (Nat.le_of_ble_eq_true rfl) (Nat.le_of_ble_eq_true rfl) (fun r20 h21 => ?_)
            refine z_iconst (v := 0) dX12_goesBehind_118 (by decide) ?_
            exact z_zret dX12_goesBehind_119 rfl (Or.inl rfl)
      · refine z_aload_n dX12_goesBehind_45 1 rfl ?_
        refine z_iconst (v := 1) dX12_goesBehind_46 (by decide) ?_
        refine z_aload_n dX12_goesBehind_47 1 rfl ?_
        refine z_getI fX12_164 kc_70 rfl dX12_goesBehind_48 ?_
        refine z_callVV dX12_goesBehind_51 (M_X12_wrongs _ _ _) bX12_wrongs lX12_205 kc_70 rfl rfl (Nat.le_of_ble_eq_true rfl) (Nat.le_of_ble_eq_true rfl) (fun r22 h23 => ?_)
        refine z_iconst (v := 0) dX12_goesBehind_54 (by decide) ?_
        exact z_zret dX12_goesBehind_55 rfl (Or.inl rfl)
    · exact z_sub [1, 0] rfl (w_X12_goesBehind_17 _ _)
theorem M_X12_goesBehind (h : AHp) : MI QX12_goesBehind 3 [.ref 70] h (m_X12_goesBehind h) := MI.of (by decide) rfl rfl (Nat.le_of_ble_eq_true rfl) (w_X12_goesBehind h)
set_option maxHeartbeats 4000000 in
set_option maxRecDepth 100000 in
theorem w_X12_condition_37 : ∀ (f : Nat) (x1 : Int32) (h : AHp), WO tvV QX12_condition 6 37 [(0, .ref 70), (1, .int x1)] [] h (m_X12_condition_37 f x1 h) := by
  intro f
  induction f with
  | zero => intro x1 h; exact z_none
  | succ f ih =>
    intro x1 h
    rw [m_X12_condition_37]
    refine z_aload_n dX12_condition_37 0 rfl ?_
    refine z_callVI dX12_condition_38 (M_X12_isGood _) bX12_isGood lX12_209 kc_70 rfl rfl (Nat.le_of_ble_eq_true rfl) (Nat.le_of_ble_eq_true rfl) (fun r1 h2 => ?_)
    refine z_if_eq (tgt := 74) dX12_condition_41 (by decide) ?_ ?_
    · exact z_vret dX12_condition_74 rfl
    · refine z_aload_n dX12_condition_44 0 rfl ?_
      refine z_getI fX12_304 kc_70 rfl dX12_condition_45 ?_
      refine z_if_ne (tgt := 74) dX12_condition_48 (by decide) ?_ ?_
      · exact z_vret dX12_condition_74 rfl
      · refine z_iload_n dX12_condition_51 1 rfl ?_
        refine z_if_eq (tgt := 59) dX12_condition_52 (by decide) ?_ ?_
        · refine z_aload_n dX12_condition_59 0 rfl ?_
          refine z_callVI dX12_condition_60 (M_X12_isGood _) bX12_isGood lX12_209 kc_70 rfl rfl (Nat.le_of_ble_eq_true rfl) (Nat.le_of_ble_eq_true rfl) (fun r3 h4 => ?_)
          refine z_if_eq (tgt := 37) dX12_condition_63 (by decide) ?_ ?_
          · exact ih _ _
          · refine z_aload_n dX12_condition_66 0 rfl ?_
            refine z_callVI dX12_condition_67 (M_X12_goesBehind _) bX12_goesBehind lX12_310 kc_70 rfl rfl (Nat.le_of_ble_eq_true rfl) (Nat.le_of_ble_eq_true rfl) (fun r5 h6 => ?_)
            refine z_istore_n (lv2 := [(1, .int r5), (0, .ref 70)]) dX12_condition_70 (Nat.le_of_ble_eq_true rfl) rfl ?_
            refine z_goto (tgt := 37) dX12_condition_71 (by decide) ?_
            exact z_sub [1, 0] rfl (ih _ _)
        · refine z_aload_n dX12_condition_55 0 rfl ?_
          refine z_callVV dX12_condition_56 (M_X12_pieceOfC _) bX12_pieceOfC lX12_307 kc_70 rfl rfl (Nat.le_of_ble_eq_true rfl) (Nat.le_of_ble_eq_true rfl) (fun r7 h8 => ?_)
          refine z_aload_n dX12_condition_59 0 rfl ?_
          refine z_callVI dX12_condition_60 (M_X12_isGood _) bX12_isGood lX12_209 kc_70 rfl rfl (Nat.le_of_ble_eq_true rfl) (Nat.le_of_ble_eq_true rfl) (fun r9 h10 => ?_)
          refine z_if_eq (tgt := 37) dX12_condition_63 (by decide) ?_ ?_
          · exact ih _ _
          · refine z_aload_n dX12_condition_66 0 rfl ?_
            refine z_callVI dX12_condition_67 (M_X12_goesBehind _) bX12_goesBehind lX12_310 kc_70 rfl rfl (Nat.le_of_ble_eq_true rfl) (Nat.le_of_ble_eq_true rfl) (fun r11 h12 => ?_)
            refine z_istore_n (lv2 := [(1, .int r11), (0, .ref 70)]) dX12_condition_70 (Nat.le_of_ble_eq_true rfl) rfl ?_
            refine z_goto (tgt := 37) dX12_condition_71 (by decide) ?_
            exact z_sub [1, 0] rfl (ih _ _)
set_option maxHeartbeats 4000000 in
set_option maxRecDepth 100000 in
theorem w_X12_condition (h : AHp) : WO tvV QX12_condition 6 0 [(0, .ref 70)] [] h (m_X12_condition h) := by
  unfold m_X12_condition
  refine z_aload_n dX12_condition_0 0 rfl ?_
  refine z_iconst (v := 0) dX12_condition_1 (by decide) ?_
  refine z_putZ fX12_304 kc_70 rfl (Or.inl rfl) dX12_condition_2 ?_
  refine z_lh (fun h13 => ?_)
  refine z_aload_n dX12_condition_5 0 rfl ?_
  refine z_callVI dX12_condition_6 (M_X12_here _) bX12_here lX12_173 kc_70 rfl rfl (Nat.le_of_ble_eq_true rfl) (Nat.le_of_ble_eq_true rfl) (fun r14 h15 => ?_)
  refine z_bipush (v := 40) dX12_condition_9 (by decide) ?_
  refine z_ic_eq (tgt := 23) dX12_condition_11 (by decide) ?_ ?_
  · refine z_aload_n dX12_condition_23 0 rfl ?_
    refine z_callVI dX12_condition_24 (M_X12_isGood _) bX12_isGood lX12_209 kc_70 rfl rfl (Nat.le_of_ble_eq_true rfl) (Nat.le_of_ble_eq_true rfl) (fun r16 h17 => ?_)
    refine z_if_ne (tgt := 31) dX12_condition_27 (by decide) ?_ ?_
    · refine z_aload_n dX12_condition_31 0 rfl ?_
      refine z_callVV dX12_condition_32 (M_X12_opens _) bX12_opens lX12_269 kc_70 rfl rfl (Nat.le_of_ble_eq_true rfl) (Nat.le_of_ble_eq_true rfl) (fun r18 h19 => ?_)
      refine z_iconst (v := 1) dX12_condition_35 (by decide) ?_
      refine z_istore_n (lv2 := [(1, .int 1), (0, .ref 70)]) dX12_condition_36 (Nat.le_of_ble_eq_true rfl) rfl ?_
      exact z_sub [1, 0] rfl (w_X12_condition_37 FU _ _)
    · exact z_vret dX12_condition_30 rfl
  · refine z_aload_n dX12_condition_14 0 rfl ?_
    refine z_iconst (v := 1) dX12_condition_15 (by decide) ?_
    refine z_aload_n dX12_condition_16 0 rfl ?_
    refine z_getI fX12_164 kc_70 rfl dX12_condition_17 ?_
    refine z_callVV dX12_condition_20 (M_X12_wrongs _ _ _) bX12_wrongs lX12_205 kc_70 rfl rfl (Nat.le_of_ble_eq_true rfl) (Nat.le_of_ble_eq_true rfl) (fun r20 h21 => ?_)
    refine z_aload_n dX12_condition_23 0 rfl ?_
    refine z_callVI dX12_condition_24 (M_X12_isGood _) bX12_isGood lX12_209 kc_70 rfl rfl (Nat.le_of_ble_eq_true rfl) (Nat.le_of_ble_eq_true rfl) (fun r22 h23 => ?_)
    refine z_if_ne (tgt := 31) dX12_condition_27 (by decide) ?_ ?_
    · refine z_aload_n dX12_condition_31 0 rfl ?_
      refine z_callVV dX12_condition_32 (M_X12_opens _) bX12_opens lX12_269 kc_70 rfl rfl (Nat.le_of_ble_eq_true rfl) (Nat.le_of_ble_eq_true rfl) (fun r24 h25 => ?_)
      refine z_iconst (v := 1) dX12_condition_35 (by decide) ?_
      refine z_istore_n (lv2 := [(1, .int 1), (0, .ref 70)]) dX12_condition_36 (Nat.le_of_ble_eq_true rfl) rfl ?_
      exact z_sub [1, 0] rfl (w_X12_condition_37 FU _ _)
    · exact z_vret dX12_condition_30 rfl
theorem M_X12_condition (h : AHp) : MV QX12_condition 6 [.ref 70] h (m_X12_condition h) := MV.of (by decide) rfl rfl (Nat.le_of_ble_eq_true rfl) (w_X12_condition h)
set_option maxHeartbeats 4000000 in
set_option maxRecDepth 100000 in
theorem w_X12_clause_132 (h : AHp) : WO tvV QX12_clause 7 132 [(0, .ref 70)] [] h (m_X12_clause_132 h) := by
  unfold m_X12_clause_132
  refine z_aload_n dX12_clause_132 0 rfl ?_
  refine z_getR (j := 87) fX12_64 kc_70 rfl rfl rfl (by decide) dX12_clause_133 ?_
  refine z_aload_n dX12_clause_136 0 rfl ?_
  refine z_getI fX12_313 kc_70 rfl dX12_clause_137 ?_
  refine z_aload_n dX12_clause_140 0 rfl ?_
  refine z_getI fX12_242 kc_70 rfl dX12_clause_141 ?_
  refine z_gd (fun g2 => ?_)
  refine z_iast kc_87 dX12_clause_144 g2 ?_
  refine z_lh (fun h1 => ?_)
  refine z_aload_n dX12_clause_145 0 rfl ?_
  refine z_dup dX12_clause_146 rfl ?_
  refine z_getI fX12_313 kc_70 rfl dX12_clause_147 ?_
  refine z_iconst (v := 1) dX12_clause_150 (by decide) ?_
  refine z_iadd dX12_clause_151 ?_
  refine z_putI fX12_313 kc_70 rfl dX12_clause_152 ?_
  refine z_lh (fun h3 => ?_)
  exact z_vret dX12_clause_155 rfl
set_option maxHeartbeats 4000000 in
set_option maxRecDepth 100000 in
theorem w_X12_clause_108 (h : AHp) : WO tvV QX12_clause 7 108 [(0, .ref 70)] [] h (m_X12_clause_108 h) := by
  unfold m_X12_clause_108
  refine z_aload_n dX12_clause_108 0 rfl ?_
  refine z_getR (j := 86) fX12_61 kc_70 rfl rfl rfl (by decide) dX12_clause_109 ?_
  refine z_aload_n dX12_clause_112 0 rfl ?_
  refine z_getI fX12_313 kc_70 rfl dX12_clause_113 ?_
  refine z_aload_n dX12_clause_116 0 rfl ?_
  refine z_getI fX12_242 kc_70 rfl dX12_clause_117 ?_
  refine z_gd (fun g5 => ?_)
  refine z_iast kc_86 dX12_clause_120 g5 ?_
  refine z_lh (fun h4 => ?_)
  refine z_aload_n dX12_clause_121 0 rfl ?_
  refine z_callVI dX12_clause_122 (M_X12_isGood _) bX12_isGood lX12_209 kc_70 rfl rfl (Nat.le_of_ble_eq_true rfl) (Nat.le_of_ble_eq_true rfl) (fun r6 h7 => ?_)
  refine z_if_eq (tgt := 132) dX12_clause_125 (by decide) ?_ ?_
  · exact w_X12_clause_132 _
  · refine z_aload_n dX12_clause_128 0 rfl ?_
    refine z_callVV dX12_clause_129 (M_X12_condition _) bX12_condition lX12_316 kc_70 rfl rfl (Nat.le_of_ble_eq_true rfl) (Nat.le_of_ble_eq_true rfl) (fun r8 h9 => ?_)
    exact w_X12_clause_132 _
set_option maxHeartbeats 4000000 in
set_option maxRecDepth 100000 in
theorem w_X12_clause_47 (x1 : Int32) (h : AHp) : WO tvV QX12_clause 7 47 [(0, .ref 70), (1, .int x1)] [] h (m_X12_clause_47 x1 h) := by
  unfold m_X12_clause_47
  refine z_aload_n dX12_clause_47 0 rfl ?_
  refine z_callVI dX12_clause_48 (M_X12_isGood _) bX12_isGood lX12_209 kc_70 rfl rfl (Nat.le_of_ble_eq_true rfl) (Nat.le_of_ble_eq_true rfl) (fun r10 h11 => ?_)
  refine z_if_ne (tgt := 55) dX12_clause_51 (by decide) ?_ ?_
  · refine z_aload_n dX12_clause_55 0 rfl ?_
    refine z_getR (j := 84) fX12_55 kc_70 rfl rfl rfl (by decide) dX12_clause_56 ?_
    refine z_aload_n dX12_clause_59 0 rfl ?_
    refine z_getI fX12_313 kc_70 rfl dX12_clause_60 ?_
    refine z_iload_n dX12_clause_63 1 rfl ?_
    refine z_gd (fun g13 => ?_)
    refine z_iast kc_84 dX12_clause_64 g13 ?_
    refine z_lh (fun h12 => ?_)
    refine z_aload_n dX12_clause_65 0 rfl ?_
    refine z_getR (j := 85) fX12_58 kc_70 rfl rfl rfl (by decide) dX12_clause_66 ?_
    refine z_aload_n dX12_clause_69 0 rfl ?_
    refine z_getI fX12_313 kc_70 rfl dX12_clause_70 ?_
    refine z_aload_n dX12_clause_73 0 rfl ?_
    refine z_getI fX12_242 kc_70 rfl dX12_clause_74 ?_
    refine z_gd (fun g15 => ?_)
    refine z_iast kc_85 dX12_clause_77 g15 ?_
    refine z_lh (fun h14 => ?_)
    refine z_aload_n dX12_clause_78 0 rfl ?_
    refine z_dup dX12_clause_79 rfl ?_
    refine z_getI fX12_164 kc_70 rfl dX12_clause_80 ?_
    refine z_iconst (v := 1) dX12_clause_83 (by decide) ?_
    refine z_iadd dX12_clause_84 ?_
    refine z_putI fX12_164 kc_70 rfl dX12_clause_85 ?_
    refine z_lh (fun h16 => ?_)
    refine z_aload_n dX12_clause_88 0 rfl ?_
    refine z_iconst (v := 0) dX12_clause_89 (by decide) ?_
    refine z_putI fX12_245 kc_70 rfl dX12_clause_90 ?_
    refine z_lh (fun h17 => ?_)
    refine z_aload_n dX12_clause_93 0 rfl ?_
    refine z_iconst (v := 0) dX12_clause_94 (by decide) ?_
    refine z_putI fX12_248 kc_70 rfl dX12_clause_95 ?_
    refine z_lh (fun h18 => ?_)
    refine z_iload_n dX12_clause_98 1 rfl ?_
    refine z_bipush (v := 112) dX12_clause_99 (by decide) ?_
    refine z_ic_ne (tgt := 108) dX12_clause_101 (by decide) ?_ ?_
    · exact z_sub [0] rfl (w_X12_clause_108 _)
    · refine z_aload_n dX12_clause_104 0 rfl ?_
      refine z_callVV dX12_clause_105 (M_X12_value _) bX12_value lX12_292 kc_70 rfl rfl (Nat.le_of_ble_eq_true rfl) (Nat.le_of_ble_eq_true rfl) (fun r19 h20 => ?_)
      exact z_sub [0] rfl (w_X12_clause_108 _)
  · exact z_vret dX12_clause_54 rfl
set_option maxHeartbeats 4000000 in
set_option maxRecDepth 100000 in
theorem w_X12_clause_29 (x1 : Int32) (h : AHp) : WO tvV QX12_clause 7 29 [(0, .ref 70), (1, .int x1)] [] h (m_X12_clause_29 x1 h) := by
  unfold m_X12_clause_29
  refine z_aload_n dX12_clause_29 0 rfl ?_
  refine z_getI fX12_313 kc_70 rfl dX12_clause_30 ?_
  refine z_bipush (v := 14) dX12_clause_33 (by decide) ?_
  refine z_ic_ne (tgt := 47) dX12_clause_35 (by decide) ?_ ?_
  · exact w_X12_clause_47 _ _
  · refine z_aload_n dX12_clause_38 0 rfl ?_
    refine z_iconst (v := 4) dX12_clause_39 (by decide) ?_
    refine z_aload_n dX12_clause_40 0 rfl ?_
    refine z_getI fX12_164 kc_70 rfl dX12_clause_41 ?_
    refine z_callVV dX12_clause_44 (M_X12_wrongs _ _ _) bX12_wrongs lX12_205 kc_70 rfl rfl (Nat.le_of_ble_eq_true rfl) (Nat.le_of_ble_eq_true rfl) (fun r21 h22 => ?_)
    exact w_X12_clause_47 _ _
set_option maxHeartbeats 4000000 in
set_option maxRecDepth 100000 in
theorem w_X12_clause (h : AHp) : WO tvV QX12_clause 7 0 [(0, .ref 70)] [] h (m_X12_clause h) := by
  unfold m_X12_clause
  refine z_aload_n dX12_clause_0 0 rfl ?_
  refine z_callVI dX12_clause_1 (M_X12_here _) bX12_here lX12_173 kc_70 rfl rfl (Nat.le_of_ble_eq_true rfl) (Nat.le_of_ble_eq_true rfl) (fun r23 h24 => ?_)
  refine z_istore_n (lv2 := [(1, .int r23), (0, .ref 70)]) dX12_clause_4 (Nat.le_of_ble_eq_true rfl) rfl ?_
  refine z_iload_n dX12_clause_5 0 rfl ?_
  refine z_bipush (v := 110) dX12_clause_6 (by decide) ?_
  refine z_ic_eq (tgt := 29) dX12_clause_8 (by decide) ?_ ?_
  · exact z_sub [1, 0] rfl (w_X12_clause_29 _ _)
  · refine z_iload_n dX12_clause_11 0 rfl ?_
    refine z_bipush (v := 112) dX12_clause_12 (by decide) ?_
    refine z_ic_eq (tgt := 29) dX12_clause_14 (by decide) ?_ ?_
    · exact z_sub [1, 0] rfl (w_X12_clause_29 _ _)
    · refine z_aload_n dX12_clause_17 1 rfl ?_
      refine z_iconst (v := 1) dX12_clause_18 (by decide) ?_
      refine z_aload_n dX12_clause_19 1 rfl ?_
      refine z_getI fX12_164 kc_70 rfl dX12_clause_20 ?_
      refine z_callVV dX12_clause_23 (M_X12_wrongs _ _ _) bX12_wrongs lX12_205 kc_70 rfl rfl (Nat.le_of_ble_eq_true rfl) (Nat.le_of_ble_eq_true rfl) (fun r25 h26 => ?_)
      refine z_goto (tgt := 47) dX12_clause_26 (by decide) ?_
      exact z_sub [1, 0] rfl (w_X12_clause_47 _ _)
theorem M_X12_clause (h : AHp) : MV QX12_clause 7 [.ref 70] h (m_X12_clause h) := MV.of (by decide) rfl rfl (Nat.le_of_ble_eq_true rfl) (w_X12_clause h)
set_option maxHeartbeats 4000000 in
set_option maxRecDepth 100000 in
theorem w_X12_isLaw (x0 : Int32) (h : AHp) : WO tvI QX12_isLaw 1 0 [(0, .int x0)] [] h (m_X12_isLaw x0 h) := by
  unfold m_X12_isLaw
  refine z_iload_n dX12_isLaw_0 0 rfl ?_
  refine z_i2l dX12_isLaw_1 ?_
  refine z_lconst (v := 0) dX12_isLaw_2 (by decide) ?_
  refine z_lconst (v := 1) dX12_isLaw_3 (by decide) ?_
  refine z_callSI dX12_isLaw_4 (M_X12_lies _ _ _ _) bX12_lies lX12_181 rfl rfl (Nat.le_of_ble_eq_true rfl) (Nat.le_of_ble_eq_true rfl) (fun r1 h2 => ?_)
  refine z_gd (fun g3 => ?_)
  exact z_zret dX12_isLaw_7 rfl g3
theorem M_X12_isLaw (x0 : Int32) (h : AHp) : MI QX12_isLaw 1 [.int x0] h (m_X12_isLaw x0 h) := MI.of (by decide) rfl rfl (Nat.le_of_ble_eq_true rfl) (w_X12_isLaw x0 h)
set_option maxHeartbeats 4000000 in
set_option maxRecDepth 100000 in
theorem w_X12_law_99 (k61 : Int32 → Int32 → AHp → Option (Int32 × AHp)) (hk61 : ∀ (x1 : Int32) (x3 : Int32) (h : AHp), WO tvI QX12_law 8 61 [(0, .ref 70), (1, .int x1), (3, .int x3)] [] h (k61 x1 x3 h)) (x1 : Int32) (s0 : Int32) (h : AHp) : WO tvI QX12_law 8 99 [(0, .ref 70), (1, .int x1)] [.int s0] h (m_X12_law_99 k61 x1 s0 h) := by
  unfold m_X12_law_99
  refine z_istore_n (lv2 := [(3, .int s0), (0, .ref 70), (1, .int x1)]) dX12_law_99 (Nat.le_of_ble_eq_true rfl) rfl ?_
  refine z_iload_n dX12_law_100 0 rfl ?_
  refine z_if_eq (tgt := 61) dX12_law_101 (by decide) ?_ ?_
  · exact z_sub [1, 2, 0] rfl (hk61 _ _ _)
  · refine z_aload_n dX12_law_104 1 rfl ?_
    refine z_callVI dX12_law_105 (M_X12_here _) bX12_here lX12_173 kc_70 rfl rfl (Nat.le_of_ble_eq_true rfl) (Nat.le_of_ble_eq_true rfl) (fun r1 h2 => ?_)
    refine z_bipush (v := 59) dX12_law_108 (by decide) ?_
    refine z_ic_eq (tgt := 122) dX12_law_110 (by decide) ?_ ?_
    · refine z_aload_n dX12_law_122 1 rfl ?_
      refine z_dup dX12_law_123 rfl ?_
      refine z_getI fX12_164 kc_70 rfl dX12_law_124 ?_
      refine z_iconst (v := 1) dX12_law_127 (by decide) ?_
      refine z_iadd dX12_law_128 ?_
      refine z_putI fX12_164 kc_70 rfl dX12_law_129 ?_
      refine z_lh (fun h3 => ?_)
      refine z_goto (tgt := 61) dX12_law_132 (by decide) ?_
      exact z_sub [1, 2, 0] rfl (hk61 _ _ _)
    · refine z_aload_n dX12_law_113 1 rfl ?_
      refine z_iconst (v := 1) dX12_law_114 (by decide) ?_
      refine z_aload_n dX12_law_115 1 rfl ?_
      refine z_getI fX12_164 kc_70 rfl dX12_law_116 ?_
      refine z_callVV dX12_law_119 (M_X12_wrongs _ _ _) bX12_wrongs lX12_205 kc_70 rfl rfl (Nat.le_of_ble_eq_true rfl) (Nat.le_of_ble_eq_true rfl) (fun r4 h5 => ?_)
      refine z_aload_n dX12_law_122 1 rfl ?_
      refine z_dup dX12_law_123 rfl ?_
      refine z_getI fX12_164 kc_70 rfl dX12_law_124 ?_
      refine z_iconst (v := 1) dX12_law_127 (by decide) ?_
      refine z_iadd dX12_law_128 ?_
      refine z_putI fX12_164 kc_70 rfl dX12_law_129 ?_
      refine z_lh (fun h6 => ?_)
      refine z_goto (tgt := 61) dX12_law_132 (by decide) ?_
      exact z_sub [1, 2, 0] rfl (hk61 _ _ _)
set_option maxHeartbeats 4000000 in
set_option maxRecDepth 100000 in
theorem w_X12_law_262 : ∀ (f : Nat) (x1 : Int32) (x4 : Int32) (h : AHp), WO tvI QX12_law 8 262 [(0, .ref 70), (1, .int x1), (4, .int x4)] [] h (m_X12_law_262 f x1 x4 h) := by
  intro f
  induction f with
  | zero => intro x1 x4 h; exact z_none
  | succ f ih =>
    intro x1 x4 h
    rw [m_X12_law_262]
    refine z_iload dX12_law_262 2 rfl ?_
    refine z_aload_n dX12_law_264 0 rfl ?_
    refine z_getI fX12_242 kc_70 rfl dX12_law_265 ?_
    refine z_ic_ge (tgt := 317) dX12_law_268 (by decide) ?_ ?_
    · refine z_aload_n dX12_law_317 0 rfl ?_
      refine z_getR (j := 77) fX12_34 kc_70 rfl rfl rfl (by decide) dX12_law_318 ?_
      refine z_iload_n dX12_law_321 1 rfl ?_
      refine z_aload_n dX12_law_322 0 rfl ?_
      refine z_getI fX12_313 kc_70 rfl dX12_law_323 ?_
      refine z_gd (fun g8 => ?_)
      refine z_iast kc_77 dX12_law_326 g8 ?_
      refine z_lh (fun h7 => ?_)
      refine z_aload_n dX12_law_327 0 rfl ?_
      refine z_getI fX12_313 kc_70 rfl dX12_law_328 ?_
      exact z_iret dX12_law_331 rfl
    · refine z_aload_n dX12_law_271 0 rfl ?_
      refine z_getR (j := 82) fX12_49 kc_70 rfl rfl rfl (by decide) dX12_law_272 ?_
      refine z_sipush (v := 200) dX12_law_275 (by decide) ?_
      refine z_iload_n dX12_law_278 1 rfl ?_
      refine z_imul dX12_law_279 ?_
      refine z_iload dX12_law_280 2 rfl ?_
      refine z_iadd dX12_law_282 ?_
      refine z_aload_n dX12_law_283 0 rfl ?_
      refine z_getR (j := 88) fX12_67 kc_70 rfl rfl rfl (by decide) dX12_law_284 ?_
      refine z_iload dX12_law_287 2 rfl ?_
      refine z_gd (fun g9 => ?_)
      refine z_iald kc_88 dX12_law_289 g9 ?_
      refine z_gd (fun g11 => ?_)
      refine z_iast kc_82 dX12_law_290 g11 ?_
      refine z_lh (fun h10 => ?_)
      refine z_aload_n dX12_law_291 0 rfl ?_
      refine z_getR (j := 83) fX12_52 kc_70 rfl rfl rfl (by decide) dX12_law_292 ?_
      refine z_sipush (v := 200) dX12_law_295 (by decide) ?_
      refine z_iload_n dX12_law_298 1 rfl ?_
      refine z_imul dX12_law_299 ?_
      refine z_iload dX12_law_300 2 rfl ?_
      refine z_iadd dX12_law_302 ?_
      refine z_aload_n dX12_law_303 0 rfl ?_
      refine z_getR (j := 89) fX12_70 kc_70 rfl rfl rfl (by decide) dX12_law_304 ?_
      refine z_iload dX12_law_307 2 rfl ?_
      refine z_gd (fun g12 => ?_)
      refine z_iald kc_89 dX12_law_309 g12 ?_
      refine z_gd (fun g14 => ?_)
      refine z_iast kc_83 dX12_law_310 g14 ?_
      refine z_lh (fun h13 => ?_)
      refine z_iincL (lv2 := fun v15 => [(4, .int v15), (0, .ref 70), (1, .int x1)]) dX12_law_311 2 rfl rfl (Nat.le_of_ble_eq_true rfl) (fun _ => rfl) (fun v15 => ?_)
      refine z_goto (tgt := 262) dX12_law_314 (by decide) ?_
      exact z_sub [1, 2, 0] rfl (ih _ _ _)
set_option maxHeartbeats 4000000 in
set_option maxRecDepth 100000 in
theorem w_X12_law_150 : ∀ (f : Nat) (x1 : Int32) (x4 : Int32) (h : AHp), WO tvI QX12_law 8 150 [(0, .ref 70), (1, .int x1), (4, .int x4)] [] h (m_X12_law_150 f x1 x4 h) := by
  intro f
  induction f with
  | zero => intro x1 x4 h; exact z_none
  | succ f ih =>
    intro x1 x4 h
    rw [m_X12_law_150]
    refine z_iload dX12_law_150 2 rfl ?_
    refine z_aload_n dX12_law_152 0 rfl ?_
    refine z_getI fX12_313 kc_70 rfl dX12_law_153 ?_
    refine z_ic_ge (tgt := 259) dX12_law_156 (by decide) ?_ ?_
    · refine z_iconst (v := 0) dX12_law_259 (by decide) ?_
      refine z_istore (lv2 := [(4, .int 0), (0, .ref 70), (1, .int x1)]) dX12_law_260 (Nat.le_of_ble_eq_true rfl) rfl ?_
      exact z_sub [1, 2, 0] rfl (w_X12_law_262 FU _ _ _)
    · refine z_aload_n dX12_law_159 0 rfl ?_
      refine z_getR (j := 78) fX12_37 kc_70 rfl rfl rfl (by decide) dX12_law_160 ?_
      refine z_bipush (v := 14) dX12_law_163 (by decide) ?_
      refine z_iload_n dX12_law_165 1 rfl ?_
      refine z_imul dX12_law_166 ?_
      refine z_iload dX12_law_167 2 rfl ?_
      refine z_iadd dX12_law_169 ?_
      refine z_aload_n dX12_law_170 0 rfl ?_
      refine z_getR (j := 84) fX12_55 kc_70 rfl rfl rfl (by decide) dX12_law_171 ?_
      refine z_iload dX12_law_174 2 rfl ?_
      refine z_gd (fun g16 => ?_)
      refine z_iald kc_84 dX12_law_176 g16 ?_
      refine z_gd (fun g18 => ?_)
      refine z_iast kc_78 dX12_law_177 g18 ?_
      refine z_lh (fun h17 => ?_)
      refine z_aload_n dX12_law_178 0 rfl ?_
      refine z_getR (j := 79) fX12_40 kc_70 rfl rfl rfl (by decide) dX12_law_179 ?_
      refine z_bipush (v := 14) dX12_law_182 (by decide) ?_
      refine z_iload_n dX12_law_184 1 rfl ?_
      refine z_imul dX12_law_185 ?_
      refine z_iload dX12_law_186 2 rfl ?_
      refine z_iadd dX12_law_188 ?_
      refine z_sipush (v := 200) dX12_law_189 (by decide) ?_
      refine z_iload_n dX12_law_192 1 rfl ?_
      refine z_imul dX12_law_193 ?_
      refine z_aload_n dX12_law_194 0 rfl ?_
      refine z_getR (j := 85) fX12_58 kc_70 rfl rfl rfl (by decide) dX12_law_195 ?_
      refine z_iload dX12_law_198 2 rfl ?_
      refine z_gd (fun g19 => ?_)
      refine z_iald kc_85 dX12_law_200 g19 ?_
      refine z_iadd dX12_law_201 ?_
      refine z_gd (fun g21 => ?_)
      refine z_iast kc_79 dX12_law_202 g21 ?_
      refine z_lh (fun h20 => ?_)
      refine z_aload_n dX12_law_203 0 rfl ?_
      refine z_getR (j := 80) fX12_43 kc_70 rfl rfl rfl (by decide) dX12_law_204 ?_
      refine z_bipush (v := 14) dX12_law_207 (by decide) ?_
      refine z_iload_n dX12_law_209 1 rfl ?_
      refine z_imul dX12_law_210 ?_
      refine z_iload dX12_law_211 2 rfl ?_
      refine z_iadd dX12_law_213 ?_
      refine z_sipush (v := 200) dX12_law_214 (by decide) ?_
      refine z_iload_n dX12_law_217 1 rfl ?_
      refine z_imul dX12_law_218 ?_
      refine z_aload_n dX12_law_219 0 rfl ?_
      refine z_getR (j := 86) fX12_61 kc_70 rfl rfl rfl (by decide) dX12_law_220 ?_
      refine z_iload dX12_law_223 2 rfl ?_
      refine z_gd (fun g22 => ?_)
      refine z_iald kc_86 dX12_law_225 g22 ?_
      refine z_iadd dX12_law_226 ?_
      refine z_gd (fun g24 => ?_)
      refine z_iast kc_80 dX12_law_227 g24 ?_
      refine z_lh (fun h23 => ?_)
      refine z_aload_n dX12_law_228 0 rfl ?_
      refine z_getR (j := 81) fX12_46 kc_70 rfl rfl rfl (by decide) dX12_law_229 ?_
      refine z_bipush (v := 14) dX12_law_232 (by decide) ?_
      refine z_iload_n dX12_law_234 1 rfl ?_
      refine z_imul dX12_law_235 ?_
      refine z_iload dX12_law_236 2 rfl ?_
      refine z_iadd dX12_law_238 ?_
      refine z_sipush (v := 200) dX12_law_239 (by decide) ?_
      refine z_iload_n dX12_law_242 1 rfl ?_
      refine z_imul dX12_law_243 ?_
      refine z_aload_n dX12_law_244 0 rfl ?_
      refine z_getR (j := 87) fX12_64 kc_70 rfl rfl rfl (by decide) dX12_law_245 ?_
      refine z_iload dX12_law_248 2 rfl ?_
      refine z_gd (fun g25 => ?_)
      refine z_iald kc_87 dX12_law_250 g25 ?_
      refine z_iadd dX12_law_251 ?_
      refine z_gd (fun g27 => ?_)
      refine z_iast kc_81 dX12_law_252 g27 ?_
      refine z_lh (fun h26 => ?_)
      refine z_iincL (lv2 := fun v28 => [(4, .int v28), (0, .ref 70), (1, .int x1)]) dX12_law_253 2 rfl rfl (Nat.le_of_ble_eq_true rfl) (fun _ => rfl) (fun v28 => ?_)
      refine z_goto (tgt := 150) dX12_law_256 (by decide) ?_
      exact z_sub [1, 2, 0] rfl (ih _ _ _)
set_option maxHeartbeats 4000000 in
set_option maxRecDepth 100000 in
theorem w_X12_law_61 : ∀ (f : Nat) (x1 : Int32) (x3 : Int32) (h : AHp), WO tvI QX12_law 8 61 [(0, .ref 70), (1, .int x1), (3, .int x3)] [] h (m_X12_law_61 f x1 x3 h) := by
  intro f
  induction f with
  | zero => intro x1 x3 h; exact z_none
  | succ f ih =>
    intro x1 x3 h
    rw [m_X12_law_61]
    refine z_iload_n dX12_law_61 2 rfl ?_
    refine z_if_eq (tgt := 135) dX12_law_62 (by decide) ?_ ?_
    · refine z_aload_n dX12_law_135 0 rfl ?_
      refine z_getI fX12_170 kc_70 rfl dX12_law_136 ?_
      refine z_if_ge (tgt := 147) dX12_law_139 (by decide) ?_ ?_
      · refine z_iconst (v := 0) dX12_law_147 (by decide) ?_
        refine z_istore (lv2 := [(4, .int 0), (0, .ref 70), (1, .int x1), (3, .int x3)]) dX12_law_148 (Nat.le_of_ble_eq_true rfl) rfl ?_
        exact z_sub [1, 2, 0] rfl (w_X12_law_150 FU _ _ _)
      · refine z_aload_n dX12_law_142 0 rfl ?_
        refine z_getI fX12_170 kc_70 rfl dX12_law_143 ?_
        exact z_iret dX12_law_146 rfl
    · refine z_aload_n dX12_law_65 0 rfl ?_
      refine z_callVI dX12_law_66 (M_X12_isGood _) bX12_isGood lX12_209 kc_70 rfl rfl (Nat.le_of_ble_eq_true rfl) (Nat.le_of_ble_eq_true rfl) (fun r29 h30 => ?_)
      refine z_if_eq (tgt := 135) dX12_law_69 (by decide) ?_ ?_
      · refine z_aload_n dX12_law_135 0 rfl ?_
        refine z_getI fX12_170 kc_70 rfl dX12_law_136 ?_
        refine z_if_ge (tgt := 147) dX12_law_139 (by decide) ?_ ?_
        · refine z_iconst (v := 0) dX12_law_147 (by decide) ?_
          refine z_istore (lv2 := [(4, .int 0), (0, .ref 70), (1, .int x1), (3, .int x3)]) dX12_law_148 (Nat.le_of_ble_eq_true rfl) rfl ?_
          exact z_sub [1, 2, 0] rfl (w_X12_law_150 FU _ _ _)
        · refine z_aload_n dX12_law_142 0 rfl ?_
          refine z_getI fX12_170 kc_70 rfl dX12_law_143 ?_
          exact z_iret dX12_law_146 rfl
      · refine z_aload_n dX12_law_72 0 rfl ?_
        refine z_callVV dX12_law_73 (M_X12_clause _) bX12_clause lX12_324 kc_70 rfl rfl (Nat.le_of_ble_eq_true rfl) (Nat.le_of_ble_eq_true rfl) (fun r31 h32 => ?_)
        refine z_aload_n dX12_law_76 0 rfl ?_
        refine z_callVI dX12_law_77 (M_X12_isGood _) bX12_isGood lX12_209 kc_70 rfl rfl (Nat.le_of_ble_eq_true rfl) (Nat.le_of_ble_eq_true rfl) (fun r33 h34 => ?_)
        refine z_if_eq (tgt := 98) dX12_law_80 (by decide) ?_ ?_
        · refine z_iconst (v := 0) dX12_law_98 (by decide) ?_
          exact z_sub [0, 1] rfl (w_X12_law_99 _ ih _ _ _)
        · refine z_aload_n dX12_law_83 0 rfl ?_
          refine z_getI fX12_164 kc_70 rfl dX12_law_84 ?_
          refine z_aload_n dX12_law_87 0 rfl ?_
          refine z_getI fX12_167 kc_70 rfl dX12_law_88 ?_
          refine z_ic_ge (tgt := 98) dX12_law_91 (by decide) ?_ ?_
          · refine z_iconst (v := 0) dX12_law_98 (by decide) ?_
            exact z_sub [0, 1] rfl (w_X12_law_99 _ ih _ _ _)
          · refine z_iconst (v := 1) dX12_law_94 (by decide) ?_
            refine z_goto (tgt := 99) dX12_law_95 (by decide) ?_
            exact z_sub [0, 1] rfl (w_X12_law_99 _ ih _ _ _)
set_option maxHeartbeats 4000000 in
set_option maxRecDepth 100000 in
theorem w_X12_law (x1 : Int32) (x2 : Int32) (h : AHp) : WO tvI QX12_law 8 0 [(0, .ref 70), (1, .int x1), (2, .int x2)] [] h (m_X12_law x1 x2 h) := by
  unfold m_X12_law
  refine z_iload_n dX12_law_0 1 rfl ?_
  refine z_callSI dX12_law_1 (M_X12_isLaw _ _) bX12_isLaw lX12_319 rfl rfl (Nat.le_of_ble_eq_true rfl) (Nat.le_of_ble_eq_true rfl) (fun r35 h36 => ?_)
  refine z_if_eq (tgt := 27) dX12_law_4 (by decide) ?_ ?_
  · refine z_iconst (v := -1) dX12_law_27 (by decide) ?_
    exact z_iret dX12_law_28 rfl
  · refine z_iload_n dX12_law_7 2 rfl ?_
    refine z_i2l dX12_law_8 ?_
    refine z_lconst (v := 1) dX12_law_9 (by decide) ?_
    refine z_ldc2 dX12_law_10 kX12_322 ?_
    refine z_callSI dX12_law_13 (M_X12_lies _ _ _ _) bX12_lies lX12_181 rfl rfl (Nat.le_of_ble_eq_true rfl) (Nat.le_of_ble_eq_true rfl) (fun r37 h38 => ?_)
    refine z_if_eq (tgt := 27) dX12_law_16 (by decide) ?_ ?_
    · refine z_iconst (v := -1) dX12_law_27 (by decide) ?_
      exact z_iret dX12_law_28 rfl
    · refine z_iload_n dX12_law_19 2 rfl ?_
      refine z_aload_n dX12_law_20 0 rfl ?_
      refine z_getI fX12_157 kc_70 rfl dX12_law_21 ?_
      refine z_ic_le (tgt := 29) dX12_law_24 (by decide) ?_ ?_
      · refine z_aload_n dX12_law_29 0 rfl ?_
        refine z_iconst (v := 0) dX12_law_30 (by decide) ?_
        refine z_putI fX12_157 kc_70 rfl dX12_law_31 ?_
        refine z_lh (fun h39 => ?_)
        refine z_aload_n dX12_law_34 0 rfl ?_
        refine z_iconst (v := 0) dX12_law_35 (by decide) ?_
        refine z_putI fX12_164 kc_70 rfl dX12_law_36 ?_
        refine z_lh (fun h40 => ?_)
        refine z_aload_n dX12_law_39 0 rfl ?_
        refine z_iload_n dX12_law_40 2 rfl ?_
        refine z_putI fX12_167 kc_70 rfl dX12_law_41 ?_
        refine z_lh (fun h41 => ?_)
        refine z_aload_n dX12_law_44 0 rfl ?_
        refine z_iconst (v := 0) dX12_law_45 (by decide) ?_
        refine z_putI fX12_170 kc_70 rfl dX12_law_46 ?_
        refine z_lh (fun h42 => ?_)
        refine z_aload_n dX12_law_49 0 rfl ?_
        refine z_iconst (v := 0) dX12_law_50 (by decide) ?_
        refine z_putI fX12_313 kc_70 rfl dX12_law_51 ?_
        refine z_lh (fun h43 => ?_)
        refine z_aload_n dX12_law_54 0 rfl ?_
        refine z_iconst (v := 0) dX12_law_55 (by decide) ?_
        refine z_putI fX12_242 kc_70 rfl dX12_law_56 ?_
        refine z_lh (fun h44 => ?_)
        refine z_iconst (v := 1) dX12_law_59 (by decide) ?_
        refine z_istore_n (lv2 := [(3, .int 1), (0, .ref 70), (1, .int x1), (2, .int x2)]) dX12_law_60 (Nat.le_of_ble_eq_true rfl) rfl ?_
        exact z_sub [1, 2, 0] rfl (w_X12_law_61 FU _ _ _)
      · refine z_iconst (v := -1) dX12_law_27 (by decide) ?_
        exact z_iret dX12_law_28 rfl
theorem M_X12_law (x1 : Int32) (x2 : Int32) (h : AHp) : MI QX12_law 8 [.ref 70, .int x1, .int x2] h (m_X12_law x1 x2 h) := MI.of (by decide) rfl rfl (Nat.le_of_ble_eq_true rfl) (w_X12_law x1 x2 h)
