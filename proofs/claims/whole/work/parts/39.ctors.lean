def rK1 (rho : Nat → Nat → Nat) : Nat → Nat → Nat := (uR rho 1 0 2)
def hK1 (h : AHp) : AHp := h
set_option maxHeartbeats 4000000 in
set_option maxRecDepth 100000 in
theorem mk_1 (rho : Nat → Nat → Nat) (h : AHp) : MB QX8_init 1 [.ref 1] 2 rho h 3 (rK1 rho) (hK1 h) 1 220 := by
  refine MB.of (pcE := 13) (by decide) rfl rfl (Nat.le_of_ble_eq_true rfl) dX8_init_13 ?_
  unfold rK1 hK1
  show WB QX8_init 1 0 [(0, .ref 1)] [] 2 rho h 0 0 13 [] 3 _ _ 1 220
  refine y_aload_n dX8_init_0 0 rfl ?_
  refine y_objInit dX8_init_1 iX8_3 w_obj (Nat.le_of_ble_eq_true rfl) (Nat.le_of_ble_eq_true rfl) ?_
  refine y_aload_n dX8_init_4 0 rfl ?_
  refine y_sipush (v := 220) dX8_init_5 (by decide) ?_
  refine y_newa_int kc_2 dX8_init_8 w_aint nv_int_220 ⟨(Nat.le_of_ble_eq_true rfl), (Nat.le_of_ble_eq_true rfl)⟩ ⟨rfl, rfl⟩ ?_
  refine y_putF ffX8_9 kc_1 (Nat.le_of_ble_eq_true rfl) ⟨by decide, (Nat.le_of_ble_eq_true rfl)⟩ rfl rfl rfl ⟨rfl, fun _ => ⟨rfl, rfl⟩⟩ dX8_init_10 ?_
  exact y_end
def rK7 (rho : Nat → Nat → Nat) : Nat → Nat → Nat := (uR (uR (uR (uR (uR (uR (uR rho 7 0 8) 7 1 9) 7 2 10) 7 3 11) 7 4 12) 7 5 13) 7 6 14)
def hK7 (h : AHp) : AHp := h
set_option maxHeartbeats 4000000 in
set_option maxRecDepth 100000 in
theorem mk_7 (rho : Nat → Nat → Nat) (h : AHp) : MB QX2_init 1 [.ref 7] 8 rho h 15 (rK7 rho) (hK7 h) 7 582 := by
  refine MB.of (pcE := 62) (by decide) rfl rfl (Nat.le_of_ble_eq_true rfl) dX2_init_62 ?_
  unfold rK7 hK7
  show WB QX2_init 1 0 [(0, .ref 7)] [] 8 rho h 0 0 62 [] 15 _ _ 7 582
  refine y_aload_n dX2_init_0 0 rfl ?_
  refine y_objInit dX2_init_1 iX2_3 w_obj (Nat.le_of_ble_eq_true rfl) (Nat.le_of_ble_eq_true rfl) ?_
  refine y_aload_n dX2_init_4 0 rfl ?_
  refine y_sipush (v := 256) dX2_init_5 (by decide) ?_
  refine y_newa_int kc_8 dX2_init_8 w_aint nv_int_256 ⟨(Nat.le_of_ble_eq_true rfl), (Nat.le_of_ble_eq_true rfl)⟩ ⟨rfl, rfl⟩ ?_
  refine y_putF ffX2_11 kc_7 (Nat.le_of_ble_eq_true rfl) ⟨by decide, (Nat.le_of_ble_eq_true rfl)⟩ rfl rfl rfl ⟨rfl, fun _ => ⟨rfl, rfl⟩⟩ dX2_init_10 ?_
  refine y_aload_n dX2_init_13 0 rfl ?_
  refine y_sipush (v := 256) dX2_init_14 (by decide) ?_
  refine y_newa_int kc_9 dX2_init_17 w_aint nv_int_256 ⟨(Nat.le_of_ble_eq_true rfl), (Nat.le_of_ble_eq_true rfl)⟩ ⟨rfl, rfl⟩ ?_
  refine y_putF ffX2_15 kc_7 (Nat.le_of_ble_eq_true rfl) ⟨by decide, (Nat.le_of_ble_eq_true rfl)⟩ rfl rfl rfl ⟨rfl, fun _ => ⟨rfl, rfl⟩⟩ dX2_init_19 ?_
  refine y_aload_n dX2_init_22 0 rfl ?_
  refine y_bipush (v := 14) dX2_init_23 (by decide) ?_
  refine y_newa_int kc_10 dX2_init_25 w_aint nv_int_14 ⟨(Nat.le_of_ble_eq_true rfl), (Nat.le_of_ble_eq_true rfl)⟩ ⟨rfl, rfl⟩ ?_
  refine y_putF ffX2_18 kc_7 (Nat.le_of_ble_eq_true rfl) ⟨by decide, (Nat.le_of_ble_eq_true rfl)⟩ rfl rfl rfl ⟨rfl, fun _ => ⟨rfl, rfl⟩⟩ dX2_init_27 ?_
  refine y_aload_n dX2_init_30 0 rfl ?_
  refine y_bipush (v := 14) dX2_init_31 (by decide) ?_
  refine y_newa_int kc_11 dX2_init_33 w_aint nv_int_14 ⟨(Nat.le_of_ble_eq_true rfl), (Nat.le_of_ble_eq_true rfl)⟩ ⟨rfl, rfl⟩ ?_
  refine y_putF ffX2_21 kc_7 (Nat.le_of_ble_eq_true rfl) ⟨by decide, (Nat.le_of_ble_eq_true rfl)⟩ rfl rfl rfl ⟨rfl, fun _ => ⟨rfl, rfl⟩⟩ dX2_init_35 ?_
  refine y_aload_n dX2_init_38 0 rfl ?_
  refine y_bipush (v := 14) dX2_init_39 (by decide) ?_
  refine y_newa_int kc_12 dX2_init_41 w_aint nv_int_14 ⟨(Nat.le_of_ble_eq_true rfl), (Nat.le_of_ble_eq_true rfl)⟩ ⟨rfl, rfl⟩ ?_
  refine y_putF ffX2_24 kc_7 (Nat.le_of_ble_eq_true rfl) ⟨by decide, (Nat.le_of_ble_eq_true rfl)⟩ rfl rfl rfl ⟨rfl, fun _ => ⟨rfl, rfl⟩⟩ dX2_init_43 ?_
  refine y_aload_n dX2_init_46 0 rfl ?_
  refine y_bipush (v := 14) dX2_init_47 (by decide) ?_
  refine y_newa_int kc_13 dX2_init_49 w_aint nv_int_14 ⟨(Nat.le_of_ble_eq_true rfl), (Nat.le_of_ble_eq_true rfl)⟩ ⟨rfl, rfl⟩ ?_
  refine y_putF ffX2_27 kc_7 (Nat.le_of_ble_eq_true rfl) ⟨by decide, (Nat.le_of_ble_eq_true rfl)⟩ rfl rfl rfl ⟨rfl, fun _ => ⟨rfl, rfl⟩⟩ dX2_init_51 ?_
  refine y_aload_n dX2_init_54 0 rfl ?_
  refine y_bipush (v := 14) dX2_init_55 (by decide) ?_
  refine y_newa_int kc_14 dX2_init_57 w_aint nv_int_14 ⟨(Nat.le_of_ble_eq_true rfl), (Nat.le_of_ble_eq_true rfl)⟩ ⟨rfl, rfl⟩ ?_
  refine y_putF ffX2_30 kc_7 (Nat.le_of_ble_eq_true rfl) ⟨by decide, (Nat.le_of_ble_eq_true rfl)⟩ rfl rfl rfl ⟨rfl, fun _ => ⟨rfl, rfl⟩⟩ dX2_init_59 ?_
  exact y_end
def rK15 (rho : Nat → Nat → Nat) : Nat → Nat → Nat := (uR (uR (uR (uR (uR (uR (uR rho 15 0 16) 15 1 17) 15 2 18) 15 3 19) 15 4 20) 15 5 21) 15 6 22)
def hK15 (h : AHp) : AHp := h
set_option maxHeartbeats 4000000 in
set_option maxRecDepth 100000 in
theorem mk_15 (rho : Nat → Nat → Nat) (h : AHp) : MB QX2_init 1 [.ref 15] 16 rho h 23 (rK15 rho) (hK15 h) 7 582 := by
  refine MB.of (pcE := 62) (by decide) rfl rfl (Nat.le_of_ble_eq_true rfl) dX2_init_62 ?_
  unfold rK15 hK15
  show WB QX2_init 1 0 [(0, .ref 15)] [] 16 rho h 0 0 62 [] 23 _ _ 7 582
  refine y_aload_n dX2_init_0 0 rfl ?_
  refine y_objInit dX2_init_1 iX2_3 w_obj (Nat.le_of_ble_eq_true rfl) (Nat.le_of_ble_eq_true rfl) ?_
  refine y_aload_n dX2_init_4 0 rfl ?_
  refine y_sipush (v := 256) dX2_init_5 (by decide) ?_
  refine y_newa_int kc_16 dX2_init_8 w_aint nv_int_256 ⟨(Nat.le_of_ble_eq_true rfl), (Nat.le_of_ble_eq_true rfl)⟩ ⟨rfl, rfl⟩ ?_
  refine y_putF ffX2_11 kc_15 (Nat.le_of_ble_eq_true rfl) ⟨by decide, (Nat.le_of_ble_eq_true rfl)⟩ rfl rfl rfl ⟨rfl, fun _ => ⟨rfl, rfl⟩⟩ dX2_init_10 ?_
  refine y_aload_n dX2_init_13 0 rfl ?_
  refine y_sipush (v := 256) dX2_init_14 (by decide) ?_
  refine y_newa_int kc_17 dX2_init_17 w_aint nv_int_256 ⟨(Nat.le_of_ble_eq_true rfl), (Nat.le_of_ble_eq_true rfl)⟩ ⟨rfl, rfl⟩ ?_
  refine y_putF ffX2_15 kc_15 (Nat.le_of_ble_eq_true rfl) ⟨by decide, (Nat.le_of_ble_eq_true rfl)⟩ rfl rfl rfl ⟨rfl, fun _ => ⟨rfl, rfl⟩⟩ dX2_init_19 ?_
  refine y_aload_n dX2_init_22 0 rfl ?_
  refine y_bipush (v := 14) dX2_init_23 (by decide) ?_
  refine y_newa_int kc_18 dX2_init_25 w_aint nv_int_14 ⟨(Nat.le_of_ble_eq_true rfl), (Nat.le_of_ble_eq_true rfl)⟩ ⟨rfl, rfl⟩ ?_
  refine y_putF ffX2_18 kc_15 (Nat.le_of_ble_eq_true rfl) ⟨by decide, (Nat.le_of_ble_eq_true rfl)⟩ rfl rfl rfl ⟨rfl, fun _ => ⟨rfl, rfl⟩⟩ dX2_init_27 ?_
  refine y_aload_n dX2_init_30 0 rfl ?_
  refine y_bipush (v := 14) dX2_init_31 (by decide) ?_
  refine y_newa_int kc_19 dX2_init_33 w_aint nv_int_14 ⟨(Nat.le_of_ble_eq_true rfl), (Nat.le_of_ble_eq_true rfl)⟩ ⟨rfl, rfl⟩ ?_
  refine y_putF ffX2_21 kc_15 (Nat.le_of_ble_eq_true rfl) ⟨by decide, (Nat.le_of_ble_eq_true rfl)⟩ rfl rfl rfl ⟨rfl, fun _ => ⟨rfl, rfl⟩⟩ dX2_init_35 ?_
  refine y_aload_n dX2_init_38 0 rfl ?_
  refine y_bipush (v := 14) dX2_init_39 (by decide) ?_
  refine y_newa_int kc_20 dX2_init_41 w_aint nv_int_14 ⟨(Nat.le_of_ble_eq_true rfl), (Nat.le_of_ble_eq_true rfl)⟩ ⟨rfl, rfl⟩ ?_
  refine y_putF ffX2_24 kc_15 (Nat.le_of_ble_eq_true rfl) ⟨by decide, (Nat.le_of_ble_eq_true rfl)⟩ rfl rfl rfl ⟨rfl, fun _ => ⟨rfl, rfl⟩⟩ dX2_init_43 ?_
  refine y_aload_n dX2_init_46 0 rfl ?_
  refine y_bipush (v := 14) dX2_init_47 (by decide) ?_
  refine y_newa_int kc_21 dX2_init_49 w_aint nv_int_14 ⟨(Nat.le_of_ble_eq_true rfl), (Nat.le_of_ble_eq_true rfl)⟩ ⟨rfl, rfl⟩ ?_
  refine y_putF ffX2_27 kc_15 (Nat.le_of_ble_eq_true rfl) ⟨by decide, (Nat.le_of_ble_eq_true rfl)⟩ rfl rfl rfl ⟨rfl, fun _ => ⟨rfl, rfl⟩⟩ dX2_init_51 ?_
  refine y_aload_n dX2_init_54 0 rfl ?_
  refine y_bipush (v := 14) dX2_init_55 (by decide) ?_
  refine y_newa_int kc_22 dX2_init_57 w_aint nv_int_14 ⟨(Nat.le_of_ble_eq_true rfl), (Nat.le_of_ble_eq_true rfl)⟩ ⟨rfl, rfl⟩ ?_
  refine y_putF ffX2_30 kc_15 (Nat.le_of_ble_eq_true rfl) ⟨by decide, (Nat.le_of_ble_eq_true rfl)⟩ rfl rfl rfl ⟨rfl, fun _ => ⟨rfl, rfl⟩⟩ dX2_init_59 ?_
  exact y_end
def rK23 (rho : Nat → Nat → Nat) : Nat → Nat → Nat := (uR (uR (uR (uR (uR (uR (uR rho 23 0 24) 23 1 25) 23 2 26) 23 3 27) 23 4 28) 23 5 29) 23 6 30)
def hK23 (h : AHp) : AHp := h
set_option maxHeartbeats 4000000 in
set_option maxRecDepth 100000 in
theorem mk_23 (rho : Nat → Nat → Nat) (h : AHp) : MB QX2_init 1 [.ref 23] 24 rho h 31 (rK23 rho) (hK23 h) 7 582 := by
  refine MB.of (pcE := 62) (by decide) rfl rfl (Nat.le_of_ble_eq_true rfl) dX2_init_62 ?_
  unfold rK23 hK23
  show WB QX2_init 1 0 [(0, .ref 23)] [] 24 rho h 0 0 62 [] 31 _ _ 7 582
  refine y_aload_n dX2_init_0 0 rfl ?_
  refine y_objInit dX2_init_1 iX2_3 w_obj (Nat.le_of_ble_eq_true rfl) (Nat.le_of_ble_eq_true rfl) ?_
  refine y_aload_n dX2_init_4 0 rfl ?_
  refine y_sipush (v := 256) dX2_init_5 (by decide) ?_
  refine y_newa_int kc_24 dX2_init_8 w_aint nv_int_256 ⟨(Nat.le_of_ble_eq_true rfl), (Nat.le_of_ble_eq_true rfl)⟩ ⟨rfl, rfl⟩ ?_
  refine y_putF ffX2_11 kc_23 (Nat.le_of_ble_eq_true rfl) ⟨by decide, (Nat.le_of_ble_eq_true rfl)⟩ rfl rfl rfl ⟨rfl, fun _ => ⟨rfl, rfl⟩⟩ dX2_init_10 ?_
  refine y_aload_n dX2_init_13 0 rfl ?_
  refine y_sipush (v := 256) dX2_init_14 (by decide) ?_
  refine y_newa_int kc_25 dX2_init_17 w_aint nv_int_256 ⟨(Nat.le_of_ble_eq_true rfl), (Nat.le_of_ble_eq_true rfl)⟩ ⟨rfl, rfl⟩ ?_
  refine y_putF ffX2_15 kc_23 (Nat.le_of_ble_eq_true rfl) ⟨by decide, (Nat.le_of_ble_eq_true rfl)⟩ rfl rfl rfl ⟨rfl, fun _ => ⟨rfl, rfl⟩⟩ dX2_init_19 ?_
  refine y_aload_n dX2_init_22 0 rfl ?_
  refine y_bipush (v := 14) dX2_init_23 (by decide) ?_
  refine y_newa_int kc_26 dX2_init_25 w_aint nv_int_14 ⟨(Nat.le_of_ble_eq_true rfl), (Nat.le_of_ble_eq_true rfl)⟩ ⟨rfl, rfl⟩ ?_
  refine y_putF ffX2_18 kc_23 (Nat.le_of_ble_eq_true rfl) ⟨by decide, (Nat.le_of_ble_eq_true rfl)⟩ rfl rfl rfl ⟨rfl, fun _ => ⟨rfl, rfl⟩⟩ dX2_init_27 ?_
  refine y_aload_n dX2_init_30 0 rfl ?_
  refine y_bipush (v := 14) dX2_init_31 (by decide) ?_
  refine y_newa_int kc_27 dX2_init_33 w_aint nv_int_14 ⟨(Nat.le_of_ble_eq_true rfl), (Nat.le_of_ble_eq_true rfl)⟩ ⟨rfl, rfl⟩ ?_
  refine y_putF ffX2_21 kc_23 (Nat.le_of_ble_eq_true rfl) ⟨by decide, (Nat.le_of_ble_eq_true rfl)⟩ rfl rfl rfl ⟨rfl, fun _ => ⟨rfl, rfl⟩⟩ dX2_init_35 ?_
  refine y_aload_n dX2_init_38 0 rfl ?_
  refine y_bipush (v := 14) dX2_init_39 (by decide) ?_
  refine y_newa_int kc_28 dX2_init_41 w_aint nv_int_14 ⟨(Nat.le_of_ble_eq_true rfl), (Nat.le_of_ble_eq_true rfl)⟩ ⟨rfl, rfl⟩ ?_
  refine y_putF ffX2_24 kc_23 (Nat.le_of_ble_eq_true rfl) ⟨by decide, (Nat.le_of_ble_eq_true rfl)⟩ rfl rfl rfl ⟨rfl, fun _ => ⟨rfl, rfl⟩⟩ dX2_init_43 ?_
  refine y_aload_n dX2_init_46 0 rfl ?_
  refine y_bipush (v := 14) dX2_init_47 (by decide) ?_
  refine y_newa_int kc_29 dX2_init_49 w_aint nv_int_14 ⟨(Nat.le_of_ble_eq_true rfl), (Nat.le_of_ble_eq_true rfl)⟩ ⟨rfl, rfl⟩ ?_
  refine y_putF ffX2_27 kc_23 (Nat.le_of_ble_eq_true rfl) ⟨by decide, (Nat.le_of_ble_eq_true rfl)⟩ rfl rfl rfl ⟨rfl, fun _ => ⟨rfl, rfl⟩⟩ dX2_init_51 ?_
  refine y_aload_n dX2_init_54 0 rfl ?_
  refine y_bipush (v := 14) dX2_init_55 (by decide) ?_
  refine y_newa_int kc_30 dX2_init_57 w_aint nv_int_14 ⟨(Nat.le_of_ble_eq_true rfl), (Nat.le_of_ble_eq_true rfl)⟩ ⟨rfl, rfl⟩ ?_
  refine y_putF ffX2_30 kc_23 (Nat.le_of_ble_eq_true rfl) ⟨by decide, (Nat.le_of_ble_eq_true rfl)⟩ rfl rfl rfl ⟨rfl, fun _ => ⟨rfl, rfl⟩⟩ dX2_init_59 ?_
  exact y_end
def rK3 (rho : Nat → Nat → Nat) : Nat → Nat → Nat := (rK23 (rK15 (rK7 (uR (uR (uR rho 3 0 4) 3 1 5) 3 2 6))))
def hK3 (h : AHp) : AHp := (sM (hK23 (sM (hK15 (sM (hK7 h) 3 3 7)) 3 4 15)) 3 5 23)
set_option maxHeartbeats 4000000 in
set_option maxRecDepth 100000 in
theorem mk_3 (rho : Nat → Nat → Nat) (h : AHp) : MB QX9_init 2 [.ref 3] 4 rho h 31 (rK3 rho) (hK3 h) 27 1809 := by
  refine MB.of (pcE := 61) (by decide) rfl rfl (Nat.le_of_ble_eq_true rfl) dX9_init_61 ?_
  unfold rK3 hK3
  show WB QX9_init 2 0 [(0, .ref 3)] [] 4 rho h 0 0 61 [] 31 _ _ 27 1809
  refine y_aload_n dX9_init_0 0 rfl ?_
  refine y_objInit dX9_init_1 iX9_3 w_obj (Nat.le_of_ble_eq_true rfl) (Nat.le_of_ble_eq_true rfl) ?_
  refine y_aload_n dX9_init_4 0 rfl ?_
  refine y_bipush (v := 12) dX9_init_5 (by decide) ?_
  refine y_newa_int kc_4 dX9_init_7 w_aint nv_int_12 ⟨(Nat.le_of_ble_eq_true rfl), (Nat.le_of_ble_eq_true rfl)⟩ ⟨rfl, rfl⟩ ?_
  refine y_putF ffX9_9 kc_3 (Nat.le_of_ble_eq_true rfl) ⟨by decide, (Nat.le_of_ble_eq_true rfl)⟩ rfl rfl rfl ⟨rfl, fun _ => ⟨rfl, rfl⟩⟩ dX9_init_9 ?_
  refine y_aload_n dX9_init_12 0 rfl ?_
  refine y_bipush (v := 6) dX9_init_13 (by decide) ?_
  refine y_newa_int kc_5 dX9_init_15 w_aint nv_int_6 ⟨(Nat.le_of_ble_eq_true rfl), (Nat.le_of_ble_eq_true rfl)⟩ ⟨rfl, rfl⟩ ?_
  refine y_putF ffX9_15 kc_3 (Nat.le_of_ble_eq_true rfl) ⟨by decide, (Nat.le_of_ble_eq_true rfl)⟩ rfl rfl rfl ⟨rfl, fun _ => ⟨rfl, rfl⟩⟩ dX9_init_17 ?_
  refine y_aload_n dX9_init_20 0 rfl ?_
  refine y_bipush (v := 9) dX9_init_21 (by decide) ?_
  refine y_newa_int kc_6 dX9_init_23 w_aint nv_int_9 ⟨(Nat.le_of_ble_eq_true rfl), (Nat.le_of_ble_eq_true rfl)⟩ ⟨rfl, rfl⟩ ?_
  refine y_putF ffX9_18 kc_3 (Nat.le_of_ble_eq_true rfl) ⟨by decide, (Nat.le_of_ble_eq_true rfl)⟩ rfl rfl rfl ⟨rfl, fun _ => ⟨rfl, rfl⟩⟩ dX9_init_25 ?_
  refine y_aload_n dX9_init_28 0 rfl ?_
  refine y_new cbX2 (by decide) kc_7 dX9_init_29 nX9_21 ⟨(Nat.le_of_ble_eq_true rfl), (Nat.le_of_ble_eq_true rfl)⟩ ⟨rfl, rfl⟩ ?_
  refine y_dup dX9_init_32 rfl ?_
  refine y_callN dX9_init_33 (mk_7 _ _) bX2_init iX9_23 rfl rfl (Nat.le_of_ble_eq_true rfl) (Nat.le_of_ble_eq_true rfl) ⟨(Nat.le_of_ble_eq_true rfl), (Nat.le_of_ble_eq_true rfl)⟩ (Nat.le_of_ble_eq_true rfl) ⟨rfl, rfl⟩ ?_
  refine y_putM fX9_24 kc_3 (Nat.le_of_ble_eq_true rfl) ⟨by decide, (Nat.le_of_ble_eq_true rfl)⟩ rfl rfl (fun _ => ⟨rfl, rfl⟩) dX9_init_36 ?_
  refine y_aload_n dX9_init_39 0 rfl ?_
  refine y_new cbX2 (by decide) kc_15 dX9_init_40 nX9_21 ⟨(Nat.le_of_ble_eq_true rfl), (Nat.le_of_ble_eq_true rfl)⟩ ⟨rfl, rfl⟩ ?_
  refine y_dup dX9_init_43 rfl ?_
  refine y_callN dX9_init_44 (mk_15 _ _) bX2_init iX9_23 rfl rfl (Nat.le_of_ble_eq_true rfl) (Nat.le_of_ble_eq_true rfl) ⟨(Nat.le_of_ble_eq_true rfl), (Nat.le_of_ble_eq_true rfl)⟩ (Nat.le_of_ble_eq_true rfl) ⟨rfl, rfl⟩ ?_
  refine y_putM fX9_28 kc_3 (Nat.le_of_ble_eq_true rfl) ⟨by decide, (Nat.le_of_ble_eq_true rfl)⟩ rfl rfl (fun _ => ⟨rfl, rfl⟩) dX9_init_47 ?_
  refine y_aload_n dX9_init_50 0 rfl ?_
  refine y_new cbX2 (by decide) kc_23 dX9_init_51 nX9_21 ⟨(Nat.le_of_ble_eq_true rfl), (Nat.le_of_ble_eq_true rfl)⟩ ⟨rfl, rfl⟩ ?_
  refine y_dup dX9_init_54 rfl ?_
  refine y_callN dX9_init_55 (mk_23 _ _) bX2_init iX9_23 rfl rfl (Nat.le_of_ble_eq_true rfl) (Nat.le_of_ble_eq_true rfl) ⟨(Nat.le_of_ble_eq_true rfl), (Nat.le_of_ble_eq_true rfl)⟩ (Nat.le_of_ble_eq_true rfl) ⟨rfl, rfl⟩ ?_
  refine y_putM fX9_31 kc_3 (Nat.le_of_ble_eq_true rfl) ⟨by decide, (Nat.le_of_ble_eq_true rfl)⟩ rfl rfl (fun _ => ⟨rfl, rfl⟩) dX9_init_58 ?_
  exact y_end
def rK31 (rho : Nat → Nat → Nat) : Nat → Nat → Nat := (uR rho 31 0 32)
def hK31 (h : AHp) : AHp := h
set_option maxHeartbeats 4000000 in
set_option maxRecDepth 100000 in
theorem mk_31 (rho : Nat → Nat → Nat) (h : AHp) : MB QX3_init 1 [.ref 31] 32 rho h 33 (rK31 rho) (hK31 h) 1 12500 := by
  refine MB.of (pcE := 13) (by decide) rfl rfl (Nat.le_of_ble_eq_true rfl) dX3_init_13 ?_
  unfold rK31 hK31
  show WB QX3_init 1 0 [(0, .ref 31)] [] 32 rho h 0 0 13 [] 33 _ _ 1 12500
  refine y_aload_n dX3_init_0 0 rfl ?_
  refine y_objInit dX3_init_1 iX3_3 w_obj (Nat.le_of_ble_eq_true rfl) (Nat.le_of_ble_eq_true rfl) ?_
  refine y_aload_n dX3_init_4 0 rfl ?_
  refine y_sipush (v := 12500) dX3_init_5 (by decide) ?_
  refine y_newa_long kc_32 dX3_init_8 w_along nv_long_12500 ⟨(Nat.le_of_ble_eq_true rfl), (Nat.le_of_ble_eq_true rfl)⟩ ⟨rfl, rfl⟩ ?_
  refine y_putF ffX3_11 kc_31 (Nat.le_of_ble_eq_true rfl) ⟨by decide, (Nat.le_of_ble_eq_true rfl)⟩ rfl rfl rfl ⟨rfl, fun _ => ⟨rfl, rfl⟩⟩ dX3_init_10 ?_
  exact y_end
def rK34 (rho : Nat → Nat → Nat) : Nat → Nat → Nat := (uR (uR (uR (uR (uR (uR (uR rho 34 0 35) 34 1 36) 34 2 37) 34 3 38) 34 4 39) 34 5 40) 34 6 41)
def hK34 (h : AHp) : AHp := h
set_option maxHeartbeats 4000000 in
set_option maxRecDepth 100000 in
theorem mk_34 (rho : Nat → Nat → Nat) (h : AHp) : MB QX2_init 1 [.ref 34] 35 rho h 42 (rK34 rho) (hK34 h) 7 582 := by
  refine MB.of (pcE := 62) (by decide) rfl rfl (Nat.le_of_ble_eq_true rfl) dX2_init_62 ?_
  unfold rK34 hK34
  show WB QX2_init 1 0 [(0, .ref 34)] [] 35 rho h 0 0 62 [] 42 _ _ 7 582
  refine y_aload_n dX2_init_0 0 rfl ?_
  refine y_objInit dX2_init_1 iX2_3 w_obj (Nat.le_of_ble_eq_true rfl) (Nat.le_of_ble_eq_true rfl) ?_
  refine y_aload_n dX2_init_4 0 rfl ?_
  refine y_sipush (v := 256) dX2_init_5 (by decide) ?_
  refine y_newa_int kc_35 dX2_init_8 w_aint nv_int_256 ⟨(Nat.le_of_ble_eq_true rfl), (Nat.le_of_ble_eq_true rfl)⟩ ⟨rfl, rfl⟩ ?_
  refine y_putF ffX2_11 kc_34 (Nat.le_of_ble_eq_true rfl) ⟨by decide, (Nat.le_of_ble_eq_true rfl)⟩ rfl rfl rfl ⟨rfl, fun _ => ⟨rfl, rfl⟩⟩ dX2_init_10 ?_
  refine y_aload_n dX2_init_13 0 rfl ?_
  refine y_sipush (v := 256) dX2_init_14 (by decide) ?_
  refine y_newa_int kc_36 dX2_init_17 w_aint nv_int_256 ⟨(Nat.le_of_ble_eq_true rfl), (Nat.le_of_ble_eq_true rfl)⟩ ⟨rfl, rfl⟩ ?_
  refine y_putF ffX2_15 kc_34 (Nat.le_of_ble_eq_true rfl) ⟨by decide, (Nat.le_of_ble_eq_true rfl)⟩ rfl rfl rfl ⟨rfl, fun _ => ⟨rfl, rfl⟩⟩ dX2_init_19 ?_
  refine y_aload_n dX2_init_22 0 rfl ?_
  refine y_bipush (v := 14) dX2_init_23 (by decide) ?_
  refine y_newa_int kc_37 dX2_init_25 w_aint nv_int_14 ⟨(Nat.le_of_ble_eq_true rfl), (Nat.le_of_ble_eq_true rfl)⟩ ⟨rfl, rfl⟩ ?_
  refine y_putF ffX2_18 kc_34 (Nat.le_of_ble_eq_true rfl) ⟨by decide, (Nat.le_of_ble_eq_true rfl)⟩ rfl rfl rfl ⟨rfl, fun _ => ⟨rfl, rfl⟩⟩ dX2_init_27 ?_
  refine y_aload_n dX2_init_30 0 rfl ?_
  refine y_bipush (v := 14) dX2_init_31 (by decide) ?_
  refine y_newa_int kc_38 dX2_init_33 w_aint nv_int_14 ⟨(Nat.le_of_ble_eq_true rfl), (Nat.le_of_ble_eq_true rfl)⟩ ⟨rfl, rfl⟩ ?_
  refine y_putF ffX2_21 kc_34 (Nat.le_of_ble_eq_true rfl) ⟨by decide, (Nat.le_of_ble_eq_true rfl)⟩ rfl rfl rfl ⟨rfl, fun _ => ⟨rfl, rfl⟩⟩ dX2_init_35 ?_
  refine y_aload_n dX2_init_38 0 rfl ?_
  refine y_bipush (v := 14) dX2_init_39 (by decide) ?_
  refine y_newa_int kc_39 dX2_init_41 w_aint nv_int_14 ⟨(Nat.le_of_ble_eq_true rfl), (Nat.le_of_ble_eq_true rfl)⟩ ⟨rfl, rfl⟩ ?_
  refine y_putF ffX2_24 kc_34 (Nat.le_of_ble_eq_true rfl) ⟨by decide, (Nat.le_of_ble_eq_true rfl)⟩ rfl rfl rfl ⟨rfl, fun _ => ⟨rfl, rfl⟩⟩ dX2_init_43 ?_
  refine y_aload_n dX2_init_46 0 rfl ?_
  refine y_bipush (v := 14) dX2_init_47 (by decide) ?_
  refine y_newa_int kc_40 dX2_init_49 w_aint nv_int_14 ⟨(Nat.le_of_ble_eq_true rfl), (Nat.le_of_ble_eq_true rfl)⟩ ⟨rfl, rfl⟩ ?_
  refine y_putF ffX2_27 kc_34 (Nat.le_of_ble_eq_true rfl) ⟨by decide, (Nat.le_of_ble_eq_true rfl)⟩ rfl rfl rfl ⟨rfl, fun _ => ⟨rfl, rfl⟩⟩ dX2_init_51 ?_
  refine y_aload_n dX2_init_54 0 rfl ?_
  refine y_bipush (v := 14) dX2_init_55 (by decide) ?_
  refine y_newa_int kc_41 dX2_init_57 w_aint nv_int_14 ⟨(Nat.le_of_ble_eq_true rfl), (Nat.le_of_ble_eq_true rfl)⟩ ⟨rfl, rfl⟩ ?_
  refine y_putF ffX2_30 kc_34 (Nat.le_of_ble_eq_true rfl) ⟨by decide, (Nat.le_of_ble_eq_true rfl)⟩ rfl rfl rfl ⟨rfl, fun _ => ⟨rfl, rfl⟩⟩ dX2_init_59 ?_
  exact y_end
def rK33 (rho : Nat → Nat → Nat) : Nat → Nat → Nat := (rK34 (uR rho 33 0 1))
def hK33 (h : AHp) : AHp := (sM (hK34 h) 33 1 34)
set_option maxHeartbeats 4000000 in
set_option maxRecDepth 100000 in
theorem mk_33 (rho : Nat → Nat → Nat) (h : AHp) : MB QX4_init 2 [.ref 33, .ref 1] 34 rho h 42 (rK33 rho) (hK33 h) 8 594 := by
  refine MB.of (pcE := 20) (by decide) rfl rfl (Nat.le_of_ble_eq_true rfl) dX4_init_20 ?_
  unfold rK33 hK33
  show WB QX4_init 2 0 [(0, .ref 33), (1, .ref 1)] [] 34 rho h 0 0 20 [] 42 _ _ 8 594
  refine y_aload_n dX4_init_0 0 rfl ?_
  refine y_objInit dX4_init_1 iX4_3 w_obj (Nat.le_of_ble_eq_true rfl) (Nat.le_of_ble_eq_true rfl) ?_
  refine y_aload_n dX4_init_4 0 rfl ?_
  refine y_aload_n dX4_init_5 1 rfl ?_
  refine y_putF ffX4_9 kc_33 (Nat.le_of_ble_eq_true rfl) ⟨by decide, (Nat.le_of_ble_eq_true rfl)⟩ rfl rfl rfl ⟨rfl, fun _ => ⟨rfl, rfl⟩⟩ dX4_init_6 ?_
  refine y_aload_n dX4_init_9 0 rfl ?_
  refine y_new cbX2 (by decide) kc_34 dX4_init_10 nX4_15 ⟨(Nat.le_of_ble_eq_true rfl), (Nat.le_of_ble_eq_true rfl)⟩ ⟨rfl, rfl⟩ ?_
  refine y_dup dX4_init_13 rfl ?_
  refine y_callN dX4_init_14 (mk_34 _ _) bX2_init iX4_17 rfl rfl (Nat.le_of_ble_eq_true rfl) (Nat.le_of_ble_eq_true rfl) ⟨(Nat.le_of_ble_eq_true rfl), (Nat.le_of_ble_eq_true rfl)⟩ (Nat.le_of_ble_eq_true rfl) ⟨rfl, rfl⟩ ?_
  refine y_putM fX4_18 kc_33 (Nat.le_of_ble_eq_true rfl) ⟨by decide, (Nat.le_of_ble_eq_true rfl)⟩ rfl rfl (fun _ => ⟨rfl, rfl⟩) dX4_init_17 ?_
  exact y_end
def rK42 (rho : Nat → Nat → Nat) : Nat → Nat → Nat := (uR (uR (uR rho 42 0 43) 42 1 44) 42 2 45)
def hK42 (h : AHp) : AHp := h
set_option maxHeartbeats 4000000 in
set_option maxRecDepth 100000 in
theorem mk_42 (rho : Nat → Nat → Nat) (h : AHp) : MB QX7_init 1 [.ref 42] 43 rho h 46 (rK42 rho) (hK42 h) 3 600 := by
  refine MB.of (pcE := 31) (by decide) rfl rfl (Nat.le_of_ble_eq_true rfl) dX7_init_31 ?_
  unfold rK42 hK42
  show WB QX7_init 1 0 [(0, .ref 42)] [] 43 rho h 0 0 31 [] 46 _ _ 3 600
  refine y_aload_n dX7_init_0 0 rfl ?_
  refine y_objInit dX7_init_1 iX7_3 w_obj (Nat.le_of_ble_eq_true rfl) (Nat.le_of_ble_eq_true rfl) ?_
  refine y_aload_n dX7_init_4 0 rfl ?_
  refine y_sipush (v := 200) dX7_init_5 (by decide) ?_
  refine y_newa_int kc_43 dX7_init_8 w_aint nv_int_200 ⟨(Nat.le_of_ble_eq_true rfl), (Nat.le_of_ble_eq_true rfl)⟩ ⟨rfl, rfl⟩ ?_
  refine y_putF ffX7_9 kc_42 (Nat.le_of_ble_eq_true rfl) ⟨by decide, (Nat.le_of_ble_eq_true rfl)⟩ rfl rfl rfl ⟨rfl, fun _ => ⟨rfl, rfl⟩⟩ dX7_init_10 ?_
  refine y_aload_n dX7_init_13 0 rfl ?_
  refine y_sipush (v := 200) dX7_init_14 (by decide) ?_
  refine y_newa_int kc_44 dX7_init_17 w_aint nv_int_200 ⟨(Nat.le_of_ble_eq_true rfl), (Nat.le_of_ble_eq_true rfl)⟩ ⟨rfl, rfl⟩ ?_
  refine y_putF ffX7_15 kc_42 (Nat.le_of_ble_eq_true rfl) ⟨by decide, (Nat.le_of_ble_eq_true rfl)⟩ rfl rfl rfl ⟨rfl, fun _ => ⟨rfl, rfl⟩⟩ dX7_init_19 ?_
  refine y_aload_n dX7_init_22 0 rfl ?_
  refine y_sipush (v := 200) dX7_init_23 (by decide) ?_
  refine y_newa_int kc_45 dX7_init_26 w_aint nv_int_200 ⟨(Nat.le_of_ble_eq_true rfl), (Nat.le_of_ble_eq_true rfl)⟩ ⟨rfl, rfl⟩ ?_
  refine y_putF ffX7_18 kc_42 (Nat.le_of_ble_eq_true rfl) ⟨by decide, (Nat.le_of_ble_eq_true rfl)⟩ rfl rfl rfl ⟨rfl, fun _ => ⟨rfl, rfl⟩⟩ dX7_init_28 ?_
  exact y_end
def rK46 (rho : Nat → Nat → Nat) : Nat → Nat → Nat := (uR (uR (uR rho 46 0 47) 46 1 48) 46 2 49)
def hK46 (h : AHp) : AHp := h
set_option maxHeartbeats 4000000 in
set_option maxRecDepth 100000 in
theorem mk_46 (rho : Nat → Nat → Nat) (h : AHp) : MB QX7_init 1 [.ref 46] 47 rho h 50 (rK46 rho) (hK46 h) 3 600 := by
  refine MB.of (pcE := 31) (by decide) rfl rfl (Nat.le_of_ble_eq_true rfl) dX7_init_31 ?_
  unfold rK46 hK46
  show WB QX7_init 1 0 [(0, .ref 46)] [] 47 rho h 0 0 31 [] 50 _ _ 3 600
  refine y_aload_n dX7_init_0 0 rfl ?_
  refine y_objInit dX7_init_1 iX7_3 w_obj (Nat.le_of_ble_eq_true rfl) (Nat.le_of_ble_eq_true rfl) ?_
  refine y_aload_n dX7_init_4 0 rfl ?_
  refine y_sipush (v := 200) dX7_init_5 (by decide) ?_
  refine y_newa_int kc_47 dX7_init_8 w_aint nv_int_200 ⟨(Nat.le_of_ble_eq_true rfl), (Nat.le_of_ble_eq_true rfl)⟩ ⟨rfl, rfl⟩ ?_
  refine y_putF ffX7_9 kc_46 (Nat.le_of_ble_eq_true rfl) ⟨by decide, (Nat.le_of_ble_eq_true rfl)⟩ rfl rfl rfl ⟨rfl, fun _ => ⟨rfl, rfl⟩⟩ dX7_init_10 ?_
  refine y_aload_n dX7_init_13 0 rfl ?_
  refine y_sipush (v := 200) dX7_init_14 (by decide) ?_
  refine y_newa_int kc_48 dX7_init_17 w_aint nv_int_200 ⟨(Nat.le_of_ble_eq_true rfl), (Nat.le_of_ble_eq_true rfl)⟩ ⟨rfl, rfl⟩ ?_
  refine y_putF ffX7_15 kc_46 (Nat.le_of_ble_eq_true rfl) ⟨by decide, (Nat.le_of_ble_eq_true rfl)⟩ rfl rfl rfl ⟨rfl, fun _ => ⟨rfl, rfl⟩⟩ dX7_init_19 ?_
  refine y_aload_n dX7_init_22 0 rfl ?_
  refine y_sipush (v := 200) dX7_init_23 (by decide) ?_
  refine y_newa_int kc_49 dX7_init_26 w_aint nv_int_200 ⟨(Nat.le_of_ble_eq_true rfl), (Nat.le_of_ble_eq_true rfl)⟩ ⟨rfl, rfl⟩ ?_
  refine y_putF ffX7_18 kc_46 (Nat.le_of_ble_eq_true rfl) ⟨by decide, (Nat.le_of_ble_eq_true rfl)⟩ rfl rfl rfl ⟨rfl, fun _ => ⟨rfl, rfl⟩⟩ dX7_init_28 ?_
  exact y_end
def rK51 (rho : Nat → Nat → Nat) : Nat → Nat → Nat := (uR (uR (uR (uR (uR (uR rho 51 2 52) 51 3 53) 51 4 54) 51 5 55) 51 0 3) 51 1 31)
def hK51 (h : AHp) : AHp := h
set_option maxHeartbeats 4000000 in
set_option maxRecDepth 100000 in
theorem mk_51 (rho : Nat → Nat → Nat) (h : AHp) : MB QX1_init 1 [.ref 51, .ref 3, .ref 31] 52 rho h 56 (rK51 rho) (hK51 h) 4 49 := by
  refine MB.of (pcE := 46) (by decide) rfl rfl (Nat.le_of_ble_eq_true rfl) dX1_init_46 ?_
  unfold rK51 hK51
  show WB QX1_init 1 0 [(0, .ref 51), (1, .ref 3), (2, .ref 31)] [] 52 rho h 0 0 46 [] 56 _ _ 4 49
  refine y_aload_n dX1_init_0 0 rfl ?_
  refine y_objInit dX1_init_1 iX1_3 w_obj (Nat.le_of_ble_eq_true rfl) (Nat.le_of_ble_eq_true rfl) ?_
  refine y_aload_n dX1_init_4 0 rfl ?_
  refine y_bipush (v := 12) dX1_init_5 (by decide) ?_
  refine y_newa_int kc_52 dX1_init_7 w_aint nv_int_12 ⟨(Nat.le_of_ble_eq_true rfl), (Nat.le_of_ble_eq_true rfl)⟩ ⟨rfl, rfl⟩ ?_
  refine y_putF ffX1_9 kc_51 (Nat.le_of_ble_eq_true rfl) ⟨by decide, (Nat.le_of_ble_eq_true rfl)⟩ rfl rfl rfl ⟨rfl, fun _ => ⟨rfl, rfl⟩⟩ dX1_init_9 ?_
  refine y_aload_n dX1_init_12 0 rfl ?_
  refine y_bipush (v := 12) dX1_init_13 (by decide) ?_
  refine y_newa_int kc_53 dX1_init_15 w_aint nv_int_12 ⟨(Nat.le_of_ble_eq_true rfl), (Nat.le_of_ble_eq_true rfl)⟩ ⟨rfl, rfl⟩ ?_
  refine y_putF ffX1_15 kc_51 (Nat.le_of_ble_eq_true rfl) ⟨by decide, (Nat.le_of_ble_eq_true rfl)⟩ rfl rfl rfl ⟨rfl, fun _ => ⟨rfl, rfl⟩⟩ dX1_init_17 ?_
  refine y_aload_n dX1_init_20 0 rfl ?_
  refine y_bipush (v := 12) dX1_init_21 (by decide) ?_
  refine y_newa_int kc_54 dX1_init_23 w_aint nv_int_12 ⟨(Nat.le_of_ble_eq_true rfl), (Nat.le_of_ble_eq_true rfl)⟩ ⟨rfl, rfl⟩ ?_
  refine y_putF ffX1_18 kc_51 (Nat.le_of_ble_eq_true rfl) ⟨by decide, (Nat.le_of_ble_eq_true rfl)⟩ rfl rfl rfl ⟨rfl, fun _ => ⟨rfl, rfl⟩⟩ dX1_init_25 ?_
  refine y_aload_n dX1_init_28 0 rfl ?_
  refine y_bipush (v := 13) dX1_init_29 (by decide) ?_
  refine y_newa_int kc_55 dX1_init_31 w_aint nv_int_13 ⟨(Nat.le_of_ble_eq_true rfl), (Nat.le_of_ble_eq_true rfl)⟩ ⟨rfl, rfl⟩ ?_
  refine y_putF ffX1_21 kc_51 (Nat.le_of_ble_eq_true rfl) ⟨by decide, (Nat.le_of_ble_eq_true rfl)⟩ rfl rfl rfl ⟨rfl, fun _ => ⟨rfl, rfl⟩⟩ dX1_init_33 ?_
  refine y_aload_n dX1_init_36 0 rfl ?_
  refine y_aload_n dX1_init_37 1 rfl ?_
  refine y_putF ffX1_24 kc_51 (Nat.le_of_ble_eq_true rfl) ⟨by decide, (Nat.le_of_ble_eq_true rfl)⟩ rfl rfl rfl ⟨rfl, fun _ => ⟨rfl, rfl⟩⟩ dX1_init_38 ?_
  refine y_aload_n dX1_init_41 0 rfl ?_
  refine y_aload_n dX1_init_42 2 rfl ?_
  refine y_putF ffX1_28 kc_51 (Nat.le_of_ble_eq_true rfl) ⟨by decide, (Nat.le_of_ble_eq_true rfl)⟩ rfl rfl rfl ⟨rfl, fun _ => ⟨rfl, rfl⟩⟩ dX1_init_43 ?_
  exact y_end
def rK56 (rho : Nat → Nat → Nat) : Nat → Nat → Nat := (uR (uR (uR (uR (uR (uR (uR rho 56 2 57) 56 3 58) 56 4 59) 56 5 60) 56 6 61) 56 0 3) 56 1 31)
def hK56 (h : AHp) : AHp := h
set_option maxHeartbeats 4000000 in
set_option maxRecDepth 100000 in
theorem mk_56 (rho : Nat → Nat → Nat) (h : AHp) : MB QX0_init 1 [.ref 56, .ref 3, .ref 31] 57 rho h 62 (rK56 rho) (hK56 h) 5 1164 := by
  refine MB.of (pcE := 53) (by decide) rfl rfl (Nat.le_of_ble_eq_true rfl) dX0_init_53 ?_
  unfold rK56 hK56
  show WB QX0_init 1 0 [(0, .ref 56), (1, .ref 3), (2, .ref 31)] [] 57 rho h 0 0 53 [] 62 _ _ 5 1164
  refine y_aload_n dX0_init_0 0 rfl ?_
  refine y_objInit dX0_init_1 iX0_3 w_obj (Nat.le_of_ble_eq_true rfl) (Nat.le_of_ble_eq_true rfl) ?_
  refine y_aload_n dX0_init_4 0 rfl ?_
  refine y_sipush (v := 150) dX0_init_5 (by decide) ?_
  refine y_newa_int kc_57 dX0_init_8 w_aint nv_int_150 ⟨(Nat.le_of_ble_eq_true rfl), (Nat.le_of_ble_eq_true rfl)⟩ ⟨rfl, rfl⟩ ?_
  refine y_putF ffX0_9 kc_56 (Nat.le_of_ble_eq_true rfl) ⟨by decide, (Nat.le_of_ble_eq_true rfl)⟩ rfl rfl rfl ⟨rfl, fun _ => ⟨rfl, rfl⟩⟩ dX0_init_10 ?_
  refine y_aload_n dX0_init_13 0 rfl ?_
  refine y_sipush (v := 1000) dX0_init_14 (by decide) ?_
  refine y_newa_int kc_58 dX0_init_17 w_aint nv_int_1000 ⟨(Nat.le_of_ble_eq_true rfl), (Nat.le_of_ble_eq_true rfl)⟩ ⟨rfl, rfl⟩ ?_
  refine y_putF ffX0_15 kc_56 (Nat.le_of_ble_eq_true rfl) ⟨by decide, (Nat.le_of_ble_eq_true rfl)⟩ rfl rfl rfl ⟨rfl, fun _ => ⟨rfl, rfl⟩⟩ dX0_init_19 ?_
  refine y_aload_n dX0_init_22 0 rfl ?_
  refine y_iconst (v := 5) dX0_init_23 (by decide) ?_
  refine y_newa_int kc_59 dX0_init_24 w_aint nv_int_5 ⟨(Nat.le_of_ble_eq_true rfl), (Nat.le_of_ble_eq_true rfl)⟩ ⟨rfl, rfl⟩ ?_
  refine y_putF ffX0_18 kc_56 (Nat.le_of_ble_eq_true rfl) ⟨by decide, (Nat.le_of_ble_eq_true rfl)⟩ rfl rfl rfl ⟨rfl, fun _ => ⟨rfl, rfl⟩⟩ dX0_init_26 ?_
  refine y_aload_n dX0_init_29 0 rfl ?_
  refine y_iconst (v := 5) dX0_init_30 (by decide) ?_
  refine y_newa_int kc_60 dX0_init_31 w_aint nv_int_5 ⟨(Nat.le_of_ble_eq_true rfl), (Nat.le_of_ble_eq_true rfl)⟩ ⟨rfl, rfl⟩ ?_
  refine y_putF ffX0_21 kc_56 (Nat.le_of_ble_eq_true rfl) ⟨by decide, (Nat.le_of_ble_eq_true rfl)⟩ rfl rfl rfl ⟨rfl, fun _ => ⟨rfl, rfl⟩⟩ dX0_init_33 ?_
  refine y_aload_n dX0_init_36 0 rfl ?_
  refine y_iconst (v := 4) dX0_init_37 (by decide) ?_
  refine y_newa_int kc_61 dX0_init_38 w_aint nv_int_4 ⟨(Nat.le_of_ble_eq_true rfl), (Nat.le_of_ble_eq_true rfl)⟩ ⟨rfl, rfl⟩ ?_
  refine y_putF ffX0_24 kc_56 (Nat.le_of_ble_eq_true rfl) ⟨by decide, (Nat.le_of_ble_eq_true rfl)⟩ rfl rfl rfl ⟨rfl, fun _ => ⟨rfl, rfl⟩⟩ dX0_init_40 ?_
  refine y_aload_n dX0_init_43 0 rfl ?_
  refine y_aload_n dX0_init_44 1 rfl ?_
  refine y_putF ffX0_27 kc_56 (Nat.le_of_ble_eq_true rfl) ⟨by decide, (Nat.le_of_ble_eq_true rfl)⟩ rfl rfl rfl ⟨rfl, fun _ => ⟨rfl, rfl⟩⟩ dX0_init_45 ?_
  refine y_aload_n dX0_init_48 0 rfl ?_
  refine y_aload_n dX0_init_49 2 rfl ?_
  refine y_putF ffX0_31 kc_56 (Nat.le_of_ble_eq_true rfl) ⟨by decide, (Nat.le_of_ble_eq_true rfl)⟩ rfl rfl rfl ⟨rfl, fun _ => ⟨rfl, rfl⟩⟩ dX0_init_50 ?_
  exact y_end
def rK62 (rho : Nat → Nat → Nat) : Nat → Nat → Nat := (uR (uR rho 62 0 3) 62 1 31)
def hK62 (h : AHp) : AHp := h
set_option maxHeartbeats 4000000 in
set_option maxRecDepth 100000 in
theorem mk_62 (rho : Nat → Nat → Nat) (h : AHp) : MB QX6_init 1 [.ref 62, .ref 3, .ref 31] 63 rho h 63 (rK62 rho) (hK62 h) 0 0 := by
  refine MB.of (pcE := 14) (by decide) rfl rfl (Nat.le_of_ble_eq_true rfl) dX6_init_14 ?_
  unfold rK62 hK62
  show WB QX6_init 1 0 [(0, .ref 62), (1, .ref 3), (2, .ref 31)] [] 63 rho h 0 0 14 [] 63 _ _ 0 0
  refine y_aload_n dX6_init_0 0 rfl ?_
  refine y_objInit dX6_init_1 iX6_3 w_obj (Nat.le_of_ble_eq_true rfl) (Nat.le_of_ble_eq_true rfl) ?_
  refine y_aload_n dX6_init_4 0 rfl ?_
  refine y_aload_n dX6_init_5 1 rfl ?_
  refine y_putF ffX6_9 kc_62 (Nat.le_of_ble_eq_true rfl) ⟨by decide, (Nat.le_of_ble_eq_true rfl)⟩ rfl rfl rfl ⟨rfl, fun _ => ⟨rfl, rfl⟩⟩ dX6_init_6 ?_
  refine y_aload_n dX6_init_9 0 rfl ?_
  refine y_aload_n dX6_init_10 2 rfl ?_
  refine y_putF ffX6_15 kc_62 (Nat.le_of_ble_eq_true rfl) ⟨by decide, (Nat.le_of_ble_eq_true rfl)⟩ rfl rfl rfl ⟨rfl, fun _ => ⟨rfl, rfl⟩⟩ dX6_init_11 ?_
  exact y_end
def rK63 (rho : Nat → Nat → Nat) : Nat → Nat → Nat := (uR (uR (uR (uR rho 63 1 64) 63 2 65) 63 3 66) 63 0 3)
def hK63 (h : AHp) : AHp := h
set_option maxHeartbeats 4000000 in
set_option maxRecDepth 100000 in
theorem mk_63 (rho : Nat → Nat → Nat) (h : AHp) : MB QX10_init 1 [.ref 63, .ref 3] 64 rho h 67 (rK63 rho) (hK63 h) 3 525 := by
  refine MB.of (pcE := 36) (by decide) rfl rfl (Nat.le_of_ble_eq_true rfl) dX10_init_36 ?_
  unfold rK63 hK63
  show WB QX10_init 1 0 [(0, .ref 63), (1, .ref 3)] [] 64 rho h 0 0 36 [] 67 _ _ 3 525
  refine y_aload_n dX10_init_0 0 rfl ?_
  refine y_objInit dX10_init_1 iX10_3 w_obj (Nat.le_of_ble_eq_true rfl) (Nat.le_of_ble_eq_true rfl) ?_
  refine y_aload_n dX10_init_4 0 rfl ?_
  refine y_sipush (v := 175) dX10_init_5 (by decide) ?_
  refine y_newa_int kc_64 dX10_init_8 w_aint nv_int_175 ⟨(Nat.le_of_ble_eq_true rfl), (Nat.le_of_ble_eq_true rfl)⟩ ⟨rfl, rfl⟩ ?_
  refine y_putF ffX10_11 kc_63 (Nat.le_of_ble_eq_true rfl) ⟨by decide, (Nat.le_of_ble_eq_true rfl)⟩ rfl rfl rfl ⟨rfl, fun _ => ⟨rfl, rfl⟩⟩ dX10_init_10 ?_
  refine y_aload_n dX10_init_13 0 rfl ?_
  refine y_sipush (v := 175) dX10_init_14 (by decide) ?_
  refine y_newa_int kc_65 dX10_init_17 w_aint nv_int_175 ⟨(Nat.le_of_ble_eq_true rfl), (Nat.le_of_ble_eq_true rfl)⟩ ⟨rfl, rfl⟩ ?_
  refine y_putF ffX10_15 kc_63 (Nat.le_of_ble_eq_true rfl) ⟨by decide, (Nat.le_of_ble_eq_true rfl)⟩ rfl rfl rfl ⟨rfl, fun _ => ⟨rfl, rfl⟩⟩ dX10_init_19 ?_
  refine y_aload_n dX10_init_22 0 rfl ?_
  refine y_sipush (v := 175) dX10_init_23 (by decide) ?_
  refine y_newa_int kc_66 dX10_init_26 w_aint nv_int_175 ⟨(Nat.le_of_ble_eq_true rfl), (Nat.le_of_ble_eq_true rfl)⟩ ⟨rfl, rfl⟩ ?_
  refine y_putF ffX10_18 kc_63 (Nat.le_of_ble_eq_true rfl) ⟨by decide, (Nat.le_of_ble_eq_true rfl)⟩ rfl rfl rfl ⟨rfl, fun _ => ⟨rfl, rfl⟩⟩ dX10_init_28 ?_
  refine y_aload_n dX10_init_31 0 rfl ?_
  refine y_aload_n dX10_init_32 1 rfl ?_
  refine y_putF ffX10_21 kc_63 (Nat.le_of_ble_eq_true rfl) ⟨by decide, (Nat.le_of_ble_eq_true rfl)⟩ rfl rfl rfl ⟨rfl, fun _ => ⟨rfl, rfl⟩⟩ dX10_init_33 ?_
  exact y_end
def rK67 (rho : Nat → Nat → Nat) : Nat → Nat → Nat := (uR (uR (uR (uR rho 67 2 68) 67 3 69) 67 0 3) 67 1 31)
def hK67 (h : AHp) : AHp := h
set_option maxHeartbeats 4000000 in
set_option maxRecDepth 100000 in
theorem mk_67 (rho : Nat → Nat → Nat) (h : AHp) : MB QX5_init 1 [.ref 67, .ref 3, .ref 31] 68 rho h 70 (rK67 rho) (hK67 h) 2 56 := by
  refine MB.of (pcE := 30) (by decide) rfl rfl (Nat.le_of_ble_eq_true rfl) dX5_init_30 ?_
  unfold rK67 hK67
  show WB QX5_init 1 0 [(0, .ref 67), (1, .ref 3), (2, .ref 31)] [] 68 rho h 0 0 30 [] 70 _ _ 2 56
  refine y_aload_n dX5_init_0 0 rfl ?_
  refine y_objInit dX5_init_1 iX5_3 w_obj (Nat.le_of_ble_eq_true rfl) (Nat.le_of_ble_eq_true rfl) ?_
  refine y_aload_n dX5_init_4 0 rfl ?_
  refine y_bipush (v := 6) dX5_init_5 (by decide) ?_
  refine y_newa_int kc_68 dX5_init_7 w_aint nv_int_6 ⟨(Nat.le_of_ble_eq_true rfl), (Nat.le_of_ble_eq_true rfl)⟩ ⟨rfl, rfl⟩ ?_
  refine y_putF ffX5_9 kc_67 (Nat.le_of_ble_eq_true rfl) ⟨by decide, (Nat.le_of_ble_eq_true rfl)⟩ rfl rfl rfl ⟨rfl, fun _ => ⟨rfl, rfl⟩⟩ dX5_init_9 ?_
  refine y_aload_n dX5_init_12 0 rfl ?_
  refine y_bipush (v := 50) dX5_init_13 (by decide) ?_
  refine y_newa_int kc_69 dX5_init_15 w_aint nv_int_50 ⟨(Nat.le_of_ble_eq_true rfl), (Nat.le_of_ble_eq_true rfl)⟩ ⟨rfl, rfl⟩ ?_
  refine y_putF ffX5_15 kc_67 (Nat.le_of_ble_eq_true rfl) ⟨by decide, (Nat.le_of_ble_eq_true rfl)⟩ rfl rfl rfl ⟨rfl, fun _ => ⟨rfl, rfl⟩⟩ dX5_init_17 ?_
  refine y_aload_n dX5_init_20 0 rfl ?_
  refine y_aload_n dX5_init_21 1 rfl ?_
  refine y_putF ffX5_18 kc_67 (Nat.le_of_ble_eq_true rfl) ⟨by decide, (Nat.le_of_ble_eq_true rfl)⟩ rfl rfl rfl ⟨rfl, fun _ => ⟨rfl, rfl⟩⟩ dX5_init_22 ?_
  refine y_aload_n dX5_init_25 0 rfl ?_
  refine y_aload_n dX5_init_26 2 rfl ?_
  refine y_putF ffX5_22 kc_67 (Nat.le_of_ble_eq_true rfl) ⟨by decide, (Nat.le_of_ble_eq_true rfl)⟩ rfl rfl rfl ⟨rfl, fun _ => ⟨rfl, rfl⟩⟩ dX5_init_27 ?_
  exact y_end
def rK0 (rho : Nat → Nat → Nat) : Nat → Nat → Nat := (uR (rK67 (uR (rK63 (uR (rK62 (uR (rK56 (uR (rK51 (uR (uR (rK46 (uR (rK42 (uR (uR (rK33 (uR (rK31 (rK3 (rK1 rho))) 0 0 1)) 0 1 33) 0 2 3)) 0 3 42)) 0 4 46) 0 5 50)) 0 6 51)) 0 7 56)) 0 8 62)) 0 9 63)) 0 10 67)
def hK0 (h : AHp) : AHp := (sI (hK67 (hK63 (hK62 (hK56 (hK51 (hK46 (hK42 (hK33 (hK31 (hK3 (hK1 h))))))))))) 0 11 1)
set_option maxHeartbeats 4000000 in
set_option maxRecDepth 100000 in
theorem mk_0 (rho : Nat → Nat → Nat) (h : AHp) : MB QX11_init 3 [.ref 0] 1 rho h 70 (rK0 rho) (hK0 h) 69 18209 := by
  refine MB.of (pcE := 149) (by decide) rfl rfl (Nat.le_of_ble_eq_true rfl) dX11_init_149 ?_
  unfold rK0 hK0
  show WB QX11_init 3 0 [(0, .ref 0)] [] 1 rho h 0 0 149 [] 70 _ _ 69 18209
  refine y_aload_n dX11_init_0 0 rfl ?_
  refine y_objInit dX11_init_1 iX11_3 w_obj (Nat.le_of_ble_eq_true rfl) (Nat.le_of_ble_eq_true rfl) ?_
  refine y_new cbX8 (by decide) kc_1 dX11_init_4 nX11_9 ⟨(Nat.le_of_ble_eq_true rfl), (Nat.le_of_ble_eq_true rfl)⟩ ⟨rfl, rfl⟩ ?_
  refine y_dup dX11_init_7 rfl ?_
  refine y_callN dX11_init_8 (mk_1 _ _) bX8_init iX11_11 rfl rfl (Nat.le_of_ble_eq_true rfl) (Nat.le_of_ble_eq_true rfl) ⟨(Nat.le_of_ble_eq_true rfl), (Nat.le_of_ble_eq_true rfl)⟩ (Nat.le_of_ble_eq_true rfl) ⟨rfl, rfl⟩ ?_
  refine y_astore_n (lv2 := [(1, .ref 1), (0, .ref 0)]) dX11_init_11 (Nat.le_of_ble_eq_true rfl) rfl ?_
  refine y_new cbX9 (by decide) kc_3 dX11_init_12 nX11_12 ⟨(Nat.le_of_ble_eq_true rfl), (Nat.le_of_ble_eq_true rfl)⟩ ⟨rfl, rfl⟩ ?_
  refine y_dup dX11_init_15 rfl ?_
  refine y_callN dX11_init_16 (mk_3 _ _) bX9_init iX11_14 rfl rfl (Nat.le_of_ble_eq_true rfl) (Nat.le_of_ble_eq_true rfl) ⟨(Nat.le_of_ble_eq_true rfl), (Nat.le_of_ble_eq_true rfl)⟩ (Nat.le_of_ble_eq_true rfl) ⟨rfl, rfl⟩ ?_
  refine y_astore_n (lv2 := [(2, .ref 3), (1, .ref 1), (0, .ref 0)]) dX11_init_19 (Nat.le_of_ble_eq_true rfl) rfl ?_
  refine y_new cbX3 (by decide) kc_31 dX11_init_20 nX11_15 ⟨(Nat.le_of_ble_eq_true rfl), (Nat.le_of_ble_eq_true rfl)⟩ ⟨rfl, rfl⟩ ?_
  refine y_dup dX11_init_23 rfl ?_
  refine y_callN dX11_init_24 (mk_31 _ _) bX3_init iX11_17 rfl rfl (Nat.le_of_ble_eq_true rfl) (Nat.le_of_ble_eq_true rfl) ⟨(Nat.le_of_ble_eq_true rfl), (Nat.le_of_ble_eq_true rfl)⟩ (Nat.le_of_ble_eq_true rfl) ⟨rfl, rfl⟩ ?_
  refine y_astore_n (lv2 := [(3, .ref 31), (2, .ref 3), (1, .ref 1), (0, .ref 0)]) dX11_init_27 (Nat.le_of_ble_eq_true rfl) rfl ?_
  refine y_aload_n dX11_init_28 3 rfl ?_
  refine y_aload_n dX11_init_29 2 rfl ?_
  refine y_putF ffX11_18 kc_0 (Nat.le_of_ble_eq_true rfl) ⟨by decide, (Nat.le_of_ble_eq_true rfl)⟩ rfl rfl rfl ⟨rfl, fun _ => ⟨rfl, rfl⟩⟩ dX11_init_30 ?_
  refine y_aload_n dX11_init_33 3 rfl ?_
  refine y_new cbX4 (by decide) kc_33 dX11_init_34 nX11_22 ⟨(Nat.le_of_ble_eq_true rfl), (Nat.le_of_ble_eq_true rfl)⟩ ⟨rfl, rfl⟩ ?_
  refine y_dup dX11_init_37 rfl ?_
  refine y_aload_n dX11_init_38 2 rfl ?_
  refine y_call dX11_init_39 (mk_33 _ _) bX4_init iX11_24 rfl rfl (Nat.le_of_ble_eq_true rfl) (Nat.le_of_ble_eq_true rfl) ⟨(Nat.le_of_ble_eq_true rfl), (Nat.le_of_ble_eq_true rfl)⟩ (Nat.le_of_ble_eq_true rfl) ⟨rfl, rfl⟩ ?_
  refine y_putF ffX11_27 kc_0 (Nat.le_of_ble_eq_true rfl) ⟨by decide, (Nat.le_of_ble_eq_true rfl)⟩ rfl rfl rfl ⟨rfl, fun _ => ⟨rfl, rfl⟩⟩ dX11_init_42 ?_
  refine y_aload_n dX11_init_45 3 rfl ?_
  refine y_aload_n dX11_init_46 1 rfl ?_
  refine y_putF ffX11_31 kc_0 (Nat.le_of_ble_eq_true rfl) ⟨by decide, (Nat.le_of_ble_eq_true rfl)⟩ rfl rfl rfl ⟨rfl, fun _ => ⟨rfl, rfl⟩⟩ dX11_init_47 ?_
  refine y_aload_n dX11_init_50 3 rfl ?_
  refine y_new cbX7 (by decide) kc_42 dX11_init_51 nX11_35 ⟨(Nat.le_of_ble_eq_true rfl), (Nat.le_of_ble_eq_true rfl)⟩ ⟨rfl, rfl⟩ ?_
  refine y_dup dX11_init_54 rfl ?_
  refine y_callN dX11_init_55 (mk_42 _ _) bX7_init iX11_37 rfl rfl (Nat.le_of_ble_eq_true rfl) (Nat.le_of_ble_eq_true rfl) ⟨(Nat.le_of_ble_eq_true rfl), (Nat.le_of_ble_eq_true rfl)⟩ (Nat.le_of_ble_eq_true rfl) ⟨rfl, rfl⟩ ?_
  refine y_putF ffX11_38 kc_0 (Nat.le_of_ble_eq_true rfl) ⟨by decide, (Nat.le_of_ble_eq_true rfl)⟩ rfl rfl rfl ⟨rfl, fun _ => ⟨rfl, rfl⟩⟩ dX11_init_58 ?_
  refine y_aload_n dX11_init_61 3 rfl ?_
  refine y_new cbX7 (by decide) kc_46 dX11_init_62 nX11_35 ⟨(Nat.le_of_ble_eq_true rfl), (Nat.le_of_ble_eq_true rfl)⟩ ⟨rfl, rfl⟩ ?_
  refine y_dup dX11_init_65 rfl ?_
  refine y_callN dX11_init_66 (mk_46 _ _) bX7_init iX11_37 rfl rfl (Nat.le_of_ble_eq_true rfl) (Nat.le_of_ble_eq_true rfl) ⟨(Nat.le_of_ble_eq_true rfl), (Nat.le_of_ble_eq_true rfl)⟩ (Nat.le_of_ble_eq_true rfl) ⟨rfl, rfl⟩ ?_
  refine y_putF ffX11_42 kc_0 (Nat.le_of_ble_eq_true rfl) ⟨by decide, (Nat.le_of_ble_eq_true rfl)⟩ rfl rfl rfl ⟨rfl, fun _ => ⟨rfl, rfl⟩⟩ dX11_init_69 ?_
  refine y_aload_n dX11_init_72 3 rfl ?_
  refine y_bipush (v := 6) dX11_init_73 (by decide) ?_
  refine y_newa_int kc_50 dX11_init_75 w_aint nv_int_6 ⟨(Nat.le_of_ble_eq_true rfl), (Nat.le_of_ble_eq_true rfl)⟩ ⟨rfl, rfl⟩ ?_
  refine y_putF ffX11_45 kc_0 (Nat.le_of_ble_eq_true rfl) ⟨by decide, (Nat.le_of_ble_eq_true rfl)⟩ rfl rfl rfl ⟨rfl, fun _ => ⟨rfl, rfl⟩⟩ dX11_init_77 ?_
  refine y_aload_n dX11_init_80 3 rfl ?_
  refine y_new cbX1 (by decide) kc_51 dX11_init_81 nX11_49 ⟨(Nat.le_of_ble_eq_true rfl), (Nat.le_of_ble_eq_true rfl)⟩ ⟨rfl, rfl⟩ ?_
  refine y_dup dX11_init_84 rfl ?_
  refine y_aload_n dX11_init_85 1 rfl ?_
  refine y_aload_n dX11_init_86 0 rfl ?_
  refine y_call dX11_init_87 (mk_51 _ _) bX1_init iX11_51 rfl rfl (Nat.le_of_ble_eq_true rfl) (Nat.le_of_ble_eq_true rfl) ⟨(Nat.le_of_ble_eq_true rfl), (Nat.le_of_ble_eq_true rfl)⟩ (Nat.le_of_ble_eq_true rfl) ⟨rfl, rfl⟩ ?_
  refine y_putF ffX11_54 kc_0 (Nat.le_of_ble_eq_true rfl) ⟨by decide, (Nat.le_of_ble_eq_true rfl)⟩ rfl rfl rfl ⟨rfl, fun _ => ⟨rfl, rfl⟩⟩ dX11_init_90 ?_
  refine y_aload_n dX11_init_93 3 rfl ?_
  refine y_new cbX0 (by decide) kc_56 dX11_init_94 nX11_58 ⟨(Nat.le_of_ble_eq_true rfl), (Nat.le_of_ble_eq_true rfl)⟩ ⟨rfl, rfl⟩ ?_
  refine y_dup dX11_init_97 rfl ?_
  refine y_aload_n dX11_init_98 1 rfl ?_
  refine y_aload_n dX11_init_99 0 rfl ?_
  refine y_call dX11_init_100 (mk_56 _ _) bX0_init iX11_60 rfl rfl (Nat.le_of_ble_eq_true rfl) (Nat.le_of_ble_eq_true rfl) ⟨(Nat.le_of_ble_eq_true rfl), (Nat.le_of_ble_eq_true rfl)⟩ (Nat.le_of_ble_eq_true rfl) ⟨rfl, rfl⟩ ?_
  refine y_putF ffX11_61 kc_0 (Nat.le_of_ble_eq_true rfl) ⟨by decide, (Nat.le_of_ble_eq_true rfl)⟩ rfl rfl rfl ⟨rfl, fun _ => ⟨rfl, rfl⟩⟩ dX11_init_103 ?_
  refine y_aload_n dX11_init_106 3 rfl ?_
  refine y_new cbX6 (by decide) kc_62 dX11_init_107 nX11_65 ⟨(Nat.le_of_ble_eq_true rfl), (Nat.le_of_ble_eq_true rfl)⟩ ⟨rfl, rfl⟩ ?_
  refine y_dup dX11_init_110 rfl ?_
  refine y_aload_n dX11_init_111 1 rfl ?_
  refine y_aload_n dX11_init_112 0 rfl ?_
  refine y_call dX11_init_113 (mk_62 _ _) bX6_init iX11_67 rfl rfl (Nat.le_of_ble_eq_true rfl) (Nat.le_of_ble_eq_true rfl) ⟨(Nat.le_of_ble_eq_true rfl), (Nat.le_of_ble_eq_true rfl)⟩ (Nat.le_of_ble_eq_true rfl) ⟨rfl, rfl⟩ ?_
  refine y_putF ffX11_68 kc_0 (Nat.le_of_ble_eq_true rfl) ⟨by decide, (Nat.le_of_ble_eq_true rfl)⟩ rfl rfl rfl ⟨rfl, fun _ => ⟨rfl, rfl⟩⟩ dX11_init_116 ?_
  refine y_aload_n dX11_init_119 3 rfl ?_
  refine y_new cbX10 (by decide) kc_63 dX11_init_120 nX11_72 ⟨(Nat.le_of_ble_eq_true rfl), (Nat.le_of_ble_eq_true rfl)⟩ ⟨rfl, rfl⟩ ?_
  refine y_dup dX11_init_123 rfl ?_
  refine y_aload_n dX11_init_124 1 rfl ?_
  refine y_call dX11_init_125 (mk_63 _ _) bX10_init iX11_74 rfl rfl (Nat.le_of_ble_eq_true rfl) (Nat.le_of_ble_eq_true rfl) ⟨(Nat.le_of_ble_eq_true rfl), (Nat.le_of_ble_eq_true rfl)⟩ (Nat.le_of_ble_eq_true rfl) ⟨rfl, rfl⟩ ?_
  refine y_putF ffX11_77 kc_0 (Nat.le_of_ble_eq_true rfl) ⟨by decide, (Nat.le_of_ble_eq_true rfl)⟩ rfl rfl rfl ⟨rfl, fun _ => ⟨rfl, rfl⟩⟩ dX11_init_128 ?_
  refine y_aload_n dX11_init_131 3 rfl ?_
  refine y_new cbX5 (by decide) kc_67 dX11_init_132 nX11_81 ⟨(Nat.le_of_ble_eq_true rfl), (Nat.le_of_ble_eq_true rfl)⟩ ⟨rfl, rfl⟩ ?_
  refine y_dup dX11_init_135 rfl ?_
  refine y_aload_n dX11_init_136 1 rfl ?_
  refine y_aload_n dX11_init_137 0 rfl ?_
  refine y_call dX11_init_138 (mk_67 _ _) bX5_init iX11_83 rfl rfl (Nat.le_of_ble_eq_true rfl) (Nat.le_of_ble_eq_true rfl) ⟨(Nat.le_of_ble_eq_true rfl), (Nat.le_of_ble_eq_true rfl)⟩ (Nat.le_of_ble_eq_true rfl) ⟨rfl, rfl⟩ ?_
  refine y_putF ffX11_84 kc_0 (Nat.le_of_ble_eq_true rfl) ⟨by decide, (Nat.le_of_ble_eq_true rfl)⟩ rfl rfl rfl ⟨rfl, fun _ => ⟨rfl, rfl⟩⟩ dX11_init_141 ?_
  refine y_aload_n dX11_init_144 3 rfl ?_
  refine y_iconst (v := 1) dX11_init_145 (by decide) ?_
  refine y_putI fX11_88 kc_0 (Nat.le_of_ble_eq_true rfl) rfl dX11_init_146 ?_
  exact y_end
def rK70 (rho : Nat → Nat → Nat) : Nat → Nat → Nat := (uR (uR (uR (uR (uR (uR (uR (uR (uR (uR (uR (uR (uR (uR (uR (uR (uR (uR (uR (uR (uR (uR (uR (uR (uR (uR (uR (uR (uR (uR (uR (uR (uR (uR (uR (uR (uR (uR (uR (uR (uR (uR (uR (uR (uR (uR (uR rho 70 0 71) 70 11 72) 70 12 73) 70 13 74) 70 14 75) 70 15 76) 70 17 77) 70 18 78) 70 19 79) 70 20 80) 70 21 81) 70 22 82) 70 23 83) 70 24 84) 70 25 85) 70 26 86) 70 27 87) 70 28 88) 70 29 89) 70 32 90) 70 40 91) 70 41 92) 70 42 93) 70 43 94) 70 44 95) 70 45 96) 70 46 97) 70 47 98) 70 48 99) 70 49 100) 70 50 101) 70 51 102) 70 52 103) 70 53 104) 70 54 105) 70 55 106) 70 56 107) 70 57 108) 70 58 109) 70 59 110) 70 60 111) 70 61 112) 70 62 113) 70 66 114) 70 67 115) 70 68 116) 70 69 117)
def hK70 (h : AHp) : AHp := (sI h 70 2 1)
set_option maxHeartbeats 4000000 in
set_option maxRecDepth 100000 in
theorem mk_70 (rho : Nat → Nat → Nat) (h : AHp) : MB QX12_init 1 [.ref 70] 71 rho h 118 (rK70 rho) (hK70 h) 47 59868 := by
  refine MB.of (pcE := 408) (by decide) rfl rfl (Nat.le_of_ble_eq_true rfl) dX12_init_408 ?_
  unfold rK70 hK70
  show WB QX12_init 1 0 [(0, .ref 70)] [] 71 rho h 0 0 408 [] 118 _ _ 47 59868
  refine y_aload_n dX12_init_0 0 rfl ?_
  refine y_objInit dX12_init_1 iX12_1 w_obj (Nat.le_of_ble_eq_true rfl) (Nat.le_of_ble_eq_true rfl) ?_
  refine y_aload_n dX12_init_4 0 rfl ?_
  refine y_sipush (v := 220) dX12_init_5 (by decide) ?_
  refine y_newa_byte kc_71 dX12_init_8 w_abyte nv_byte_220 ⟨(Nat.le_of_ble_eq_true rfl), (Nat.le_of_ble_eq_true rfl)⟩ ⟨rfl, rfl⟩ ?_
  refine y_putF ffX12_7 kc_70 (Nat.le_of_ble_eq_true rfl) ⟨by decide, (Nat.le_of_ble_eq_true rfl)⟩ rfl rfl rfl ⟨rfl, fun _ => ⟨rfl, rfl⟩⟩ dX12_init_10 ?_
  refine y_aload_n dX12_init_13 0 rfl ?_
  refine y_iconst (v := 1) dX12_init_14 (by decide) ?_
  refine y_putI fX12_13 kc_70 (Nat.le_of_ble_eq_true rfl) rfl dX12_init_15 ?_
  refine y_aload_n dX12_init_18 0 rfl ?_
  refine y_bipush (v := 12) dX12_init_19 (by decide) ?_
  refine y_newa_int kc_72 dX12_init_21 w_aint nv_int_12 ⟨(Nat.le_of_ble_eq_true rfl), (Nat.le_of_ble_eq_true rfl)⟩ ⟨rfl, rfl⟩ ?_
  refine y_putF ffX12_17 kc_70 (Nat.le_of_ble_eq_true rfl) ⟨by decide, (Nat.le_of_ble_eq_true rfl)⟩ rfl rfl rfl ⟨rfl, fun _ => ⟨rfl, rfl⟩⟩ dX12_init_23 ?_
  refine y_aload_n dX12_init_26 0 rfl ?_
  refine y_bipush (v := 7) dX12_init_27 (by decide) ?_
  refine y_newa_int kc_73 dX12_init_29 w_aint nv_int_7 ⟨(Nat.le_of_ble_eq_true rfl), (Nat.le_of_ble_eq_true rfl)⟩ ⟨rfl, rfl⟩ ?_
  refine y_putF ffX12_21 kc_70 (Nat.le_of_ble_eq_true rfl) ⟨by decide, (Nat.le_of_ble_eq_true rfl)⟩ rfl rfl rfl ⟨rfl, fun _ => ⟨rfl, rfl⟩⟩ dX12_init_31 ?_
  refine y_aload_n dX12_init_34 0 rfl ?_
  refine y_bipush (v := 7) dX12_init_35 (by decide) ?_
  refine y_newa_int kc_74 dX12_init_37 w_aint nv_int_7 ⟨(Nat.le_of_ble_eq_true rfl), (Nat.le_of_ble_eq_true rfl)⟩ ⟨rfl, rfl⟩ ?_
  refine y_putF ffX12_24 kc_70 (Nat.le_of_ble_eq_true rfl) ⟨by decide, (Nat.le_of_ble_eq_true rfl)⟩ rfl rfl rfl ⟨rfl, fun _ => ⟨rfl, rfl⟩⟩ dX12_init_39 ?_
  refine y_aload_n dX12_init_42 0 rfl ?_
  refine y_bipush (v := 7) dX12_init_43 (by decide) ?_
  refine y_newa_int kc_75 dX12_init_45 w_aint nv_int_7 ⟨(Nat.le_of_ble_eq_true rfl), (Nat.le_of_ble_eq_true rfl)⟩ ⟨rfl, rfl⟩ ?_
  refine y_putF ffX12_27 kc_70 (Nat.le_of_ble_eq_true rfl) ⟨by decide, (Nat.le_of_ble_eq_true rfl)⟩ rfl rfl rfl ⟨rfl, fun _ => ⟨rfl, rfl⟩⟩ dX12_init_47 ?_
  refine y_aload_n dX12_init_50 0 rfl ?_
  refine y_bipush (v := 7) dX12_init_51 (by decide) ?_
  refine y_newa_boolean kc_76 dX12_init_53 w_aboolean nv_boolean_7 ⟨(Nat.le_of_ble_eq_true rfl), (Nat.le_of_ble_eq_true rfl)⟩ ⟨rfl, rfl⟩ ?_
  refine y_putF ffX12_30 kc_70 (Nat.le_of_ble_eq_true rfl) ⟨by decide, (Nat.le_of_ble_eq_true rfl)⟩ rfl rfl rfl ⟨rfl, fun _ => ⟨rfl, rfl⟩⟩ dX12_init_55 ?_
  refine y_aload_n dX12_init_58 0 rfl ?_
  refine y_iconst (v := 2) dX12_init_59 (by decide) ?_
  refine y_newa_int kc_77 dX12_init_60 w_aint nv_int_2 ⟨(Nat.le_of_ble_eq_true rfl), (Nat.le_of_ble_eq_true rfl)⟩ ⟨rfl, rfl⟩ ?_
  refine y_putF ffX12_34 kc_70 (Nat.le_of_ble_eq_true rfl) ⟨by decide, (Nat.le_of_ble_eq_true rfl)⟩ rfl rfl rfl ⟨rfl, fun _ => ⟨rfl, rfl⟩⟩ dX12_init_62 ?_
  refine y_aload_n dX12_init_65 0 rfl ?_
  refine y_bipush (v := 28) dX12_init_66 (by decide) ?_
  refine y_newa_int kc_78 dX12_init_68 w_aint nv_int_28 ⟨(Nat.le_of_ble_eq_true rfl), (Nat.le_of_ble_eq_true rfl)⟩ ⟨rfl, rfl⟩ ?_
  refine y_putF ffX12_37 kc_70 (Nat.le_of_ble_eq_true rfl) ⟨by decide, (Nat.le_of_ble_eq_true rfl)⟩ rfl rfl rfl ⟨rfl, fun _ => ⟨rfl, rfl⟩⟩ dX12_init_70 ?_
  refine y_aload_n dX12_init_73 0 rfl ?_
  refine y_bipush (v := 28) dX12_init_74 (by decide) ?_
  refine y_newa_int kc_79 dX12_init_76 w_aint nv_int_28 ⟨(Nat.le_of_ble_eq_true rfl), (Nat.le_of_ble_eq_true rfl)⟩ ⟨rfl, rfl⟩ ?_
  refine y_putF ffX12_40 kc_70 (Nat.le_of_ble_eq_true rfl) ⟨by decide, (Nat.le_of_ble_eq_true rfl)⟩ rfl rfl rfl ⟨rfl, fun _ => ⟨rfl, rfl⟩⟩ dX12_init_78 ?_
  refine y_aload_n dX12_init_81 0 rfl ?_
  refine y_bipush (v := 28) dX12_init_82 (by decide) ?_
  refine y_newa_int kc_80 dX12_init_84 w_aint nv_int_28 ⟨(Nat.le_of_ble_eq_true rfl), (Nat.le_of_ble_eq_true rfl)⟩ ⟨rfl, rfl⟩ ?_
  refine y_putF ffX12_43 kc_70 (Nat.le_of_ble_eq_true rfl) ⟨by decide, (Nat.le_of_ble_eq_true rfl)⟩ rfl rfl rfl ⟨rfl, fun _ => ⟨rfl, rfl⟩⟩ dX12_init_86 ?_
  refine y_aload_n dX12_init_89 0 rfl ?_
  refine y_bipush (v := 28) dX12_init_90 (by decide) ?_
  refine y_newa_int kc_81 dX12_init_92 w_aint nv_int_28 ⟨(Nat.le_of_ble_eq_true rfl), (Nat.le_of_ble_eq_true rfl)⟩ ⟨rfl, rfl⟩ ?_
  refine y_putF ffX12_46 kc_70 (Nat.le_of_ble_eq_true rfl) ⟨by decide, (Nat.le_of_ble_eq_true rfl)⟩ rfl rfl rfl ⟨rfl, fun _ => ⟨rfl, rfl⟩⟩ dX12_init_94 ?_
  refine y_aload_n dX12_init_97 0 rfl ?_
  refine y_sipush (v := 400) dX12_init_98 (by decide) ?_
  refine y_newa_int kc_82 dX12_init_101 w_aint nv_int_400 ⟨(Nat.le_of_ble_eq_true rfl), (Nat.le_of_ble_eq_true rfl)⟩ ⟨rfl, rfl⟩ ?_
  refine y_putF ffX12_49 kc_70 (Nat.le_of_ble_eq_true rfl) ⟨by decide, (Nat.le_of_ble_eq_true rfl)⟩ rfl rfl rfl ⟨rfl, fun _ => ⟨rfl, rfl⟩⟩ dX12_init_103 ?_
  refine y_aload_n dX12_init_106 0 rfl ?_
  refine y_sipush (v := 400) dX12_init_107 (by decide) ?_
  refine y_newa_int kc_83 dX12_init_110 w_aint nv_int_400 ⟨(Nat.le_of_ble_eq_true rfl), (Nat.le_of_ble_eq_true rfl)⟩ ⟨rfl, rfl⟩ ?_
  refine y_putF ffX12_52 kc_70 (Nat.le_of_ble_eq_true rfl) ⟨by decide, (Nat.le_of_ble_eq_true rfl)⟩ rfl rfl rfl ⟨rfl, fun _ => ⟨rfl, rfl⟩⟩ dX12_init_112 ?_
  refine y_aload_n dX12_init_115 0 rfl ?_
  refine y_bipush (v := 14) dX12_init_116 (by decide) ?_
  refine y_newa_int kc_84 dX12_init_118 w_aint nv_int_14 ⟨(Nat.le_of_ble_eq_true rfl), (Nat.le_of_ble_eq_true rfl)⟩ ⟨rfl, rfl⟩ ?_
  refine y_putF ffX12_55 kc_70 (Nat.le_of_ble_eq_true rfl) ⟨by decide, (Nat.le_of_ble_eq_true rfl)⟩ rfl rfl rfl ⟨rfl, fun _ => ⟨rfl, rfl⟩⟩ dX12_init_120 ?_
  refine y_aload_n dX12_init_123 0 rfl ?_
  refine y_bipush (v := 14) dX12_init_124 (by decide) ?_
  refine y_newa_int kc_85 dX12_init_126 w_aint nv_int_14 ⟨(Nat.le_of_ble_eq_true rfl), (Nat.le_of_ble_eq_true rfl)⟩ ⟨rfl, rfl⟩ ?_
  refine y_putF ffX12_58 kc_70 (Nat.le_of_ble_eq_true rfl) ⟨by decide, (Nat.le_of_ble_eq_true rfl)⟩ rfl rfl rfl ⟨rfl, fun _ => ⟨rfl, rfl⟩⟩ dX12_init_128 ?_
  refine y_aload_n dX12_init_131 0 rfl ?_
  refine y_bipush (v := 14) dX12_init_132 (by decide) ?_
  refine y_newa_int kc_86 dX12_init_134 w_aint nv_int_14 ⟨(Nat.le_of_ble_eq_true rfl), (Nat.le_of_ble_eq_true rfl)⟩ ⟨rfl, rfl⟩ ?_
  refine y_putF ffX12_61 kc_70 (Nat.le_of_ble_eq_true rfl) ⟨by decide, (Nat.le_of_ble_eq_true rfl)⟩ rfl rfl rfl ⟨rfl, fun _ => ⟨rfl, rfl⟩⟩ dX12_init_136 ?_
  refine y_aload_n dX12_init_139 0 rfl ?_
  refine y_bipush (v := 14) dX12_init_140 (by decide) ?_
  refine y_newa_int kc_87 dX12_init_142 w_aint nv_int_14 ⟨(Nat.le_of_ble_eq_true rfl), (Nat.le_of_ble_eq_true rfl)⟩ ⟨rfl, rfl⟩ ?_
  refine y_putF ffX12_64 kc_70 (Nat.le_of_ble_eq_true rfl) ⟨by decide, (Nat.le_of_ble_eq_true rfl)⟩ rfl rfl rfl ⟨rfl, fun _ => ⟨rfl, rfl⟩⟩ dX12_init_144 ?_
  refine y_aload_n dX12_init_147 0 rfl ?_
  refine y_sipush (v := 200) dX12_init_148 (by decide) ?_
  refine y_newa_int kc_88 dX12_init_151 w_aint nv_int_200 ⟨(Nat.le_of_ble_eq_true rfl), (Nat.le_of_ble_eq_true rfl)⟩ ⟨rfl, rfl⟩ ?_
  refine y_putF ffX12_67 kc_70 (Nat.le_of_ble_eq_true rfl) ⟨by decide, (Nat.le_of_ble_eq_true rfl)⟩ rfl rfl rfl ⟨rfl, fun _ => ⟨rfl, rfl⟩⟩ dX12_init_153 ?_
  refine y_aload_n dX12_init_156 0 rfl ?_
  refine y_sipush (v := 200) dX12_init_157 (by decide) ?_
  refine y_newa_int kc_89 dX12_init_160 w_aint nv_int_200 ⟨(Nat.le_of_ble_eq_true rfl), (Nat.le_of_ble_eq_true rfl)⟩ ⟨rfl, rfl⟩ ?_
  refine y_putF ffX12_70 kc_70 (Nat.le_of_ble_eq_true rfl) ⟨by decide, (Nat.le_of_ble_eq_true rfl)⟩ rfl rfl rfl ⟨rfl, fun _ => ⟨rfl, rfl⟩⟩ dX12_init_162 ?_
  refine y_aload_n dX12_init_165 0 rfl ?_
  refine y_sipush (v := 240) dX12_init_166 (by decide) ?_
  refine y_newa_int kc_90 dX12_init_169 w_aint nv_int_240 ⟨(Nat.le_of_ble_eq_true rfl), (Nat.le_of_ble_eq_true rfl)⟩ ⟨rfl, rfl⟩ ?_
  refine y_putF ffX12_73 kc_70 (Nat.le_of_ble_eq_true rfl) ⟨by decide, (Nat.le_of_ble_eq_true rfl)⟩ rfl rfl rfl ⟨rfl, fun _ => ⟨rfl, rfl⟩⟩ dX12_init_171 ?_
  refine y_aload_n dX12_init_174 0 rfl ?_
  refine y_bipush (v := 6) dX12_init_175 (by decide) ?_
  refine y_newa_int kc_91 dX12_init_177 w_aint nv_int_6 ⟨(Nat.le_of_ble_eq_true rfl), (Nat.le_of_ble_eq_true rfl)⟩ ⟨rfl, rfl⟩ ?_
  refine y_putF ffX12_76 kc_70 (Nat.le_of_ble_eq_true rfl) ⟨by decide, (Nat.le_of_ble_eq_true rfl)⟩ rfl rfl rfl ⟨rfl, fun _ => ⟨rfl, rfl⟩⟩ dX12_init_179 ?_
  refine y_aload_n dX12_init_182 0 rfl ?_
  refine y_sipush (v := 240) dX12_init_183 (by decide) ?_
  refine y_newa_int kc_92 dX12_init_186 w_aint nv_int_240 ⟨(Nat.le_of_ble_eq_true rfl), (Nat.le_of_ble_eq_true rfl)⟩ ⟨rfl, rfl⟩ ?_
  refine y_putF ffX12_79 kc_70 (Nat.le_of_ble_eq_true rfl) ⟨by decide, (Nat.le_of_ble_eq_true rfl)⟩ rfl rfl rfl ⟨rfl, fun _ => ⟨rfl, rfl⟩⟩ dX12_init_188 ?_
  refine y_aload_n dX12_init_191 0 rfl ?_
  refine y_sipush (v := 240) dX12_init_192 (by decide) ?_
  refine y_newa_boolean kc_93 dX12_init_195 w_aboolean nv_boolean_240 ⟨(Nat.le_of_ble_eq_true rfl), (Nat.le_of_ble_eq_true rfl)⟩ ⟨rfl, rfl⟩ ?_
  refine y_putF ffX12_82 kc_70 (Nat.le_of_ble_eq_true rfl) ⟨by decide, (Nat.le_of_ble_eq_true rfl)⟩ rfl rfl rfl ⟨rfl, fun _ => ⟨rfl, rfl⟩⟩ dX12_init_197 ?_
  refine y_aload_n dX12_init_200 0 rfl ?_
  refine y_sipush (v := 200) dX12_init_201 (by decide) ?_
  refine y_newa_int kc_94 dX12_init_204 w_aint nv_int_200 ⟨(Nat.le_of_ble_eq_true rfl), (Nat.le_of_ble_eq_true rfl)⟩ ⟨rfl, rfl⟩ ?_
  refine y_putF ffX12_85 kc_70 (Nat.le_of_ble_eq_true rfl) ⟨by decide, (Nat.le_of_ble_eq_true rfl)⟩ rfl rfl rfl ⟨rfl, fun _ => ⟨rfl, rfl⟩⟩ dX12_init_206 ?_
  refine y_aload_n dX12_init_209 0 rfl ?_
  refine y_sipush (v := 200) dX12_init_210 (by decide) ?_
  refine y_newa_int kc_95 dX12_init_213 w_aint nv_int_200 ⟨(Nat.le_of_ble_eq_true rfl), (Nat.le_of_ble_eq_true rfl)⟩ ⟨rfl, rfl⟩ ?_
  refine y_putF ffX12_88 kc_70 (Nat.le_of_ble_eq_true rfl) ⟨by decide, (Nat.le_of_ble_eq_true rfl)⟩ rfl rfl rfl ⟨rfl, fun _ => ⟨rfl, rfl⟩⟩ dX12_init_215 ?_
  refine y_aload_n dX12_init_218 0 rfl ?_
  refine y_sipush (v := 200) dX12_init_219 (by decide) ?_
  refine y_newa_int kc_96 dX12_init_222 w_aint nv_int_200 ⟨(Nat.le_of_ble_eq_true rfl), (Nat.le_of_ble_eq_true rfl)⟩ ⟨rfl, rfl⟩ ?_
  refine y_putF ffX12_91 kc_70 (Nat.le_of_ble_eq_true rfl) ⟨by decide, (Nat.le_of_ble_eq_true rfl)⟩ rfl rfl rfl ⟨rfl, fun _ => ⟨rfl, rfl⟩⟩ dX12_init_224 ?_
  refine y_aload_n dX12_init_227 0 rfl ?_
  refine y_bipush (v := 12) dX12_init_228 (by decide) ?_
  refine y_newa_int kc_97 dX12_init_230 w_aint nv_int_12 ⟨(Nat.le_of_ble_eq_true rfl), (Nat.le_of_ble_eq_true rfl)⟩ ⟨rfl, rfl⟩ ?_
  refine y_putF ffX12_94 kc_70 (Nat.le_of_ble_eq_true rfl) ⟨by decide, (Nat.le_of_ble_eq_true rfl)⟩ rfl rfl rfl ⟨rfl, fun _ => ⟨rfl, rfl⟩⟩ dX12_init_232 ?_
  refine y_aload_n dX12_init_235 0 rfl ?_
  refine y_bipush (v := 12) dX12_init_236 (by decide) ?_
  refine y_newa_int kc_98 dX12_init_238 w_aint nv_int_12 ⟨(Nat.le_of_ble_eq_true rfl), (Nat.le_of_ble_eq_true rfl)⟩ ⟨rfl, rfl⟩ ?_
  refine y_putF ffX12_97 kc_70 (Nat.le_of_ble_eq_true rfl) ⟨by decide, (Nat.le_of_ble_eq_true rfl)⟩ rfl rfl rfl ⟨rfl, fun _ => ⟨rfl, rfl⟩⟩ dX12_init_240 ?_
  refine y_aload_n dX12_init_243 0 rfl ?_
  refine y_bipush (v := 12) dX12_init_244 (by decide) ?_
  refine y_newa_int kc_99 dX12_init_246 w_aint nv_int_12 ⟨(Nat.le_of_ble_eq_true rfl), (Nat.le_of_ble_eq_true rfl)⟩ ⟨rfl, rfl⟩ ?_
  refine y_putF ffX12_100 kc_70 (Nat.le_of_ble_eq_true rfl) ⟨by decide, (Nat.le_of_ble_eq_true rfl)⟩ rfl rfl rfl ⟨rfl, fun _ => ⟨rfl, rfl⟩⟩ dX12_init_248 ?_
  refine y_aload_n dX12_init_251 0 rfl ?_
  refine y_sipush (v := 7500) dX12_init_252 (by decide) ?_
  refine y_newa_int kc_100 dX12_init_255 w_aint nv_int_7500 ⟨(Nat.le_of_ble_eq_true rfl), (Nat.le_of_ble_eq_true rfl)⟩ ⟨rfl, rfl⟩ ?_
  refine y_putF ffX12_103 kc_70 (Nat.le_of_ble_eq_true rfl) ⟨by decide, (Nat.le_of_ble_eq_true rfl)⟩ rfl rfl rfl ⟨rfl, fun _ => ⟨rfl, rfl⟩⟩ dX12_init_257 ?_
  refine y_aload_n dX12_init_260 0 rfl ?_
  refine y_sipush (v := 8125) dX12_init_261 (by decide) ?_
  refine y_newa_int kc_101 dX12_init_264 w_aint nv_int_8125 ⟨(Nat.le_of_ble_eq_true rfl), (Nat.le_of_ble_eq_true rfl)⟩ ⟨rfl, rfl⟩ ?_
  refine y_putF ffX12_106 kc_70 (Nat.le_of_ble_eq_true rfl) ⟨by decide, (Nat.le_of_ble_eq_true rfl)⟩ rfl rfl rfl ⟨rfl, fun _ => ⟨rfl, rfl⟩⟩ dX12_init_266 ?_
  refine y_aload_n dX12_init_269 0 rfl ?_
  refine y_sipush (v := 8125) dX12_init_270 (by decide) ?_
  refine y_newa_boolean kc_102 dX12_init_273 w_aboolean nv_boolean_8125 ⟨(Nat.le_of_ble_eq_true rfl), (Nat.le_of_ble_eq_true rfl)⟩ ⟨rfl, rfl⟩ ?_
  refine y_putF ffX12_109 kc_70 (Nat.le_of_ble_eq_true rfl) ⟨by decide, (Nat.le_of_ble_eq_true rfl)⟩ rfl rfl rfl ⟨rfl, fun _ => ⟨rfl, rfl⟩⟩ dX12_init_275 ?_
  refine y_aload_n dX12_init_278 0 rfl ?_
  refine y_bipush (v := 8) dX12_init_279 (by decide) ?_
  refine y_newa_int kc_103 dX12_init_281 w_aint nv_int_8 ⟨(Nat.le_of_ble_eq_true rfl), (Nat.le_of_ble_eq_true rfl)⟩ ⟨rfl, rfl⟩ ?_
  refine y_putF ffX12_112 kc_70 (Nat.le_of_ble_eq_true rfl) ⟨by decide, (Nat.le_of_ble_eq_true rfl)⟩ rfl rfl rfl ⟨rfl, fun _ => ⟨rfl, rfl⟩⟩ dX12_init_283 ?_
  refine y_aload_n dX12_init_286 0 rfl ?_
  refine y_iconst (v := 4) dX12_init_287 (by decide) ?_
  refine y_newa_int kc_104 dX12_init_288 w_aint nv_int_4 ⟨(Nat.le_of_ble_eq_true rfl), (Nat.le_of_ble_eq_true rfl)⟩ ⟨rfl, rfl⟩ ?_
  refine y_putF ffX12_115 kc_70 (Nat.le_of_ble_eq_true rfl) ⟨by decide, (Nat.le_of_ble_eq_true rfl)⟩ rfl rfl rfl ⟨rfl, fun _ => ⟨rfl, rfl⟩⟩ dX12_init_290 ?_
  refine y_aload_n dX12_init_293 0 rfl ?_
  refine y_sipush (v := 12500) dX12_init_294 (by decide) ?_
  refine y_newa_int kc_105 dX12_init_297 w_aint nv_int_12500 ⟨(Nat.le_of_ble_eq_true rfl), (Nat.le_of_ble_eq_true rfl)⟩ ⟨rfl, rfl⟩ ?_
  refine y_putF ffX12_118 kc_70 (Nat.le_of_ble_eq_true rfl) ⟨by decide, (Nat.le_of_ble_eq_true rfl)⟩ rfl rfl rfl ⟨rfl, fun _ => ⟨rfl, rfl⟩⟩ dX12_init_299 ?_
  refine y_aload_n dX12_init_302 0 rfl ?_
  refine y_sipush (v := 625) dX12_init_303 (by decide) ?_
  refine y_newa_boolean kc_106 dX12_init_306 w_aboolean nv_boolean_625 ⟨(Nat.le_of_ble_eq_true rfl), (Nat.le_of_ble_eq_true rfl)⟩ ⟨rfl, rfl⟩ ?_
  refine y_putF ffX12_121 kc_70 (Nat.le_of_ble_eq_true rfl) ⟨by decide, (Nat.le_of_ble_eq_true rfl)⟩ rfl rfl rfl ⟨rfl, fun _ => ⟨rfl, rfl⟩⟩ dX12_init_308 ?_
  refine y_aload_n dX12_init_311 0 rfl ?_
  refine y_sipush (v := 625) dX12_init_312 (by decide) ?_
  refine y_newa_boolean kc_107 dX12_init_315 w_aboolean nv_boolean_625 ⟨(Nat.le_of_ble_eq_true rfl), (Nat.le_of_ble_eq_true rfl)⟩ ⟨rfl, rfl⟩ ?_
  refine y_putF ffX12_124 kc_70 (Nat.le_of_ble_eq_true rfl) ⟨by decide, (Nat.le_of_ble_eq_true rfl)⟩ rfl rfl rfl ⟨rfl, fun _ => ⟨rfl, rfl⟩⟩ dX12_init_317 ?_
  refine y_aload_n dX12_init_320 0 rfl ?_
  refine y_sipush (v := 4375) dX12_init_321 (by decide) ?_
  refine y_newa_int kc_108 dX12_init_324 w_aint nv_int_4375 ⟨(Nat.le_of_ble_eq_true rfl), (Nat.le_of_ble_eq_true rfl)⟩ ⟨rfl, rfl⟩ ?_
  refine y_putF ffX12_127 kc_70 (Nat.le_of_ble_eq_true rfl) ⟨by decide, (Nat.le_of_ble_eq_true rfl)⟩ rfl rfl rfl ⟨rfl, fun _ => ⟨rfl, rfl⟩⟩ dX12_init_326 ?_
  refine y_aload_n dX12_init_329 0 rfl ?_
  refine y_sipush (v := 4375) dX12_init_330 (by decide) ?_
  refine y_newa_boolean kc_109 dX12_init_333 w_aboolean nv_boolean_4375 ⟨(Nat.le_of_ble_eq_true rfl), (Nat.le_of_ble_eq_true rfl)⟩ ⟨rfl, rfl⟩ ?_
  refine y_putF ffX12_130 kc_70 (Nat.le_of_ble_eq_true rfl) ⟨by decide, (Nat.le_of_ble_eq_true rfl)⟩ rfl rfl rfl ⟨rfl, fun _ => ⟨rfl, rfl⟩⟩ dX12_init_335 ?_
  refine y_aload_n dX12_init_338 0 rfl ?_
  refine y_sipush (v := 4375) dX12_init_339 (by decide) ?_
  refine y_newa_boolean kc_110 dX12_init_342 w_aboolean nv_boolean_4375 ⟨(Nat.le_of_ble_eq_true rfl), (Nat.le_of_ble_eq_true rfl)⟩ ⟨rfl, rfl⟩ ?_
  refine y_putF ffX12_133 kc_70 (Nat.le_of_ble_eq_true rfl) ⟨by decide, (Nat.le_of_ble_eq_true rfl)⟩ rfl rfl rfl ⟨rfl, fun _ => ⟨rfl, rfl⟩⟩ dX12_init_344 ?_
  refine y_aload_n dX12_init_347 0 rfl ?_
  refine y_sipush (v := 1250) dX12_init_348 (by decide) ?_
  refine y_newa_int kc_111 dX12_init_351 w_aint nv_int_1250 ⟨(Nat.le_of_ble_eq_true rfl), (Nat.le_of_ble_eq_true rfl)⟩ ⟨rfl, rfl⟩ ?_
  refine y_putF ffX12_136 kc_70 (Nat.le_of_ble_eq_true rfl) ⟨by decide, (Nat.le_of_ble_eq_true rfl)⟩ rfl rfl rfl ⟨rfl, fun _ => ⟨rfl, rfl⟩⟩ dX12_init_353 ?_
  refine y_aload_n dX12_init_356 0 rfl ?_
  refine y_sipush (v := 4375) dX12_init_357 (by decide) ?_
  refine y_newa_boolean kc_112 dX12_init_360 w_aboolean nv_boolean_4375 ⟨(Nat.le_of_ble_eq_true rfl), (Nat.le_of_ble_eq_true rfl)⟩ ⟨rfl, rfl⟩ ?_
  refine y_putF ffX12_139 kc_70 (Nat.le_of_ble_eq_true rfl) ⟨by decide, (Nat.le_of_ble_eq_true rfl)⟩ rfl rfl rfl ⟨rfl, fun _ => ⟨rfl, rfl⟩⟩ dX12_init_362 ?_
  refine y_aload_n dX12_init_365 0 rfl ?_
  refine y_bipush (v := 8) dX12_init_366 (by decide) ?_
  refine y_newa_int kc_113 dX12_init_368 w_aint nv_int_8 ⟨(Nat.le_of_ble_eq_true rfl), (Nat.le_of_ble_eq_true rfl)⟩ ⟨rfl, rfl⟩ ?_
  refine y_putF ffX12_142 kc_70 (Nat.le_of_ble_eq_true rfl) ⟨by decide, (Nat.le_of_ble_eq_true rfl)⟩ rfl rfl rfl ⟨rfl, fun _ => ⟨rfl, rfl⟩⟩ dX12_init_370 ?_
  refine y_aload_n dX12_init_373 0 rfl ?_
  refine y_sipush (v := 200) dX12_init_374 (by decide) ?_
  refine y_newa_int kc_114 dX12_init_377 w_aint nv_int_200 ⟨(Nat.le_of_ble_eq_true rfl), (Nat.le_of_ble_eq_true rfl)⟩ ⟨rfl, rfl⟩ ?_
  refine y_putF ffX12_145 kc_70 (Nat.le_of_ble_eq_true rfl) ⟨by decide, (Nat.le_of_ble_eq_true rfl)⟩ rfl rfl rfl ⟨rfl, fun _ => ⟨rfl, rfl⟩⟩ dX12_init_379 ?_
  refine y_aload_n dX12_init_382 0 rfl ?_
  refine y_sipush (v := 200) dX12_init_383 (by decide) ?_
  refine y_newa_int kc_115 dX12_init_386 w_aint nv_int_200 ⟨(Nat.le_of_ble_eq_true rfl), (Nat.le_of_ble_eq_true rfl)⟩ ⟨rfl, rfl⟩ ?_
  refine y_putF ffX12_148 kc_70 (Nat.le_of_ble_eq_true rfl) ⟨by decide, (Nat.le_of_ble_eq_true rfl)⟩ rfl rfl rfl ⟨rfl, fun _ => ⟨rfl, rfl⟩⟩ dX12_init_388 ?_
  refine y_aload_n dX12_init_391 0 rfl ?_
  refine y_sipush (v := 200) dX12_init_392 (by decide) ?_
  refine y_newa_int kc_116 dX12_init_395 w_aint nv_int_200 ⟨(Nat.le_of_ble_eq_true rfl), (Nat.le_of_ble_eq_true rfl)⟩ ⟨rfl, rfl⟩ ?_
  refine y_putF ffX12_151 kc_70 (Nat.le_of_ble_eq_true rfl) ⟨by decide, (Nat.le_of_ble_eq_true rfl)⟩ rfl rfl rfl ⟨rfl, fun _ => ⟨rfl, rfl⟩⟩ dX12_init_397 ?_
  refine y_aload_n dX12_init_400 0 rfl ?_
  refine y_bipush (v := 6) dX12_init_401 (by decide) ?_
  refine y_newa_int kc_117 dX12_init_403 w_aint nv_int_6 ⟨(Nat.le_of_ble_eq_true rfl), (Nat.le_of_ble_eq_true rfl)⟩ ⟨rfl, rfl⟩ ?_
  refine y_putF ffX12_154 kc_70 (Nat.le_of_ble_eq_true rfl) ⟨by decide, (Nat.le_of_ble_eq_true rfl)⟩ rfl rfl rfl ⟨rfl, fun _ => ⟨rfl, rfl⟩⟩ dX12_init_405 ?_
  exact y_end
def rhoE : Nat → Nat → Nat := (rK70 (rK0 (fun _ _ => 0)))
def hE0 : AHp := (hK70 (hK0 ((fun _ _ => 0, fun _ _ => 0, fun _ _ => 0) : AHp)))
set_option maxHeartbeats 4000000 in
set_option maxRecDepth 100000 in
theorem mk_law (L : Nat) (xs : Nat → Int32) : WB (QL_law L xs) 130 0 [(0, .ref 9002)] [] 0 (fun _ _ => 0) ((fun _ _ => 0, fun _ _ => 0, fun _ _ => 0) : AHp) 0 0 18 [(3, .int 0), (2, .ref 70), (1, .ref 0), (0, .ref 9002)] 118 rhoE hE0 118 78161 := by
  unfold rhoE hE0
  refine y_new cbX11 (by decide) kc_0 dL_law_0 nL_7 ⟨(Nat.le_of_ble_eq_true rfl), (Nat.le_of_ble_eq_true rfl)⟩ ⟨rfl, rfl⟩ ?_
  refine y_dup dL_law_3 rfl ?_
  refine y_call dL_law_4 (mk_0 _ _) bX11_init iL_9 rfl rfl (Nat.le_of_ble_eq_true rfl) (Nat.le_of_ble_eq_true rfl) ⟨(Nat.le_of_ble_eq_true rfl), (Nat.le_of_ble_eq_true rfl)⟩ (Nat.le_of_ble_eq_true rfl) ⟨rfl, rfl⟩ ?_
  refine y_astore_n (lv2 := [(1, .ref 0), (0, .ref 9002)]) dL_law_7 (Nat.le_of_ble_eq_true rfl) rfl ?_
  refine y_new cbX12 (by decide) kc_70 dL_law_8 nL_10 ⟨(Nat.le_of_ble_eq_true rfl), (Nat.le_of_ble_eq_true rfl)⟩ ⟨rfl, rfl⟩ ?_
  refine y_dup dL_law_11 rfl ?_
  refine y_call dL_law_12 (mk_70 _ _) bX12_init iL_12 rfl rfl (Nat.le_of_ble_eq_true rfl) (Nat.le_of_ble_eq_true rfl) ⟨(Nat.le_of_ble_eq_true rfl), (Nat.le_of_ble_eq_true rfl)⟩ (Nat.le_of_ble_eq_true rfl) ⟨rfl, rfl⟩ ?_
  refine y_astore_n (lv2 := [(2, .ref 70), (1, .ref 0), (0, .ref 9002)]) dL_law_15 (Nat.le_of_ble_eq_true rfl) rfl ?_
  refine y_iconst (v := 0) dL_law_16 (by decide) ?_
  refine y_istore_n (lv2 := [(3, .int 0), (2, .ref 70), (1, .ref 0), (0, .ref 9002)]) dL_law_17 (Nat.le_of_ble_eq_true rfl) rfl ?_
  exact y_done
