theorem dX2_init_0 : decode cX2_init 0 = .ok (.aload_n 0, 1) := by decide +kernel
theorem dX2_init_1 : decode cX2_init 1 = .ok (.invokespecial 3, 3) := by decide +kernel
theorem dX2_init_4 : decode cX2_init 4 = .ok (.aload_n 0, 1) := by decide +kernel
theorem dX2_init_5 : decode cX2_init 5 = .ok (.sipush 256, 3) := by decide +kernel
theorem dX2_init_8 : decode cX2_init 8 = .ok (.newarray .int, 2) := by decide +kernel
theorem dX2_init_10 : decode cX2_init 10 = .ok (.putfield 11, 3) := by decide +kernel
theorem dX2_init_13 : decode cX2_init 13 = .ok (.aload_n 0, 1) := by decide +kernel
theorem dX2_init_14 : decode cX2_init 14 = .ok (.sipush 256, 3) := by decide +kernel
theorem dX2_init_17 : decode cX2_init 17 = .ok (.newarray .int, 2) := by decide +kernel
theorem dX2_init_19 : decode cX2_init 19 = .ok (.putfield 15, 3) := by decide +kernel
theorem dX2_init_22 : decode cX2_init 22 = .ok (.aload_n 0, 1) := by decide +kernel
theorem dX2_init_23 : decode cX2_init 23 = .ok (.bipush 14, 2) := by decide +kernel
theorem dX2_init_25 : decode cX2_init 25 = .ok (.newarray .int, 2) := by decide +kernel
theorem dX2_init_27 : decode cX2_init 27 = .ok (.putfield 18, 3) := by decide +kernel
theorem dX2_init_30 : decode cX2_init 30 = .ok (.aload_n 0, 1) := by decide +kernel
theorem dX2_init_31 : decode cX2_init 31 = .ok (.bipush 14, 2) := by decide +kernel
theorem dX2_init_33 : decode cX2_init 33 = .ok (.newarray .int, 2) := by decide +kernel
theorem dX2_init_35 : decode cX2_init 35 = .ok (.putfield 21, 3) := by decide +kernel
theorem dX2_init_38 : decode cX2_init 38 = .ok (.aload_n 0, 1) := by decide +kernel
theorem dX2_init_39 : decode cX2_init 39 = .ok (.bipush 14, 2) := by decide +kernel
theorem dX2_init_41 : decode cX2_init 41 = .ok (.newarray .int, 2) := by decide +kernel
theorem dX2_init_43 : decode cX2_init 43 = .ok (.putfield 24, 3) := by decide +kernel
theorem dX2_init_46 : decode cX2_init 46 = .ok (.aload_n 0, 1) := by decide +kernel
theorem dX2_init_47 : decode cX2_init 47 = .ok (.bipush 14, 2) := by decide +kernel
theorem dX2_init_49 : decode cX2_init 49 = .ok (.newarray .int, 2) := by decide +kernel
theorem dX2_init_51 : decode cX2_init 51 = .ok (.putfield 27, 3) := by decide +kernel
theorem dX2_init_54 : decode cX2_init 54 = .ok (.aload_n 0, 1) := by decide +kernel
theorem dX2_init_55 : decode cX2_init 55 = .ok (.bipush 14, 2) := by decide +kernel
theorem dX2_init_57 : decode cX2_init 57 = .ok (.newarray .int, 2) := by decide +kernel
theorem dX2_init_59 : decode cX2_init 59 = .ok (.putfield 30, 3) := by decide +kernel
theorem dX2_init_62 : decode cX2_init 62 = .ok (.return_, 1) := by decide +kernel
theorem dX2_clear_0 : decode cX2_clear 0 = .ok (.aload_n 0, 1) := by decide +kernel
theorem dX2_clear_1 : decode cX2_clear 1 = .ok (.iconst 0, 1) := by decide +kernel
theorem dX2_clear_2 : decode cX2_clear 2 = .ok (.putfield 33, 3) := by decide +kernel
theorem dX2_clear_5 : decode cX2_clear 5 = .ok (.aload_n 0, 1) := by decide +kernel
theorem dX2_clear_6 : decode cX2_clear 6 = .ok (.bipush 9, 2) := by decide +kernel
theorem dX2_clear_8 : decode cX2_clear 8 = .ok (.putfield 37, 3) := by decide +kernel
theorem dX2_clear_11 : decode cX2_clear 11 = .ok (.aload_n 0, 1) := by decide +kernel
theorem dX2_clear_12 : decode cX2_clear 12 = .ok (.iconst 0, 1) := by decide +kernel
theorem dX2_clear_13 : decode cX2_clear 13 = .ok (.putfield 40, 3) := by decide +kernel
theorem dX2_clear_16 : decode cX2_clear 16 = .ok (.aload_n 0, 1) := by decide +kernel
theorem dX2_clear_17 : decode cX2_clear 17 = .ok (.iconst 0, 1) := by decide +kernel
theorem dX2_clear_18 : decode cX2_clear 18 = .ok (.putfield 43, 3) := by decide +kernel
theorem dX2_clear_21 : decode cX2_clear 21 = .ok (.return_, 1) := by decide +kernel
theorem dX2_openPrice_0 : decode cX2_openPrice 0 = .ok (.aload_n 0, 1) := by decide +kernel
theorem dX2_openPrice_1 : decode cX2_openPrice 1 = .ok (.getfield 40, 3) := by decide +kernel
theorem dX2_openPrice_4 : decode cX2_openPrice 4 = .ok (.bipush 14, 2) := by decide +kernel
theorem dX2_openPrice_6 : decode cX2_openPrice 6 = .ok (.if_icmp .ge 16, 3) := by decide +kernel
theorem dX2_openPrice_9 : decode cX2_openPrice 9 = .ok (.aload_n 0, 1) := by decide +kernel
theorem dX2_openPrice_10 : decode cX2_openPrice 10 = .ok (.getfield 18, 3) := by decide +kernel
theorem dX2_openPrice_13 : decode cX2_openPrice 13 = .ok (.aload_n 0, 1) := by decide +kernel
theorem dX2_openPrice_14 : decode cX2_openPrice 14 = .ok (.getfield 40, 3) := by decide +kernel
theorem dX2_openPrice_17 : decode cX2_openPrice 17 = .ok (.aload_n 0, 1) := by decide +kernel
theorem dX2_openPrice_18 : decode cX2_openPrice 18 = .ok (.getfield 33, 3) := by decide +kernel
theorem dX2_openPrice_21 : decode cX2_openPrice 21 = .ok (.iastore, 1) := by decide +kernel
theorem dX2_openPrice_22 : decode cX2_openPrice 22 = .ok (.return_, 1) := by decide +kernel
theorem dX2_openCondition_0 : decode cX2_openCondition 0 = .ok (.aload_n 0, 1) := by decide +kernel
theorem dX2_openCondition_1 : decode cX2_openCondition 1 = .ok (.getfield 40, 3) := by decide +kernel
theorem dX2_openCondition_4 : decode cX2_openCondition 4 = .ok (.bipush 14, 2) := by decide +kernel
theorem dX2_openCondition_6 : decode cX2_openCondition 6 = .ok (.if_icmp .ge 16, 3) := by decide +kernel
theorem dX2_openCondition_9 : decode cX2_openCondition 9 = .ok (.aload_n 0, 1) := by decide +kernel
theorem dX2_openCondition_10 : decode cX2_openCondition 10 = .ok (.getfield 21, 3) := by decide +kernel
theorem dX2_openCondition_13 : decode cX2_openCondition 13 = .ok (.aload_n 0, 1) := by decide +kernel
theorem dX2_openCondition_14 : decode cX2_openCondition 14 = .ok (.getfield 40, 3) := by decide +kernel
theorem dX2_openCondition_17 : decode cX2_openCondition 17 = .ok (.aload_n 0, 1) := by decide +kernel
theorem dX2_openCondition_18 : decode cX2_openCondition 18 = .ok (.getfield 33, 3) := by decide +kernel
theorem dX2_openCondition_21 : decode cX2_openCondition 21 = .ok (.iastore, 1) := by decide +kernel
theorem dX2_openCondition_22 : decode cX2_openCondition 22 = .ok (.aload_n 0, 1) := by decide +kernel
theorem dX2_openCondition_23 : decode cX2_openCondition 23 = .ok (.iconst 0, 1) := by decide +kernel
theorem dX2_openCondition_24 : decode cX2_openCondition 24 = .ok (.putfield 46, 3) := by decide +kernel
theorem dX2_openCondition_27 : decode cX2_openCondition 27 = .ok (.return_, 1) := by decide +kernel
theorem dX2_closeClause_0 : decode cX2_closeClause 0 = .ok (.aload_n 0, 1) := by decide +kernel
theorem dX2_closeClause_1 : decode cX2_closeClause 1 = .ok (.getfield 40, 3) := by decide +kernel
theorem dX2_closeClause_4 : decode cX2_closeClause 4 = .ok (.bipush 14, 2) := by decide +kernel
theorem dX2_closeClause_6 : decode cX2_closeClause 6 = .ok (.if_icmp .ge 49, 3) := by decide +kernel
theorem dX2_closeClause_9 : decode cX2_closeClause 9 = .ok (.aload_n 0, 1) := by decide +kernel
theorem dX2_closeClause_10 : decode cX2_closeClause 10 = .ok (.getfield 24, 3) := by decide +kernel
theorem dX2_closeClause_13 : decode cX2_closeClause 13 = .ok (.aload_n 0, 1) := by decide +kernel
theorem dX2_closeClause_14 : decode cX2_closeClause 14 = .ok (.getfield 40, 3) := by decide +kernel
theorem dX2_closeClause_17 : decode cX2_closeClause 17 = .ok (.aload_n 0, 1) := by decide +kernel
theorem dX2_closeClause_18 : decode cX2_closeClause 18 = .ok (.getfield 33, 3) := by decide +kernel
theorem dX2_closeClause_21 : decode cX2_closeClause 21 = .ok (.iastore, 1) := by decide +kernel
theorem dX2_closeClause_22 : decode cX2_closeClause 22 = .ok (.aload_n 0, 1) := by decide +kernel
theorem dX2_closeClause_23 : decode cX2_closeClause 23 = .ok (.getfield 27, 3) := by decide +kernel
theorem dX2_closeClause_26 : decode cX2_closeClause 26 = .ok (.aload_n 0, 1) := by decide +kernel
theorem dX2_closeClause_27 : decode cX2_closeClause 27 = .ok (.getfield 40, 3) := by decide +kernel
theorem dX2_closeClause_30 : decode cX2_closeClause 30 = .ok (.iload_n 1, 1) := by decide +kernel
theorem dX2_closeClause_31 : decode cX2_closeClause 31 = .ok (.iastore, 1) := by decide +kernel
theorem dX2_closeClause_32 : decode cX2_closeClause 32 = .ok (.aload_n 0, 1) := by decide +kernel
theorem dX2_closeClause_33 : decode cX2_closeClause 33 = .ok (.getfield 30, 3) := by decide +kernel
theorem dX2_closeClause_36 : decode cX2_closeClause 36 = .ok (.aload_n 0, 1) := by decide +kernel
theorem dX2_closeClause_37 : decode cX2_closeClause 37 = .ok (.getfield 40, 3) := by decide +kernel
theorem dX2_closeClause_40 : decode cX2_closeClause 40 = .ok (.aload_n 0, 1) := by decide +kernel
theorem dX2_closeClause_41 : decode cX2_closeClause 41 = .ok (.getfield 46, 3) := by decide +kernel
theorem dX2_closeClause_44 : decode cX2_closeClause 44 = .ok (.iastore, 1) := by decide +kernel
theorem dX2_closeClause_45 : decode cX2_closeClause 45 = .ok (.aload_n 0, 1) := by decide +kernel
theorem dX2_closeClause_46 : decode cX2_closeClause 46 = .ok (.dup, 1) := by decide +kernel
theorem dX2_closeClause_47 : decode cX2_closeClause 47 = .ok (.getfield 40, 3) := by decide +kernel
theorem dX2_closeClause_50 : decode cX2_closeClause 50 = .ok (.iconst 1, 1) := by decide +kernel
theorem dX2_closeClause_51 : decode cX2_closeClause 51 = .ok (.iadd, 1) := by decide +kernel
theorem dX2_closeClause_52 : decode cX2_closeClause 52 = .ok (.putfield 40, 3) := by decide +kernel
theorem dX2_closeClause_55 : decode cX2_closeClause 55 = .ok (.iload_n 1, 1) := by decide +kernel
theorem dX2_closeClause_56 : decode cX2_closeClause 56 = .ok (.iconst (-1), 1) := by decide +kernel
theorem dX2_closeClause_57 : decode cX2_closeClause 57 = .ok (.if_icmp .ne 16, 3) := by decide +kernel
theorem dX2_closeClause_60 : decode cX2_closeClause 60 = .ok (.aload_n 0, 1) := by decide +kernel
theorem dX2_closeClause_61 : decode cX2_closeClause 61 = .ok (.dup, 1) := by decide +kernel
theorem dX2_closeClause_62 : decode cX2_closeClause 62 = .ok (.getfield 43, 3) := by decide +kernel
theorem dX2_closeClause_65 : decode cX2_closeClause 65 = .ok (.aload_n 0, 1) := by decide +kernel
theorem dX2_closeClause_66 : decode cX2_closeClause 66 = .ok (.getfield 46, 3) := by decide +kernel
theorem dX2_closeClause_69 : decode cX2_closeClause 69 = .ok (.ior, 1) := by decide +kernel
theorem dX2_closeClause_70 : decode cX2_closeClause 70 = .ok (.putfield 43, 3) := by decide +kernel
theorem dX2_closeClause_73 : decode cX2_closeClause 73 = .ok (.return_, 1) := by decide +kernel
theorem dX2_letter_0 : decode cX2_letter 0 = .ok (.aload_n 0, 1) := by decide +kernel
theorem dX2_letter_1 : decode cX2_letter 1 = .ok (.dup, 1) := by decide +kernel
theorem dX2_letter_2 : decode cX2_letter 2 = .ok (.getfield 46, 3) := by decide +kernel
theorem dX2_letter_5 : decode cX2_letter 5 = .ok (.iconst 1, 1) := by decide +kernel
theorem dX2_letter_6 : decode cX2_letter 6 = .ok (.iload_n 1, 1) := by decide +kernel
theorem dX2_letter_7 : decode cX2_letter 7 = .ok (.ishl, 1) := by decide +kernel
theorem dX2_letter_8 : decode cX2_letter 8 = .ok (.ior, 1) := by decide +kernel
theorem dX2_letter_9 : decode cX2_letter 9 = .ok (.putfield 46, 3) := by decide +kernel
theorem dX2_letter_12 : decode cX2_letter 12 = .ok (.iload_n 1, 1) := by decide +kernel
theorem dX2_letter_13 : decode cX2_letter 13 = .ok (.ireturn, 1) := by decide +kernel
theorem dX2_constant_0 : decode cX2_constant 0 = .ok (.aload_n 0, 1) := by decide +kernel
theorem dX2_constant_1 : decode cX2_constant 1 = .ok (.getfield 37, 3) := by decide +kernel
theorem dX2_constant_4 : decode cX2_constant 4 = .ok (.istore_n 2, 1) := by decide +kernel
theorem dX2_constant_5 : decode cX2_constant 5 = .ok (.iload_n 2, 1) := by decide +kernel
theorem dX2_constant_6 : decode cX2_constant 6 = .ok (.sipush 256, 3) := by decide +kernel
theorem dX2_constant_9 : decode cX2_constant 9 = .ok (.if_icmp .ge 20, 3) := by decide +kernel
theorem dX2_constant_12 : decode cX2_constant 12 = .ok (.aload_n 0, 1) := by decide +kernel
theorem dX2_constant_13 : decode cX2_constant 13 = .ok (.getfield 15, 3) := by decide +kernel
theorem dX2_constant_16 : decode cX2_constant 16 = .ok (.iload_n 2, 1) := by decide +kernel
theorem dX2_constant_17 : decode cX2_constant 17 = .ok (.iload_n 1, 1) := by decide +kernel
theorem dX2_constant_18 : decode cX2_constant 18 = .ok (.iastore, 1) := by decide +kernel
theorem dX2_constant_19 : decode cX2_constant 19 = .ok (.aload_n 0, 1) := by decide +kernel
theorem dX2_constant_20 : decode cX2_constant 20 = .ok (.dup, 1) := by decide +kernel
theorem dX2_constant_21 : decode cX2_constant 21 = .ok (.getfield 37, 3) := by decide +kernel
theorem dX2_constant_24 : decode cX2_constant 24 = .ok (.iconst 1, 1) := by decide +kernel
theorem dX2_constant_25 : decode cX2_constant 25 = .ok (.iadd, 1) := by decide +kernel
theorem dX2_constant_26 : decode cX2_constant 26 = .ok (.putfield 37, 3) := by decide +kernel
theorem dX2_constant_29 : decode cX2_constant 29 = .ok (.iload_n 2, 1) := by decide +kernel
theorem dX2_constant_30 : decode cX2_constant 30 = .ok (.ireturn, 1) := by decide +kernel
theorem dX2_emit_0 : decode cX2_emit 0 = .ok (.aload_n 0, 1) := by decide +kernel
theorem dX2_emit_1 : decode cX2_emit 1 = .ok (.getfield 37, 3) := by decide +kernel
theorem dX2_emit_4 : decode cX2_emit 4 = .ok (.istore 4, 2) := by decide +kernel
theorem dX2_emit_6 : decode cX2_emit 6 = .ok (.aload_n 0, 1) := by decide +kernel
theorem dX2_emit_7 : decode cX2_emit 7 = .ok (.getfield 33, 3) := by decide +kernel
theorem dX2_emit_10 : decode cX2_emit 10 = .ok (.sipush 256, 3) := by decide +kernel
theorem dX2_emit_13 : decode cX2_emit 13 = .ok (.if_icmp .ge 56, 3) := by decide +kernel
theorem dX2_emit_16 : decode cX2_emit 16 = .ok (.iload 4, 2) := by decide +kernel
theorem dX2_emit_18 : decode cX2_emit 18 = .ok (.sipush 256, 3) := by decide +kernel
theorem dX2_emit_21 : decode cX2_emit 21 = .ok (.if_icmp .ge 48, 3) := by decide +kernel
theorem dX2_emit_24 : decode cX2_emit 24 = .ok (.aload_n 0, 1) := by decide +kernel
theorem dX2_emit_25 : decode cX2_emit 25 = .ok (.getfield 11, 3) := by decide +kernel
theorem dX2_emit_28 : decode cX2_emit 28 = .ok (.aload_n 0, 1) := by decide +kernel
theorem dX2_emit_29 : decode cX2_emit 29 = .ok (.getfield 33, 3) := by decide +kernel
theorem dX2_emit_32 : decode cX2_emit 32 = .ok (.iload_n 1, 1) := by decide +kernel
theorem dX2_emit_33 : decode cX2_emit 33 = .ok (.iload_n 2, 1) := by decide +kernel
theorem dX2_emit_34 : decode cX2_emit 34 = .ok (.iconst 4, 1) := by decide +kernel
theorem dX2_emit_35 : decode cX2_emit 35 = .ok (.ishl, 1) := by decide +kernel
theorem dX2_emit_36 : decode cX2_emit 36 = .ok (.ior, 1) := by decide +kernel
theorem dX2_emit_37 : decode cX2_emit 37 = .ok (.iload_n 3, 1) := by decide +kernel
theorem dX2_emit_38 : decode cX2_emit 38 = .ok (.bipush 12, 2) := by decide +kernel
theorem dX2_emit_40 : decode cX2_emit 40 = .ok (.ishl, 1) := by decide +kernel
theorem dX2_emit_41 : decode cX2_emit 41 = .ok (.ior, 1) := by decide +kernel
theorem dX2_emit_42 : decode cX2_emit 42 = .ok (.iload 4, 2) := by decide +kernel
theorem dX2_emit_44 : decode cX2_emit 44 = .ok (.bipush 20, 2) := by decide +kernel
theorem dX2_emit_46 : decode cX2_emit 46 = .ok (.ishl, 1) := by decide +kernel
theorem dX2_emit_47 : decode cX2_emit 47 = .ok (.ior, 1) := by decide +kernel
theorem dX2_emit_48 : decode cX2_emit 48 = .ok (.iastore, 1) := by decide +kernel
theorem dX2_emit_49 : decode cX2_emit 49 = .ok (.aload_n 0, 1) := by decide +kernel
theorem dX2_emit_50 : decode cX2_emit 50 = .ok (.dup, 1) := by decide +kernel
theorem dX2_emit_51 : decode cX2_emit 51 = .ok (.getfield 33, 3) := by decide +kernel
theorem dX2_emit_54 : decode cX2_emit 54 = .ok (.iconst 1, 1) := by decide +kernel
theorem dX2_emit_55 : decode cX2_emit 55 = .ok (.iadd, 1) := by decide +kernel
theorem dX2_emit_56 : decode cX2_emit 56 = .ok (.putfield 33, 3) := by decide +kernel
theorem dX2_emit_59 : decode cX2_emit 59 = .ok (.aload_n 0, 1) := by decide +kernel
theorem dX2_emit_60 : decode cX2_emit 60 = .ok (.dup, 1) := by decide +kernel
theorem dX2_emit_61 : decode cX2_emit 61 = .ok (.getfield 37, 3) := by decide +kernel
theorem dX2_emit_64 : decode cX2_emit 64 = .ok (.iconst 1, 1) := by decide +kernel
theorem dX2_emit_65 : decode cX2_emit 65 = .ok (.iadd, 1) := by decide +kernel
theorem dX2_emit_66 : decode cX2_emit 66 = .ok (.putfield 37, 3) := by decide +kernel
theorem dX2_emit_69 : decode cX2_emit 69 = .ok (.iload 4, 2) := by decide +kernel
theorem dX2_emit_71 : decode cX2_emit 71 = .ok (.ireturn, 1) := by decide +kernel
theorem dX2_jump_0 : decode cX2_jump 0 = .ok (.aload_n 0, 1) := by decide +kernel
theorem dX2_jump_1 : decode cX2_jump 1 = .ok (.getfield 33, 3) := by decide +kernel
theorem dX2_jump_4 : decode cX2_jump 4 = .ok (.istore_n 3, 1) := by decide +kernel
theorem dX2_jump_5 : decode cX2_jump 5 = .ok (.iload_n 3, 1) := by decide +kernel
theorem dX2_jump_6 : decode cX2_jump 6 = .ok (.sipush 256, 3) := by decide +kernel
theorem dX2_jump_9 : decode cX2_jump 9 = .ok (.if_icmp .ge 26, 3) := by decide +kernel
theorem dX2_jump_12 : decode cX2_jump 12 = .ok (.aload_n 0, 1) := by decide +kernel
theorem dX2_jump_13 : decode cX2_jump 13 = .ok (.getfield 11, 3) := by decide +kernel
theorem dX2_jump_16 : decode cX2_jump 16 = .ok (.iload_n 3, 1) := by decide +kernel
theorem dX2_jump_17 : decode cX2_jump 17 = .ok (.iload_n 1, 1) := by decide +kernel
theorem dX2_jump_18 : decode cX2_jump 18 = .ok (.iload_n 2, 1) := by decide +kernel
theorem dX2_jump_19 : decode cX2_jump 19 = .ok (.iconst 1, 1) := by decide +kernel
theorem dX2_jump_20 : decode cX2_jump 20 = .ok (.iadd, 1) := by decide +kernel
theorem dX2_jump_21 : decode cX2_jump 21 = .ok (.iconst 4, 1) := by decide +kernel
theorem dX2_jump_22 : decode cX2_jump 22 = .ok (.ishl, 1) := by decide +kernel
theorem dX2_jump_23 : decode cX2_jump 23 = .ok (.ior, 1) := by decide +kernel
theorem dX2_jump_24 : decode cX2_jump 24 = .ok (.iastore, 1) := by decide +kernel
theorem dX2_jump_25 : decode cX2_jump 25 = .ok (.aload_n 0, 1) := by decide +kernel
theorem dX2_jump_26 : decode cX2_jump 26 = .ok (.dup, 1) := by decide +kernel
theorem dX2_jump_27 : decode cX2_jump 27 = .ok (.getfield 33, 3) := by decide +kernel
theorem dX2_jump_30 : decode cX2_jump 30 = .ok (.iconst 1, 1) := by decide +kernel
theorem dX2_jump_31 : decode cX2_jump 31 = .ok (.iadd, 1) := by decide +kernel
theorem dX2_jump_32 : decode cX2_jump 32 = .ok (.putfield 33, 3) := by decide +kernel
theorem dX2_jump_35 : decode cX2_jump 35 = .ok (.iload_n 3, 1) := by decide +kernel
theorem dX2_jump_36 : decode cX2_jump 36 = .ok (.ireturn, 1) := by decide +kernel
theorem dX2_land_0 : decode cX2_land 0 = .ok (.iload_n 1, 1) := by decide +kernel
theorem dX2_land_1 : decode cX2_land 1 = .ok (.istore_n 2, 1) := by decide +kernel
theorem dX2_land_2 : decode cX2_land 2 = .ok (.iconst 0, 1) := by decide +kernel
theorem dX2_land_3 : decode cX2_land 3 = .ok (.istore_n 3, 1) := by decide +kernel
theorem dX2_land_4 : decode cX2_land 4 = .ok (.iload_n 3, 1) := by decide +kernel
theorem dX2_land_5 : decode cX2_land 5 = .ok (.sipush 256, 3) := by decide +kernel
theorem dX2_land_8 : decode cX2_land 8 = .ok (.if_icmp .ge 57, 3) := by decide +kernel
theorem dX2_land_11 : decode cX2_land 11 = .ok (.iload_n 2, 1) := by decide +kernel
theorem dX2_land_12 : decode cX2_land 12 = .ok (.ifCond .lt 53, 3) := by decide +kernel
theorem dX2_land_15 : decode cX2_land 15 = .ok (.iload_n 2, 1) := by decide +kernel
theorem dX2_land_16 : decode cX2_land 16 = .ok (.sipush 256, 3) := by decide +kernel
theorem dX2_land_19 : decode cX2_land 19 = .ok (.if_icmp .ge 46, 3) := by decide +kernel
theorem dX2_land_22 : decode cX2_land 22 = .ok (.aload_n 0, 1) := by decide +kernel
theorem dX2_land_23 : decode cX2_land 23 = .ok (.getfield 11, 3) := by decide +kernel
theorem dX2_land_26 : decode cX2_land 26 = .ok (.iload_n 2, 1) := by decide +kernel
theorem dX2_land_27 : decode cX2_land 27 = .ok (.iaload, 1) := by decide +kernel
theorem dX2_land_28 : decode cX2_land 28 = .ok (.iconst 4, 1) := by decide +kernel
theorem dX2_land_29 : decode cX2_land 29 = .ok (.ishr, 1) := by decide +kernel
theorem dX2_land_30 : decode cX2_land 30 = .ok (.iconst 1, 1) := by decide +kernel
theorem dX2_land_31 : decode cX2_land 31 = .ok (.isub, 1) := by decide +kernel
theorem dX2_land_32 : decode cX2_land 32 = .ok (.istore 4, 2) := by decide +kernel
theorem dX2_land_34 : decode cX2_land 34 = .ok (.aload_n 0, 1) := by decide +kernel
theorem dX2_land_35 : decode cX2_land 35 = .ok (.getfield 11, 3) := by decide +kernel
theorem dX2_land_38 : decode cX2_land 38 = .ok (.iload_n 2, 1) := by decide +kernel
theorem dX2_land_39 : decode cX2_land 39 = .ok (.aload_n 0, 1) := by decide +kernel
theorem dX2_land_40 : decode cX2_land 40 = .ok (.getfield 11, 3) := by decide +kernel
theorem dX2_land_43 : decode cX2_land 43 = .ok (.iload_n 2, 1) := by decide +kernel
theorem dX2_land_44 : decode cX2_land 44 = .ok (.iaload, 1) := by decide +kernel
theorem dX2_land_45 : decode cX2_land 45 = .ok (.bipush 15, 2) := by decide +kernel
theorem dX2_land_47 : decode cX2_land 47 = .ok (.iand, 1) := by decide +kernel
theorem dX2_land_48 : decode cX2_land 48 = .ok (.aload_n 0, 1) := by decide +kernel
theorem dX2_land_49 : decode cX2_land 49 = .ok (.getfield 33, 3) := by decide +kernel
theorem dX2_land_52 : decode cX2_land 52 = .ok (.iconst 4, 1) := by decide +kernel
theorem dX2_land_53 : decode cX2_land 53 = .ok (.ishl, 1) := by decide +kernel
theorem dX2_land_54 : decode cX2_land 54 = .ok (.ior, 1) := by decide +kernel
theorem dX2_land_55 : decode cX2_land 55 = .ok (.iastore, 1) := by decide +kernel
theorem dX2_land_56 : decode cX2_land 56 = .ok (.iload 4, 2) := by decide +kernel
theorem dX2_land_58 : decode cX2_land 58 = .ok (.istore_n 2, 1) := by decide +kernel
theorem dX2_land_59 : decode cX2_land 59 = .ok (.iinc 3 1, 3) := by decide +kernel
theorem dX2_land_62 : decode cX2_land 62 = .ok (.goto (-58), 3) := by decide +kernel
theorem dX2_land_65 : decode cX2_land 65 = .ok (.return_, 1) := by decide +kernel
theorem dX2_run_0 : decode cX2_run 0 = .ok (.iconst 0, 1) := by decide +kernel
theorem dX2_run_1 : decode cX2_run 1 = .ok (.istore_n 3, 1) := by decide +kernel
theorem dX2_run_2 : decode cX2_run 2 = .ok (.iload_n 1, 1) := by decide +kernel
theorem dX2_run_3 : decode cX2_run 3 = .ok (.istore 4, 2) := by decide +kernel
theorem dX2_run_5 : decode cX2_run 5 = .ok (.iconst 0, 1) := by decide +kernel
theorem dX2_run_6 : decode cX2_run 6 = .ok (.istore 5, 2) := by decide +kernel
theorem dX2_run_8 : decode cX2_run 8 = .ok (.iload 5, 2) := by decide +kernel
theorem dX2_run_10 : decode cX2_run 10 = .ok (.sipush 256, 3) := by decide +kernel
theorem dX2_run_13 : decode cX2_run 13 = .ok (.if_icmp .ge 327, 3) := by decide +kernel
theorem dX2_run_16 : decode cX2_run 16 = .ok (.iload 4, 2) := by decide +kernel
theorem dX2_run_18 : decode cX2_run 18 = .ok (.ifCond .lt 322, 3) := by decide +kernel
theorem dX2_run_21 : decode cX2_run 21 = .ok (.iload 4, 2) := by decide +kernel
theorem dX2_run_23 : decode cX2_run 23 = .ok (.iload_n 2, 1) := by decide +kernel
theorem dX2_run_24 : decode cX2_run 24 = .ok (.if_icmp .ge 316, 3) := by decide +kernel
theorem dX2_run_27 : decode cX2_run 27 = .ok (.iload 4, 2) := by decide +kernel
theorem dX2_run_29 : decode cX2_run 29 = .ok (.sipush 256, 3) := by decide +kernel
theorem dX2_run_32 : decode cX2_run 32 = .ok (.if_icmp .ge 308, 3) := by decide +kernel
theorem dX2_run_35 : decode cX2_run 35 = .ok (.aload_n 0, 1) := by decide +kernel
theorem dX2_run_36 : decode cX2_run 36 = .ok (.getfield 11, 3) := by decide +kernel
theorem dX2_run_39 : decode cX2_run 39 = .ok (.iload 4, 2) := by decide +kernel
theorem dX2_run_41 : decode cX2_run 41 = .ok (.iaload, 1) := by decide +kernel
theorem dX2_run_42 : decode cX2_run 42 = .ok (.istore 6, 2) := by decide +kernel
theorem dX2_run_44 : decode cX2_run 44 = .ok (.aload_n 0, 1) := by decide +kernel
theorem dX2_run_45 : decode cX2_run 45 = .ok (.getfield 15, 3) := by decide +kernel
theorem dX2_run_48 : decode cX2_run 48 = .ok (.iload 6, 2) := by decide +kernel
theorem dX2_run_50 : decode cX2_run 50 = .ok (.iconst 4, 1) := by decide +kernel
theorem dX2_run_51 : decode cX2_run 51 = .ok (.ishr, 1) := by decide +kernel
theorem dX2_run_52 : decode cX2_run 52 = .ok (.sipush 255, 3) := by decide +kernel
theorem dX2_run_55 : decode cX2_run 55 = .ok (.iand, 1) := by decide +kernel
theorem dX2_run_56 : decode cX2_run 56 = .ok (.iaload, 1) := by decide +kernel
theorem dX2_run_57 : decode cX2_run 57 = .ok (.istore 7, 2) := by decide +kernel
theorem dX2_run_59 : decode cX2_run 59 = .ok (.aload_n 0, 1) := by decide +kernel
theorem dX2_run_60 : decode cX2_run 60 = .ok (.getfield 15, 3) := by decide +kernel
theorem dX2_run_63 : decode cX2_run 63 = .ok (.iload 6, 2) := by decide +kernel
theorem dX2_run_65 : decode cX2_run 65 = .ok (.bipush 12, 2) := by decide +kernel
theorem dX2_run_67 : decode cX2_run 67 = .ok (.ishr, 1) := by decide +kernel
theorem dX2_run_68 : decode cX2_run 68 = .ok (.sipush 255, 3) := by decide +kernel
theorem dX2_run_71 : decode cX2_run 71 = .ok (.iand, 1) := by decide +kernel
theorem dX2_run_72 : decode cX2_run 72 = .ok (.iaload, 1) := by decide +kernel
theorem dX2_run_73 : decode cX2_run 73 = .ok (.istore 8, 2) := by decide +kernel
theorem dX2_run_75 : decode cX2_run 75 = .ok (.iload 6, 2) := by decide +kernel
theorem dX2_run_77 : decode cX2_run 77 = .ok (.bipush 20, 2) := by decide +kernel
theorem dX2_run_79 : decode cX2_run 79 = .ok (.ishr, 1) := by decide +kernel
theorem dX2_run_80 : decode cX2_run 80 = .ok (.sipush 255, 3) := by decide +kernel
theorem dX2_run_83 : decode cX2_run 83 = .ok (.iand, 1) := by decide +kernel
theorem dX2_run_84 : decode cX2_run 84 = .ok (.istore 9, 2) := by decide +kernel
theorem dX2_run_86 : decode cX2_run 86 = .ok (.iinc 4 1, 3) := by decide +kernel
theorem dX2_run_89 : decode cX2_run 89 = .ok (.iload 6, 2) := by decide +kernel
theorem dX2_run_91 : decode cX2_run 91 = .ok (.bipush 15, 2) := by decide +kernel
theorem dX2_run_93 : decode cX2_run 93 = .ok (.iand, 1) := by decide +kernel
theorem dX2_run_94 : decode cX2_run 94 = .ok (.tableswitch 224 1 10 #[54, 69, 84, 99, 121, 143, 159, 175, 191, 205], 54) := by decide +kernel
theorem dX2_run_148 : decode cX2_run 148 = .ok (.aload_n 0, 1) := by decide +kernel
theorem dX2_run_149 : decode cX2_run 149 = .ok (.getfield 15, 3) := by decide +kernel
theorem dX2_run_152 : decode cX2_run 152 = .ok (.iload 9, 2) := by decide +kernel
theorem dX2_run_154 : decode cX2_run 154 = .ok (.iload 7, 2) := by decide +kernel
theorem dX2_run_156 : decode cX2_run 156 = .ok (.iload 8, 2) := by decide +kernel
theorem dX2_run_158 : decode cX2_run 158 = .ok (.iadd, 1) := by decide +kernel
theorem dX2_run_159 : decode cX2_run 159 = .ok (.iastore, 1) := by decide +kernel
theorem dX2_run_160 : decode cX2_run 160 = .ok (.goto 174, 3) := by decide +kernel
theorem dX2_run_163 : decode cX2_run 163 = .ok (.aload_n 0, 1) := by decide +kernel
theorem dX2_run_164 : decode cX2_run 164 = .ok (.getfield 15, 3) := by decide +kernel
theorem dX2_run_167 : decode cX2_run 167 = .ok (.iload 9, 2) := by decide +kernel
theorem dX2_run_169 : decode cX2_run 169 = .ok (.iload 7, 2) := by decide +kernel
theorem dX2_run_171 : decode cX2_run 171 = .ok (.iload 8, 2) := by decide +kernel
theorem dX2_run_173 : decode cX2_run 173 = .ok (.isub, 1) := by decide +kernel
theorem dX2_run_174 : decode cX2_run 174 = .ok (.iastore, 1) := by decide +kernel
theorem dX2_run_175 : decode cX2_run 175 = .ok (.goto 159, 3) := by decide +kernel
theorem dX2_run_178 : decode cX2_run 178 = .ok (.aload_n 0, 1) := by decide +kernel
theorem dX2_run_179 : decode cX2_run 179 = .ok (.getfield 15, 3) := by decide +kernel
theorem dX2_run_182 : decode cX2_run 182 = .ok (.iload 9, 2) := by decide +kernel
theorem dX2_run_184 : decode cX2_run 184 = .ok (.iload 7, 2) := by decide +kernel
theorem dX2_run_186 : decode cX2_run 186 = .ok (.iload 8, 2) := by decide +kernel
theorem dX2_run_188 : decode cX2_run 188 = .ok (.imul, 1) := by decide +kernel
theorem dX2_run_189 : decode cX2_run 189 = .ok (.iastore, 1) := by decide +kernel
theorem dX2_run_190 : decode cX2_run 190 = .ok (.goto 144, 3) := by decide +kernel
theorem dX2_run_193 : decode cX2_run 193 = .ok (.iload 8, 2) := by decide +kernel
theorem dX2_run_195 : decode cX2_run 195 = .ok (.ifCond .ne 5, 3) := by decide +kernel
theorem dX2_run_198 : decode cX2_run 198 = .ok (.iconst (-1), 1) := by decide +kernel
theorem dX2_run_199 : decode cX2_run 199 = .ok (.ireturn, 1) := by decide +kernel
theorem dX2_run_200 : decode cX2_run 200 = .ok (.aload_n 0, 1) := by decide +kernel
theorem dX2_run_201 : decode cX2_run 201 = .ok (.getfield 15, 3) := by decide +kernel
theorem dX2_run_204 : decode cX2_run 204 = .ok (.iload 9, 2) := by decide +kernel
theorem dX2_run_206 : decode cX2_run 206 = .ok (.iload 7, 2) := by decide +kernel
theorem dX2_run_208 : decode cX2_run 208 = .ok (.iload 8, 2) := by decide +kernel
theorem dX2_run_210 : decode cX2_run 210 = .ok (.idiv, 1) := by decide +kernel
theorem dX2_run_211 : decode cX2_run 211 = .ok (.iastore, 1) := by decide +kernel
theorem dX2_run_212 : decode cX2_run 212 = .ok (.goto 122, 3) := by decide +kernel
theorem dX2_run_215 : decode cX2_run 215 = .ok (.iload 8, 2) := by decide +kernel
theorem dX2_run_217 : decode cX2_run 217 = .ok (.ifCond .ne 5, 3) := by decide +kernel
theorem dX2_run_220 : decode cX2_run 220 = .ok (.iconst (-1), 1) := by decide +kernel
theorem dX2_run_221 : decode cX2_run 221 = .ok (.ireturn, 1) := by decide +kernel
theorem dX2_run_222 : decode cX2_run 222 = .ok (.aload_n 0, 1) := by decide +kernel
theorem dX2_run_223 : decode cX2_run 223 = .ok (.getfield 15, 3) := by decide +kernel
theorem dX2_run_226 : decode cX2_run 226 = .ok (.iload 9, 2) := by decide +kernel
theorem dX2_run_228 : decode cX2_run 228 = .ok (.iload 7, 2) := by decide +kernel
theorem dX2_run_230 : decode cX2_run 230 = .ok (.iload 8, 2) := by decide +kernel
theorem dX2_run_232 : decode cX2_run 232 = .ok (.irem, 1) := by decide +kernel
theorem dX2_run_233 : decode cX2_run 233 = .ok (.iastore, 1) := by decide +kernel
theorem dX2_run_234 : decode cX2_run 234 = .ok (.goto 100, 3) := by decide +kernel
theorem dX2_run_237 : decode cX2_run 237 = .ok (.iload 7, 2) := by decide +kernel
theorem dX2_run_239 : decode cX2_run 239 = .ok (.iload 8, 2) := by decide +kernel
theorem dX2_run_241 : decode cX2_run 241 = .ok (.if_icmp .ge 7, 3) := by decide +kernel
theorem dX2_run_244 : decode cX2_run 244 = .ok (.iconst 1, 1) := by decide +kernel
theorem dX2_run_245 : decode cX2_run 245 = .ok (.goto 4, 3) := by decide +kernel
theorem dX2_run_248 : decode cX2_run 248 = .ok (.iconst 0, 1) := by decide +kernel
theorem dX2_run_249 : decode cX2_run 249 = .ok (.istore_n 3, 1) := by decide +kernel
theorem dX2_run_250 : decode cX2_run 250 = .ok (.goto 84, 3) := by decide +kernel
theorem dX2_run_253 : decode cX2_run 253 = .ok (.iload 7, 2) := by decide +kernel
theorem dX2_run_255 : decode cX2_run 255 = .ok (.iload 8, 2) := by decide +kernel
theorem dX2_run_257 : decode cX2_run 257 = .ok (.if_icmp .le 7, 3) := by decide +kernel
theorem dX2_run_260 : decode cX2_run 260 = .ok (.iconst 1, 1) := by decide +kernel
theorem dX2_run_261 : decode cX2_run 261 = .ok (.goto 4, 3) := by decide +kernel
theorem dX2_run_264 : decode cX2_run 264 = .ok (.iconst 0, 1) := by decide +kernel
theorem dX2_run_265 : decode cX2_run 265 = .ok (.istore_n 3, 1) := by decide +kernel
theorem dX2_run_266 : decode cX2_run 266 = .ok (.goto 68, 3) := by decide +kernel
theorem dX2_run_269 : decode cX2_run 269 = .ok (.iload 7, 2) := by decide +kernel
theorem dX2_run_271 : decode cX2_run 271 = .ok (.iload 8, 2) := by decide +kernel
theorem dX2_run_273 : decode cX2_run 273 = .ok (.if_icmp .ne 7, 3) := by decide +kernel
theorem dX2_run_276 : decode cX2_run 276 = .ok (.iconst 1, 1) := by decide +kernel
theorem dX2_run_277 : decode cX2_run 277 = .ok (.goto 4, 3) := by decide +kernel
theorem dX2_run_280 : decode cX2_run 280 = .ok (.iconst 0, 1) := by decide +kernel
theorem dX2_run_281 : decode cX2_run 281 = .ok (.istore_n 3, 1) := by decide +kernel
theorem dX2_run_282 : decode cX2_run 282 = .ok (.goto 52, 3) := by decide +kernel
theorem dX2_run_285 : decode cX2_run 285 = .ok (.iload_n 3, 1) := by decide +kernel
theorem dX2_run_286 : decode cX2_run 286 = .ok (.iconst 1, 1) := by decide +kernel
theorem dX2_run_287 : decode cX2_run 287 = .ok (.if_icmp .ne 7, 3) := by decide +kernel
theorem dX2_run_290 : decode cX2_run 290 = .ok (.iconst 0, 1) := by decide +kernel
theorem dX2_run_291 : decode cX2_run 291 = .ok (.goto 4, 3) := by decide +kernel
theorem dX2_run_294 : decode cX2_run 294 = .ok (.iconst 1, 1) := by decide +kernel
theorem dX2_run_295 : decode cX2_run 295 = .ok (.istore_n 3, 1) := by decide +kernel
theorem dX2_run_296 : decode cX2_run 296 = .ok (.goto 38, 3) := by decide +kernel
theorem dX2_run_299 : decode cX2_run 299 = .ok (.iload_n 3, 1) := by decide +kernel
theorem dX2_run_300 : decode cX2_run 300 = .ok (.iconst 1, 1) := by decide +kernel
theorem dX2_run_301 : decode cX2_run 301 = .ok (.if_icmp .ne 10, 3) := by decide +kernel
theorem dX2_run_304 : decode cX2_run 304 = .ok (.iload 6, 2) := by decide +kernel
theorem dX2_run_306 : decode cX2_run 306 = .ok (.iconst 4, 1) := by decide +kernel
theorem dX2_run_307 : decode cX2_run 307 = .ok (.ishr, 1) := by decide +kernel
theorem dX2_run_308 : decode cX2_run 308 = .ok (.goto 5, 3) := by decide +kernel
theorem dX2_run_311 : decode cX2_run 311 = .ok (.iload 4, 2) := by decide +kernel
theorem dX2_run_313 : decode cX2_run 313 = .ok (.istore 4, 2) := by decide +kernel
theorem dX2_run_315 : decode cX2_run 315 = .ok (.goto 19, 3) := by decide +kernel
theorem dX2_run_318 : decode cX2_run 318 = .ok (.iload_n 3, 1) := by decide +kernel
theorem dX2_run_319 : decode cX2_run 319 = .ok (.iconst 1, 1) := by decide +kernel
theorem dX2_run_320 : decode cX2_run 320 = .ok (.if_icmp .ne 8, 3) := by decide +kernel
theorem dX2_run_323 : decode cX2_run 323 = .ok (.iload 4, 2) := by decide +kernel
theorem dX2_run_325 : decode cX2_run 325 = .ok (.goto 7, 3) := by decide +kernel
theorem dX2_run_328 : decode cX2_run 328 = .ok (.iload 6, 2) := by decide +kernel
theorem dX2_run_330 : decode cX2_run 330 = .ok (.iconst 4, 1) := by decide +kernel
theorem dX2_run_331 : decode cX2_run 331 = .ok (.ishr, 1) := by decide +kernel
theorem dX2_run_332 : decode cX2_run 332 = .ok (.istore 4, 2) := by decide +kernel
theorem dX2_run_334 : decode cX2_run 334 = .ok (.iinc 5 1, 3) := by decide +kernel
theorem dX2_run_337 : decode cX2_run 337 = .ok (.goto (-329), 3) := by decide +kernel
theorem dX2_run_340 : decode cX2_run 340 = .ok (.iload_n 3, 1) := by decide +kernel
theorem dX2_run_341 : decode cX2_run 341 = .ok (.ireturn, 1) := by decide +kernel
theorem dX2_allowed_0 : decode cX2_allowed 0 = .ok (.aload_n 1, 1) := by decide +kernel
theorem dX2_allowed_1 : decode cX2_allowed 1 = .ok (.iconst 0, 1) := by decide +kernel
theorem dX2_allowed_2 : decode cX2_allowed 2 = .ok (.aload_n 0, 1) := by decide +kernel
theorem dX2_allowed_3 : decode cX2_allowed 3 = .ok (.getfield 15, 3) := by decide +kernel
theorem dX2_allowed_6 : decode cX2_allowed 6 = .ok (.iconst 0, 1) := by decide +kernel
theorem dX2_allowed_7 : decode cX2_allowed 7 = .ok (.bipush 9, 2) := by decide +kernel
theorem dX2_allowed_9 : decode cX2_allowed 9 = .ok (.invokestatic 49, 3) := by decide +kernel
theorem dX2_allowed_12 : decode cX2_allowed 12 = .ok (.iload_n 2, 1) := by decide +kernel
theorem dX2_allowed_13 : decode cX2_allowed 13 = .ok (.istore_n 3, 1) := by decide +kernel
theorem dX2_allowed_14 : decode cX2_allowed 14 = .ok (.iconst 0, 1) := by decide +kernel
theorem dX2_allowed_15 : decode cX2_allowed 15 = .ok (.istore 4, 2) := by decide +kernel
theorem dX2_allowed_17 : decode cX2_allowed 17 = .ok (.iload 4, 2) := by decide +kernel
theorem dX2_allowed_19 : decode cX2_allowed 19 = .ok (.aload_n 0, 1) := by decide +kernel
theorem dX2_allowed_20 : decode cX2_allowed 20 = .ok (.getfield 40, 3) := by decide +kernel
theorem dX2_allowed_23 : decode cX2_allowed 23 = .ok (.if_icmp .ge 165, 3) := by decide +kernel
theorem dX2_allowed_26 : decode cX2_allowed 26 = .ok (.iload 4, 2) := by decide +kernel
theorem dX2_allowed_28 : decode cX2_allowed 28 = .ok (.bipush 14, 2) := by decide +kernel
theorem dX2_allowed_30 : decode cX2_allowed 30 = .ok (.if_icmp .ge 158, 3) := by decide +kernel
theorem dX2_allowed_33 : decode cX2_allowed 33 = .ok (.iload_n 3, 1) := by decide +kernel
theorem dX2_allowed_34 : decode cX2_allowed 34 = .ok (.ifCond .eq 154, 3) := by decide +kernel
theorem dX2_allowed_37 : decode cX2_allowed 37 = .ok (.aload_n 0, 1) := by decide +kernel
theorem dX2_allowed_38 : decode cX2_allowed 38 = .ok (.getfield 27, 3) := by decide +kernel
theorem dX2_allowed_41 : decode cX2_allowed 41 = .ok (.iload 4, 2) := by decide +kernel
theorem dX2_allowed_43 : decode cX2_allowed 43 = .ok (.iaload, 1) := by decide +kernel
theorem dX2_allowed_44 : decode cX2_allowed 44 = .ok (.iconst (-1), 1) := by decide +kernel
theorem dX2_allowed_45 : decode cX2_allowed 45 = .ok (.if_icmp .ne 7, 3) := by decide +kernel
theorem dX2_allowed_48 : decode cX2_allowed 48 = .ok (.iconst 1, 1) := by decide +kernel
theorem dX2_allowed_49 : decode cX2_allowed 49 = .ok (.goto 4, 3) := by decide +kernel
theorem dX2_allowed_52 : decode cX2_allowed 52 = .ok (.iconst 0, 1) := by decide +kernel
theorem dX2_allowed_53 : decode cX2_allowed 53 = .ok (.istore 5, 2) := by decide +kernel
theorem dX2_allowed_55 : decode cX2_allowed 55 = .ok (.aload_n 0, 1) := by decide +kernel
theorem dX2_allowed_56 : decode cX2_allowed 56 = .ok (.getfield 30, 3) := by decide +kernel
theorem dX2_allowed_59 : decode cX2_allowed 59 = .ok (.iload 4, 2) := by decide +kernel
theorem dX2_allowed_61 : decode cX2_allowed 61 = .ok (.iaload, 1) := by decide +kernel
theorem dX2_allowed_62 : decode cX2_allowed 62 = .ok (.iconst 1, 1) := by decide +kernel
theorem dX2_allowed_63 : decode cX2_allowed 63 = .ok (.iand, 1) := by decide +kernel
theorem dX2_allowed_64 : decode cX2_allowed 64 = .ok (.ifCond .eq 7, 3) := by decide +kernel
theorem dX2_allowed_67 : decode cX2_allowed 67 = .ok (.iconst 1, 1) := by decide +kernel
theorem dX2_allowed_68 : decode cX2_allowed 68 = .ok (.goto 4, 3) := by decide +kernel
theorem dX2_allowed_71 : decode cX2_allowed 71 = .ok (.iconst 0, 1) := by decide +kernel
theorem dX2_allowed_72 : decode cX2_allowed 72 = .ok (.istore 6, 2) := by decide +kernel
theorem dX2_allowed_74 : decode cX2_allowed 74 = .ok (.iload 5, 2) := by decide +kernel
theorem dX2_allowed_76 : decode cX2_allowed 76 = .ok (.ifCond .eq 32, 3) := by decide +kernel
theorem dX2_allowed_79 : decode cX2_allowed 79 = .ok (.iload 6, 2) := by decide +kernel
theorem dX2_allowed_81 : decode cX2_allowed 81 = .ok (.ifCond .ne 27, 3) := by decide +kernel
theorem dX2_allowed_84 : decode cX2_allowed 84 = .ok (.aload_n 0, 1) := by decide +kernel
theorem dX2_allowed_85 : decode cX2_allowed 85 = .ok (.aload_n 0, 1) := by decide +kernel
theorem dX2_allowed_86 : decode cX2_allowed 86 = .ok (.getfield 21, 3) := by decide +kernel
theorem dX2_allowed_89 : decode cX2_allowed 89 = .ok (.iload 4, 2) := by decide +kernel
theorem dX2_allowed_91 : decode cX2_allowed 91 = .ok (.iaload, 1) := by decide +kernel
theorem dX2_allowed_92 : decode cX2_allowed 92 = .ok (.aload_n 0, 1) := by decide +kernel
theorem dX2_allowed_93 : decode cX2_allowed 93 = .ok (.getfield 24, 3) := by decide +kernel
theorem dX2_allowed_96 : decode cX2_allowed 96 = .ok (.iload 4, 2) := by decide +kernel
theorem dX2_allowed_98 : decode cX2_allowed 98 = .ok (.iaload, 1) := by decide +kernel
theorem dX2_allowed_99 : decode cX2_allowed 99 = .ok (.invokevirtual 55, 3) := by decide +kernel
theorem dX2_allowed_102 : decode cX2_allowed 102 = .ok (.iconst 1, 1) := by decide +kernel
theorem dX2_allowed_103 : decode cX2_allowed 103 = .ok (.if_icmp .ne 5, 3) := by decide +kernel
theorem dX2_allowed_106 : decode cX2_allowed 106 = .ok (.iconst 0, 1) := by decide +kernel
theorem dX2_allowed_107 : decode cX2_allowed 107 = .ok (.istore_n 3, 1) := by decide +kernel
theorem dX2_allowed_108 : decode cX2_allowed 108 = .ok (.iconst 1, 1) := by decide +kernel
theorem dX2_allowed_109 : decode cX2_allowed 109 = .ok (.istore 7, 2) := by decide +kernel
theorem dX2_allowed_111 : decode cX2_allowed 111 = .ok (.iload 5, 2) := by decide +kernel
theorem dX2_allowed_113 : decode cX2_allowed 113 = .ok (.ifCond .eq 69, 3) := by decide +kernel
theorem dX2_allowed_116 : decode cX2_allowed 116 = .ok (.iload 6, 2) := by decide +kernel
theorem dX2_allowed_118 : decode cX2_allowed 118 = .ok (.ifCond .eq 64, 3) := by decide +kernel
theorem dX2_allowed_121 : decode cX2_allowed 121 = .ok (.iload 7, 2) := by decide +kernel
theorem dX2_allowed_123 : decode cX2_allowed 123 = .ok (.bipush 24, 2) := by decide +kernel
theorem dX2_allowed_125 : decode cX2_allowed 125 = .ok (.if_icmp .gt 57, 3) := by decide +kernel
theorem dX2_allowed_128 : decode cX2_allowed 128 = .ok (.aload_n 0, 1) := by decide +kernel
theorem dX2_allowed_129 : decode cX2_allowed 129 = .ok (.getfield 15, 3) := by decide +kernel
theorem dX2_allowed_132 : decode cX2_allowed 132 = .ok (.iconst 0, 1) := by decide +kernel
theorem dX2_allowed_133 : decode cX2_allowed 133 = .ok (.iload 7, 2) := by decide +kernel
theorem dX2_allowed_135 : decode cX2_allowed 135 = .ok (.iastore, 1) := by decide +kernel
theorem dX2_allowed_136 : decode cX2_allowed 136 = .ok (.iload_n 3, 1) := by decide +kernel
theorem dX2_allowed_137 : decode cX2_allowed 137 = .ok (.iload 7, 2) := by decide +kernel
theorem dX2_allowed_139 : decode cX2_allowed 139 = .ok (.ishr, 1) := by decide +kernel
theorem dX2_allowed_140 : decode cX2_allowed 140 = .ok (.iconst 1, 1) := by decide +kernel
theorem dX2_allowed_141 : decode cX2_allowed 141 = .ok (.iand, 1) := by decide +kernel
theorem dX2_allowed_142 : decode cX2_allowed 142 = .ok (.ifCond .eq 34, 3) := by decide +kernel
theorem dX2_allowed_145 : decode cX2_allowed 145 = .ok (.aload_n 0, 1) := by decide +kernel
theorem dX2_allowed_146 : decode cX2_allowed 146 = .ok (.aload_n 0, 1) := by decide +kernel
theorem dX2_allowed_147 : decode cX2_allowed 147 = .ok (.getfield 21, 3) := by decide +kernel
theorem dX2_allowed_150 : decode cX2_allowed 150 = .ok (.iload 4, 2) := by decide +kernel
theorem dX2_allowed_152 : decode cX2_allowed 152 = .ok (.iaload, 1) := by decide +kernel
theorem dX2_allowed_153 : decode cX2_allowed 153 = .ok (.aload_n 0, 1) := by decide +kernel
theorem dX2_allowed_154 : decode cX2_allowed 154 = .ok (.getfield 24, 3) := by decide +kernel
theorem dX2_allowed_157 : decode cX2_allowed 157 = .ok (.iload 4, 2) := by decide +kernel
theorem dX2_allowed_159 : decode cX2_allowed 159 = .ok (.iaload, 1) := by decide +kernel
theorem dX2_allowed_160 : decode cX2_allowed 160 = .ok (.invokevirtual 55, 3) := by decide +kernel
theorem dX2_allowed_163 : decode cX2_allowed 163 = .ok (.iconst 1, 1) := by decide +kernel
theorem dX2_allowed_164 : decode cX2_allowed 164 = .ok (.if_icmp .ne 12, 3) := by decide +kernel
theorem dX2_allowed_167 : decode cX2_allowed 167 = .ok (.iload_n 3, 1) := by decide +kernel
theorem dX2_allowed_168 : decode cX2_allowed 168 = .ok (.iconst 1, 1) := by decide +kernel
theorem dX2_allowed_169 : decode cX2_allowed 169 = .ok (.iload 7, 2) := by decide +kernel
theorem dX2_allowed_171 : decode cX2_allowed 171 = .ok (.ishl, 1) := by decide +kernel
theorem dX2_allowed_172 : decode cX2_allowed 172 = .ok (.iconst (-1), 1) := by decide +kernel
theorem dX2_allowed_173 : decode cX2_allowed 173 = .ok (.ixor, 1) := by decide +kernel
theorem dX2_allowed_174 : decode cX2_allowed 174 = .ok (.iand, 1) := by decide +kernel
theorem dX2_allowed_175 : decode cX2_allowed 175 = .ok (.istore_n 3, 1) := by decide +kernel
theorem dX2_allowed_176 : decode cX2_allowed 176 = .ok (.iinc 7 1, 3) := by decide +kernel
theorem dX2_allowed_179 : decode cX2_allowed 179 = .ok (.goto (-68), 3) := by decide +kernel
theorem dX2_allowed_182 : decode cX2_allowed 182 = .ok (.iinc 4 1, 3) := by decide +kernel
theorem dX2_allowed_185 : decode cX2_allowed 185 = .ok (.goto (-168), 3) := by decide +kernel
theorem dX2_allowed_188 : decode cX2_allowed 188 = .ok (.iload_n 3, 1) := by decide +kernel
theorem dX2_allowed_189 : decode cX2_allowed 189 = .ok (.ireturn, 1) := by decide +kernel
theorem dX2_pay_0 : decode cX2_pay 0 = .ok (.aload_n 1, 1) := by decide +kernel
theorem dX2_pay_1 : decode cX2_pay 1 = .ok (.iconst 0, 1) := by decide +kernel
theorem dX2_pay_2 : decode cX2_pay 2 = .ok (.aload_n 0, 1) := by decide +kernel
theorem dX2_pay_3 : decode cX2_pay 3 = .ok (.getfield 15, 3) := by decide +kernel
theorem dX2_pay_6 : decode cX2_pay 6 = .ok (.iconst 0, 1) := by decide +kernel
theorem dX2_pay_7 : decode cX2_pay 7 = .ok (.bipush 9, 2) := by decide +kernel
theorem dX2_pay_9 : decode cX2_pay 9 = .ok (.invokestatic 49, 3) := by decide +kernel
theorem dX2_pay_12 : decode cX2_pay 12 = .ok (.iconst 0, 1) := by decide +kernel
theorem dX2_pay_13 : decode cX2_pay 13 = .ok (.istore_n 2, 1) := by decide +kernel
theorem dX2_pay_14 : decode cX2_pay 14 = .ok (.iload_n 2, 1) := by decide +kernel
theorem dX2_pay_15 : decode cX2_pay 15 = .ok (.aload_n 0, 1) := by decide +kernel
theorem dX2_pay_16 : decode cX2_pay 16 = .ok (.getfield 40, 3) := by decide +kernel
theorem dX2_pay_19 : decode cX2_pay 19 = .ok (.if_icmp .ge 106, 3) := by decide +kernel
theorem dX2_pay_22 : decode cX2_pay 22 = .ok (.iload_n 2, 1) := by decide +kernel
theorem dX2_pay_23 : decode cX2_pay 23 = .ok (.bipush 14, 2) := by decide +kernel
theorem dX2_pay_25 : decode cX2_pay 25 = .ok (.if_icmp .ge 100, 3) := by decide +kernel
theorem dX2_pay_28 : decode cX2_pay 28 = .ok (.aload_n 0, 1) := by decide +kernel
theorem dX2_pay_29 : decode cX2_pay 29 = .ok (.getfield 27, 3) := by decide +kernel
theorem dX2_pay_32 : decode cX2_pay 32 = .ok (.iload_n 2, 1) := by decide +kernel
theorem dX2_pay_33 : decode cX2_pay 33 = .ok (.iaload, 1) := by decide +kernel
theorem dX2_pay_34 : decode cX2_pay 34 = .ok (.istore_n 3, 1) := by decide +kernel
theorem dX2_pay_35 : decode cX2_pay 35 = .ok (.iload_n 3, 1) := by decide +kernel
theorem dX2_pay_36 : decode cX2_pay 36 = .ok (.ifCond .lt 83, 3) := by decide +kernel
theorem dX2_pay_39 : decode cX2_pay 39 = .ok (.iload_n 3, 1) := by decide +kernel
theorem dX2_pay_40 : decode cX2_pay 40 = .ok (.sipush 256, 3) := by decide +kernel
theorem dX2_pay_43 : decode cX2_pay 43 = .ok (.if_icmp .ge 76, 3) := by decide +kernel
theorem dX2_pay_46 : decode cX2_pay 46 = .ok (.aload_n 0, 1) := by decide +kernel
theorem dX2_pay_47 : decode cX2_pay 47 = .ok (.aload_n 0, 1) := by decide +kernel
theorem dX2_pay_48 : decode cX2_pay 48 = .ok (.getfield 21, 3) := by decide +kernel
theorem dX2_pay_51 : decode cX2_pay 51 = .ok (.iload_n 2, 1) := by decide +kernel
theorem dX2_pay_52 : decode cX2_pay 52 = .ok (.iaload, 1) := by decide +kernel
theorem dX2_pay_53 : decode cX2_pay 53 = .ok (.aload_n 0, 1) := by decide +kernel
theorem dX2_pay_54 : decode cX2_pay 54 = .ok (.getfield 24, 3) := by decide +kernel
theorem dX2_pay_57 : decode cX2_pay 57 = .ok (.iload_n 2, 1) := by decide +kernel
theorem dX2_pay_58 : decode cX2_pay 58 = .ok (.iaload, 1) := by decide +kernel
theorem dX2_pay_59 : decode cX2_pay 59 = .ok (.invokevirtual 55, 3) := by decide +kernel
theorem dX2_pay_62 : decode cX2_pay 62 = .ok (.iconst 1, 1) := by decide +kernel
theorem dX2_pay_63 : decode cX2_pay 63 = .ok (.if_icmp .ne 56, 3) := by decide +kernel
theorem dX2_pay_66 : decode cX2_pay 66 = .ok (.aload_n 0, 1) := by decide +kernel
theorem dX2_pay_67 : decode cX2_pay 67 = .ok (.aload_n 0, 1) := by decide +kernel
theorem dX2_pay_68 : decode cX2_pay 68 = .ok (.getfield 18, 3) := by decide +kernel
theorem dX2_pay_71 : decode cX2_pay 71 = .ok (.iload_n 2, 1) := by decide +kernel
theorem dX2_pay_72 : decode cX2_pay 72 = .ok (.iaload, 1) := by decide +kernel
theorem dX2_pay_73 : decode cX2_pay 73 = .ok (.aload_n 0, 1) := by decide +kernel
theorem dX2_pay_74 : decode cX2_pay 74 = .ok (.getfield 21, 3) := by decide +kernel
theorem dX2_pay_77 : decode cX2_pay 77 = .ok (.iload_n 2, 1) := by decide +kernel
theorem dX2_pay_78 : decode cX2_pay 78 = .ok (.iaload, 1) := by decide +kernel
theorem dX2_pay_79 : decode cX2_pay 79 = .ok (.invokevirtual 55, 3) := by decide +kernel
theorem dX2_pay_82 : decode cX2_pay 82 = .ok (.iconst (-1), 1) := by decide +kernel
theorem dX2_pay_83 : decode cX2_pay 83 = .ok (.if_icmp .ne 7, 3) := by decide +kernel
theorem dX2_pay_86 : decode cX2_pay 86 = .ok (.iconst 1, 1) := by decide +kernel
theorem dX2_pay_87 : decode cX2_pay 87 = .ok (.goto 4, 3) := by decide +kernel
theorem dX2_pay_90 : decode cX2_pay 90 = .ok (.iconst 0, 1) := by decide +kernel
theorem dX2_pay_91 : decode cX2_pay 91 = .ok (.istore 4, 2) := by decide +kernel
theorem dX2_pay_93 : decode cX2_pay 93 = .ok (.iload 4, 2) := by decide +kernel
theorem dX2_pay_95 : decode cX2_pay 95 = .ok (.ifCond .eq 7, 3) := by decide +kernel
theorem dX2_pay_98 : decode cX2_pay 98 = .ok (.iconst 0, 1) := by decide +kernel
theorem dX2_pay_99 : decode cX2_pay 99 = .ok (.goto 19, 3) := by decide +kernel
theorem dX2_pay_102 : decode cX2_pay 102 = .ok (.iconst 0, 1) := by decide +kernel
theorem dX2_pay_103 : decode cX2_pay 103 = .ok (.sipush 999, 3) := by decide +kernel
theorem dX2_pay_106 : decode cX2_pay 106 = .ok (.aload_n 0, 1) := by decide +kernel
theorem dX2_pay_107 : decode cX2_pay 107 = .ok (.getfield 15, 3) := by decide +kernel
theorem dX2_pay_110 : decode cX2_pay 110 = .ok (.iload_n 3, 1) := by decide +kernel
theorem dX2_pay_111 : decode cX2_pay 111 = .ok (.iaload, 1) := by decide +kernel
theorem dX2_pay_112 : decode cX2_pay 112 = .ok (.invokestatic 59, 3) := by decide +kernel
theorem dX2_pay_115 : decode cX2_pay 115 = .ok (.invokestatic 64, 3) := by decide +kernel
theorem dX2_pay_118 : decode cX2_pay 118 = .ok (.ireturn, 1) := by decide +kernel
theorem dX2_pay_119 : decode cX2_pay 119 = .ok (.iinc 2 1, 3) := by decide +kernel
theorem dX2_pay_122 : decode cX2_pay 122 = .ok (.goto (-108), 3) := by decide +kernel
theorem dX2_pay_125 : decode cX2_pay 125 = .ok (.iconst 0, 1) := by decide +kernel
theorem dX2_pay_126 : decode cX2_pay 126 = .ok (.ireturn, 1) := by decide +kernel
theorem dX3_init_0 : decode cX3_init 0 = .ok (.aload_n 0, 1) := by decide +kernel
theorem dX3_init_1 : decode cX3_init 1 = .ok (.invokespecial 3, 3) := by decide +kernel
theorem dX3_init_4 : decode cX3_init 4 = .ok (.aload_n 0, 1) := by decide +kernel
theorem dX3_init_5 : decode cX3_init 5 = .ok (.sipush 12500, 3) := by decide +kernel
theorem dX3_init_8 : decode cX3_init 8 = .ok (.newarray .long, 2) := by decide +kernel
theorem dX3_init_10 : decode cX3_init 10 = .ok (.putfield 11, 3) := by decide +kernel
theorem dX3_init_13 : decode cX3_init 13 = .ok (.return_, 1) := by decide +kernel
theorem dX3_begin_0 : decode cX3_begin 0 = .ok (.aload_n 0, 1) := by decide +kernel
theorem dX3_begin_1 : decode cX3_begin 1 = .ok (.dup, 1) := by decide +kernel
theorem dX3_begin_2 : decode cX3_begin 2 = .ok (.getfield 15, 3) := by decide +kernel
theorem dX3_begin_5 : decode cX3_begin 5 = .ok (.iconst 1, 1) := by decide +kernel
theorem dX3_begin_6 : decode cX3_begin 6 = .ok (.iadd, 1) := by decide +kernel
theorem dX3_begin_7 : decode cX3_begin 7 = .ok (.putfield 15, 3) := by decide +kernel
theorem dX3_begin_10 : decode cX3_begin 10 = .ok (.return_, 1) := by decide +kernel
theorem dX3_has_0 : decode cX3_has 0 = .ok (.iload_n 1, 1) := by decide +kernel
theorem dX3_has_1 : decode cX3_has 1 = .ok (.ifCond .lt 32, 3) := by decide +kernel
theorem dX3_has_4 : decode cX3_has 4 = .ok (.iload_n 1, 1) := by decide +kernel
theorem dX3_has_5 : decode cX3_has 5 = .ok (.sipush 12500, 3) := by decide +kernel
theorem dX3_has_8 : decode cX3_has 8 = .ok (.if_icmp .ge 25, 3) := by decide +kernel
theorem dX3_has_11 : decode cX3_has 11 = .ok (.aload_n 0, 1) := by decide +kernel
theorem dX3_has_12 : decode cX3_has 12 = .ok (.getfield 11, 3) := by decide +kernel
theorem dX3_has_15 : decode cX3_has 15 = .ok (.iload_n 1, 1) := by decide +kernel
theorem dX3_has_16 : decode cX3_has 16 = .ok (.laload, 1) := by decide +kernel
theorem dX3_has_17 : decode cX3_has 17 = .ok (.bipush 32, 2) := by decide +kernel
theorem dX3_has_19 : decode cX3_has 19 = .ok (.lshr, 1) := by decide +kernel
theorem dX3_has_20 : decode cX3_has 20 = .ok (.aload_n 0, 1) := by decide +kernel
theorem dX3_has_21 : decode cX3_has 21 = .ok (.getfield 15, 3) := by decide +kernel
theorem dX3_has_24 : decode cX3_has 24 = .ok (.i2l, 1) := by decide +kernel
theorem dX3_has_25 : decode cX3_has 25 = .ok (.lcmp, 1) := by decide +kernel
theorem dX3_has_26 : decode cX3_has 26 = .ok (.ifCond .ne 7, 3) := by decide +kernel
theorem dX3_has_29 : decode cX3_has 29 = .ok (.iconst 1, 1) := by decide +kernel
theorem dX3_has_30 : decode cX3_has 30 = .ok (.goto 4, 3) := by decide +kernel
theorem dX3_has_33 : decode cX3_has 33 = .ok (.iconst 0, 1) := by decide +kernel
theorem dX3_has_34 : decode cX3_has 34 = .ok (.ireturn, 1) := by decide +kernel
theorem dX3_get_0 : decode cX3_get 0 = .ok (.iload_n 1, 1) := by decide +kernel
theorem dX3_get_1 : decode cX3_get 1 = .ok (.ifCond .lt 20, 3) := by decide +kernel
theorem dX3_get_4 : decode cX3_get 4 = .ok (.iload_n 1, 1) := by decide +kernel
theorem dX3_get_5 : decode cX3_get 5 = .ok (.sipush 12500, 3) := by decide +kernel
theorem dX3_get_8 : decode cX3_get 8 = .ok (.if_icmp .ge 13, 3) := by decide +kernel
theorem dX3_get_11 : decode cX3_get 11 = .ok (.aload_n 0, 1) := by decide +kernel
theorem dX3_get_12 : decode cX3_get 12 = .ok (.getfield 11, 3) := by decide +kernel
theorem dX3_get_15 : decode cX3_get 15 = .ok (.iload_n 1, 1) := by decide +kernel
theorem dX3_get_16 : decode cX3_get 16 = .ok (.laload, 1) := by decide +kernel
theorem dX3_get_17 : decode cX3_get 17 = .ok (.l2i, 1) := by decide +kernel
theorem dX3_get_18 : decode cX3_get 18 = .ok (.goto 4, 3) := by decide +kernel
theorem dX3_get_21 : decode cX3_get 21 = .ok (.iconst 0, 1) := by decide +kernel
theorem dX3_get_22 : decode cX3_get 22 = .ok (.ireturn, 1) := by decide +kernel
theorem dX3_put_0 : decode cX3_put 0 = .ok (.iload_n 1, 1) := by decide +kernel
theorem dX3_put_1 : decode cX3_put 1 = .ok (.ifCond .lt 31, 3) := by decide +kernel
theorem dX3_put_4 : decode cX3_put 4 = .ok (.iload_n 1, 1) := by decide +kernel
theorem dX3_put_5 : decode cX3_put 5 = .ok (.sipush 12500, 3) := by decide +kernel
theorem dX3_put_8 : decode cX3_put 8 = .ok (.if_icmp .ge 24, 3) := by decide +kernel
theorem dX3_put_11 : decode cX3_put 11 = .ok (.aload_n 0, 1) := by decide +kernel
theorem dX3_put_12 : decode cX3_put 12 = .ok (.getfield 11, 3) := by decide +kernel
theorem dX3_put_15 : decode cX3_put 15 = .ok (.iload_n 1, 1) := by decide +kernel
theorem dX3_put_16 : decode cX3_put 16 = .ok (.aload_n 0, 1) := by decide +kernel
theorem dX3_put_17 : decode cX3_put 17 = .ok (.getfield 15, 3) := by decide +kernel
theorem dX3_put_20 : decode cX3_put 20 = .ok (.i2l, 1) := by decide +kernel
theorem dX3_put_21 : decode cX3_put 21 = .ok (.bipush 32, 2) := by decide +kernel
theorem dX3_put_23 : decode cX3_put 23 = .ok (.lshl, 1) := by decide +kernel
theorem dX3_put_24 : decode cX3_put 24 = .ok (.iload_n 2, 1) := by decide +kernel
theorem dX3_put_25 : decode cX3_put 25 = .ok (.i2l, 1) := by decide +kernel
theorem dX3_put_26 : decode cX3_put 26 = .ok (.ldc2_w 19, 3) := by decide +kernel
theorem dX3_put_29 : decode cX3_put 29 = .ok (.land, 1) := by decide +kernel
theorem dX3_put_30 : decode cX3_put 30 = .ok (.lor, 1) := by decide +kernel
theorem dX3_put_31 : decode cX3_put 31 = .ok (.lastore, 1) := by decide +kernel
theorem dX3_put_32 : decode cX3_put 32 = .ok (.return_, 1) := by decide +kernel
theorem dX7_init_0 : decode cX7_init 0 = .ok (.aload_n 0, 1) := by decide +kernel
theorem dX7_init_1 : decode cX7_init 1 = .ok (.invokespecial 3, 3) := by decide +kernel
theorem dX7_init_4 : decode cX7_init 4 = .ok (.aload_n 0, 1) := by decide +kernel
theorem dX7_init_5 : decode cX7_init 5 = .ok (.sipush 200, 3) := by decide +kernel
theorem dX7_init_8 : decode cX7_init 8 = .ok (.newarray .int, 2) := by decide +kernel
theorem dX7_init_10 : decode cX7_init 10 = .ok (.putfield 9, 3) := by decide +kernel
theorem dX7_init_13 : decode cX7_init 13 = .ok (.aload_n 0, 1) := by decide +kernel
theorem dX7_init_14 : decode cX7_init 14 = .ok (.sipush 200, 3) := by decide +kernel
theorem dX7_init_17 : decode cX7_init 17 = .ok (.newarray .int, 2) := by decide +kernel
theorem dX7_init_19 : decode cX7_init 19 = .ok (.putfield 15, 3) := by decide +kernel
theorem dX7_init_22 : decode cX7_init 22 = .ok (.aload_n 0, 1) := by decide +kernel
theorem dX7_init_23 : decode cX7_init 23 = .ok (.sipush 200, 3) := by decide +kernel
theorem dX7_init_26 : decode cX7_init 26 = .ok (.newarray .int, 2) := by decide +kernel
theorem dX7_init_28 : decode cX7_init 28 = .ok (.putfield 18, 3) := by decide +kernel
theorem dX7_init_31 : decode cX7_init 31 = .ok (.return_, 1) := by decide +kernel
theorem dX7_add_0 : decode cX7_add 0 = .ok (.aload_n 0, 1) := by decide +kernel
theorem dX7_add_1 : decode cX7_add 1 = .ok (.getfield 21, 3) := by decide +kernel
theorem dX7_add_4 : decode cX7_add 4 = .ok (.sipush 200, 3) := by decide +kernel
theorem dX7_add_7 : decode cX7_add 7 = .ok (.if_icmp .ge 53, 3) := by decide +kernel
theorem dX7_add_10 : decode cX7_add 10 = .ok (.aload_n 0, 1) := by decide +kernel
theorem dX7_add_11 : decode cX7_add 11 = .ok (.getfield 9, 3) := by decide +kernel
theorem dX7_add_14 : decode cX7_add 14 = .ok (.aload_n 0, 1) := by decide +kernel
theorem dX7_add_15 : decode cX7_add 15 = .ok (.getfield 21, 3) := by decide +kernel
theorem dX7_add_18 : decode cX7_add 18 = .ok (.iload_n 1, 1) := by decide +kernel
theorem dX7_add_19 : decode cX7_add 19 = .ok (.iastore, 1) := by decide +kernel
theorem dX7_add_20 : decode cX7_add 20 = .ok (.aload_n 0, 1) := by decide +kernel
theorem dX7_add_21 : decode cX7_add 21 = .ok (.getfield 15, 3) := by decide +kernel
theorem dX7_add_24 : decode cX7_add 24 = .ok (.aload_n 0, 1) := by decide +kernel
theorem dX7_add_25 : decode cX7_add 25 = .ok (.getfield 21, 3) := by decide +kernel
theorem dX7_add_28 : decode cX7_add 28 = .ok (.iload_n 2, 1) := by decide +kernel
theorem dX7_add_29 : decode cX7_add 29 = .ok (.iastore, 1) := by decide +kernel
theorem dX7_add_30 : decode cX7_add 30 = .ok (.aload_n 0, 1) := by decide +kernel
theorem dX7_add_31 : decode cX7_add 31 = .ok (.getfield 18, 3) := by decide +kernel
theorem dX7_add_34 : decode cX7_add 34 = .ok (.aload_n 0, 1) := by decide +kernel
theorem dX7_add_35 : decode cX7_add 35 = .ok (.getfield 21, 3) := by decide +kernel
theorem dX7_add_38 : decode cX7_add 38 = .ok (.iload_n 3, 1) := by decide +kernel
theorem dX7_add_39 : decode cX7_add 39 = .ok (.iastore, 1) := by decide +kernel
theorem dX7_add_40 : decode cX7_add 40 = .ok (.aload_n 0, 1) := by decide +kernel
theorem dX7_add_41 : decode cX7_add 41 = .ok (.dup, 1) := by decide +kernel
theorem dX7_add_42 : decode cX7_add 42 = .ok (.getfield 21, 3) := by decide +kernel
theorem dX7_add_45 : decode cX7_add 45 = .ok (.iconst 1, 1) := by decide +kernel
theorem dX7_add_46 : decode cX7_add 46 = .ok (.iadd, 1) := by decide +kernel
theorem dX7_add_47 : decode cX7_add 47 = .ok (.putfield 21, 3) := by decide +kernel
theorem dX7_add_50 : decode cX7_add 50 = .ok (.aload_n 0, 1) := by decide +kernel
theorem dX7_add_51 : decode cX7_add 51 = .ok (.dup, 1) := by decide +kernel
theorem dX7_add_52 : decode cX7_add 52 = .ok (.getfield 25, 3) := by decide +kernel
theorem dX7_add_55 : decode cX7_add 55 = .ok (.iload_n 3, 1) := by decide +kernel
theorem dX7_add_56 : decode cX7_add 56 = .ok (.iadd, 1) := by decide +kernel
theorem dX7_add_57 : decode cX7_add 57 = .ok (.putfield 25, 3) := by decide +kernel
theorem dX7_add_60 : decode cX7_add 60 = .ok (.return_, 1) := by decide +kernel
theorem dX7_has_0 : decode cX7_has 0 = .ok (.iload_n 1, 1) := by decide +kernel
theorem dX7_has_1 : decode cX7_has 1 = .ok (.ifCond .lt 22, 3) := by decide +kernel
theorem dX7_has_4 : decode cX7_has 4 = .ok (.iload_n 1, 1) := by decide +kernel
theorem dX7_has_5 : decode cX7_has 5 = .ok (.aload_n 0, 1) := by decide +kernel
theorem dX7_has_6 : decode cX7_has 6 = .ok (.getfield 21, 3) := by decide +kernel
theorem dX7_has_9 : decode cX7_has 9 = .ok (.if_icmp .ge 14, 3) := by decide +kernel
theorem dX7_has_12 : decode cX7_has 12 = .ok (.iload_n 1, 1) := by decide +kernel
theorem dX7_has_13 : decode cX7_has 13 = .ok (.sipush 200, 3) := by decide +kernel
theorem dX7_has_16 : decode cX7_has 16 = .ok (.if_icmp .ge 7, 3) := by decide +kernel
theorem dX7_has_19 : decode cX7_has 19 = .ok (.iconst 1, 1) := by decide +kernel
theorem dX7_has_20 : decode cX7_has 20 = .ok (.goto 4, 3) := by decide +kernel
theorem dX7_has_23 : decode cX7_has 23 = .ok (.iconst 0, 1) := by decide +kernel
theorem dX7_has_24 : decode cX7_has 24 = .ok (.ireturn, 1) := by decide +kernel
theorem dX7_speakerAt_0 : decode cX7_speakerAt 0 = .ok (.aload_n 0, 1) := by decide +kernel
theorem dX7_speakerAt_1 : decode cX7_speakerAt 1 = .ok (.iload_n 1, 1) := by decide +kernel
theorem dX7_speakerAt_2 : decode cX7_speakerAt 2 = .ok (.invokevirtual 28, 3) := by decide +kernel
theorem dX7_speakerAt_5 : decode cX7_speakerAt 5 = .ok (.ifCond .eq 12, 3) := by decide +kernel
theorem dX7_speakerAt_8 : decode cX7_speakerAt 8 = .ok (.aload_n 0, 1) := by decide +kernel
theorem dX7_speakerAt_9 : decode cX7_speakerAt 9 = .ok (.getfield 9, 3) := by decide +kernel
theorem dX7_speakerAt_12 : decode cX7_speakerAt 12 = .ok (.iload_n 1, 1) := by decide +kernel
theorem dX7_speakerAt_13 : decode cX7_speakerAt 13 = .ok (.iaload, 1) := by decide +kernel
theorem dX7_speakerAt_14 : decode cX7_speakerAt 14 = .ok (.goto 4, 3) := by decide +kernel
theorem dX7_speakerAt_17 : decode cX7_speakerAt 17 = .ok (.iconst (-1), 1) := by decide +kernel
theorem dX7_speakerAt_18 : decode cX7_speakerAt 18 = .ok (.ireturn, 1) := by decide +kernel
theorem dX7_thingAt_0 : decode cX7_thingAt 0 = .ok (.aload_n 0, 1) := by decide +kernel
theorem dX7_thingAt_1 : decode cX7_thingAt 1 = .ok (.iload_n 1, 1) := by decide +kernel
theorem dX7_thingAt_2 : decode cX7_thingAt 2 = .ok (.invokevirtual 28, 3) := by decide +kernel
theorem dX7_thingAt_5 : decode cX7_thingAt 5 = .ok (.ifCond .eq 12, 3) := by decide +kernel
theorem dX7_thingAt_8 : decode cX7_thingAt 8 = .ok (.aload_n 0, 1) := by decide +kernel
theorem dX7_thingAt_9 : decode cX7_thingAt 9 = .ok (.getfield 15, 3) := by decide +kernel
theorem dX7_thingAt_12 : decode cX7_thingAt 12 = .ok (.iload_n 1, 1) := by decide +kernel
theorem dX7_thingAt_13 : decode cX7_thingAt 13 = .ok (.iaload, 1) := by decide +kernel
theorem dX7_thingAt_14 : decode cX7_thingAt 14 = .ok (.goto 4, 3) := by decide +kernel
theorem dX7_thingAt_17 : decode cX7_thingAt 17 = .ok (.iconst (-1), 1) := by decide +kernel
theorem dX7_thingAt_18 : decode cX7_thingAt 18 = .ok (.ireturn, 1) := by decide +kernel
theorem dX7_spanAt_0 : decode cX7_spanAt 0 = .ok (.aload_n 0, 1) := by decide +kernel
theorem dX7_spanAt_1 : decode cX7_spanAt 1 = .ok (.iload_n 1, 1) := by decide +kernel
theorem dX7_spanAt_2 : decode cX7_spanAt 2 = .ok (.invokevirtual 28, 3) := by decide +kernel
theorem dX7_spanAt_5 : decode cX7_spanAt 5 = .ok (.ifCond .eq 12, 3) := by decide +kernel
theorem dX7_spanAt_8 : decode cX7_spanAt 8 = .ok (.aload_n 0, 1) := by decide +kernel
theorem dX7_spanAt_9 : decode cX7_spanAt 9 = .ok (.getfield 18, 3) := by decide +kernel
theorem dX7_spanAt_12 : decode cX7_spanAt 12 = .ok (.iload_n 1, 1) := by decide +kernel
theorem dX7_spanAt_13 : decode cX7_spanAt 13 = .ok (.iaload, 1) := by decide +kernel
theorem dX7_spanAt_14 : decode cX7_spanAt 14 = .ok (.goto 4, 3) := by decide +kernel
theorem dX7_spanAt_17 : decode cX7_spanAt 17 = .ok (.iconst 0, 1) := by decide +kernel
theorem dX7_spanAt_18 : decode cX7_spanAt 18 = .ok (.ireturn, 1) := by decide +kernel
theorem dX7_saidBy_0 : decode cX7_saidBy 0 = .ok (.iconst 0, 1) := by decide +kernel
theorem dX7_saidBy_1 : decode cX7_saidBy 1 = .ok (.istore_n 2, 1) := by decide +kernel
theorem dX7_saidBy_2 : decode cX7_saidBy 2 = .ok (.iconst 0, 1) := by decide +kernel
theorem dX7_saidBy_3 : decode cX7_saidBy 3 = .ok (.istore_n 3, 1) := by decide +kernel
theorem dX7_saidBy_4 : decode cX7_saidBy 4 = .ok (.iload_n 3, 1) := by decide +kernel
theorem dX7_saidBy_5 : decode cX7_saidBy 5 = .ok (.aload_n 0, 1) := by decide +kernel
theorem dX7_saidBy_6 : decode cX7_saidBy 6 = .ok (.getfield 21, 3) := by decide +kernel
theorem dX7_saidBy_9 : decode cX7_saidBy 9 = .ok (.if_icmp .ge 34, 3) := by decide +kernel
theorem dX7_saidBy_12 : decode cX7_saidBy 12 = .ok (.iload_n 3, 1) := by decide +kernel
theorem dX7_saidBy_13 : decode cX7_saidBy 13 = .ok (.sipush 200, 3) := by decide +kernel
theorem dX7_saidBy_16 : decode cX7_saidBy 16 = .ok (.if_icmp .ge 27, 3) := by decide +kernel
theorem dX7_saidBy_19 : decode cX7_saidBy 19 = .ok (.iload_n 2, 1) := by decide +kernel
theorem dX7_saidBy_20 : decode cX7_saidBy 20 = .ok (.aload_n 0, 1) := by decide +kernel
theorem dX7_saidBy_21 : decode cX7_saidBy 21 = .ok (.getfield 9, 3) := by decide +kernel
theorem dX7_saidBy_24 : decode cX7_saidBy 24 = .ok (.iload_n 3, 1) := by decide +kernel
theorem dX7_saidBy_25 : decode cX7_saidBy 25 = .ok (.iaload, 1) := by decide +kernel
theorem dX7_saidBy_26 : decode cX7_saidBy 26 = .ok (.iload_n 1, 1) := by decide +kernel
theorem dX7_saidBy_27 : decode cX7_saidBy 27 = .ok (.if_icmp .ne 7, 3) := by decide +kernel
theorem dX7_saidBy_30 : decode cX7_saidBy 30 = .ok (.iconst 1, 1) := by decide +kernel
theorem dX7_saidBy_31 : decode cX7_saidBy 31 = .ok (.goto 4, 3) := by decide +kernel
theorem dX7_saidBy_34 : decode cX7_saidBy 34 = .ok (.iconst 0, 1) := by decide +kernel
theorem dX7_saidBy_35 : decode cX7_saidBy 35 = .ok (.iadd, 1) := by decide +kernel
theorem dX7_saidBy_36 : decode cX7_saidBy 36 = .ok (.istore_n 2, 1) := by decide +kernel
theorem dX7_saidBy_37 : decode cX7_saidBy 37 = .ok (.iinc 3 1, 3) := by decide +kernel
theorem dX7_saidBy_40 : decode cX7_saidBy 40 = .ok (.goto (-36), 3) := by decide +kernel
theorem dX7_saidBy_43 : decode cX7_saidBy 43 = .ok (.iload_n 2, 1) := by decide +kernel
theorem dX7_saidBy_44 : decode cX7_saidBy 44 = .ok (.ireturn, 1) := by decide +kernel
theorem dX7_copyFrom_0 : decode cX7_copyFrom 0 = .ok (.aload_n 1, 1) := by decide +kernel
theorem dX7_copyFrom_1 : decode cX7_copyFrom 1 = .ok (.getfield 9, 3) := by decide +kernel
theorem dX7_copyFrom_4 : decode cX7_copyFrom 4 = .ok (.iconst 0, 1) := by decide +kernel
theorem dX7_copyFrom_5 : decode cX7_copyFrom 5 = .ok (.aload_n 0, 1) := by decide +kernel
theorem dX7_copyFrom_6 : decode cX7_copyFrom 6 = .ok (.getfield 9, 3) := by decide +kernel
theorem dX7_copyFrom_9 : decode cX7_copyFrom 9 = .ok (.iconst 0, 1) := by decide +kernel
theorem dX7_copyFrom_10 : decode cX7_copyFrom 10 = .ok (.sipush 200, 3) := by decide +kernel
theorem dX7_copyFrom_13 : decode cX7_copyFrom 13 = .ok (.invokestatic 32, 3) := by decide +kernel
theorem dX7_copyFrom_16 : decode cX7_copyFrom 16 = .ok (.aload_n 1, 1) := by decide +kernel
theorem dX7_copyFrom_17 : decode cX7_copyFrom 17 = .ok (.getfield 15, 3) := by decide +kernel
theorem dX7_copyFrom_20 : decode cX7_copyFrom 20 = .ok (.iconst 0, 1) := by decide +kernel
theorem dX7_copyFrom_21 : decode cX7_copyFrom 21 = .ok (.aload_n 0, 1) := by decide +kernel
theorem dX7_copyFrom_22 : decode cX7_copyFrom 22 = .ok (.getfield 15, 3) := by decide +kernel
theorem dX7_copyFrom_25 : decode cX7_copyFrom 25 = .ok (.iconst 0, 1) := by decide +kernel
theorem dX7_copyFrom_26 : decode cX7_copyFrom 26 = .ok (.sipush 200, 3) := by decide +kernel
theorem dX7_copyFrom_29 : decode cX7_copyFrom 29 = .ok (.invokestatic 32, 3) := by decide +kernel
theorem dX7_copyFrom_32 : decode cX7_copyFrom 32 = .ok (.aload_n 1, 1) := by decide +kernel
theorem dX7_copyFrom_33 : decode cX7_copyFrom 33 = .ok (.getfield 18, 3) := by decide +kernel
theorem dX7_copyFrom_36 : decode cX7_copyFrom 36 = .ok (.iconst 0, 1) := by decide +kernel
theorem dX7_copyFrom_37 : decode cX7_copyFrom 37 = .ok (.aload_n 0, 1) := by decide +kernel
theorem dX7_copyFrom_38 : decode cX7_copyFrom 38 = .ok (.getfield 18, 3) := by decide +kernel
theorem dX7_copyFrom_41 : decode cX7_copyFrom 41 = .ok (.iconst 0, 1) := by decide +kernel
theorem dX7_copyFrom_42 : decode cX7_copyFrom 42 = .ok (.sipush 200, 3) := by decide +kernel
theorem dX7_copyFrom_45 : decode cX7_copyFrom 45 = .ok (.invokestatic 32, 3) := by decide +kernel
theorem dX7_copyFrom_48 : decode cX7_copyFrom 48 = .ok (.aload_n 0, 1) := by decide +kernel
theorem dX7_copyFrom_49 : decode cX7_copyFrom 49 = .ok (.aload_n 1, 1) := by decide +kernel
theorem dX7_copyFrom_50 : decode cX7_copyFrom 50 = .ok (.getfield 21, 3) := by decide +kernel
theorem dX7_copyFrom_53 : decode cX7_copyFrom 53 = .ok (.putfield 21, 3) := by decide +kernel
theorem dX7_copyFrom_56 : decode cX7_copyFrom 56 = .ok (.aload_n 0, 1) := by decide +kernel
theorem dX7_copyFrom_57 : decode cX7_copyFrom 57 = .ok (.aload_n 1, 1) := by decide +kernel
theorem dX7_copyFrom_58 : decode cX7_copyFrom 58 = .ok (.getfield 25, 3) := by decide +kernel
theorem dX7_copyFrom_61 : decode cX7_copyFrom 61 = .ok (.putfield 25, 3) := by decide +kernel
theorem dX7_copyFrom_64 : decode cX7_copyFrom 64 = .ok (.return_, 1) := by decide +kernel
theorem dX8_init_0 : decode cX8_init 0 = .ok (.aload_n 0, 1) := by decide +kernel
theorem dX8_init_1 : decode cX8_init 1 = .ok (.invokespecial 3, 3) := by decide +kernel
theorem dX8_init_4 : decode cX8_init 4 = .ok (.aload_n 0, 1) := by decide +kernel
theorem dX8_init_5 : decode cX8_init 5 = .ok (.sipush 220, 3) := by decide +kernel
theorem dX8_init_8 : decode cX8_init 8 = .ok (.newarray .int, 2) := by decide +kernel
theorem dX8_init_10 : decode cX8_init 10 = .ok (.putfield 9, 3) := by decide +kernel
theorem dX8_init_13 : decode cX8_init 13 = .ok (.return_, 1) := by decide +kernel
theorem dX8_append_0 : decode cX8_append 0 = .ok (.bipush 24, 2) := by decide +kernel
theorem dX8_append_2 : decode cX8_append 2 = .ok (.istore_n 2, 1) := by decide +kernel
theorem dX8_append_3 : decode cX8_append 3 = .ok (.iload_n 2, 1) := by decide +kernel
theorem dX8_append_4 : decode cX8_append 4 = .ok (.ifCond .lt 47, 3) := by decide +kernel
theorem dX8_append_7 : decode cX8_append 7 = .ok (.aload_n 0, 1) := by decide +kernel
theorem dX8_append_8 : decode cX8_append 8 = .ok (.getfield 15, 3) := by decide +kernel
theorem dX8_append_11 : decode cX8_append 11 = .ok (.aload_n 0, 1) := by decide +kernel
theorem dX8_append_12 : decode cX8_append 12 = .ok (.getfield 9, 3) := by decide +kernel
theorem dX8_append_15 : decode cX8_append 15 = .ok (.arraylength, 1) := by decide +kernel
theorem dX8_append_16 : decode cX8_append 16 = .ok (.if_icmp .ge 29, 3) := by decide +kernel
theorem dX8_append_19 : decode cX8_append 19 = .ok (.aload_n 0, 1) := by decide +kernel
theorem dX8_append_20 : decode cX8_append 20 = .ok (.getfield 9, 3) := by decide +kernel
theorem dX8_append_23 : decode cX8_append 23 = .ok (.aload_n 0, 1) := by decide +kernel
theorem dX8_append_24 : decode cX8_append 24 = .ok (.getfield 15, 3) := by decide +kernel
theorem dX8_append_27 : decode cX8_append 27 = .ok (.iload_n 1, 1) := by decide +kernel
theorem dX8_append_28 : decode cX8_append 28 = .ok (.iload_n 2, 1) := by decide +kernel
theorem dX8_append_29 : decode cX8_append 29 = .ok (.ishr, 1) := by decide +kernel
theorem dX8_append_30 : decode cX8_append 30 = .ok (.sipush 255, 3) := by decide +kernel
theorem dX8_append_33 : decode cX8_append 33 = .ok (.iand, 1) := by decide +kernel
theorem dX8_append_34 : decode cX8_append 34 = .ok (.iastore, 1) := by decide +kernel
theorem dX8_append_35 : decode cX8_append 35 = .ok (.aload_n 0, 1) := by decide +kernel
theorem dX8_append_36 : decode cX8_append 36 = .ok (.dup, 1) := by decide +kernel
theorem dX8_append_37 : decode cX8_append 37 = .ok (.getfield 15, 3) := by decide +kernel
theorem dX8_append_40 : decode cX8_append 40 = .ok (.iconst 1, 1) := by decide +kernel
theorem dX8_append_41 : decode cX8_append 41 = .ok (.iadd, 1) := by decide +kernel
theorem dX8_append_42 : decode cX8_append 42 = .ok (.putfield 15, 3) := by decide +kernel
theorem dX8_append_45 : decode cX8_append 45 = .ok (.iinc 2 (-8), 3) := by decide +kernel
theorem dX8_append_48 : decode cX8_append 48 = .ok (.goto (-45), 3) := by decide +kernel
theorem dX8_append_51 : decode cX8_append 51 = .ok (.return_, 1) := by decide +kernel
theorem dX8_clear_0 : decode cX8_clear 0 = .ok (.aload_n 0, 1) := by decide +kernel
theorem dX8_clear_1 : decode cX8_clear 1 = .ok (.iconst 0, 1) := by decide +kernel
theorem dX8_clear_2 : decode cX8_clear 2 = .ok (.putfield 15, 3) := by decide +kernel
theorem dX8_clear_5 : decode cX8_clear 5 = .ok (.return_, 1) := by decide +kernel
theorem dX8_byteAt_0 : decode cX8_byteAt 0 = .ok (.iload_n 1, 1) := by decide +kernel
theorem dX8_byteAt_1 : decode cX8_byteAt 1 = .ok (.ifCond .lt 29, 3) := by decide +kernel
theorem dX8_byteAt_4 : decode cX8_byteAt 4 = .ok (.iload_n 1, 1) := by decide +kernel
theorem dX8_byteAt_5 : decode cX8_byteAt 5 = .ok (.aload_n 0, 1) := by decide +kernel
theorem dX8_byteAt_6 : decode cX8_byteAt 6 = .ok (.getfield 15, 3) := by decide +kernel
theorem dX8_byteAt_9 : decode cX8_byteAt 9 = .ok (.if_icmp .ge 21, 3) := by decide +kernel
theorem dX8_byteAt_12 : decode cX8_byteAt 12 = .ok (.iload_n 1, 1) := by decide +kernel
theorem dX8_byteAt_13 : decode cX8_byteAt 13 = .ok (.aload_n 0, 1) := by decide +kernel
theorem dX8_byteAt_14 : decode cX8_byteAt 14 = .ok (.getfield 9, 3) := by decide +kernel
theorem dX8_byteAt_17 : decode cX8_byteAt 17 = .ok (.arraylength, 1) := by decide +kernel
theorem dX8_byteAt_18 : decode cX8_byteAt 18 = .ok (.if_icmp .ge 12, 3) := by decide +kernel
theorem dX8_byteAt_21 : decode cX8_byteAt 21 = .ok (.aload_n 0, 1) := by decide +kernel
theorem dX8_byteAt_22 : decode cX8_byteAt 22 = .ok (.getfield 9, 3) := by decide +kernel
theorem dX8_byteAt_25 : decode cX8_byteAt 25 = .ok (.iload_n 1, 1) := by decide +kernel
theorem dX8_byteAt_26 : decode cX8_byteAt 26 = .ok (.iaload, 1) := by decide +kernel
theorem dX8_byteAt_27 : decode cX8_byteAt 27 = .ok (.goto 4, 3) := by decide +kernel
theorem dX8_byteAt_30 : decode cX8_byteAt 30 = .ok (.iconst 0, 1) := by decide +kernel
theorem dX8_byteAt_31 : decode cX8_byteAt 31 = .ok (.ireturn, 1) := by decide +kernel
theorem dX8_numberAt_0 : decode cX8_numberAt 0 = .ok (.iconst 4, 1) := by decide +kernel
theorem dX8_numberAt_1 : decode cX8_numberAt 1 = .ok (.iload_n 1, 1) := by decide +kernel
theorem dX8_numberAt_2 : decode cX8_numberAt 2 = .ok (.imul, 1) := by decide +kernel
theorem dX8_numberAt_3 : decode cX8_numberAt 3 = .ok (.istore_n 2, 1) := by decide +kernel
theorem dX8_numberAt_4 : decode cX8_numberAt 4 = .ok (.aload_n 0, 1) := by decide +kernel
theorem dX8_numberAt_5 : decode cX8_numberAt 5 = .ok (.iload_n 2, 1) := by decide +kernel
theorem dX8_numberAt_6 : decode cX8_numberAt 6 = .ok (.invokevirtual 19, 3) := by decide +kernel
theorem dX8_numberAt_9 : decode cX8_numberAt 9 = .ok (.bipush 24, 2) := by decide +kernel
theorem dX8_numberAt_11 : decode cX8_numberAt 11 = .ok (.ishl, 1) := by decide +kernel
theorem dX8_numberAt_12 : decode cX8_numberAt 12 = .ok (.aload_n 0, 1) := by decide +kernel
theorem dX8_numberAt_13 : decode cX8_numberAt 13 = .ok (.iload_n 2, 1) := by decide +kernel
theorem dX8_numberAt_14 : decode cX8_numberAt 14 = .ok (.iconst 1, 1) := by decide +kernel
theorem dX8_numberAt_15 : decode cX8_numberAt 15 = .ok (.iadd, 1) := by decide +kernel
theorem dX8_numberAt_16 : decode cX8_numberAt 16 = .ok (.invokevirtual 19, 3) := by decide +kernel
theorem dX8_numberAt_19 : decode cX8_numberAt 19 = .ok (.bipush 16, 2) := by decide +kernel
theorem dX8_numberAt_21 : decode cX8_numberAt 21 = .ok (.ishl, 1) := by decide +kernel
theorem dX8_numberAt_22 : decode cX8_numberAt 22 = .ok (.ior, 1) := by decide +kernel
theorem dX8_numberAt_23 : decode cX8_numberAt 23 = .ok (.aload_n 0, 1) := by decide +kernel
theorem dX8_numberAt_24 : decode cX8_numberAt 24 = .ok (.iload_n 2, 1) := by decide +kernel
theorem dX8_numberAt_25 : decode cX8_numberAt 25 = .ok (.iconst 2, 1) := by decide +kernel
theorem dX8_numberAt_26 : decode cX8_numberAt 26 = .ok (.iadd, 1) := by decide +kernel
theorem dX8_numberAt_27 : decode cX8_numberAt 27 = .ok (.invokevirtual 19, 3) := by decide +kernel
theorem dX8_numberAt_30 : decode cX8_numberAt 30 = .ok (.bipush 8, 2) := by decide +kernel
theorem dX8_numberAt_32 : decode cX8_numberAt 32 = .ok (.ishl, 1) := by decide +kernel
theorem dX8_numberAt_33 : decode cX8_numberAt 33 = .ok (.ior, 1) := by decide +kernel
theorem dX8_numberAt_34 : decode cX8_numberAt 34 = .ok (.aload_n 0, 1) := by decide +kernel
theorem dX8_numberAt_35 : decode cX8_numberAt 35 = .ok (.iload_n 2, 1) := by decide +kernel
theorem dX8_numberAt_36 : decode cX8_numberAt 36 = .ok (.iconst 3, 1) := by decide +kernel
theorem dX8_numberAt_37 : decode cX8_numberAt 37 = .ok (.iadd, 1) := by decide +kernel
theorem dX8_numberAt_38 : decode cX8_numberAt 38 = .ok (.invokevirtual 19, 3) := by decide +kernel
theorem dX8_numberAt_41 : decode cX8_numberAt 41 = .ok (.ior, 1) := by decide +kernel
theorem dX8_numberAt_42 : decode cX8_numberAt 42 = .ok (.ireturn, 1) := by decide +kernel
theorem dX8_startText_0 : decode cX8_startText 0 = .ok (.aload_n 0, 1) := by decide +kernel
theorem dX8_startText_1 : decode cX8_startText 1 = .ok (.iconst 0, 1) := by decide +kernel
theorem dX8_startText_2 : decode cX8_startText 2 = .ok (.putfield 23, 3) := by decide +kernel
theorem dX8_startText_5 : decode cX8_startText 5 = .ok (.aload_n 0, 1) := by decide +kernel
theorem dX8_startText_6 : decode cX8_startText 6 = .ok (.iload_n 1, 1) := by decide +kernel
theorem dX8_startText_7 : decode cX8_startText 7 = .ok (.aload_n 0, 1) := by decide +kernel
theorem dX8_startText_8 : decode cX8_startText 8 = .ok (.getfield 15, 3) := by decide +kernel
theorem dX8_startText_11 : decode cX8_startText 11 = .ok (.invokestatic 26, 3) := by decide +kernel
theorem dX8_startText_14 : decode cX8_startText 14 = .ok (.putfield 32, 3) := by decide +kernel
theorem dX8_startText_17 : decode cX8_startText 17 = .ok (.aload_n 0, 1) := by decide +kernel
theorem dX8_startText_18 : decode cX8_startText 18 = .ok (.iconst 0, 1) := by decide +kernel
theorem dX8_startText_19 : decode cX8_startText 19 = .ok (.putfield 35, 3) := by decide +kernel
theorem dX8_startText_22 : decode cX8_startText 22 = .ok (.return_, 1) := by decide +kernel
theorem dX8_sign_0 : decode cX8_sign 0 = .ok (.aload_n 0, 1) := by decide +kernel
theorem dX8_sign_1 : decode cX8_sign 1 = .ok (.getfield 35, 3) := by decide +kernel
theorem dX8_sign_4 : decode cX8_sign 4 = .ok (.ifCond .ne 45, 3) := by decide +kernel
theorem dX8_sign_7 : decode cX8_sign 7 = .ok (.aload_n 0, 1) := by decide +kernel
theorem dX8_sign_8 : decode cX8_sign 8 = .ok (.getfield 23, 3) := by decide +kernel
theorem dX8_sign_11 : decode cX8_sign 11 = .ok (.ifCond .lt 38, 3) := by decide +kernel
theorem dX8_sign_14 : decode cX8_sign 14 = .ok (.aload_n 0, 1) := by decide +kernel
theorem dX8_sign_15 : decode cX8_sign 15 = .ok (.getfield 23, 3) := by decide +kernel
theorem dX8_sign_18 : decode cX8_sign 18 = .ok (.aload_n 0, 1) := by decide +kernel
theorem dX8_sign_19 : decode cX8_sign 19 = .ok (.getfield 32, 3) := by decide +kernel
theorem dX8_sign_22 : decode cX8_sign 22 = .ok (.if_icmp .ge 27, 3) := by decide +kernel
theorem dX8_sign_25 : decode cX8_sign 25 = .ok (.aload_n 0, 1) := by decide +kernel
theorem dX8_sign_26 : decode cX8_sign 26 = .ok (.getfield 23, 3) := by decide +kernel
theorem dX8_sign_29 : decode cX8_sign 29 = .ok (.aload_n 0, 1) := by decide +kernel
theorem dX8_sign_30 : decode cX8_sign 30 = .ok (.getfield 9, 3) := by decide +kernel
theorem dX8_sign_33 : decode cX8_sign 33 = .ok (.arraylength, 1) := by decide +kernel
theorem dX8_sign_34 : decode cX8_sign 34 = .ok (.if_icmp .ge 15, 3) := by decide +kernel
theorem dX8_sign_37 : decode cX8_sign 37 = .ok (.aload_n 0, 1) := by decide +kernel
theorem dX8_sign_38 : decode cX8_sign 38 = .ok (.getfield 9, 3) := by decide +kernel
theorem dX8_sign_41 : decode cX8_sign 41 = .ok (.aload_n 0, 1) := by decide +kernel
theorem dX8_sign_42 : decode cX8_sign 42 = .ok (.getfield 23, 3) := by decide +kernel
theorem dX8_sign_45 : decode cX8_sign 45 = .ok (.iaload, 1) := by decide +kernel
theorem dX8_sign_46 : decode cX8_sign 46 = .ok (.goto 4, 3) := by decide +kernel
theorem dX8_sign_49 : decode cX8_sign 49 = .ok (.iconst (-1), 1) := by decide +kernel
theorem dX8_sign_50 : decode cX8_sign 50 = .ok (.ireturn, 1) := by decide +kernel
theorem dX8_step_0 : decode cX8_step 0 = .ok (.aload_n 0, 1) := by decide +kernel
theorem dX8_step_1 : decode cX8_step 1 = .ok (.getfield 23, 3) := by decide +kernel
theorem dX8_step_4 : decode cX8_step 4 = .ok (.aload_n 0, 1) := by decide +kernel
theorem dX8_step_5 : decode cX8_step 5 = .ok (.getfield 32, 3) := by decide +kernel
theorem dX8_step_8 : decode cX8_step 8 = .ok (.if_icmp .ge 13, 3) := by decide +kernel
theorem dX8_step_11 : decode cX8_step 11 = .ok (.aload_n 0, 1) := by decide +kernel
theorem dX8_step_12 : decode cX8_step 12 = .ok (.dup, 1) := by decide +kernel
theorem dX8_step_13 : decode cX8_step 13 = .ok (.getfield 23, 3) := by decide +kernel
theorem dX8_step_16 : decode cX8_step 16 = .ok (.iconst 1, 1) := by decide +kernel
theorem dX8_step_17 : decode cX8_step 17 = .ok (.iadd, 1) := by decide +kernel
theorem dX8_step_18 : decode cX8_step 18 = .ok (.putfield 23, 3) := by decide +kernel
theorem dX8_step_21 : decode cX8_step 21 = .ok (.return_, 1) := by decide +kernel
theorem dX8_takes_0 : decode cX8_takes 0 = .ok (.aload_n 0, 1) := by decide +kernel
theorem dX8_takes_1 : decode cX8_takes 1 = .ok (.invokevirtual 38, 3) := by decide +kernel
theorem dX8_takes_4 : decode cX8_takes 4 = .ok (.iload_n 1, 1) := by decide +kernel
theorem dX8_takes_5 : decode cX8_takes 5 = .ok (.if_icmp .ne 7, 3) := by decide +kernel
theorem dX8_takes_8 : decode cX8_takes 8 = .ok (.iconst 1, 1) := by decide +kernel
theorem dX8_takes_9 : decode cX8_takes 9 = .ok (.goto 4, 3) := by decide +kernel
theorem dX8_takes_12 : decode cX8_takes 12 = .ok (.iconst 0, 1) := by decide +kernel
theorem dX8_takes_13 : decode cX8_takes 13 = .ok (.istore_n 2, 1) := by decide +kernel
theorem dX8_takes_14 : decode cX8_takes 14 = .ok (.iload_n 2, 1) := by decide +kernel
theorem dX8_takes_15 : decode cX8_takes 15 = .ok (.ifCond .eq 7, 3) := by decide +kernel
theorem dX8_takes_18 : decode cX8_takes 18 = .ok (.aload_n 0, 1) := by decide +kernel
theorem dX8_takes_19 : decode cX8_takes 19 = .ok (.invokevirtual 42, 3) := by decide +kernel
theorem dX8_takes_22 : decode cX8_takes 22 = .ok (.iload_n 2, 1) := by decide +kernel
theorem dX8_takes_23 : decode cX8_takes 23 = .ok (.ireturn, 1) := by decide +kernel
theorem dX8_expect_0 : decode cX8_expect 0 = .ok (.aload_n 0, 1) := by decide +kernel
theorem dX8_expect_1 : decode cX8_expect 1 = .ok (.invokevirtual 38, 3) := by decide +kernel
theorem dX8_expect_4 : decode cX8_expect 4 = .ok (.iload_n 1, 1) := by decide +kernel
theorem dX8_expect_5 : decode cX8_expect 5 = .ok (.if_icmp .ne 10, 3) := by decide +kernel
theorem dX8_expect_8 : decode cX8_expect 8 = .ok (.aload_n 0, 1) := by decide +kernel
theorem dX8_expect_9 : decode cX8_expect 9 = .ok (.invokevirtual 42, 3) := by decide +kernel
theorem dX8_expect_12 : decode cX8_expect 12 = .ok (.goto 8, 3) := by decide +kernel
theorem dX8_expect_15 : decode cX8_expect 15 = .ok (.aload_n 0, 1) := by decide +kernel
theorem dX8_expect_16 : decode cX8_expect 16 = .ok (.iconst 1, 1) := by decide +kernel
theorem dX8_expect_17 : decode cX8_expect 17 = .ok (.invokevirtual 45, 3) := by decide +kernel
theorem dX8_expect_20 : decode cX8_expect 20 = .ok (.return_, 1) := by decide +kernel
theorem dX8_endText_0 : decode cX8_endText 0 = .ok (.aload_n 0, 1) := by decide +kernel
theorem dX8_endText_1 : decode cX8_endText 1 = .ok (.getfield 23, 3) := by decide +kernel
theorem dX8_endText_4 : decode cX8_endText 4 = .ok (.aload_n 0, 1) := by decide +kernel
theorem dX8_endText_5 : decode cX8_endText 5 = .ok (.getfield 32, 3) := by decide +kernel
theorem dX8_endText_8 : decode cX8_endText 8 = .ok (.if_icmp .ge 8, 3) := by decide +kernel
theorem dX8_endText_11 : decode cX8_endText 11 = .ok (.aload_n 0, 1) := by decide +kernel
theorem dX8_endText_12 : decode cX8_endText 12 = .ok (.iconst 1, 1) := by decide +kernel
theorem dX8_endText_13 : decode cX8_endText 13 = .ok (.invokevirtual 45, 3) := by decide +kernel
theorem dX8_endText_16 : decode cX8_endText 16 = .ok (.return_, 1) := by decide +kernel
theorem dX8_fail_0 : decode cX8_fail 0 = .ok (.aload_n 0, 1) := by decide +kernel
theorem dX8_fail_1 : decode cX8_fail 1 = .ok (.getfield 35, 3) := by decide +kernel
theorem dX8_fail_4 : decode cX8_fail 4 = .ok (.ifCond .ne 17, 3) := by decide +kernel
theorem dX8_fail_7 : decode cX8_fail 7 = .ok (.aload_n 0, 1) := by decide +kernel
theorem dX8_fail_8 : decode cX8_fail 8 = .ok (.sipush (-1000), 3) := by decide +kernel
theorem dX8_fail_11 : decode cX8_fail 11 = .ok (.iload_n 1, 1) := by decide +kernel
theorem dX8_fail_12 : decode cX8_fail 12 = .ok (.imul, 1) := by decide +kernel
theorem dX8_fail_13 : decode cX8_fail 13 = .ok (.aload_n 0, 1) := by decide +kernel
theorem dX8_fail_14 : decode cX8_fail 14 = .ok (.getfield 23, 3) := by decide +kernel
theorem dX8_fail_17 : decode cX8_fail 17 = .ok (.isub, 1) := by decide +kernel
theorem dX8_fail_18 : decode cX8_fail 18 = .ok (.putfield 35, 3) := by decide +kernel
theorem dX8_fail_21 : decode cX8_fail 21 = .ok (.return_, 1) := by decide +kernel
theorem dX8_isSound_0 : decode cX8_isSound 0 = .ok (.aload_n 0, 1) := by decide +kernel
theorem dX8_isSound_1 : decode cX8_isSound 1 = .ok (.getfield 35, 3) := by decide +kernel
theorem dX8_isSound_4 : decode cX8_isSound 4 = .ok (.ifCond .ne 7, 3) := by decide +kernel
theorem dX8_isSound_7 : decode cX8_isSound 7 = .ok (.iconst 1, 1) := by decide +kernel
theorem dX8_isSound_8 : decode cX8_isSound 8 = .ok (.goto 4, 3) := by decide +kernel
theorem dX8_isSound_11 : decode cX8_isSound 11 = .ok (.iconst 0, 1) := by decide +kernel
theorem dX8_isSound_12 : decode cX8_isSound 12 = .ok (.ireturn, 1) := by decide +kernel
theorem dX9_init_0 : decode cX9_init 0 = .ok (.aload_n 0, 1) := by decide +kernel
theorem dX9_init_1 : decode cX9_init 1 = .ok (.invokespecial 3, 3) := by decide +kernel
theorem dX9_init_4 : decode cX9_init 4 = .ok (.aload_n 0, 1) := by decide +kernel
theorem dX9_init_5 : decode cX9_init 5 = .ok (.bipush 12, 2) := by decide +kernel
theorem dX9_init_7 : decode cX9_init 7 = .ok (.newarray .int, 2) := by decide +kernel
theorem dX9_init_9 : decode cX9_init 9 = .ok (.putfield 9, 3) := by decide +kernel
theorem dX9_init_12 : decode cX9_init 12 = .ok (.aload_n 0, 1) := by decide +kernel
theorem dX9_init_13 : decode cX9_init 13 = .ok (.bipush 6, 2) := by decide +kernel
theorem dX9_init_15 : decode cX9_init 15 = .ok (.newarray .int, 2) := by decide +kernel
theorem dX9_init_17 : decode cX9_init 17 = .ok (.putfield 15, 3) := by decide +kernel
theorem dX9_init_20 : decode cX9_init 20 = .ok (.aload_n 0, 1) := by decide +kernel
theorem dX9_init_21 : decode cX9_init 21 = .ok (.bipush 9, 2) := by decide +kernel
theorem dX9_init_23 : decode cX9_init 23 = .ok (.newarray .int, 2) := by decide +kernel
theorem dX9_init_25 : decode cX9_init 25 = .ok (.putfield 18, 3) := by decide +kernel
theorem dX9_init_28 : decode cX9_init 28 = .ok (.aload_n 0, 1) := by decide +kernel
theorem dX9_init_29 : decode cX9_init 29 = .ok (.new 21, 3) := by decide +kernel
theorem dX9_init_32 : decode cX9_init 32 = .ok (.dup, 1) := by decide +kernel
theorem dX9_init_33 : decode cX9_init 33 = .ok (.invokespecial 23, 3) := by decide +kernel
theorem dX9_init_36 : decode cX9_init 36 = .ok (.putfield 24, 3) := by decide +kernel
theorem dX9_init_39 : decode cX9_init 39 = .ok (.aload_n 0, 1) := by decide +kernel
theorem dX9_init_40 : decode cX9_init 40 = .ok (.new 21, 3) := by decide +kernel
theorem dX9_init_43 : decode cX9_init 43 = .ok (.dup, 1) := by decide +kernel
theorem dX9_init_44 : decode cX9_init 44 = .ok (.invokespecial 23, 3) := by decide +kernel
theorem dX9_init_47 : decode cX9_init 47 = .ok (.putfield 28, 3) := by decide +kernel
theorem dX9_init_50 : decode cX9_init 50 = .ok (.aload_n 0, 1) := by decide +kernel
theorem dX9_init_51 : decode cX9_init 51 = .ok (.new 21, 3) := by decide +kernel
theorem dX9_init_54 : decode cX9_init 54 = .ok (.dup, 1) := by decide +kernel
theorem dX9_init_55 : decode cX9_init 55 = .ok (.invokespecial 23, 3) := by decide +kernel
theorem dX9_init_58 : decode cX9_init 58 = .ok (.putfield 31, 3) := by decide +kernel
theorem dX9_init_61 : decode cX9_init 61 = .ok (.return_, 1) := by decide +kernel
theorem dX9_sizesOf_0 : decode cX9_sizesOf 0 = .ok (.iload_n 1, 1) := by decide +kernel
theorem dX9_sizesOf_1 : decode cX9_sizesOf 1 = .ok (.invokestatic 34, 3) := by decide +kernel
theorem dX9_sizesOf_4 : decode cX9_sizesOf 4 = .ok (.ifCond .eq 12, 3) := by decide +kernel
theorem dX9_sizesOf_7 : decode cX9_sizesOf 7 = .ok (.aload_n 0, 1) := by decide +kernel
theorem dX9_sizesOf_8 : decode cX9_sizesOf 8 = .ok (.getfield 9, 3) := by decide +kernel
theorem dX9_sizesOf_11 : decode cX9_sizesOf 11 = .ok (.iload_n 1, 1) := by decide +kernel
theorem dX9_sizesOf_12 : decode cX9_sizesOf 12 = .ok (.iaload, 1) := by decide +kernel
theorem dX9_sizesOf_13 : decode cX9_sizesOf 13 = .ok (.goto 4, 3) := by decide +kernel
theorem dX9_sizesOf_16 : decode cX9_sizesOf 16 = .ok (.iconst 0, 1) := by decide +kernel
theorem dX9_sizesOf_17 : decode cX9_sizesOf 17 = .ok (.ireturn, 1) := by decide +kernel
theorem dX9_setSizes_0 : decode cX9_setSizes 0 = .ok (.iload_n 1, 1) := by decide +kernel
theorem dX9_setSizes_1 : decode cX9_setSizes 1 = .ok (.invokestatic 34, 3) := by decide +kernel
theorem dX9_setSizes_4 : decode cX9_setSizes 4 = .ok (.ifCond .eq 10, 3) := by decide +kernel
theorem dX9_setSizes_7 : decode cX9_setSizes 7 = .ok (.aload_n 0, 1) := by decide +kernel
theorem dX9_setSizes_8 : decode cX9_setSizes 8 = .ok (.getfield 9, 3) := by decide +kernel
theorem dX9_setSizes_11 : decode cX9_setSizes 11 = .ok (.iload_n 1, 1) := by decide +kernel
theorem dX9_setSizes_12 : decode cX9_setSizes 12 = .ok (.iload_n 2, 1) := by decide +kernel
theorem dX9_setSizes_13 : decode cX9_setSizes 13 = .ok (.iastore, 1) := by decide +kernel
theorem dX9_setSizes_14 : decode cX9_setSizes 14 = .ok (.return_, 1) := by decide +kernel
theorem dX9_bitOf_0 : decode cX9_bitOf 0 = .ok (.iload_n 2, 1) := by decide +kernel
theorem dX9_bitOf_1 : decode cX9_bitOf 1 = .ok (.iconst 1, 1) := by decide +kernel
theorem dX9_bitOf_2 : decode cX9_bitOf 2 = .ok (.if_icmp .lt 21, 3) := by decide +kernel
theorem dX9_bitOf_5 : decode cX9_bitOf 5 = .ok (.iload_n 2, 1) := by decide +kernel
theorem dX9_bitOf_6 : decode cX9_bitOf 6 = .ok (.bipush 24, 2) := by decide +kernel
theorem dX9_bitOf_8 : decode cX9_bitOf 8 = .ok (.if_icmp .gt 15, 3) := by decide +kernel
theorem dX9_bitOf_11 : decode cX9_bitOf 11 = .ok (.aload_n 0, 1) := by decide +kernel
theorem dX9_bitOf_12 : decode cX9_bitOf 12 = .ok (.iload_n 1, 1) := by decide +kernel
theorem dX9_bitOf_13 : decode cX9_bitOf 13 = .ok (.invokevirtual 38, 3) := by decide +kernel
theorem dX9_bitOf_16 : decode cX9_bitOf 16 = .ok (.iconst 1, 1) := by decide +kernel
theorem dX9_bitOf_17 : decode cX9_bitOf 17 = .ok (.iload_n 2, 1) := by decide +kernel
theorem dX9_bitOf_18 : decode cX9_bitOf 18 = .ok (.ishl, 1) := by decide +kernel
theorem dX9_bitOf_19 : decode cX9_bitOf 19 = .ok (.iand, 1) := by decide +kernel
theorem dX9_bitOf_20 : decode cX9_bitOf 20 = .ok (.goto 4, 3) := by decide +kernel
theorem dX9_bitOf_23 : decode cX9_bitOf 23 = .ok (.iconst 0, 1) := by decide +kernel
theorem dX9_bitOf_24 : decode cX9_bitOf 24 = .ok (.ireturn, 1) := by decide +kernel
theorem dX9_sayable_0 : decode cX9_sayable 0 = .ok (.iconst 0, 1) := by decide +kernel
theorem dX9_sayable_1 : decode cX9_sayable 1 = .ok (.istore_n 1, 1) := by decide +kernel
theorem dX9_sayable_2 : decode cX9_sayable 2 = .ok (.iconst 0, 1) := by decide +kernel
theorem dX9_sayable_3 : decode cX9_sayable 3 = .ok (.istore_n 2, 1) := by decide +kernel
theorem dX9_sayable_4 : decode cX9_sayable 4 = .ok (.iload_n 2, 1) := by decide +kernel
theorem dX9_sayable_5 : decode cX9_sayable 5 = .ok (.bipush 12, 2) := by decide +kernel
theorem dX9_sayable_7 : decode cX9_sayable 7 = .ok (.if_icmp .ge 28, 3) := by decide +kernel
theorem dX9_sayable_10 : decode cX9_sayable 10 = .ok (.iload_n 1, 1) := by decide +kernel
theorem dX9_sayable_11 : decode cX9_sayable 11 = .ok (.aload_n 0, 1) := by decide +kernel
theorem dX9_sayable_12 : decode cX9_sayable 12 = .ok (.getfield 9, 3) := by decide +kernel
theorem dX9_sayable_15 : decode cX9_sayable 15 = .ok (.iload_n 2, 1) := by decide +kernel
theorem dX9_sayable_16 : decode cX9_sayable 16 = .ok (.iaload, 1) := by decide +kernel
theorem dX9_sayable_17 : decode cX9_sayable 17 = .ok (.ifCond .eq 9, 3) := by decide +kernel
theorem dX9_sayable_20 : decode cX9_sayable 20 = .ok (.iconst 1, 1) := by decide +kernel
theorem dX9_sayable_21 : decode cX9_sayable 21 = .ok (.iload_n 2, 1) := by decide +kernel
theorem dX9_sayable_22 : decode cX9_sayable 22 = .ok (.ishl, 1) := by decide +kernel
theorem dX9_sayable_23 : decode cX9_sayable 23 = .ok (.goto 4, 3) := by decide +kernel
theorem dX9_sayable_26 : decode cX9_sayable 26 = .ok (.iconst 0, 1) := by decide +kernel
theorem dX9_sayable_27 : decode cX9_sayable 27 = .ok (.ior, 1) := by decide +kernel
theorem dX9_sayable_28 : decode cX9_sayable 28 = .ok (.istore_n 1, 1) := by decide +kernel
theorem dX9_sayable_29 : decode cX9_sayable 29 = .ok (.iinc 2 1, 3) := by decide +kernel
theorem dX9_sayable_32 : decode cX9_sayable 32 = .ok (.goto (-28), 3) := by decide +kernel
theorem dX9_sayable_35 : decode cX9_sayable 35 = .ok (.iload_n 1, 1) := by decide +kernel
theorem dX9_sayable_36 : decode cX9_sayable 36 = .ok (.ireturn, 1) := by decide +kernel
theorem dX9_allSizes_0 : decode cX9_allSizes 0 = .ok (.iconst 0, 1) := by decide +kernel
theorem dX9_allSizes_1 : decode cX9_allSizes 1 = .ok (.istore_n 1, 1) := by decide +kernel
theorem dX9_allSizes_2 : decode cX9_allSizes 2 = .ok (.iconst 0, 1) := by decide +kernel
theorem dX9_allSizes_3 : decode cX9_allSizes 3 = .ok (.istore_n 2, 1) := by decide +kernel
theorem dX9_allSizes_4 : decode cX9_allSizes 4 = .ok (.iload_n 2, 1) := by decide +kernel
theorem dX9_allSizes_5 : decode cX9_allSizes 5 = .ok (.bipush 12, 2) := by decide +kernel
theorem dX9_allSizes_7 : decode cX9_allSizes 7 = .ok (.if_icmp .ge 18, 3) := by decide +kernel
theorem dX9_allSizes_10 : decode cX9_allSizes 10 = .ok (.iload_n 1, 1) := by decide +kernel
theorem dX9_allSizes_11 : decode cX9_allSizes 11 = .ok (.aload_n 0, 1) := by decide +kernel
theorem dX9_allSizes_12 : decode cX9_allSizes 12 = .ok (.getfield 9, 3) := by decide +kernel
theorem dX9_allSizes_15 : decode cX9_allSizes 15 = .ok (.iload_n 2, 1) := by decide +kernel
theorem dX9_allSizes_16 : decode cX9_allSizes 16 = .ok (.iaload, 1) := by decide +kernel
theorem dX9_allSizes_17 : decode cX9_allSizes 17 = .ok (.ior, 1) := by decide +kernel
theorem dX9_allSizes_18 : decode cX9_allSizes 18 = .ok (.istore_n 1, 1) := by decide +kernel
theorem dX9_allSizes_19 : decode cX9_allSizes 19 = .ok (.iinc 2 1, 3) := by decide +kernel
theorem dX9_allSizes_22 : decode cX9_allSizes 22 = .ok (.goto (-18), 3) := by decide +kernel
theorem dX9_allSizes_25 : decode cX9_allSizes 25 = .ok (.iload_n 1, 1) := by decide +kernel
theorem dX9_allSizes_26 : decode cX9_allSizes 26 = .ok (.ireturn, 1) := by decide +kernel
theorem dX9_colourOf_0 : decode cX9_colourOf 0 = .ok (.iload_n 1, 1) := by decide +kernel
theorem dX9_colourOf_1 : decode cX9_colourOf 1 = .ok (.invokestatic 42, 3) := by decide +kernel
theorem dX9_colourOf_4 : decode cX9_colourOf 4 = .ok (.ifCond .eq 12, 3) := by decide +kernel
theorem dX9_colourOf_7 : decode cX9_colourOf 7 = .ok (.aload_n 0, 1) := by decide +kernel
theorem dX9_colourOf_8 : decode cX9_colourOf 8 = .ok (.getfield 15, 3) := by decide +kernel
theorem dX9_colourOf_11 : decode cX9_colourOf 11 = .ok (.iload_n 1, 1) := by decide +kernel
theorem dX9_colourOf_12 : decode cX9_colourOf 12 = .ok (.iaload, 1) := by decide +kernel
theorem dX9_colourOf_13 : decode cX9_colourOf 13 = .ok (.goto 4, 3) := by decide +kernel
theorem dX9_colourOf_16 : decode cX9_colourOf 16 = .ok (.iconst 0, 1) := by decide +kernel
theorem dX9_colourOf_17 : decode cX9_colourOf 17 = .ok (.ireturn, 1) := by decide +kernel
theorem dX9_setColour_0 : decode cX9_setColour 0 = .ok (.iload_n 1, 1) := by decide +kernel
theorem dX9_setColour_1 : decode cX9_setColour 1 = .ok (.invokestatic 42, 3) := by decide +kernel
theorem dX9_setColour_4 : decode cX9_setColour 4 = .ok (.ifCond .eq 10, 3) := by decide +kernel
theorem dX9_setColour_7 : decode cX9_setColour 7 = .ok (.aload_n 0, 1) := by decide +kernel
theorem dX9_setColour_8 : decode cX9_setColour 8 = .ok (.getfield 15, 3) := by decide +kernel
theorem dX9_setColour_11 : decode cX9_setColour 11 = .ok (.iload_n 1, 1) := by decide +kernel
theorem dX9_setColour_12 : decode cX9_setColour 12 = .ok (.iload_n 2, 1) := by decide +kernel
theorem dX9_setColour_13 : decode cX9_setColour 13 = .ok (.iastore, 1) := by decide +kernel
theorem dX9_setColour_14 : decode cX9_setColour 14 = .ok (.return_, 1) := by decide +kernel
theorem dX9_takeSpare_0 : decode cX9_takeSpare 0 = .ok (.iload_n 1, 1) := by decide +kernel
theorem dX9_takeSpare_1 : decode cX9_takeSpare 1 = .ok (.ifCond .ne 10, 3) := by decide +kernel
theorem dX9_takeSpare_4 : decode cX9_takeSpare 4 = .ok (.aload_n 0, 1) := by decide +kernel
theorem dX9_takeSpare_5 : decode cX9_takeSpare 5 = .ok (.getfield 24, 3) := by decide +kernel
theorem dX9_takeSpare_8 : decode cX9_takeSpare 8 = .ok (.goto 7, 3) := by decide +kernel
theorem dX9_takeSpare_11 : decode cX9_takeSpare 11 = .ok (.aload_n 0, 1) := by decide +kernel
theorem dX9_takeSpare_12 : decode cX9_takeSpare 12 = .ok (.getfield 28, 3) := by decide +kernel
theorem dX9_takeSpare_15 : decode cX9_takeSpare 15 = .ok (.astore_n 2, 1) := by decide +kernel
theorem dX9_takeSpare_16 : decode cX9_takeSpare 16 = .ok (.iload_n 1, 1) := by decide +kernel
theorem dX9_takeSpare_17 : decode cX9_takeSpare 17 = .ok (.ifCond .ne 14, 3) := by decide +kernel
theorem dX9_takeSpare_20 : decode cX9_takeSpare 20 = .ok (.aload_n 0, 1) := by decide +kernel
theorem dX9_takeSpare_21 : decode cX9_takeSpare 21 = .ok (.aload_n 0, 1) := by decide +kernel
theorem dX9_takeSpare_22 : decode cX9_takeSpare 22 = .ok (.getfield 31, 3) := by decide +kernel
theorem dX9_takeSpare_25 : decode cX9_takeSpare 25 = .ok (.putfield 24, 3) := by decide +kernel
theorem dX9_takeSpare_28 : decode cX9_takeSpare 28 = .ok (.goto 11, 3) := by decide +kernel
theorem dX9_takeSpare_31 : decode cX9_takeSpare 31 = .ok (.aload_n 0, 1) := by decide +kernel
theorem dX9_takeSpare_32 : decode cX9_takeSpare 32 = .ok (.aload_n 0, 1) := by decide +kernel
theorem dX9_takeSpare_33 : decode cX9_takeSpare 33 = .ok (.getfield 31, 3) := by decide +kernel
theorem dX9_takeSpare_36 : decode cX9_takeSpare 36 = .ok (.putfield 28, 3) := by decide +kernel
theorem dX9_takeSpare_39 : decode cX9_takeSpare 39 = .ok (.aload_n 0, 1) := by decide +kernel
theorem dX9_takeSpare_40 : decode cX9_takeSpare 40 = .ok (.aload_n 2, 1) := by decide +kernel
theorem dX9_takeSpare_41 : decode cX9_takeSpare 41 = .ok (.putfield 31, 3) := by decide +kernel
theorem dX9_takeSpare_44 : decode cX9_takeSpare 44 = .ok (.return_, 1) := by decide +kernel
theorem dX9_asks_0 : decode cX9_asks 0 = .ok (.iload_n 1, 1) := by decide +kernel
theorem dX9_asks_1 : decode cX9_asks 1 = .ok (.iconst 1, 1) := by decide +kernel
theorem dX9_asks_2 : decode cX9_asks 2 = .ok (.iand, 1) := by decide +kernel
theorem dX9_asks_3 : decode cX9_asks 3 = .ok (.ifCond .eq 13, 3) := by decide +kernel
theorem dX9_asks_6 : decode cX9_asks 6 = .ok (.aload_n 0, 1) := by decide +kernel
theorem dX9_asks_7 : decode cX9_asks 7 = .ok (.getfield 24, 3) := by decide +kernel
theorem dX9_asks_10 : decode cX9_asks 10 = .ok (.getfield 45, 3) := by decide +kernel
theorem dX9_asks_13 : decode cX9_asks 13 = .ok (.goto 4, 3) := by decide +kernel
theorem dX9_asks_16 : decode cX9_asks 16 = .ok (.iconst 0, 1) := by decide +kernel
theorem dX9_asks_17 : decode cX9_asks 17 = .ok (.istore_n 2, 1) := by decide +kernel
theorem dX9_asks_18 : decode cX9_asks 18 = .ok (.iload_n 1, 1) := by decide +kernel
theorem dX9_asks_19 : decode cX9_asks 19 = .ok (.iconst 2, 1) := by decide +kernel
theorem dX9_asks_20 : decode cX9_asks 20 = .ok (.iand, 1) := by decide +kernel
theorem dX9_asks_21 : decode cX9_asks 21 = .ok (.ifCond .eq 15, 3) := by decide +kernel
theorem dX9_asks_24 : decode cX9_asks 24 = .ok (.iload_n 2, 1) := by decide +kernel
theorem dX9_asks_25 : decode cX9_asks 25 = .ok (.aload_n 0, 1) := by decide +kernel
theorem dX9_asks_26 : decode cX9_asks 26 = .ok (.getfield 28, 3) := by decide +kernel
theorem dX9_asks_29 : decode cX9_asks 29 = .ok (.getfield 45, 3) := by decide +kernel
theorem dX9_asks_32 : decode cX9_asks 32 = .ok (.ior, 1) := by decide +kernel
theorem dX9_asks_33 : decode cX9_asks 33 = .ok (.goto 4, 3) := by decide +kernel
theorem dX9_asks_36 : decode cX9_asks 36 = .ok (.iload_n 2, 1) := by decide +kernel
theorem dX9_asks_37 : decode cX9_asks 37 = .ok (.ireturn, 1) := by decide +kernel
theorem dX9_differing_0 : decode cX9_differing 0 = .ok (.iload_n 2, 1) := by decide +kernel
theorem dX9_differing_1 : decode cX9_differing 1 = .ok (.bipush 68, 2) := by decide +kernel
theorem dX9_differing_3 : decode cX9_differing 3 = .ok (.iand, 1) := by decide +kernel
theorem dX9_differing_4 : decode cX9_differing 4 = .ok (.ifCond .eq 7, 3) := by decide +kernel
theorem dX9_differing_7 : decode cX9_differing 7 = .ok (.iconst 1, 1) := by decide +kernel
theorem dX9_differing_8 : decode cX9_differing 8 = .ok (.goto 4, 3) := by decide +kernel
theorem dX9_differing_11 : decode cX9_differing 11 = .ok (.iconst 0, 1) := by decide +kernel
theorem dX9_differing_12 : decode cX9_differing 12 = .ok (.istore_n 3, 1) := by decide +kernel
theorem dX9_differing_13 : decode cX9_differing 13 = .ok (.iload_n 2, 1) := by decide +kernel
theorem dX9_differing_14 : decode cX9_differing 14 = .ok (.sipush 136, 3) := by decide +kernel
theorem dX9_differing_17 : decode cX9_differing 17 = .ok (.iand, 1) := by decide +kernel
theorem dX9_differing_18 : decode cX9_differing 18 = .ok (.ifCond .eq 7, 3) := by decide +kernel
theorem dX9_differing_21 : decode cX9_differing 21 = .ok (.iconst 1, 1) := by decide +kernel
theorem dX9_differing_22 : decode cX9_differing 22 = .ok (.goto 4, 3) := by decide +kernel
theorem dX9_differing_25 : decode cX9_differing 25 = .ok (.iconst 0, 1) := by decide +kernel
theorem dX9_differing_26 : decode cX9_differing 26 = .ok (.istore 4, 2) := by decide +kernel
theorem dX9_differing_28 : decode cX9_differing 28 = .ok (.iconst 0, 1) := by decide +kernel
theorem dX9_differing_29 : decode cX9_differing 29 = .ok (.istore 5, 2) := by decide +kernel
theorem dX9_differing_31 : decode cX9_differing 31 = .ok (.iconst 0, 1) := by decide +kernel
theorem dX9_differing_32 : decode cX9_differing 32 = .ok (.istore 6, 2) := by decide +kernel
theorem dX9_differing_34 : decode cX9_differing 34 = .ok (.iconst 0, 1) := by decide +kernel
theorem dX9_differing_35 : decode cX9_differing 35 = .ok (.istore 7, 2) := by decide +kernel
theorem dX9_differing_37 : decode cX9_differing 37 = .ok (.iload 7, 2) := by decide +kernel
theorem dX9_differing_39 : decode cX9_differing 39 = .ok (.bipush 6, 2) := by decide +kernel
theorem dX9_differing_41 : decode cX9_differing 41 = .ok (.if_icmp .ge 66, 3) := by decide +kernel
theorem dX9_differing_44 : decode cX9_differing 44 = .ok (.iconst 1, 1) := by decide +kernel
theorem dX9_differing_45 : decode cX9_differing 45 = .ok (.iload 4, 2) := by decide +kernel
theorem dX9_differing_47 : decode cX9_differing 47 = .ok (.ifCond .eq 13, 3) := by decide +kernel
theorem dX9_differing_50 : decode cX9_differing 50 = .ok (.aload_n 0, 1) := by decide +kernel
theorem dX9_differing_51 : decode cX9_differing 51 = .ok (.getfield 15, 3) := by decide +kernel
theorem dX9_differing_54 : decode cX9_differing 54 = .ok (.iload 7, 2) := by decide +kernel
theorem dX9_differing_56 : decode cX9_differing 56 = .ok (.iaload, 1) := by decide +kernel
theorem dX9_differing_57 : decode cX9_differing 57 = .ok (.goto 4, 3) := by decide +kernel
theorem dX9_differing_60 : decode cX9_differing 60 = .ok (.iconst 0, 1) := by decide +kernel
theorem dX9_differing_61 : decode cX9_differing 61 = .ok (.ishl, 1) := by decide +kernel
theorem dX9_differing_62 : decode cX9_differing 62 = .ok (.istore 8, 2) := by decide +kernel
theorem dX9_differing_64 : decode cX9_differing 64 = .ok (.iload_n 1, 1) := by decide +kernel
theorem dX9_differing_65 : decode cX9_differing 65 = .ok (.iload 7, 2) := by decide +kernel
theorem dX9_differing_67 : decode cX9_differing 67 = .ok (.ishr, 1) := by decide +kernel
theorem dX9_differing_68 : decode cX9_differing 68 = .ok (.iconst 1, 1) := by decide +kernel
theorem dX9_differing_69 : decode cX9_differing 69 = .ok (.iand, 1) := by decide +kernel
theorem dX9_differing_70 : decode cX9_differing 70 = .ok (.ifCond .eq 31, 3) := by decide +kernel
theorem dX9_differing_73 : decode cX9_differing 73 = .ok (.iload_n 3, 1) := by decide +kernel
theorem dX9_differing_74 : decode cX9_differing 74 = .ok (.ifCond .ne 11, 3) := by decide +kernel
theorem dX9_differing_77 : decode cX9_differing 77 = .ok (.iload 6, 2) := by decide +kernel
theorem dX9_differing_79 : decode cX9_differing 79 = .ok (.iload 8, 2) := by decide +kernel
theorem dX9_differing_81 : decode cX9_differing 81 = .ok (.iand, 1) := by decide +kernel
theorem dX9_differing_82 : decode cX9_differing 82 = .ok (.ifCond .ne 19, 3) := by decide +kernel
theorem dX9_differing_85 : decode cX9_differing 85 = .ok (.iload 5, 2) := by decide +kernel
theorem dX9_differing_87 : decode cX9_differing 87 = .ok (.iconst 1, 1) := by decide +kernel
theorem dX9_differing_88 : decode cX9_differing 88 = .ok (.iload 7, 2) := by decide +kernel
theorem dX9_differing_90 : decode cX9_differing 90 = .ok (.ishl, 1) := by decide +kernel
theorem dX9_differing_91 : decode cX9_differing 91 = .ok (.ior, 1) := by decide +kernel
theorem dX9_differing_92 : decode cX9_differing 92 = .ok (.istore 5, 2) := by decide +kernel
theorem dX9_differing_94 : decode cX9_differing 94 = .ok (.iload 6, 2) := by decide +kernel
theorem dX9_differing_96 : decode cX9_differing 96 = .ok (.iload 8, 2) := by decide +kernel
theorem dX9_differing_98 : decode cX9_differing 98 = .ok (.ior, 1) := by decide +kernel
theorem dX9_differing_99 : decode cX9_differing 99 = .ok (.istore 6, 2) := by decide +kernel
theorem dX9_differing_101 : decode cX9_differing 101 = .ok (.iinc 7 1, 3) := by decide +kernel
theorem dX9_differing_104 : decode cX9_differing 104 = .ok (.goto (-67), 3) := by decide +kernel
theorem dX9_differing_107 : decode cX9_differing 107 = .ok (.iload 5, 2) := by decide +kernel
theorem dX9_differing_109 : decode cX9_differing 109 = .ok (.ireturn, 1) := by decide +kernel
theorem dX9_stand_0 : decode cX9_stand 0 = .ok (.aload_n 0, 1) := by decide +kernel
theorem dX9_stand_1 : decode cX9_stand 1 = .ok (.getfield 18, 3) := by decide +kernel
theorem dX9_stand_4 : decode cX9_stand 4 = .ok (.iconst 4, 1) := by decide +kernel
theorem dX9_stand_5 : decode cX9_stand 5 = .ok (.iload_n 1, 1) := by decide +kernel
theorem dX9_stand_6 : decode cX9_stand 6 = .ok (.iastore, 1) := by decide +kernel
theorem dX9_stand_7 : decode cX9_stand 7 = .ok (.aload_n 0, 1) := by decide +kernel
theorem dX9_stand_8 : decode cX9_stand 8 = .ok (.getfield 18, 3) := by decide +kernel
theorem dX9_stand_11 : decode cX9_stand 11 = .ok (.iconst 5, 1) := by decide +kernel
theorem dX9_stand_12 : decode cX9_stand 12 = .ok (.iload_n 2, 1) := by decide +kernel
theorem dX9_stand_13 : decode cX9_stand 13 = .ok (.iastore, 1) := by decide +kernel
theorem dX9_stand_14 : decode cX9_stand 14 = .ok (.aload_n 0, 1) := by decide +kernel
theorem dX9_stand_15 : decode cX9_stand 15 = .ok (.getfield 18, 3) := by decide +kernel
theorem dX9_stand_18 : decode cX9_stand 18 = .ok (.bipush 6, 2) := by decide +kernel
theorem dX9_stand_20 : decode cX9_stand 20 = .ok (.iconst 0, 1) := by decide +kernel
theorem dX9_stand_21 : decode cX9_stand 21 = .ok (.iload_n 3, 1) := by decide +kernel
theorem dX9_stand_22 : decode cX9_stand 22 = .ok (.invokestatic 49, 3) := by decide +kernel
theorem dX9_stand_25 : decode cX9_stand 25 = .ok (.iastore, 1) := by decide +kernel
theorem dX9_stand_26 : decode cX9_stand 26 = .ok (.aload_n 0, 1) := by decide +kernel
theorem dX9_stand_27 : decode cX9_stand 27 = .ok (.getfield 18, 3) := by decide +kernel
theorem dX9_stand_30 : decode cX9_stand 30 = .ok (.bipush 7, 2) := by decide +kernel
theorem dX9_stand_32 : decode cX9_stand 32 = .ok (.aload_n 0, 1) := by decide +kernel
theorem dX9_stand_33 : decode cX9_stand 33 = .ok (.iload_n 3, 1) := by decide +kernel
theorem dX9_stand_34 : decode cX9_stand 34 = .ok (.invokevirtual 55, 3) := by decide +kernel
theorem dX9_stand_37 : decode cX9_stand 37 = .ok (.iastore, 1) := by decide +kernel
theorem dX9_stand_38 : decode cX9_stand 38 = .ok (.aload_n 0, 1) := by decide +kernel
theorem dX9_stand_39 : decode cX9_stand 39 = .ok (.getfield 18, 3) := by decide +kernel
theorem dX9_stand_42 : decode cX9_stand 42 = .ok (.bipush 8, 2) := by decide +kernel
theorem dX9_stand_44 : decode cX9_stand 44 = .ok (.iload 4, 2) := by decide +kernel
theorem dX9_stand_46 : decode cX9_stand 46 = .ok (.iastore, 1) := by decide +kernel
theorem dX9_stand_47 : decode cX9_stand 47 = .ok (.return_, 1) := by decide +kernel
theorem dX9_lets_0 : decode cX9_lets 0 = .ok (.aload_n 0, 1) := by decide +kernel
theorem dX9_lets_1 : decode cX9_lets 1 = .ok (.getfield 18, 3) := by decide +kernel
theorem dX9_lets_4 : decode cX9_lets 4 = .ok (.iconst 2, 1) := by decide +kernel
theorem dX9_lets_5 : decode cX9_lets 5 = .ok (.iload_n 2, 1) := by decide +kernel
theorem dX9_lets_6 : decode cX9_lets 6 = .ok (.iastore, 1) := by decide +kernel
theorem dX9_lets_7 : decode cX9_lets 7 = .ok (.aload_n 0, 1) := by decide +kernel
theorem dX9_lets_8 : decode cX9_lets 8 = .ok (.getfield 18, 3) := by decide +kernel
theorem dX9_lets_11 : decode cX9_lets 11 = .ok (.iconst 3, 1) := by decide +kernel
theorem dX9_lets_12 : decode cX9_lets 12 = .ok (.aload_n 0, 1) := by decide +kernel
theorem dX9_lets_13 : decode cX9_lets 13 = .ok (.iload_n 2, 1) := by decide +kernel
theorem dX9_lets_14 : decode cX9_lets 14 = .ok (.invokevirtual 55, 3) := by decide +kernel
theorem dX9_lets_17 : decode cX9_lets 17 = .ok (.iastore, 1) := by decide +kernel
theorem dX9_lets_18 : decode cX9_lets 18 = .ok (.aload_n 0, 1) := by decide +kernel
theorem dX9_lets_19 : decode cX9_lets 19 = .ok (.getfield 18, 3) := by decide +kernel
theorem dX9_lets_22 : decode cX9_lets 22 = .ok (.iconst 1, 1) := by decide +kernel
theorem dX9_lets_23 : decode cX9_lets 23 = .ok (.iload_n 3, 1) := by decide +kernel
theorem dX9_lets_24 : decode cX9_lets 24 = .ok (.iastore, 1) := by decide +kernel
theorem dX9_lets_25 : decode cX9_lets 25 = .ok (.iload 4, 2) := by decide +kernel
theorem dX9_lets_27 : decode cX9_lets 27 = .ok (.istore 5, 2) := by decide +kernel
theorem dX9_lets_29 : decode cX9_lets 29 = .ok (.iload_n 1, 1) := by decide +kernel
theorem dX9_lets_30 : decode cX9_lets 30 = .ok (.iconst 1, 1) := by decide +kernel
theorem dX9_lets_31 : decode cX9_lets 31 = .ok (.iand, 1) := by decide +kernel
theorem dX9_lets_32 : decode cX9_lets 32 = .ok (.ifCond .eq 18, 3) := by decide +kernel
theorem dX9_lets_35 : decode cX9_lets 35 = .ok (.aload_n 0, 1) := by decide +kernel
theorem dX9_lets_36 : decode cX9_lets 36 = .ok (.getfield 24, 3) := by decide +kernel
theorem dX9_lets_39 : decode cX9_lets 39 = .ok (.aload_n 0, 1) := by decide +kernel
theorem dX9_lets_40 : decode cX9_lets 40 = .ok (.getfield 18, 3) := by decide +kernel
theorem dX9_lets_43 : decode cX9_lets 43 = .ok (.iload 5, 2) := by decide +kernel
theorem dX9_lets_45 : decode cX9_lets 45 = .ok (.invokevirtual 58, 3) := by decide +kernel
theorem dX9_lets_48 : decode cX9_lets 48 = .ok (.istore 5, 2) := by decide +kernel
theorem dX9_lets_50 : decode cX9_lets 50 = .ok (.iload_n 1, 1) := by decide +kernel
theorem dX9_lets_51 : decode cX9_lets 51 = .ok (.iconst 2, 1) := by decide +kernel
theorem dX9_lets_52 : decode cX9_lets 52 = .ok (.iand, 1) := by decide +kernel
theorem dX9_lets_53 : decode cX9_lets 53 = .ok (.ifCond .eq 18, 3) := by decide +kernel
theorem dX9_lets_56 : decode cX9_lets 56 = .ok (.aload_n 0, 1) := by decide +kernel
theorem dX9_lets_57 : decode cX9_lets 57 = .ok (.getfield 28, 3) := by decide +kernel
theorem dX9_lets_60 : decode cX9_lets 60 = .ok (.aload_n 0, 1) := by decide +kernel
theorem dX9_lets_61 : decode cX9_lets 61 = .ok (.getfield 18, 3) := by decide +kernel
theorem dX9_lets_64 : decode cX9_lets 64 = .ok (.iload 5, 2) := by decide +kernel
theorem dX9_lets_66 : decode cX9_lets 66 = .ok (.invokevirtual 58, 3) := by decide +kernel
theorem dX9_lets_69 : decode cX9_lets 69 = .ok (.istore 5, 2) := by decide +kernel
theorem dX9_lets_71 : decode cX9_lets 71 = .ok (.iload 5, 2) := by decide +kernel
theorem dX9_lets_73 : decode cX9_lets 73 = .ok (.ireturn, 1) := by decide +kernel
theorem dX9_letsAny_0 : decode cX9_letsAny 0 = .ok (.aload_n 0, 1) := by decide +kernel
theorem dX9_letsAny_1 : decode cX9_letsAny 1 = .ok (.getfield 24, 3) := by decide +kernel
theorem dX9_letsAny_4 : decode cX9_letsAny 4 = .ok (.getfield 45, 3) := by decide +kernel
theorem dX9_letsAny_7 : decode cX9_letsAny 7 = .ok (.iconst 2, 1) := by decide +kernel
theorem dX9_letsAny_8 : decode cX9_letsAny 8 = .ok (.iand, 1) := by decide +kernel
theorem dX9_letsAny_9 : decode cX9_letsAny 9 = .ok (.ifCond .eq 7, 3) := by decide +kernel
theorem dX9_letsAny_12 : decode cX9_letsAny 12 = .ok (.iconst 1, 1) := by decide +kernel
theorem dX9_letsAny_13 : decode cX9_letsAny 13 = .ok (.goto 4, 3) := by decide +kernel
theorem dX9_letsAny_16 : decode cX9_letsAny 16 = .ok (.iconst 0, 1) := by decide +kernel
theorem dX9_letsAny_17 : decode cX9_letsAny 17 = .ok (.istore 4, 2) := by decide +kernel
theorem dX9_letsAny_19 : decode cX9_letsAny 19 = .ok (.iconst 0, 1) := by decide +kernel
theorem dX9_letsAny_20 : decode cX9_letsAny 20 = .ok (.istore 5, 2) := by decide +kernel
theorem dX9_letsAny_22 : decode cX9_letsAny 22 = .ok (.iconst 0, 1) := by decide +kernel
theorem dX9_letsAny_23 : decode cX9_letsAny 23 = .ok (.istore 6, 2) := by decide +kernel
theorem dX9_letsAny_25 : decode cX9_letsAny 25 = .ok (.iload 6, 2) := by decide +kernel
theorem dX9_letsAny_27 : decode cX9_letsAny 27 = .ok (.bipush 12, 2) := by decide +kernel
theorem dX9_letsAny_29 : decode cX9_letsAny 29 = .ok (.if_icmp .ge 64, 3) := by decide +kernel
theorem dX9_letsAny_32 : decode cX9_letsAny 32 = .ok (.iload_n 2, 1) := by decide +kernel
theorem dX9_letsAny_33 : decode cX9_letsAny 33 = .ok (.iload 6, 2) := by decide +kernel
theorem dX9_letsAny_35 : decode cX9_letsAny 35 = .ok (.ishr, 1) := by decide +kernel
theorem dX9_letsAny_36 : decode cX9_letsAny 36 = .ok (.iconst 1, 1) := by decide +kernel
theorem dX9_letsAny_37 : decode cX9_letsAny 37 = .ok (.iand, 1) := by decide +kernel
theorem dX9_letsAny_38 : decode cX9_letsAny 38 = .ok (.ifCond .eq 49, 3) := by decide +kernel
theorem dX9_letsAny_41 : decode cX9_letsAny 41 = .ok (.aload_n 0, 1) := by decide +kernel
theorem dX9_letsAny_42 : decode cX9_letsAny 42 = .ok (.getfield 9, 3) := by decide +kernel
theorem dX9_letsAny_45 : decode cX9_letsAny 45 = .ok (.iload 6, 2) := by decide +kernel
theorem dX9_letsAny_47 : decode cX9_letsAny 47 = .ok (.iaload, 1) := by decide +kernel
theorem dX9_letsAny_48 : decode cX9_letsAny 48 = .ok (.iload_n 3, 1) := by decide +kernel
theorem dX9_letsAny_49 : decode cX9_letsAny 49 = .ok (.iand, 1) := by decide +kernel
theorem dX9_letsAny_50 : decode cX9_letsAny 50 = .ok (.iload 5, 2) := by decide +kernel
theorem dX9_letsAny_52 : decode cX9_letsAny 52 = .ok (.iconst (-1), 1) := by decide +kernel
theorem dX9_letsAny_53 : decode cX9_letsAny 53 = .ok (.ixor, 1) := by decide +kernel
theorem dX9_letsAny_54 : decode cX9_letsAny 54 = .ok (.iand, 1) := by decide +kernel
theorem dX9_letsAny_55 : decode cX9_letsAny 55 = .ok (.istore 7, 2) := by decide +kernel
theorem dX9_letsAny_57 : decode cX9_letsAny 57 = .ok (.iload 5, 2) := by decide +kernel
theorem dX9_letsAny_59 : decode cX9_letsAny 59 = .ok (.iload 4, 2) := by decide +kernel
theorem dX9_letsAny_61 : decode cX9_letsAny 61 = .ok (.ifCond .eq 21, 3) := by decide +kernel
theorem dX9_letsAny_64 : decode cX9_letsAny 64 = .ok (.iload 7, 2) := by decide +kernel
theorem dX9_letsAny_66 : decode cX9_letsAny 66 = .ok (.ifCond .eq 16, 3) := by decide +kernel
theorem dX9_letsAny_69 : decode cX9_letsAny 69 = .ok (.aload_n 0, 1) := by decide +kernel
theorem dX9_letsAny_70 : decode cX9_letsAny 70 = .ok (.iconst 1, 1) := by decide +kernel
theorem dX9_letsAny_71 : decode cX9_letsAny 71 = .ok (.iload_n 1, 1) := by decide +kernel
theorem dX9_letsAny_72 : decode cX9_letsAny 72 = .ok (.iload 6, 2) := by decide +kernel
theorem dX9_letsAny_74 : decode cX9_letsAny 74 = .ok (.iload 7, 2) := by decide +kernel
theorem dX9_letsAny_76 : decode cX9_letsAny 76 = .ok (.invokevirtual 62, 3) := by decide +kernel
theorem dX9_letsAny_79 : decode cX9_letsAny 79 = .ok (.goto 5, 3) := by decide +kernel
theorem dX9_letsAny_82 : decode cX9_letsAny 82 = .ok (.iload 7, 2) := by decide +kernel
theorem dX9_letsAny_84 : decode cX9_letsAny 84 = .ok (.ior, 1) := by decide +kernel
theorem dX9_letsAny_85 : decode cX9_letsAny 85 = .ok (.istore 5, 2) := by decide +kernel
theorem dX9_letsAny_87 : decode cX9_letsAny 87 = .ok (.iinc 6 1, 3) := by decide +kernel
theorem dX9_letsAny_90 : decode cX9_letsAny 90 = .ok (.goto (-65), 3) := by decide +kernel
theorem dX9_letsAny_93 : decode cX9_letsAny 93 = .ok (.iload 4, 2) := by decide +kernel
theorem dX9_letsAny_95 : decode cX9_letsAny 95 = .ok (.ifCond .ne 8, 3) := by decide +kernel
theorem dX9_letsAny_98 : decode cX9_letsAny 98 = .ok (.iload 5, 2) := by decide +kernel
theorem dX9_letsAny_100 : decode cX9_letsAny 100 = .ok (.ifCond .ne 8, 3) := by decide +kernel
theorem dX9_letsAny_103 : decode cX9_letsAny 103 = .ok (.iload 5, 2) := by decide +kernel
theorem dX9_letsAny_105 : decode cX9_letsAny 105 = .ok (.goto 12, 3) := by decide +kernel
theorem dX9_letsAny_108 : decode cX9_letsAny 108 = .ok (.aload_n 0, 1) := by decide +kernel
theorem dX9_letsAny_109 : decode cX9_letsAny 109 = .ok (.iconst 1, 1) := by decide +kernel
theorem dX9_letsAny_110 : decode cX9_letsAny 110 = .ok (.iload_n 1, 1) := by decide +kernel
theorem dX9_letsAny_111 : decode cX9_letsAny 111 = .ok (.iconst 0, 1) := by decide +kernel
theorem dX9_letsAny_112 : decode cX9_letsAny 112 = .ok (.iload 5, 2) := by decide +kernel
theorem dX9_letsAny_114 : decode cX9_letsAny 114 = .ok (.invokevirtual 62, 3) := by decide +kernel
theorem dX9_letsAny_117 : decode cX9_letsAny 117 = .ok (.ireturn, 1) := by decide +kernel
theorem dX9_thingsIn_0 : decode cX9_thingsIn 0 = .ok (.iconst 0, 1) := by decide +kernel
theorem dX9_thingsIn_1 : decode cX9_thingsIn 1 = .ok (.istore_n 3, 1) := by decide +kernel
theorem dX9_thingsIn_2 : decode cX9_thingsIn 2 = .ok (.iconst 0, 1) := by decide +kernel
theorem dX9_thingsIn_3 : decode cX9_thingsIn 3 = .ok (.istore 4, 2) := by decide +kernel
theorem dX9_thingsIn_5 : decode cX9_thingsIn 5 = .ok (.iload 4, 2) := by decide +kernel
theorem dX9_thingsIn_7 : decode cX9_thingsIn 7 = .ok (.bipush 12, 2) := by decide +kernel
theorem dX9_thingsIn_9 : decode cX9_thingsIn 9 = .ok (.if_icmp .ge 43, 3) := by decide +kernel
theorem dX9_thingsIn_12 : decode cX9_thingsIn 12 = .ok (.aload_n 0, 1) := by decide +kernel
theorem dX9_thingsIn_13 : decode cX9_thingsIn 13 = .ok (.iload 4, 2) := by decide +kernel
theorem dX9_thingsIn_15 : decode cX9_thingsIn 15 = .ok (.iload_n 2, 1) := by decide +kernel
theorem dX9_thingsIn_16 : decode cX9_thingsIn 16 = .ok (.invokevirtual 66, 3) := by decide +kernel
theorem dX9_thingsIn_19 : decode cX9_thingsIn 19 = .ok (.istore 5, 2) := by decide +kernel
theorem dX9_thingsIn_21 : decode cX9_thingsIn 21 = .ok (.iload 5, 2) := by decide +kernel
theorem dX9_thingsIn_23 : decode cX9_thingsIn 23 = .ok (.ifCond .eq 23, 3) := by decide +kernel
theorem dX9_thingsIn_26 : decode cX9_thingsIn 26 = .ok (.aload_n 0, 1) := by decide +kernel
theorem dX9_thingsIn_27 : decode cX9_thingsIn 27 = .ok (.iconst 1, 1) := by decide +kernel
theorem dX9_thingsIn_28 : decode cX9_thingsIn 28 = .ok (.iload_n 1, 1) := by decide +kernel
theorem dX9_thingsIn_29 : decode cX9_thingsIn 29 = .ok (.iload 4, 2) := by decide +kernel
theorem dX9_thingsIn_31 : decode cX9_thingsIn 31 = .ok (.iload 5, 2) := by decide +kernel
theorem dX9_thingsIn_33 : decode cX9_thingsIn 33 = .ok (.invokevirtual 62, 3) := by decide +kernel
theorem dX9_thingsIn_36 : decode cX9_thingsIn 36 = .ok (.ifCond .eq 10, 3) := by decide +kernel
theorem dX9_thingsIn_39 : decode cX9_thingsIn 39 = .ok (.iload_n 3, 1) := by decide +kernel
theorem dX9_thingsIn_40 : decode cX9_thingsIn 40 = .ok (.iconst 1, 1) := by decide +kernel
theorem dX9_thingsIn_41 : decode cX9_thingsIn 41 = .ok (.iload 4, 2) := by decide +kernel
theorem dX9_thingsIn_43 : decode cX9_thingsIn 43 = .ok (.ishl, 1) := by decide +kernel
theorem dX9_thingsIn_44 : decode cX9_thingsIn 44 = .ok (.ior, 1) := by decide +kernel
theorem dX9_thingsIn_45 : decode cX9_thingsIn 45 = .ok (.istore_n 3, 1) := by decide +kernel
theorem dX9_thingsIn_46 : decode cX9_thingsIn 46 = .ok (.iinc 4 1, 3) := by decide +kernel
theorem dX9_thingsIn_49 : decode cX9_thingsIn 49 = .ok (.goto (-44), 3) := by decide +kernel
theorem dX9_thingsIn_52 : decode cX9_thingsIn 52 = .ok (.iload_n 3, 1) := by decide +kernel
theorem dX9_thingsIn_53 : decode cX9_thingsIn 53 = .ok (.ireturn, 1) := by decide +kernel
theorem dX9_pays_0 : decode cX9_pays 0 = .ok (.aload_n 0, 1) := by decide +kernel
theorem dX9_pays_1 : decode cX9_pays 1 = .ok (.getfield 18, 3) := by decide +kernel
theorem dX9_pays_4 : decode cX9_pays 4 = .ok (.iconst 2, 1) := by decide +kernel
theorem dX9_pays_5 : decode cX9_pays 5 = .ok (.iload_n 1, 1) := by decide +kernel
theorem dX9_pays_6 : decode cX9_pays 6 = .ok (.iastore, 1) := by decide +kernel
theorem dX9_pays_7 : decode cX9_pays 7 = .ok (.aload_n 0, 1) := by decide +kernel
theorem dX9_pays_8 : decode cX9_pays 8 = .ok (.getfield 18, 3) := by decide +kernel
theorem dX9_pays_11 : decode cX9_pays 11 = .ok (.iconst 3, 1) := by decide +kernel
theorem dX9_pays_12 : decode cX9_pays 12 = .ok (.aload_n 0, 1) := by decide +kernel
theorem dX9_pays_13 : decode cX9_pays 13 = .ok (.iload_n 1, 1) := by decide +kernel
theorem dX9_pays_14 : decode cX9_pays 14 = .ok (.invokevirtual 55, 3) := by decide +kernel
theorem dX9_pays_17 : decode cX9_pays 17 = .ok (.iastore, 1) := by decide +kernel
theorem dX9_pays_18 : decode cX9_pays 18 = .ok (.aload_n 0, 1) := by decide +kernel
theorem dX9_pays_19 : decode cX9_pays 19 = .ok (.getfield 18, 3) := by decide +kernel
theorem dX9_pays_22 : decode cX9_pays 22 = .ok (.iconst 1, 1) := by decide +kernel
theorem dX9_pays_23 : decode cX9_pays 23 = .ok (.iload_n 2, 1) := by decide +kernel
theorem dX9_pays_24 : decode cX9_pays 24 = .ok (.iastore, 1) := by decide +kernel
theorem dX9_pays_25 : decode cX9_pays 25 = .ok (.aload_n 0, 1) := by decide +kernel
theorem dX9_pays_26 : decode cX9_pays 26 = .ok (.getfield 18, 3) := by decide +kernel
theorem dX9_pays_29 : decode cX9_pays 29 = .ok (.iconst 0, 1) := by decide +kernel
theorem dX9_pays_30 : decode cX9_pays 30 = .ok (.iload_n 3, 1) := by decide +kernel
theorem dX9_pays_31 : decode cX9_pays 31 = .ok (.iastore, 1) := by decide +kernel
theorem dX9_pays_32 : decode cX9_pays 32 = .ok (.aload_n 0, 1) := by decide +kernel
theorem dX9_pays_33 : decode cX9_pays 33 = .ok (.getfield 24, 3) := by decide +kernel
theorem dX9_pays_36 : decode cX9_pays 36 = .ok (.aload_n 0, 1) := by decide +kernel
theorem dX9_pays_37 : decode cX9_pays 37 = .ok (.getfield 18, 3) := by decide +kernel
theorem dX9_pays_40 : decode cX9_pays 40 = .ok (.invokevirtual 69, 3) := by decide +kernel
theorem dX9_pays_43 : decode cX9_pays 43 = .ok (.ireturn, 1) := by decide +kernel
