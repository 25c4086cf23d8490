theorem dX12_sizeOf_0 : decode cX12_sizeOf 0 = .ok (.iconst 0, 1) := by decide +kernel
theorem dX12_sizeOf_1 : decode cX12_sizeOf 1 = .ok (.istore_n 1, 1) := by decide +kernel
theorem dX12_sizeOf_2 : decode cX12_sizeOf 2 = .ok (.iload_n 0, 1) := by decide +kernel
theorem dX12_sizeOf_3 : decode cX12_sizeOf 3 = .ok (.istore_n 2, 1) := by decide +kernel
theorem dX12_sizeOf_4 : decode cX12_sizeOf 4 = .ok (.iload_n 2, 1) := by decide +kernel
theorem dX12_sizeOf_5 : decode cX12_sizeOf 5 = .ok (.ifCond .eq 15, 3) := by decide +kernel
theorem dX12_sizeOf_8 : decode cX12_sizeOf 8 = .ok (.iinc 1 1, 3) := by decide +kernel
theorem dX12_sizeOf_11 : decode cX12_sizeOf 11 = .ok (.iload_n 2, 1) := by decide +kernel
theorem dX12_sizeOf_12 : decode cX12_sizeOf 12 = .ok (.iload_n 2, 1) := by decide +kernel
theorem dX12_sizeOf_13 : decode cX12_sizeOf 13 = .ok (.iconst 1, 1) := by decide +kernel
theorem dX12_sizeOf_14 : decode cX12_sizeOf 14 = .ok (.isub, 1) := by decide +kernel
theorem dX12_sizeOf_15 : decode cX12_sizeOf 15 = .ok (.iand, 1) := by decide +kernel
theorem dX12_sizeOf_16 : decode cX12_sizeOf 16 = .ok (.istore_n 2, 1) := by decide +kernel
theorem dX12_sizeOf_17 : decode cX12_sizeOf 17 = .ok (.goto (-13), 3) := by decide +kernel
theorem dX12_sizeOf_20 : decode cX12_sizeOf 20 = .ok (.iload_n 1, 1) := by decide +kernel
theorem dX12_sizeOf_21 : decode cX12_sizeOf 21 = .ok (.ireturn, 1) := by decide +kernel
theorem dX12_wrongs_0 : decode cX12_wrongs 0 = .ok (.aload_n 0, 1) := by decide +kernel
theorem dX12_wrongs_1 : decode cX12_wrongs 1 = .ok (.aload_n 0, 1) := by decide +kernel
theorem dX12_wrongs_2 : decode cX12_wrongs 2 = .ok (.getfield 170, 3) := by decide +kernel
theorem dX12_wrongs_5 : decode cX12_wrongs 5 = .ok (.ifCond .ge 10, 3) := by decide +kernel
theorem dX12_wrongs_8 : decode cX12_wrongs 8 = .ok (.aload_n 0, 1) := by decide +kernel
theorem dX12_wrongs_9 : decode cX12_wrongs 9 = .ok (.getfield 170, 3) := by decide +kernel
theorem dX12_wrongs_12 : decode cX12_wrongs 12 = .ok (.goto 10, 3) := by decide +kernel
theorem dX12_wrongs_15 : decode cX12_wrongs 15 = .ok (.sipush (-1000), 3) := by decide +kernel
theorem dX12_wrongs_18 : decode cX12_wrongs 18 = .ok (.iload_n 1, 1) := by decide +kernel
theorem dX12_wrongs_19 : decode cX12_wrongs 19 = .ok (.imul, 1) := by decide +kernel
theorem dX12_wrongs_20 : decode cX12_wrongs 20 = .ok (.iload_n 2, 1) := by decide +kernel
theorem dX12_wrongs_21 : decode cX12_wrongs 21 = .ok (.isub, 1) := by decide +kernel
theorem dX12_wrongs_22 : decode cX12_wrongs 22 = .ok (.putfield 170, 3) := by decide +kernel
theorem dX12_wrongs_25 : decode cX12_wrongs 25 = .ok (.return_, 1) := by decide +kernel
theorem dX12_seesDigit_0 : decode cX12_seesDigit 0 = .ok (.aload_n 0, 1) := by decide +kernel
theorem dX12_seesDigit_1 : decode cX12_seesDigit 1 = .ok (.invokevirtual 173, 3) := by decide +kernel
theorem dX12_seesDigit_4 : decode cX12_seesDigit 4 = .ok (.i2l, 1) := by decide +kernel
theorem dX12_seesDigit_5 : decode cX12_seesDigit 5 = .ok (.ldc2_w 177, 3) := by decide +kernel
theorem dX12_seesDigit_8 : decode cX12_seesDigit 8 = .ok (.ldc2_w 179, 3) := by decide +kernel
theorem dX12_seesDigit_11 : decode cX12_seesDigit 11 = .ok (.invokestatic 181, 3) := by decide +kernel
theorem dX12_seesDigit_14 : decode cX12_seesDigit 14 = .ok (.ireturn, 1) := by decide +kernel
theorem dX12_repeated_0 : decode cX12_repeated 0 = .ok (.aload_n 0, 1) := by decide +kernel
theorem dX12_repeated_1 : decode cX12_repeated 1 = .ok (.invokevirtual 173, 3) := by decide +kernel
theorem dX12_repeated_4 : decode cX12_repeated 4 = .ok (.istore_n 2, 1) := by decide +kernel
theorem dX12_repeated_5 : decode cX12_repeated 5 = .ok (.iload_n 1, 1) := by decide +kernel
theorem dX12_repeated_6 : decode cX12_repeated 6 = .ok (.istore_n 3, 1) := by decide +kernel
theorem dX12_repeated_7 : decode cX12_repeated 7 = .ok (.iload_n 2, 1) := by decide +kernel
theorem dX12_repeated_8 : decode cX12_repeated 8 = .ok (.bipush 43, 2) := by decide +kernel
theorem dX12_repeated_10 : decode cX12_repeated 10 = .ok (.if_icmp .ne 40, 3) := by decide +kernel
theorem dX12_repeated_13 : decode cX12_repeated 13 = .ok (.aload_n 0, 1) := by decide +kernel
theorem dX12_repeated_14 : decode cX12_repeated 14 = .ok (.dup, 1) := by decide +kernel
theorem dX12_repeated_15 : decode cX12_repeated 15 = .ok (.getfield 164, 3) := by decide +kernel
theorem dX12_repeated_18 : decode cX12_repeated 18 = .ok (.iconst 1, 1) := by decide +kernel
theorem dX12_repeated_19 : decode cX12_repeated 19 = .ok (.iadd, 1) := by decide +kernel
theorem dX12_repeated_20 : decode cX12_repeated 20 = .ok (.putfield 164, 3) := by decide +kernel
theorem dX12_repeated_23 : decode cX12_repeated 23 = .ok (.iconst 1, 1) := by decide +kernel
theorem dX12_repeated_24 : decode cX12_repeated 24 = .ok (.istore 4, 2) := by decide +kernel
theorem dX12_repeated_26 : decode cX12_repeated 26 = .ok (.iload 4, 2) := by decide +kernel
theorem dX12_repeated_28 : decode cX12_repeated 28 = .ok (.bipush 24, 2) := by decide +kernel
theorem dX12_repeated_30 : decode cX12_repeated 30 = .ok (.if_icmp .gt 17, 3) := by decide +kernel
theorem dX12_repeated_33 : decode cX12_repeated 33 = .ok (.iload_n 3, 1) := by decide +kernel
theorem dX12_repeated_34 : decode cX12_repeated 34 = .ok (.iload_n 3, 1) := by decide +kernel
theorem dX12_repeated_35 : decode cX12_repeated 35 = .ok (.iload_n 1, 1) := by decide +kernel
theorem dX12_repeated_36 : decode cX12_repeated 36 = .ok (.invokestatic 195, 3) := by decide +kernel
theorem dX12_repeated_39 : decode cX12_repeated 39 = .ok (.ior, 1) := by decide +kernel
theorem dX12_repeated_40 : decode cX12_repeated 40 = .ok (.istore_n 3, 1) := by decide +kernel
theorem dX12_repeated_41 : decode cX12_repeated 41 = .ok (.iinc 4 1, 3) := by decide +kernel
theorem dX12_repeated_44 : decode cX12_repeated 44 = .ok (.goto (-18), 3) := by decide +kernel
theorem dX12_repeated_47 : decode cX12_repeated 47 = .ok (.goto 51, 3) := by decide +kernel
theorem dX12_repeated_50 : decode cX12_repeated 50 = .ok (.iload_n 2, 1) := by decide +kernel
theorem dX12_repeated_51 : decode cX12_repeated 51 = .ok (.i2l, 1) := by decide +kernel
theorem dX12_repeated_52 : decode cX12_repeated 52 = .ok (.ldc2_w 199, 3) := by decide +kernel
theorem dX12_repeated_55 : decode cX12_repeated 55 = .ok (.ldc2_w 179, 3) := by decide +kernel
theorem dX12_repeated_58 : decode cX12_repeated 58 = .ok (.invokestatic 181, 3) := by decide +kernel
theorem dX12_repeated_61 : decode cX12_repeated 61 = .ok (.ifCond .eq 37, 3) := by decide +kernel
theorem dX12_repeated_64 : decode cX12_repeated 64 = .ok (.aload_n 0, 1) := by decide +kernel
theorem dX12_repeated_65 : decode cX12_repeated 65 = .ok (.dup, 1) := by decide +kernel
theorem dX12_repeated_66 : decode cX12_repeated 66 = .ok (.getfield 164, 3) := by decide +kernel
theorem dX12_repeated_69 : decode cX12_repeated 69 = .ok (.iconst 1, 1) := by decide +kernel
theorem dX12_repeated_70 : decode cX12_repeated 70 = .ok (.iadd, 1) := by decide +kernel
theorem dX12_repeated_71 : decode cX12_repeated 71 = .ok (.putfield 164, 3) := by decide +kernel
theorem dX12_repeated_74 : decode cX12_repeated 74 = .ok (.iconst 1, 1) := by decide +kernel
theorem dX12_repeated_75 : decode cX12_repeated 75 = .ok (.istore 4, 2) := by decide +kernel
theorem dX12_repeated_77 : decode cX12_repeated 77 = .ok (.iload 4, 2) := by decide +kernel
theorem dX12_repeated_79 : decode cX12_repeated 79 = .ok (.iload_n 2, 1) := by decide +kernel
theorem dX12_repeated_80 : decode cX12_repeated 80 = .ok (.bipush 48, 2) := by decide +kernel
theorem dX12_repeated_82 : decode cX12_repeated 82 = .ok (.isub, 1) := by decide +kernel
theorem dX12_repeated_83 : decode cX12_repeated 83 = .ok (.if_icmp .ge 15, 3) := by decide +kernel
theorem dX12_repeated_86 : decode cX12_repeated 86 = .ok (.iload_n 3, 1) := by decide +kernel
theorem dX12_repeated_87 : decode cX12_repeated 87 = .ok (.iload_n 1, 1) := by decide +kernel
theorem dX12_repeated_88 : decode cX12_repeated 88 = .ok (.invokestatic 195, 3) := by decide +kernel
theorem dX12_repeated_91 : decode cX12_repeated 91 = .ok (.istore_n 3, 1) := by decide +kernel
theorem dX12_repeated_92 : decode cX12_repeated 92 = .ok (.iinc 4 1, 3) := by decide +kernel
theorem dX12_repeated_95 : decode cX12_repeated 95 = .ok (.goto (-18), 3) := by decide +kernel
theorem dX12_repeated_98 : decode cX12_repeated 98 = .ok (.iload_n 3, 1) := by decide +kernel
theorem dX12_repeated_99 : decode cX12_repeated 99 = .ok (.ireturn, 1) := by decide +kernel
theorem dX12_sign_0 : decode cX12_sign 0 = .ok (.aload_n 0, 1) := by decide +kernel
theorem dX12_sign_1 : decode cX12_sign 1 = .ok (.invokevirtual 173, 3) := by decide +kernel
theorem dX12_sign_4 : decode cX12_sign 4 = .ok (.istore_n 1, 1) := by decide +kernel
theorem dX12_sign_5 : decode cX12_sign 5 = .ok (.iload_n 1, 1) := by decide +kernel
theorem dX12_sign_6 : decode cX12_sign 6 = .ok (.i2l, 1) := by decide +kernel
theorem dX12_sign_7 : decode cX12_sign 7 = .ok (.ldc2_w 219, 3) := by decide +kernel
theorem dX12_sign_10 : decode cX12_sign 10 = .ok (.ldc2_w 221, 3) := by decide +kernel
theorem dX12_sign_13 : decode cX12_sign 13 = .ok (.invokestatic 181, 3) := by decide +kernel
theorem dX12_sign_16 : decode cX12_sign 16 = .ok (.ifCond .eq 21, 3) := by decide +kernel
theorem dX12_sign_19 : decode cX12_sign 19 = .ok (.aload_n 0, 1) := by decide +kernel
theorem dX12_sign_20 : decode cX12_sign 20 = .ok (.dup, 1) := by decide +kernel
theorem dX12_sign_21 : decode cX12_sign 21 = .ok (.getfield 164, 3) := by decide +kernel
theorem dX12_sign_24 : decode cX12_sign 24 = .ok (.iconst 1, 1) := by decide +kernel
theorem dX12_sign_25 : decode cX12_sign 25 = .ok (.iadd, 1) := by decide +kernel
theorem dX12_sign_26 : decode cX12_sign 26 = .ok (.putfield 164, 3) := by decide +kernel
theorem dX12_sign_29 : decode cX12_sign 29 = .ok (.aload_n 0, 1) := by decide +kernel
theorem dX12_sign_30 : decode cX12_sign 30 = .ok (.iconst 2, 1) := by decide +kernel
theorem dX12_sign_31 : decode cX12_sign 31 = .ok (.invokevirtual 216, 3) := by decide +kernel
theorem dX12_sign_34 : decode cX12_sign 34 = .ok (.goto 130, 3) := by decide +kernel
theorem dX12_sign_37 : decode cX12_sign 37 = .ok (.iload_n 1, 1) := by decide +kernel
theorem dX12_sign_38 : decode cX12_sign 38 = .ok (.bipush 40, 2) := by decide +kernel
theorem dX12_sign_40 : decode cX12_sign 40 = .ok (.if_icmp .eq 9, 3) := by decide +kernel
theorem dX12_sign_43 : decode cX12_sign 43 = .ok (.iload_n 1, 1) := by decide +kernel
theorem dX12_sign_44 : decode cX12_sign 44 = .ok (.bipush 91, 2) := by decide +kernel
theorem dX12_sign_46 : decode cX12_sign 46 = .ok (.if_icmp .ne 66, 3) := by decide +kernel
theorem dX12_sign_49 : decode cX12_sign 49 = .ok (.aload_n 0, 1) := by decide +kernel
theorem dX12_sign_50 : decode cX12_sign 50 = .ok (.getfield 192, 3) := by decide +kernel
theorem dX12_sign_53 : decode cX12_sign 53 = .ok (.bipush 6, 2) := by decide +kernel
theorem dX12_sign_55 : decode cX12_sign 55 = .ok (.if_icmp .ne 12, 3) := by decide +kernel
theorem dX12_sign_58 : decode cX12_sign 58 = .ok (.aload_n 0, 1) := by decide +kernel
theorem dX12_sign_59 : decode cX12_sign 59 = .ok (.iconst 5, 1) := by decide +kernel
theorem dX12_sign_60 : decode cX12_sign 60 = .ok (.aload_n 0, 1) := by decide +kernel
theorem dX12_sign_61 : decode cX12_sign 61 = .ok (.getfield 164, 3) := by decide +kernel
theorem dX12_sign_64 : decode cX12_sign 64 = .ok (.invokevirtual 205, 3) := by decide +kernel
theorem dX12_sign_67 : decode cX12_sign 67 = .ok (.aload_n 0, 1) := by decide +kernel
theorem dX12_sign_68 : decode cX12_sign 68 = .ok (.invokevirtual 209, 3) := by decide +kernel
theorem dX12_sign_71 : decode cX12_sign 71 = .ok (.ifCond .ne 4, 3) := by decide +kernel
theorem dX12_sign_74 : decode cX12_sign 74 = .ok (.return_, 1) := by decide +kernel
theorem dX12_sign_75 : decode cX12_sign 75 = .ok (.aload_n 0, 1) := by decide +kernel
theorem dX12_sign_76 : decode cX12_sign 76 = .ok (.dup, 1) := by decide +kernel
theorem dX12_sign_77 : decode cX12_sign 77 = .ok (.getfield 192, 3) := by decide +kernel
theorem dX12_sign_80 : decode cX12_sign 80 = .ok (.iconst 1, 1) := by decide +kernel
theorem dX12_sign_81 : decode cX12_sign 81 = .ok (.iadd, 1) := by decide +kernel
theorem dX12_sign_82 : decode cX12_sign 82 = .ok (.putfield 192, 3) := by decide +kernel
theorem dX12_sign_85 : decode cX12_sign 85 = .ok (.aload_n 0, 1) := by decide +kernel
theorem dX12_sign_86 : decode cX12_sign 86 = .ok (.getfield 27, 3) := by decide +kernel
theorem dX12_sign_89 : decode cX12_sign 89 = .ok (.aload_n 0, 1) := by decide +kernel
theorem dX12_sign_90 : decode cX12_sign 90 = .ok (.getfield 192, 3) := by decide +kernel
theorem dX12_sign_93 : decode cX12_sign 93 = .ok (.iload_n 1, 1) := by decide +kernel
theorem dX12_sign_94 : decode cX12_sign 94 = .ok (.iastore, 1) := by decide +kernel
theorem dX12_sign_95 : decode cX12_sign 95 = .ok (.aload_n 0, 1) := by decide +kernel
theorem dX12_sign_96 : decode cX12_sign 96 = .ok (.dup, 1) := by decide +kernel
theorem dX12_sign_97 : decode cX12_sign 97 = .ok (.getfield 164, 3) := by decide +kernel
theorem dX12_sign_100 : decode cX12_sign 100 = .ok (.iconst 1, 1) := by decide +kernel
theorem dX12_sign_101 : decode cX12_sign 101 = .ok (.iadd, 1) := by decide +kernel
theorem dX12_sign_102 : decode cX12_sign 102 = .ok (.putfield 164, 3) := by decide +kernel
theorem dX12_sign_105 : decode cX12_sign 105 = .ok (.aload_n 0, 1) := by decide +kernel
theorem dX12_sign_106 : decode cX12_sign 106 = .ok (.invokevirtual 223, 3) := by decide +kernel
theorem dX12_sign_109 : decode cX12_sign 109 = .ok (.goto 55, 3) := by decide +kernel
theorem dX12_sign_112 : decode cX12_sign 112 = .ok (.iload_n 1, 1) := by decide +kernel
theorem dX12_sign_113 : decode cX12_sign 113 = .ok (.bipush 124, 2) := by decide +kernel
theorem dX12_sign_115 : decode cX12_sign 115 = .ok (.if_icmp .ne 20, 3) := by decide +kernel
theorem dX12_sign_118 : decode cX12_sign 118 = .ok (.aload_n 0, 1) := by decide +kernel
theorem dX12_sign_119 : decode cX12_sign 119 = .ok (.invokevirtual 213, 3) := by decide +kernel
theorem dX12_sign_122 : decode cX12_sign 122 = .ok (.aload_n 0, 1) := by decide +kernel
theorem dX12_sign_123 : decode cX12_sign 123 = .ok (.dup, 1) := by decide +kernel
theorem dX12_sign_124 : decode cX12_sign 124 = .ok (.getfield 164, 3) := by decide +kernel
theorem dX12_sign_127 : decode cX12_sign 127 = .ok (.iconst 1, 1) := by decide +kernel
theorem dX12_sign_128 : decode cX12_sign 128 = .ok (.iadd, 1) := by decide +kernel
theorem dX12_sign_129 : decode cX12_sign 129 = .ok (.putfield 164, 3) := by decide +kernel
theorem dX12_sign_132 : decode cX12_sign 132 = .ok (.goto 32, 3) := by decide +kernel
theorem dX12_sign_135 : decode cX12_sign 135 = .ok (.iload_n 1, 1) := by decide +kernel
theorem dX12_sign_136 : decode cX12_sign 136 = .ok (.bipush 41, 2) := by decide +kernel
theorem dX12_sign_138 : decode cX12_sign 138 = .ok (.if_icmp .eq 9, 3) := by decide +kernel
theorem dX12_sign_141 : decode cX12_sign 141 = .ok (.iload_n 1, 1) := by decide +kernel
theorem dX12_sign_142 : decode cX12_sign 142 = .ok (.bipush 93, 2) := by decide +kernel
theorem dX12_sign_144 : decode cX12_sign 144 = .ok (.if_icmp .ne 11, 3) := by decide +kernel
theorem dX12_sign_147 : decode cX12_sign 147 = .ok (.aload_n 0, 1) := by decide +kernel
theorem dX12_sign_148 : decode cX12_sign 148 = .ok (.iload_n 1, 1) := by decide +kernel
theorem dX12_sign_149 : decode cX12_sign 149 = .ok (.invokevirtual 226, 3) := by decide +kernel
theorem dX12_sign_152 : decode cX12_sign 152 = .ok (.goto 12, 3) := by decide +kernel
theorem dX12_sign_155 : decode cX12_sign 155 = .ok (.aload_n 0, 1) := by decide +kernel
theorem dX12_sign_156 : decode cX12_sign 156 = .ok (.iconst 1, 1) := by decide +kernel
theorem dX12_sign_157 : decode cX12_sign 157 = .ok (.aload_n 0, 1) := by decide +kernel
theorem dX12_sign_158 : decode cX12_sign 158 = .ok (.getfield 164, 3) := by decide +kernel
theorem dX12_sign_161 : decode cX12_sign 161 = .ok (.invokevirtual 205, 3) := by decide +kernel
theorem dX12_sign_164 : decode cX12_sign 164 = .ok (.return_, 1) := by decide +kernel
theorem dX12_thing_0 : decode cX12_thing 0 = .ok (.iload_n 1, 1) := by decide +kernel
theorem dX12_thing_1 : decode cX12_thing 1 = .ok (.invokestatic 229, 3) := by decide +kernel
theorem dX12_thing_4 : decode cX12_thing 4 = .ok (.ifCond .eq 23, 3) := by decide +kernel
theorem dX12_thing_7 : decode cX12_thing 7 = .ok (.iload_n 2, 1) := by decide +kernel
theorem dX12_thing_8 : decode cX12_thing 8 = .ok (.i2l, 1) := by decide +kernel
theorem dX12_thing_9 : decode cX12_thing 9 = .ok (.lconst 1, 1) := by decide +kernel
theorem dX12_thing_10 : decode cX12_thing 10 = .ok (.ldc2_w 233, 3) := by decide +kernel
theorem dX12_thing_13 : decode cX12_thing 13 = .ok (.invokestatic 181, 3) := by decide +kernel
theorem dX12_thing_16 : decode cX12_thing 16 = .ok (.ifCond .eq 11, 3) := by decide +kernel
theorem dX12_thing_19 : decode cX12_thing 19 = .ok (.iload_n 2, 1) := by decide +kernel
theorem dX12_thing_20 : decode cX12_thing 20 = .ok (.aload_n 0, 1) := by decide +kernel
theorem dX12_thing_21 : decode cX12_thing 21 = .ok (.getfield 157, 3) := by decide +kernel
theorem dX12_thing_24 : decode cX12_thing 24 = .ok (.if_icmp .le 5, 3) := by decide +kernel
theorem dX12_thing_27 : decode cX12_thing 27 = .ok (.iconst (-1), 1) := by decide +kernel
theorem dX12_thing_28 : decode cX12_thing 28 = .ok (.ireturn, 1) := by decide +kernel
theorem dX12_thing_29 : decode cX12_thing 29 = .ok (.aload_n 0, 1) := by decide +kernel
theorem dX12_thing_30 : decode cX12_thing 30 = .ok (.iconst 0, 1) := by decide +kernel
theorem dX12_thing_31 : decode cX12_thing 31 = .ok (.putfield 157, 3) := by decide +kernel
theorem dX12_thing_34 : decode cX12_thing 34 = .ok (.aload_n 0, 1) := by decide +kernel
theorem dX12_thing_35 : decode cX12_thing 35 = .ok (.iconst 0, 1) := by decide +kernel
theorem dX12_thing_36 : decode cX12_thing 36 = .ok (.putfield 164, 3) := by decide +kernel
theorem dX12_thing_39 : decode cX12_thing 39 = .ok (.aload_n 0, 1) := by decide +kernel
theorem dX12_thing_40 : decode cX12_thing 40 = .ok (.iload_n 2, 1) := by decide +kernel
theorem dX12_thing_41 : decode cX12_thing 41 = .ok (.putfield 167, 3) := by decide +kernel
theorem dX12_thing_44 : decode cX12_thing 44 = .ok (.aload_n 0, 1) := by decide +kernel
theorem dX12_thing_45 : decode cX12_thing 45 = .ok (.iconst 0, 1) := by decide +kernel
theorem dX12_thing_46 : decode cX12_thing 46 = .ok (.putfield 170, 3) := by decide +kernel
theorem dX12_thing_49 : decode cX12_thing 49 = .ok (.aload_n 0, 1) := by decide +kernel
theorem dX12_thing_50 : decode cX12_thing 50 = .ok (.iconst 0, 1) := by decide +kernel
theorem dX12_thing_51 : decode cX12_thing 51 = .ok (.putfield 192, 3) := by decide +kernel
theorem dX12_thing_54 : decode cX12_thing 54 = .ok (.aload_n 0, 1) := by decide +kernel
theorem dX12_thing_55 : decode cX12_thing 55 = .ok (.invokevirtual 223, 3) := by decide +kernel
theorem dX12_thing_58 : decode cX12_thing 58 = .ok (.aload_n 0, 1) := by decide +kernel
theorem dX12_thing_59 : decode cX12_thing 59 = .ok (.invokevirtual 209, 3) := by decide +kernel
theorem dX12_thing_62 : decode cX12_thing 62 = .ok (.ifCond .eq 21, 3) := by decide +kernel
theorem dX12_thing_65 : decode cX12_thing 65 = .ok (.aload_n 0, 1) := by decide +kernel
theorem dX12_thing_66 : decode cX12_thing 66 = .ok (.getfield 164, 3) := by decide +kernel
theorem dX12_thing_69 : decode cX12_thing 69 = .ok (.aload_n 0, 1) := by decide +kernel
theorem dX12_thing_70 : decode cX12_thing 70 = .ok (.getfield 167, 3) := by decide +kernel
theorem dX12_thing_73 : decode cX12_thing 73 = .ok (.if_icmp .ge 10, 3) := by decide +kernel
theorem dX12_thing_76 : decode cX12_thing 76 = .ok (.aload_n 0, 1) := by decide +kernel
theorem dX12_thing_77 : decode cX12_thing 77 = .ok (.invokevirtual 235, 3) := by decide +kernel
theorem dX12_thing_80 : decode cX12_thing 80 = .ok (.goto (-22), 3) := by decide +kernel
theorem dX12_thing_83 : decode cX12_thing 83 = .ok (.aload_n 0, 1) := by decide +kernel
theorem dX12_thing_84 : decode cX12_thing 84 = .ok (.invokevirtual 209, 3) := by decide +kernel
theorem dX12_thing_87 : decode cX12_thing 87 = .ok (.ifCond .eq 19, 3) := by decide +kernel
theorem dX12_thing_90 : decode cX12_thing 90 = .ok (.aload_n 0, 1) := by decide +kernel
theorem dX12_thing_91 : decode cX12_thing 91 = .ok (.getfield 192, 3) := by decide +kernel
theorem dX12_thing_94 : decode cX12_thing 94 = .ok (.ifCond .le 12, 3) := by decide +kernel
theorem dX12_thing_97 : decode cX12_thing 97 = .ok (.aload_n 0, 1) := by decide +kernel
theorem dX12_thing_98 : decode cX12_thing 98 = .ok (.iconst 1, 1) := by decide +kernel
theorem dX12_thing_99 : decode cX12_thing 99 = .ok (.aload_n 0, 1) := by decide +kernel
theorem dX12_thing_100 : decode cX12_thing 100 = .ok (.getfield 164, 3) := by decide +kernel
theorem dX12_thing_103 : decode cX12_thing 103 = .ok (.invokevirtual 205, 3) := by decide +kernel
theorem dX12_thing_106 : decode cX12_thing 106 = .ok (.aload_n 0, 1) := by decide +kernel
theorem dX12_thing_107 : decode cX12_thing 107 = .ok (.invokevirtual 209, 3) := by decide +kernel
theorem dX12_thing_110 : decode cX12_thing 110 = .ok (.ifCond .eq 7, 3) := by decide +kernel
theorem dX12_thing_113 : decode cX12_thing 113 = .ok (.aload_n 0, 1) := by decide +kernel
theorem dX12_thing_114 : decode cX12_thing 114 = .ok (.invokevirtual 213, 3) := by decide +kernel
theorem dX12_thing_117 : decode cX12_thing 117 = .ok (.aload_n 0, 1) := by decide +kernel
theorem dX12_thing_118 : decode cX12_thing 118 = .ok (.invokevirtual 209, 3) := by decide +kernel
theorem dX12_thing_121 : decode cX12_thing 121 = .ok (.ifCond .ne 8, 3) := by decide +kernel
theorem dX12_thing_124 : decode cX12_thing 124 = .ok (.aload_n 0, 1) := by decide +kernel
theorem dX12_thing_125 : decode cX12_thing 125 = .ok (.getfield 170, 3) := by decide +kernel
theorem dX12_thing_128 : decode cX12_thing 128 = .ok (.ireturn, 1) := by decide +kernel
theorem dX12_thing_129 : decode cX12_thing 129 = .ok (.aload_n 0, 1) := by decide +kernel
theorem dX12_thing_130 : decode cX12_thing 130 = .ok (.getfield 17, 3) := by decide +kernel
theorem dX12_thing_133 : decode cX12_thing 133 = .ok (.iload_n 1, 1) := by decide +kernel
theorem dX12_thing_134 : decode cX12_thing 134 = .ok (.aload_n 0, 1) := by decide +kernel
theorem dX12_thing_135 : decode cX12_thing 135 = .ok (.getfield 21, 3) := by decide +kernel
theorem dX12_thing_138 : decode cX12_thing 138 = .ok (.iconst 0, 1) := by decide +kernel
theorem dX12_thing_139 : decode cX12_thing 139 = .ok (.iaload, 1) := by decide +kernel
theorem dX12_thing_140 : decode cX12_thing 140 = .ok (.ldc 238, 2) := by decide +kernel
theorem dX12_thing_142 : decode cX12_thing 142 = .ok (.iand, 1) := by decide +kernel
theorem dX12_thing_143 : decode cX12_thing 143 = .ok (.iastore, 1) := by decide +kernel
theorem dX12_thing_144 : decode cX12_thing 144 = .ok (.aload_n 0, 1) := by decide +kernel
theorem dX12_thing_145 : decode cX12_thing 145 = .ok (.getfield 17, 3) := by decide +kernel
theorem dX12_thing_148 : decode cX12_thing 148 = .ok (.iload_n 1, 1) := by decide +kernel
theorem dX12_thing_149 : decode cX12_thing 149 = .ok (.iaload, 1) := by decide +kernel
theorem dX12_thing_150 : decode cX12_thing 150 = .ok (.invokestatic 239, 3) := by decide +kernel
theorem dX12_thing_153 : decode cX12_thing 153 = .ok (.ireturn, 1) := by decide +kernel
theorem dX12_top_0 : decode cX12_top 0 = .ok (.aload_n 0, 1) := by decide +kernel
theorem dX12_top_1 : decode cX12_top 1 = .ok (.getfield 245, 3) := by decide +kernel
theorem dX12_top_4 : decode cX12_top 4 = .ok (.ifCond .le 17, 3) := by decide +kernel
theorem dX12_top_7 : decode cX12_top 7 = .ok (.aload_n 0, 1) := by decide +kernel
theorem dX12_top_8 : decode cX12_top 8 = .ok (.getfield 73, 3) := by decide +kernel
theorem dX12_top_11 : decode cX12_top 11 = .ok (.aload_n 0, 1) := by decide +kernel
theorem dX12_top_12 : decode cX12_top 12 = .ok (.getfield 245, 3) := by decide +kernel
theorem dX12_top_15 : decode cX12_top 15 = .ok (.iconst 1, 1) := by decide +kernel
theorem dX12_top_16 : decode cX12_top 16 = .ok (.isub, 1) := by decide +kernel
theorem dX12_top_17 : decode cX12_top 17 = .ok (.iaload, 1) := by decide +kernel
theorem dX12_top_18 : decode cX12_top 18 = .ok (.goto 4, 3) := by decide +kernel
theorem dX12_top_21 : decode cX12_top 21 = .ok (.iconst 0, 1) := by decide +kernel
theorem dX12_top_22 : decode cX12_top 22 = .ok (.ireturn, 1) := by decide +kernel
theorem dX12_reads_0 : decode cX12_reads 0 = .ok (.aload_n 0, 1) := by decide +kernel
theorem dX12_reads_1 : decode cX12_reads 1 = .ok (.getfield 164, 3) := by decide +kernel
theorem dX12_reads_4 : decode cX12_reads 4 = .ok (.istore_n 1, 1) := by decide +kernel
theorem dX12_reads_5 : decode cX12_reads 5 = .ok (.iconst 0, 1) := by decide +kernel
theorem dX12_reads_6 : decode cX12_reads 6 = .ok (.istore_n 2, 1) := by decide +kernel
theorem dX12_reads_7 : decode cX12_reads 7 = .ok (.aload_n 0, 1) := by decide +kernel
theorem dX12_reads_8 : decode cX12_reads 8 = .ok (.invokevirtual 209, 3) := by decide +kernel
theorem dX12_reads_11 : decode cX12_reads 11 = .ok (.ifCond .eq 55, 3) := by decide +kernel
theorem dX12_reads_14 : decode cX12_reads 14 = .ok (.aload_n 0, 1) := by decide +kernel
theorem dX12_reads_15 : decode cX12_reads 15 = .ok (.invokevirtual 254, 3) := by decide +kernel
theorem dX12_reads_18 : decode cX12_reads 18 = .ok (.ifCond .eq 48, 3) := by decide +kernel
theorem dX12_reads_21 : decode cX12_reads 21 = .ok (.aload_n 0, 1) := by decide +kernel
theorem dX12_reads_22 : decode cX12_reads 22 = .ok (.getfield 164, 3) := by decide +kernel
theorem dX12_reads_25 : decode cX12_reads 25 = .ok (.iload_n 1, 1) := by decide +kernel
theorem dX12_reads_26 : decode cX12_reads 26 = .ok (.iconst 5, 1) := by decide +kernel
theorem dX12_reads_27 : decode cX12_reads 27 = .ok (.iadd, 1) := by decide +kernel
theorem dX12_reads_28 : decode cX12_reads 28 = .ok (.if_icmp .ne 12, 3) := by decide +kernel
theorem dX12_reads_31 : decode cX12_reads 31 = .ok (.aload_n 0, 1) := by decide +kernel
theorem dX12_reads_32 : decode cX12_reads 32 = .ok (.iconst 2, 1) := by decide +kernel
theorem dX12_reads_33 : decode cX12_reads 33 = .ok (.aload_n 0, 1) := by decide +kernel
theorem dX12_reads_34 : decode cX12_reads 34 = .ok (.getfield 164, 3) := by decide +kernel
theorem dX12_reads_37 : decode cX12_reads 37 = .ok (.invokevirtual 205, 3) := by decide +kernel
theorem dX12_reads_40 : decode cX12_reads 40 = .ok (.bipush 10, 2) := by decide +kernel
theorem dX12_reads_42 : decode cX12_reads 42 = .ok (.iload_n 2, 1) := by decide +kernel
theorem dX12_reads_43 : decode cX12_reads 43 = .ok (.imul, 1) := by decide +kernel
theorem dX12_reads_44 : decode cX12_reads 44 = .ok (.aload_n 0, 1) := by decide +kernel
theorem dX12_reads_45 : decode cX12_reads 45 = .ok (.invokevirtual 173, 3) := by decide +kernel
theorem dX12_reads_48 : decode cX12_reads 48 = .ok (.iadd, 1) := by decide +kernel
theorem dX12_reads_49 : decode cX12_reads 49 = .ok (.bipush 48, 2) := by decide +kernel
theorem dX12_reads_51 : decode cX12_reads 51 = .ok (.isub, 1) := by decide +kernel
theorem dX12_reads_52 : decode cX12_reads 52 = .ok (.istore_n 2, 1) := by decide +kernel
theorem dX12_reads_53 : decode cX12_reads 53 = .ok (.aload_n 0, 1) := by decide +kernel
theorem dX12_reads_54 : decode cX12_reads 54 = .ok (.dup, 1) := by decide +kernel
theorem dX12_reads_55 : decode cX12_reads 55 = .ok (.getfield 164, 3) := by decide +kernel
theorem dX12_reads_58 : decode cX12_reads 58 = .ok (.iconst 1, 1) := by decide +kernel
theorem dX12_reads_59 : decode cX12_reads 59 = .ok (.iadd, 1) := by decide +kernel
theorem dX12_reads_60 : decode cX12_reads 60 = .ok (.putfield 164, 3) := by decide +kernel
theorem dX12_reads_63 : decode cX12_reads 63 = .ok (.goto (-56), 3) := by decide +kernel
theorem dX12_reads_66 : decode cX12_reads 66 = .ok (.iload_n 2, 1) := by decide +kernel
theorem dX12_reads_67 : decode cX12_reads 67 = .ok (.ireturn, 1) := by decide +kernel
theorem dX12_sums_0 : decode cX12_sums 0 = .ok (.aload_n 0, 1) := by decide +kernel
theorem dX12_sums_1 : decode cX12_sums 1 = .ok (.invokevirtual 257, 3) := by decide +kernel
theorem dX12_sums_4 : decode cX12_sums 4 = .ok (.invokestatic 260, 3) := by decide +kernel
theorem dX12_sums_7 : decode cX12_sums 7 = .ok (.ifCond .ne 17, 3) := by decide +kernel
theorem dX12_sums_10 : decode cX12_sums 10 = .ok (.iload_n 1, 1) := by decide +kernel
theorem dX12_sums_11 : decode cX12_sums 11 = .ok (.ifCond .eq 35, 3) := by decide +kernel
theorem dX12_sums_14 : decode cX12_sums 14 = .ok (.aload_n 0, 1) := by decide +kernel
theorem dX12_sums_15 : decode cX12_sums 15 = .ok (.invokevirtual 257, 3) := by decide +kernel
theorem dX12_sums_18 : decode cX12_sums 18 = .ok (.invokestatic 263, 3) := by decide +kernel
theorem dX12_sums_21 : decode cX12_sums 21 = .ok (.ifCond .eq 25, 3) := by decide +kernel
theorem dX12_sums_24 : decode cX12_sums 24 = .ok (.aload_n 0, 1) := by decide +kernel
theorem dX12_sums_25 : decode cX12_sums 25 = .ok (.aload_n 0, 1) := by decide +kernel
theorem dX12_sums_26 : decode cX12_sums 26 = .ok (.invokevirtual 257, 3) := by decide +kernel
theorem dX12_sums_29 : decode cX12_sums 29 = .ok (.iconst 0, 1) := by decide +kernel
theorem dX12_sums_30 : decode cX12_sums 30 = .ok (.invokevirtual 266, 3) := by decide +kernel
theorem dX12_sums_33 : decode cX12_sums 33 = .ok (.aload_n 0, 1) := by decide +kernel
theorem dX12_sums_34 : decode cX12_sums 34 = .ok (.dup, 1) := by decide +kernel
theorem dX12_sums_35 : decode cX12_sums 35 = .ok (.getfield 245, 3) := by decide +kernel
theorem dX12_sums_38 : decode cX12_sums 38 = .ok (.iconst 1, 1) := by decide +kernel
theorem dX12_sums_39 : decode cX12_sums 39 = .ok (.isub, 1) := by decide +kernel
theorem dX12_sums_40 : decode cX12_sums 40 = .ok (.putfield 245, 3) := by decide +kernel
theorem dX12_sums_43 : decode cX12_sums 43 = .ok (.goto (-43), 3) := by decide +kernel
theorem dX12_sums_46 : decode cX12_sums 46 = .ok (.return_, 1) := by decide +kernel
theorem dX12_stays_0 : decode cX12_stays 0 = .ok (.aload_n 0, 1) := by decide +kernel
theorem dX12_stays_1 : decode cX12_stays 1 = .ok (.invokevirtual 173, 3) := by decide +kernel
theorem dX12_stays_4 : decode cX12_stays 4 = .ok (.istore_n 1, 1) := by decide +kernel
theorem dX12_stays_5 : decode cX12_stays 5 = .ok (.iload_n 1, 1) := by decide +kernel
theorem dX12_stays_6 : decode cX12_stays 6 = .ok (.invokestatic 260, 3) := by decide +kernel
theorem dX12_stays_9 : decode cX12_stays 9 = .ok (.ifCond .ne 10, 3) := by decide +kernel
theorem dX12_stays_12 : decode cX12_stays 12 = .ok (.iload_n 1, 1) := by decide +kernel
theorem dX12_stays_13 : decode cX12_stays 13 = .ok (.invokestatic 263, 3) := by decide +kernel
theorem dX12_stays_16 : decode cX12_stays 16 = .ok (.ifCond .eq 18, 3) := by decide +kernel
theorem dX12_stays_19 : decode cX12_stays 19 = .ok (.aload_n 0, 1) := by decide +kernel
theorem dX12_stays_20 : decode cX12_stays 20 = .ok (.iload_n 1, 1) := by decide +kernel
theorem dX12_stays_21 : decode cX12_stays 21 = .ok (.invokestatic 263, 3) := by decide +kernel
theorem dX12_stays_24 : decode cX12_stays 24 = .ok (.invokevirtual 278, 3) := by decide +kernel
theorem dX12_stays_27 : decode cX12_stays 27 = .ok (.aload_n 0, 1) := by decide +kernel
theorem dX12_stays_28 : decode cX12_stays 28 = .ok (.iload_n 1, 1) := by decide +kernel
theorem dX12_stays_29 : decode cX12_stays 29 = .ok (.invokevirtual 251, 3) := by decide +kernel
theorem dX12_stays_32 : decode cX12_stays 32 = .ok (.iconst 1, 1) := by decide +kernel
theorem dX12_stays_33 : decode cX12_stays 33 = .ok (.ireturn, 1) := by decide +kernel
theorem dX12_stays_34 : decode cX12_stays 34 = .ok (.aload_n 0, 1) := by decide +kernel
theorem dX12_stays_35 : decode cX12_stays 35 = .ok (.iconst 1, 1) := by decide +kernel
theorem dX12_stays_36 : decode cX12_stays 36 = .ok (.invokevirtual 278, 3) := by decide +kernel
theorem dX12_stays_39 : decode cX12_stays 39 = .ok (.iload_n 1, 1) := by decide +kernel
theorem dX12_stays_40 : decode cX12_stays 40 = .ok (.bipush 93, 2) := by decide +kernel
theorem dX12_stays_42 : decode cX12_stays 42 = .ok (.if_icmp .eq 5, 3) := by decide +kernel
theorem dX12_stays_45 : decode cX12_stays 45 = .ok (.iconst 0, 1) := by decide +kernel
theorem dX12_stays_46 : decode cX12_stays 46 = .ok (.ireturn, 1) := by decide +kernel
theorem dX12_stays_47 : decode cX12_stays 47 = .ok (.aload_n 0, 1) := by decide +kernel
theorem dX12_stays_48 : decode cX12_stays 48 = .ok (.invokevirtual 257, 3) := by decide +kernel
theorem dX12_stays_51 : decode cX12_stays 51 = .ok (.bipush 91, 2) := by decide +kernel
theorem dX12_stays_53 : decode cX12_stays 53 = .ok (.if_icmp .eq 14, 3) := by decide +kernel
theorem dX12_stays_56 : decode cX12_stays 56 = .ok (.aload_n 0, 1) := by decide +kernel
theorem dX12_stays_57 : decode cX12_stays 57 = .ok (.iconst 1, 1) := by decide +kernel
theorem dX12_stays_58 : decode cX12_stays 58 = .ok (.aload_n 0, 1) := by decide +kernel
theorem dX12_stays_59 : decode cX12_stays 59 = .ok (.getfield 164, 3) := by decide +kernel
theorem dX12_stays_62 : decode cX12_stays 62 = .ok (.invokevirtual 205, 3) := by decide +kernel
theorem dX12_stays_65 : decode cX12_stays 65 = .ok (.iconst 0, 1) := by decide +kernel
theorem dX12_stays_66 : decode cX12_stays 66 = .ok (.ireturn, 1) := by decide +kernel
theorem dX12_stays_67 : decode cX12_stays 67 = .ok (.aload_n 0, 1) := by decide +kernel
theorem dX12_stays_68 : decode cX12_stays 68 = .ok (.dup, 1) := by decide +kernel
theorem dX12_stays_69 : decode cX12_stays 69 = .ok (.getfield 245, 3) := by decide +kernel
theorem dX12_stays_72 : decode cX12_stays 72 = .ok (.iconst 1, 1) := by decide +kernel
theorem dX12_stays_73 : decode cX12_stays 73 = .ok (.isub, 1) := by decide +kernel
theorem dX12_stays_74 : decode cX12_stays 74 = .ok (.putfield 245, 3) := by decide +kernel
theorem dX12_stays_77 : decode cX12_stays 77 = .ok (.aload_n 0, 1) := by decide +kernel
theorem dX12_stays_78 : decode cX12_stays 78 = .ok (.dup, 1) := by decide +kernel
theorem dX12_stays_79 : decode cX12_stays 79 = .ok (.getfield 248, 3) := by decide +kernel
theorem dX12_stays_82 : decode cX12_stays 82 = .ok (.iconst 1, 1) := by decide +kernel
theorem dX12_stays_83 : decode cX12_stays 83 = .ok (.isub, 1) := by decide +kernel
theorem dX12_stays_84 : decode cX12_stays 84 = .ok (.putfield 248, 3) := by decide +kernel
theorem dX12_stays_87 : decode cX12_stays 87 = .ok (.aload_n 0, 1) := by decide +kernel
theorem dX12_stays_88 : decode cX12_stays 88 = .ok (.dup, 1) := by decide +kernel
theorem dX12_stays_89 : decode cX12_stays 89 = .ok (.getfield 164, 3) := by decide +kernel
theorem dX12_stays_92 : decode cX12_stays 92 = .ok (.iconst 1, 1) := by decide +kernel
theorem dX12_stays_93 : decode cX12_stays 93 = .ok (.iadd, 1) := by decide +kernel
theorem dX12_stays_94 : decode cX12_stays 94 = .ok (.putfield 164, 3) := by decide +kernel
theorem dX12_stays_97 : decode cX12_stays 97 = .ok (.aload_n 0, 1) := by decide +kernel
theorem dX12_stays_98 : decode cX12_stays 98 = .ok (.iconst 1, 1) := by decide +kernel
theorem dX12_stays_99 : decode cX12_stays 99 = .ok (.putfield 282, 3) := by decide +kernel
theorem dX12_stays_102 : decode cX12_stays 102 = .ok (.iconst 1, 1) := by decide +kernel
theorem dX12_stays_103 : decode cX12_stays 103 = .ok (.ireturn, 1) := by decide +kernel
theorem dX12_value_0 : decode cX12_value 0 = .ok (.iconst 1, 1) := by decide +kernel
theorem dX12_value_1 : decode cX12_value 1 = .ok (.istore_n 1, 1) := by decide +kernel
theorem dX12_value_2 : decode cX12_value 2 = .ok (.aload_n 0, 1) := by decide +kernel
theorem dX12_value_3 : decode cX12_value 3 = .ok (.iconst 0, 1) := by decide +kernel
theorem dX12_value_4 : decode cX12_value 4 = .ok (.putfield 282, 3) := by decide +kernel
theorem dX12_value_7 : decode cX12_value 7 = .ok (.iload_n 1, 1) := by decide +kernel
theorem dX12_value_8 : decode cX12_value 8 = .ok (.ifCond .eq 49, 3) := by decide +kernel
theorem dX12_value_11 : decode cX12_value 11 = .ok (.aload_n 0, 1) := by decide +kernel
theorem dX12_value_12 : decode cX12_value 12 = .ok (.invokevirtual 209, 3) := by decide +kernel
theorem dX12_value_15 : decode cX12_value 15 = .ok (.ifCond .eq 42, 3) := by decide +kernel
theorem dX12_value_18 : decode cX12_value 18 = .ok (.aload_n 0, 1) := by decide +kernel
theorem dX12_value_19 : decode cX12_value 19 = .ok (.getfield 282, 3) := by decide +kernel
theorem dX12_value_22 : decode cX12_value 22 = .ok (.ifCond .ne 7, 3) := by decide +kernel
theorem dX12_value_25 : decode cX12_value 25 = .ok (.aload_n 0, 1) := by decide +kernel
theorem dX12_value_26 : decode cX12_value 26 = .ok (.invokevirtual 286, 3) := by decide +kernel
theorem dX12_value_29 : decode cX12_value 29 = .ok (.aload_n 0, 1) := by decide +kernel
theorem dX12_value_30 : decode cX12_value 30 = .ok (.iconst 0, 1) := by decide +kernel
theorem dX12_value_31 : decode cX12_value 31 = .ok (.putfield 282, 3) := by decide +kernel
theorem dX12_value_34 : decode cX12_value 34 = .ok (.aload_n 0, 1) := by decide +kernel
theorem dX12_value_35 : decode cX12_value 35 = .ok (.invokevirtual 209, 3) := by decide +kernel
theorem dX12_value_38 : decode cX12_value 38 = .ok (.ifCond .eq 14, 3) := by decide +kernel
theorem dX12_value_41 : decode cX12_value 41 = .ok (.aload_n 0, 1) := by decide +kernel
theorem dX12_value_42 : decode cX12_value 42 = .ok (.invokevirtual 289, 3) := by decide +kernel
theorem dX12_value_45 : decode cX12_value 45 = .ok (.ifCond .eq 7, 3) := by decide +kernel
theorem dX12_value_48 : decode cX12_value 48 = .ok (.iconst 1, 1) := by decide +kernel
theorem dX12_value_49 : decode cX12_value 49 = .ok (.goto 4, 3) := by decide +kernel
theorem dX12_value_52 : decode cX12_value 52 = .ok (.iconst 0, 1) := by decide +kernel
theorem dX12_value_53 : decode cX12_value 53 = .ok (.istore_n 1, 1) := by decide +kernel
theorem dX12_value_54 : decode cX12_value 54 = .ok (.goto (-47), 3) := by decide +kernel
theorem dX12_value_57 : decode cX12_value 57 = .ok (.aload_n 0, 1) := by decide +kernel
theorem dX12_value_58 : decode cX12_value 58 = .ok (.invokevirtual 209, 3) := by decide +kernel
theorem dX12_value_61 : decode cX12_value 61 = .ok (.ifCond .eq 21, 3) := by decide +kernel
theorem dX12_value_64 : decode cX12_value 64 = .ok (.aload_n 0, 1) := by decide +kernel
theorem dX12_value_65 : decode cX12_value 65 = .ok (.invokevirtual 257, 3) := by decide +kernel
theorem dX12_value_68 : decode cX12_value 68 = .ok (.bipush 91, 2) := by decide +kernel
theorem dX12_value_70 : decode cX12_value 70 = .ok (.if_icmp .ne 12, 3) := by decide +kernel
theorem dX12_value_73 : decode cX12_value 73 = .ok (.aload_n 0, 1) := by decide +kernel
theorem dX12_value_74 : decode cX12_value 74 = .ok (.iconst 1, 1) := by decide +kernel
theorem dX12_value_75 : decode cX12_value 75 = .ok (.aload_n 0, 1) := by decide +kernel
theorem dX12_value_76 : decode cX12_value 76 = .ok (.getfield 164, 3) := by decide +kernel
theorem dX12_value_79 : decode cX12_value 79 = .ok (.invokevirtual 205, 3) := by decide +kernel
theorem dX12_value_82 : decode cX12_value 82 = .ok (.return_, 1) := by decide +kernel
theorem dX12_valueOf_0 : decode cX12_valueOf 0 = .ok (.iload_n 1, 1) := by decide +kernel
theorem dX12_valueOf_1 : decode cX12_valueOf 1 = .ok (.tableswitch 167 97 116 #[120, 125, 110, 146, 167, 167, 167, 167, 167, 167, 167, 95, 167, 167, 167, 167, 167, 130, 105, 100], 95) := by decide +kernel
theorem dX12_valueOf_96 : decode cX12_valueOf 96 = .ok (.aload_n 0, 1) := by decide +kernel
theorem dX12_valueOf_97 : decode cX12_valueOf 97 = .ok (.getfield 327, 3) := by decide +kernel
theorem dX12_valueOf_100 : decode cX12_valueOf 100 = .ok (.ireturn, 1) := by decide +kernel
theorem dX12_valueOf_101 : decode cX12_valueOf 101 = .ok (.aload_n 0, 1) := by decide +kernel
theorem dX12_valueOf_102 : decode cX12_valueOf 102 = .ok (.getfield 330, 3) := by decide +kernel
theorem dX12_valueOf_105 : decode cX12_valueOf 105 = .ok (.ireturn, 1) := by decide +kernel
theorem dX12_valueOf_106 : decode cX12_valueOf 106 = .ok (.aload_n 0, 1) := by decide +kernel
theorem dX12_valueOf_107 : decode cX12_valueOf 107 = .ok (.getfield 333, 3) := by decide +kernel
theorem dX12_valueOf_110 : decode cX12_valueOf 110 = .ok (.ireturn, 1) := by decide +kernel
theorem dX12_valueOf_111 : decode cX12_valueOf 111 = .ok (.aload_n 0, 1) := by decide +kernel
theorem dX12_valueOf_112 : decode cX12_valueOf 112 = .ok (.getfield 76, 3) := by decide +kernel
theorem dX12_valueOf_115 : decode cX12_valueOf 115 = .ok (.aload_n 0, 1) := by decide +kernel
theorem dX12_valueOf_116 : decode cX12_valueOf 116 = .ok (.getfield 333, 3) := by decide +kernel
theorem dX12_valueOf_119 : decode cX12_valueOf 119 = .ok (.iaload, 1) := by decide +kernel
theorem dX12_valueOf_120 : decode cX12_valueOf 120 = .ok (.ireturn, 1) := by decide +kernel
theorem dX12_valueOf_121 : decode cX12_valueOf 121 = .ok (.aload_n 0, 1) := by decide +kernel
theorem dX12_valueOf_122 : decode cX12_valueOf 122 = .ok (.getfield 336, 3) := by decide +kernel
theorem dX12_valueOf_125 : decode cX12_valueOf 125 = .ok (.ireturn, 1) := by decide +kernel
theorem dX12_valueOf_126 : decode cX12_valueOf 126 = .ok (.aload_n 0, 1) := by decide +kernel
theorem dX12_valueOf_127 : decode cX12_valueOf 127 = .ok (.getfield 339, 3) := by decide +kernel
theorem dX12_valueOf_130 : decode cX12_valueOf 130 = .ok (.ireturn, 1) := by decide +kernel
theorem dX12_valueOf_131 : decode cX12_valueOf 131 = .ok (.aload_n 0, 1) := by decide +kernel
theorem dX12_valueOf_132 : decode cX12_valueOf 132 = .ok (.getfield 342, 3) := by decide +kernel
theorem dX12_valueOf_135 : decode cX12_valueOf 135 = .ok (.ifCond .ge 7, 3) := by decide +kernel
theorem dX12_valueOf_138 : decode cX12_valueOf 138 = .ok (.iconst 0, 1) := by decide +kernel
theorem dX12_valueOf_139 : decode cX12_valueOf 139 = .ok (.goto 7, 3) := by decide +kernel
theorem dX12_valueOf_142 : decode cX12_valueOf 142 = .ok (.aload_n 0, 1) := by decide +kernel
theorem dX12_valueOf_143 : decode cX12_valueOf 143 = .ok (.getfield 342, 3) := by decide +kernel
theorem dX12_valueOf_146 : decode cX12_valueOf 146 = .ok (.ireturn, 1) := by decide +kernel
theorem dX12_valueOf_147 : decode cX12_valueOf 147 = .ok (.aload_n 0, 1) := by decide +kernel
theorem dX12_valueOf_148 : decode cX12_valueOf 148 = .ok (.getfield 342, 3) := by decide +kernel
theorem dX12_valueOf_151 : decode cX12_valueOf 151 = .ok (.ifCond .ge 7, 3) := by decide +kernel
theorem dX12_valueOf_154 : decode cX12_valueOf 154 = .ok (.iconst 0, 1) := by decide +kernel
theorem dX12_valueOf_155 : decode cX12_valueOf 155 = .ok (.goto 12, 3) := by decide +kernel
theorem dX12_valueOf_158 : decode cX12_valueOf 158 = .ok (.aload_n 0, 1) := by decide +kernel
theorem dX12_valueOf_159 : decode cX12_valueOf 159 = .ok (.getfield 76, 3) := by decide +kernel
theorem dX12_valueOf_162 : decode cX12_valueOf 162 = .ok (.aload_n 0, 1) := by decide +kernel
theorem dX12_valueOf_163 : decode cX12_valueOf 163 = .ok (.getfield 342, 3) := by decide +kernel
theorem dX12_valueOf_166 : decode cX12_valueOf 166 = .ok (.iaload, 1) := by decide +kernel
theorem dX12_valueOf_167 : decode cX12_valueOf 167 = .ok (.ireturn, 1) := by decide +kernel
theorem dX12_valueOf_168 : decode cX12_valueOf 168 = .ok (.aload_n 0, 1) := by decide +kernel
theorem dX12_valueOf_169 : decode cX12_valueOf 169 = .ok (.getfield 345, 3) := by decide +kernel
theorem dX12_valueOf_172 : decode cX12_valueOf 172 = .ok (.ireturn, 1) := by decide +kernel
theorem dX12_worked_0 : decode cX12_worked 0 = .ok (.iload_n 0, 1) := by decide +kernel
theorem dX12_worked_1 : decode cX12_worked 1 = .ok (.lookupswitch 125 #[(37, 91), (42, 75), (43, 67), (45, 71), (47, 79), (60, 103), (62, 114)], 67) := by decide +kernel
theorem dX12_worked_68 : decode cX12_worked 68 = .ok (.iload_n 1, 1) := by decide +kernel
theorem dX12_worked_69 : decode cX12_worked 69 = .ok (.iload_n 2, 1) := by decide +kernel
theorem dX12_worked_70 : decode cX12_worked 70 = .ok (.iadd, 1) := by decide +kernel
theorem dX12_worked_71 : decode cX12_worked 71 = .ok (.ireturn, 1) := by decide +kernel
theorem dX12_worked_72 : decode cX12_worked 72 = .ok (.iload_n 1, 1) := by decide +kernel
theorem dX12_worked_73 : decode cX12_worked 73 = .ok (.iload_n 2, 1) := by decide +kernel
theorem dX12_worked_74 : decode cX12_worked 74 = .ok (.isub, 1) := by decide +kernel
theorem dX12_worked_75 : decode cX12_worked 75 = .ok (.ireturn, 1) := by decide +kernel
theorem dX12_worked_76 : decode cX12_worked 76 = .ok (.iload_n 1, 1) := by decide +kernel
theorem dX12_worked_77 : decode cX12_worked 77 = .ok (.iload_n 2, 1) := by decide +kernel
theorem dX12_worked_78 : decode cX12_worked 78 = .ok (.imul, 1) := by decide +kernel
theorem dX12_worked_79 : decode cX12_worked 79 = .ok (.ireturn, 1) := by decide +kernel
theorem dX12_worked_80 : decode cX12_worked 80 = .ok (.iload_n 2, 1) := by decide +kernel
theorem dX12_worked_81 : decode cX12_worked 81 = .ok (.ifCond .ne 7, 3) := by decide +kernel
theorem dX12_worked_84 : decode cX12_worked 84 = .ok (.iconst 0, 1) := by decide +kernel
theorem dX12_worked_85 : decode cX12_worked 85 = .ok (.goto 6, 3) := by decide +kernel
theorem dX12_worked_88 : decode cX12_worked 88 = .ok (.iload_n 1, 1) := by decide +kernel
theorem dX12_worked_89 : decode cX12_worked 89 = .ok (.iload_n 2, 1) := by decide +kernel
theorem dX12_worked_90 : decode cX12_worked 90 = .ok (.idiv, 1) := by decide +kernel
theorem dX12_worked_91 : decode cX12_worked 91 = .ok (.ireturn, 1) := by decide +kernel
theorem dX12_worked_92 : decode cX12_worked 92 = .ok (.iload_n 2, 1) := by decide +kernel
theorem dX12_worked_93 : decode cX12_worked 93 = .ok (.ifCond .ne 7, 3) := by decide +kernel
theorem dX12_worked_96 : decode cX12_worked 96 = .ok (.iconst 0, 1) := by decide +kernel
theorem dX12_worked_97 : decode cX12_worked 97 = .ok (.goto 6, 3) := by decide +kernel
theorem dX12_worked_100 : decode cX12_worked 100 = .ok (.iload_n 1, 1) := by decide +kernel
theorem dX12_worked_101 : decode cX12_worked 101 = .ok (.iload_n 2, 1) := by decide +kernel
theorem dX12_worked_102 : decode cX12_worked 102 = .ok (.irem, 1) := by decide +kernel
theorem dX12_worked_103 : decode cX12_worked 103 = .ok (.ireturn, 1) := by decide +kernel
theorem dX12_worked_104 : decode cX12_worked 104 = .ok (.iload_n 1, 1) := by decide +kernel
theorem dX12_worked_105 : decode cX12_worked 105 = .ok (.iload_n 2, 1) := by decide +kernel
theorem dX12_worked_106 : decode cX12_worked 106 = .ok (.if_icmp .ge 7, 3) := by decide +kernel
theorem dX12_worked_109 : decode cX12_worked 109 = .ok (.iconst 1, 1) := by decide +kernel
theorem dX12_worked_110 : decode cX12_worked 110 = .ok (.goto 4, 3) := by decide +kernel
theorem dX12_worked_113 : decode cX12_worked 113 = .ok (.iconst 0, 1) := by decide +kernel
theorem dX12_worked_114 : decode cX12_worked 114 = .ok (.ireturn, 1) := by decide +kernel
theorem dX12_worked_115 : decode cX12_worked 115 = .ok (.iload_n 1, 1) := by decide +kernel
theorem dX12_worked_116 : decode cX12_worked 116 = .ok (.iload_n 2, 1) := by decide +kernel
theorem dX12_worked_117 : decode cX12_worked 117 = .ok (.if_icmp .le 7, 3) := by decide +kernel
theorem dX12_worked_120 : decode cX12_worked 120 = .ok (.iconst 1, 1) := by decide +kernel
theorem dX12_worked_121 : decode cX12_worked 121 = .ok (.goto 4, 3) := by decide +kernel
theorem dX12_worked_124 : decode cX12_worked 124 = .ok (.iconst 0, 1) := by decide +kernel
theorem dX12_worked_125 : decode cX12_worked 125 = .ok (.ireturn, 1) := by decide +kernel
theorem dX12_worked_126 : decode cX12_worked 126 = .ok (.iload_n 1, 1) := by decide +kernel
theorem dX12_worked_127 : decode cX12_worked 127 = .ok (.iload_n 2, 1) := by decide +kernel
theorem dX12_worked_128 : decode cX12_worked 128 = .ok (.if_icmp .ne 7, 3) := by decide +kernel
theorem dX12_worked_131 : decode cX12_worked 131 = .ok (.iconst 1, 1) := by decide +kernel
theorem dX12_worked_132 : decode cX12_worked 132 = .ok (.goto 4, 3) := by decide +kernel
theorem dX12_worked_135 : decode cX12_worked 135 = .ok (.iconst 0, 1) := by decide +kernel
theorem dX12_worked_136 : decode cX12_worked 136 = .ok (.ireturn, 1) := by decide +kernel
theorem dX12_works_0 : decode cX12_works 0 = .ok (.iconst 0, 1) := by decide +kernel
theorem dX12_works_1 : decode cX12_works 1 = .ok (.istore_n 3, 1) := by decide +kernel
theorem dX12_works_2 : decode cX12_works 2 = .ok (.iload_n 1, 1) := by decide +kernel
theorem dX12_works_3 : decode cX12_works 3 = .ok (.istore 4, 2) := by decide +kernel
theorem dX12_works_5 : decode cX12_works 5 = .ok (.iload 4, 2) := by decide +kernel
theorem dX12_works_7 : decode cX12_works 7 = .ok (.iload_n 2, 1) := by decide +kernel
theorem dX12_works_8 : decode cX12_works 8 = .ok (.if_icmp .ge 119, 3) := by decide +kernel
theorem dX12_works_11 : decode cX12_works 11 = .ok (.aload_n 0, 1) := by decide +kernel
theorem dX12_works_12 : decode cX12_works 12 = .ok (.getfield 49, 3) := by decide +kernel
theorem dX12_works_15 : decode cX12_works 15 = .ok (.iload 4, 2) := by decide +kernel
theorem dX12_works_17 : decode cX12_works 17 = .ok (.iaload, 1) := by decide +kernel
theorem dX12_works_18 : decode cX12_works 18 = .ok (.iconst 2, 1) := by decide +kernel
theorem dX12_works_19 : decode cX12_works 19 = .ok (.if_icmp .le 23, 3) := by decide +kernel
theorem dX12_works_22 : decode cX12_works 22 = .ok (.iinc 3 (-1), 3) := by decide +kernel
theorem dX12_works_25 : decode cX12_works 25 = .ok (.aload_n 0, 1) := by decide +kernel
theorem dX12_works_26 : decode cX12_works 26 = .ok (.aload_n 0, 1) := by decide +kernel
theorem dX12_works_27 : decode cX12_works 27 = .ok (.getfield 49, 3) := by decide +kernel
theorem dX12_works_30 : decode cX12_works 30 = .ok (.iload 4, 2) := by decide +kernel
theorem dX12_works_32 : decode cX12_works 32 = .ok (.iaload, 1) := by decide +kernel
theorem dX12_works_33 : decode cX12_works 33 = .ok (.iload_n 3, 1) := by decide +kernel
theorem dX12_works_34 : decode cX12_works 34 = .ok (.iconst 1, 1) := by decide +kernel
theorem dX12_works_35 : decode cX12_works 35 = .ok (.isub, 1) := by decide +kernel
theorem dX12_works_36 : decode cX12_works 36 = .ok (.invokevirtual 352, 3) := by decide +kernel
theorem dX12_works_39 : decode cX12_works 39 = .ok (.goto 82, 3) := by decide +kernel
theorem dX12_works_42 : decode cX12_works 42 = .ok (.aload_n 0, 1) := by decide +kernel
theorem dX12_works_43 : decode cX12_works 43 = .ok (.getfield 49, 3) := by decide +kernel
theorem dX12_works_46 : decode cX12_works 46 = .ok (.iload 4, 2) := by decide +kernel
theorem dX12_works_48 : decode cX12_works 48 = .ok (.iaload, 1) := by decide +kernel
theorem dX12_works_49 : decode cX12_works 49 = .ok (.iconst 2, 1) := by decide +kernel
theorem dX12_works_50 : decode cX12_works 50 = .ok (.if_icmp .ne 24, 3) := by decide +kernel
theorem dX12_works_53 : decode cX12_works 53 = .ok (.aload_n 0, 1) := by decide +kernel
theorem dX12_works_54 : decode cX12_works 54 = .ok (.getfield 79, 3) := by decide +kernel
theorem dX12_works_57 : decode cX12_works 57 = .ok (.iload_n 3, 1) := by decide +kernel
theorem dX12_works_58 : decode cX12_works 58 = .ok (.iconst 1, 1) := by decide +kernel
theorem dX12_works_59 : decode cX12_works 59 = .ok (.isub, 1) := by decide +kernel
theorem dX12_works_60 : decode cX12_works 60 = .ok (.iconst 1, 1) := by decide +kernel
theorem dX12_works_61 : decode cX12_works 61 = .ok (.aload_n 0, 1) := by decide +kernel
theorem dX12_works_62 : decode cX12_works 62 = .ok (.getfield 79, 3) := by decide +kernel
theorem dX12_works_65 : decode cX12_works 65 = .ok (.iload_n 3, 1) := by decide +kernel
theorem dX12_works_66 : decode cX12_works 66 = .ok (.iconst 1, 1) := by decide +kernel
theorem dX12_works_67 : decode cX12_works 67 = .ok (.isub, 1) := by decide +kernel
theorem dX12_works_68 : decode cX12_works 68 = .ok (.iaload, 1) := by decide +kernel
theorem dX12_works_69 : decode cX12_works 69 = .ok (.isub, 1) := by decide +kernel
theorem dX12_works_70 : decode cX12_works 70 = .ok (.iastore, 1) := by decide +kernel
theorem dX12_works_71 : decode cX12_works 71 = .ok (.goto 50, 3) := by decide +kernel
theorem dX12_works_74 : decode cX12_works 74 = .ok (.aload_n 0, 1) := by decide +kernel
theorem dX12_works_75 : decode cX12_works 75 = .ok (.getfield 82, 3) := by decide +kernel
theorem dX12_works_78 : decode cX12_works 78 = .ok (.iload_n 3, 1) := by decide +kernel
theorem dX12_works_79 : decode cX12_works 79 = .ok (.iconst 0, 1) := by decide +kernel
theorem dX12_works_80 : decode cX12_works 80 = .ok (.bastore, 1) := by decide +kernel
theorem dX12_works_81 : decode cX12_works 81 = .ok (.aload_n 0, 1) := by decide +kernel
theorem dX12_works_82 : decode cX12_works 82 = .ok (.getfield 79, 3) := by decide +kernel
theorem dX12_works_85 : decode cX12_works 85 = .ok (.iload_n 3, 1) := by decide +kernel
theorem dX12_works_86 : decode cX12_works 86 = .ok (.aload_n 0, 1) := by decide +kernel
theorem dX12_works_87 : decode cX12_works 87 = .ok (.getfield 49, 3) := by decide +kernel
theorem dX12_works_90 : decode cX12_works 90 = .ok (.iload 4, 2) := by decide +kernel
theorem dX12_works_92 : decode cX12_works 92 = .ok (.iaload, 1) := by decide +kernel
theorem dX12_works_93 : decode cX12_works 93 = .ok (.ifCond .ne 13, 3) := by decide +kernel
theorem dX12_works_96 : decode cX12_works 96 = .ok (.aload_n 0, 1) := by decide +kernel
theorem dX12_works_97 : decode cX12_works 97 = .ok (.getfield 52, 3) := by decide +kernel
theorem dX12_works_100 : decode cX12_works 100 = .ok (.iload 4, 2) := by decide +kernel
theorem dX12_works_102 : decode cX12_works 102 = .ok (.iaload, 1) := by decide +kernel
theorem dX12_works_103 : decode cX12_works 103 = .ok (.goto 14, 3) := by decide +kernel
theorem dX12_works_106 : decode cX12_works 106 = .ok (.aload_n 0, 1) := by decide +kernel
theorem dX12_works_107 : decode cX12_works 107 = .ok (.aload_n 0, 1) := by decide +kernel
theorem dX12_works_108 : decode cX12_works 108 = .ok (.getfield 52, 3) := by decide +kernel
theorem dX12_works_111 : decode cX12_works 111 = .ok (.iload 4, 2) := by decide +kernel
theorem dX12_works_113 : decode cX12_works 113 = .ok (.iaload, 1) := by decide +kernel
theorem dX12_works_114 : decode cX12_works 114 = .ok (.invokevirtual 355, 3) := by decide +kernel
theorem dX12_works_117 : decode cX12_works 117 = .ok (.iastore, 1) := by decide +kernel
theorem dX12_works_118 : decode cX12_works 118 = .ok (.iinc 3 1, 3) := by decide +kernel
theorem dX12_works_121 : decode cX12_works 121 = .ok (.iinc 4 1, 3) := by decide +kernel
theorem dX12_works_124 : decode cX12_works 124 = .ok (.goto (-119), 3) := by decide +kernel
theorem dX12_works_127 : decode cX12_works 127 = .ok (.return_, 1) := by decide +kernel
theorem dX12_standsAt_0 : decode cX12_standsAt 0 = .ok (.aload_n 0, 1) := by decide +kernel
theorem dX12_standsAt_1 : decode cX12_standsAt 1 = .ok (.iload_n 1, 1) := by decide +kernel
theorem dX12_standsAt_2 : decode cX12_standsAt 2 = .ok (.putfield 345, 3) := by decide +kernel
theorem dX12_standsAt_5 : decode cX12_standsAt 5 = .ok (.aload_n 0, 1) := by decide +kernel
theorem dX12_standsAt_6 : decode cX12_standsAt 6 = .ok (.aload_n 0, 1) := by decide +kernel
theorem dX12_standsAt_7 : decode cX12_standsAt 7 = .ok (.iload_n 1, 1) := by decide +kernel
theorem dX12_standsAt_8 : decode cX12_standsAt 8 = .ok (.iconst 1, 1) := by decide +kernel
theorem dX12_standsAt_9 : decode cX12_standsAt 9 = .ok (.isub, 1) := by decide +kernel
theorem dX12_standsAt_10 : decode cX12_standsAt 10 = .ok (.invokevirtual 366, 3) := by decide +kernel
theorem dX12_standsAt_13 : decode cX12_standsAt 13 = .ok (.putfield 336, 3) := by decide +kernel
theorem dX12_standsAt_16 : decode cX12_standsAt 16 = .ok (.aload_n 0, 1) := by decide +kernel
theorem dX12_standsAt_17 : decode cX12_standsAt 17 = .ok (.aload_n 0, 1) := by decide +kernel
theorem dX12_standsAt_18 : decode cX12_standsAt 18 = .ok (.iload_n 1, 1) := by decide +kernel
theorem dX12_standsAt_19 : decode cX12_standsAt 19 = .ok (.iconst 2, 1) := by decide +kernel
theorem dX12_standsAt_20 : decode cX12_standsAt 20 = .ok (.isub, 1) := by decide +kernel
theorem dX12_standsAt_21 : decode cX12_standsAt 21 = .ok (.invokevirtual 366, 3) := by decide +kernel
theorem dX12_standsAt_24 : decode cX12_standsAt 24 = .ok (.putfield 339, 3) := by decide +kernel
theorem dX12_standsAt_27 : decode cX12_standsAt 27 = .ok (.aload_n 0, 1) := by decide +kernel
theorem dX12_standsAt_28 : decode cX12_standsAt 28 = .ok (.iload_n 1, 1) := by decide +kernel
theorem dX12_standsAt_29 : decode cX12_standsAt 29 = .ok (.ifCond .le 14, 3) := by decide +kernel
theorem dX12_standsAt_32 : decode cX12_standsAt 32 = .ok (.aload_n 0, 1) := by decide +kernel
theorem dX12_standsAt_33 : decode cX12_standsAt 33 = .ok (.getfield 85, 3) := by decide +kernel
theorem dX12_standsAt_36 : decode cX12_standsAt 36 = .ok (.iload_n 1, 1) := by decide +kernel
theorem dX12_standsAt_37 : decode cX12_standsAt 37 = .ok (.iconst 1, 1) := by decide +kernel
theorem dX12_standsAt_38 : decode cX12_standsAt 38 = .ok (.isub, 1) := by decide +kernel
theorem dX12_standsAt_39 : decode cX12_standsAt 39 = .ok (.iaload, 1) := by decide +kernel
theorem dX12_standsAt_40 : decode cX12_standsAt 40 = .ok (.goto 4, 3) := by decide +kernel
theorem dX12_standsAt_43 : decode cX12_standsAt 43 = .ok (.iconst (-1), 1) := by decide +kernel
theorem dX12_standsAt_44 : decode cX12_standsAt 44 = .ok (.putfield 342, 3) := by decide +kernel
theorem dX12_standsAt_47 : decode cX12_standsAt 47 = .ok (.return_, 1) := by decide +kernel
theorem dX12_says_0 : decode cX12_says 0 = .ok (.aload_n 0, 1) := by decide +kernel
theorem dX12_says_1 : decode cX12_says 1 = .ok (.iload_n 1, 1) := by decide +kernel
theorem dX12_says_2 : decode cX12_says 2 = .ok (.putfield 333, 3) := by decide +kernel
theorem dX12_says_5 : decode cX12_says 5 = .ok (.aload_n 0, 1) := by decide +kernel
theorem dX12_says_6 : decode cX12_says 6 = .ok (.iload_n 2, 1) := by decide +kernel
theorem dX12_says_7 : decode cX12_says 7 = .ok (.putfield 330, 3) := by decide +kernel
theorem dX12_says_10 : decode cX12_says 10 = .ok (.aload_n 0, 1) := by decide +kernel
theorem dX12_says_11 : decode cX12_says 11 = .ok (.iload_n 3, 1) := by decide +kernel
theorem dX12_says_12 : decode cX12_says 12 = .ok (.putfield 327, 3) := by decide +kernel
theorem dX12_says_15 : decode cX12_says 15 = .ok (.return_, 1) := by decide +kernel
theorem dX12_waysBy_0 : decode cX12_waysBy 0 = .ok (.iconst 0, 1) := by decide +kernel
theorem dX12_waysBy_1 : decode cX12_waysBy 1 = .ok (.istore 4, 2) := by decide +kernel
theorem dX12_waysBy_3 : decode cX12_waysBy 3 = .ok (.iconst 1, 1) := by decide +kernel
theorem dX12_waysBy_4 : decode cX12_waysBy 4 = .ok (.istore 5, 2) := by decide +kernel
theorem dX12_waysBy_6 : decode cX12_waysBy 6 = .ok (.iload 5, 2) := by decide +kernel
theorem dX12_waysBy_8 : decode cX12_waysBy 8 = .ok (.bipush 24, 2) := by decide +kernel
theorem dX12_waysBy_10 : decode cX12_waysBy 10 = .ok (.if_icmp .gt 75, 3) := by decide +kernel
theorem dX12_waysBy_13 : decode cX12_waysBy 13 = .ok (.aload_n 0, 1) := by decide +kernel
theorem dX12_waysBy_14 : decode cX12_waysBy 14 = .ok (.getfield 17, 3) := by decide +kernel
theorem dX12_waysBy_17 : decode cX12_waysBy 17 = .ok (.iload_n 3, 1) := by decide +kernel
theorem dX12_waysBy_18 : decode cX12_waysBy 18 = .ok (.iaload, 1) := by decide +kernel
theorem dX12_waysBy_19 : decode cX12_waysBy 19 = .ok (.iload 5, 2) := by decide +kernel
theorem dX12_waysBy_21 : decode cX12_waysBy 21 = .ok (.invokestatic 187, 3) := by decide +kernel
theorem dX12_waysBy_24 : decode cX12_waysBy 24 = .ok (.ifCond .ne 6, 3) := by decide +kernel
theorem dX12_waysBy_27 : decode cX12_waysBy 27 = .ok (.goto 52, 3) := by decide +kernel
theorem dX12_waysBy_30 : decode cX12_waysBy 30 = .ok (.aload_n 0, 1) := by decide +kernel
theorem dX12_waysBy_31 : decode cX12_waysBy 31 = .ok (.iload_n 2, 1) := by decide +kernel
theorem dX12_waysBy_32 : decode cX12_waysBy 32 = .ok (.iload_n 3, 1) := by decide +kernel
theorem dX12_waysBy_33 : decode cX12_waysBy 33 = .ok (.iload 5, 2) := by decide +kernel
theorem dX12_waysBy_35 : decode cX12_waysBy 35 = .ok (.invokevirtual 371, 3) := by decide +kernel
theorem dX12_waysBy_38 : decode cX12_waysBy 38 = .ok (.iload_n 1, 1) := by decide +kernel
theorem dX12_waysBy_39 : decode cX12_waysBy 39 = .ok (.iconst 0, 1) := by decide +kernel
theorem dX12_waysBy_40 : decode cX12_waysBy 40 = .ok (.invokestatic 187, 3) := by decide +kernel
theorem dX12_waysBy_43 : decode cX12_waysBy 43 = .ok (.ifCond .eq 11, 3) := by decide +kernel
theorem dX12_waysBy_46 : decode cX12_waysBy 46 = .ok (.aload_n 0, 1) := by decide +kernel
theorem dX12_waysBy_47 : decode cX12_waysBy 47 = .ok (.iconst 0, 1) := by decide +kernel
theorem dX12_waysBy_48 : decode cX12_waysBy 48 = .ok (.invokevirtual 375, 3) := by decide +kernel
theorem dX12_waysBy_51 : decode cX12_waysBy 51 = .ok (.ifCond .eq 28, 3) := by decide +kernel
theorem dX12_waysBy_54 : decode cX12_waysBy 54 = .ok (.iload_n 1, 1) := by decide +kernel
theorem dX12_waysBy_55 : decode cX12_waysBy 55 = .ok (.iconst 1, 1) := by decide +kernel
theorem dX12_waysBy_56 : decode cX12_waysBy 56 = .ok (.invokestatic 187, 3) := by decide +kernel
theorem dX12_waysBy_59 : decode cX12_waysBy 59 = .ok (.ifCond .eq 11, 3) := by decide +kernel
theorem dX12_waysBy_62 : decode cX12_waysBy 62 = .ok (.aload_n 0, 1) := by decide +kernel
theorem dX12_waysBy_63 : decode cX12_waysBy 63 = .ok (.iconst 1, 1) := by decide +kernel
theorem dX12_waysBy_64 : decode cX12_waysBy 64 = .ok (.invokevirtual 375, 3) := by decide +kernel
theorem dX12_waysBy_67 : decode cX12_waysBy 67 = .ok (.ifCond .eq 12, 3) := by decide +kernel
theorem dX12_waysBy_70 : decode cX12_waysBy 70 = .ok (.iload 4, 2) := by decide +kernel
theorem dX12_waysBy_72 : decode cX12_waysBy 72 = .ok (.iconst 1, 1) := by decide +kernel
theorem dX12_waysBy_73 : decode cX12_waysBy 73 = .ok (.iload 5, 2) := by decide +kernel
theorem dX12_waysBy_75 : decode cX12_waysBy 75 = .ok (.ishl, 1) := by decide +kernel
theorem dX12_waysBy_76 : decode cX12_waysBy 76 = .ok (.ior, 1) := by decide +kernel
theorem dX12_waysBy_77 : decode cX12_waysBy 77 = .ok (.istore 4, 2) := by decide +kernel
theorem dX12_waysBy_79 : decode cX12_waysBy 79 = .ok (.iinc 5 1, 3) := by decide +kernel
theorem dX12_waysBy_82 : decode cX12_waysBy 82 = .ok (.goto (-76), 3) := by decide +kernel
theorem dX12_waysBy_85 : decode cX12_waysBy 85 = .ok (.iload 4, 2) := by decide +kernel
theorem dX12_waysBy_87 : decode cX12_waysBy 87 = .ok (.ireturn, 1) := by decide +kernel
theorem dX12_ways_0 : decode cX12_ways 0 = .ok (.iload_n 1, 1) := by decide +kernel
theorem dX12_ways_1 : decode cX12_ways 1 = .ok (.invokestatic 319, 3) := by decide +kernel
theorem dX12_ways_4 : decode cX12_ways 4 = .ok (.ifCond .eq 17, 3) := by decide +kernel
theorem dX12_ways_7 : decode cX12_ways 7 = .ok (.iload_n 2, 1) := by decide +kernel
theorem dX12_ways_8 : decode cX12_ways 8 = .ok (.invokestatic 378, 3) := by decide +kernel
theorem dX12_ways_11 : decode cX12_ways 11 = .ok (.ifCond .eq 10, 3) := by decide +kernel
theorem dX12_ways_14 : decode cX12_ways 14 = .ok (.iload_n 3, 1) := by decide +kernel
theorem dX12_ways_15 : decode cX12_ways 15 = .ok (.invokestatic 229, 3) := by decide +kernel
theorem dX12_ways_18 : decode cX12_ways 18 = .ok (.ifCond .ne 5, 3) := by decide +kernel
theorem dX12_ways_21 : decode cX12_ways 21 = .ok (.iconst (-1), 1) := by decide +kernel
theorem dX12_ways_22 : decode cX12_ways 22 = .ok (.ireturn, 1) := by decide +kernel
theorem dX12_ways_23 : decode cX12_ways 23 = .ok (.aload_n 0, 1) := by decide +kernel
theorem dX12_ways_24 : decode cX12_ways 24 = .ok (.aload_n 0, 1) := by decide +kernel
theorem dX12_ways_25 : decode cX12_ways 25 = .ok (.getfield 386, 3) := by decide +kernel
theorem dX12_ways_28 : decode cX12_ways 28 = .ok (.invokevirtual 389, 3) := by decide +kernel
theorem dX12_ways_31 : decode cX12_ways 31 = .ok (.aload_n 0, 1) := by decide +kernel
theorem dX12_ways_32 : decode cX12_ways 32 = .ok (.iconst 1, 1) := by decide +kernel
theorem dX12_ways_33 : decode cX12_ways 33 = .ok (.iload_n 1, 1) := by decide +kernel
theorem dX12_ways_34 : decode cX12_ways 34 = .ok (.ishl, 1) := by decide +kernel
theorem dX12_ways_35 : decode cX12_ways 35 = .ok (.iload_n 2, 1) := by decide +kernel
theorem dX12_ways_36 : decode cX12_ways 36 = .ok (.iload_n 3, 1) := by decide +kernel
theorem dX12_ways_37 : decode cX12_ways 37 = .ok (.invokevirtual 392, 3) := by decide +kernel
theorem dX12_ways_40 : decode cX12_ways 40 = .ok (.ireturn, 1) := by decide +kernel
theorem dX12_say_0 : decode cX12_say 0 = .ok (.iload_n 1, 1) := by decide +kernel
theorem dX12_say_1 : decode cX12_say 1 = .ok (.invokestatic 378, 3) := by decide +kernel
theorem dX12_say_4 : decode cX12_say 4 = .ok (.ifCond .eq 20, 3) := by decide +kernel
theorem dX12_say_7 : decode cX12_say 7 = .ok (.iload_n 2, 1) := by decide +kernel
theorem dX12_say_8 : decode cX12_say 8 = .ok (.invokestatic 229, 3) := by decide +kernel
theorem dX12_say_11 : decode cX12_say 11 = .ok (.ifCond .eq 13, 3) := by decide +kernel
theorem dX12_say_14 : decode cX12_say 14 = .ok (.aload_n 0, 1) := by decide +kernel
theorem dX12_say_15 : decode cX12_say 15 = .ok (.getfield 386, 3) := by decide +kernel
theorem dX12_say_18 : decode cX12_say 18 = .ok (.sipush 200, 3) := by decide +kernel
theorem dX12_say_21 : decode cX12_say 21 = .ok (.if_icmp .ne 5, 3) := by decide +kernel
theorem dX12_say_24 : decode cX12_say 24 = .ok (.iconst (-1), 1) := by decide +kernel
theorem dX12_say_25 : decode cX12_say 25 = .ok (.ireturn, 1) := by decide +kernel
theorem dX12_say_26 : decode cX12_say 26 = .ok (.iload_n 3, 1) := by decide +kernel
theorem dX12_say_27 : decode cX12_say 27 = .ok (.invokestatic 383, 3) := by decide +kernel
theorem dX12_say_30 : decode cX12_say 30 = .ok (.ifCond .eq 16, 3) := by decide +kernel
theorem dX12_say_33 : decode cX12_say 33 = .ok (.aload_n 0, 1) := by decide +kernel
theorem dX12_say_34 : decode cX12_say 34 = .ok (.getfield 17, 3) := by decide +kernel
theorem dX12_say_37 : decode cX12_say 37 = .ok (.iload_n 2, 1) := by decide +kernel
theorem dX12_say_38 : decode cX12_say 38 = .ok (.iaload, 1) := by decide +kernel
theorem dX12_say_39 : decode cX12_say 39 = .ok (.iload_n 3, 1) := by decide +kernel
theorem dX12_say_40 : decode cX12_say 40 = .ok (.invokestatic 187, 3) := by decide +kernel
theorem dX12_say_43 : decode cX12_say 43 = .ok (.ifCond .ne 6, 3) := by decide +kernel
theorem dX12_say_46 : decode cX12_say 46 = .ok (.bipush (-2), 2) := by decide +kernel
theorem dX12_say_48 : decode cX12_say 48 = .ok (.ireturn, 1) := by decide +kernel
theorem dX12_say_49 : decode cX12_say 49 = .ok (.aload_n 0, 1) := by decide +kernel
theorem dX12_say_50 : decode cX12_say 50 = .ok (.aload_n 0, 1) := by decide +kernel
theorem dX12_say_51 : decode cX12_say 51 = .ok (.getfield 386, 3) := by decide +kernel
theorem dX12_say_54 : decode cX12_say 54 = .ok (.invokevirtual 389, 3) := by decide +kernel
theorem dX12_say_57 : decode cX12_say 57 = .ok (.aload_n 0, 1) := by decide +kernel
theorem dX12_say_58 : decode cX12_say 58 = .ok (.iload_n 1, 1) := by decide +kernel
theorem dX12_say_59 : decode cX12_say 59 = .ok (.iload_n 2, 1) := by decide +kernel
theorem dX12_say_60 : decode cX12_say 60 = .ok (.iload_n 3, 1) := by decide +kernel
theorem dX12_say_61 : decode cX12_say 61 = .ok (.invokevirtual 371, 3) := by decide +kernel
theorem dX12_say_64 : decode cX12_say 64 = .ok (.aload_n 0, 1) := by decide +kernel
theorem dX12_say_65 : decode cX12_say 65 = .ok (.iconst 0, 1) := by decide +kernel
theorem dX12_say_66 : decode cX12_say 66 = .ok (.invokevirtual 375, 3) := by decide +kernel
theorem dX12_say_69 : decode cX12_say 69 = .ok (.ifCond .ne 6, 3) := by decide +kernel
theorem dX12_say_72 : decode cX12_say 72 = .ok (.bipush (-3), 2) := by decide +kernel
theorem dX12_say_74 : decode cX12_say 74 = .ok (.ireturn, 1) := by decide +kernel
theorem dX12_say_75 : decode cX12_say 75 = .ok (.aload_n 0, 1) := by decide +kernel
theorem dX12_say_76 : decode cX12_say 76 = .ok (.iload_n 1, 1) := by decide +kernel
theorem dX12_say_77 : decode cX12_say 77 = .ok (.iload_n 2, 1) := by decide +kernel
theorem dX12_say_78 : decode cX12_say 78 = .ok (.iload_n 3, 1) := by decide +kernel
theorem dX12_say_79 : decode cX12_say 79 = .ok (.invokevirtual 395, 3) := by decide +kernel
theorem dX12_say_82 : decode cX12_say 82 = .ok (.aload_n 0, 1) := by decide +kernel
theorem dX12_say_83 : decode cX12_say 83 = .ok (.getfield 386, 3) := by decide +kernel
theorem dX12_say_86 : decode cX12_say 86 = .ok (.ireturn, 1) := by decide +kernel
theorem dX12_said_0 : decode cX12_said 0 = .ok (.iload_n 1, 1) := by decide +kernel
theorem dX12_said_1 : decode cX12_said 1 = .ok (.i2l, 1) := by decide +kernel
theorem dX12_said_2 : decode cX12_said 2 = .ok (.lconst 0, 1) := by decide +kernel
theorem dX12_said_3 : decode cX12_said 3 = .ok (.aload_n 0, 1) := by decide +kernel
theorem dX12_said_4 : decode cX12_said 4 = .ok (.getfield 386, 3) := by decide +kernel
theorem dX12_said_7 : decode cX12_said 7 = .ok (.iconst 1, 1) := by decide +kernel
theorem dX12_said_8 : decode cX12_said 8 = .ok (.isub, 1) := by decide +kernel
theorem dX12_said_9 : decode cX12_said 9 = .ok (.i2l, 1) := by decide +kernel
theorem dX12_said_10 : decode cX12_said 10 = .ok (.invokestatic 181, 3) := by decide +kernel
theorem dX12_said_13 : decode cX12_said 13 = .ok (.ifCond .ne 5, 3) := by decide +kernel
theorem dX12_said_16 : decode cX12_said 16 = .ok (.iconst (-1), 1) := by decide +kernel
theorem dX12_said_17 : decode cX12_said 17 = .ok (.ireturn, 1) := by decide +kernel
theorem dX12_said_18 : decode cX12_said 18 = .ok (.iload_n 2, 1) := by decide +kernel
theorem dX12_said_19 : decode cX12_said 19 = .ok (.tableswitch 56 0 3 #[29, 36, 43, 50], 29) := by decide +kernel
theorem dX12_said_48 : decode cX12_said 48 = .ok (.aload_n 0, 1) := by decide +kernel
theorem dX12_said_49 : decode cX12_said 49 = .ok (.getfield 85, 3) := by decide +kernel
theorem dX12_said_52 : decode cX12_said 52 = .ok (.iload_n 1, 1) := by decide +kernel
theorem dX12_said_53 : decode cX12_said 53 = .ok (.iaload, 1) := by decide +kernel
theorem dX12_said_54 : decode cX12_said 54 = .ok (.ireturn, 1) := by decide +kernel
theorem dX12_said_55 : decode cX12_said 55 = .ok (.aload_n 0, 1) := by decide +kernel
theorem dX12_said_56 : decode cX12_said 56 = .ok (.getfield 88, 3) := by decide +kernel
theorem dX12_said_59 : decode cX12_said 59 = .ok (.iload_n 1, 1) := by decide +kernel
theorem dX12_said_60 : decode cX12_said 60 = .ok (.iaload, 1) := by decide +kernel
theorem dX12_said_61 : decode cX12_said 61 = .ok (.ireturn, 1) := by decide +kernel
theorem dX12_said_62 : decode cX12_said 62 = .ok (.aload_n 0, 1) := by decide +kernel
theorem dX12_said_63 : decode cX12_said 63 = .ok (.getfield 91, 3) := by decide +kernel
theorem dX12_said_66 : decode cX12_said 66 = .ok (.iload_n 1, 1) := by decide +kernel
theorem dX12_said_67 : decode cX12_said 67 = .ok (.iaload, 1) := by decide +kernel
theorem dX12_said_68 : decode cX12_said 68 = .ok (.ireturn, 1) := by decide +kernel
theorem dX12_said_69 : decode cX12_said 69 = .ok (.aload_n 0, 1) := by decide +kernel
theorem dX12_said_70 : decode cX12_said 70 = .ok (.iload_n 1, 1) := by decide +kernel
theorem dX12_said_71 : decode cX12_said 71 = .ok (.invokevirtual 401, 3) := by decide +kernel
theorem dX12_said_74 : decode cX12_said 74 = .ok (.ireturn, 1) := by decide +kernel
theorem dX12_said_75 : decode cX12_said 75 = .ok (.iconst (-1), 1) := by decide +kernel
theorem dX12_said_76 : decode cX12_said 76 = .ok (.ireturn, 1) := by decide +kernel
theorem dX12_standsBehind_0 : decode cX12_standsBehind 0 = .ok (.aload_n 0, 1) := by decide +kernel
theorem dX12_standsBehind_1 : decode cX12_standsBehind 1 = .ok (.aload_n 0, 1) := by decide +kernel
theorem dX12_standsBehind_2 : decode cX12_standsBehind 2 = .ok (.getfield 386, 3) := by decide +kernel
theorem dX12_standsBehind_5 : decode cX12_standsBehind 5 = .ok (.iload_n 1, 1) := by decide +kernel
theorem dX12_standsBehind_6 : decode cX12_standsBehind 6 = .ok (.iadd, 1) := by decide +kernel
theorem dX12_standsBehind_7 : decode cX12_standsBehind 7 = .ok (.putfield 345, 3) := by decide +kernel
theorem dX12_standsBehind_10 : decode cX12_standsBehind 10 = .ok (.aload_n 0, 1) := by decide +kernel
theorem dX12_standsBehind_11 : decode cX12_standsBehind 11 = .ok (.iload_n 2, 1) := by decide +kernel
theorem dX12_standsBehind_12 : decode cX12_standsBehind 12 = .ok (.putfield 336, 3) := by decide +kernel
theorem dX12_standsBehind_15 : decode cX12_standsBehind 15 = .ok (.aload_n 0, 1) := by decide +kernel
theorem dX12_standsBehind_16 : decode cX12_standsBehind 16 = .ok (.iload_n 3, 1) := by decide +kernel
theorem dX12_standsBehind_17 : decode cX12_standsBehind 17 = .ok (.putfield 339, 3) := by decide +kernel
theorem dX12_standsBehind_20 : decode cX12_standsBehind 20 = .ok (.aload_n 0, 1) := by decide +kernel
theorem dX12_standsBehind_21 : decode cX12_standsBehind 21 = .ok (.iload_n 1, 1) := by decide +kernel
theorem dX12_standsBehind_22 : decode cX12_standsBehind 22 = .ok (.ifCond .le 14, 3) := by decide +kernel
theorem dX12_standsBehind_25 : decode cX12_standsBehind 25 = .ok (.aload_n 0, 1) := by decide +kernel
theorem dX12_standsBehind_26 : decode cX12_standsBehind 26 = .ok (.getfield 94, 3) := by decide +kernel
theorem dX12_standsBehind_29 : decode cX12_standsBehind 29 = .ok (.iload_n 1, 1) := by decide +kernel
theorem dX12_standsBehind_30 : decode cX12_standsBehind 30 = .ok (.iconst 1, 1) := by decide +kernel
theorem dX12_standsBehind_31 : decode cX12_standsBehind 31 = .ok (.isub, 1) := by decide +kernel
theorem dX12_standsBehind_32 : decode cX12_standsBehind 32 = .ok (.iaload, 1) := by decide +kernel
theorem dX12_standsBehind_33 : decode cX12_standsBehind 33 = .ok (.goto 25, 3) := by decide +kernel
theorem dX12_standsBehind_36 : decode cX12_standsBehind 36 = .ok (.aload_n 0, 1) := by decide +kernel
theorem dX12_standsBehind_37 : decode cX12_standsBehind 37 = .ok (.getfield 386, 3) := by decide +kernel
theorem dX12_standsBehind_40 : decode cX12_standsBehind 40 = .ok (.ifCond .le 17, 3) := by decide +kernel
theorem dX12_standsBehind_43 : decode cX12_standsBehind 43 = .ok (.aload_n 0, 1) := by decide +kernel
theorem dX12_standsBehind_44 : decode cX12_standsBehind 44 = .ok (.getfield 85, 3) := by decide +kernel
theorem dX12_standsBehind_47 : decode cX12_standsBehind 47 = .ok (.aload_n 0, 1) := by decide +kernel
theorem dX12_standsBehind_48 : decode cX12_standsBehind 48 = .ok (.getfield 386, 3) := by decide +kernel
theorem dX12_standsBehind_51 : decode cX12_standsBehind 51 = .ok (.iconst 1, 1) := by decide +kernel
theorem dX12_standsBehind_52 : decode cX12_standsBehind 52 = .ok (.isub, 1) := by decide +kernel
theorem dX12_standsBehind_53 : decode cX12_standsBehind 53 = .ok (.iaload, 1) := by decide +kernel
theorem dX12_standsBehind_54 : decode cX12_standsBehind 54 = .ok (.goto 4, 3) := by decide +kernel
theorem dX12_standsBehind_57 : decode cX12_standsBehind 57 = .ok (.iconst (-1), 1) := by decide +kernel
theorem dX12_standsBehind_58 : decode cX12_standsBehind 58 = .ok (.putfield 342, 3) := by decide +kernel
theorem dX12_standsBehind_61 : decode cX12_standsBehind 61 = .ok (.return_, 1) := by decide +kernel
theorem dX12_withDigit_0 : decode cX12_withDigit 0 = .ok (.iconst 0, 1) := by decide +kernel
theorem dX12_withDigit_1 : decode cX12_withDigit 1 = .ok (.istore_n 3, 1) := by decide +kernel
theorem dX12_withDigit_2 : decode cX12_withDigit 2 = .ok (.iconst 1, 1) := by decide +kernel
theorem dX12_withDigit_3 : decode cX12_withDigit 3 = .ok (.istore 4, 2) := by decide +kernel
theorem dX12_withDigit_5 : decode cX12_withDigit 5 = .ok (.iload 4, 2) := by decide +kernel
theorem dX12_withDigit_7 : decode cX12_withDigit 7 = .ok (.bipush 24, 2) := by decide +kernel
theorem dX12_withDigit_9 : decode cX12_withDigit 9 = .ok (.if_icmp .gt 37, 3) := by decide +kernel
theorem dX12_withDigit_12 : decode cX12_withDigit 12 = .ok (.iload_n 0, 1) := by decide +kernel
theorem dX12_withDigit_13 : decode cX12_withDigit 13 = .ok (.iload 4, 2) := by decide +kernel
theorem dX12_withDigit_15 : decode cX12_withDigit 15 = .ok (.invokestatic 187, 3) := by decide +kernel
theorem dX12_withDigit_18 : decode cX12_withDigit 18 = .ok (.ifCond .eq 22, 3) := by decide +kernel
theorem dX12_withDigit_21 : decode cX12_withDigit 21 = .ok (.iload_n 1, 1) := by decide +kernel
theorem dX12_withDigit_22 : decode cX12_withDigit 22 = .ok (.ifCond .eq 11, 3) := by decide +kernel
theorem dX12_withDigit_25 : decode cX12_withDigit 25 = .ok (.iload 4, 2) := by decide +kernel
theorem dX12_withDigit_27 : decode cX12_withDigit 27 = .ok (.iload_n 1, 1) := by decide +kernel
theorem dX12_withDigit_28 : decode cX12_withDigit 28 = .ok (.irem, 1) := by decide +kernel
theorem dX12_withDigit_29 : decode cX12_withDigit 29 = .ok (.iload_n 2, 1) := by decide +kernel
theorem dX12_withDigit_30 : decode cX12_withDigit 30 = .ok (.if_icmp .ne 10, 3) := by decide +kernel
theorem dX12_withDigit_33 : decode cX12_withDigit 33 = .ok (.iload_n 3, 1) := by decide +kernel
theorem dX12_withDigit_34 : decode cX12_withDigit 34 = .ok (.iconst 1, 1) := by decide +kernel
theorem dX12_withDigit_35 : decode cX12_withDigit 35 = .ok (.iload 4, 2) := by decide +kernel
theorem dX12_withDigit_37 : decode cX12_withDigit 37 = .ok (.ishl, 1) := by decide +kernel
theorem dX12_withDigit_38 : decode cX12_withDigit 38 = .ok (.ior, 1) := by decide +kernel
theorem dX12_withDigit_39 : decode cX12_withDigit 39 = .ok (.istore_n 3, 1) := by decide +kernel
theorem dX12_withDigit_40 : decode cX12_withDigit 40 = .ok (.iinc 4 1, 3) := by decide +kernel
theorem dX12_withDigit_43 : decode cX12_withDigit 43 = .ok (.goto (-38), 3) := by decide +kernel
theorem dX12_withDigit_46 : decode cX12_withDigit 46 = .ok (.iload_n 3, 1) := by decide +kernel
theorem dX12_withDigit_47 : decode cX12_withDigit 47 = .ok (.ireturn, 1) := by decide +kernel
theorem dX12_startPair_0 : decode cX12_startPair 0 = .ok (.bipush 25, 2) := by decide +kernel
theorem dX12_startPair_2 : decode cX12_startPair 2 = .ok (.aload_n 0, 1) := by decide +kernel
theorem dX12_startPair_3 : decode cX12_startPair 3 = .ok (.aload_n 0, 1) := by decide +kernel
theorem dX12_startPair_4 : decode cX12_startPair 4 = .ok (.getfield 386, 3) := by decide +kernel
theorem dX12_startPair_7 : decode cX12_startPair 7 = .ok (.iconst 1, 1) := by decide +kernel
theorem dX12_startPair_8 : decode cX12_startPair 8 = .ok (.isub, 1) := by decide +kernel
theorem dX12_startPair_9 : decode cX12_startPair 9 = .ok (.invokevirtual 366, 3) := by decide +kernel
theorem dX12_startPair_12 : decode cX12_startPair 12 = .ok (.imul, 1) := by decide +kernel
theorem dX12_startPair_13 : decode cX12_startPair 13 = .ok (.aload_n 0, 1) := by decide +kernel
theorem dX12_startPair_14 : decode cX12_startPair 14 = .ok (.aload_n 0, 1) := by decide +kernel
theorem dX12_startPair_15 : decode cX12_startPair 15 = .ok (.getfield 386, 3) := by decide +kernel
theorem dX12_startPair_18 : decode cX12_startPair 18 = .ok (.iconst 2, 1) := by decide +kernel
theorem dX12_startPair_19 : decode cX12_startPair 19 = .ok (.isub, 1) := by decide +kernel
theorem dX12_startPair_20 : decode cX12_startPair 20 = .ok (.invokevirtual 366, 3) := by decide +kernel
theorem dX12_startPair_23 : decode cX12_startPair 23 = .ok (.iadd, 1) := by decide +kernel
theorem dX12_startPair_24 : decode cX12_startPair 24 = .ok (.ireturn, 1) := by decide +kernel
theorem dX12_takesTalk_0 : decode cX12_takesTalk 0 = .ok (.iconst 1, 1) := by decide +kernel
theorem dX12_takesTalk_1 : decode cX12_takesTalk 1 = .ok (.istore 4, 2) := by decide +kernel
theorem dX12_takesTalk_3 : decode cX12_takesTalk 3 = .ok (.aload_n 0, 1) := by decide +kernel
theorem dX12_takesTalk_4 : decode cX12_takesTalk 4 = .ok (.iconst 0, 1) := by decide +kernel
theorem dX12_takesTalk_5 : decode cX12_takesTalk 5 = .ok (.putfield 157, 3) := by decide +kernel
theorem dX12_takesTalk_8 : decode cX12_takesTalk 8 = .ok (.iconst 0, 1) := by decide +kernel
theorem dX12_takesTalk_9 : decode cX12_takesTalk 9 = .ok (.istore 5, 2) := by decide +kernel
theorem dX12_takesTalk_11 : decode cX12_takesTalk 11 = .ok (.iload 5, 2) := by decide +kernel
theorem dX12_takesTalk_13 : decode cX12_takesTalk 13 = .ok (.iload_n 1, 1) := by decide +kernel
theorem dX12_takesTalk_14 : decode cX12_takesTalk 14 = .ok (.if_icmp .ge 121, 3) := by decide +kernel
theorem dX12_takesTalk_17 : decode cX12_takesTalk 17 = .ok (.aload_n 0, 1) := by decide +kernel
theorem dX12_takesTalk_18 : decode cX12_takesTalk 18 = .ok (.getfield 94, 3) := by decide +kernel
theorem dX12_takesTalk_21 : decode cX12_takesTalk 21 = .ok (.iload 5, 2) := by decide +kernel
theorem dX12_takesTalk_23 : decode cX12_takesTalk 23 = .ok (.aload_n 0, 1) := by decide +kernel
theorem dX12_takesTalk_24 : decode cX12_takesTalk 24 = .ok (.iload_n 2, 1) := by decide +kernel
theorem dX12_takesTalk_25 : decode cX12_takesTalk 25 = .ok (.iload 5, 2) := by decide +kernel
theorem dX12_takesTalk_27 : decode cX12_takesTalk 27 = .ok (.imul, 1) := by decide +kernel
theorem dX12_takesTalk_28 : decode cX12_takesTalk 28 = .ok (.invokevirtual 404, 3) := by decide +kernel
theorem dX12_takesTalk_31 : decode cX12_takesTalk 31 = .ok (.iastore, 1) := by decide +kernel
theorem dX12_takesTalk_32 : decode cX12_takesTalk 32 = .ok (.aload_n 0, 1) := by decide +kernel
theorem dX12_takesTalk_33 : decode cX12_takesTalk 33 = .ok (.getfield 97, 3) := by decide +kernel
theorem dX12_takesTalk_36 : decode cX12_takesTalk 36 = .ok (.iload 5, 2) := by decide +kernel
theorem dX12_takesTalk_38 : decode cX12_takesTalk 38 = .ok (.aload_n 0, 1) := by decide +kernel
theorem dX12_takesTalk_39 : decode cX12_takesTalk 39 = .ok (.iload_n 2, 1) := by decide +kernel
theorem dX12_takesTalk_40 : decode cX12_takesTalk 40 = .ok (.iload 5, 2) := by decide +kernel
theorem dX12_takesTalk_42 : decode cX12_takesTalk 42 = .ok (.imul, 1) := by decide +kernel
theorem dX12_takesTalk_43 : decode cX12_takesTalk 43 = .ok (.iconst 1, 1) := by decide +kernel
theorem dX12_takesTalk_44 : decode cX12_takesTalk 44 = .ok (.iadd, 1) := by decide +kernel
theorem dX12_takesTalk_45 : decode cX12_takesTalk 45 = .ok (.invokevirtual 404, 3) := by decide +kernel
theorem dX12_takesTalk_48 : decode cX12_takesTalk 48 = .ok (.iastore, 1) := by decide +kernel
theorem dX12_takesTalk_49 : decode cX12_takesTalk 49 = .ok (.aload_n 0, 1) := by decide +kernel
theorem dX12_takesTalk_50 : decode cX12_takesTalk 50 = .ok (.getfield 100, 3) := by decide +kernel
theorem dX12_takesTalk_53 : decode cX12_takesTalk 53 = .ok (.iload 5, 2) := by decide +kernel
theorem dX12_takesTalk_55 : decode cX12_takesTalk 55 = .ok (.iload_n 2, 1) := by decide +kernel
theorem dX12_takesTalk_56 : decode cX12_takesTalk 56 = .ok (.iconst 3, 1) := by decide +kernel
theorem dX12_takesTalk_57 : decode cX12_takesTalk 57 = .ok (.if_icmp .ne 16, 3) := by decide +kernel
theorem dX12_takesTalk_60 : decode cX12_takesTalk 60 = .ok (.aload_n 0, 1) := by decide +kernel
theorem dX12_takesTalk_61 : decode cX12_takesTalk 61 = .ok (.iload_n 2, 1) := by decide +kernel
theorem dX12_takesTalk_62 : decode cX12_takesTalk 62 = .ok (.iload 5, 2) := by decide +kernel
theorem dX12_takesTalk_64 : decode cX12_takesTalk 64 = .ok (.imul, 1) := by decide +kernel
theorem dX12_takesTalk_65 : decode cX12_takesTalk 65 = .ok (.iconst 2, 1) := by decide +kernel
theorem dX12_takesTalk_66 : decode cX12_takesTalk 66 = .ok (.iadd, 1) := by decide +kernel
theorem dX12_takesTalk_67 : decode cX12_takesTalk 67 = .ok (.invokevirtual 404, 3) := by decide +kernel
theorem dX12_takesTalk_70 : decode cX12_takesTalk 70 = .ok (.goto 4, 3) := by decide +kernel
theorem dX12_takesTalk_73 : decode cX12_takesTalk 73 = .ok (.iconst 0, 1) := by decide +kernel
theorem dX12_takesTalk_74 : decode cX12_takesTalk 74 = .ok (.iastore, 1) := by decide +kernel
theorem dX12_takesTalk_75 : decode cX12_takesTalk 75 = .ok (.iload 4, 2) := by decide +kernel
theorem dX12_takesTalk_77 : decode cX12_takesTalk 77 = .ok (.ifCond .eq 49, 3) := by decide +kernel
theorem dX12_takesTalk_80 : decode cX12_takesTalk 80 = .ok (.aload_n 0, 1) := by decide +kernel
theorem dX12_takesTalk_81 : decode cX12_takesTalk 81 = .ok (.getfield 94, 3) := by decide +kernel
theorem dX12_takesTalk_84 : decode cX12_takesTalk 84 = .ok (.iload 5, 2) := by decide +kernel
theorem dX12_takesTalk_86 : decode cX12_takesTalk 86 = .ok (.iaload, 1) := by decide +kernel
theorem dX12_takesTalk_87 : decode cX12_takesTalk 87 = .ok (.invokestatic 378, 3) := by decide +kernel
theorem dX12_takesTalk_90 : decode cX12_takesTalk 90 = .ok (.ifCond .eq 36, 3) := by decide +kernel
theorem dX12_takesTalk_93 : decode cX12_takesTalk 93 = .ok (.aload_n 0, 1) := by decide +kernel
theorem dX12_takesTalk_94 : decode cX12_takesTalk 94 = .ok (.getfield 97, 3) := by decide +kernel
theorem dX12_takesTalk_97 : decode cX12_takesTalk 97 = .ok (.iload 5, 2) := by decide +kernel
theorem dX12_takesTalk_99 : decode cX12_takesTalk 99 = .ok (.iaload, 1) := by decide +kernel
theorem dX12_takesTalk_100 : decode cX12_takesTalk 100 = .ok (.invokestatic 229, 3) := by decide +kernel
theorem dX12_takesTalk_103 : decode cX12_takesTalk 103 = .ok (.ifCond .eq 23, 3) := by decide +kernel
theorem dX12_takesTalk_106 : decode cX12_takesTalk 106 = .ok (.iload_n 2, 1) := by decide +kernel
theorem dX12_takesTalk_107 : decode cX12_takesTalk 107 = .ok (.iconst 3, 1) := by decide +kernel
theorem dX12_takesTalk_108 : decode cX12_takesTalk 108 = .ok (.if_icmp .lt 14, 3) := by decide +kernel
theorem dX12_takesTalk_111 : decode cX12_takesTalk 111 = .ok (.aload_n 0, 1) := by decide +kernel
theorem dX12_takesTalk_112 : decode cX12_takesTalk 112 = .ok (.getfield 100, 3) := by decide +kernel
theorem dX12_takesTalk_115 : decode cX12_takesTalk 115 = .ok (.iload 5, 2) := by decide +kernel
theorem dX12_takesTalk_117 : decode cX12_takesTalk 117 = .ok (.iaload, 1) := by decide +kernel
theorem dX12_takesTalk_118 : decode cX12_takesTalk 118 = .ok (.iload_n 3, 1) := by decide +kernel
theorem dX12_takesTalk_119 : decode cX12_takesTalk 119 = .ok (.if_icmp .ge 7, 3) := by decide +kernel
theorem dX12_takesTalk_122 : decode cX12_takesTalk 122 = .ok (.iconst 1, 1) := by decide +kernel
theorem dX12_takesTalk_123 : decode cX12_takesTalk 123 = .ok (.goto 4, 3) := by decide +kernel
theorem dX12_takesTalk_126 : decode cX12_takesTalk 126 = .ok (.iconst 0, 1) := by decide +kernel
theorem dX12_takesTalk_127 : decode cX12_takesTalk 127 = .ok (.istore 4, 2) := by decide +kernel
theorem dX12_takesTalk_129 : decode cX12_takesTalk 129 = .ok (.iinc 5 1, 3) := by decide +kernel
theorem dX12_takesTalk_132 : decode cX12_takesTalk 132 = .ok (.goto (-121), 3) := by decide +kernel
theorem dX12_takesTalk_135 : decode cX12_takesTalk 135 = .ok (.iload 4, 2) := by decide +kernel
theorem dX12_takesTalk_137 : decode cX12_takesTalk 137 = .ok (.ireturn, 1) := by decide +kernel
theorem dX12_silenced_0 : decode cX12_silenced 0 = .ok (.iload_n 1, 1) := by decide +kernel
theorem dX12_silenced_1 : decode cX12_silenced 1 = .ok (.invokestatic 378, 3) := by decide +kernel
theorem dX12_silenced_4 : decode cX12_silenced 4 = .ok (.ifCond .eq 66, 3) := by decide +kernel
theorem dX12_silenced_7 : decode cX12_silenced 7 = .ok (.iload_n 3, 1) := by decide +kernel
theorem dX12_silenced_8 : decode cX12_silenced 8 = .ok (.invokestatic 378, 3) := by decide +kernel
theorem dX12_silenced_11 : decode cX12_silenced 11 = .ok (.ifCond .eq 59, 3) := by decide +kernel
theorem dX12_silenced_14 : decode cX12_silenced 14 = .ok (.iload_n 1, 1) := by decide +kernel
theorem dX12_silenced_15 : decode cX12_silenced 15 = .ok (.iload_n 3, 1) := by decide +kernel
theorem dX12_silenced_16 : decode cX12_silenced 16 = .ok (.if_icmp .eq 54, 3) := by decide +kernel
theorem dX12_silenced_19 : decode cX12_silenced 19 = .ok (.iload_n 2, 1) := by decide +kernel
theorem dX12_silenced_20 : decode cX12_silenced 20 = .ok (.i2l, 1) := by decide +kernel
theorem dX12_silenced_21 : decode cX12_silenced 21 = .ok (.lconst 0, 1) := by decide +kernel
theorem dX12_silenced_22 : decode cX12_silenced 22 = .ok (.ldc2_w 454, 3) := by decide +kernel
theorem dX12_silenced_25 : decode cX12_silenced 25 = .ok (.invokestatic 181, 3) := by decide +kernel
theorem dX12_silenced_28 : decode cX12_silenced 28 = .ok (.ifCond .eq 42, 3) := by decide +kernel
theorem dX12_silenced_31 : decode cX12_silenced 31 = .ok (.iload 4, 2) := by decide +kernel
theorem dX12_silenced_33 : decode cX12_silenced 33 = .ok (.i2l, 1) := by decide +kernel
theorem dX12_silenced_34 : decode cX12_silenced 34 = .ok (.lconst 0, 1) := by decide +kernel
theorem dX12_silenced_35 : decode cX12_silenced 35 = .ok (.ldc2_w 454, 3) := by decide +kernel
theorem dX12_silenced_38 : decode cX12_silenced 38 = .ok (.invokestatic 181, 3) := by decide +kernel
theorem dX12_silenced_41 : decode cX12_silenced 41 = .ok (.ifCond .eq 29, 3) := by decide +kernel
theorem dX12_silenced_44 : decode cX12_silenced 44 = .ok (.iload 5, 2) := by decide +kernel
theorem dX12_silenced_46 : decode cX12_silenced 46 = .ok (.i2l, 1) := by decide +kernel
theorem dX12_silenced_47 : decode cX12_silenced 47 = .ok (.lconst 1, 1) := by decide +kernel
theorem dX12_silenced_48 : decode cX12_silenced 48 = .ok (.ldc2_w 465, 3) := by decide +kernel
theorem dX12_silenced_51 : decode cX12_silenced 51 = .ok (.invokestatic 181, 3) := by decide +kernel
theorem dX12_silenced_54 : decode cX12_silenced 54 = .ok (.ifCond .eq 16, 3) := by decide +kernel
theorem dX12_silenced_57 : decode cX12_silenced 57 = .ok (.iload 6, 2) := by decide +kernel
theorem dX12_silenced_59 : decode cX12_silenced 59 = .ok (.i2l, 1) := by decide +kernel
theorem dX12_silenced_60 : decode cX12_silenced 60 = .ok (.lconst 0, 1) := by decide +kernel
theorem dX12_silenced_61 : decode cX12_silenced 61 = .ok (.ldc2_w 439, 3) := by decide +kernel
theorem dX12_silenced_64 : decode cX12_silenced 64 = .ok (.invokestatic 181, 3) := by decide +kernel
theorem dX12_silenced_67 : decode cX12_silenced 67 = .ok (.ifCond .ne 6, 3) := by decide +kernel
theorem dX12_silenced_70 : decode cX12_silenced 70 = .ok (.bipush (-3), 2) := by decide +kernel
theorem dX12_silenced_72 : decode cX12_silenced 72 = .ok (.ireturn, 1) := by decide +kernel
theorem dX12_silenced_73 : decode cX12_silenced 73 = .ok (.iconst 0, 1) := by decide +kernel
theorem dX12_silenced_74 : decode cX12_silenced 74 = .ok (.istore 7, 2) := by decide +kernel
theorem dX12_silenced_76 : decode cX12_silenced 76 = .ok (.iload 7, 2) := by decide +kernel
theorem dX12_silenced_78 : decode cX12_silenced 78 = .ok (.iload 5, 2) := by decide +kernel
theorem dX12_silenced_80 : decode cX12_silenced 80 = .ok (.if_icmp .ge 28, 3) := by decide +kernel
theorem dX12_silenced_83 : decode cX12_silenced 83 = .ok (.aload_n 0, 1) := by decide +kernel
theorem dX12_silenced_84 : decode cX12_silenced 84 = .ok (.getfield 94, 3) := by decide +kernel
theorem dX12_silenced_87 : decode cX12_silenced 87 = .ok (.iload 7, 2) := by decide +kernel
theorem dX12_silenced_89 : decode cX12_silenced 89 = .ok (.iload 7, 2) := by decide +kernel
theorem dX12_silenced_91 : decode cX12_silenced 91 = .ok (.iconst 2, 1) := by decide +kernel
theorem dX12_silenced_92 : decode cX12_silenced 92 = .ok (.irem, 1) := by decide +kernel
theorem dX12_silenced_93 : decode cX12_silenced 93 = .ok (.ifCond .ne 7, 3) := by decide +kernel
theorem dX12_silenced_96 : decode cX12_silenced 96 = .ok (.iload_n 1, 1) := by decide +kernel
theorem dX12_silenced_97 : decode cX12_silenced 97 = .ok (.goto 4, 3) := by decide +kernel
theorem dX12_silenced_100 : decode cX12_silenced 100 = .ok (.iload_n 3, 1) := by decide +kernel
theorem dX12_silenced_101 : decode cX12_silenced 101 = .ok (.iastore, 1) := by decide +kernel
theorem dX12_silenced_102 : decode cX12_silenced 102 = .ok (.iinc 7 1, 3) := by decide +kernel
theorem dX12_silenced_105 : decode cX12_silenced 105 = .ok (.goto (-29), 3) := by decide +kernel
theorem dX12_silenced_108 : decode cX12_silenced 108 = .ok (.iconst 0, 1) := by decide +kernel
theorem dX12_silenced_109 : decode cX12_silenced 109 = .ok (.istore 7, 2) := by decide +kernel
theorem dX12_silenced_111 : decode cX12_silenced 111 = .ok (.iload 7, 2) := by decide +kernel
theorem dX12_silenced_113 : decode cX12_silenced 113 = .ok (.sipush 625, 3) := by decide +kernel
theorem dX12_silenced_116 : decode cX12_silenced 116 = .ok (.if_icmp .ge 24, 3) := by decide +kernel
theorem dX12_silenced_119 : decode cX12_silenced 119 = .ok (.aload_n 0, 1) := by decide +kernel
theorem dX12_silenced_120 : decode cX12_silenced 120 = .ok (.getfield 127, 3) := by decide +kernel
theorem dX12_silenced_123 : decode cX12_silenced 123 = .ok (.sipush 625, 3) := by decide +kernel
theorem dX12_silenced_126 : decode cX12_silenced 126 = .ok (.iload 5, 2) := by decide +kernel
theorem dX12_silenced_128 : decode cX12_silenced 128 = .ok (.imul, 1) := by decide +kernel
theorem dX12_silenced_129 : decode cX12_silenced 129 = .ok (.iload 7, 2) := by decide +kernel
theorem dX12_silenced_131 : decode cX12_silenced 131 = .ok (.iadd, 1) := by decide +kernel
theorem dX12_silenced_132 : decode cX12_silenced 132 = .ok (.iconst 0, 1) := by decide +kernel
theorem dX12_silenced_133 : decode cX12_silenced 133 = .ok (.iastore, 1) := by decide +kernel
theorem dX12_silenced_134 : decode cX12_silenced 134 = .ok (.iinc 7 1, 3) := by decide +kernel
theorem dX12_silenced_137 : decode cX12_silenced 137 = .ok (.goto (-26), 3) := by decide +kernel
theorem dX12_silenced_140 : decode cX12_silenced 140 = .ok (.iload 5, 2) := by decide +kernel
theorem dX12_silenced_142 : decode cX12_silenced 142 = .ok (.iconst 1, 1) := by decide +kernel
theorem dX12_silenced_143 : decode cX12_silenced 143 = .ok (.isub, 1) := by decide +kernel
theorem dX12_silenced_144 : decode cX12_silenced 144 = .ok (.istore 7, 2) := by decide +kernel
theorem dX12_silenced_146 : decode cX12_silenced 146 = .ok (.iload 7, 2) := by decide +kernel
theorem dX12_silenced_148 : decode cX12_silenced 148 = .ok (.ifCond .lt 79, 3) := by decide +kernel
theorem dX12_silenced_151 : decode cX12_silenced 151 = .ok (.iconst 0, 1) := by decide +kernel
theorem dX12_silenced_152 : decode cX12_silenced 152 = .ok (.istore 8, 2) := by decide +kernel
theorem dX12_silenced_154 : decode cX12_silenced 154 = .ok (.iload 8, 2) := by decide +kernel
theorem dX12_silenced_156 : decode cX12_silenced 156 = .ok (.sipush 625, 3) := by decide +kernel
theorem dX12_silenced_159 : decode cX12_silenced 159 = .ok (.if_icmp .ge 62, 3) := by decide +kernel
theorem dX12_silenced_162 : decode cX12_silenced 162 = .ok (.aload_n 0, 1) := by decide +kernel
theorem dX12_silenced_163 : decode cX12_silenced 163 = .ok (.iload 7, 2) := by decide +kernel
theorem dX12_silenced_165 : decode cX12_silenced 165 = .ok (.iload 8, 2) := by decide +kernel
theorem dX12_silenced_167 : decode cX12_silenced 167 = .ok (.invokevirtual 467, 3) := by decide +kernel
theorem dX12_silenced_170 : decode cX12_silenced 170 = .ok (.ifCond .eq 45, 3) := by decide +kernel
theorem dX12_silenced_173 : decode cX12_silenced 173 = .ok (.aload_n 0, 1) := by decide +kernel
theorem dX12_silenced_174 : decode cX12_silenced 174 = .ok (.getfield 127, 3) := by decide +kernel
theorem dX12_silenced_177 : decode cX12_silenced 177 = .ok (.sipush 625, 3) := by decide +kernel
theorem dX12_silenced_180 : decode cX12_silenced 180 = .ok (.iload 7, 2) := by decide +kernel
theorem dX12_silenced_182 : decode cX12_silenced 182 = .ok (.imul, 1) := by decide +kernel
theorem dX12_silenced_183 : decode cX12_silenced 183 = .ok (.iload 8, 2) := by decide +kernel
theorem dX12_silenced_185 : decode cX12_silenced 185 = .ok (.iadd, 1) := by decide +kernel
theorem dX12_silenced_186 : decode cX12_silenced 186 = .ok (.aload_n 0, 1) := by decide +kernel
theorem dX12_silenced_187 : decode cX12_silenced 187 = .ok (.iload 7, 2) := by decide +kernel
theorem dX12_silenced_189 : decode cX12_silenced 189 = .ok (.iload 8, 2) := by decide +kernel
theorem dX12_silenced_191 : decode cX12_silenced 191 = .ok (.aload_n 0, 1) := by decide +kernel
theorem dX12_silenced_192 : decode cX12_silenced 192 = .ok (.getfield 94, 3) := by decide +kernel
theorem dX12_silenced_195 : decode cX12_silenced 195 = .ok (.iload 7, 2) := by decide +kernel
theorem dX12_silenced_197 : decode cX12_silenced 197 = .ok (.iaload, 1) := by decide +kernel
theorem dX12_silenced_198 : decode cX12_silenced 198 = .ok (.iload 7, 2) := by decide +kernel
theorem dX12_silenced_200 : decode cX12_silenced 200 = .ok (.iconst 2, 1) := by decide +kernel
theorem dX12_silenced_201 : decode cX12_silenced 201 = .ok (.irem, 1) := by decide +kernel
theorem dX12_silenced_202 : decode cX12_silenced 202 = .ok (.ifCond .ne 7, 3) := by decide +kernel
theorem dX12_silenced_205 : decode cX12_silenced 205 = .ok (.iload_n 2, 1) := by decide +kernel
theorem dX12_silenced_206 : decode cX12_silenced 206 = .ok (.goto 5, 3) := by decide +kernel
theorem dX12_silenced_209 : decode cX12_silenced 209 = .ok (.iload 4, 2) := by decide +kernel
theorem dX12_silenced_211 : decode cX12_silenced 211 = .ok (.invokevirtual 470, 3) := by decide +kernel
theorem dX12_silenced_214 : decode cX12_silenced 214 = .ok (.iastore, 1) := by decide +kernel
theorem dX12_silenced_215 : decode cX12_silenced 215 = .ok (.iinc 8 1, 3) := by decide +kernel
theorem dX12_silenced_218 : decode cX12_silenced 218 = .ok (.goto (-64), 3) := by decide +kernel
theorem dX12_silenced_221 : decode cX12_silenced 221 = .ok (.iinc 7 (-1), 3) := by decide +kernel
theorem dX12_silenced_224 : decode cX12_silenced 224 = .ok (.goto (-78), 3) := by decide +kernel
theorem dX12_silenced_227 : decode cX12_silenced 227 = .ok (.aload_n 0, 1) := by decide +kernel
theorem dX12_silenced_228 : decode cX12_silenced 228 = .ok (.getfield 127, 3) := by decide +kernel
theorem dX12_silenced_231 : decode cX12_silenced 231 = .ok (.aload_n 0, 1) := by decide +kernel
theorem dX12_silenced_232 : decode cX12_silenced 232 = .ok (.invokevirtual 410, 3) := by decide +kernel
theorem dX12_silenced_235 : decode cX12_silenced 235 = .ok (.iaload, 1) := by decide +kernel
theorem dX12_silenced_236 : decode cX12_silenced 236 = .ok (.istore 7, 2) := by decide +kernel
theorem dX12_silenced_238 : decode cX12_silenced 238 = .ok (.iload 6, 2) := by decide +kernel
theorem dX12_silenced_240 : decode cX12_silenced 240 = .ok (.ifCond .ne 6, 3) := by decide +kernel
theorem dX12_silenced_243 : decode cX12_silenced 243 = .ok (.iload 7, 2) := by decide +kernel
theorem dX12_silenced_245 : decode cX12_silenced 245 = .ok (.ireturn, 1) := by decide +kernel
theorem dX12_silenced_246 : decode cX12_silenced 246 = .ok (.aload_n 0, 1) := by decide +kernel
theorem dX12_silenced_247 : decode cX12_silenced 247 = .ok (.iload_n 1, 1) := by decide +kernel
theorem dX12_silenced_248 : decode cX12_silenced 248 = .ok (.iload_n 2, 1) := by decide +kernel
theorem dX12_silenced_249 : decode cX12_silenced 249 = .ok (.iload 7, 2) := by decide +kernel
theorem dX12_silenced_251 : decode cX12_silenced 251 = .ok (.invokevirtual 473, 3) := by decide +kernel
theorem dX12_silenced_254 : decode cX12_silenced 254 = .ok (.istore 8, 2) := by decide +kernel
theorem dX12_silenced_256 : decode cX12_silenced 256 = .ok (.iload 8, 2) := by decide +kernel
theorem dX12_silenced_258 : decode cX12_silenced 258 = .ok (.ifCond .ge 8, 3) := by decide +kernel
theorem dX12_silenced_261 : decode cX12_silenced 261 = .ok (.bipush (-2), 2) := by decide +kernel
theorem dX12_silenced_263 : decode cX12_silenced 263 = .ok (.goto 22, 3) := by decide +kernel
theorem dX12_silenced_266 : decode cX12_silenced 266 = .ok (.iload 6, 2) := by decide +kernel
theorem dX12_silenced_268 : decode cX12_silenced 268 = .ok (.iconst 1, 1) := by decide +kernel
theorem dX12_silenced_269 : decode cX12_silenced 269 = .ok (.if_icmp .ne 11, 3) := by decide +kernel
theorem dX12_silenced_272 : decode cX12_silenced 272 = .ok (.iload 8, 2) := by decide +kernel
theorem dX12_silenced_274 : decode cX12_silenced 274 = .ok (.bipush 100, 2) := by decide +kernel
theorem dX12_silenced_276 : decode cX12_silenced 276 = .ok (.idiv, 1) := by decide +kernel
theorem dX12_silenced_277 : decode cX12_silenced 277 = .ok (.goto 8, 3) := by decide +kernel
theorem dX12_silenced_280 : decode cX12_silenced 280 = .ok (.iload 8, 2) := by decide +kernel
theorem dX12_silenced_282 : decode cX12_silenced 282 = .ok (.bipush 100, 2) := by decide +kernel
theorem dX12_silenced_284 : decode cX12_silenced 284 = .ok (.irem, 1) := by decide +kernel
theorem dX12_silenced_285 : decode cX12_silenced 285 = .ok (.ireturn, 1) := by decide +kernel
theorem dX12_standsIn_0 : decode cX12_standsIn 0 = .ok (.aload_n 0, 1) := by decide +kernel
theorem dX12_standsIn_1 : decode cX12_standsIn 1 = .ok (.aload_n 0, 1) := by decide +kernel
theorem dX12_standsIn_2 : decode cX12_standsIn 2 = .ok (.getfield 386, 3) := by decide +kernel
theorem dX12_standsIn_5 : decode cX12_standsIn 5 = .ok (.iload_n 2, 1) := by decide +kernel
theorem dX12_standsIn_6 : decode cX12_standsIn 6 = .ok (.iadd, 1) := by decide +kernel
theorem dX12_standsIn_7 : decode cX12_standsIn 7 = .ok (.putfield 345, 3) := by decide +kernel
theorem dX12_standsIn_10 : decode cX12_standsIn 10 = .ok (.aload_n 0, 1) := by decide +kernel
theorem dX12_standsIn_11 : decode cX12_standsIn 11 = .ok (.iload_n 1, 1) := by decide +kernel
theorem dX12_standsIn_12 : decode cX12_standsIn 12 = .ok (.bipush 7, 2) := by decide +kernel
theorem dX12_standsIn_14 : decode cX12_standsIn 14 = .ok (.idiv, 1) := by decide +kernel
theorem dX12_standsIn_15 : decode cX12_standsIn 15 = .ok (.bipush 25, 2) := by decide +kernel
theorem dX12_standsIn_17 : decode cX12_standsIn 17 = .ok (.idiv, 1) := by decide +kernel
theorem dX12_standsIn_18 : decode cX12_standsIn 18 = .ok (.putfield 336, 3) := by decide +kernel
theorem dX12_standsIn_21 : decode cX12_standsIn 21 = .ok (.aload_n 0, 1) := by decide +kernel
theorem dX12_standsIn_22 : decode cX12_standsIn 22 = .ok (.iload_n 1, 1) := by decide +kernel
theorem dX12_standsIn_23 : decode cX12_standsIn 23 = .ok (.bipush 7, 2) := by decide +kernel
theorem dX12_standsIn_25 : decode cX12_standsIn 25 = .ok (.idiv, 1) := by decide +kernel
theorem dX12_standsIn_26 : decode cX12_standsIn 26 = .ok (.bipush 25, 2) := by decide +kernel
theorem dX12_standsIn_28 : decode cX12_standsIn 28 = .ok (.irem, 1) := by decide +kernel
theorem dX12_standsIn_29 : decode cX12_standsIn 29 = .ok (.putfield 339, 3) := by decide +kernel
theorem dX12_standsIn_32 : decode cX12_standsIn 32 = .ok (.aload_n 0, 1) := by decide +kernel
theorem dX12_standsIn_33 : decode cX12_standsIn 33 = .ok (.iload_n 1, 1) := by decide +kernel
theorem dX12_standsIn_34 : decode cX12_standsIn 34 = .ok (.bipush 7, 2) := by decide +kernel
theorem dX12_standsIn_36 : decode cX12_standsIn 36 = .ok (.irem, 1) := by decide +kernel
theorem dX12_standsIn_37 : decode cX12_standsIn 37 = .ok (.bipush 6, 2) := by decide +kernel
theorem dX12_standsIn_39 : decode cX12_standsIn 39 = .ok (.if_icmp .ne 7, 3) := by decide +kernel
theorem dX12_standsIn_42 : decode cX12_standsIn 42 = .ok (.iconst (-1), 1) := by decide +kernel
theorem dX12_standsIn_43 : decode cX12_standsIn 43 = .ok (.goto 7, 3) := by decide +kernel
theorem dX12_standsIn_46 : decode cX12_standsIn 46 = .ok (.iload_n 1, 1) := by decide +kernel
theorem dX12_standsIn_47 : decode cX12_standsIn 47 = .ok (.bipush 7, 2) := by decide +kernel
theorem dX12_standsIn_49 : decode cX12_standsIn 49 = .ok (.irem, 1) := by decide +kernel
theorem dX12_standsIn_50 : decode cX12_standsIn 50 = .ok (.putfield 342, 3) := by decide +kernel
theorem dX12_standsIn_53 : decode cX12_standsIn 53 = .ok (.return_, 1) := by decide +kernel
theorem dX12_spreads_0 : decode cX12_spreads 0 = .ok (.iconst 0, 1) := by decide +kernel
theorem dX12_spreads_1 : decode cX12_spreads 1 = .ok (.istore 4, 2) := by decide +kernel
theorem dX12_spreads_3 : decode cX12_spreads 3 = .ok (.iload 4, 2) := by decide +kernel
theorem dX12_spreads_5 : decode cX12_spreads 5 = .ok (.bipush 6, 2) := by decide +kernel
theorem dX12_spreads_7 : decode cX12_spreads 7 = .ok (.if_icmp .ge 87, 3) := by decide +kernel
theorem dX12_spreads_10 : decode cX12_spreads 10 = .ok (.iconst 1, 1) := by decide +kernel
theorem dX12_spreads_11 : decode cX12_spreads 11 = .ok (.istore 5, 2) := by decide +kernel
theorem dX12_spreads_13 : decode cX12_spreads 13 = .ok (.iload 5, 2) := by decide +kernel
theorem dX12_spreads_15 : decode cX12_spreads 15 = .ok (.bipush 24, 2) := by decide +kernel
theorem dX12_spreads_17 : decode cX12_spreads 17 = .ok (.if_icmp .gt 71, 3) := by decide +kernel
theorem dX12_spreads_20 : decode cX12_spreads 20 = .ok (.iload_n 3, 1) := by decide +kernel
theorem dX12_spreads_21 : decode cX12_spreads 21 = .ok (.iload 4, 2) := by decide +kernel
theorem dX12_spreads_23 : decode cX12_spreads 23 = .ok (.invokestatic 187, 3) := by decide +kernel
theorem dX12_spreads_26 : decode cX12_spreads 26 = .ok (.ifCond .eq 62, 3) := by decide +kernel
theorem dX12_spreads_29 : decode cX12_spreads 29 = .ok (.bipush 7, 2) := by decide +kernel
theorem dX12_spreads_31 : decode cX12_spreads 31 = .ok (.iload_n 1, 1) := by decide +kernel
theorem dX12_spreads_32 : decode cX12_spreads 32 = .ok (.bipush 7, 2) := by decide +kernel
theorem dX12_spreads_34 : decode cX12_spreads 34 = .ok (.idiv, 1) := by decide +kernel
theorem dX12_spreads_35 : decode cX12_spreads 35 = .ok (.iload 5, 2) := by decide +kernel
theorem dX12_spreads_37 : decode cX12_spreads 37 = .ok (.invokestatic 419, 3) := by decide +kernel
theorem dX12_spreads_40 : decode cX12_spreads 40 = .ok (.imul, 1) := by decide +kernel
theorem dX12_spreads_41 : decode cX12_spreads 41 = .ok (.iload 4, 2) := by decide +kernel
theorem dX12_spreads_43 : decode cX12_spreads 43 = .ok (.iadd, 1) := by decide +kernel
theorem dX12_spreads_44 : decode cX12_spreads 44 = .ok (.istore 6, 2) := by decide +kernel
theorem dX12_spreads_46 : decode cX12_spreads 46 = .ok (.aload_n 0, 1) := by decide +kernel
theorem dX12_spreads_47 : decode cX12_spreads 47 = .ok (.getfield 133, 3) := by decide +kernel
theorem dX12_spreads_50 : decode cX12_spreads 50 = .ok (.iload 6, 2) := by decide +kernel
theorem dX12_spreads_52 : decode cX12_spreads 52 = .ok (.baload, 1) := by decide +kernel
theorem dX12_spreads_53 : decode cX12_spreads 53 = .ok (.ifCond .eq 6, 3) := by decide +kernel
theorem dX12_spreads_56 : decode cX12_spreads 56 = .ok (.goto 26, 3) := by decide +kernel
theorem dX12_spreads_59 : decode cX12_spreads 59 = .ok (.aload_n 0, 1) := by decide +kernel
theorem dX12_spreads_60 : decode cX12_spreads 60 = .ok (.iload_n 1, 1) := by decide +kernel
theorem dX12_spreads_61 : decode cX12_spreads 61 = .ok (.iload_n 2, 1) := by decide +kernel
theorem dX12_spreads_62 : decode cX12_spreads 62 = .ok (.invokevirtual 476, 3) := by decide +kernel
theorem dX12_spreads_65 : decode cX12_spreads 65 = .ok (.aload_n 0, 1) := by decide +kernel
theorem dX12_spreads_66 : decode cX12_spreads 66 = .ok (.getfield 133, 3) := by decide +kernel
theorem dX12_spreads_69 : decode cX12_spreads 69 = .ok (.iload 6, 2) := by decide +kernel
theorem dX12_spreads_71 : decode cX12_spreads 71 = .ok (.aload_n 0, 1) := by decide +kernel
theorem dX12_spreads_72 : decode cX12_spreads 72 = .ok (.iconst 1, 1) := by decide +kernel
theorem dX12_spreads_73 : decode cX12_spreads 73 = .ok (.iload 4, 2) := by decide +kernel
theorem dX12_spreads_75 : decode cX12_spreads 75 = .ok (.ishl, 1) := by decide +kernel
theorem dX12_spreads_76 : decode cX12_spreads 76 = .ok (.iload 5, 2) := by decide +kernel
theorem dX12_spreads_78 : decode cX12_spreads 78 = .ok (.invokevirtual 479, 3) := by decide +kernel
theorem dX12_spreads_81 : decode cX12_spreads 81 = .ok (.bastore, 1) := by decide +kernel
theorem dX12_spreads_82 : decode cX12_spreads 82 = .ok (.iinc 5 1, 3) := by decide +kernel
theorem dX12_spreads_85 : decode cX12_spreads 85 = .ok (.goto (-72), 3) := by decide +kernel
theorem dX12_spreads_88 : decode cX12_spreads 88 = .ok (.iinc 4 1, 3) := by decide +kernel
theorem dX12_spreads_91 : decode cX12_spreads 91 = .ok (.goto (-88), 3) := by decide +kernel
theorem dX12_spreads_94 : decode cX12_spreads 94 = .ok (.return_, 1) := by decide +kernel
theorem dX12_waited_0 : decode cX12_waited 0 = .ok (.iload_n 1, 1) := by decide +kernel
theorem dX12_waited_1 : decode cX12_waited 1 = .ok (.i2l, 1) := by decide +kernel
theorem dX12_waited_2 : decode cX12_waited 2 = .ok (.lconst 1, 1) := by decide +kernel
theorem dX12_waited_3 : decode cX12_waited 3 = .ok (.ldc2_w 482, 3) := by decide +kernel
theorem dX12_waited_6 : decode cX12_waited 6 = .ok (.invokestatic 181, 3) := by decide +kernel
theorem dX12_waited_9 : decode cX12_waited 9 = .ok (.ifCond .eq 10, 3) := by decide +kernel
theorem dX12_waited_12 : decode cX12_waited 12 = .ok (.iload_n 2, 1) := by decide +kernel
theorem dX12_waited_13 : decode cX12_waited 13 = .ok (.invokestatic 383, 3) := by decide +kernel
theorem dX12_waited_16 : decode cX12_waited 16 = .ok (.ifCond .ne 5, 3) := by decide +kernel
theorem dX12_waited_19 : decode cX12_waited 19 = .ok (.iconst (-1), 1) := by decide +kernel
theorem dX12_waited_20 : decode cX12_waited 20 = .ok (.ireturn, 1) := by decide +kernel
theorem dX12_waited_21 : decode cX12_waited 21 = .ok (.iconst 0, 1) := by decide +kernel
theorem dX12_waited_22 : decode cX12_waited 22 = .ok (.istore_n 3, 1) := by decide +kernel
theorem dX12_waited_23 : decode cX12_waited 23 = .ok (.iload_n 3, 1) := by decide +kernel
theorem dX12_waited_24 : decode cX12_waited 24 = .ok (.sipush 4375, 3) := by decide +kernel
theorem dX12_waited_27 : decode cX12_waited 27 = .ok (.if_icmp .ge 16, 3) := by decide +kernel
theorem dX12_waited_30 : decode cX12_waited 30 = .ok (.aload_n 0, 1) := by decide +kernel
theorem dX12_waited_31 : decode cX12_waited 31 = .ok (.getfield 130, 3) := by decide +kernel
theorem dX12_waited_34 : decode cX12_waited 34 = .ok (.iload_n 3, 1) := by decide +kernel
theorem dX12_waited_35 : decode cX12_waited 35 = .ok (.iconst 0, 1) := by decide +kernel
theorem dX12_waited_36 : decode cX12_waited 36 = .ok (.bastore, 1) := by decide +kernel
theorem dX12_waited_37 : decode cX12_waited 37 = .ok (.iinc 3 1, 3) := by decide +kernel
theorem dX12_waited_40 : decode cX12_waited 40 = .ok (.goto (-17), 3) := by decide +kernel
theorem dX12_waited_43 : decode cX12_waited 43 = .ok (.aload_n 0, 1) := by decide +kernel
theorem dX12_waited_44 : decode cX12_waited 44 = .ok (.getfield 130, 3) := by decide +kernel
theorem dX12_waited_47 : decode cX12_waited 47 = .ok (.bipush 7, 2) := by decide +kernel
theorem dX12_waited_49 : decode cX12_waited 49 = .ok (.aload_n 0, 1) := by decide +kernel
theorem dX12_waited_50 : decode cX12_waited 50 = .ok (.invokevirtual 410, 3) := by decide +kernel
theorem dX12_waited_53 : decode cX12_waited 53 = .ok (.imul, 1) := by decide +kernel
theorem dX12_waited_54 : decode cX12_waited 54 = .ok (.aload_n 0, 1) := by decide +kernel
theorem dX12_waited_55 : decode cX12_waited 55 = .ok (.getfield 386, 3) := by decide +kernel
theorem dX12_waited_58 : decode cX12_waited 58 = .ok (.ifCond .le 17, 3) := by decide +kernel
theorem dX12_waited_61 : decode cX12_waited 61 = .ok (.aload_n 0, 1) := by decide +kernel
theorem dX12_waited_62 : decode cX12_waited 62 = .ok (.getfield 85, 3) := by decide +kernel
theorem dX12_waited_65 : decode cX12_waited 65 = .ok (.aload_n 0, 1) := by decide +kernel
theorem dX12_waited_66 : decode cX12_waited 66 = .ok (.getfield 386, 3) := by decide +kernel
theorem dX12_waited_69 : decode cX12_waited 69 = .ok (.iconst 1, 1) := by decide +kernel
theorem dX12_waited_70 : decode cX12_waited 70 = .ok (.isub, 1) := by decide +kernel
theorem dX12_waited_71 : decode cX12_waited 71 = .ok (.iaload, 1) := by decide +kernel
theorem dX12_waited_72 : decode cX12_waited 72 = .ok (.goto 5, 3) := by decide +kernel
theorem dX12_waited_75 : decode cX12_waited 75 = .ok (.bipush 6, 2) := by decide +kernel
theorem dX12_waited_77 : decode cX12_waited 77 = .ok (.iadd, 1) := by decide +kernel
theorem dX12_waited_78 : decode cX12_waited 78 = .ok (.iconst 1, 1) := by decide +kernel
theorem dX12_waited_79 : decode cX12_waited 79 = .ok (.bastore, 1) := by decide +kernel
theorem dX12_waited_80 : decode cX12_waited 80 = .ok (.iconst 0, 1) := by decide +kernel
theorem dX12_waited_81 : decode cX12_waited 81 = .ok (.istore_n 3, 1) := by decide +kernel
theorem dX12_waited_82 : decode cX12_waited 82 = .ok (.iload_n 3, 1) := by decide +kernel
theorem dX12_waited_83 : decode cX12_waited 83 = .ok (.iconst 5, 1) := by decide +kernel
theorem dX12_waited_84 : decode cX12_waited 84 = .ok (.if_icmp .gt 126, 3) := by decide +kernel
theorem dX12_waited_87 : decode cX12_waited 87 = .ok (.iconst 0, 1) := by decide +kernel
theorem dX12_waited_88 : decode cX12_waited 88 = .ok (.istore 4, 2) := by decide +kernel
theorem dX12_waited_90 : decode cX12_waited 90 = .ok (.iload 4, 2) := by decide +kernel
theorem dX12_waited_92 : decode cX12_waited 92 = .ok (.sipush 4375, 3) := by decide +kernel
theorem dX12_waited_95 : decode cX12_waited 95 = .ok (.if_icmp .ge 17, 3) := by decide +kernel
theorem dX12_waited_98 : decode cX12_waited 98 = .ok (.aload_n 0, 1) := by decide +kernel
theorem dX12_waited_99 : decode cX12_waited 99 = .ok (.getfield 133, 3) := by decide +kernel
theorem dX12_waited_102 : decode cX12_waited 102 = .ok (.iload 4, 2) := by decide +kernel
theorem dX12_waited_104 : decode cX12_waited 104 = .ok (.iconst 0, 1) := by decide +kernel
theorem dX12_waited_105 : decode cX12_waited 105 = .ok (.bastore, 1) := by decide +kernel
theorem dX12_waited_106 : decode cX12_waited 106 = .ok (.iinc 4 1, 3) := by decide +kernel
theorem dX12_waited_109 : decode cX12_waited 109 = .ok (.goto (-19), 3) := by decide +kernel
theorem dX12_waited_112 : decode cX12_waited 112 = .ok (.iconst 0, 1) := by decide +kernel
theorem dX12_waited_113 : decode cX12_waited 113 = .ok (.istore 4, 2) := by decide +kernel
theorem dX12_waited_115 : decode cX12_waited 115 = .ok (.iload 4, 2) := by decide +kernel
theorem dX12_waited_117 : decode cX12_waited 117 = .ok (.sipush 4375, 3) := by decide +kernel
theorem dX12_waited_120 : decode cX12_waited 120 = .ok (.if_icmp .ge 53, 3) := by decide +kernel
theorem dX12_waited_123 : decode cX12_waited 123 = .ok (.aload_n 0, 1) := by decide +kernel
theorem dX12_waited_124 : decode cX12_waited 124 = .ok (.getfield 130, 3) := by decide +kernel
theorem dX12_waited_127 : decode cX12_waited 127 = .ok (.iload 4, 2) := by decide +kernel
theorem dX12_waited_129 : decode cX12_waited 129 = .ok (.baload, 1) := by decide +kernel
theorem dX12_waited_130 : decode cX12_waited 130 = .ok (.ifCond .ne 6, 3) := by decide +kernel
theorem dX12_waited_133 : decode cX12_waited 133 = .ok (.goto 34, 3) := by decide +kernel
theorem dX12_waited_136 : decode cX12_waited 136 = .ok (.aload_n 0, 1) := by decide +kernel
theorem dX12_waited_137 : decode cX12_waited 137 = .ok (.iload 4, 2) := by decide +kernel
theorem dX12_waited_139 : decode cX12_waited 139 = .ok (.iload_n 3, 1) := by decide +kernel
theorem dX12_waited_140 : decode cX12_waited 140 = .ok (.invokevirtual 476, 3) := by decide +kernel
theorem dX12_waited_143 : decode cX12_waited 143 = .ok (.aload_n 0, 1) := by decide +kernel
theorem dX12_waited_144 : decode cX12_waited 144 = .ok (.iload_n 1, 1) := by decide +kernel
theorem dX12_waited_145 : decode cX12_waited 145 = .ok (.iload_n 2, 1) := by decide +kernel
theorem dX12_waited_146 : decode cX12_waited 146 = .ok (.invokevirtual 479, 3) := by decide +kernel
theorem dX12_waited_149 : decode cX12_waited 149 = .ok (.ifCond .eq 5, 3) := by decide +kernel
theorem dX12_waited_152 : decode cX12_waited 152 = .ok (.iload_n 3, 1) := by decide +kernel
theorem dX12_waited_153 : decode cX12_waited 153 = .ok (.ireturn, 1) := by decide +kernel
theorem dX12_waited_154 : decode cX12_waited 154 = .ok (.iload_n 3, 1) := by decide +kernel
theorem dX12_waited_155 : decode cX12_waited 155 = .ok (.iconst 5, 1) := by decide +kernel
theorem dX12_waited_156 : decode cX12_waited 156 = .ok (.if_icmp .ge 11, 3) := by decide +kernel
theorem dX12_waited_159 : decode cX12_waited 159 = .ok (.aload_n 0, 1) := by decide +kernel
theorem dX12_waited_160 : decode cX12_waited 160 = .ok (.iload 4, 2) := by decide +kernel
theorem dX12_waited_162 : decode cX12_waited 162 = .ok (.iload_n 3, 1) := by decide +kernel
theorem dX12_waited_163 : decode cX12_waited 163 = .ok (.iload_n 1, 1) := by decide +kernel
theorem dX12_waited_164 : decode cX12_waited 164 = .ok (.invokevirtual 484, 3) := by decide +kernel
theorem dX12_waited_167 : decode cX12_waited 167 = .ok (.iinc 4 1, 3) := by decide +kernel
theorem dX12_waited_170 : decode cX12_waited 170 = .ok (.goto (-55), 3) := by decide +kernel
theorem dX12_waited_173 : decode cX12_waited 173 = .ok (.iconst 0, 1) := by decide +kernel
theorem dX12_waited_174 : decode cX12_waited 174 = .ok (.istore 4, 2) := by decide +kernel
theorem dX12_waited_176 : decode cX12_waited 176 = .ok (.iload 4, 2) := by decide +kernel
theorem dX12_waited_178 : decode cX12_waited 178 = .ok (.sipush 4375, 3) := by decide +kernel
theorem dX12_waited_181 : decode cX12_waited 181 = .ok (.if_icmp .ge 23, 3) := by decide +kernel
theorem dX12_waited_184 : decode cX12_waited 184 = .ok (.aload_n 0, 1) := by decide +kernel
theorem dX12_waited_185 : decode cX12_waited 185 = .ok (.getfield 130, 3) := by decide +kernel
theorem dX12_waited_188 : decode cX12_waited 188 = .ok (.iload 4, 2) := by decide +kernel
theorem dX12_waited_190 : decode cX12_waited 190 = .ok (.aload_n 0, 1) := by decide +kernel
theorem dX12_waited_191 : decode cX12_waited 191 = .ok (.getfield 133, 3) := by decide +kernel
theorem dX12_waited_194 : decode cX12_waited 194 = .ok (.iload 4, 2) := by decide +kernel
theorem dX12_waited_196 : decode cX12_waited 196 = .ok (.baload, 1) := by decide +kernel
theorem dX12_waited_197 : decode cX12_waited 197 = .ok (.bastore, 1) := by decide +kernel
theorem dX12_waited_198 : decode cX12_waited 198 = .ok (.iinc 4 1, 3) := by decide +kernel
theorem dX12_waited_201 : decode cX12_waited 201 = .ok (.goto (-25), 3) := by decide +kernel
theorem dX12_waited_204 : decode cX12_waited 204 = .ok (.iinc 3 1, 3) := by decide +kernel
theorem dX12_waited_207 : decode cX12_waited 207 = .ok (.goto (-125), 3) := by decide +kernel
theorem dX12_waited_210 : decode cX12_waited 210 = .ok (.bipush (-2), 2) := by decide +kernel
theorem dX12_waited_212 : decode cX12_waited 212 = .ok (.ireturn, 1) := by decide +kernel
theorem dX12_round_0 : decode cX12_round 0 = .ok (.iload_n 1, 1) := by decide +kernel
theorem dX12_round_1 : decode cX12_round 1 = .ok (.invokestatic 229, 3) := by decide +kernel
theorem dX12_round_4 : decode cX12_round 4 = .ok (.ifCond .eq 17, 3) := by decide +kernel
theorem dX12_round_7 : decode cX12_round 7 = .ok (.iload_n 2, 1) := by decide +kernel
theorem dX12_round_8 : decode cX12_round 8 = .ok (.i2l, 1) := by decide +kernel
theorem dX12_round_9 : decode cX12_round 9 = .ok (.ldc2_w 445, 3) := by decide +kernel
theorem dX12_round_12 : decode cX12_round 12 = .ok (.ldc2_w 364, 3) := by decide +kernel
theorem dX12_round_15 : decode cX12_round 15 = .ok (.invokestatic 181, 3) := by decide +kernel
theorem dX12_round_18 : decode cX12_round 18 = .ok (.ifCond .ne 6, 3) := by decide +kernel
theorem dX12_round_21 : decode cX12_round 21 = .ok (.bipush (-3), 2) := by decide +kernel
theorem dX12_round_23 : decode cX12_round 23 = .ok (.ireturn, 1) := by decide +kernel
theorem dX12_round_24 : decode cX12_round 24 = .ok (.aload_n 0, 1) := by decide +kernel
theorem dX12_round_25 : decode cX12_round 25 = .ok (.iload_n 1, 1) := by decide +kernel
theorem dX12_round_26 : decode cX12_round 26 = .ok (.invokevirtual 490, 3) := by decide +kernel
theorem dX12_round_29 : decode cX12_round 29 = .ok (.iconst 2, 1) := by decide +kernel
theorem dX12_round_30 : decode cX12_round 30 = .ok (.istore_n 3, 1) := by decide +kernel
theorem dX12_round_31 : decode cX12_round 31 = .ok (.iload_n 3, 1) := by decide +kernel
theorem dX12_round_32 : decode cX12_round 32 = .ok (.bipush 6, 2) := by decide +kernel
theorem dX12_round_34 : decode cX12_round 34 = .ok (.if_icmp .gt 43, 3) := by decide +kernel
theorem dX12_round_37 : decode cX12_round 37 = .ok (.aload_n 0, 1) := by decide +kernel
theorem dX12_round_38 : decode cX12_round 38 = .ok (.iload_n 3, 1) := by decide +kernel
theorem dX12_round_39 : decode cX12_round 39 = .ok (.invokevirtual 493, 3) := by decide +kernel
theorem dX12_round_42 : decode cX12_round 42 = .ok (.ifCond .eq 29, 3) := by decide +kernel
theorem dX12_round_45 : decode cX12_round 45 = .ok (.iload_n 2, 1) := by decide +kernel
theorem dX12_round_46 : decode cX12_round 46 = .ok (.iconst (-1), 1) := by decide +kernel
theorem dX12_round_47 : decode cX12_round 47 = .ok (.if_icmp .ne 7, 3) := by decide +kernel
theorem dX12_round_50 : decode cX12_round 50 = .ok (.iload_n 3, 1) := by decide +kernel
theorem dX12_round_51 : decode cX12_round 51 = .ok (.goto 19, 3) := by decide +kernel
theorem dX12_round_54 : decode cX12_round 54 = .ok (.iload_n 2, 1) := by decide +kernel
theorem dX12_round_55 : decode cX12_round 55 = .ok (.iload_n 3, 1) := by decide +kernel
theorem dX12_round_56 : decode cX12_round 56 = .ok (.if_icmp .ge 12, 3) := by decide +kernel
theorem dX12_round_59 : decode cX12_round 59 = .ok (.aload_n 0, 1) := by decide +kernel
theorem dX12_round_60 : decode cX12_round 60 = .ok (.getfield 142, 3) := by decide +kernel
theorem dX12_round_63 : decode cX12_round 63 = .ok (.iload_n 2, 1) := by decide +kernel
theorem dX12_round_64 : decode cX12_round 64 = .ok (.iaload, 1) := by decide +kernel
theorem dX12_round_65 : decode cX12_round 65 = .ok (.goto 5, 3) := by decide +kernel
theorem dX12_round_68 : decode cX12_round 68 = .ok (.bipush (-3), 2) := by decide +kernel
theorem dX12_round_70 : decode cX12_round 70 = .ok (.ireturn, 1) := by decide +kernel
theorem dX12_round_71 : decode cX12_round 71 = .ok (.iinc 3 2, 3) := by decide +kernel
theorem dX12_round_74 : decode cX12_round 74 = .ok (.goto (-43), 3) := by decide +kernel
theorem dX12_round_77 : decode cX12_round 77 = .ok (.bipush (-2), 2) := by decide +kernel
theorem dX12_round_79 : decode cX12_round 79 = .ok (.ireturn, 1) := by decide +kernel
theorem dX12_seed_0 : decode cX12_seed 0 = .ok (.iload_n 1, 1) := by decide +kernel
theorem dX12_seed_1 : decode cX12_seed 1 = .ok (.i2l, 1) := by decide +kernel
theorem dX12_seed_2 : decode cX12_seed 2 = .ok (.lconst 0, 1) := by decide +kernel
theorem dX12_seed_3 : decode cX12_seed 3 = .ok (.ldc2_w 496, 3) := by decide +kernel
theorem dX12_seed_6 : decode cX12_seed 6 = .ok (.invokestatic 181, 3) := by decide +kernel
theorem dX12_seed_9 : decode cX12_seed 9 = .ok (.ifCond .ne 5, 3) := by decide +kernel
theorem dX12_seed_12 : decode cX12_seed 12 = .ok (.iconst 0, 1) := by decide +kernel
theorem dX12_seed_13 : decode cX12_seed 13 = .ok (.ireturn, 1) := by decide +kernel
theorem dX12_seed_14 : decode cX12_seed 14 = .ok (.aload_n 0, 1) := by decide +kernel
theorem dX12_seed_15 : decode cX12_seed 15 = .ok (.iload_n 1, 1) := by decide +kernel
theorem dX12_seed_16 : decode cX12_seed 16 = .ok (.putfield 13, 3) := by decide +kernel
theorem dX12_seed_19 : decode cX12_seed 19 = .ok (.iconst 1, 1) := by decide +kernel
theorem dX12_seed_20 : decode cX12_seed 20 = .ok (.ireturn, 1) := by decide +kernel
theorem dX12_undo_0 : decode cX12_undo 0 = .ok (.aload_n 0, 1) := by decide +kernel
theorem dX12_undo_1 : decode cX12_undo 1 = .ok (.getfield 501, 3) := by decide +kernel
theorem dX12_undo_4 : decode cX12_undo 4 = .ok (.ifCond .ne 5, 3) := by decide +kernel
theorem dX12_undo_7 : decode cX12_undo 7 = .ok (.iconst 0, 1) := by decide +kernel
theorem dX12_undo_8 : decode cX12_undo 8 = .ok (.ireturn, 1) := by decide +kernel
theorem dX12_undo_9 : decode cX12_undo 9 = .ok (.aload_n 0, 1) := by decide +kernel
theorem dX12_undo_10 : decode cX12_undo 10 = .ok (.aload_n 0, 1) := by decide +kernel
theorem dX12_undo_11 : decode cX12_undo 11 = .ok (.getfield 504, 3) := by decide +kernel
theorem dX12_undo_14 : decode cX12_undo 14 = .ok (.putfield 386, 3) := by decide +kernel
theorem dX12_undo_17 : decode cX12_undo 17 = .ok (.aload_n 0, 1) := by decide +kernel
theorem dX12_undo_18 : decode cX12_undo 18 = .ok (.aload_n 0, 1) := by decide +kernel
theorem dX12_undo_19 : decode cX12_undo 19 = .ok (.getfield 507, 3) := by decide +kernel
theorem dX12_undo_22 : decode cX12_undo 22 = .ok (.putfield 13, 3) := by decide +kernel
theorem dX12_undo_25 : decode cX12_undo 25 = .ok (.iconst 0, 1) := by decide +kernel
theorem dX12_undo_26 : decode cX12_undo 26 = .ok (.istore_n 1, 1) := by decide +kernel
theorem dX12_undo_27 : decode cX12_undo 27 = .ok (.iload_n 1, 1) := by decide +kernel
theorem dX12_undo_28 : decode cX12_undo 28 = .ok (.aload_n 0, 1) := by decide +kernel
theorem dX12_undo_29 : decode cX12_undo 29 = .ok (.getfield 386, 3) := by decide +kernel
theorem dX12_undo_32 : decode cX12_undo 32 = .ok (.if_icmp .ge 45, 3) := by decide +kernel
theorem dX12_undo_35 : decode cX12_undo 35 = .ok (.aload_n 0, 1) := by decide +kernel
theorem dX12_undo_36 : decode cX12_undo 36 = .ok (.getfield 85, 3) := by decide +kernel
theorem dX12_undo_39 : decode cX12_undo 39 = .ok (.iload_n 1, 1) := by decide +kernel
theorem dX12_undo_40 : decode cX12_undo 40 = .ok (.aload_n 0, 1) := by decide +kernel
theorem dX12_undo_41 : decode cX12_undo 41 = .ok (.getfield 145, 3) := by decide +kernel
theorem dX12_undo_44 : decode cX12_undo 44 = .ok (.iload_n 1, 1) := by decide +kernel
theorem dX12_undo_45 : decode cX12_undo 45 = .ok (.iaload, 1) := by decide +kernel
theorem dX12_undo_46 : decode cX12_undo 46 = .ok (.iastore, 1) := by decide +kernel
theorem dX12_undo_47 : decode cX12_undo 47 = .ok (.aload_n 0, 1) := by decide +kernel
theorem dX12_undo_48 : decode cX12_undo 48 = .ok (.getfield 88, 3) := by decide +kernel
theorem dX12_undo_51 : decode cX12_undo 51 = .ok (.iload_n 1, 1) := by decide +kernel
theorem dX12_undo_52 : decode cX12_undo 52 = .ok (.aload_n 0, 1) := by decide +kernel
theorem dX12_undo_53 : decode cX12_undo 53 = .ok (.getfield 148, 3) := by decide +kernel
theorem dX12_undo_56 : decode cX12_undo 56 = .ok (.iload_n 1, 1) := by decide +kernel
theorem dX12_undo_57 : decode cX12_undo 57 = .ok (.iaload, 1) := by decide +kernel
theorem dX12_undo_58 : decode cX12_undo 58 = .ok (.iastore, 1) := by decide +kernel
theorem dX12_undo_59 : decode cX12_undo 59 = .ok (.aload_n 0, 1) := by decide +kernel
theorem dX12_undo_60 : decode cX12_undo 60 = .ok (.getfield 91, 3) := by decide +kernel
theorem dX12_undo_63 : decode cX12_undo 63 = .ok (.iload_n 1, 1) := by decide +kernel
theorem dX12_undo_64 : decode cX12_undo 64 = .ok (.aload_n 0, 1) := by decide +kernel
theorem dX12_undo_65 : decode cX12_undo 65 = .ok (.getfield 151, 3) := by decide +kernel
theorem dX12_undo_68 : decode cX12_undo 68 = .ok (.iload_n 1, 1) := by decide +kernel
theorem dX12_undo_69 : decode cX12_undo 69 = .ok (.iaload, 1) := by decide +kernel
theorem dX12_undo_70 : decode cX12_undo 70 = .ok (.iastore, 1) := by decide +kernel
theorem dX12_undo_71 : decode cX12_undo 71 = .ok (.iinc 1 1, 3) := by decide +kernel
theorem dX12_undo_74 : decode cX12_undo 74 = .ok (.goto (-47), 3) := by decide +kernel
theorem dX12_undo_77 : decode cX12_undo 77 = .ok (.iconst 0, 1) := by decide +kernel
theorem dX12_undo_78 : decode cX12_undo 78 = .ok (.istore_n 1, 1) := by decide +kernel
theorem dX12_undo_79 : decode cX12_undo 79 = .ok (.iload_n 1, 1) := by decide +kernel
theorem dX12_undo_80 : decode cX12_undo 80 = .ok (.bipush 6, 2) := by decide +kernel
theorem dX12_undo_82 : decode cX12_undo 82 = .ok (.if_icmp .ge 21, 3) := by decide +kernel
theorem dX12_undo_85 : decode cX12_undo 85 = .ok (.aload_n 0, 1) := by decide +kernel
theorem dX12_undo_86 : decode cX12_undo 86 = .ok (.getfield 76, 3) := by decide +kernel
theorem dX12_undo_89 : decode cX12_undo 89 = .ok (.iload_n 1, 1) := by decide +kernel
theorem dX12_undo_90 : decode cX12_undo 90 = .ok (.aload_n 0, 1) := by decide +kernel
theorem dX12_undo_91 : decode cX12_undo 91 = .ok (.getfield 154, 3) := by decide +kernel
theorem dX12_undo_94 : decode cX12_undo 94 = .ok (.iload_n 1, 1) := by decide +kernel
theorem dX12_undo_95 : decode cX12_undo 95 = .ok (.iaload, 1) := by decide +kernel
theorem dX12_undo_96 : decode cX12_undo 96 = .ok (.iastore, 1) := by decide +kernel
theorem dX12_undo_97 : decode cX12_undo 97 = .ok (.iinc 1 1, 3) := by decide +kernel
theorem dX12_undo_100 : decode cX12_undo 100 = .ok (.goto (-21), 3) := by decide +kernel
theorem dX12_undo_103 : decode cX12_undo 103 = .ok (.iconst 1, 1) := by decide +kernel
theorem dX12_undo_104 : decode cX12_undo 104 = .ok (.ireturn, 1) := by decide +kernel
theorem dX12_saidBy_0 : decode cX12_saidBy 0 = .ok (.iconst 0, 1) := by decide +kernel
theorem dX12_saidBy_1 : decode cX12_saidBy 1 = .ok (.istore_n 2, 1) := by decide +kernel
theorem dX12_saidBy_2 : decode cX12_saidBy 2 = .ok (.iconst 0, 1) := by decide +kernel
theorem dX12_saidBy_3 : decode cX12_saidBy 3 = .ok (.istore_n 3, 1) := by decide +kernel
theorem dX12_saidBy_4 : decode cX12_saidBy 4 = .ok (.iload_n 3, 1) := by decide +kernel
theorem dX12_saidBy_5 : decode cX12_saidBy 5 = .ok (.aload_n 0, 1) := by decide +kernel
theorem dX12_saidBy_6 : decode cX12_saidBy 6 = .ok (.getfield 386, 3) := by decide +kernel
theorem dX12_saidBy_9 : decode cX12_saidBy 9 = .ok (.if_icmp .ge 27, 3) := by decide +kernel
theorem dX12_saidBy_12 : decode cX12_saidBy 12 = .ok (.iload_n 2, 1) := by decide +kernel
theorem dX12_saidBy_13 : decode cX12_saidBy 13 = .ok (.aload_n 0, 1) := by decide +kernel
theorem dX12_saidBy_14 : decode cX12_saidBy 14 = .ok (.getfield 85, 3) := by decide +kernel
theorem dX12_saidBy_17 : decode cX12_saidBy 17 = .ok (.iload_n 3, 1) := by decide +kernel
theorem dX12_saidBy_18 : decode cX12_saidBy 18 = .ok (.iaload, 1) := by decide +kernel
theorem dX12_saidBy_19 : decode cX12_saidBy 19 = .ok (.iload_n 1, 1) := by decide +kernel
theorem dX12_saidBy_20 : decode cX12_saidBy 20 = .ok (.if_icmp .ne 7, 3) := by decide +kernel
theorem dX12_saidBy_23 : decode cX12_saidBy 23 = .ok (.iconst 1, 1) := by decide +kernel
theorem dX12_saidBy_24 : decode cX12_saidBy 24 = .ok (.goto 4, 3) := by decide +kernel
theorem dX12_saidBy_27 : decode cX12_saidBy 27 = .ok (.iconst 0, 1) := by decide +kernel
theorem dX12_saidBy_28 : decode cX12_saidBy 28 = .ok (.iadd, 1) := by decide +kernel
theorem dX12_saidBy_29 : decode cX12_saidBy 29 = .ok (.istore_n 2, 1) := by decide +kernel
theorem dX12_saidBy_30 : decode cX12_saidBy 30 = .ok (.iinc 3 1, 3) := by decide +kernel
theorem dX12_saidBy_33 : decode cX12_saidBy 33 = .ok (.goto (-29), 3) := by decide +kernel
theorem dX12_saidBy_36 : decode cX12_saidBy 36 = .ok (.iload_n 2, 1) := by decide +kernel
theorem dX12_saidBy_37 : decode cX12_saidBy 37 = .ok (.ireturn, 1) := by decide +kernel
theorem dX12_thingsThere_0 : decode cX12_thingsThere 0 = .ok (.iconst 0, 1) := by decide +kernel
theorem dX12_thingsThere_1 : decode cX12_thingsThere 1 = .ok (.istore_n 1, 1) := by decide +kernel
theorem dX12_thingsThere_2 : decode cX12_thingsThere 2 = .ok (.iconst 0, 1) := by decide +kernel
theorem dX12_thingsThere_3 : decode cX12_thingsThere 3 = .ok (.istore_n 2, 1) := by decide +kernel
theorem dX12_thingsThere_4 : decode cX12_thingsThere 4 = .ok (.iload_n 2, 1) := by decide +kernel
theorem dX12_thingsThere_5 : decode cX12_thingsThere 5 = .ok (.bipush 12, 2) := by decide +kernel
theorem dX12_thingsThere_7 : decode cX12_thingsThere 7 = .ok (.if_icmp .ge 28, 3) := by decide +kernel
theorem dX12_thingsThere_10 : decode cX12_thingsThere 10 = .ok (.iload_n 1, 1) := by decide +kernel
theorem dX12_thingsThere_11 : decode cX12_thingsThere 11 = .ok (.aload_n 0, 1) := by decide +kernel
theorem dX12_thingsThere_12 : decode cX12_thingsThere 12 = .ok (.getfield 17, 3) := by decide +kernel
theorem dX12_thingsThere_15 : decode cX12_thingsThere 15 = .ok (.iload_n 2, 1) := by decide +kernel
theorem dX12_thingsThere_16 : decode cX12_thingsThere 16 = .ok (.iaload, 1) := by decide +kernel
theorem dX12_thingsThere_17 : decode cX12_thingsThere 17 = .ok (.ifCond .eq 9, 3) := by decide +kernel
theorem dX12_thingsThere_20 : decode cX12_thingsThere 20 = .ok (.iconst 1, 1) := by decide +kernel
theorem dX12_thingsThere_21 : decode cX12_thingsThere 21 = .ok (.iload_n 2, 1) := by decide +kernel
theorem dX12_thingsThere_22 : decode cX12_thingsThere 22 = .ok (.ishl, 1) := by decide +kernel
theorem dX12_thingsThere_23 : decode cX12_thingsThere 23 = .ok (.goto 4, 3) := by decide +kernel
theorem dX12_thingsThere_26 : decode cX12_thingsThere 26 = .ok (.iconst 0, 1) := by decide +kernel
theorem dX12_thingsThere_27 : decode cX12_thingsThere 27 = .ok (.ior, 1) := by decide +kernel
theorem dX12_thingsThere_28 : decode cX12_thingsThere 28 = .ok (.istore_n 1, 1) := by decide +kernel
theorem dX12_thingsThere_29 : decode cX12_thingsThere 29 = .ok (.iinc 2 1, 3) := by decide +kernel
theorem dX12_thingsThere_32 : decode cX12_thingsThere 32 = .ok (.goto (-28), 3) := by decide +kernel
theorem dX12_thingsThere_35 : decode cX12_thingsThere 35 = .ok (.iload_n 1, 1) := by decide +kernel
theorem dX12_thingsThere_36 : decode cX12_thingsThere 36 = .ok (.ireturn, 1) := by decide +kernel
