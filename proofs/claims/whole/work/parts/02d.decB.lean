theorem dX0_init_0 : decode cX0_init 0 = .ok (.aload_n 0, 1) := by decide +kernel
theorem dX0_init_1 : decode cX0_init 1 = .ok (.invokespecial 3, 3) := by decide +kernel
theorem dX0_init_4 : decode cX0_init 4 = .ok (.aload_n 0, 1) := by decide +kernel
theorem dX0_init_5 : decode cX0_init 5 = .ok (.sipush 150, 3) := by decide +kernel
theorem dX0_init_8 : decode cX0_init 8 = .ok (.newarray .int, 2) := by decide +kernel
theorem dX0_init_10 : decode cX0_init 10 = .ok (.putfield 9, 3) := by decide +kernel
theorem dX0_init_13 : decode cX0_init 13 = .ok (.aload_n 0, 1) := by decide +kernel
theorem dX0_init_14 : decode cX0_init 14 = .ok (.sipush 1000, 3) := by decide +kernel
theorem dX0_init_17 : decode cX0_init 17 = .ok (.newarray .int, 2) := by decide +kernel
theorem dX0_init_19 : decode cX0_init 19 = .ok (.putfield 15, 3) := by decide +kernel
theorem dX0_init_22 : decode cX0_init 22 = .ok (.aload_n 0, 1) := by decide +kernel
theorem dX0_init_23 : decode cX0_init 23 = .ok (.iconst 5, 1) := by decide +kernel
theorem dX0_init_24 : decode cX0_init 24 = .ok (.newarray .int, 2) := by decide +kernel
theorem dX0_init_26 : decode cX0_init 26 = .ok (.putfield 18, 3) := by decide +kernel
theorem dX0_init_29 : decode cX0_init 29 = .ok (.aload_n 0, 1) := by decide +kernel
theorem dX0_init_30 : decode cX0_init 30 = .ok (.iconst 5, 1) := by decide +kernel
theorem dX0_init_31 : decode cX0_init 31 = .ok (.newarray .int, 2) := by decide +kernel
theorem dX0_init_33 : decode cX0_init 33 = .ok (.putfield 21, 3) := by decide +kernel
theorem dX0_init_36 : decode cX0_init 36 = .ok (.aload_n 0, 1) := by decide +kernel
theorem dX0_init_37 : decode cX0_init 37 = .ok (.iconst 4, 1) := by decide +kernel
theorem dX0_init_38 : decode cX0_init 38 = .ok (.newarray .int, 2) := by decide +kernel
theorem dX0_init_40 : decode cX0_init 40 = .ok (.putfield 24, 3) := by decide +kernel
theorem dX0_init_43 : decode cX0_init 43 = .ok (.aload_n 0, 1) := by decide +kernel
theorem dX0_init_44 : decode cX0_init 44 = .ok (.aload_n 1, 1) := by decide +kernel
theorem dX0_init_45 : decode cX0_init 45 = .ok (.putfield 27, 3) := by decide +kernel
theorem dX0_init_48 : decode cX0_init 48 = .ok (.aload_n 0, 1) := by decide +kernel
theorem dX0_init_49 : decode cX0_init 49 = .ok (.aload_n 2, 1) := by decide +kernel
theorem dX0_init_50 : decode cX0_init 50 = .ok (.putfield 31, 3) := by decide +kernel
theorem dX0_init_53 : decode cX0_init 53 = .ok (.return_, 1) := by decide +kernel
theorem dX0_answer_0 : decode cX0_answer 0 = .ok (.aload_n 0, 1) := by decide +kernel
theorem dX0_answer_1 : decode cX0_answer 1 = .ok (.aload_n 1, 1) := by decide +kernel
theorem dX0_answer_2 : decode cX0_answer 2 = .ok (.iload_n 2, 1) := by decide +kernel
theorem dX0_answer_3 : decode cX0_answer 3 = .ok (.iload_n 3, 1) := by decide +kernel
theorem dX0_answer_4 : decode cX0_answer 4 = .ok (.invokevirtual 35, 3) := by decide +kernel
theorem dX0_answer_7 : decode cX0_answer 7 = .ok (.aload_n 0, 1) := by decide +kernel
theorem dX0_answer_8 : decode cX0_answer 8 = .ok (.iconst 0, 1) := by decide +kernel
theorem dX0_answer_9 : decode cX0_answer 9 = .ok (.invokevirtual 39, 3) := by decide +kernel
theorem dX0_answer_12 : decode cX0_answer 12 = .ok (.istore 5, 2) := by decide +kernel
theorem dX0_answer_14 : decode cX0_answer 14 = .ok (.iload 4, 2) := by decide +kernel
theorem dX0_answer_16 : decode cX0_answer 16 = .ok (.iconst (-1), 1) := by decide +kernel
theorem dX0_answer_17 : decode cX0_answer 17 = .ok (.if_icmp .ne 14, 3) := by decide +kernel
theorem dX0_answer_20 : decode cX0_answer 20 = .ok (.iload 5, 2) := by decide +kernel
theorem dX0_answer_22 : decode cX0_answer 22 = .ok (.ifCond .eq 7, 3) := by decide +kernel
theorem dX0_answer_25 : decode cX0_answer 25 = .ok (.iconst 0, 1) := by decide +kernel
theorem dX0_answer_26 : decode cX0_answer 26 = .ok (.goto 4, 3) := by decide +kernel
theorem dX0_answer_29 : decode cX0_answer 29 = .ok (.iconst 1, 1) := by decide +kernel
theorem dX0_answer_30 : decode cX0_answer 30 = .ok (.ireturn, 1) := by decide +kernel
theorem dX0_answer_31 : decode cX0_answer 31 = .ok (.iload 5, 2) := by decide +kernel
theorem dX0_answer_33 : decode cX0_answer 33 = .ok (.ifCond .ne 6, 3) := by decide +kernel
theorem dX0_answer_36 : decode cX0_answer 36 = .ok (.bipush (-2), 2) := by decide +kernel
theorem dX0_answer_38 : decode cX0_answer 38 = .ok (.ireturn, 1) := by decide +kernel
theorem dX0_answer_39 : decode cX0_answer 39 = .ok (.iload 4, 2) := by decide +kernel
theorem dX0_answer_41 : decode cX0_answer 41 = .ok (.ifCond .lt 19, 3) := by decide +kernel
theorem dX0_answer_44 : decode cX0_answer 44 = .ok (.iload 4, 2) := by decide +kernel
theorem dX0_answer_46 : decode cX0_answer 46 = .ok (.iconst 5, 1) := by decide +kernel
theorem dX0_answer_47 : decode cX0_answer 47 = .ok (.if_icmp .ge 13, 3) := by decide +kernel
theorem dX0_answer_50 : decode cX0_answer 50 = .ok (.aload_n 0, 1) := by decide +kernel
theorem dX0_answer_51 : decode cX0_answer 51 = .ok (.getfield 21, 3) := by decide +kernel
theorem dX0_answer_54 : decode cX0_answer 54 = .ok (.iload 4, 2) := by decide +kernel
theorem dX0_answer_56 : decode cX0_answer 56 = .ok (.iaload, 1) := by decide +kernel
theorem dX0_answer_57 : decode cX0_answer 57 = .ok (.goto 5, 3) := by decide +kernel
theorem dX0_answer_60 : decode cX0_answer 60 = .ok (.bipush (-3), 2) := by decide +kernel
theorem dX0_answer_62 : decode cX0_answer 62 = .ok (.ireturn, 1) := by decide +kernel
theorem dX0_begin_0 : decode cX0_begin 0 = .ok (.aload_n 0, 1) := by decide +kernel
theorem dX0_begin_1 : decode cX0_begin 1 = .ok (.getfield 31, 3) := by decide +kernel
theorem dX0_begin_4 : decode cX0_begin 4 = .ok (.invokevirtual 43, 3) := by decide +kernel
theorem dX0_begin_7 : decode cX0_begin 7 = .ok (.aload_n 0, 1) := by decide +kernel
theorem dX0_begin_8 : decode cX0_begin 8 = .ok (.iconst 0, 1) := by decide +kernel
theorem dX0_begin_9 : decode cX0_begin 9 = .ok (.iload_n 3, 1) := by decide +kernel
theorem dX0_begin_10 : decode cX0_begin 10 = .ok (.iconst 5, 1) := by decide +kernel
theorem dX0_begin_11 : decode cX0_begin 11 = .ok (.invokestatic 47, 3) := by decide +kernel
theorem dX0_begin_14 : decode cX0_begin 14 = .ok (.invokestatic 53, 3) := by decide +kernel
theorem dX0_begin_17 : decode cX0_begin 17 = .ok (.putfield 56, 3) := by decide +kernel
theorem dX0_begin_20 : decode cX0_begin 20 = .ok (.aload_n 0, 1) := by decide +kernel
theorem dX0_begin_21 : decode cX0_begin 21 = .ok (.aload_n 1, 1) := by decide +kernel
theorem dX0_begin_22 : decode cX0_begin 22 = .ok (.aload_n 1, 1) := by decide +kernel
theorem dX0_begin_23 : decode cX0_begin 23 = .ok (.getfield 60, 3) := by decide +kernel
theorem dX0_begin_26 : decode cX0_begin 26 = .ok (.iconst 1, 1) := by decide +kernel
theorem dX0_begin_27 : decode cX0_begin 27 = .ok (.isub, 1) := by decide +kernel
theorem dX0_begin_28 : decode cX0_begin 28 = .ok (.invokevirtual 65, 3) := by decide +kernel
theorem dX0_begin_31 : decode cX0_begin 31 = .ok (.putfield 69, 3) := by decide +kernel
theorem dX0_begin_34 : decode cX0_begin 34 = .ok (.aload_n 0, 1) := by decide +kernel
theorem dX0_begin_35 : decode cX0_begin 35 = .ok (.aload_n 1, 1) := by decide +kernel
theorem dX0_begin_36 : decode cX0_begin 36 = .ok (.getfield 60, 3) := by decide +kernel
theorem dX0_begin_39 : decode cX0_begin 39 = .ok (.putfield 72, 3) := by decide +kernel
theorem dX0_begin_42 : decode cX0_begin 42 = .ok (.aload_n 0, 1) := by decide +kernel
theorem dX0_begin_43 : decode cX0_begin 43 = .ok (.getfield 27, 3) := by decide +kernel
theorem dX0_begin_46 : decode cX0_begin 46 = .ok (.iconst 1, 1) := by decide +kernel
theorem dX0_begin_47 : decode cX0_begin 47 = .ok (.invokevirtual 75, 3) := by decide +kernel
theorem dX0_begin_50 : decode cX0_begin 50 = .ok (.istore 4, 2) := by decide +kernel
theorem dX0_begin_52 : decode cX0_begin 52 = .ok (.aload_n 0, 1) := by decide +kernel
theorem dX0_begin_53 : decode cX0_begin 53 = .ok (.iload 4, 2) := by decide +kernel
theorem dX0_begin_55 : decode cX0_begin 55 = .ok (.bipush 32, 2) := by decide +kernel
theorem dX0_begin_57 : decode cX0_begin 57 = .ok (.iand, 1) := by decide +kernel
theorem dX0_begin_58 : decode cX0_begin 58 = .ok (.ifCond .eq 7, 3) := by decide +kernel
theorem dX0_begin_61 : decode cX0_begin 61 = .ok (.iconst 1, 1) := by decide +kernel
theorem dX0_begin_62 : decode cX0_begin 62 = .ok (.goto 4, 3) := by decide +kernel
theorem dX0_begin_65 : decode cX0_begin 65 = .ok (.iconst 0, 1) := by decide +kernel
theorem dX0_begin_66 : decode cX0_begin 66 = .ok (.putfield 80, 3) := by decide +kernel
theorem dX0_begin_69 : decode cX0_begin 69 = .ok (.aload_n 0, 1) := by decide +kernel
theorem dX0_begin_70 : decode cX0_begin 70 = .ok (.aload_n 0, 1) := by decide +kernel
theorem dX0_begin_71 : decode cX0_begin 71 = .ok (.getfield 80, 3) := by decide +kernel
theorem dX0_begin_74 : decode cX0_begin 74 = .ok (.ifCond .ne 11, 3) := by decide +kernel
theorem dX0_begin_77 : decode cX0_begin 77 = .ok (.iload 4, 2) := by decide +kernel
theorem dX0_begin_79 : decode cX0_begin 79 = .ok (.bipush 16, 2) := by decide +kernel
theorem dX0_begin_81 : decode cX0_begin 81 = .ok (.iand, 1) := by decide +kernel
theorem dX0_begin_82 : decode cX0_begin 82 = .ok (.ifCond .eq 7, 3) := by decide +kernel
theorem dX0_begin_85 : decode cX0_begin 85 = .ok (.iconst 1, 1) := by decide +kernel
theorem dX0_begin_86 : decode cX0_begin 86 = .ok (.goto 4, 3) := by decide +kernel
theorem dX0_begin_89 : decode cX0_begin 89 = .ok (.iconst 0, 1) := by decide +kernel
theorem dX0_begin_90 : decode cX0_begin 90 = .ok (.putfield 84, 3) := by decide +kernel
theorem dX0_begin_93 : decode cX0_begin 93 = .ok (.aload_n 0, 1) := by decide +kernel
theorem dX0_begin_94 : decode cX0_begin 94 = .ok (.iload 4, 2) := by decide +kernel
theorem dX0_begin_96 : decode cX0_begin 96 = .ok (.sipush 256, 3) := by decide +kernel
theorem dX0_begin_99 : decode cX0_begin 99 = .ok (.iand, 1) := by decide +kernel
theorem dX0_begin_100 : decode cX0_begin 100 = .ok (.ifCond .eq 7, 3) := by decide +kernel
theorem dX0_begin_103 : decode cX0_begin 103 = .ok (.iconst 1, 1) := by decide +kernel
theorem dX0_begin_104 : decode cX0_begin 104 = .ok (.goto 4, 3) := by decide +kernel
theorem dX0_begin_107 : decode cX0_begin 107 = .ok (.iconst 0, 1) := by decide +kernel
theorem dX0_begin_108 : decode cX0_begin 108 = .ok (.putfield 87, 3) := by decide +kernel
theorem dX0_begin_111 : decode cX0_begin 111 = .ok (.aload_n 0, 1) := by decide +kernel
theorem dX0_begin_112 : decode cX0_begin 112 = .ok (.iconst 0, 1) := by decide +kernel
theorem dX0_begin_113 : decode cX0_begin 113 = .ok (.putfield 90, 3) := by decide +kernel
theorem dX0_begin_116 : decode cX0_begin 116 = .ok (.iconst 0, 1) := by decide +kernel
theorem dX0_begin_117 : decode cX0_begin 117 = .ok (.istore 5, 2) := by decide +kernel
theorem dX0_begin_119 : decode cX0_begin 119 = .ok (.iload 5, 2) := by decide +kernel
theorem dX0_begin_121 : decode cX0_begin 121 = .ok (.bipush 12, 2) := by decide +kernel
theorem dX0_begin_123 : decode cX0_begin 123 = .ok (.if_icmp .ge 47, 3) := by decide +kernel
theorem dX0_begin_126 : decode cX0_begin 126 = .ok (.iload_n 2, 1) := by decide +kernel
theorem dX0_begin_127 : decode cX0_begin 127 = .ok (.iload 5, 2) := by decide +kernel
theorem dX0_begin_129 : decode cX0_begin 129 = .ok (.ishr, 1) := by decide +kernel
theorem dX0_begin_130 : decode cX0_begin 130 = .ok (.iconst 1, 1) := by decide +kernel
theorem dX0_begin_131 : decode cX0_begin 131 = .ok (.iand, 1) := by decide +kernel
theorem dX0_begin_132 : decode cX0_begin 132 = .ok (.ifCond .eq 32, 3) := by decide +kernel
theorem dX0_begin_135 : decode cX0_begin 135 = .ok (.aload_n 0, 1) := by decide +kernel
theorem dX0_begin_136 : decode cX0_begin 136 = .ok (.getfield 90, 3) := by decide +kernel
theorem dX0_begin_139 : decode cX0_begin 139 = .ok (.iconst 4, 1) := by decide +kernel
theorem dX0_begin_140 : decode cX0_begin 140 = .ok (.if_icmp .ge 24, 3) := by decide +kernel
theorem dX0_begin_143 : decode cX0_begin 143 = .ok (.aload_n 0, 1) := by decide +kernel
theorem dX0_begin_144 : decode cX0_begin 144 = .ok (.getfield 24, 3) := by decide +kernel
theorem dX0_begin_147 : decode cX0_begin 147 = .ok (.aload_n 0, 1) := by decide +kernel
theorem dX0_begin_148 : decode cX0_begin 148 = .ok (.getfield 90, 3) := by decide +kernel
theorem dX0_begin_151 : decode cX0_begin 151 = .ok (.iload 5, 2) := by decide +kernel
theorem dX0_begin_153 : decode cX0_begin 153 = .ok (.iastore, 1) := by decide +kernel
theorem dX0_begin_154 : decode cX0_begin 154 = .ok (.aload_n 0, 1) := by decide +kernel
theorem dX0_begin_155 : decode cX0_begin 155 = .ok (.dup, 1) := by decide +kernel
theorem dX0_begin_156 : decode cX0_begin 156 = .ok (.getfield 90, 3) := by decide +kernel
theorem dX0_begin_159 : decode cX0_begin 159 = .ok (.iconst 1, 1) := by decide +kernel
theorem dX0_begin_160 : decode cX0_begin 160 = .ok (.iadd, 1) := by decide +kernel
theorem dX0_begin_161 : decode cX0_begin 161 = .ok (.putfield 90, 3) := by decide +kernel
theorem dX0_begin_164 : decode cX0_begin 164 = .ok (.iinc 5 1, 3) := by decide +kernel
theorem dX0_begin_167 : decode cX0_begin 167 = .ok (.goto (-48), 3) := by decide +kernel
theorem dX0_begin_170 : decode cX0_begin 170 = .ok (.iconst 0, 1) := by decide +kernel
theorem dX0_begin_171 : decode cX0_begin 171 = .ok (.istore 5, 2) := by decide +kernel
theorem dX0_begin_173 : decode cX0_begin 173 = .ok (.iload 5, 2) := by decide +kernel
theorem dX0_begin_175 : decode cX0_begin 175 = .ok (.iconst 5, 1) := by decide +kernel
theorem dX0_begin_176 : decode cX0_begin 176 = .ok (.if_icmp .ge 17, 3) := by decide +kernel
theorem dX0_begin_179 : decode cX0_begin 179 = .ok (.aload_n 0, 1) := by decide +kernel
theorem dX0_begin_180 : decode cX0_begin 180 = .ok (.getfield 18, 3) := by decide +kernel
theorem dX0_begin_183 : decode cX0_begin 183 = .ok (.iload 5, 2) := by decide +kernel
theorem dX0_begin_185 : decode cX0_begin 185 = .ok (.iconst 0, 1) := by decide +kernel
theorem dX0_begin_186 : decode cX0_begin 186 = .ok (.iastore, 1) := by decide +kernel
theorem dX0_begin_187 : decode cX0_begin 187 = .ok (.iinc 5 1, 3) := by decide +kernel
theorem dX0_begin_190 : decode cX0_begin 190 = .ok (.goto (-17), 3) := by decide +kernel
theorem dX0_begin_193 : decode cX0_begin 193 = .ok (.aload_n 0, 1) := by decide +kernel
theorem dX0_begin_194 : decode cX0_begin 194 = .ok (.iconst 0, 1) := by decide +kernel
theorem dX0_begin_195 : decode cX0_begin 195 = .ok (.invokevirtual 93, 3) := by decide +kernel
theorem dX0_begin_198 : decode cX0_begin 198 = .ok (.aload_n 0, 1) := by decide +kernel
theorem dX0_begin_199 : decode cX0_begin 199 = .ok (.iconst 0, 1) := by decide +kernel
theorem dX0_begin_200 : decode cX0_begin 200 = .ok (.aload_n 1, 1) := by decide +kernel
theorem dX0_begin_201 : decode cX0_begin 201 = .ok (.aload_n 1, 1) := by decide +kernel
theorem dX0_begin_202 : decode cX0_begin 202 = .ok (.getfield 60, 3) := by decide +kernel
theorem dX0_begin_205 : decode cX0_begin 205 = .ok (.iconst 2, 1) := by decide +kernel
theorem dX0_begin_206 : decode cX0_begin 206 = .ok (.isub, 1) := by decide +kernel
theorem dX0_begin_207 : decode cX0_begin 207 = .ok (.invokevirtual 97, 3) := by decide +kernel
theorem dX0_begin_210 : decode cX0_begin 210 = .ok (.iconst 1, 1) := by decide +kernel
theorem dX0_begin_211 : decode cX0_begin 211 = .ok (.aload_n 1, 1) := by decide +kernel
theorem dX0_begin_212 : decode cX0_begin 212 = .ok (.aload_n 1, 1) := by decide +kernel
theorem dX0_begin_213 : decode cX0_begin 213 = .ok (.getfield 60, 3) := by decide +kernel
theorem dX0_begin_216 : decode cX0_begin 216 = .ok (.iconst 1, 1) := by decide +kernel
theorem dX0_begin_217 : decode cX0_begin 217 = .ok (.isub, 1) := by decide +kernel
theorem dX0_begin_218 : decode cX0_begin 218 = .ok (.invokevirtual 97, 3) := by decide +kernel
theorem dX0_begin_221 : decode cX0_begin 221 = .ok (.ishl, 1) := by decide +kernel
theorem dX0_begin_222 : decode cX0_begin 222 = .ok (.invokevirtual 100, 3) := by decide +kernel
theorem dX0_begin_225 : decode cX0_begin 225 = .ok (.return_, 1) := by decide +kernel
theorem dX0_clearLevel_0 : decode cX0_clearLevel 0 = .ok (.iconst 0, 1) := by decide +kernel
theorem dX0_clearLevel_1 : decode cX0_clearLevel 1 = .ok (.istore_n 2, 1) := by decide +kernel
theorem dX0_clearLevel_2 : decode cX0_clearLevel 2 = .ok (.iload_n 2, 1) := by decide +kernel
theorem dX0_clearLevel_3 : decode cX0_clearLevel 3 = .ok (.bipush 25, 2) := by decide +kernel
theorem dX0_clearLevel_5 : decode cX0_clearLevel 5 = .ok (.if_icmp .ge 36, 3) := by decide +kernel
theorem dX0_clearLevel_8 : decode cX0_clearLevel 8 = .ok (.iload_n 1, 1) := by decide +kernel
theorem dX0_clearLevel_9 : decode cX0_clearLevel 9 = .ok (.bipush 25, 2) := by decide +kernel
theorem dX0_clearLevel_11 : decode cX0_clearLevel 11 = .ok (.imul, 1) := by decide +kernel
theorem dX0_clearLevel_12 : decode cX0_clearLevel 12 = .ok (.iload_n 2, 1) := by decide +kernel
theorem dX0_clearLevel_13 : decode cX0_clearLevel 13 = .ok (.iadd, 1) := by decide +kernel
theorem dX0_clearLevel_14 : decode cX0_clearLevel 14 = .ok (.istore_n 3, 1) := by decide +kernel
theorem dX0_clearLevel_15 : decode cX0_clearLevel 15 = .ok (.iload_n 3, 1) := by decide +kernel
theorem dX0_clearLevel_16 : decode cX0_clearLevel 16 = .ok (.ifCond .lt 19, 3) := by decide +kernel
theorem dX0_clearLevel_19 : decode cX0_clearLevel 19 = .ok (.iload_n 3, 1) := by decide +kernel
theorem dX0_clearLevel_20 : decode cX0_clearLevel 20 = .ok (.aload_n 0, 1) := by decide +kernel
theorem dX0_clearLevel_21 : decode cX0_clearLevel 21 = .ok (.getfield 9, 3) := by decide +kernel
theorem dX0_clearLevel_24 : decode cX0_clearLevel 24 = .ok (.arraylength, 1) := by decide +kernel
theorem dX0_clearLevel_25 : decode cX0_clearLevel 25 = .ok (.if_icmp .ge 10, 3) := by decide +kernel
theorem dX0_clearLevel_28 : decode cX0_clearLevel 28 = .ok (.aload_n 0, 1) := by decide +kernel
theorem dX0_clearLevel_29 : decode cX0_clearLevel 29 = .ok (.getfield 9, 3) := by decide +kernel
theorem dX0_clearLevel_32 : decode cX0_clearLevel 32 = .ok (.iload_n 3, 1) := by decide +kernel
theorem dX0_clearLevel_33 : decode cX0_clearLevel 33 = .ok (.iconst 0, 1) := by decide +kernel
theorem dX0_clearLevel_34 : decode cX0_clearLevel 34 = .ok (.iastore, 1) := by decide +kernel
theorem dX0_clearLevel_35 : decode cX0_clearLevel 35 = .ok (.iinc 2 1, 3) := by decide +kernel
theorem dX0_clearLevel_38 : decode cX0_clearLevel 38 = .ok (.goto (-36), 3) := by decide +kernel
theorem dX0_clearLevel_41 : decode cX0_clearLevel 41 = .ok (.return_, 1) := by decide +kernel
theorem dX0_reached_0 : decode cX0_reached 0 = .ok (.iload_n 1, 1) := by decide +kernel
theorem dX0_reached_1 : decode cX0_reached 1 = .ok (.bipush 25, 2) := by decide +kernel
theorem dX0_reached_3 : decode cX0_reached 3 = .ok (.imul, 1) := by decide +kernel
theorem dX0_reached_4 : decode cX0_reached 4 = .ok (.aload_n 0, 1) := by decide +kernel
theorem dX0_reached_5 : decode cX0_reached 5 = .ok (.getfield 80, 3) := by decide +kernel
theorem dX0_reached_8 : decode cX0_reached 8 = .ok (.ifCond .eq 7, 3) := by decide +kernel
theorem dX0_reached_11 : decode cX0_reached 11 = .ok (.iload_n 2, 1) := by decide +kernel
theorem dX0_reached_12 : decode cX0_reached 12 = .ok (.goto 4, 3) := by decide +kernel
theorem dX0_reached_15 : decode cX0_reached 15 = .ok (.iconst 0, 1) := by decide +kernel
theorem dX0_reached_16 : decode cX0_reached 16 = .ok (.iadd, 1) := by decide +kernel
theorem dX0_reached_17 : decode cX0_reached 17 = .ok (.istore 4, 2) := by decide +kernel
theorem dX0_reached_19 : decode cX0_reached 19 = .ok (.iload 4, 2) := by decide +kernel
theorem dX0_reached_21 : decode cX0_reached 21 = .ok (.ifCond .lt 39, 3) := by decide +kernel
theorem dX0_reached_24 : decode cX0_reached 24 = .ok (.iload 4, 2) := by decide +kernel
theorem dX0_reached_26 : decode cX0_reached 26 = .ok (.aload_n 0, 1) := by decide +kernel
theorem dX0_reached_27 : decode cX0_reached 27 = .ok (.getfield 9, 3) := by decide +kernel
theorem dX0_reached_30 : decode cX0_reached 30 = .ok (.arraylength, 1) := by decide +kernel
theorem dX0_reached_31 : decode cX0_reached 31 = .ok (.if_icmp .ge 29, 3) := by decide +kernel
theorem dX0_reached_34 : decode cX0_reached 34 = .ok (.iload_n 3, 1) := by decide +kernel
theorem dX0_reached_35 : decode cX0_reached 35 = .ok (.ifCond .eq 25, 3) := by decide +kernel
theorem dX0_reached_38 : decode cX0_reached 38 = .ok (.aload_n 0, 1) := by decide +kernel
theorem dX0_reached_39 : decode cX0_reached 39 = .ok (.getfield 9, 3) := by decide +kernel
theorem dX0_reached_42 : decode cX0_reached 42 = .ok (.iload 4, 2) := by decide +kernel
theorem dX0_reached_44 : decode cX0_reached 44 = .ok (.dup2, 1) := by decide +kernel
theorem dX0_reached_45 : decode cX0_reached 45 = .ok (.iaload, 1) := by decide +kernel
theorem dX0_reached_46 : decode cX0_reached 46 = .ok (.aload_n 0, 1) := by decide +kernel
theorem dX0_reached_47 : decode cX0_reached 47 = .ok (.getfield 84, 3) := by decide +kernel
theorem dX0_reached_50 : decode cX0_reached 50 = .ok (.ifCond .eq 7, 3) := by decide +kernel
theorem dX0_reached_53 : decode cX0_reached 53 = .ok (.iload_n 3, 1) := by decide +kernel
theorem dX0_reached_54 : decode cX0_reached 54 = .ok (.goto 4, 3) := by decide +kernel
theorem dX0_reached_57 : decode cX0_reached 57 = .ok (.iconst 1, 1) := by decide +kernel
theorem dX0_reached_58 : decode cX0_reached 58 = .ok (.ior, 1) := by decide +kernel
theorem dX0_reached_59 : decode cX0_reached 59 = .ok (.iastore, 1) := by decide +kernel
theorem dX0_reached_60 : decode cX0_reached 60 = .ok (.return_, 1) := by decide +kernel
theorem dX0_breaks_0 : decode cX0_breaks 0 = .ok (.iload_n 1, 1) := by decide +kernel
theorem dX0_breaks_1 : decode cX0_breaks 1 = .ok (.ifCond .lt 19, 3) := by decide +kernel
theorem dX0_breaks_4 : decode cX0_breaks 4 = .ok (.iload_n 1, 1) := by decide +kernel
theorem dX0_breaks_5 : decode cX0_breaks 5 = .ok (.aload_n 0, 1) := by decide +kernel
theorem dX0_breaks_6 : decode cX0_breaks 6 = .ok (.getfield 56, 3) := by decide +kernel
theorem dX0_breaks_9 : decode cX0_breaks 9 = .ok (.if_icmp .ge 11, 3) := by decide +kernel
theorem dX0_breaks_12 : decode cX0_breaks 12 = .ok (.aload_n 0, 1) := by decide +kernel
theorem dX0_breaks_13 : decode cX0_breaks 13 = .ok (.iload_n 1, 1) := by decide +kernel
theorem dX0_breaks_14 : decode cX0_breaks 14 = .ok (.invokevirtual 104, 3) := by decide +kernel
theorem dX0_breaks_17 : decode cX0_breaks 17 = .ok (.ifCond .eq 5, 3) := by decide +kernel
theorem dX0_breaks_20 : decode cX0_breaks 20 = .ok (.iconst 0, 1) := by decide +kernel
theorem dX0_breaks_21 : decode cX0_breaks 21 = .ok (.ireturn, 1) := by decide +kernel
theorem dX0_breaks_22 : decode cX0_breaks 22 = .ok (.iconst 0, 1) := by decide +kernel
theorem dX0_breaks_23 : decode cX0_breaks 23 = .ok (.istore_n 2, 1) := by decide +kernel
theorem dX0_breaks_24 : decode cX0_breaks 24 = .ok (.iload_n 2, 1) := by decide +kernel
theorem dX0_breaks_25 : decode cX0_breaks 25 = .ok (.aload_n 0, 1) := by decide +kernel
theorem dX0_breaks_26 : decode cX0_breaks 26 = .ok (.getfield 90, 3) := by decide +kernel
theorem dX0_breaks_29 : decode cX0_breaks 29 = .ok (.if_icmp .ge 54, 3) := by decide +kernel
theorem dX0_breaks_32 : decode cX0_breaks 32 = .ok (.iload_n 2, 1) := by decide +kernel
theorem dX0_breaks_33 : decode cX0_breaks 33 = .ok (.iconst 4, 1) := by decide +kernel
theorem dX0_breaks_34 : decode cX0_breaks 34 = .ok (.if_icmp .ge 49, 3) := by decide +kernel
theorem dX0_breaks_37 : decode cX0_breaks 37 = .ok (.aload_n 0, 1) := by decide +kernel
theorem dX0_breaks_38 : decode cX0_breaks 38 = .ok (.getfield 21, 3) := by decide +kernel
theorem dX0_breaks_41 : decode cX0_breaks 41 = .ok (.iload_n 1, 1) := by decide +kernel
theorem dX0_breaks_42 : decode cX0_breaks 42 = .ok (.aload_n 0, 1) := by decide +kernel
theorem dX0_breaks_43 : decode cX0_breaks 43 = .ok (.getfield 24, 3) := by decide +kernel
theorem dX0_breaks_46 : decode cX0_breaks 46 = .ok (.iload_n 2, 1) := by decide +kernel
theorem dX0_breaks_47 : decode cX0_breaks 47 = .ok (.iaload, 1) := by decide +kernel
theorem dX0_breaks_48 : decode cX0_breaks 48 = .ok (.iastore, 1) := by decide +kernel
theorem dX0_breaks_49 : decode cX0_breaks 49 = .ok (.aload_n 0, 1) := by decide +kernel
theorem dX0_breaks_50 : decode cX0_breaks 50 = .ok (.iload_n 1, 1) := by decide +kernel
theorem dX0_breaks_51 : decode cX0_breaks 51 = .ok (.iload_n 2, 1) := by decide +kernel
theorem dX0_breaks_52 : decode cX0_breaks 52 = .ok (.invokevirtual 107, 3) := by decide +kernel
theorem dX0_breaks_55 : decode cX0_breaks 55 = .ok (.ifCond .ne 10, 3) := by decide +kernel
theorem dX0_breaks_58 : decode cX0_breaks 58 = .ok (.aload_n 0, 1) := by decide +kernel
theorem dX0_breaks_59 : decode cX0_breaks 59 = .ok (.iload_n 1, 1) := by decide +kernel
theorem dX0_breaks_60 : decode cX0_breaks 60 = .ok (.invokevirtual 111, 3) := by decide +kernel
theorem dX0_breaks_63 : decode cX0_breaks 63 = .ok (.iconst 1, 1) := by decide +kernel
theorem dX0_breaks_64 : decode cX0_breaks 64 = .ok (.ireturn, 1) := by decide +kernel
theorem dX0_breaks_65 : decode cX0_breaks 65 = .ok (.aload_n 0, 1) := by decide +kernel
theorem dX0_breaks_66 : decode cX0_breaks 66 = .ok (.iload_n 1, 1) := by decide +kernel
theorem dX0_breaks_67 : decode cX0_breaks 67 = .ok (.iconst 1, 1) := by decide +kernel
theorem dX0_breaks_68 : decode cX0_breaks 68 = .ok (.iadd, 1) := by decide +kernel
theorem dX0_breaks_69 : decode cX0_breaks 69 = .ok (.invokevirtual 39, 3) := by decide +kernel
theorem dX0_breaks_72 : decode cX0_breaks 72 = .ok (.ifCond .eq 5, 3) := by decide +kernel
theorem dX0_breaks_75 : decode cX0_breaks 75 = .ok (.iconst 1, 1) := by decide +kernel
theorem dX0_breaks_76 : decode cX0_breaks 76 = .ok (.ireturn, 1) := by decide +kernel
theorem dX0_breaks_77 : decode cX0_breaks 77 = .ok (.iinc 2 1, 3) := by decide +kernel
theorem dX0_breaks_80 : decode cX0_breaks 80 = .ok (.goto (-56), 3) := by decide +kernel
theorem dX0_breaks_83 : decode cX0_breaks 83 = .ok (.aload_n 0, 1) := by decide +kernel
theorem dX0_breaks_84 : decode cX0_breaks 84 = .ok (.iload_n 1, 1) := by decide +kernel
theorem dX0_breaks_85 : decode cX0_breaks 85 = .ok (.invokevirtual 114, 3) := by decide +kernel
theorem dX0_breaks_88 : decode cX0_breaks 88 = .ok (.iconst 0, 1) := by decide +kernel
theorem dX0_breaks_89 : decode cX0_breaks 89 = .ok (.ireturn, 1) := by decide +kernel
theorem dX0_fillBehind_0 : decode cX0_fillBehind 0 = .ok (.iload_n 1, 1) := by decide +kernel
theorem dX0_fillBehind_1 : decode cX0_fillBehind 1 = .ok (.iconst 1, 1) := by decide +kernel
theorem dX0_fillBehind_2 : decode cX0_fillBehind 2 = .ok (.iadd, 1) := by decide +kernel
theorem dX0_fillBehind_3 : decode cX0_fillBehind 3 = .ok (.istore_n 2, 1) := by decide +kernel
theorem dX0_fillBehind_4 : decode cX0_fillBehind 4 = .ok (.iload_n 2, 1) := by decide +kernel
theorem dX0_fillBehind_5 : decode cX0_fillBehind 5 = .ok (.aload_n 0, 1) := by decide +kernel
theorem dX0_fillBehind_6 : decode cX0_fillBehind 6 = .ok (.getfield 56, 3) := by decide +kernel
theorem dX0_fillBehind_9 : decode cX0_fillBehind 9 = .ok (.if_icmp .ge 26, 3) := by decide +kernel
theorem dX0_fillBehind_12 : decode cX0_fillBehind 12 = .ok (.iload_n 2, 1) := by decide +kernel
theorem dX0_fillBehind_13 : decode cX0_fillBehind 13 = .ok (.iconst 5, 1) := by decide +kernel
theorem dX0_fillBehind_14 : decode cX0_fillBehind 14 = .ok (.if_icmp .ge 21, 3) := by decide +kernel
theorem dX0_fillBehind_17 : decode cX0_fillBehind 17 = .ok (.aload_n 0, 1) := by decide +kernel
theorem dX0_fillBehind_18 : decode cX0_fillBehind 18 = .ok (.getfield 21, 3) := by decide +kernel
theorem dX0_fillBehind_21 : decode cX0_fillBehind 21 = .ok (.iload_n 2, 1) := by decide +kernel
theorem dX0_fillBehind_22 : decode cX0_fillBehind 22 = .ok (.aload_n 0, 1) := by decide +kernel
theorem dX0_fillBehind_23 : decode cX0_fillBehind 23 = .ok (.getfield 24, 3) := by decide +kernel
theorem dX0_fillBehind_26 : decode cX0_fillBehind 26 = .ok (.iconst 0, 1) := by decide +kernel
theorem dX0_fillBehind_27 : decode cX0_fillBehind 27 = .ok (.iaload, 1) := by decide +kernel
theorem dX0_fillBehind_28 : decode cX0_fillBehind 28 = .ok (.iastore, 1) := by decide +kernel
theorem dX0_fillBehind_29 : decode cX0_fillBehind 29 = .ok (.iinc 2 1, 3) := by decide +kernel
theorem dX0_fillBehind_32 : decode cX0_fillBehind 32 = .ok (.goto (-28), 3) := by decide +kernel
theorem dX0_fillBehind_35 : decode cX0_fillBehind 35 = .ok (.return_, 1) := by decide +kernel
theorem dX0_advance_0 : decode cX0_advance 0 = .ok (.iconst 0, 1) := by decide +kernel
theorem dX0_advance_1 : decode cX0_advance 1 = .ok (.istore_n 3, 1) := by decide +kernel
theorem dX0_advance_2 : decode cX0_advance 2 = .ok (.aload_n 0, 1) := by decide +kernel
theorem dX0_advance_3 : decode cX0_advance 3 = .ok (.iload_n 1, 1) := by decide +kernel
theorem dX0_advance_4 : decode cX0_advance 4 = .ok (.iconst 1, 1) := by decide +kernel
theorem dX0_advance_5 : decode cX0_advance 5 = .ok (.iadd, 1) := by decide +kernel
theorem dX0_advance_6 : decode cX0_advance 6 = .ok (.invokevirtual 93, 3) := by decide +kernel
theorem dX0_advance_9 : decode cX0_advance 9 = .ok (.iconst 0, 1) := by decide +kernel
theorem dX0_advance_10 : decode cX0_advance 10 = .ok (.istore 4, 2) := by decide +kernel
theorem dX0_advance_12 : decode cX0_advance 12 = .ok (.iload 4, 2) := by decide +kernel
theorem dX0_advance_14 : decode cX0_advance 14 = .ok (.bipush 25, 2) := by decide +kernel
theorem dX0_advance_16 : decode cX0_advance 16 = .ok (.if_icmp .ge 127, 3) := by decide +kernel
theorem dX0_advance_19 : decode cX0_advance 19 = .ok (.iload_n 1, 1) := by decide +kernel
theorem dX0_advance_20 : decode cX0_advance 20 = .ok (.bipush 25, 2) := by decide +kernel
theorem dX0_advance_22 : decode cX0_advance 22 = .ok (.imul, 1) := by decide +kernel
theorem dX0_advance_23 : decode cX0_advance 23 = .ok (.iload 4, 2) := by decide +kernel
theorem dX0_advance_25 : decode cX0_advance 25 = .ok (.iadd, 1) := by decide +kernel
theorem dX0_advance_26 : decode cX0_advance 26 = .ok (.istore 5, 2) := by decide +kernel
theorem dX0_advance_28 : decode cX0_advance 28 = .ok (.iload 5, 2) := by decide +kernel
theorem dX0_advance_30 : decode cX0_advance 30 = .ok (.ifCond .lt 23, 3) := by decide +kernel
theorem dX0_advance_33 : decode cX0_advance 33 = .ok (.iload 5, 2) := by decide +kernel
theorem dX0_advance_35 : decode cX0_advance 35 = .ok (.aload_n 0, 1) := by decide +kernel
theorem dX0_advance_36 : decode cX0_advance 36 = .ok (.getfield 9, 3) := by decide +kernel
theorem dX0_advance_39 : decode cX0_advance 39 = .ok (.arraylength, 1) := by decide +kernel
theorem dX0_advance_40 : decode cX0_advance 40 = .ok (.if_icmp .ge 13, 3) := by decide +kernel
theorem dX0_advance_43 : decode cX0_advance 43 = .ok (.aload_n 0, 1) := by decide +kernel
theorem dX0_advance_44 : decode cX0_advance 44 = .ok (.getfield 9, 3) := by decide +kernel
theorem dX0_advance_47 : decode cX0_advance 47 = .ok (.iload 5, 2) := by decide +kernel
theorem dX0_advance_49 : decode cX0_advance 49 = .ok (.iaload, 1) := by decide +kernel
theorem dX0_advance_50 : decode cX0_advance 50 = .ok (.goto 4, 3) := by decide +kernel
theorem dX0_advance_53 : decode cX0_advance 53 = .ok (.iconst 0, 1) := by decide +kernel
theorem dX0_advance_54 : decode cX0_advance 54 = .ok (.istore 6, 2) := by decide +kernel
theorem dX0_advance_56 : decode cX0_advance 56 = .ok (.iconst 0, 1) := by decide +kernel
theorem dX0_advance_57 : decode cX0_advance 57 = .ok (.istore 7, 2) := by decide +kernel
theorem dX0_advance_59 : decode cX0_advance 59 = .ok (.iload 7, 2) := by decide +kernel
theorem dX0_advance_61 : decode cX0_advance 61 = .ok (.bipush 25, 2) := by decide +kernel
theorem dX0_advance_63 : decode cX0_advance 63 = .ok (.if_icmp .ge 74, 3) := by decide +kernel
theorem dX0_advance_66 : decode cX0_advance 66 = .ok (.iload 6, 2) := by decide +kernel
theorem dX0_advance_68 : decode cX0_advance 68 = .ok (.ifCond .eq 69, 3) := by decide +kernel
theorem dX0_advance_71 : decode cX0_advance 71 = .ok (.iload 6, 2) := by decide +kernel
theorem dX0_advance_73 : decode cX0_advance 73 = .ok (.iload 7, 2) := by decide +kernel
theorem dX0_advance_75 : decode cX0_advance 75 = .ok (.ishr, 1) := by decide +kernel
theorem dX0_advance_76 : decode cX0_advance 76 = .ok (.iconst 1, 1) := by decide +kernel
theorem dX0_advance_77 : decode cX0_advance 77 = .ok (.iand, 1) := by decide +kernel
theorem dX0_advance_78 : decode cX0_advance 78 = .ok (.ifCond .eq 16, 3) := by decide +kernel
theorem dX0_advance_81 : decode cX0_advance 81 = .ok (.aload_n 0, 1) := by decide +kernel
theorem dX0_advance_82 : decode cX0_advance 82 = .ok (.iload_n 1, 1) := by decide +kernel
theorem dX0_advance_83 : decode cX0_advance 83 = .ok (.iload_n 2, 1) := by decide +kernel
theorem dX0_advance_84 : decode cX0_advance 84 = .ok (.iload 7, 2) := by decide +kernel
theorem dX0_advance_86 : decode cX0_advance 86 = .ok (.iload 4, 2) := by decide +kernel
theorem dX0_advance_88 : decode cX0_advance 88 = .ok (.invokevirtual 117, 3) := by decide +kernel
theorem dX0_advance_91 : decode cX0_advance 91 = .ok (.goto 4, 3) := by decide +kernel
theorem dX0_advance_94 : decode cX0_advance 94 = .ok (.iconst 0, 1) := by decide +kernel
theorem dX0_advance_95 : decode cX0_advance 95 = .ok (.istore 8, 2) := by decide +kernel
theorem dX0_advance_97 : decode cX0_advance 97 = .ok (.iload 8, 2) := by decide +kernel
theorem dX0_advance_99 : decode cX0_advance 99 = .ok (.ifCond .eq 16, 3) := by decide +kernel
theorem dX0_advance_102 : decode cX0_advance 102 = .ok (.iconst 1, 1) := by decide +kernel
theorem dX0_advance_103 : decode cX0_advance 103 = .ok (.istore_n 3, 1) := by decide +kernel
theorem dX0_advance_104 : decode cX0_advance 104 = .ok (.aload_n 0, 1) := by decide +kernel
theorem dX0_advance_105 : decode cX0_advance 105 = .ok (.iload_n 1, 1) := by decide +kernel
theorem dX0_advance_106 : decode cX0_advance 106 = .ok (.iconst 1, 1) := by decide +kernel
theorem dX0_advance_107 : decode cX0_advance 107 = .ok (.iadd, 1) := by decide +kernel
theorem dX0_advance_108 : decode cX0_advance 108 = .ok (.iload 7, 2) := by decide +kernel
theorem dX0_advance_110 : decode cX0_advance 110 = .ok (.iload 8, 2) := by decide +kernel
theorem dX0_advance_112 : decode cX0_advance 112 = .ok (.invokevirtual 100, 3) := by decide +kernel
theorem dX0_advance_115 : decode cX0_advance 115 = .ok (.iload_n 3, 1) := by decide +kernel
theorem dX0_advance_116 : decode cX0_advance 116 = .ok (.ifCond .eq 15, 3) := by decide +kernel
theorem dX0_advance_119 : decode cX0_advance 119 = .ok (.iload_n 1, 1) := by decide +kernel
theorem dX0_advance_120 : decode cX0_advance 120 = .ok (.aload_n 0, 1) := by decide +kernel
theorem dX0_advance_121 : decode cX0_advance 121 = .ok (.getfield 56, 3) := by decide +kernel
theorem dX0_advance_124 : decode cX0_advance 124 = .ok (.iconst 1, 1) := by decide +kernel
theorem dX0_advance_125 : decode cX0_advance 125 = .ok (.isub, 1) := by decide +kernel
theorem dX0_advance_126 : decode cX0_advance 126 = .ok (.if_icmp .ne 5, 3) := by decide +kernel
theorem dX0_advance_129 : decode cX0_advance 129 = .ok (.iconst 1, 1) := by decide +kernel
theorem dX0_advance_130 : decode cX0_advance 130 = .ok (.ireturn, 1) := by decide +kernel
theorem dX0_advance_131 : decode cX0_advance 131 = .ok (.iinc 7 1, 3) := by decide +kernel
theorem dX0_advance_134 : decode cX0_advance 134 = .ok (.goto (-75), 3) := by decide +kernel
theorem dX0_advance_137 : decode cX0_advance 137 = .ok (.iinc 4 1, 3) := by decide +kernel
theorem dX0_advance_140 : decode cX0_advance 140 = .ok (.goto (-128), 3) := by decide +kernel
theorem dX0_advance_143 : decode cX0_advance 143 = .ok (.iload_n 3, 1) := by decide +kernel
theorem dX0_advance_144 : decode cX0_advance 144 = .ok (.ireturn, 1) := by decide +kernel
theorem dX0_lengthsOf_0 : decode cX0_lengthsOf 0 = .ok (.aload_n 0, 1) := by decide +kernel
theorem dX0_lengthsOf_1 : decode cX0_lengthsOf 1 = .ok (.getfield 87, 3) := by decide +kernel
theorem dX0_lengthsOf_4 : decode cX0_lengthsOf 4 = .ok (.ifCond .ne 8, 3) := by decide +kernel
theorem dX0_lengthsOf_7 : decode cX0_lengthsOf 7 = .ok (.iload_n 1, 1) := by decide +kernel
theorem dX0_lengthsOf_8 : decode cX0_lengthsOf 8 = .ok (.iconst 3, 1) := by decide +kernel
theorem dX0_lengthsOf_9 : decode cX0_lengthsOf 9 = .ok (.if_icmp .ge 7, 3) := by decide +kernel
theorem dX0_lengthsOf_12 : decode cX0_lengthsOf 12 = .ok (.iload_n 1, 1) := by decide +kernel
theorem dX0_lengthsOf_13 : decode cX0_lengthsOf 13 = .ok (.goto 6, 3) := by decide +kernel
theorem dX0_lengthsOf_16 : decode cX0_lengthsOf 16 = .ok (.iload_n 1, 1) := by decide +kernel
theorem dX0_lengthsOf_17 : decode cX0_lengthsOf 17 = .ok (.iconst 2, 1) := by decide +kernel
theorem dX0_lengthsOf_18 : decode cX0_lengthsOf 18 = .ok (.isub, 1) := by decide +kernel
theorem dX0_lengthsOf_19 : decode cX0_lengthsOf 19 = .ok (.istore 5, 2) := by decide +kernel
theorem dX0_lengthsOf_21 : decode cX0_lengthsOf 21 = .ok (.iload 5, 2) := by decide +kernel
theorem dX0_lengthsOf_23 : decode cX0_lengthsOf 23 = .ok (.iconst 4, 1) := by decide +kernel
theorem dX0_lengthsOf_24 : decode cX0_lengthsOf 24 = .ok (.imul, 1) := by decide +kernel
theorem dX0_lengthsOf_25 : decode cX0_lengthsOf 25 = .ok (.iload_n 2, 1) := by decide +kernel
theorem dX0_lengthsOf_26 : decode cX0_lengthsOf 26 = .ok (.iadd, 1) := by decide +kernel
theorem dX0_lengthsOf_27 : decode cX0_lengthsOf 27 = .ok (.sipush 625, 3) := by decide +kernel
theorem dX0_lengthsOf_30 : decode cX0_lengthsOf 30 = .ok (.imul, 1) := by decide +kernel
theorem dX0_lengthsOf_31 : decode cX0_lengthsOf 31 = .ok (.iload_n 3, 1) := by decide +kernel
theorem dX0_lengthsOf_32 : decode cX0_lengthsOf 32 = .ok (.bipush 25, 2) := by decide +kernel
theorem dX0_lengthsOf_34 : decode cX0_lengthsOf 34 = .ok (.imul, 1) := by decide +kernel
theorem dX0_lengthsOf_35 : decode cX0_lengthsOf 35 = .ok (.iadd, 1) := by decide +kernel
theorem dX0_lengthsOf_36 : decode cX0_lengthsOf 36 = .ok (.iload 4, 2) := by decide +kernel
theorem dX0_lengthsOf_38 : decode cX0_lengthsOf 38 = .ok (.iadd, 1) := by decide +kernel
theorem dX0_lengthsOf_39 : decode cX0_lengthsOf 39 = .ok (.istore 6, 2) := by decide +kernel
theorem dX0_lengthsOf_41 : decode cX0_lengthsOf 41 = .ok (.aload_n 0, 1) := by decide +kernel
theorem dX0_lengthsOf_42 : decode cX0_lengthsOf 42 = .ok (.getfield 31, 3) := by decide +kernel
theorem dX0_lengthsOf_45 : decode cX0_lengthsOf 45 = .ok (.iload 6, 2) := by decide +kernel
theorem dX0_lengthsOf_47 : decode cX0_lengthsOf 47 = .ok (.invokevirtual 121, 3) := by decide +kernel
theorem dX0_lengthsOf_50 : decode cX0_lengthsOf 50 = .ok (.ifCond .eq 13, 3) := by decide +kernel
theorem dX0_lengthsOf_53 : decode cX0_lengthsOf 53 = .ok (.aload_n 0, 1) := by decide +kernel
theorem dX0_lengthsOf_54 : decode cX0_lengthsOf 54 = .ok (.getfield 31, 3) := by decide +kernel
theorem dX0_lengthsOf_57 : decode cX0_lengthsOf 57 = .ok (.iload 6, 2) := by decide +kernel
theorem dX0_lengthsOf_59 : decode cX0_lengthsOf 59 = .ok (.invokevirtual 124, 3) := by decide +kernel
theorem dX0_lengthsOf_62 : decode cX0_lengthsOf 62 = .ok (.ireturn, 1) := by decide +kernel
theorem dX0_lengthsOf_63 : decode cX0_lengthsOf 63 = .ok (.iload_n 2, 1) := by decide +kernel
theorem dX0_lengthsOf_64 : decode cX0_lengthsOf 64 = .ok (.ifCond .lt 8, 3) := by decide +kernel
theorem dX0_lengthsOf_67 : decode cX0_lengthsOf 67 = .ok (.iload_n 2, 1) := by decide +kernel
theorem dX0_lengthsOf_68 : decode cX0_lengthsOf 68 = .ok (.iconst 4, 1) := by decide +kernel
theorem dX0_lengthsOf_69 : decode cX0_lengthsOf 69 = .ok (.if_icmp .lt 5, 3) := by decide +kernel
theorem dX0_lengthsOf_72 : decode cX0_lengthsOf 72 = .ok (.iconst 0, 1) := by decide +kernel
theorem dX0_lengthsOf_73 : decode cX0_lengthsOf 73 = .ok (.ireturn, 1) := by decide +kernel
theorem dX0_lengthsOf_74 : decode cX0_lengthsOf 74 = .ok (.iload_n 1, 1) := by decide +kernel
theorem dX0_lengthsOf_75 : decode cX0_lengthsOf 75 = .ok (.iconst 2, 1) := by decide +kernel
theorem dX0_lengthsOf_76 : decode cX0_lengthsOf 76 = .ok (.irem, 1) := by decide +kernel
theorem dX0_lengthsOf_77 : decode cX0_lengthsOf 77 = .ok (.istore 7, 2) := by decide +kernel
theorem dX0_lengthsOf_79 : decode cX0_lengthsOf 79 = .ok (.aload_n 0, 1) := by decide +kernel
theorem dX0_lengthsOf_80 : decode cX0_lengthsOf 80 = .ok (.getfield 24, 3) := by decide +kernel
theorem dX0_lengthsOf_83 : decode cX0_lengthsOf 83 = .ok (.iload_n 2, 1) := by decide +kernel
theorem dX0_lengthsOf_84 : decode cX0_lengthsOf 84 = .ok (.iaload, 1) := by decide +kernel
theorem dX0_lengthsOf_85 : decode cX0_lengthsOf 85 = .ok (.istore 8, 2) := by decide +kernel
theorem dX0_lengthsOf_87 : decode cX0_lengthsOf 87 = .ok (.aload_n 0, 1) := by decide +kernel
theorem dX0_lengthsOf_88 : decode cX0_lengthsOf 88 = .ok (.getfield 27, 3) := by decide +kernel
theorem dX0_lengthsOf_91 : decode cX0_lengthsOf 91 = .ok (.iload_n 3, 1) := by decide +kernel
theorem dX0_lengthsOf_92 : decode cX0_lengthsOf 92 = .ok (.iload 4, 2) := by decide +kernel
theorem dX0_lengthsOf_94 : decode cX0_lengthsOf 94 = .ok (.iload_n 1, 1) := by decide +kernel
theorem dX0_lengthsOf_95 : decode cX0_lengthsOf 95 = .ok (.ifCond .ne 10, 3) := by decide +kernel
theorem dX0_lengthsOf_98 : decode cX0_lengthsOf 98 = .ok (.aload_n 0, 1) := by decide +kernel
theorem dX0_lengthsOf_99 : decode cX0_lengthsOf 99 = .ok (.getfield 69, 3) := by decide +kernel
theorem dX0_lengthsOf_102 : decode cX0_lengthsOf 102 = .ok (.goto 7, 3) := by decide +kernel
theorem dX0_lengthsOf_105 : decode cX0_lengthsOf 105 = .ok (.iconst 1, 1) := by decide +kernel
theorem dX0_lengthsOf_106 : decode cX0_lengthsOf 106 = .ok (.iload 7, 2) := by decide +kernel
theorem dX0_lengthsOf_108 : decode cX0_lengthsOf 108 = .ok (.isub, 1) := by decide +kernel
theorem dX0_lengthsOf_109 : decode cX0_lengthsOf 109 = .ok (.aload_n 0, 1) := by decide +kernel
theorem dX0_lengthsOf_110 : decode cX0_lengthsOf 110 = .ok (.getfield 72, 3) := by decide +kernel
theorem dX0_lengthsOf_113 : decode cX0_lengthsOf 113 = .ok (.iload_n 1, 1) := by decide +kernel
theorem dX0_lengthsOf_114 : decode cX0_lengthsOf 114 = .ok (.iadd, 1) := by decide +kernel
theorem dX0_lengthsOf_115 : decode cX0_lengthsOf 115 = .ok (.invokevirtual 127, 3) := by decide +kernel
theorem dX0_lengthsOf_118 : decode cX0_lengthsOf 118 = .ok (.aload_n 0, 1) := by decide +kernel
theorem dX0_lengthsOf_119 : decode cX0_lengthsOf 119 = .ok (.getfield 27, 3) := by decide +kernel
theorem dX0_lengthsOf_122 : decode cX0_lengthsOf 122 = .ok (.iconst 1, 1) := by decide +kernel
theorem dX0_lengthsOf_123 : decode cX0_lengthsOf 123 = .ok (.iload 7, 2) := by decide +kernel
theorem dX0_lengthsOf_125 : decode cX0_lengthsOf 125 = .ok (.iload 8, 2) := by decide +kernel
theorem dX0_lengthsOf_127 : decode cX0_lengthsOf 127 = .ok (.aload_n 0, 1) := by decide +kernel
theorem dX0_lengthsOf_128 : decode cX0_lengthsOf 128 = .ok (.getfield 27, 3) := by decide +kernel
theorem dX0_lengthsOf_131 : decode cX0_lengthsOf 131 = .ok (.iload 8, 2) := by decide +kernel
theorem dX0_lengthsOf_133 : decode cX0_lengthsOf 133 = .ok (.invokevirtual 131, 3) := by decide +kernel
theorem dX0_lengthsOf_136 : decode cX0_lengthsOf 136 = .ok (.invokevirtual 134, 3) := by decide +kernel
theorem dX0_lengthsOf_139 : decode cX0_lengthsOf 139 = .ok (.istore 9, 2) := by decide +kernel
theorem dX0_lengthsOf_141 : decode cX0_lengthsOf 141 = .ok (.aload_n 0, 1) := by decide +kernel
theorem dX0_lengthsOf_142 : decode cX0_lengthsOf 142 = .ok (.getfield 31, 3) := by decide +kernel
theorem dX0_lengthsOf_145 : decode cX0_lengthsOf 145 = .ok (.iload 6, 2) := by decide +kernel
theorem dX0_lengthsOf_147 : decode cX0_lengthsOf 147 = .ok (.iload 9, 2) := by decide +kernel
theorem dX0_lengthsOf_149 : decode cX0_lengthsOf 149 = .ok (.invokevirtual 137, 3) := by decide +kernel
theorem dX0_lengthsOf_152 : decode cX0_lengthsOf 152 = .ok (.iload 9, 2) := by decide +kernel
theorem dX0_lengthsOf_154 : decode cX0_lengthsOf 154 = .ok (.ireturn, 1) := by decide +kernel
theorem dX0_isKnownGood_0 : decode cX0_isKnownGood 0 = .ok (.iconst 0, 1) := by decide +kernel
theorem dX0_isKnownGood_1 : decode cX0_isKnownGood 1 = .ok (.istore_n 2, 1) := by decide +kernel
theorem dX0_isKnownGood_2 : decode cX0_isKnownGood 2 = .ok (.iload_n 2, 1) := by decide +kernel
theorem dX0_isKnownGood_3 : decode cX0_isKnownGood 3 = .ok (.aload_n 0, 1) := by decide +kernel
theorem dX0_isKnownGood_4 : decode cX0_isKnownGood 4 = .ok (.getfield 18, 3) := by decide +kernel
theorem dX0_isKnownGood_7 : decode cX0_isKnownGood 7 = .ok (.iload_n 1, 1) := by decide +kernel
theorem dX0_isKnownGood_8 : decode cX0_isKnownGood 8 = .ok (.iaload, 1) := by decide +kernel
theorem dX0_isKnownGood_9 : decode cX0_isKnownGood 9 = .ok (.if_icmp .ge 98, 3) := by decide +kernel
theorem dX0_isKnownGood_12 : decode cX0_isKnownGood 12 = .ok (.iload_n 2, 1) := by decide +kernel
theorem dX0_isKnownGood_13 : decode cX0_isKnownGood 13 = .ok (.bipush 8, 2) := by decide +kernel
theorem dX0_isKnownGood_15 : decode cX0_isKnownGood 15 = .ok (.if_icmp .ge 92, 3) := by decide +kernel
theorem dX0_isKnownGood_18 : decode cX0_isKnownGood 18 = .ok (.iconst 1, 1) := by decide +kernel
theorem dX0_isKnownGood_19 : decode cX0_isKnownGood 19 = .ok (.istore_n 3, 1) := by decide +kernel
theorem dX0_isKnownGood_20 : decode cX0_isKnownGood 20 = .ok (.iconst 0, 1) := by decide +kernel
theorem dX0_isKnownGood_21 : decode cX0_isKnownGood 21 = .ok (.istore 4, 2) := by decide +kernel
theorem dX0_isKnownGood_23 : decode cX0_isKnownGood 23 = .ok (.iload 4, 2) := by decide +kernel
theorem dX0_isKnownGood_25 : decode cX0_isKnownGood 25 = .ok (.bipush 25, 2) := by decide +kernel
theorem dX0_isKnownGood_27 : decode cX0_isKnownGood 27 = .ok (.if_icmp .ge 68, 3) := by decide +kernel
theorem dX0_isKnownGood_30 : decode cX0_isKnownGood 30 = .ok (.iload_n 3, 1) := by decide +kernel
theorem dX0_isKnownGood_31 : decode cX0_isKnownGood 31 = .ok (.ifCond .eq 64, 3) := by decide +kernel
theorem dX0_isKnownGood_34 : decode cX0_isKnownGood 34 = .ok (.iload_n 1, 1) := by decide +kernel
theorem dX0_isKnownGood_35 : decode cX0_isKnownGood 35 = .ok (.bipush 8, 2) := by decide +kernel
theorem dX0_isKnownGood_37 : decode cX0_isKnownGood 37 = .ok (.imul, 1) := by decide +kernel
theorem dX0_isKnownGood_38 : decode cX0_isKnownGood 38 = .ok (.iload_n 2, 1) := by decide +kernel
theorem dX0_isKnownGood_39 : decode cX0_isKnownGood 39 = .ok (.iadd, 1) := by decide +kernel
theorem dX0_isKnownGood_40 : decode cX0_isKnownGood 40 = .ok (.bipush 25, 2) := by decide +kernel
theorem dX0_isKnownGood_42 : decode cX0_isKnownGood 42 = .ok (.imul, 1) := by decide +kernel
theorem dX0_isKnownGood_43 : decode cX0_isKnownGood 43 = .ok (.iload 4, 2) := by decide +kernel
theorem dX0_isKnownGood_45 : decode cX0_isKnownGood 45 = .ok (.iadd, 1) := by decide +kernel
theorem dX0_isKnownGood_46 : decode cX0_isKnownGood 46 = .ok (.istore 5, 2) := by decide +kernel
theorem dX0_isKnownGood_48 : decode cX0_isKnownGood 48 = .ok (.iload 5, 2) := by decide +kernel
theorem dX0_isKnownGood_50 : decode cX0_isKnownGood 50 = .ok (.aload_n 0, 1) := by decide +kernel
theorem dX0_isKnownGood_51 : decode cX0_isKnownGood 51 = .ok (.getfield 15, 3) := by decide +kernel
theorem dX0_isKnownGood_54 : decode cX0_isKnownGood 54 = .ok (.arraylength, 1) := by decide +kernel
theorem dX0_isKnownGood_55 : decode cX0_isKnownGood 55 = .ok (.if_icmp .ge 32, 3) := by decide +kernel
theorem dX0_isKnownGood_58 : decode cX0_isKnownGood 58 = .ok (.aload_n 0, 1) := by decide +kernel
theorem dX0_isKnownGood_59 : decode cX0_isKnownGood 59 = .ok (.getfield 15, 3) := by decide +kernel
theorem dX0_isKnownGood_62 : decode cX0_isKnownGood 62 = .ok (.iload 5, 2) := by decide +kernel
theorem dX0_isKnownGood_64 : decode cX0_isKnownGood 64 = .ok (.iaload, 1) := by decide +kernel
theorem dX0_isKnownGood_65 : decode cX0_isKnownGood 65 = .ok (.aload_n 0, 1) := by decide +kernel
theorem dX0_isKnownGood_66 : decode cX0_isKnownGood 66 = .ok (.getfield 9, 3) := by decide +kernel
theorem dX0_isKnownGood_69 : decode cX0_isKnownGood 69 = .ok (.iload_n 1, 1) := by decide +kernel
theorem dX0_isKnownGood_70 : decode cX0_isKnownGood 70 = .ok (.bipush 25, 2) := by decide +kernel
theorem dX0_isKnownGood_72 : decode cX0_isKnownGood 72 = .ok (.imul, 1) := by decide +kernel
theorem dX0_isKnownGood_73 : decode cX0_isKnownGood 73 = .ok (.iload 4, 2) := by decide +kernel
theorem dX0_isKnownGood_75 : decode cX0_isKnownGood 75 = .ok (.iadd, 1) := by decide +kernel
theorem dX0_isKnownGood_76 : decode cX0_isKnownGood 76 = .ok (.iaload, 1) := by decide +kernel
theorem dX0_isKnownGood_77 : decode cX0_isKnownGood 77 = .ok (.iconst (-1), 1) := by decide +kernel
theorem dX0_isKnownGood_78 : decode cX0_isKnownGood 78 = .ok (.ixor, 1) := by decide +kernel
theorem dX0_isKnownGood_79 : decode cX0_isKnownGood 79 = .ok (.iand, 1) := by decide +kernel
theorem dX0_isKnownGood_80 : decode cX0_isKnownGood 80 = .ok (.ifCond .ne 7, 3) := by decide +kernel
theorem dX0_isKnownGood_83 : decode cX0_isKnownGood 83 = .ok (.iconst 1, 1) := by decide +kernel
theorem dX0_isKnownGood_84 : decode cX0_isKnownGood 84 = .ok (.goto 4, 3) := by decide +kernel
theorem dX0_isKnownGood_87 : decode cX0_isKnownGood 87 = .ok (.iconst 0, 1) := by decide +kernel
theorem dX0_isKnownGood_88 : decode cX0_isKnownGood 88 = .ok (.istore_n 3, 1) := by decide +kernel
theorem dX0_isKnownGood_89 : decode cX0_isKnownGood 89 = .ok (.iinc 4 1, 3) := by decide +kernel
theorem dX0_isKnownGood_92 : decode cX0_isKnownGood 92 = .ok (.goto (-69), 3) := by decide +kernel
theorem dX0_isKnownGood_95 : decode cX0_isKnownGood 95 = .ok (.iload_n 3, 1) := by decide +kernel
theorem dX0_isKnownGood_96 : decode cX0_isKnownGood 96 = .ok (.ifCond .eq 5, 3) := by decide +kernel
theorem dX0_isKnownGood_99 : decode cX0_isKnownGood 99 = .ok (.iconst 1, 1) := by decide +kernel
theorem dX0_isKnownGood_100 : decode cX0_isKnownGood 100 = .ok (.ireturn, 1) := by decide +kernel
theorem dX0_isKnownGood_101 : decode cX0_isKnownGood 101 = .ok (.iinc 2 1, 3) := by decide +kernel
theorem dX0_isKnownGood_104 : decode cX0_isKnownGood 104 = .ok (.goto (-102), 3) := by decide +kernel
theorem dX0_isKnownGood_107 : decode cX0_isKnownGood 107 = .ok (.iconst 0, 1) := by decide +kernel
theorem dX0_isKnownGood_108 : decode cX0_isKnownGood 108 = .ok (.ireturn, 1) := by decide +kernel
theorem dX0_rememberGood_0 : decode cX0_rememberGood 0 = .ok (.iload_n 1, 1) := by decide +kernel
theorem dX0_rememberGood_1 : decode cX0_rememberGood 1 = .ok (.bipush 8, 2) := by decide +kernel
theorem dX0_rememberGood_3 : decode cX0_rememberGood 3 = .ok (.imul, 1) := by decide +kernel
theorem dX0_rememberGood_4 : decode cX0_rememberGood 4 = .ok (.aload_n 0, 1) := by decide +kernel
theorem dX0_rememberGood_5 : decode cX0_rememberGood 5 = .ok (.getfield 18, 3) := by decide +kernel
theorem dX0_rememberGood_8 : decode cX0_rememberGood 8 = .ok (.iload_n 1, 1) := by decide +kernel
theorem dX0_rememberGood_9 : decode cX0_rememberGood 9 = .ok (.iaload, 1) := by decide +kernel
theorem dX0_rememberGood_10 : decode cX0_rememberGood 10 = .ok (.iadd, 1) := by decide +kernel
theorem dX0_rememberGood_11 : decode cX0_rememberGood 11 = .ok (.bipush 25, 2) := by decide +kernel
theorem dX0_rememberGood_13 : decode cX0_rememberGood 13 = .ok (.imul, 1) := by decide +kernel
theorem dX0_rememberGood_14 : decode cX0_rememberGood 14 = .ok (.istore_n 2, 1) := by decide +kernel
theorem dX0_rememberGood_15 : decode cX0_rememberGood 15 = .ok (.aload_n 0, 1) := by decide +kernel
theorem dX0_rememberGood_16 : decode cX0_rememberGood 16 = .ok (.getfield 18, 3) := by decide +kernel
theorem dX0_rememberGood_19 : decode cX0_rememberGood 19 = .ok (.iload_n 1, 1) := by decide +kernel
theorem dX0_rememberGood_20 : decode cX0_rememberGood 20 = .ok (.iaload, 1) := by decide +kernel
theorem dX0_rememberGood_21 : decode cX0_rememberGood 21 = .ok (.bipush 8, 2) := by decide +kernel
theorem dX0_rememberGood_23 : decode cX0_rememberGood 23 = .ok (.if_icmp .ge 43, 3) := by decide +kernel
theorem dX0_rememberGood_26 : decode cX0_rememberGood 26 = .ok (.iload_n 2, 1) := by decide +kernel
theorem dX0_rememberGood_27 : decode cX0_rememberGood 27 = .ok (.bipush 25, 2) := by decide +kernel
theorem dX0_rememberGood_29 : decode cX0_rememberGood 29 = .ok (.iadd, 1) := by decide +kernel
theorem dX0_rememberGood_30 : decode cX0_rememberGood 30 = .ok (.aload_n 0, 1) := by decide +kernel
theorem dX0_rememberGood_31 : decode cX0_rememberGood 31 = .ok (.getfield 15, 3) := by decide +kernel
theorem dX0_rememberGood_34 : decode cX0_rememberGood 34 = .ok (.arraylength, 1) := by decide +kernel
theorem dX0_rememberGood_35 : decode cX0_rememberGood 35 = .ok (.if_icmp .gt 31, 3) := by decide +kernel
theorem dX0_rememberGood_38 : decode cX0_rememberGood 38 = .ok (.aload_n 0, 1) := by decide +kernel
theorem dX0_rememberGood_39 : decode cX0_rememberGood 39 = .ok (.getfield 9, 3) := by decide +kernel
theorem dX0_rememberGood_42 : decode cX0_rememberGood 42 = .ok (.iload_n 1, 1) := by decide +kernel
theorem dX0_rememberGood_43 : decode cX0_rememberGood 43 = .ok (.bipush 25, 2) := by decide +kernel
theorem dX0_rememberGood_45 : decode cX0_rememberGood 45 = .ok (.imul, 1) := by decide +kernel
theorem dX0_rememberGood_46 : decode cX0_rememberGood 46 = .ok (.aload_n 0, 1) := by decide +kernel
theorem dX0_rememberGood_47 : decode cX0_rememberGood 47 = .ok (.getfield 15, 3) := by decide +kernel
theorem dX0_rememberGood_50 : decode cX0_rememberGood 50 = .ok (.iload_n 2, 1) := by decide +kernel
theorem dX0_rememberGood_51 : decode cX0_rememberGood 51 = .ok (.bipush 25, 2) := by decide +kernel
theorem dX0_rememberGood_53 : decode cX0_rememberGood 53 = .ok (.invokestatic 141, 3) := by decide +kernel
theorem dX0_rememberGood_56 : decode cX0_rememberGood 56 = .ok (.aload_n 0, 1) := by decide +kernel
theorem dX0_rememberGood_57 : decode cX0_rememberGood 57 = .ok (.getfield 18, 3) := by decide +kernel
theorem dX0_rememberGood_60 : decode cX0_rememberGood 60 = .ok (.iload_n 1, 1) := by decide +kernel
theorem dX0_rememberGood_61 : decode cX0_rememberGood 61 = .ok (.dup2, 1) := by decide +kernel
theorem dX0_rememberGood_62 : decode cX0_rememberGood 62 = .ok (.iaload, 1) := by decide +kernel
theorem dX0_rememberGood_63 : decode cX0_rememberGood 63 = .ok (.iconst 1, 1) := by decide +kernel
theorem dX0_rememberGood_64 : decode cX0_rememberGood 64 = .ok (.iadd, 1) := by decide +kernel
theorem dX0_rememberGood_65 : decode cX0_rememberGood 65 = .ok (.iastore, 1) := by decide +kernel
theorem dX0_rememberGood_66 : decode cX0_rememberGood 66 = .ok (.return_, 1) := by decide +kernel
theorem dX1_init_0 : decode cX1_init 0 = .ok (.aload_n 0, 1) := by decide +kernel
theorem dX1_init_1 : decode cX1_init 1 = .ok (.invokespecial 3, 3) := by decide +kernel
theorem dX1_init_4 : decode cX1_init 4 = .ok (.aload_n 0, 1) := by decide +kernel
theorem dX1_init_5 : decode cX1_init 5 = .ok (.bipush 12, 2) := by decide +kernel
theorem dX1_init_7 : decode cX1_init 7 = .ok (.newarray .int, 2) := by decide +kernel
theorem dX1_init_9 : decode cX1_init 9 = .ok (.putfield 9, 3) := by decide +kernel
theorem dX1_init_12 : decode cX1_init 12 = .ok (.aload_n 0, 1) := by decide +kernel
theorem dX1_init_13 : decode cX1_init 13 = .ok (.bipush 12, 2) := by decide +kernel
theorem dX1_init_15 : decode cX1_init 15 = .ok (.newarray .int, 2) := by decide +kernel
theorem dX1_init_17 : decode cX1_init 17 = .ok (.putfield 15, 3) := by decide +kernel
theorem dX1_init_20 : decode cX1_init 20 = .ok (.aload_n 0, 1) := by decide +kernel
theorem dX1_init_21 : decode cX1_init 21 = .ok (.bipush 12, 2) := by decide +kernel
theorem dX1_init_23 : decode cX1_init 23 = .ok (.newarray .int, 2) := by decide +kernel
theorem dX1_init_25 : decode cX1_init 25 = .ok (.putfield 18, 3) := by decide +kernel
theorem dX1_init_28 : decode cX1_init 28 = .ok (.aload_n 0, 1) := by decide +kernel
theorem dX1_init_29 : decode cX1_init 29 = .ok (.bipush 13, 2) := by decide +kernel
theorem dX1_init_31 : decode cX1_init 31 = .ok (.newarray .int, 2) := by decide +kernel
theorem dX1_init_33 : decode cX1_init 33 = .ok (.putfield 21, 3) := by decide +kernel
theorem dX1_init_36 : decode cX1_init 36 = .ok (.aload_n 0, 1) := by decide +kernel
theorem dX1_init_37 : decode cX1_init 37 = .ok (.aload_n 1, 1) := by decide +kernel
theorem dX1_init_38 : decode cX1_init 38 = .ok (.putfield 24, 3) := by decide +kernel
theorem dX1_init_41 : decode cX1_init 41 = .ok (.aload_n 0, 1) := by decide +kernel
theorem dX1_init_42 : decode cX1_init 42 = .ok (.aload_n 2, 1) := by decide +kernel
theorem dX1_init_43 : decode cX1_init 43 = .ok (.putfield 28, 3) := by decide +kernel
theorem dX1_init_46 : decode cX1_init 46 = .ok (.return_, 1) := by decide +kernel
theorem dX1_begin_0 : decode cX1_begin 0 = .ok (.aload_n 0, 1) := by decide +kernel
theorem dX1_begin_1 : decode cX1_begin 1 = .ok (.iload_n 1, 1) := by decide +kernel
theorem dX1_begin_2 : decode cX1_begin 2 = .ok (.putfield 32, 3) := by decide +kernel
theorem dX1_begin_5 : decode cX1_begin 5 = .ok (.aload_n 0, 1) := by decide +kernel
theorem dX1_begin_6 : decode cX1_begin 6 = .ok (.iload_n 2, 1) := by decide +kernel
theorem dX1_begin_7 : decode cX1_begin 7 = .ok (.putfield 36, 3) := by decide +kernel
theorem dX1_begin_10 : decode cX1_begin 10 = .ok (.aload_n 0, 1) := by decide +kernel
theorem dX1_begin_11 : decode cX1_begin 11 = .ok (.iconst 0, 1) := by decide +kernel
theorem dX1_begin_12 : decode cX1_begin 12 = .ok (.iload_n 3, 1) := by decide +kernel
theorem dX1_begin_13 : decode cX1_begin 13 = .ok (.bipush 12, 2) := by decide +kernel
theorem dX1_begin_15 : decode cX1_begin 15 = .ok (.invokestatic 39, 3) := by decide +kernel
theorem dX1_begin_18 : decode cX1_begin 18 = .ok (.invokestatic 45, 3) := by decide +kernel
theorem dX1_begin_21 : decode cX1_begin 21 = .ok (.putfield 48, 3) := by decide +kernel
theorem dX1_begin_24 : decode cX1_begin 24 = .ok (.aload_n 0, 1) := by decide +kernel
theorem dX1_begin_25 : decode cX1_begin 25 = .ok (.getfield 24, 3) := by decide +kernel
theorem dX1_begin_28 : decode cX1_begin 28 = .ok (.iload_n 1, 1) := by decide +kernel
theorem dX1_begin_29 : decode cX1_begin 29 = .ok (.invokevirtual 51, 3) := by decide +kernel
theorem dX1_begin_32 : decode cX1_begin 32 = .ok (.istore 4, 2) := by decide +kernel
theorem dX1_begin_34 : decode cX1_begin 34 = .ok (.aload_n 0, 1) := by decide +kernel
theorem dX1_begin_35 : decode cX1_begin 35 = .ok (.iload 4, 2) := by decide +kernel
theorem dX1_begin_37 : decode cX1_begin 37 = .ok (.bipush 32, 2) := by decide +kernel
theorem dX1_begin_39 : decode cX1_begin 39 = .ok (.iand, 1) := by decide +kernel
theorem dX1_begin_40 : decode cX1_begin 40 = .ok (.ifCond .eq 7, 3) := by decide +kernel
theorem dX1_begin_43 : decode cX1_begin 43 = .ok (.iconst 1, 1) := by decide +kernel
theorem dX1_begin_44 : decode cX1_begin 44 = .ok (.goto 4, 3) := by decide +kernel
theorem dX1_begin_47 : decode cX1_begin 47 = .ok (.iconst 0, 1) := by decide +kernel
theorem dX1_begin_48 : decode cX1_begin 48 = .ok (.putfield 57, 3) := by decide +kernel
theorem dX1_begin_51 : decode cX1_begin 51 = .ok (.aload_n 0, 1) := by decide +kernel
theorem dX1_begin_52 : decode cX1_begin 52 = .ok (.aload_n 0, 1) := by decide +kernel
theorem dX1_begin_53 : decode cX1_begin 53 = .ok (.getfield 57, 3) := by decide +kernel
theorem dX1_begin_56 : decode cX1_begin 56 = .ok (.ifCond .ne 11, 3) := by decide +kernel
theorem dX1_begin_59 : decode cX1_begin 59 = .ok (.iload 4, 2) := by decide +kernel
theorem dX1_begin_61 : decode cX1_begin 61 = .ok (.bipush 16, 2) := by decide +kernel
theorem dX1_begin_63 : decode cX1_begin 63 = .ok (.iand, 1) := by decide +kernel
theorem dX1_begin_64 : decode cX1_begin 64 = .ok (.ifCond .eq 7, 3) := by decide +kernel
theorem dX1_begin_67 : decode cX1_begin 67 = .ok (.iconst 1, 1) := by decide +kernel
theorem dX1_begin_68 : decode cX1_begin 68 = .ok (.goto 4, 3) := by decide +kernel
theorem dX1_begin_71 : decode cX1_begin 71 = .ok (.iconst 0, 1) := by decide +kernel
theorem dX1_begin_72 : decode cX1_begin 72 = .ok (.putfield 61, 3) := by decide +kernel
theorem dX1_begin_75 : decode cX1_begin 75 = .ok (.return_, 1) := by decide +kernel
theorem dX1_tell_0 : decode cX1_tell 0 = .ok (.iload_n 1, 1) := by decide +kernel
theorem dX1_tell_1 : decode cX1_tell 1 = .ok (.ifCond .lt 9, 3) := by decide +kernel
theorem dX1_tell_4 : decode cX1_tell 4 = .ok (.iload_n 1, 1) := by decide +kernel
theorem dX1_tell_5 : decode cX1_tell 5 = .ok (.bipush 12, 2) := by decide +kernel
theorem dX1_tell_7 : decode cX1_tell 7 = .ok (.if_icmp .lt 4, 3) := by decide +kernel
theorem dX1_tell_10 : decode cX1_tell 10 = .ok (.return_, 1) := by decide +kernel
theorem dX1_tell_11 : decode cX1_tell 11 = .ok (.iconst 0, 1) := by decide +kernel
theorem dX1_tell_12 : decode cX1_tell 12 = .ok (.istore 5, 2) := by decide +kernel
theorem dX1_tell_14 : decode cX1_tell 14 = .ok (.iconst 1, 1) := by decide +kernel
theorem dX1_tell_15 : decode cX1_tell 15 = .ok (.istore 6, 2) := by decide +kernel
theorem dX1_tell_17 : decode cX1_tell 17 = .ok (.iload 6, 2) := by decide +kernel
theorem dX1_tell_19 : decode cX1_tell 19 = .ok (.bipush 24, 2) := by decide +kernel
theorem dX1_tell_21 : decode cX1_tell 21 = .ok (.if_icmp .gt 41, 3) := by decide +kernel
theorem dX1_tell_24 : decode cX1_tell 24 = .ok (.iload 5, 2) := by decide +kernel
theorem dX1_tell_26 : decode cX1_tell 26 = .ok (.aload_n 0, 1) := by decide +kernel
theorem dX1_tell_27 : decode cX1_tell 27 = .ok (.getfield 36, 3) := by decide +kernel
theorem dX1_tell_30 : decode cX1_tell 30 = .ok (.ifCond .le 22, 3) := by decide +kernel
theorem dX1_tell_33 : decode cX1_tell 33 = .ok (.iload 6, 2) := by decide +kernel
theorem dX1_tell_35 : decode cX1_tell 35 = .ok (.aload_n 0, 1) := by decide +kernel
theorem dX1_tell_36 : decode cX1_tell 36 = .ok (.getfield 36, 3) := by decide +kernel
theorem dX1_tell_39 : decode cX1_tell 39 = .ok (.irem, 1) := by decide +kernel
theorem dX1_tell_40 : decode cX1_tell 40 = .ok (.iload 4, 2) := by decide +kernel
theorem dX1_tell_42 : decode cX1_tell 42 = .ok (.if_icmp .ne 10, 3) := by decide +kernel
theorem dX1_tell_45 : decode cX1_tell 45 = .ok (.iconst 1, 1) := by decide +kernel
theorem dX1_tell_46 : decode cX1_tell 46 = .ok (.iload 6, 2) := by decide +kernel
theorem dX1_tell_48 : decode cX1_tell 48 = .ok (.ishl, 1) := by decide +kernel
theorem dX1_tell_49 : decode cX1_tell 49 = .ok (.goto 4, 3) := by decide +kernel
theorem dX1_tell_52 : decode cX1_tell 52 = .ok (.iconst 0, 1) := by decide +kernel
theorem dX1_tell_53 : decode cX1_tell 53 = .ok (.ior, 1) := by decide +kernel
theorem dX1_tell_54 : decode cX1_tell 54 = .ok (.istore 5, 2) := by decide +kernel
theorem dX1_tell_56 : decode cX1_tell 56 = .ok (.iinc 6 1, 3) := by decide +kernel
theorem dX1_tell_59 : decode cX1_tell 59 = .ok (.goto (-42), 3) := by decide +kernel
theorem dX1_tell_62 : decode cX1_tell 62 = .ok (.aload_n 0, 1) := by decide +kernel
theorem dX1_tell_63 : decode cX1_tell 63 = .ok (.getfield 9, 3) := by decide +kernel
theorem dX1_tell_66 : decode cX1_tell 66 = .ok (.iload_n 1, 1) := by decide +kernel
theorem dX1_tell_67 : decode cX1_tell 67 = .ok (.iload_n 2, 1) := by decide +kernel
theorem dX1_tell_68 : decode cX1_tell 68 = .ok (.iastore, 1) := by decide +kernel
theorem dX1_tell_69 : decode cX1_tell 69 = .ok (.aload_n 0, 1) := by decide +kernel
theorem dX1_tell_70 : decode cX1_tell 70 = .ok (.getfield 15, 3) := by decide +kernel
theorem dX1_tell_73 : decode cX1_tell 73 = .ok (.iload_n 1, 1) := by decide +kernel
theorem dX1_tell_74 : decode cX1_tell 74 = .ok (.iload_n 3, 1) := by decide +kernel
theorem dX1_tell_75 : decode cX1_tell 75 = .ok (.iastore, 1) := by decide +kernel
theorem dX1_tell_76 : decode cX1_tell 76 = .ok (.aload_n 0, 1) := by decide +kernel
theorem dX1_tell_77 : decode cX1_tell 77 = .ok (.getfield 18, 3) := by decide +kernel
theorem dX1_tell_80 : decode cX1_tell 80 = .ok (.iload_n 1, 1) := by decide +kernel
theorem dX1_tell_81 : decode cX1_tell 81 = .ok (.aload_n 0, 1) := by decide +kernel
theorem dX1_tell_82 : decode cX1_tell 82 = .ok (.getfield 24, 3) := by decide +kernel
theorem dX1_tell_85 : decode cX1_tell 85 = .ok (.iload_n 3, 1) := by decide +kernel
theorem dX1_tell_86 : decode cX1_tell 86 = .ok (.invokevirtual 64, 3) := by decide +kernel
theorem dX1_tell_89 : decode cX1_tell 89 = .ok (.iload 5, 2) := by decide +kernel
theorem dX1_tell_91 : decode cX1_tell 91 = .ok (.iand, 1) := by decide +kernel
theorem dX1_tell_92 : decode cX1_tell 92 = .ok (.iastore, 1) := by decide +kernel
theorem dX1_tell_93 : decode cX1_tell 93 = .ok (.return_, 1) := by decide +kernel
theorem dX1_answer_0 : decode cX1_answer 0 = .ok (.aload_n 0, 1) := by decide +kernel
theorem dX1_answer_1 : decode cX1_answer 1 = .ok (.getfield 28, 3) := by decide +kernel
theorem dX1_answer_4 : decode cX1_answer 4 = .ok (.invokevirtual 67, 3) := by decide +kernel
theorem dX1_answer_7 : decode cX1_answer 7 = .ok (.aload_n 0, 1) := by decide +kernel
theorem dX1_answer_8 : decode cX1_answer 8 = .ok (.aload_n 1, 1) := by decide +kernel
theorem dX1_answer_9 : decode cX1_answer 9 = .ok (.aload_n 1, 1) := by decide +kernel
theorem dX1_answer_10 : decode cX1_answer 10 = .ok (.getfield 72, 3) := by decide +kernel
theorem dX1_answer_13 : decode cX1_answer 13 = .ok (.iconst 1, 1) := by decide +kernel
theorem dX1_answer_14 : decode cX1_answer 14 = .ok (.isub, 1) := by decide +kernel
theorem dX1_answer_15 : decode cX1_answer 15 = .ok (.invokevirtual 77, 3) := by decide +kernel
theorem dX1_answer_18 : decode cX1_answer 18 = .ok (.putfield 80, 3) := by decide +kernel
theorem dX1_answer_21 : decode cX1_answer 21 = .ok (.aload_n 0, 1) := by decide +kernel
theorem dX1_answer_22 : decode cX1_answer 22 = .ok (.aload_n 1, 1) := by decide +kernel
theorem dX1_answer_23 : decode cX1_answer 23 = .ok (.getfield 72, 3) := by decide +kernel
theorem dX1_answer_26 : decode cX1_answer 26 = .ok (.putfield 83, 3) := by decide +kernel
theorem dX1_answer_29 : decode cX1_answer 29 = .ok (.aload_n 0, 1) := by decide +kernel
theorem dX1_answer_30 : decode cX1_answer 30 = .ok (.iconst 0, 1) := by decide +kernel
theorem dX1_answer_31 : decode cX1_answer 31 = .ok (.putfield 86, 3) := by decide +kernel
theorem dX1_answer_34 : decode cX1_answer 34 = .ok (.aload_n 0, 1) := by decide +kernel
theorem dX1_answer_35 : decode cX1_answer 35 = .ok (.invokevirtual 89, 3) := by decide +kernel
theorem dX1_answer_38 : decode cX1_answer 38 = .ok (.aload_n 1, 1) := by decide +kernel
theorem dX1_answer_39 : decode cX1_answer 39 = .ok (.aload_n 1, 1) := by decide +kernel
theorem dX1_answer_40 : decode cX1_answer 40 = .ok (.getfield 72, 3) := by decide +kernel
theorem dX1_answer_43 : decode cX1_answer 43 = .ok (.iconst 1, 1) := by decide +kernel
theorem dX1_answer_44 : decode cX1_answer 44 = .ok (.isub, 1) := by decide +kernel
theorem dX1_answer_45 : decode cX1_answer 45 = .ok (.invokevirtual 92, 3) := by decide +kernel
theorem dX1_answer_48 : decode cX1_answer 48 = .ok (.istore_n 3, 1) := by decide +kernel
theorem dX1_answer_49 : decode cX1_answer 49 = .ok (.aload_n 1, 1) := by decide +kernel
theorem dX1_answer_50 : decode cX1_answer 50 = .ok (.aload_n 1, 1) := by decide +kernel
theorem dX1_answer_51 : decode cX1_answer 51 = .ok (.getfield 72, 3) := by decide +kernel
theorem dX1_answer_54 : decode cX1_answer 54 = .ok (.iconst 2, 1) := by decide +kernel
theorem dX1_answer_55 : decode cX1_answer 55 = .ok (.isub, 1) := by decide +kernel
theorem dX1_answer_56 : decode cX1_answer 56 = .ok (.invokevirtual 92, 3) := by decide +kernel
theorem dX1_answer_59 : decode cX1_answer 59 = .ok (.istore 4, 2) := by decide +kernel
theorem dX1_answer_61 : decode cX1_answer 61 = .ok (.aload_n 0, 1) := by decide +kernel
theorem dX1_answer_62 : decode cX1_answer 62 = .ok (.iconst 0, 1) := by decide +kernel
theorem dX1_answer_63 : decode cX1_answer 63 = .ok (.iload_n 3, 1) := by decide +kernel
theorem dX1_answer_64 : decode cX1_answer 64 = .ok (.iload 4, 2) := by decide +kernel
theorem dX1_answer_66 : decode cX1_answer 66 = .ok (.invokevirtual 95, 3) := by decide +kernel
theorem dX1_answer_69 : decode cX1_answer 69 = .ok (.istore 5, 2) := by decide +kernel
theorem dX1_answer_71 : decode cX1_answer 71 = .ok (.iload_n 2, 1) := by decide +kernel
theorem dX1_answer_72 : decode cX1_answer 72 = .ok (.bipush 20, 2) := by decide +kernel
theorem dX1_answer_74 : decode cX1_answer 74 = .ok (.if_icmp .ne 8, 3) := by decide +kernel
theorem dX1_answer_77 : decode cX1_answer 77 = .ok (.aload_n 0, 1) := by decide +kernel
theorem dX1_answer_78 : decode cX1_answer 78 = .ok (.getfield 86, 3) := by decide +kernel
theorem dX1_answer_81 : decode cX1_answer 81 = .ok (.ireturn, 1) := by decide +kernel
theorem dX1_answer_82 : decode cX1_answer 82 = .ok (.iload 5, 2) := by decide +kernel
theorem dX1_answer_84 : decode cX1_answer 84 = .ok (.ifCond .ge 6, 3) := by decide +kernel
theorem dX1_answer_87 : decode cX1_answer 87 = .ok (.bipush (-2), 2) := by decide +kernel
theorem dX1_answer_89 : decode cX1_answer 89 = .ok (.ireturn, 1) := by decide +kernel
theorem dX1_answer_90 : decode cX1_answer 90 = .ok (.iload_n 2, 1) := by decide +kernel
theorem dX1_answer_91 : decode cX1_answer 91 = .ok (.iconst (-1), 1) := by decide +kernel
theorem dX1_answer_92 : decode cX1_answer 92 = .ok (.if_icmp .ne 8, 3) := by decide +kernel
theorem dX1_answer_95 : decode cX1_answer 95 = .ok (.iload 5, 2) := by decide +kernel
theorem dX1_answer_97 : decode cX1_answer 97 = .ok (.goto 11, 3) := by decide +kernel
theorem dX1_answer_100 : decode cX1_answer 100 = .ok (.aload_n 0, 1) := by decide +kernel
theorem dX1_answer_101 : decode cX1_answer 101 = .ok (.iload_n 2, 1) := by decide +kernel
theorem dX1_answer_102 : decode cX1_answer 102 = .ok (.iload_n 3, 1) := by decide +kernel
theorem dX1_answer_103 : decode cX1_answer 103 = .ok (.iload 4, 2) := by decide +kernel
theorem dX1_answer_105 : decode cX1_answer 105 = .ok (.invokevirtual 99, 3) := by decide +kernel
theorem dX1_answer_108 : decode cX1_answer 108 = .ok (.ireturn, 1) := by decide +kernel
theorem dX1_sumLeast_0 : decode cX1_sumLeast 0 = .ok (.bipush 12, 2) := by decide +kernel
theorem dX1_sumLeast_2 : decode cX1_sumLeast 2 = .ok (.istore_n 1, 1) := by decide +kernel
theorem dX1_sumLeast_3 : decode cX1_sumLeast 3 = .ok (.iload_n 1, 1) := by decide +kernel
theorem dX1_sumLeast_4 : decode cX1_sumLeast 4 = .ok (.ifCond .lt 50, 3) := by decide +kernel
theorem dX1_sumLeast_7 : decode cX1_sumLeast 7 = .ok (.aload_n 0, 1) := by decide +kernel
theorem dX1_sumLeast_8 : decode cX1_sumLeast 8 = .ok (.getfield 21, 3) := by decide +kernel
theorem dX1_sumLeast_11 : decode cX1_sumLeast 11 = .ok (.iload_n 1, 1) := by decide +kernel
theorem dX1_sumLeast_12 : decode cX1_sumLeast 12 = .ok (.iload_n 1, 1) := by decide +kernel
theorem dX1_sumLeast_13 : decode cX1_sumLeast 13 = .ok (.aload_n 0, 1) := by decide +kernel
theorem dX1_sumLeast_14 : decode cX1_sumLeast 14 = .ok (.getfield 48, 3) := by decide +kernel
theorem dX1_sumLeast_17 : decode cX1_sumLeast 17 = .ok (.if_icmp .ge 29, 3) := by decide +kernel
theorem dX1_sumLeast_20 : decode cX1_sumLeast 20 = .ok (.aload_n 0, 1) := by decide +kernel
theorem dX1_sumLeast_21 : decode cX1_sumLeast 21 = .ok (.getfield 21, 3) := by decide +kernel
theorem dX1_sumLeast_24 : decode cX1_sumLeast 24 = .ok (.iload_n 1, 1) := by decide +kernel
theorem dX1_sumLeast_25 : decode cX1_sumLeast 25 = .ok (.iconst 1, 1) := by decide +kernel
theorem dX1_sumLeast_26 : decode cX1_sumLeast 26 = .ok (.iadd, 1) := by decide +kernel
theorem dX1_sumLeast_27 : decode cX1_sumLeast 27 = .ok (.iaload, 1) := by decide +kernel
theorem dX1_sumLeast_28 : decode cX1_sumLeast 28 = .ok (.iconst 0, 1) := by decide +kernel
theorem dX1_sumLeast_29 : decode cX1_sumLeast 29 = .ok (.aload_n 0, 1) := by decide +kernel
theorem dX1_sumLeast_30 : decode cX1_sumLeast 30 = .ok (.getfield 18, 3) := by decide +kernel
theorem dX1_sumLeast_33 : decode cX1_sumLeast 33 = .ok (.iload_n 1, 1) := by decide +kernel
theorem dX1_sumLeast_34 : decode cX1_sumLeast 34 = .ok (.iaload, 1) := by decide +kernel
theorem dX1_sumLeast_35 : decode cX1_sumLeast 35 = .ok (.iconst 0, 1) := by decide +kernel
theorem dX1_sumLeast_36 : decode cX1_sumLeast 36 = .ok (.invokestatic 102, 3) := by decide +kernel
theorem dX1_sumLeast_39 : decode cX1_sumLeast 39 = .ok (.invokestatic 45, 3) := by decide +kernel
theorem dX1_sumLeast_42 : decode cX1_sumLeast 42 = .ok (.iadd, 1) := by decide +kernel
theorem dX1_sumLeast_43 : decode cX1_sumLeast 43 = .ok (.goto 4, 3) := by decide +kernel
theorem dX1_sumLeast_46 : decode cX1_sumLeast 46 = .ok (.iconst 0, 1) := by decide +kernel
theorem dX1_sumLeast_47 : decode cX1_sumLeast 47 = .ok (.iastore, 1) := by decide +kernel
theorem dX1_sumLeast_48 : decode cX1_sumLeast 48 = .ok (.iinc 1 (-1), 3) := by decide +kernel
theorem dX1_sumLeast_51 : decode cX1_sumLeast 51 = .ok (.goto (-48), 3) := by decide +kernel
theorem dX1_sumLeast_54 : decode cX1_sumLeast 54 = .ok (.return_, 1) := by decide +kernel
theorem dX1_keyOf_0 : decode cX1_keyOf 0 = .ok (.iload_n 1, 1) := by decide +kernel
theorem dX1_keyOf_1 : decode cX1_keyOf 1 = .ok (.sipush 625, 3) := by decide +kernel
theorem dX1_keyOf_4 : decode cX1_keyOf 4 = .ok (.imul, 1) := by decide +kernel
theorem dX1_keyOf_5 : decode cX1_keyOf 5 = .ok (.aload_n 0, 1) := by decide +kernel
theorem dX1_keyOf_6 : decode cX1_keyOf 6 = .ok (.getfield 61, 3) := by decide +kernel
theorem dX1_keyOf_9 : decode cX1_keyOf 9 = .ok (.ifCond .eq 10, 3) := by decide +kernel
theorem dX1_keyOf_12 : decode cX1_keyOf 12 = .ok (.iload_n 2, 1) := by decide +kernel
theorem dX1_keyOf_13 : decode cX1_keyOf 13 = .ok (.bipush 25, 2) := by decide +kernel
theorem dX1_keyOf_15 : decode cX1_keyOf 15 = .ok (.imul, 1) := by decide +kernel
theorem dX1_keyOf_16 : decode cX1_keyOf 16 = .ok (.goto 4, 3) := by decide +kernel
theorem dX1_keyOf_19 : decode cX1_keyOf 19 = .ok (.iconst 0, 1) := by decide +kernel
theorem dX1_keyOf_20 : decode cX1_keyOf 20 = .ok (.iadd, 1) := by decide +kernel
theorem dX1_keyOf_21 : decode cX1_keyOf 21 = .ok (.aload_n 0, 1) := by decide +kernel
theorem dX1_keyOf_22 : decode cX1_keyOf 22 = .ok (.getfield 57, 3) := by decide +kernel
theorem dX1_keyOf_25 : decode cX1_keyOf 25 = .ok (.ifCond .eq 7, 3) := by decide +kernel
theorem dX1_keyOf_28 : decode cX1_keyOf 28 = .ok (.iload_n 3, 1) := by decide +kernel
theorem dX1_keyOf_29 : decode cX1_keyOf 29 = .ok (.goto 4, 3) := by decide +kernel
theorem dX1_keyOf_32 : decode cX1_keyOf 32 = .ok (.iconst 0, 1) := by decide +kernel
theorem dX1_keyOf_33 : decode cX1_keyOf 33 = .ok (.iadd, 1) := by decide +kernel
theorem dX1_keyOf_34 : decode cX1_keyOf 34 = .ok (.ireturn, 1) := by decide +kernel
theorem dX1_fewest_0 : decode cX1_fewest 0 = .ok (.aload_n 0, 1) := by decide +kernel
theorem dX1_fewest_1 : decode cX1_fewest 1 = .ok (.aload_n 0, 1) := by decide +kernel
theorem dX1_fewest_2 : decode cX1_fewest 2 = .ok (.getfield 86, 3) := by decide +kernel
theorem dX1_fewest_5 : decode cX1_fewest 5 = .ok (.iload_n 1, 1) := by decide +kernel
theorem dX1_fewest_6 : decode cX1_fewest 6 = .ok (.invokestatic 45, 3) := by decide +kernel
theorem dX1_fewest_9 : decode cX1_fewest 9 = .ok (.putfield 86, 3) := by decide +kernel
theorem dX1_fewest_12 : decode cX1_fewest 12 = .ok (.iload_n 1, 1) := by decide +kernel
theorem dX1_fewest_13 : decode cX1_fewest 13 = .ok (.ifCond .lt 17, 3) := by decide +kernel
theorem dX1_fewest_16 : decode cX1_fewest 16 = .ok (.iload_n 1, 1) := by decide +kernel
theorem dX1_fewest_17 : decode cX1_fewest 17 = .ok (.aload_n 0, 1) := by decide +kernel
theorem dX1_fewest_18 : decode cX1_fewest 18 = .ok (.getfield 48, 3) := by decide +kernel
theorem dX1_fewest_21 : decode cX1_fewest 21 = .ok (.if_icmp .ge 9, 3) := by decide +kernel
theorem dX1_fewest_24 : decode cX1_fewest 24 = .ok (.iload_n 1, 1) := by decide +kernel
theorem dX1_fewest_25 : decode cX1_fewest 25 = .ok (.bipush 12, 2) := by decide +kernel
theorem dX1_fewest_27 : decode cX1_fewest 27 = .ok (.if_icmp .lt 5, 3) := by decide +kernel
theorem dX1_fewest_30 : decode cX1_fewest 30 = .ok (.iconst 0, 1) := by decide +kernel
theorem dX1_fewest_31 : decode cX1_fewest 31 = .ok (.ireturn, 1) := by decide +kernel
theorem dX1_fewest_32 : decode cX1_fewest 32 = .ok (.aload_n 0, 1) := by decide +kernel
theorem dX1_fewest_33 : decode cX1_fewest 33 = .ok (.iload_n 1, 1) := by decide +kernel
theorem dX1_fewest_34 : decode cX1_fewest 34 = .ok (.iload_n 2, 1) := by decide +kernel
theorem dX1_fewest_35 : decode cX1_fewest 35 = .ok (.iload_n 3, 1) := by decide +kernel
theorem dX1_fewest_36 : decode cX1_fewest 36 = .ok (.invokevirtual 105, 3) := by decide +kernel
theorem dX1_fewest_39 : decode cX1_fewest 39 = .ok (.istore 4, 2) := by decide +kernel
theorem dX1_fewest_41 : decode cX1_fewest 41 = .ok (.aload_n 0, 1) := by decide +kernel
theorem dX1_fewest_42 : decode cX1_fewest 42 = .ok (.getfield 28, 3) := by decide +kernel
theorem dX1_fewest_45 : decode cX1_fewest 45 = .ok (.iload 4, 2) := by decide +kernel
theorem dX1_fewest_47 : decode cX1_fewest 47 = .ok (.invokevirtual 108, 3) := by decide +kernel
theorem dX1_fewest_50 : decode cX1_fewest 50 = .ok (.ifCond .eq 15, 3) := by decide +kernel
theorem dX1_fewest_53 : decode cX1_fewest 53 = .ok (.aload_n 0, 1) := by decide +kernel
theorem dX1_fewest_54 : decode cX1_fewest 54 = .ok (.getfield 28, 3) := by decide +kernel
theorem dX1_fewest_57 : decode cX1_fewest 57 = .ok (.iload 4, 2) := by decide +kernel
theorem dX1_fewest_59 : decode cX1_fewest 59 = .ok (.invokevirtual 112, 3) := by decide +kernel
theorem dX1_fewest_62 : decode cX1_fewest 62 = .ok (.iconst 5, 1) := by decide +kernel
theorem dX1_fewest_63 : decode cX1_fewest 63 = .ok (.ishr, 1) := by decide +kernel
theorem dX1_fewest_64 : decode cX1_fewest 64 = .ok (.ireturn, 1) := by decide +kernel
theorem dX1_fewest_65 : decode cX1_fewest 65 = .ok (.aload_n 0, 1) := by decide +kernel
theorem dX1_fewest_66 : decode cX1_fewest 66 = .ok (.getfield 24, 3) := by decide +kernel
theorem dX1_fewest_69 : decode cX1_fewest 69 = .ok (.iload_n 2, 1) := by decide +kernel
theorem dX1_fewest_70 : decode cX1_fewest 70 = .ok (.iload_n 3, 1) := by decide +kernel
theorem dX1_fewest_71 : decode cX1_fewest 71 = .ok (.iload_n 1, 1) := by decide +kernel
theorem dX1_fewest_72 : decode cX1_fewest 72 = .ok (.ifCond .ne 10, 3) := by decide +kernel
theorem dX1_fewest_75 : decode cX1_fewest 75 = .ok (.aload_n 0, 1) := by decide +kernel
theorem dX1_fewest_76 : decode cX1_fewest 76 = .ok (.getfield 80, 3) := by decide +kernel
theorem dX1_fewest_79 : decode cX1_fewest 79 = .ok (.goto 11, 3) := by decide +kernel
theorem dX1_fewest_82 : decode cX1_fewest 82 = .ok (.aload_n 0, 1) := by decide +kernel
theorem dX1_fewest_83 : decode cX1_fewest 83 = .ok (.getfield 9, 3) := by decide +kernel
theorem dX1_fewest_86 : decode cX1_fewest 86 = .ok (.iload_n 1, 1) := by decide +kernel
theorem dX1_fewest_87 : decode cX1_fewest 87 = .ok (.iconst 1, 1) := by decide +kernel
theorem dX1_fewest_88 : decode cX1_fewest 88 = .ok (.isub, 1) := by decide +kernel
theorem dX1_fewest_89 : decode cX1_fewest 89 = .ok (.iaload, 1) := by decide +kernel
theorem dX1_fewest_90 : decode cX1_fewest 90 = .ok (.aload_n 0, 1) := by decide +kernel
theorem dX1_fewest_91 : decode cX1_fewest 91 = .ok (.getfield 83, 3) := by decide +kernel
theorem dX1_fewest_94 : decode cX1_fewest 94 = .ok (.iload_n 1, 1) := by decide +kernel
theorem dX1_fewest_95 : decode cX1_fewest 95 = .ok (.iadd, 1) := by decide +kernel
theorem dX1_fewest_96 : decode cX1_fewest 96 = .ok (.invokevirtual 115, 3) := by decide +kernel
theorem dX1_fewest_99 : decode cX1_fewest 99 = .ok (.aload_n 0, 1) := by decide +kernel
theorem dX1_fewest_100 : decode cX1_fewest 100 = .ok (.getfield 24, 3) := by decide +kernel
theorem dX1_fewest_103 : decode cX1_fewest 103 = .ok (.aload_n 0, 1) := by decide +kernel
theorem dX1_fewest_104 : decode cX1_fewest 104 = .ok (.getfield 32, 3) := by decide +kernel
theorem dX1_fewest_107 : decode cX1_fewest 107 = .ok (.aload_n 0, 1) := by decide +kernel
theorem dX1_fewest_108 : decode cX1_fewest 108 = .ok (.getfield 9, 3) := by decide +kernel
theorem dX1_fewest_111 : decode cX1_fewest 111 = .ok (.iload_n 1, 1) := by decide +kernel
theorem dX1_fewest_112 : decode cX1_fewest 112 = .ok (.iaload, 1) := by decide +kernel
theorem dX1_fewest_113 : decode cX1_fewest 113 = .ok (.aload_n 0, 1) := by decide +kernel
theorem dX1_fewest_114 : decode cX1_fewest 114 = .ok (.getfield 15, 3) := by decide +kernel
theorem dX1_fewest_117 : decode cX1_fewest 117 = .ok (.iload_n 1, 1) := by decide +kernel
theorem dX1_fewest_118 : decode cX1_fewest 118 = .ok (.iaload, 1) := by decide +kernel
theorem dX1_fewest_119 : decode cX1_fewest 119 = .ok (.aload_n 0, 1) := by decide +kernel
theorem dX1_fewest_120 : decode cX1_fewest 120 = .ok (.getfield 18, 3) := by decide +kernel
theorem dX1_fewest_123 : decode cX1_fewest 123 = .ok (.iload_n 1, 1) := by decide +kernel
theorem dX1_fewest_124 : decode cX1_fewest 124 = .ok (.iaload, 1) := by decide +kernel
theorem dX1_fewest_125 : decode cX1_fewest 125 = .ok (.invokevirtual 119, 3) := by decide +kernel
theorem dX1_fewest_128 : decode cX1_fewest 128 = .ok (.istore 5, 2) := by decide +kernel
theorem dX1_fewest_130 : decode cX1_fewest 130 = .ok (.iconst (-1), 1) := by decide +kernel
theorem dX1_fewest_131 : decode cX1_fewest 131 = .ok (.istore 6, 2) := by decide +kernel
theorem dX1_fewest_133 : decode cX1_fewest 133 = .ok (.iconst 0, 1) := by decide +kernel
theorem dX1_fewest_134 : decode cX1_fewest 134 = .ok (.istore 7, 2) := by decide +kernel
theorem dX1_fewest_136 : decode cX1_fewest 136 = .ok (.iconst 1, 1) := by decide +kernel
theorem dX1_fewest_137 : decode cX1_fewest 137 = .ok (.istore 8, 2) := by decide +kernel
theorem dX1_fewest_139 : decode cX1_fewest 139 = .ok (.iload 8, 2) := by decide +kernel
theorem dX1_fewest_141 : decode cX1_fewest 141 = .ok (.bipush 24, 2) := by decide +kernel
theorem dX1_fewest_143 : decode cX1_fewest 143 = .ok (.if_icmp .gt 90, 3) := by decide +kernel
theorem dX1_fewest_146 : decode cX1_fewest 146 = .ok (.iload 6, 2) := by decide +kernel
theorem dX1_fewest_148 : decode cX1_fewest 148 = .ok (.ifCond .lt 22, 3) := by decide +kernel
theorem dX1_fewest_151 : decode cX1_fewest 151 = .ok (.iload 8, 2) := by decide +kernel
theorem dX1_fewest_153 : decode cX1_fewest 153 = .ok (.aload_n 0, 1) := by decide +kernel
theorem dX1_fewest_154 : decode cX1_fewest 154 = .ok (.getfield 21, 3) := by decide +kernel
theorem dX1_fewest_157 : decode cX1_fewest 157 = .ok (.iload_n 1, 1) := by decide +kernel
theorem dX1_fewest_158 : decode cX1_fewest 158 = .ok (.iconst 1, 1) := by decide +kernel
theorem dX1_fewest_159 : decode cX1_fewest 159 = .ok (.iadd, 1) := by decide +kernel
theorem dX1_fewest_160 : decode cX1_fewest 160 = .ok (.iaload, 1) := by decide +kernel
theorem dX1_fewest_161 : decode cX1_fewest 161 = .ok (.iadd, 1) := by decide +kernel
theorem dX1_fewest_162 : decode cX1_fewest 162 = .ok (.iload 6, 2) := by decide +kernel
theorem dX1_fewest_164 : decode cX1_fewest 164 = .ok (.if_icmp .lt 6, 3) := by decide +kernel
theorem dX1_fewest_167 : decode cX1_fewest 167 = .ok (.goto 66, 3) := by decide +kernel
theorem dX1_fewest_170 : decode cX1_fewest 170 = .ok (.iload 5, 2) := by decide +kernel
theorem dX1_fewest_172 : decode cX1_fewest 172 = .ok (.iload 8, 2) := by decide +kernel
theorem dX1_fewest_174 : decode cX1_fewest 174 = .ok (.ishr, 1) := by decide +kernel
theorem dX1_fewest_175 : decode cX1_fewest 175 = .ok (.iconst 1, 1) := by decide +kernel
theorem dX1_fewest_176 : decode cX1_fewest 176 = .ok (.iand, 1) := by decide +kernel
theorem dX1_fewest_177 : decode cX1_fewest 177 = .ok (.ifCond .eq 16, 3) := by decide +kernel
theorem dX1_fewest_180 : decode cX1_fewest 180 = .ok (.aload_n 0, 1) := by decide +kernel
theorem dX1_fewest_181 : decode cX1_fewest 181 = .ok (.iload_n 1, 1) := by decide +kernel
theorem dX1_fewest_182 : decode cX1_fewest 182 = .ok (.iconst 1, 1) := by decide +kernel
theorem dX1_fewest_183 : decode cX1_fewest 183 = .ok (.iadd, 1) := by decide +kernel
theorem dX1_fewest_184 : decode cX1_fewest 184 = .ok (.iload 8, 2) := by decide +kernel
theorem dX1_fewest_186 : decode cX1_fewest 186 = .ok (.iload_n 2, 1) := by decide +kernel
theorem dX1_fewest_187 : decode cX1_fewest 187 = .ok (.invokevirtual 95, 3) := by decide +kernel
theorem dX1_fewest_190 : decode cX1_fewest 190 = .ok (.goto 4, 3) := by decide +kernel
theorem dX1_fewest_193 : decode cX1_fewest 193 = .ok (.iconst (-1), 1) := by decide +kernel
theorem dX1_fewest_194 : decode cX1_fewest 194 = .ok (.istore 9, 2) := by decide +kernel
theorem dX1_fewest_196 : decode cX1_fewest 196 = .ok (.iload 9, 2) := by decide +kernel
theorem dX1_fewest_198 : decode cX1_fewest 198 = .ok (.ifCond .lt 29, 3) := by decide +kernel
theorem dX1_fewest_201 : decode cX1_fewest 201 = .ok (.iload 6, 2) := by decide +kernel
theorem dX1_fewest_203 : decode cX1_fewest 203 = .ok (.ifCond .lt 13, 3) := by decide +kernel
theorem dX1_fewest_206 : decode cX1_fewest 206 = .ok (.iload 8, 2) := by decide +kernel
theorem dX1_fewest_208 : decode cX1_fewest 208 = .ok (.iload 9, 2) := by decide +kernel
theorem dX1_fewest_210 : decode cX1_fewest 210 = .ok (.iadd, 1) := by decide +kernel
theorem dX1_fewest_211 : decode cX1_fewest 211 = .ok (.iload 6, 2) := by decide +kernel
theorem dX1_fewest_213 : decode cX1_fewest 213 = .ok (.if_icmp .ge 14, 3) := by decide +kernel
theorem dX1_fewest_216 : decode cX1_fewest 216 = .ok (.iload 8, 2) := by decide +kernel
theorem dX1_fewest_218 : decode cX1_fewest 218 = .ok (.iload 9, 2) := by decide +kernel
theorem dX1_fewest_220 : decode cX1_fewest 220 = .ok (.iadd, 1) := by decide +kernel
theorem dX1_fewest_221 : decode cX1_fewest 221 = .ok (.istore 6, 2) := by decide +kernel
theorem dX1_fewest_223 : decode cX1_fewest 223 = .ok (.iload 8, 2) := by decide +kernel
theorem dX1_fewest_225 : decode cX1_fewest 225 = .ok (.istore 7, 2) := by decide +kernel
theorem dX1_fewest_227 : decode cX1_fewest 227 = .ok (.iinc 8 1, 3) := by decide +kernel
theorem dX1_fewest_230 : decode cX1_fewest 230 = .ok (.goto (-91), 3) := by decide +kernel
theorem dX1_fewest_233 : decode cX1_fewest 233 = .ok (.aload_n 0, 1) := by decide +kernel
theorem dX1_fewest_234 : decode cX1_fewest 234 = .ok (.getfield 28, 3) := by decide +kernel
theorem dX1_fewest_237 : decode cX1_fewest 237 = .ok (.iload 4, 2) := by decide +kernel
theorem dX1_fewest_239 : decode cX1_fewest 239 = .ok (.iload 6, 2) := by decide +kernel
theorem dX1_fewest_241 : decode cX1_fewest 241 = .ok (.iconst 5, 1) := by decide +kernel
theorem dX1_fewest_242 : decode cX1_fewest 242 = .ok (.ishl, 1) := by decide +kernel
theorem dX1_fewest_243 : decode cX1_fewest 243 = .ok (.iload 7, 2) := by decide +kernel
theorem dX1_fewest_245 : decode cX1_fewest 245 = .ok (.ior, 1) := by decide +kernel
theorem dX1_fewest_246 : decode cX1_fewest 246 = .ok (.invokevirtual 123, 3) := by decide +kernel
theorem dX1_fewest_249 : decode cX1_fewest 249 = .ok (.iload 6, 2) := by decide +kernel
theorem dX1_fewest_251 : decode cX1_fewest 251 = .ok (.ireturn, 1) := by decide +kernel
theorem dX1_lengthAt_0 : decode cX1_lengthAt 0 = .ok (.iload_n 2, 1) := by decide +kernel
theorem dX1_lengthAt_1 : decode cX1_lengthAt 1 = .ok (.istore 4, 2) := by decide +kernel
theorem dX1_lengthAt_3 : decode cX1_lengthAt 3 = .ok (.iload_n 3, 1) := by decide +kernel
theorem dX1_lengthAt_4 : decode cX1_lengthAt 4 = .ok (.istore 5, 2) := by decide +kernel
theorem dX1_lengthAt_6 : decode cX1_lengthAt 6 = .ok (.iconst 0, 1) := by decide +kernel
theorem dX1_lengthAt_7 : decode cX1_lengthAt 7 = .ok (.istore 6, 2) := by decide +kernel
theorem dX1_lengthAt_9 : decode cX1_lengthAt 9 = .ok (.iload 6, 2) := by decide +kernel
theorem dX1_lengthAt_11 : decode cX1_lengthAt 11 = .ok (.iload_n 1, 1) := by decide +kernel
theorem dX1_lengthAt_12 : decode cX1_lengthAt 12 = .ok (.if_icmp .gt 48, 3) := by decide +kernel
theorem dX1_lengthAt_15 : decode cX1_lengthAt 15 = .ok (.iload 6, 2) := by decide +kernel
theorem dX1_lengthAt_17 : decode cX1_lengthAt 17 = .ok (.aload_n 0, 1) := by decide +kernel
theorem dX1_lengthAt_18 : decode cX1_lengthAt 18 = .ok (.getfield 48, 3) := by decide +kernel
theorem dX1_lengthAt_21 : decode cX1_lengthAt 21 = .ok (.if_icmp .ge 39, 3) := by decide +kernel
theorem dX1_lengthAt_24 : decode cX1_lengthAt 24 = .ok (.aload_n 0, 1) := by decide +kernel
theorem dX1_lengthAt_25 : decode cX1_lengthAt 25 = .ok (.getfield 28, 3) := by decide +kernel
theorem dX1_lengthAt_28 : decode cX1_lengthAt 28 = .ok (.aload_n 0, 1) := by decide +kernel
theorem dX1_lengthAt_29 : decode cX1_lengthAt 29 = .ok (.iload 6, 2) := by decide +kernel
theorem dX1_lengthAt_31 : decode cX1_lengthAt 31 = .ok (.iload 4, 2) := by decide +kernel
theorem dX1_lengthAt_33 : decode cX1_lengthAt 33 = .ok (.iload 5, 2) := by decide +kernel
theorem dX1_lengthAt_35 : decode cX1_lengthAt 35 = .ok (.invokevirtual 105, 3) := by decide +kernel
theorem dX1_lengthAt_38 : decode cX1_lengthAt 38 = .ok (.invokevirtual 112, 3) := by decide +kernel
theorem dX1_lengthAt_41 : decode cX1_lengthAt 41 = .ok (.bipush 31, 2) := by decide +kernel
theorem dX1_lengthAt_43 : decode cX1_lengthAt 43 = .ok (.iand, 1) := by decide +kernel
theorem dX1_lengthAt_44 : decode cX1_lengthAt 44 = .ok (.istore 7, 2) := by decide +kernel
theorem dX1_lengthAt_46 : decode cX1_lengthAt 46 = .ok (.iload 4, 2) := by decide +kernel
theorem dX1_lengthAt_48 : decode cX1_lengthAt 48 = .ok (.istore 5, 2) := by decide +kernel
theorem dX1_lengthAt_50 : decode cX1_lengthAt 50 = .ok (.iload 7, 2) := by decide +kernel
theorem dX1_lengthAt_52 : decode cX1_lengthAt 52 = .ok (.istore 4, 2) := by decide +kernel
theorem dX1_lengthAt_54 : decode cX1_lengthAt 54 = .ok (.iinc 6 1, 3) := by decide +kernel
theorem dX1_lengthAt_57 : decode cX1_lengthAt 57 = .ok (.goto (-48), 3) := by decide +kernel
theorem dX1_lengthAt_60 : decode cX1_lengthAt 60 = .ok (.iload 4, 2) := by decide +kernel
theorem dX1_lengthAt_62 : decode cX1_lengthAt 62 = .ok (.ireturn, 1) := by decide +kernel
theorem dX5_init_0 : decode cX5_init 0 = .ok (.aload_n 0, 1) := by decide +kernel
theorem dX5_init_1 : decode cX5_init 1 = .ok (.invokespecial 3, 3) := by decide +kernel
theorem dX5_init_4 : decode cX5_init 4 = .ok (.aload_n 0, 1) := by decide +kernel
theorem dX5_init_5 : decode cX5_init 5 = .ok (.bipush 6, 2) := by decide +kernel
theorem dX5_init_7 : decode cX5_init 7 = .ok (.newarray .int, 2) := by decide +kernel
theorem dX5_init_9 : decode cX5_init 9 = .ok (.putfield 9, 3) := by decide +kernel
theorem dX5_init_12 : decode cX5_init 12 = .ok (.aload_n 0, 1) := by decide +kernel
theorem dX5_init_13 : decode cX5_init 13 = .ok (.bipush 50, 2) := by decide +kernel
theorem dX5_init_15 : decode cX5_init 15 = .ok (.newarray .int, 2) := by decide +kernel
theorem dX5_init_17 : decode cX5_init 17 = .ok (.putfield 15, 3) := by decide +kernel
theorem dX5_init_20 : decode cX5_init 20 = .ok (.aload_n 0, 1) := by decide +kernel
theorem dX5_init_21 : decode cX5_init 21 = .ok (.aload_n 1, 1) := by decide +kernel
theorem dX5_init_22 : decode cX5_init 22 = .ok (.putfield 18, 3) := by decide +kernel
theorem dX5_init_25 : decode cX5_init 25 = .ok (.aload_n 0, 1) := by decide +kernel
theorem dX5_init_26 : decode cX5_init 26 = .ok (.aload_n 2, 1) := by decide +kernel
theorem dX5_init_27 : decode cX5_init 27 = .ok (.putfield 22, 3) := by decide +kernel
theorem dX5_init_30 : decode cX5_init 30 = .ok (.return_, 1) := by decide +kernel
theorem dX5_answer_0 : decode cX5_answer 0 = .ok (.aload_n 0, 1) := by decide +kernel
theorem dX5_answer_1 : decode cX5_answer 1 = .ok (.iload_n 1, 1) := by decide +kernel
theorem dX5_answer_2 : decode cX5_answer 2 = .ok (.iload_n 2, 1) := by decide +kernel
theorem dX5_answer_3 : decode cX5_answer 3 = .ok (.invokevirtual 26, 3) := by decide +kernel
theorem dX5_answer_6 : decode cX5_answer 6 = .ok (.iconst 0, 1) := by decide +kernel
theorem dX5_answer_7 : decode cX5_answer 7 = .ok (.istore 4, 2) := by decide +kernel
theorem dX5_answer_9 : decode cX5_answer 9 = .ok (.iconst 2, 1) := by decide +kernel
theorem dX5_answer_10 : decode cX5_answer 10 = .ok (.istore 5, 2) := by decide +kernel
theorem dX5_answer_12 : decode cX5_answer 12 = .ok (.iload 5, 2) := by decide +kernel
theorem dX5_answer_14 : decode cX5_answer 14 = .ok (.bipush 6, 2) := by decide +kernel
theorem dX5_answer_16 : decode cX5_answer 16 = .ok (.if_icmp .gt 36, 3) := by decide +kernel
theorem dX5_answer_19 : decode cX5_answer 19 = .ok (.iload 4, 2) := by decide +kernel
theorem dX5_answer_21 : decode cX5_answer 21 = .ok (.ifCond .ne 31, 3) := by decide +kernel
theorem dX5_answer_24 : decode cX5_answer 24 = .ok (.aload_n 0, 1) := by decide +kernel
theorem dX5_answer_25 : decode cX5_answer 25 = .ok (.iload 5, 2) := by decide +kernel
theorem dX5_answer_27 : decode cX5_answer 27 = .ok (.putfield 30, 3) := by decide +kernel
theorem dX5_answer_30 : decode cX5_answer 30 = .ok (.iload 5, 2) := by decide +kernel
theorem dX5_answer_32 : decode cX5_answer 32 = .ok (.iconst 4, 1) := by decide +kernel
theorem dX5_answer_33 : decode cX5_answer 33 = .ok (.if_icmp .ne 7, 3) := by decide +kernel
theorem dX5_answer_36 : decode cX5_answer 36 = .ok (.aload_n 0, 1) := by decide +kernel
theorem dX5_answer_37 : decode cX5_answer 37 = .ok (.invokevirtual 34, 3) := by decide +kernel
theorem dX5_answer_40 : decode cX5_answer 40 = .ok (.aload_n 0, 1) := by decide +kernel
theorem dX5_answer_41 : decode cX5_answer 41 = .ok (.invokevirtual 37, 3) := by decide +kernel
theorem dX5_answer_44 : decode cX5_answer 44 = .ok (.istore 4, 2) := by decide +kernel
theorem dX5_answer_46 : decode cX5_answer 46 = .ok (.iinc 5 2, 3) := by decide +kernel
theorem dX5_answer_49 : decode cX5_answer 49 = .ok (.goto (-37), 3) := by decide +kernel
theorem dX5_answer_52 : decode cX5_answer 52 = .ok (.iload 4, 2) := by decide +kernel
theorem dX5_answer_54 : decode cX5_answer 54 = .ok (.ifCond .ne 6, 3) := by decide +kernel
theorem dX5_answer_57 : decode cX5_answer 57 = .ok (.bipush (-2), 2) := by decide +kernel
theorem dX5_answer_59 : decode cX5_answer 59 = .ok (.ireturn, 1) := by decide +kernel
theorem dX5_answer_60 : decode cX5_answer 60 = .ok (.iload_n 3, 1) := by decide +kernel
theorem dX5_answer_61 : decode cX5_answer 61 = .ok (.iconst (-1), 1) := by decide +kernel
theorem dX5_answer_62 : decode cX5_answer 62 = .ok (.if_icmp .ne 8, 3) := by decide +kernel
theorem dX5_answer_65 : decode cX5_answer 65 = .ok (.aload_n 0, 1) := by decide +kernel
theorem dX5_answer_66 : decode cX5_answer 66 = .ok (.getfield 30, 3) := by decide +kernel
theorem dX5_answer_69 : decode cX5_answer 69 = .ok (.ireturn, 1) := by decide +kernel
theorem dX5_answer_70 : decode cX5_answer 70 = .ok (.iload_n 3, 1) := by decide +kernel
theorem dX5_answer_71 : decode cX5_answer 71 = .ok (.ifCond .lt 26, 3) := by decide +kernel
theorem dX5_answer_74 : decode cX5_answer 74 = .ok (.iload_n 3, 1) := by decide +kernel
theorem dX5_answer_75 : decode cX5_answer 75 = .ok (.aload_n 0, 1) := by decide +kernel
theorem dX5_answer_76 : decode cX5_answer 76 = .ok (.getfield 30, 3) := by decide +kernel
theorem dX5_answer_79 : decode cX5_answer 79 = .ok (.if_icmp .ge 18, 3) := by decide +kernel
theorem dX5_answer_82 : decode cX5_answer 82 = .ok (.iload_n 3, 1) := by decide +kernel
theorem dX5_answer_83 : decode cX5_answer 83 = .ok (.bipush 6, 2) := by decide +kernel
theorem dX5_answer_85 : decode cX5_answer 85 = .ok (.if_icmp .ge 12, 3) := by decide +kernel
theorem dX5_answer_88 : decode cX5_answer 88 = .ok (.aload_n 0, 1) := by decide +kernel
theorem dX5_answer_89 : decode cX5_answer 89 = .ok (.getfield 9, 3) := by decide +kernel
theorem dX5_answer_92 : decode cX5_answer 92 = .ok (.iload_n 3, 1) := by decide +kernel
theorem dX5_answer_93 : decode cX5_answer 93 = .ok (.iaload, 1) := by decide +kernel
theorem dX5_answer_94 : decode cX5_answer 94 = .ok (.goto 5, 3) := by decide +kernel
theorem dX5_answer_97 : decode cX5_answer 97 = .ok (.bipush (-3), 2) := by decide +kernel
theorem dX5_answer_99 : decode cX5_answer 99 = .ok (.ireturn, 1) := by decide +kernel
theorem dX5_begin_0 : decode cX5_begin 0 = .ok (.aload_n 0, 1) := by decide +kernel
theorem dX5_begin_1 : decode cX5_begin 1 = .ok (.getfield 22, 3) := by decide +kernel
theorem dX5_begin_4 : decode cX5_begin 4 = .ok (.invokevirtual 41, 3) := by decide +kernel
theorem dX5_begin_7 : decode cX5_begin 7 = .ok (.aload_n 0, 1) := by decide +kernel
theorem dX5_begin_8 : decode cX5_begin 8 = .ok (.iload_n 1, 1) := by decide +kernel
theorem dX5_begin_9 : decode cX5_begin 9 = .ok (.putfield 45, 3) := by decide +kernel
theorem dX5_begin_12 : decode cX5_begin 12 = .ok (.aload_n 0, 1) := by decide +kernel
theorem dX5_begin_13 : decode cX5_begin 13 = .ok (.iload_n 2, 1) := by decide +kernel
theorem dX5_begin_14 : decode cX5_begin 14 = .ok (.putfield 48, 3) := by decide +kernel
theorem dX5_begin_17 : decode cX5_begin 17 = .ok (.aload_n 0, 1) := by decide +kernel
theorem dX5_begin_18 : decode cX5_begin 18 = .ok (.getfield 18, 3) := by decide +kernel
theorem dX5_begin_21 : decode cX5_begin 21 = .ok (.iconst 1, 1) := by decide +kernel
theorem dX5_begin_22 : decode cX5_begin 22 = .ok (.invokevirtual 51, 3) := by decide +kernel
theorem dX5_begin_25 : decode cX5_begin 25 = .ok (.istore_n 3, 1) := by decide +kernel
theorem dX5_begin_26 : decode cX5_begin 26 = .ok (.aload_n 0, 1) := by decide +kernel
theorem dX5_begin_27 : decode cX5_begin 27 = .ok (.iload_n 3, 1) := by decide +kernel
theorem dX5_begin_28 : decode cX5_begin 28 = .ok (.bipush 16, 2) := by decide +kernel
theorem dX5_begin_30 : decode cX5_begin 30 = .ok (.iand, 1) := by decide +kernel
theorem dX5_begin_31 : decode cX5_begin 31 = .ok (.ifCond .eq 7, 3) := by decide +kernel
theorem dX5_begin_34 : decode cX5_begin 34 = .ok (.iconst 1, 1) := by decide +kernel
theorem dX5_begin_35 : decode cX5_begin 35 = .ok (.goto 4, 3) := by decide +kernel
theorem dX5_begin_38 : decode cX5_begin 38 = .ok (.iconst 0, 1) := by decide +kernel
theorem dX5_begin_39 : decode cX5_begin 39 = .ok (.putfield 57, 3) := by decide +kernel
theorem dX5_begin_42 : decode cX5_begin 42 = .ok (.aload_n 0, 1) := by decide +kernel
theorem dX5_begin_43 : decode cX5_begin 43 = .ok (.iload_n 3, 1) := by decide +kernel
theorem dX5_begin_44 : decode cX5_begin 44 = .ok (.bipush 32, 2) := by decide +kernel
theorem dX5_begin_46 : decode cX5_begin 46 = .ok (.iand, 1) := by decide +kernel
theorem dX5_begin_47 : decode cX5_begin 47 = .ok (.ifCond .eq 7, 3) := by decide +kernel
theorem dX5_begin_50 : decode cX5_begin 50 = .ok (.iconst 1, 1) := by decide +kernel
theorem dX5_begin_51 : decode cX5_begin 51 = .ok (.goto 4, 3) := by decide +kernel
theorem dX5_begin_54 : decode cX5_begin 54 = .ok (.iconst 0, 1) := by decide +kernel
theorem dX5_begin_55 : decode cX5_begin 55 = .ok (.putfield 61, 3) := by decide +kernel
theorem dX5_begin_58 : decode cX5_begin 58 = .ok (.aload_n 0, 1) := by decide +kernel
theorem dX5_begin_59 : decode cX5_begin 59 = .ok (.getfield 18, 3) := by decide +kernel
theorem dX5_begin_62 : decode cX5_begin 62 = .ok (.iload_n 1, 1) := by decide +kernel
theorem dX5_begin_63 : decode cX5_begin 63 = .ok (.invokevirtual 64, 3) := by decide +kernel
theorem dX5_begin_66 : decode cX5_begin 66 = .ok (.istore 4, 2) := by decide +kernel
theorem dX5_begin_68 : decode cX5_begin 68 = .ok (.iconst 0, 1) := by decide +kernel
theorem dX5_begin_69 : decode cX5_begin 69 = .ok (.istore 5, 2) := by decide +kernel
theorem dX5_begin_71 : decode cX5_begin 71 = .ok (.iload 5, 2) := by decide +kernel
theorem dX5_begin_73 : decode cX5_begin 73 = .ok (.bipush 25, 2) := by decide +kernel
theorem dX5_begin_75 : decode cX5_begin 75 = .ok (.if_icmp .ge 49, 3) := by decide +kernel
theorem dX5_begin_78 : decode cX5_begin 78 = .ok (.aload_n 0, 1) := by decide +kernel
theorem dX5_begin_79 : decode cX5_begin 79 = .ok (.getfield 15, 3) := by decide +kernel
theorem dX5_begin_82 : decode cX5_begin 82 = .ok (.iload 5, 2) := by decide +kernel
theorem dX5_begin_84 : decode cX5_begin 84 = .ok (.iload 4, 2) := by decide +kernel
theorem dX5_begin_86 : decode cX5_begin 86 = .ok (.iload 5, 2) := by decide +kernel
theorem dX5_begin_88 : decode cX5_begin 88 = .ok (.ishr, 1) := by decide +kernel
theorem dX5_begin_89 : decode cX5_begin 89 = .ok (.iconst 1, 1) := by decide +kernel
theorem dX5_begin_90 : decode cX5_begin 90 = .ok (.iand, 1) := by decide +kernel
theorem dX5_begin_91 : decode cX5_begin 91 = .ok (.ifCond .eq 8, 3) := by decide +kernel
theorem dX5_begin_94 : decode cX5_begin 94 = .ok (.iload 4, 2) := by decide +kernel
theorem dX5_begin_96 : decode cX5_begin 96 = .ok (.goto 4, 3) := by decide +kernel
theorem dX5_begin_99 : decode cX5_begin 99 = .ok (.iconst 0, 1) := by decide +kernel
theorem dX5_begin_100 : decode cX5_begin 100 = .ok (.iastore, 1) := by decide +kernel
theorem dX5_begin_101 : decode cX5_begin 101 = .ok (.aload_n 0, 1) := by decide +kernel
theorem dX5_begin_102 : decode cX5_begin 102 = .ok (.getfield 15, 3) := by decide +kernel
theorem dX5_begin_105 : decode cX5_begin 105 = .ok (.bipush 25, 2) := by decide +kernel
theorem dX5_begin_107 : decode cX5_begin 107 = .ok (.iload 5, 2) := by decide +kernel
theorem dX5_begin_109 : decode cX5_begin 109 = .ok (.iadd, 1) := by decide +kernel
theorem dX5_begin_110 : decode cX5_begin 110 = .ok (.aload_n 0, 1) := by decide +kernel
theorem dX5_begin_111 : decode cX5_begin 111 = .ok (.getfield 15, 3) := by decide +kernel
theorem dX5_begin_114 : decode cX5_begin 114 = .ok (.iload 5, 2) := by decide +kernel
theorem dX5_begin_116 : decode cX5_begin 116 = .ok (.iaload, 1) := by decide +kernel
theorem dX5_begin_117 : decode cX5_begin 117 = .ok (.iastore, 1) := by decide +kernel
theorem dX5_begin_118 : decode cX5_begin 118 = .ok (.iinc 5 1, 3) := by decide +kernel
theorem dX5_begin_121 : decode cX5_begin 121 = .ok (.goto (-50), 3) := by decide +kernel
theorem dX5_begin_124 : decode cX5_begin 124 = .ok (.return_, 1) := by decide +kernel
theorem dX5_thinOutAll_0 : decode cX5_thinOutAll 0 = .ok (.iconst 1, 1) := by decide +kernel
theorem dX5_thinOutAll_1 : decode cX5_thinOutAll 1 = .ok (.istore_n 1, 1) := by decide +kernel
theorem dX5_thinOutAll_2 : decode cX5_thinOutAll 2 = .ok (.iconst 0, 1) := by decide +kernel
theorem dX5_thinOutAll_3 : decode cX5_thinOutAll 3 = .ok (.istore_n 2, 1) := by decide +kernel
theorem dX5_thinOutAll_4 : decode cX5_thinOutAll 4 = .ok (.iload_n 2, 1) := by decide +kernel
theorem dX5_thinOutAll_5 : decode cX5_thinOutAll 5 = .ok (.bipush 64, 2) := by decide +kernel
theorem dX5_thinOutAll_7 : decode cX5_thinOutAll 7 = .ok (.if_icmp .ge 47, 3) := by decide +kernel
theorem dX5_thinOutAll_10 : decode cX5_thinOutAll 10 = .ok (.iload_n 1, 1) := by decide +kernel
theorem dX5_thinOutAll_11 : decode cX5_thinOutAll 11 = .ok (.ifCond .eq 43, 3) := by decide +kernel
theorem dX5_thinOutAll_14 : decode cX5_thinOutAll 14 = .ok (.iconst 0, 1) := by decide +kernel
theorem dX5_thinOutAll_15 : decode cX5_thinOutAll 15 = .ok (.istore_n 1, 1) := by decide +kernel
theorem dX5_thinOutAll_16 : decode cX5_thinOutAll 16 = .ok (.iconst 1, 1) := by decide +kernel
theorem dX5_thinOutAll_17 : decode cX5_thinOutAll 17 = .ok (.istore_n 3, 1) := by decide +kernel
theorem dX5_thinOutAll_18 : decode cX5_thinOutAll 18 = .ok (.iload_n 3, 1) := by decide +kernel
theorem dX5_thinOutAll_19 : decode cX5_thinOutAll 19 = .ok (.bipush 25, 2) := by decide +kernel
theorem dX5_thinOutAll_21 : decode cX5_thinOutAll 21 = .ok (.if_icmp .ge 27, 3) := by decide +kernel
theorem dX5_thinOutAll_24 : decode cX5_thinOutAll 24 = .ok (.iload_n 1, 1) := by decide +kernel
theorem dX5_thinOutAll_25 : decode cX5_thinOutAll 25 = .ok (.aload_n 0, 1) := by decide +kernel
theorem dX5_thinOutAll_26 : decode cX5_thinOutAll 26 = .ok (.iconst 0, 1) := by decide +kernel
theorem dX5_thinOutAll_27 : decode cX5_thinOutAll 27 = .ok (.iload_n 3, 1) := by decide +kernel
theorem dX5_thinOutAll_28 : decode cX5_thinOutAll 28 = .ok (.invokevirtual 67, 3) := by decide +kernel
theorem dX5_thinOutAll_31 : decode cX5_thinOutAll 31 = .ok (.ior, 1) := by decide +kernel
theorem dX5_thinOutAll_32 : decode cX5_thinOutAll 32 = .ok (.istore_n 1, 1) := by decide +kernel
theorem dX5_thinOutAll_33 : decode cX5_thinOutAll 33 = .ok (.iload_n 1, 1) := by decide +kernel
theorem dX5_thinOutAll_34 : decode cX5_thinOutAll 34 = .ok (.aload_n 0, 1) := by decide +kernel
theorem dX5_thinOutAll_35 : decode cX5_thinOutAll 35 = .ok (.iconst 1, 1) := by decide +kernel
theorem dX5_thinOutAll_36 : decode cX5_thinOutAll 36 = .ok (.iload_n 3, 1) := by decide +kernel
theorem dX5_thinOutAll_37 : decode cX5_thinOutAll 37 = .ok (.invokevirtual 67, 3) := by decide +kernel
theorem dX5_thinOutAll_40 : decode cX5_thinOutAll 40 = .ok (.ior, 1) := by decide +kernel
theorem dX5_thinOutAll_41 : decode cX5_thinOutAll 41 = .ok (.istore_n 1, 1) := by decide +kernel
theorem dX5_thinOutAll_42 : decode cX5_thinOutAll 42 = .ok (.iinc 3 1, 3) := by decide +kernel
theorem dX5_thinOutAll_45 : decode cX5_thinOutAll 45 = .ok (.goto (-27), 3) := by decide +kernel
theorem dX5_thinOutAll_48 : decode cX5_thinOutAll 48 = .ok (.iinc 2 1, 3) := by decide +kernel
theorem dX5_thinOutAll_51 : decode cX5_thinOutAll 51 = .ok (.goto (-47), 3) := by decide +kernel
theorem dX5_thinOutAll_54 : decode cX5_thinOutAll 54 = .ok (.return_, 1) := by decide +kernel
theorem dX5_thinOutBehind_0 : decode cX5_thinOutBehind 0 = .ok (.iload_n 1, 1) := by decide +kernel
theorem dX5_thinOutBehind_1 : decode cX5_thinOutBehind 1 = .ok (.ifCond .ne 7, 3) := by decide +kernel
theorem dX5_thinOutBehind_4 : decode cX5_thinOutBehind 4 = .ok (.iconst 0, 1) := by decide +kernel
theorem dX5_thinOutBehind_5 : decode cX5_thinOutBehind 5 = .ok (.goto 5, 3) := by decide +kernel
theorem dX5_thinOutBehind_8 : decode cX5_thinOutBehind 8 = .ok (.bipush 25, 2) := by decide +kernel
theorem dX5_thinOutBehind_10 : decode cX5_thinOutBehind 10 = .ok (.istore_n 3, 1) := by decide +kernel
theorem dX5_thinOutBehind_11 : decode cX5_thinOutBehind 11 = .ok (.iload_n 1, 1) := by decide +kernel
theorem dX5_thinOutBehind_12 : decode cX5_thinOutBehind 12 = .ok (.ifCond .ne 8, 3) := by decide +kernel
theorem dX5_thinOutBehind_15 : decode cX5_thinOutBehind 15 = .ok (.bipush 25, 2) := by decide +kernel
theorem dX5_thinOutBehind_17 : decode cX5_thinOutBehind 17 = .ok (.goto 4, 3) := by decide +kernel
theorem dX5_thinOutBehind_20 : decode cX5_thinOutBehind 20 = .ok (.iconst 0, 1) := by decide +kernel
theorem dX5_thinOutBehind_21 : decode cX5_thinOutBehind 21 = .ok (.iload_n 2, 1) := by decide +kernel
theorem dX5_thinOutBehind_22 : decode cX5_thinOutBehind 22 = .ok (.iadd, 1) := by decide +kernel
theorem dX5_thinOutBehind_23 : decode cX5_thinOutBehind 23 = .ok (.istore 4, 2) := by decide +kernel
theorem dX5_thinOutBehind_25 : decode cX5_thinOutBehind 25 = .ok (.iload_n 2, 1) := by decide +kernel
theorem dX5_thinOutBehind_26 : decode cX5_thinOutBehind 26 = .ok (.ifCond .lt 9, 3) := by decide +kernel
theorem dX5_thinOutBehind_29 : decode cX5_thinOutBehind 29 = .ok (.iload_n 2, 1) := by decide +kernel
theorem dX5_thinOutBehind_30 : decode cX5_thinOutBehind 30 = .ok (.bipush 25, 2) := by decide +kernel
theorem dX5_thinOutBehind_32 : decode cX5_thinOutBehind 32 = .ok (.if_icmp .lt 5, 3) := by decide +kernel
theorem dX5_thinOutBehind_35 : decode cX5_thinOutBehind 35 = .ok (.iconst 0, 1) := by decide +kernel
theorem dX5_thinOutBehind_36 : decode cX5_thinOutBehind 36 = .ok (.ireturn, 1) := by decide +kernel
theorem dX5_thinOutBehind_37 : decode cX5_thinOutBehind 37 = .ok (.iconst 0, 1) := by decide +kernel
theorem dX5_thinOutBehind_38 : decode cX5_thinOutBehind 38 = .ok (.istore 5, 2) := by decide +kernel
theorem dX5_thinOutBehind_40 : decode cX5_thinOutBehind 40 = .ok (.iconst 0, 1) := by decide +kernel
theorem dX5_thinOutBehind_41 : decode cX5_thinOutBehind 41 = .ok (.istore 6, 2) := by decide +kernel
theorem dX5_thinOutBehind_43 : decode cX5_thinOutBehind 43 = .ok (.iconst 1, 1) := by decide +kernel
theorem dX5_thinOutBehind_44 : decode cX5_thinOutBehind 44 = .ok (.istore 7, 2) := by decide +kernel
theorem dX5_thinOutBehind_46 : decode cX5_thinOutBehind 46 = .ok (.iload 7, 2) := by decide +kernel
theorem dX5_thinOutBehind_48 : decode cX5_thinOutBehind 48 = .ok (.bipush 25, 2) := by decide +kernel
theorem dX5_thinOutBehind_50 : decode cX5_thinOutBehind 50 = .ok (.if_icmp .ge 75, 3) := by decide +kernel
theorem dX5_thinOutBehind_53 : decode cX5_thinOutBehind 53 = .ok (.aload_n 0, 1) := by decide +kernel
theorem dX5_thinOutBehind_54 : decode cX5_thinOutBehind 54 = .ok (.getfield 15, 3) := by decide +kernel
theorem dX5_thinOutBehind_57 : decode cX5_thinOutBehind 57 = .ok (.iload_n 3, 1) := by decide +kernel
theorem dX5_thinOutBehind_58 : decode cX5_thinOutBehind 58 = .ok (.iload 7, 2) := by decide +kernel
theorem dX5_thinOutBehind_60 : decode cX5_thinOutBehind 60 = .ok (.iadd, 1) := by decide +kernel
theorem dX5_thinOutBehind_61 : decode cX5_thinOutBehind 61 = .ok (.iaload, 1) := by decide +kernel
theorem dX5_thinOutBehind_62 : decode cX5_thinOutBehind 62 = .ok (.iload_n 2, 1) := by decide +kernel
theorem dX5_thinOutBehind_63 : decode cX5_thinOutBehind 63 = .ok (.ishr, 1) := by decide +kernel
theorem dX5_thinOutBehind_64 : decode cX5_thinOutBehind 64 = .ok (.iconst 1, 1) := by decide +kernel
theorem dX5_thinOutBehind_65 : decode cX5_thinOutBehind 65 = .ok (.iand, 1) := by decide +kernel
theorem dX5_thinOutBehind_66 : decode cX5_thinOutBehind 66 = .ok (.ifCond .eq 53, 3) := by decide +kernel
theorem dX5_thinOutBehind_69 : decode cX5_thinOutBehind 69 = .ok (.aload_n 0, 1) := by decide +kernel
theorem dX5_thinOutBehind_70 : decode cX5_thinOutBehind 70 = .ok (.iload_n 1, 1) := by decide +kernel
theorem dX5_thinOutBehind_71 : decode cX5_thinOutBehind 71 = .ok (.iload_n 2, 1) := by decide +kernel
theorem dX5_thinOutBehind_72 : decode cX5_thinOutBehind 72 = .ok (.iload 7, 2) := by decide +kernel
theorem dX5_thinOutBehind_74 : decode cX5_thinOutBehind 74 = .ok (.invokevirtual 71, 3) := by decide +kernel
theorem dX5_thinOutBehind_77 : decode cX5_thinOutBehind 77 = .ok (.aload_n 0, 1) := by decide +kernel
theorem dX5_thinOutBehind_78 : decode cX5_thinOutBehind 78 = .ok (.getfield 15, 3) := by decide +kernel
theorem dX5_thinOutBehind_81 : decode cX5_thinOutBehind 81 = .ok (.iload 4, 2) := by decide +kernel
theorem dX5_thinOutBehind_83 : decode cX5_thinOutBehind 83 = .ok (.iaload, 1) := by decide +kernel
theorem dX5_thinOutBehind_84 : decode cX5_thinOutBehind 84 = .ok (.iand, 1) := by decide +kernel
theorem dX5_thinOutBehind_85 : decode cX5_thinOutBehind 85 = .ok (.istore 8, 2) := by decide +kernel
theorem dX5_thinOutBehind_87 : decode cX5_thinOutBehind 87 = .ok (.iload 6, 2) := by decide +kernel
theorem dX5_thinOutBehind_89 : decode cX5_thinOutBehind 89 = .ok (.iload 8, 2) := by decide +kernel
theorem dX5_thinOutBehind_91 : decode cX5_thinOutBehind 91 = .ok (.ior, 1) := by decide +kernel
theorem dX5_thinOutBehind_92 : decode cX5_thinOutBehind 92 = .ok (.istore 6, 2) := by decide +kernel
theorem dX5_thinOutBehind_94 : decode cX5_thinOutBehind 94 = .ok (.iload 8, 2) := by decide +kernel
theorem dX5_thinOutBehind_96 : decode cX5_thinOutBehind 96 = .ok (.ifCond .ne 23, 3) := by decide +kernel
theorem dX5_thinOutBehind_99 : decode cX5_thinOutBehind 99 = .ok (.aload_n 0, 1) := by decide +kernel
theorem dX5_thinOutBehind_100 : decode cX5_thinOutBehind 100 = .ok (.getfield 15, 3) := by decide +kernel
theorem dX5_thinOutBehind_103 : decode cX5_thinOutBehind 103 = .ok (.iload_n 3, 1) := by decide +kernel
theorem dX5_thinOutBehind_104 : decode cX5_thinOutBehind 104 = .ok (.iload 7, 2) := by decide +kernel
theorem dX5_thinOutBehind_106 : decode cX5_thinOutBehind 106 = .ok (.iadd, 1) := by decide +kernel
theorem dX5_thinOutBehind_107 : decode cX5_thinOutBehind 107 = .ok (.dup2, 1) := by decide +kernel
theorem dX5_thinOutBehind_108 : decode cX5_thinOutBehind 108 = .ok (.iaload, 1) := by decide +kernel
theorem dX5_thinOutBehind_109 : decode cX5_thinOutBehind 109 = .ok (.iconst 1, 1) := by decide +kernel
theorem dX5_thinOutBehind_110 : decode cX5_thinOutBehind 110 = .ok (.iload_n 2, 1) := by decide +kernel
theorem dX5_thinOutBehind_111 : decode cX5_thinOutBehind 111 = .ok (.ishl, 1) := by decide +kernel
theorem dX5_thinOutBehind_112 : decode cX5_thinOutBehind 112 = .ok (.iconst (-1), 1) := by decide +kernel
theorem dX5_thinOutBehind_113 : decode cX5_thinOutBehind 113 = .ok (.ixor, 1) := by decide +kernel
theorem dX5_thinOutBehind_114 : decode cX5_thinOutBehind 114 = .ok (.iand, 1) := by decide +kernel
theorem dX5_thinOutBehind_115 : decode cX5_thinOutBehind 115 = .ok (.iastore, 1) := by decide +kernel
theorem dX5_thinOutBehind_116 : decode cX5_thinOutBehind 116 = .ok (.iconst 1, 1) := by decide +kernel
theorem dX5_thinOutBehind_117 : decode cX5_thinOutBehind 117 = .ok (.istore 5, 2) := by decide +kernel
theorem dX5_thinOutBehind_119 : decode cX5_thinOutBehind 119 = .ok (.iinc 7 1, 3) := by decide +kernel
theorem dX5_thinOutBehind_122 : decode cX5_thinOutBehind 122 = .ok (.goto (-76), 3) := by decide +kernel
theorem dX5_thinOutBehind_125 : decode cX5_thinOutBehind 125 = .ok (.iload 5, 2) := by decide +kernel
theorem dX5_thinOutBehind_127 : decode cX5_thinOutBehind 127 = .ok (.aload_n 0, 1) := by decide +kernel
theorem dX5_thinOutBehind_128 : decode cX5_thinOutBehind 128 = .ok (.getfield 15, 3) := by decide +kernel
theorem dX5_thinOutBehind_131 : decode cX5_thinOutBehind 131 = .ok (.iload 4, 2) := by decide +kernel
theorem dX5_thinOutBehind_133 : decode cX5_thinOutBehind 133 = .ok (.iaload, 1) := by decide +kernel
theorem dX5_thinOutBehind_134 : decode cX5_thinOutBehind 134 = .ok (.iload 6, 2) := by decide +kernel
theorem dX5_thinOutBehind_136 : decode cX5_thinOutBehind 136 = .ok (.iconst (-1), 1) := by decide +kernel
theorem dX5_thinOutBehind_137 : decode cX5_thinOutBehind 137 = .ok (.ixor, 1) := by decide +kernel
theorem dX5_thinOutBehind_138 : decode cX5_thinOutBehind 138 = .ok (.iand, 1) := by decide +kernel
theorem dX5_thinOutBehind_139 : decode cX5_thinOutBehind 139 = .ok (.ifCond .eq 7, 3) := by decide +kernel
theorem dX5_thinOutBehind_142 : decode cX5_thinOutBehind 142 = .ok (.iconst 1, 1) := by decide +kernel
theorem dX5_thinOutBehind_143 : decode cX5_thinOutBehind 143 = .ok (.goto 4, 3) := by decide +kernel
theorem dX5_thinOutBehind_146 : decode cX5_thinOutBehind 146 = .ok (.iconst 0, 1) := by decide +kernel
theorem dX5_thinOutBehind_147 : decode cX5_thinOutBehind 147 = .ok (.ior, 1) := by decide +kernel
theorem dX5_thinOutBehind_148 : decode cX5_thinOutBehind 148 = .ok (.istore 5, 2) := by decide +kernel
theorem dX5_thinOutBehind_150 : decode cX5_thinOutBehind 150 = .ok (.aload_n 0, 1) := by decide +kernel
theorem dX5_thinOutBehind_151 : decode cX5_thinOutBehind 151 = .ok (.getfield 15, 3) := by decide +kernel
theorem dX5_thinOutBehind_154 : decode cX5_thinOutBehind 154 = .ok (.iload 4, 2) := by decide +kernel
theorem dX5_thinOutBehind_156 : decode cX5_thinOutBehind 156 = .ok (.dup2, 1) := by decide +kernel
theorem dX5_thinOutBehind_157 : decode cX5_thinOutBehind 157 = .ok (.iaload, 1) := by decide +kernel
theorem dX5_thinOutBehind_158 : decode cX5_thinOutBehind 158 = .ok (.iload 6, 2) := by decide +kernel
theorem dX5_thinOutBehind_160 : decode cX5_thinOutBehind 160 = .ok (.iand, 1) := by decide +kernel
theorem dX5_thinOutBehind_161 : decode cX5_thinOutBehind 161 = .ok (.iastore, 1) := by decide +kernel
theorem dX5_thinOutBehind_162 : decode cX5_thinOutBehind 162 = .ok (.iload 5, 2) := by decide +kernel
theorem dX5_thinOutBehind_164 : decode cX5_thinOutBehind 164 = .ok (.ireturn, 1) := by decide +kernel
theorem dX5_beginsRound_0 : decode cX5_beginsRound 0 = .ok (.iconst 1, 1) := by decide +kernel
theorem dX5_beginsRound_1 : decode cX5_beginsRound 1 = .ok (.istore_n 1, 1) := by decide +kernel
theorem dX5_beginsRound_2 : decode cX5_beginsRound 2 = .ok (.iload_n 1, 1) := by decide +kernel
theorem dX5_beginsRound_3 : decode cX5_beginsRound 3 = .ok (.bipush 25, 2) := by decide +kernel
theorem dX5_beginsRound_5 : decode cX5_beginsRound 5 = .ok (.if_icmp .ge 69, 3) := by decide +kernel
theorem dX5_beginsRound_8 : decode cX5_beginsRound 8 = .ok (.iconst 1, 1) := by decide +kernel
theorem dX5_beginsRound_9 : decode cX5_beginsRound 9 = .ok (.istore_n 2, 1) := by decide +kernel
theorem dX5_beginsRound_10 : decode cX5_beginsRound 10 = .ok (.iload_n 2, 1) := by decide +kernel
theorem dX5_beginsRound_11 : decode cX5_beginsRound 11 = .ok (.bipush 25, 2) := by decide +kernel
theorem dX5_beginsRound_13 : decode cX5_beginsRound 13 = .ok (.if_icmp .ge 55, 3) := by decide +kernel
theorem dX5_beginsRound_16 : decode cX5_beginsRound 16 = .ok (.aload_n 0, 1) := by decide +kernel
theorem dX5_beginsRound_17 : decode cX5_beginsRound 17 = .ok (.getfield 15, 3) := by decide +kernel
theorem dX5_beginsRound_20 : decode cX5_beginsRound 20 = .ok (.iload_n 1, 1) := by decide +kernel
theorem dX5_beginsRound_21 : decode cX5_beginsRound 21 = .ok (.iaload, 1) := by decide +kernel
theorem dX5_beginsRound_22 : decode cX5_beginsRound 22 = .ok (.ifCond .eq 46, 3) := by decide +kernel
theorem dX5_beginsRound_25 : decode cX5_beginsRound 25 = .ok (.aload_n 0, 1) := by decide +kernel
theorem dX5_beginsRound_26 : decode cX5_beginsRound 26 = .ok (.getfield 9, 3) := by decide +kernel
theorem dX5_beginsRound_29 : decode cX5_beginsRound 29 = .ok (.iconst 0, 1) := by decide +kernel
theorem dX5_beginsRound_30 : decode cX5_beginsRound 30 = .ok (.iload_n 1, 1) := by decide +kernel
theorem dX5_beginsRound_31 : decode cX5_beginsRound 31 = .ok (.iastore, 1) := by decide +kernel
theorem dX5_beginsRound_32 : decode cX5_beginsRound 32 = .ok (.aload_n 0, 1) := by decide +kernel
theorem dX5_beginsRound_33 : decode cX5_beginsRound 33 = .ok (.getfield 9, 3) := by decide +kernel
theorem dX5_beginsRound_36 : decode cX5_beginsRound 36 = .ok (.iconst 1, 1) := by decide +kernel
theorem dX5_beginsRound_37 : decode cX5_beginsRound 37 = .ok (.iload_n 2, 1) := by decide +kernel
theorem dX5_beginsRound_38 : decode cX5_beginsRound 38 = .ok (.iastore, 1) := by decide +kernel
theorem dX5_beginsRound_39 : decode cX5_beginsRound 39 = .ok (.aload_n 0, 1) := by decide +kernel
theorem dX5_beginsRound_40 : decode cX5_beginsRound 40 = .ok (.getfield 15, 3) := by decide +kernel
theorem dX5_beginsRound_43 : decode cX5_beginsRound 43 = .ok (.iload_n 1, 1) := by decide +kernel
theorem dX5_beginsRound_44 : decode cX5_beginsRound 44 = .ok (.iaload, 1) := by decide +kernel
theorem dX5_beginsRound_45 : decode cX5_beginsRound 45 = .ok (.iload_n 2, 1) := by decide +kernel
theorem dX5_beginsRound_46 : decode cX5_beginsRound 46 = .ok (.ishr, 1) := by decide +kernel
theorem dX5_beginsRound_47 : decode cX5_beginsRound 47 = .ok (.iconst 1, 1) := by decide +kernel
theorem dX5_beginsRound_48 : decode cX5_beginsRound 48 = .ok (.iand, 1) := by decide +kernel
theorem dX5_beginsRound_49 : decode cX5_beginsRound 49 = .ok (.ifCond .eq 13, 3) := by decide +kernel
theorem dX5_beginsRound_52 : decode cX5_beginsRound 52 = .ok (.aload_n 0, 1) := by decide +kernel
theorem dX5_beginsRound_53 : decode cX5_beginsRound 53 = .ok (.iconst 2, 1) := by decide +kernel
theorem dX5_beginsRound_54 : decode cX5_beginsRound 54 = .ok (.invokevirtual 75, 3) := by decide +kernel
theorem dX5_beginsRound_57 : decode cX5_beginsRound 57 = .ok (.ifCond .eq 5, 3) := by decide +kernel
theorem dX5_beginsRound_60 : decode cX5_beginsRound 60 = .ok (.iconst 1, 1) := by decide +kernel
theorem dX5_beginsRound_61 : decode cX5_beginsRound 61 = .ok (.ireturn, 1) := by decide +kernel
theorem dX5_beginsRound_62 : decode cX5_beginsRound 62 = .ok (.iinc 2 1, 3) := by decide +kernel
theorem dX5_beginsRound_65 : decode cX5_beginsRound 65 = .ok (.goto (-55), 3) := by decide +kernel
theorem dX5_beginsRound_68 : decode cX5_beginsRound 68 = .ok (.iinc 1 1, 3) := by decide +kernel
theorem dX5_beginsRound_71 : decode cX5_beginsRound 71 = .ok (.goto (-69), 3) := by decide +kernel
theorem dX5_beginsRound_74 : decode cX5_beginsRound 74 = .ok (.iconst 0, 1) := by decide +kernel
theorem dX5_beginsRound_75 : decode cX5_beginsRound 75 = .ok (.ireturn, 1) := by decide +kernel
theorem dX5_goesOn_0 : decode cX5_goesOn 0 = .ok (.iload_n 1, 1) := by decide +kernel
theorem dX5_goesOn_1 : decode cX5_goesOn 1 = .ok (.iconst 2, 1) := by decide +kernel
theorem dX5_goesOn_2 : decode cX5_goesOn 2 = .ok (.if_icmp .lt 17, 3) := by decide +kernel
theorem dX5_goesOn_5 : decode cX5_goesOn 5 = .ok (.iload_n 1, 1) := by decide +kernel
theorem dX5_goesOn_6 : decode cX5_goesOn 6 = .ok (.aload_n 0, 1) := by decide +kernel
theorem dX5_goesOn_7 : decode cX5_goesOn 7 = .ok (.getfield 30, 3) := by decide +kernel
theorem dX5_goesOn_10 : decode cX5_goesOn 10 = .ok (.if_icmp .gt 9, 3) := by decide +kernel
theorem dX5_goesOn_13 : decode cX5_goesOn 13 = .ok (.iload_n 1, 1) := by decide +kernel
theorem dX5_goesOn_14 : decode cX5_goesOn 14 = .ok (.bipush 6, 2) := by decide +kernel
theorem dX5_goesOn_16 : decode cX5_goesOn 16 = .ok (.if_icmp .le 5, 3) := by decide +kernel
theorem dX5_goesOn_19 : decode cX5_goesOn 19 = .ok (.iconst 0, 1) := by decide +kernel
theorem dX5_goesOn_20 : decode cX5_goesOn 20 = .ok (.ireturn, 1) := by decide +kernel
theorem dX5_goesOn_21 : decode cX5_goesOn 21 = .ok (.aload_n 0, 1) := by decide +kernel
theorem dX5_goesOn_22 : decode cX5_goesOn 22 = .ok (.getfield 9, 3) := by decide +kernel
theorem dX5_goesOn_25 : decode cX5_goesOn 25 = .ok (.iload_n 1, 1) := by decide +kernel
theorem dX5_goesOn_26 : decode cX5_goesOn 26 = .ok (.iconst 1, 1) := by decide +kernel
theorem dX5_goesOn_27 : decode cX5_goesOn 27 = .ok (.isub, 1) := by decide +kernel
theorem dX5_goesOn_28 : decode cX5_goesOn 28 = .ok (.iaload, 1) := by decide +kernel
theorem dX5_goesOn_29 : decode cX5_goesOn 29 = .ok (.istore_n 2, 1) := by decide +kernel
theorem dX5_goesOn_30 : decode cX5_goesOn 30 = .ok (.aload_n 0, 1) := by decide +kernel
theorem dX5_goesOn_31 : decode cX5_goesOn 31 = .ok (.getfield 9, 3) := by decide +kernel
theorem dX5_goesOn_34 : decode cX5_goesOn 34 = .ok (.iload_n 1, 1) := by decide +kernel
theorem dX5_goesOn_35 : decode cX5_goesOn 35 = .ok (.iconst 2, 1) := by decide +kernel
theorem dX5_goesOn_36 : decode cX5_goesOn 36 = .ok (.isub, 1) := by decide +kernel
theorem dX5_goesOn_37 : decode cX5_goesOn 37 = .ok (.iaload, 1) := by decide +kernel
theorem dX5_goesOn_38 : decode cX5_goesOn 38 = .ok (.istore_n 3, 1) := by decide +kernel
theorem dX5_goesOn_39 : decode cX5_goesOn 39 = .ok (.iload_n 1, 1) := by decide +kernel
theorem dX5_goesOn_40 : decode cX5_goesOn 40 = .ok (.aload_n 0, 1) := by decide +kernel
theorem dX5_goesOn_41 : decode cX5_goesOn 41 = .ok (.getfield 30, 3) := by decide +kernel
theorem dX5_goesOn_44 : decode cX5_goesOn 44 = .ok (.if_icmp .ne 52, 3) := by decide +kernel
theorem dX5_goesOn_47 : decode cX5_goesOn 47 = .ok (.aload_n 0, 1) := by decide +kernel
theorem dX5_goesOn_48 : decode cX5_goesOn 48 = .ok (.iconst 0, 1) := by decide +kernel
theorem dX5_goesOn_49 : decode cX5_goesOn 49 = .ok (.iload_n 2, 1) := by decide +kernel
theorem dX5_goesOn_50 : decode cX5_goesOn 50 = .ok (.iload_n 3, 1) := by decide +kernel
theorem dX5_goesOn_51 : decode cX5_goesOn 51 = .ok (.invokevirtual 71, 3) := by decide +kernel
theorem dX5_goesOn_54 : decode cX5_goesOn 54 = .ok (.aload_n 0, 1) := by decide +kernel
theorem dX5_goesOn_55 : decode cX5_goesOn 55 = .ok (.getfield 9, 3) := by decide +kernel
theorem dX5_goesOn_58 : decode cX5_goesOn 58 = .ok (.iconst 0, 1) := by decide +kernel
theorem dX5_goesOn_59 : decode cX5_goesOn 59 = .ok (.iaload, 1) := by decide +kernel
theorem dX5_goesOn_60 : decode cX5_goesOn 60 = .ok (.ishr, 1) := by decide +kernel
theorem dX5_goesOn_61 : decode cX5_goesOn 61 = .ok (.iconst 1, 1) := by decide +kernel
theorem dX5_goesOn_62 : decode cX5_goesOn 62 = .ok (.iand, 1) := by decide +kernel
theorem dX5_goesOn_63 : decode cX5_goesOn 63 = .ok (.ifCond .eq 31, 3) := by decide +kernel
theorem dX5_goesOn_66 : decode cX5_goesOn 66 = .ok (.aload_n 0, 1) := by decide +kernel
theorem dX5_goesOn_67 : decode cX5_goesOn 67 = .ok (.iconst 1, 1) := by decide +kernel
theorem dX5_goesOn_68 : decode cX5_goesOn 68 = .ok (.aload_n 0, 1) := by decide +kernel
theorem dX5_goesOn_69 : decode cX5_goesOn 69 = .ok (.getfield 9, 3) := by decide +kernel
theorem dX5_goesOn_72 : decode cX5_goesOn 72 = .ok (.iconst 0, 1) := by decide +kernel
theorem dX5_goesOn_73 : decode cX5_goesOn 73 = .ok (.iaload, 1) := by decide +kernel
theorem dX5_goesOn_74 : decode cX5_goesOn 74 = .ok (.iload_n 2, 1) := by decide +kernel
theorem dX5_goesOn_75 : decode cX5_goesOn 75 = .ok (.invokevirtual 71, 3) := by decide +kernel
theorem dX5_goesOn_78 : decode cX5_goesOn 78 = .ok (.aload_n 0, 1) := by decide +kernel
theorem dX5_goesOn_79 : decode cX5_goesOn 79 = .ok (.getfield 9, 3) := by decide +kernel
theorem dX5_goesOn_82 : decode cX5_goesOn 82 = .ok (.iconst 1, 1) := by decide +kernel
theorem dX5_goesOn_83 : decode cX5_goesOn 83 = .ok (.iaload, 1) := by decide +kernel
theorem dX5_goesOn_84 : decode cX5_goesOn 84 = .ok (.ishr, 1) := by decide +kernel
theorem dX5_goesOn_85 : decode cX5_goesOn 85 = .ok (.iconst 1, 1) := by decide +kernel
theorem dX5_goesOn_86 : decode cX5_goesOn 86 = .ok (.iand, 1) := by decide +kernel
theorem dX5_goesOn_87 : decode cX5_goesOn 87 = .ok (.ifCond .eq 7, 3) := by decide +kernel
theorem dX5_goesOn_90 : decode cX5_goesOn 90 = .ok (.iconst 1, 1) := by decide +kernel
theorem dX5_goesOn_91 : decode cX5_goesOn 91 = .ok (.goto 4, 3) := by decide +kernel
theorem dX5_goesOn_94 : decode cX5_goesOn 94 = .ok (.iconst 0, 1) := by decide +kernel
theorem dX5_goesOn_95 : decode cX5_goesOn 95 = .ok (.ireturn, 1) := by decide +kernel
theorem dX5_goesOn_96 : decode cX5_goesOn 96 = .ok (.sipush 1250, 3) := by decide +kernel
theorem dX5_goesOn_99 : decode cX5_goesOn 99 = .ok (.iload_n 1, 1) := by decide +kernel
theorem dX5_goesOn_100 : decode cX5_goesOn 100 = .ok (.sipush 625, 3) := by decide +kernel
theorem dX5_goesOn_103 : decode cX5_goesOn 103 = .ok (.imul, 1) := by decide +kernel
theorem dX5_goesOn_104 : decode cX5_goesOn 104 = .ok (.iadd, 1) := by decide +kernel
theorem dX5_goesOn_105 : decode cX5_goesOn 105 = .ok (.iload_n 2, 1) := by decide +kernel
theorem dX5_goesOn_106 : decode cX5_goesOn 106 = .ok (.bipush 25, 2) := by decide +kernel
theorem dX5_goesOn_108 : decode cX5_goesOn 108 = .ok (.imul, 1) := by decide +kernel
theorem dX5_goesOn_109 : decode cX5_goesOn 109 = .ok (.iadd, 1) := by decide +kernel
theorem dX5_goesOn_110 : decode cX5_goesOn 110 = .ok (.iload_n 3, 1) := by decide +kernel
theorem dX5_goesOn_111 : decode cX5_goesOn 111 = .ok (.iadd, 1) := by decide +kernel
theorem dX5_goesOn_112 : decode cX5_goesOn 112 = .ok (.istore 4, 2) := by decide +kernel
theorem dX5_goesOn_114 : decode cX5_goesOn 114 = .ok (.aload_n 0, 1) := by decide +kernel
theorem dX5_goesOn_115 : decode cX5_goesOn 115 = .ok (.getfield 30, 3) := by decide +kernel
theorem dX5_goesOn_118 : decode cX5_goesOn 118 = .ok (.sipush 625, 3) := by decide +kernel
theorem dX5_goesOn_121 : decode cX5_goesOn 121 = .ok (.imul, 1) := by decide +kernel
theorem dX5_goesOn_122 : decode cX5_goesOn 122 = .ok (.aload_n 0, 1) := by decide +kernel
theorem dX5_goesOn_123 : decode cX5_goesOn 123 = .ok (.getfield 9, 3) := by decide +kernel
theorem dX5_goesOn_126 : decode cX5_goesOn 126 = .ok (.iconst 0, 1) := by decide +kernel
theorem dX5_goesOn_127 : decode cX5_goesOn 127 = .ok (.iaload, 1) := by decide +kernel
theorem dX5_goesOn_128 : decode cX5_goesOn 128 = .ok (.bipush 25, 2) := by decide +kernel
theorem dX5_goesOn_130 : decode cX5_goesOn 130 = .ok (.imul, 1) := by decide +kernel
theorem dX5_goesOn_131 : decode cX5_goesOn 131 = .ok (.iadd, 1) := by decide +kernel
theorem dX5_goesOn_132 : decode cX5_goesOn 132 = .ok (.aload_n 0, 1) := by decide +kernel
theorem dX5_goesOn_133 : decode cX5_goesOn 133 = .ok (.getfield 9, 3) := by decide +kernel
theorem dX5_goesOn_136 : decode cX5_goesOn 136 = .ok (.iconst 1, 1) := by decide +kernel
theorem dX5_goesOn_137 : decode cX5_goesOn 137 = .ok (.iaload, 1) := by decide +kernel
theorem dX5_goesOn_138 : decode cX5_goesOn 138 = .ok (.iadd, 1) := by decide +kernel
theorem dX5_goesOn_139 : decode cX5_goesOn 139 = .ok (.istore 5, 2) := by decide +kernel
theorem dX5_goesOn_141 : decode cX5_goesOn 141 = .ok (.aload_n 0, 1) := by decide +kernel
theorem dX5_goesOn_142 : decode cX5_goesOn 142 = .ok (.getfield 22, 3) := by decide +kernel
theorem dX5_goesOn_145 : decode cX5_goesOn 145 = .ok (.iload 4, 2) := by decide +kernel
theorem dX5_goesOn_147 : decode cX5_goesOn 147 = .ok (.invokevirtual 79, 3) := by decide +kernel
theorem dX5_goesOn_150 : decode cX5_goesOn 150 = .ok (.ifCond .eq 19, 3) := by decide +kernel
theorem dX5_goesOn_153 : decode cX5_goesOn 153 = .ok (.aload_n 0, 1) := by decide +kernel
theorem dX5_goesOn_154 : decode cX5_goesOn 154 = .ok (.getfield 22, 3) := by decide +kernel
theorem dX5_goesOn_157 : decode cX5_goesOn 157 = .ok (.iload 4, 2) := by decide +kernel
theorem dX5_goesOn_159 : decode cX5_goesOn 159 = .ok (.invokevirtual 82, 3) := by decide +kernel
theorem dX5_goesOn_162 : decode cX5_goesOn 162 = .ok (.iload 5, 2) := by decide +kernel
theorem dX5_goesOn_164 : decode cX5_goesOn 164 = .ok (.if_icmp .ne 5, 3) := by decide +kernel
theorem dX5_goesOn_167 : decode cX5_goesOn 167 = .ok (.iconst 0, 1) := by decide +kernel
theorem dX5_goesOn_168 : decode cX5_goesOn 168 = .ok (.ireturn, 1) := by decide +kernel
theorem dX5_goesOn_169 : decode cX5_goesOn 169 = .ok (.iload_n 1, 1) := by decide +kernel
theorem dX5_goesOn_170 : decode cX5_goesOn 170 = .ok (.iconst 2, 1) := by decide +kernel
theorem dX5_goesOn_171 : decode cX5_goesOn 171 = .ok (.irem, 1) := by decide +kernel
theorem dX5_goesOn_172 : decode cX5_goesOn 172 = .ok (.ifCond .ne 8, 3) := by decide +kernel
theorem dX5_goesOn_175 : decode cX5_goesOn 175 = .ok (.bipush 25, 2) := by decide +kernel
theorem dX5_goesOn_177 : decode cX5_goesOn 177 = .ok (.goto 4, 3) := by decide +kernel
theorem dX5_goesOn_180 : decode cX5_goesOn 180 = .ok (.iconst 0, 1) := by decide +kernel
theorem dX5_goesOn_181 : decode cX5_goesOn 181 = .ok (.iload_n 2, 1) := by decide +kernel
theorem dX5_goesOn_182 : decode cX5_goesOn 182 = .ok (.iadd, 1) := by decide +kernel
theorem dX5_goesOn_183 : decode cX5_goesOn 183 = .ok (.istore 6, 2) := by decide +kernel
theorem dX5_goesOn_185 : decode cX5_goesOn 185 = .ok (.iload 6, 2) := by decide +kernel
theorem dX5_goesOn_187 : decode cX5_goesOn 187 = .ok (.ifCond .lt 33, 3) := by decide +kernel
theorem dX5_goesOn_190 : decode cX5_goesOn 190 = .ok (.iload 6, 2) := by decide +kernel
theorem dX5_goesOn_192 : decode cX5_goesOn 192 = .ok (.aload_n 0, 1) := by decide +kernel
theorem dX5_goesOn_193 : decode cX5_goesOn 193 = .ok (.getfield 15, 3) := by decide +kernel
theorem dX5_goesOn_196 : decode cX5_goesOn 196 = .ok (.arraylength, 1) := by decide +kernel
theorem dX5_goesOn_197 : decode cX5_goesOn 197 = .ok (.if_icmp .ge 23, 3) := by decide +kernel
theorem dX5_goesOn_200 : decode cX5_goesOn 200 = .ok (.aload_n 0, 1) := by decide +kernel
theorem dX5_goesOn_201 : decode cX5_goesOn 201 = .ok (.iload_n 1, 1) := by decide +kernel
theorem dX5_goesOn_202 : decode cX5_goesOn 202 = .ok (.iconst 2, 1) := by decide +kernel
theorem dX5_goesOn_203 : decode cX5_goesOn 203 = .ok (.irem, 1) := by decide +kernel
theorem dX5_goesOn_204 : decode cX5_goesOn 204 = .ok (.iload_n 2, 1) := by decide +kernel
theorem dX5_goesOn_205 : decode cX5_goesOn 205 = .ok (.iload_n 3, 1) := by decide +kernel
theorem dX5_goesOn_206 : decode cX5_goesOn 206 = .ok (.invokevirtual 71, 3) := by decide +kernel
theorem dX5_goesOn_209 : decode cX5_goesOn 209 = .ok (.aload_n 0, 1) := by decide +kernel
theorem dX5_goesOn_210 : decode cX5_goesOn 210 = .ok (.getfield 15, 3) := by decide +kernel
theorem dX5_goesOn_213 : decode cX5_goesOn 213 = .ok (.iload 6, 2) := by decide +kernel
theorem dX5_goesOn_215 : decode cX5_goesOn 215 = .ok (.iaload, 1) := by decide +kernel
theorem dX5_goesOn_216 : decode cX5_goesOn 216 = .ok (.iand, 1) := by decide +kernel
theorem dX5_goesOn_217 : decode cX5_goesOn 217 = .ok (.goto 4, 3) := by decide +kernel
theorem dX5_goesOn_220 : decode cX5_goesOn 220 = .ok (.iconst 0, 1) := by decide +kernel
theorem dX5_goesOn_221 : decode cX5_goesOn 221 = .ok (.istore 7, 2) := by decide +kernel
theorem dX5_goesOn_223 : decode cX5_goesOn 223 = .ok (.iconst 1, 1) := by decide +kernel
theorem dX5_goesOn_224 : decode cX5_goesOn 224 = .ok (.istore 8, 2) := by decide +kernel
theorem dX5_goesOn_226 : decode cX5_goesOn 226 = .ok (.iload 8, 2) := by decide +kernel
theorem dX5_goesOn_228 : decode cX5_goesOn 228 = .ok (.bipush 24, 2) := by decide +kernel
theorem dX5_goesOn_230 : decode cX5_goesOn 230 = .ok (.if_icmp .gt 44, 3) := by decide +kernel
theorem dX5_goesOn_233 : decode cX5_goesOn 233 = .ok (.iload 7, 2) := by decide +kernel
theorem dX5_goesOn_235 : decode cX5_goesOn 235 = .ok (.ifCond .eq 39, 3) := by decide +kernel
theorem dX5_goesOn_238 : decode cX5_goesOn 238 = .ok (.aload_n 0, 1) := by decide +kernel
theorem dX5_goesOn_239 : decode cX5_goesOn 239 = .ok (.getfield 9, 3) := by decide +kernel
theorem dX5_goesOn_242 : decode cX5_goesOn 242 = .ok (.iload_n 1, 1) := by decide +kernel
theorem dX5_goesOn_243 : decode cX5_goesOn 243 = .ok (.iload 8, 2) := by decide +kernel
theorem dX5_goesOn_245 : decode cX5_goesOn 245 = .ok (.iastore, 1) := by decide +kernel
theorem dX5_goesOn_246 : decode cX5_goesOn 246 = .ok (.iload 7, 2) := by decide +kernel
theorem dX5_goesOn_248 : decode cX5_goesOn 248 = .ok (.iload 8, 2) := by decide +kernel
theorem dX5_goesOn_250 : decode cX5_goesOn 250 = .ok (.ishr, 1) := by decide +kernel
theorem dX5_goesOn_251 : decode cX5_goesOn 251 = .ok (.iconst 1, 1) := by decide +kernel
theorem dX5_goesOn_252 : decode cX5_goesOn 252 = .ok (.iand, 1) := by decide +kernel
theorem dX5_goesOn_253 : decode cX5_goesOn 253 = .ok (.ifCond .eq 15, 3) := by decide +kernel
theorem dX5_goesOn_256 : decode cX5_goesOn 256 = .ok (.aload_n 0, 1) := by decide +kernel
theorem dX5_goesOn_257 : decode cX5_goesOn 257 = .ok (.iload_n 1, 1) := by decide +kernel
theorem dX5_goesOn_258 : decode cX5_goesOn 258 = .ok (.iconst 1, 1) := by decide +kernel
theorem dX5_goesOn_259 : decode cX5_goesOn 259 = .ok (.iadd, 1) := by decide +kernel
theorem dX5_goesOn_260 : decode cX5_goesOn 260 = .ok (.invokevirtual 75, 3) := by decide +kernel
theorem dX5_goesOn_263 : decode cX5_goesOn 263 = .ok (.ifCond .eq 5, 3) := by decide +kernel
theorem dX5_goesOn_266 : decode cX5_goesOn 266 = .ok (.iconst 1, 1) := by decide +kernel
theorem dX5_goesOn_267 : decode cX5_goesOn 267 = .ok (.ireturn, 1) := by decide +kernel
theorem dX5_goesOn_268 : decode cX5_goesOn 268 = .ok (.iinc 8 1, 3) := by decide +kernel
theorem dX5_goesOn_271 : decode cX5_goesOn 271 = .ok (.goto (-45), 3) := by decide +kernel
theorem dX5_goesOn_274 : decode cX5_goesOn 274 = .ok (.aload_n 0, 1) := by decide +kernel
theorem dX5_goesOn_275 : decode cX5_goesOn 275 = .ok (.getfield 22, 3) := by decide +kernel
theorem dX5_goesOn_278 : decode cX5_goesOn 278 = .ok (.iload 4, 2) := by decide +kernel
theorem dX5_goesOn_280 : decode cX5_goesOn 280 = .ok (.iload 5, 2) := by decide +kernel
theorem dX5_goesOn_282 : decode cX5_goesOn 282 = .ok (.invokevirtual 85, 3) := by decide +kernel
theorem dX5_goesOn_285 : decode cX5_goesOn 285 = .ok (.iconst 0, 1) := by decide +kernel
theorem dX5_goesOn_286 : decode cX5_goesOn 286 = .ok (.ireturn, 1) := by decide +kernel
theorem dX5_following_0 : decode cX5_following 0 = .ok (.iload_n 1, 1) := by decide +kernel
theorem dX5_following_1 : decode cX5_following 1 = .ok (.sipush 625, 3) := by decide +kernel
theorem dX5_following_4 : decode cX5_following 4 = .ok (.imul, 1) := by decide +kernel
theorem dX5_following_5 : decode cX5_following 5 = .ok (.aload_n 0, 1) := by decide +kernel
theorem dX5_following_6 : decode cX5_following 6 = .ok (.getfield 57, 3) := by decide +kernel
theorem dX5_following_9 : decode cX5_following 9 = .ok (.ifCond .eq 10, 3) := by decide +kernel
theorem dX5_following_12 : decode cX5_following 12 = .ok (.iload_n 2, 1) := by decide +kernel
theorem dX5_following_13 : decode cX5_following 13 = .ok (.bipush 25, 2) := by decide +kernel
theorem dX5_following_15 : decode cX5_following 15 = .ok (.imul, 1) := by decide +kernel
theorem dX5_following_16 : decode cX5_following 16 = .ok (.goto 4, 3) := by decide +kernel
theorem dX5_following_19 : decode cX5_following 19 = .ok (.iconst 0, 1) := by decide +kernel
theorem dX5_following_20 : decode cX5_following 20 = .ok (.iadd, 1) := by decide +kernel
theorem dX5_following_21 : decode cX5_following 21 = .ok (.aload_n 0, 1) := by decide +kernel
theorem dX5_following_22 : decode cX5_following 22 = .ok (.getfield 61, 3) := by decide +kernel
theorem dX5_following_25 : decode cX5_following 25 = .ok (.ifCond .eq 7, 3) := by decide +kernel
theorem dX5_following_28 : decode cX5_following 28 = .ok (.iload_n 3, 1) := by decide +kernel
theorem dX5_following_29 : decode cX5_following 29 = .ok (.goto 4, 3) := by decide +kernel
theorem dX5_following_32 : decode cX5_following 32 = .ok (.iconst 0, 1) := by decide +kernel
theorem dX5_following_33 : decode cX5_following 33 = .ok (.iadd, 1) := by decide +kernel
theorem dX5_following_34 : decode cX5_following 34 = .ok (.istore 4, 2) := by decide +kernel
theorem dX5_following_36 : decode cX5_following 36 = .ok (.aload_n 0, 1) := by decide +kernel
theorem dX5_following_37 : decode cX5_following 37 = .ok (.getfield 22, 3) := by decide +kernel
theorem dX5_following_40 : decode cX5_following 40 = .ok (.iload 4, 2) := by decide +kernel
theorem dX5_following_42 : decode cX5_following 42 = .ok (.invokevirtual 79, 3) := by decide +kernel
theorem dX5_following_45 : decode cX5_following 45 = .ok (.ifCond .eq 13, 3) := by decide +kernel
theorem dX5_following_48 : decode cX5_following 48 = .ok (.aload_n 0, 1) := by decide +kernel
theorem dX5_following_49 : decode cX5_following 49 = .ok (.getfield 22, 3) := by decide +kernel
theorem dX5_following_52 : decode cX5_following 52 = .ok (.iload 4, 2) := by decide +kernel
theorem dX5_following_54 : decode cX5_following 54 = .ok (.invokevirtual 82, 3) := by decide +kernel
theorem dX5_following_57 : decode cX5_following 57 = .ok (.ireturn, 1) := by decide +kernel
theorem dX5_following_58 : decode cX5_following 58 = .ok (.aload_n 0, 1) := by decide +kernel
theorem dX5_following_59 : decode cX5_following 59 = .ok (.getfield 18, 3) := by decide +kernel
theorem dX5_following_62 : decode cX5_following 62 = .ok (.iload_n 2, 1) := by decide +kernel
theorem dX5_following_63 : decode cX5_following 63 = .ok (.iload_n 3, 1) := by decide +kernel
theorem dX5_following_64 : decode cX5_following 64 = .ok (.iconst 1, 1) := by decide +kernel
theorem dX5_following_65 : decode cX5_following 65 = .ok (.iload_n 1, 1) := by decide +kernel
theorem dX5_following_66 : decode cX5_following 66 = .ok (.isub, 1) := by decide +kernel
theorem dX5_following_67 : decode cX5_following 67 = .ok (.aload_n 0, 1) := by decide +kernel
theorem dX5_following_68 : decode cX5_following 68 = .ok (.getfield 48, 3) := by decide +kernel
theorem dX5_following_71 : decode cX5_following 71 = .ok (.invokevirtual 88, 3) := by decide +kernel
theorem dX5_following_74 : decode cX5_following 74 = .ok (.aload_n 0, 1) := by decide +kernel
theorem dX5_following_75 : decode cX5_following 75 = .ok (.getfield 18, 3) := by decide +kernel
theorem dX5_following_78 : decode cX5_following 78 = .ok (.iconst 1, 1) := by decide +kernel
theorem dX5_following_79 : decode cX5_following 79 = .ok (.iload_n 1, 1) := by decide +kernel
theorem dX5_following_80 : decode cX5_following 80 = .ok (.aload_n 0, 1) := by decide +kernel
theorem dX5_following_81 : decode cX5_following 81 = .ok (.getfield 45, 3) := by decide +kernel
theorem dX5_following_84 : decode cX5_following 84 = .ok (.aload_n 0, 1) := by decide +kernel
theorem dX5_following_85 : decode cX5_following 85 = .ok (.getfield 18, 3) := by decide +kernel
theorem dX5_following_88 : decode cX5_following 88 = .ok (.aload_n 0, 1) := by decide +kernel
theorem dX5_following_89 : decode cX5_following 89 = .ok (.getfield 45, 3) := by decide +kernel
theorem dX5_following_92 : decode cX5_following 92 = .ok (.invokevirtual 64, 3) := by decide +kernel
theorem dX5_following_95 : decode cX5_following 95 = .ok (.invokevirtual 92, 3) := by decide +kernel
theorem dX5_following_98 : decode cX5_following 98 = .ok (.istore 5, 2) := by decide +kernel
theorem dX5_following_100 : decode cX5_following 100 = .ok (.aload_n 0, 1) := by decide +kernel
theorem dX5_following_101 : decode cX5_following 101 = .ok (.getfield 22, 3) := by decide +kernel
theorem dX5_following_104 : decode cX5_following 104 = .ok (.iload 4, 2) := by decide +kernel
theorem dX5_following_106 : decode cX5_following 106 = .ok (.iload 5, 2) := by decide +kernel
theorem dX5_following_108 : decode cX5_following 108 = .ok (.invokevirtual 85, 3) := by decide +kernel
theorem dX5_following_111 : decode cX5_following 111 = .ok (.iload 5, 2) := by decide +kernel
theorem dX5_following_113 : decode cX5_following 113 = .ok (.ireturn, 1) := by decide +kernel
theorem dX6_init_0 : decode cX6_init 0 = .ok (.aload_n 0, 1) := by decide +kernel
theorem dX6_init_1 : decode cX6_init 1 = .ok (.invokespecial 3, 3) := by decide +kernel
theorem dX6_init_4 : decode cX6_init 4 = .ok (.aload_n 0, 1) := by decide +kernel
theorem dX6_init_5 : decode cX6_init 5 = .ok (.aload_n 1, 1) := by decide +kernel
theorem dX6_init_6 : decode cX6_init 6 = .ok (.putfield 9, 3) := by decide +kernel
theorem dX6_init_9 : decode cX6_init 9 = .ok (.aload_n 0, 1) := by decide +kernel
theorem dX6_init_10 : decode cX6_init 10 = .ok (.aload_n 2, 1) := by decide +kernel
theorem dX6_init_11 : decode cX6_init 11 = .ok (.putfield 15, 3) := by decide +kernel
theorem dX6_init_14 : decode cX6_init 14 = .ok (.return_, 1) := by decide +kernel
theorem dX6_begin_0 : decode cX6_begin 0 = .ok (.aload_n 0, 1) := by decide +kernel
theorem dX6_begin_1 : decode cX6_begin 1 = .ok (.getfield 15, 3) := by decide +kernel
theorem dX6_begin_4 : decode cX6_begin 4 = .ok (.invokevirtual 19, 3) := by decide +kernel
theorem dX6_begin_7 : decode cX6_begin 7 = .ok (.aload_n 0, 1) := by decide +kernel
theorem dX6_begin_8 : decode cX6_begin 8 = .ok (.iconst 0, 1) := by decide +kernel
theorem dX6_begin_9 : decode cX6_begin 9 = .ok (.iload_n 2, 1) := by decide +kernel
theorem dX6_begin_10 : decode cX6_begin 10 = .ok (.bipush 6, 2) := by decide +kernel
theorem dX6_begin_12 : decode cX6_begin 12 = .ok (.invokestatic 24, 3) := by decide +kernel
theorem dX6_begin_15 : decode cX6_begin 15 = .ok (.invokestatic 30, 3) := by decide +kernel
theorem dX6_begin_18 : decode cX6_begin 18 = .ok (.putfield 33, 3) := by decide +kernel
theorem dX6_begin_21 : decode cX6_begin 21 = .ok (.aload_n 0, 1) := by decide +kernel
theorem dX6_begin_22 : decode cX6_begin 22 = .ok (.aload_n 1, 1) := by decide +kernel
theorem dX6_begin_23 : decode cX6_begin 23 = .ok (.aload_n 1, 1) := by decide +kernel
theorem dX6_begin_24 : decode cX6_begin 24 = .ok (.getfield 37, 3) := by decide +kernel
theorem dX6_begin_27 : decode cX6_begin 27 = .ok (.iconst 1, 1) := by decide +kernel
theorem dX6_begin_28 : decode cX6_begin 28 = .ok (.isub, 1) := by decide +kernel
theorem dX6_begin_29 : decode cX6_begin 29 = .ok (.invokevirtual 42, 3) := by decide +kernel
theorem dX6_begin_32 : decode cX6_begin 32 = .ok (.putfield 46, 3) := by decide +kernel
theorem dX6_begin_35 : decode cX6_begin 35 = .ok (.aload_n 0, 1) := by decide +kernel
theorem dX6_begin_36 : decode cX6_begin 36 = .ok (.aload_n 1, 1) := by decide +kernel
theorem dX6_begin_37 : decode cX6_begin 37 = .ok (.aload_n 1, 1) := by decide +kernel
theorem dX6_begin_38 : decode cX6_begin 38 = .ok (.getfield 37, 3) := by decide +kernel
theorem dX6_begin_41 : decode cX6_begin 41 = .ok (.iconst 1, 1) := by decide +kernel
theorem dX6_begin_42 : decode cX6_begin 42 = .ok (.isub, 1) := by decide +kernel
theorem dX6_begin_43 : decode cX6_begin 43 = .ok (.invokevirtual 49, 3) := by decide +kernel
theorem dX6_begin_46 : decode cX6_begin 46 = .ok (.putfield 52, 3) := by decide +kernel
theorem dX6_begin_49 : decode cX6_begin 49 = .ok (.aload_n 0, 1) := by decide +kernel
theorem dX6_begin_50 : decode cX6_begin 50 = .ok (.aload_n 1, 1) := by decide +kernel
theorem dX6_begin_51 : decode cX6_begin 51 = .ok (.aload_n 1, 1) := by decide +kernel
theorem dX6_begin_52 : decode cX6_begin 52 = .ok (.getfield 37, 3) := by decide +kernel
theorem dX6_begin_55 : decode cX6_begin 55 = .ok (.iconst 2, 1) := by decide +kernel
theorem dX6_begin_56 : decode cX6_begin 56 = .ok (.isub, 1) := by decide +kernel
theorem dX6_begin_57 : decode cX6_begin 57 = .ok (.invokevirtual 49, 3) := by decide +kernel
theorem dX6_begin_60 : decode cX6_begin 60 = .ok (.putfield 55, 3) := by decide +kernel
theorem dX6_begin_63 : decode cX6_begin 63 = .ok (.aload_n 0, 1) := by decide +kernel
theorem dX6_begin_64 : decode cX6_begin 64 = .ok (.aload_n 1, 1) := by decide +kernel
theorem dX6_begin_65 : decode cX6_begin 65 = .ok (.getfield 37, 3) := by decide +kernel
theorem dX6_begin_68 : decode cX6_begin 68 = .ok (.putfield 58, 3) := by decide +kernel
theorem dX6_begin_71 : decode cX6_begin 71 = .ok (.aload_n 0, 1) := by decide +kernel
theorem dX6_begin_72 : decode cX6_begin 72 = .ok (.getfield 9, 3) := by decide +kernel
theorem dX6_begin_75 : decode cX6_begin 75 = .ok (.iconst 1, 1) := by decide +kernel
theorem dX6_begin_76 : decode cX6_begin 76 = .ok (.invokevirtual 61, 3) := by decide +kernel
theorem dX6_begin_79 : decode cX6_begin 79 = .ok (.istore_n 3, 1) := by decide +kernel
theorem dX6_begin_80 : decode cX6_begin 80 = .ok (.aload_n 0, 1) := by decide +kernel
theorem dX6_begin_81 : decode cX6_begin 81 = .ok (.iload_n 3, 1) := by decide +kernel
theorem dX6_begin_82 : decode cX6_begin 82 = .ok (.bipush 32, 2) := by decide +kernel
theorem dX6_begin_84 : decode cX6_begin 84 = .ok (.iand, 1) := by decide +kernel
theorem dX6_begin_85 : decode cX6_begin 85 = .ok (.ifCond .eq 7, 3) := by decide +kernel
theorem dX6_begin_88 : decode cX6_begin 88 = .ok (.iconst 1, 1) := by decide +kernel
theorem dX6_begin_89 : decode cX6_begin 89 = .ok (.goto 4, 3) := by decide +kernel
theorem dX6_begin_92 : decode cX6_begin 92 = .ok (.iconst 0, 1) := by decide +kernel
theorem dX6_begin_93 : decode cX6_begin 93 = .ok (.putfield 66, 3) := by decide +kernel
theorem dX6_begin_96 : decode cX6_begin 96 = .ok (.aload_n 0, 1) := by decide +kernel
theorem dX6_begin_97 : decode cX6_begin 97 = .ok (.aload_n 0, 1) := by decide +kernel
theorem dX6_begin_98 : decode cX6_begin 98 = .ok (.getfield 66, 3) := by decide +kernel
theorem dX6_begin_101 : decode cX6_begin 101 = .ok (.ifCond .ne 10, 3) := by decide +kernel
theorem dX6_begin_104 : decode cX6_begin 104 = .ok (.iload_n 3, 1) := by decide +kernel
theorem dX6_begin_105 : decode cX6_begin 105 = .ok (.bipush 16, 2) := by decide +kernel
theorem dX6_begin_107 : decode cX6_begin 107 = .ok (.iand, 1) := by decide +kernel
theorem dX6_begin_108 : decode cX6_begin 108 = .ok (.ifCond .eq 7, 3) := by decide +kernel
theorem dX6_begin_111 : decode cX6_begin 111 = .ok (.iconst 1, 1) := by decide +kernel
theorem dX6_begin_112 : decode cX6_begin 112 = .ok (.goto 4, 3) := by decide +kernel
theorem dX6_begin_115 : decode cX6_begin 115 = .ok (.iconst 0, 1) := by decide +kernel
theorem dX6_begin_116 : decode cX6_begin 116 = .ok (.putfield 70, 3) := by decide +kernel
theorem dX6_begin_119 : decode cX6_begin 119 = .ok (.return_, 1) := by decide +kernel
theorem dX6_tell_0 : decode cX6_tell 0 = .ok (.aload_n 0, 1) := by decide +kernel
theorem dX6_tell_1 : decode cX6_tell 1 = .ok (.iload_n 1, 1) := by decide +kernel
theorem dX6_tell_2 : decode cX6_tell 2 = .ok (.putfield 73, 3) := by decide +kernel
theorem dX6_tell_5 : decode cX6_tell 5 = .ok (.aload_n 0, 1) := by decide +kernel
theorem dX6_tell_6 : decode cX6_tell 6 = .ok (.iload_n 2, 1) := by decide +kernel
theorem dX6_tell_7 : decode cX6_tell 7 = .ok (.putfield 76, 3) := by decide +kernel
theorem dX6_tell_10 : decode cX6_tell 10 = .ok (.aload_n 0, 1) := by decide +kernel
theorem dX6_tell_11 : decode cX6_tell 11 = .ok (.iload_n 3, 1) := by decide +kernel
theorem dX6_tell_12 : decode cX6_tell 12 = .ok (.putfield 79, 3) := by decide +kernel
theorem dX6_tell_15 : decode cX6_tell 15 = .ok (.aload_n 0, 1) := by decide +kernel
theorem dX6_tell_16 : decode cX6_tell 16 = .ok (.iload 4, 2) := by decide +kernel
theorem dX6_tell_18 : decode cX6_tell 18 = .ok (.putfield 82, 3) := by decide +kernel
theorem dX6_tell_21 : decode cX6_tell 21 = .ok (.return_, 1) := by decide +kernel
theorem dX6_answer_0 : decode cX6_answer 0 = .ok (.aload_n 0, 1) := by decide +kernel
theorem dX6_answer_1 : decode cX6_answer 1 = .ok (.iconst 0, 1) := by decide +kernel
theorem dX6_answer_2 : decode cX6_answer 2 = .ok (.aload_n 0, 1) := by decide +kernel
theorem dX6_answer_3 : decode cX6_answer 3 = .ok (.getfield 52, 3) := by decide +kernel
theorem dX6_answer_6 : decode cX6_answer 6 = .ok (.aload_n 0, 1) := by decide +kernel
theorem dX6_answer_7 : decode cX6_answer 7 = .ok (.getfield 55, 3) := by decide +kernel
theorem dX6_answer_10 : decode cX6_answer 10 = .ok (.invokevirtual 85, 3) := by decide +kernel
theorem dX6_answer_13 : decode cX6_answer 13 = .ok (.istore_n 2, 1) := by decide +kernel
theorem dX6_answer_14 : decode cX6_answer 14 = .ok (.iload_n 1, 1) := by decide +kernel
theorem dX6_answer_15 : decode cX6_answer 15 = .ok (.ifCond .ne 5, 3) := by decide +kernel
theorem dX6_answer_18 : decode cX6_answer 18 = .ok (.iload_n 2, 1) := by decide +kernel
theorem dX6_answer_19 : decode cX6_answer 19 = .ok (.ireturn, 1) := by decide +kernel
theorem dX6_answer_20 : decode cX6_answer 20 = .ok (.iconst 0, 1) := by decide +kernel
theorem dX6_answer_21 : decode cX6_answer 21 = .ok (.istore_n 3, 1) := by decide +kernel
theorem dX6_answer_22 : decode cX6_answer 22 = .ok (.iload_n 3, 1) := by decide +kernel
theorem dX6_answer_23 : decode cX6_answer 23 = .ok (.bipush 12, 2) := by decide +kernel
theorem dX6_answer_25 : decode cX6_answer 25 = .ok (.if_icmp .ge 50, 3) := by decide +kernel
theorem dX6_answer_28 : decode cX6_answer 28 = .ok (.aload_n 0, 1) := by decide +kernel
theorem dX6_answer_29 : decode cX6_answer 29 = .ok (.getfield 76, 3) := by decide +kernel
theorem dX6_answer_32 : decode cX6_answer 32 = .ok (.iload_n 3, 1) := by decide +kernel
theorem dX6_answer_33 : decode cX6_answer 33 = .ok (.ishr, 1) := by decide +kernel
theorem dX6_answer_34 : decode cX6_answer 34 = .ok (.iconst 1, 1) := by decide +kernel
theorem dX6_answer_35 : decode cX6_answer 35 = .ok (.iand, 1) := by decide +kernel
theorem dX6_answer_36 : decode cX6_answer 36 = .ok (.ifCond .eq 12, 3) := by decide +kernel
theorem dX6_answer_39 : decode cX6_answer 39 = .ok (.aload_n 0, 1) := by decide +kernel
theorem dX6_answer_40 : decode cX6_answer 40 = .ok (.iload_n 3, 1) := by decide +kernel
theorem dX6_answer_41 : decode cX6_answer 41 = .ok (.iload_n 2, 1) := by decide +kernel
theorem dX6_answer_42 : decode cX6_answer 42 = .ok (.invokevirtual 89, 3) := by decide +kernel
theorem dX6_answer_45 : decode cX6_answer 45 = .ok (.goto 4, 3) := by decide +kernel
theorem dX6_answer_48 : decode cX6_answer 48 = .ok (.iconst (-1), 1) := by decide +kernel
theorem dX6_answer_49 : decode cX6_answer 49 = .ok (.istore 4, 2) := by decide +kernel
theorem dX6_answer_51 : decode cX6_answer 51 = .ok (.iload 4, 2) := by decide +kernel
theorem dX6_answer_53 : decode cX6_answer 53 = .ok (.iconst (-1), 1) := by decide +kernel
theorem dX6_answer_54 : decode cX6_answer 54 = .ok (.if_icmp .eq 15, 3) := by decide +kernel
theorem dX6_answer_57 : decode cX6_answer 57 = .ok (.iload_n 1, 1) := by decide +kernel
theorem dX6_answer_58 : decode cX6_answer 58 = .ok (.iconst 1, 1) := by decide +kernel
theorem dX6_answer_59 : decode cX6_answer 59 = .ok (.if_icmp .ne 7, 3) := by decide +kernel
theorem dX6_answer_62 : decode cX6_answer 62 = .ok (.iload_n 3, 1) := by decide +kernel
theorem dX6_answer_63 : decode cX6_answer 63 = .ok (.goto 5, 3) := by decide +kernel
theorem dX6_answer_66 : decode cX6_answer 66 = .ok (.iload 4, 2) := by decide +kernel
theorem dX6_answer_68 : decode cX6_answer 68 = .ok (.ireturn, 1) := by decide +kernel
theorem dX6_answer_69 : decode cX6_answer 69 = .ok (.iinc 3 1, 3) := by decide +kernel
theorem dX6_answer_72 : decode cX6_answer 72 = .ok (.goto (-50), 3) := by decide +kernel
theorem dX6_answer_75 : decode cX6_answer 75 = .ok (.bipush (-2), 2) := by decide +kernel
theorem dX6_answer_77 : decode cX6_answer 77 = .ok (.ireturn, 1) := by decide +kernel
theorem dX6_firstLength_0 : decode cX6_firstLength 0 = .ok (.aload_n 0, 1) := by decide +kernel
theorem dX6_firstLength_1 : decode cX6_firstLength 1 = .ok (.getfield 9, 3) := by decide +kernel
theorem dX6_firstLength_4 : decode cX6_firstLength 4 = .ok (.aload_n 0, 1) := by decide +kernel
theorem dX6_firstLength_5 : decode cX6_firstLength 5 = .ok (.getfield 52, 3) := by decide +kernel
theorem dX6_firstLength_8 : decode cX6_firstLength 8 = .ok (.aload_n 0, 1) := by decide +kernel
theorem dX6_firstLength_9 : decode cX6_firstLength 9 = .ok (.getfield 55, 3) := by decide +kernel
theorem dX6_firstLength_12 : decode cX6_firstLength 12 = .ok (.aload_n 0, 1) := by decide +kernel
theorem dX6_firstLength_13 : decode cX6_firstLength 13 = .ok (.getfield 46, 3) := by decide +kernel
theorem dX6_firstLength_16 : decode cX6_firstLength 16 = .ok (.aload_n 0, 1) := by decide +kernel
theorem dX6_firstLength_17 : decode cX6_firstLength 17 = .ok (.getfield 58, 3) := by decide +kernel
theorem dX6_firstLength_20 : decode cX6_firstLength 20 = .ok (.invokevirtual 92, 3) := by decide +kernel
theorem dX6_firstLength_23 : decode cX6_firstLength 23 = .ok (.aload_n 0, 1) := by decide +kernel
theorem dX6_firstLength_24 : decode cX6_firstLength 24 = .ok (.getfield 9, 3) := by decide +kernel
theorem dX6_firstLength_27 : decode cX6_firstLength 27 = .ok (.iconst 1, 1) := by decide +kernel
theorem dX6_firstLength_28 : decode cX6_firstLength 28 = .ok (.aload_n 0, 1) := by decide +kernel
theorem dX6_firstLength_29 : decode cX6_firstLength 29 = .ok (.getfield 73, 3) := by decide +kernel
theorem dX6_firstLength_32 : decode cX6_firstLength 32 = .ok (.iload_n 1, 1) := by decide +kernel
theorem dX6_firstLength_33 : decode cX6_firstLength 33 = .ok (.aload_n 0, 1) := by decide +kernel
theorem dX6_firstLength_34 : decode cX6_firstLength 34 = .ok (.getfield 9, 3) := by decide +kernel
theorem dX6_firstLength_37 : decode cX6_firstLength 37 = .ok (.iload_n 1, 1) := by decide +kernel
theorem dX6_firstLength_38 : decode cX6_firstLength 38 = .ok (.invokevirtual 96, 3) := by decide +kernel
theorem dX6_firstLength_41 : decode cX6_firstLength 41 = .ok (.invokevirtual 99, 3) := by decide +kernel
theorem dX6_firstLength_44 : decode cX6_firstLength 44 = .ok (.istore_n 3, 1) := by decide +kernel
theorem dX6_firstLength_45 : decode cX6_firstLength 45 = .ok (.iconst 1, 1) := by decide +kernel
theorem dX6_firstLength_46 : decode cX6_firstLength 46 = .ok (.istore 4, 2) := by decide +kernel
theorem dX6_firstLength_48 : decode cX6_firstLength 48 = .ok (.iload 4, 2) := by decide +kernel
theorem dX6_firstLength_50 : decode cX6_firstLength 50 = .ok (.bipush 24, 2) := by decide +kernel
theorem dX6_firstLength_52 : decode cX6_firstLength 52 = .ok (.if_icmp .gt 37, 3) := by decide +kernel
theorem dX6_firstLength_55 : decode cX6_firstLength 55 = .ok (.iload_n 3, 1) := by decide +kernel
theorem dX6_firstLength_56 : decode cX6_firstLength 56 = .ok (.iload 4, 2) := by decide +kernel
theorem dX6_firstLength_58 : decode cX6_firstLength 58 = .ok (.ishr, 1) := by decide +kernel
theorem dX6_firstLength_59 : decode cX6_firstLength 59 = .ok (.iconst 1, 1) := by decide +kernel
theorem dX6_firstLength_60 : decode cX6_firstLength 60 = .ok (.iand, 1) := by decide +kernel
theorem dX6_firstLength_61 : decode cX6_firstLength 61 = .ok (.ifCond .eq 22, 3) := by decide +kernel
theorem dX6_firstLength_64 : decode cX6_firstLength 64 = .ok (.aload_n 0, 1) := by decide +kernel
theorem dX6_firstLength_65 : decode cX6_firstLength 65 = .ok (.iconst 1, 1) := by decide +kernel
theorem dX6_firstLength_66 : decode cX6_firstLength 66 = .ok (.iload 4, 2) := by decide +kernel
theorem dX6_firstLength_68 : decode cX6_firstLength 68 = .ok (.aload_n 0, 1) := by decide +kernel
theorem dX6_firstLength_69 : decode cX6_firstLength 69 = .ok (.getfield 52, 3) := by decide +kernel
theorem dX6_firstLength_72 : decode cX6_firstLength 72 = .ok (.invokevirtual 85, 3) := by decide +kernel
theorem dX6_firstLength_75 : decode cX6_firstLength 75 = .ok (.ineg, 1) := by decide +kernel
theorem dX6_firstLength_76 : decode cX6_firstLength 76 = .ok (.iload_n 2, 1) := by decide +kernel
theorem dX6_firstLength_77 : decode cX6_firstLength 77 = .ok (.if_icmp .ne 6, 3) := by decide +kernel
theorem dX6_firstLength_80 : decode cX6_firstLength 80 = .ok (.iload 4, 2) := by decide +kernel
theorem dX6_firstLength_82 : decode cX6_firstLength 82 = .ok (.ireturn, 1) := by decide +kernel
theorem dX6_firstLength_83 : decode cX6_firstLength 83 = .ok (.iinc 4 1, 3) := by decide +kernel
theorem dX6_firstLength_86 : decode cX6_firstLength 86 = .ok (.goto (-38), 3) := by decide +kernel
theorem dX6_firstLength_89 : decode cX6_firstLength 89 = .ok (.iconst (-1), 1) := by decide +kernel
theorem dX6_firstLength_90 : decode cX6_firstLength 90 = .ok (.ireturn, 1) := by decide +kernel
theorem dX6_value_0 : decode cX6_value 0 = .ok (.iload_n 1, 1) := by decide +kernel
theorem dX6_value_1 : decode cX6_value 1 = .ok (.aload_n 0, 1) := by decide +kernel
theorem dX6_value_2 : decode cX6_value 2 = .ok (.getfield 33, 3) := by decide +kernel
theorem dX6_value_5 : decode cX6_value 5 = .ok (.if_icmp .lt 5, 3) := by decide +kernel
theorem dX6_value_8 : decode cX6_value 8 = .ok (.iconst 0, 1) := by decide +kernel
theorem dX6_value_9 : decode cX6_value 9 = .ok (.ireturn, 1) := by decide +kernel
theorem dX6_value_10 : decode cX6_value 10 = .ok (.iload_n 1, 1) := by decide +kernel
theorem dX6_value_11 : decode cX6_value 11 = .ok (.sipush 625, 3) := by decide +kernel
theorem dX6_value_14 : decode cX6_value 14 = .ok (.imul, 1) := by decide +kernel
theorem dX6_value_15 : decode cX6_value 15 = .ok (.aload_n 0, 1) := by decide +kernel
theorem dX6_value_16 : decode cX6_value 16 = .ok (.getfield 70, 3) := by decide +kernel
theorem dX6_value_19 : decode cX6_value 19 = .ok (.ifCond .eq 10, 3) := by decide +kernel
theorem dX6_value_22 : decode cX6_value 22 = .ok (.iload_n 2, 1) := by decide +kernel
theorem dX6_value_23 : decode cX6_value 23 = .ok (.bipush 25, 2) := by decide +kernel
theorem dX6_value_25 : decode cX6_value 25 = .ok (.imul, 1) := by decide +kernel
theorem dX6_value_26 : decode cX6_value 26 = .ok (.goto 4, 3) := by decide +kernel
theorem dX6_value_29 : decode cX6_value 29 = .ok (.iconst 0, 1) := by decide +kernel
theorem dX6_value_30 : decode cX6_value 30 = .ok (.iadd, 1) := by decide +kernel
theorem dX6_value_31 : decode cX6_value 31 = .ok (.aload_n 0, 1) := by decide +kernel
theorem dX6_value_32 : decode cX6_value 32 = .ok (.getfield 66, 3) := by decide +kernel
theorem dX6_value_35 : decode cX6_value 35 = .ok (.ifCond .eq 7, 3) := by decide +kernel
theorem dX6_value_38 : decode cX6_value 38 = .ok (.iload_n 3, 1) := by decide +kernel
theorem dX6_value_39 : decode cX6_value 39 = .ok (.goto 4, 3) := by decide +kernel
theorem dX6_value_42 : decode cX6_value 42 = .ok (.iconst 0, 1) := by decide +kernel
theorem dX6_value_43 : decode cX6_value 43 = .ok (.iadd, 1) := by decide +kernel
theorem dX6_value_44 : decode cX6_value 44 = .ok (.istore 4, 2) := by decide +kernel
theorem dX6_value_46 : decode cX6_value 46 = .ok (.aload_n 0, 1) := by decide +kernel
theorem dX6_value_47 : decode cX6_value 47 = .ok (.getfield 15, 3) := by decide +kernel
theorem dX6_value_50 : decode cX6_value 50 = .ok (.iload 4, 2) := by decide +kernel
theorem dX6_value_52 : decode cX6_value 52 = .ok (.invokevirtual 103, 3) := by decide +kernel
theorem dX6_value_55 : decode cX6_value 55 = .ok (.ifCond .eq 13, 3) := by decide +kernel
theorem dX6_value_58 : decode cX6_value 58 = .ok (.aload_n 0, 1) := by decide +kernel
theorem dX6_value_59 : decode cX6_value 59 = .ok (.getfield 15, 3) := by decide +kernel
theorem dX6_value_62 : decode cX6_value 62 = .ok (.iload 4, 2) := by decide +kernel
theorem dX6_value_64 : decode cX6_value 64 = .ok (.invokevirtual 107, 3) := by decide +kernel
theorem dX6_value_67 : decode cX6_value 67 = .ok (.ireturn, 1) := by decide +kernel
theorem dX6_value_68 : decode cX6_value 68 = .ok (.iload_n 1, 1) := by decide +kernel
theorem dX6_value_69 : decode cX6_value 69 = .ok (.iconst 2, 1) := by decide +kernel
theorem dX6_value_70 : decode cX6_value 70 = .ok (.irem, 1) := by decide +kernel
theorem dX6_value_71 : decode cX6_value 71 = .ok (.ifCond .ne 7, 3) := by decide +kernel
theorem dX6_value_74 : decode cX6_value 74 = .ok (.iconst 1, 1) := by decide +kernel
theorem dX6_value_75 : decode cX6_value 75 = .ok (.goto 4, 3) := by decide +kernel
theorem dX6_value_78 : decode cX6_value 78 = .ok (.iconst 0, 1) := by decide +kernel
theorem dX6_value_79 : decode cX6_value 79 = .ok (.istore 5, 2) := by decide +kernel
theorem dX6_value_81 : decode cX6_value 81 = .ok (.iload_n 1, 1) := by decide +kernel
theorem dX6_value_82 : decode cX6_value 82 = .ok (.ifCond .ne 10, 3) := by decide +kernel
theorem dX6_value_85 : decode cX6_value 85 = .ok (.aload_n 0, 1) := by decide +kernel
theorem dX6_value_86 : decode cX6_value 86 = .ok (.getfield 46, 3) := by decide +kernel
theorem dX6_value_89 : decode cX6_value 89 = .ok (.goto 19, 3) := by decide +kernel
theorem dX6_value_92 : decode cX6_value 92 = .ok (.iload 5, 2) := by decide +kernel
theorem dX6_value_94 : decode cX6_value 94 = .ok (.ifCond .eq 10, 3) := by decide +kernel
theorem dX6_value_97 : decode cX6_value 97 = .ok (.aload_n 0, 1) := by decide +kernel
theorem dX6_value_98 : decode cX6_value 98 = .ok (.getfield 79, 3) := by decide +kernel
theorem dX6_value_101 : decode cX6_value 101 = .ok (.goto 7, 3) := by decide +kernel
theorem dX6_value_104 : decode cX6_value 104 = .ok (.aload_n 0, 1) := by decide +kernel
theorem dX6_value_105 : decode cX6_value 105 = .ok (.getfield 73, 3) := by decide +kernel
theorem dX6_value_108 : decode cX6_value 108 = .ok (.istore 6, 2) := by decide +kernel
theorem dX6_value_110 : decode cX6_value 110 = .ok (.aload_n 0, 1) := by decide +kernel
theorem dX6_value_111 : decode cX6_value 111 = .ok (.getfield 9, 3) := by decide +kernel
theorem dX6_value_114 : decode cX6_value 114 = .ok (.iload_n 2, 1) := by decide +kernel
theorem dX6_value_115 : decode cX6_value 115 = .ok (.iload_n 3, 1) := by decide +kernel
theorem dX6_value_116 : decode cX6_value 116 = .ok (.iload 6, 2) := by decide +kernel
theorem dX6_value_118 : decode cX6_value 118 = .ok (.aload_n 0, 1) := by decide +kernel
theorem dX6_value_119 : decode cX6_value 119 = .ok (.getfield 58, 3) := by decide +kernel
theorem dX6_value_122 : decode cX6_value 122 = .ok (.iload_n 1, 1) := by decide +kernel
theorem dX6_value_123 : decode cX6_value 123 = .ok (.iadd, 1) := by decide +kernel
theorem dX6_value_124 : decode cX6_value 124 = .ok (.invokevirtual 92, 3) := by decide +kernel
theorem dX6_value_127 : decode cX6_value 127 = .ok (.aload_n 0, 1) := by decide +kernel
theorem dX6_value_128 : decode cX6_value 128 = .ok (.getfield 9, 3) := by decide +kernel
theorem dX6_value_131 : decode cX6_value 131 = .ok (.iload 5, 2) := by decide +kernel
theorem dX6_value_133 : decode cX6_value 133 = .ok (.ifCond .eq 10, 3) := by decide +kernel
theorem dX6_value_136 : decode cX6_value 136 = .ok (.aload_n 0, 1) := by decide +kernel
theorem dX6_value_137 : decode cX6_value 137 = .ok (.getfield 73, 3) := by decide +kernel
theorem dX6_value_140 : decode cX6_value 140 = .ok (.goto 7, 3) := by decide +kernel
theorem dX6_value_143 : decode cX6_value 143 = .ok (.aload_n 0, 1) := by decide +kernel
theorem dX6_value_144 : decode cX6_value 144 = .ok (.getfield 79, 3) := by decide +kernel
theorem dX6_value_147 : decode cX6_value 147 = .ok (.iload 5, 2) := by decide +kernel
theorem dX6_value_149 : decode cX6_value 149 = .ok (.ifCond .eq 10, 3) := by decide +kernel
theorem dX6_value_152 : decode cX6_value 152 = .ok (.aload_n 0, 1) := by decide +kernel
theorem dX6_value_153 : decode cX6_value 153 = .ok (.getfield 76, 3) := by decide +kernel
theorem dX6_value_156 : decode cX6_value 156 = .ok (.goto 7, 3) := by decide +kernel
theorem dX6_value_159 : decode cX6_value 159 = .ok (.aload_n 0, 1) := by decide +kernel
theorem dX6_value_160 : decode cX6_value 160 = .ok (.getfield 82, 3) := by decide +kernel
theorem dX6_value_163 : decode cX6_value 163 = .ok (.ldc 110, 2) := by decide +kernel
theorem dX6_value_165 : decode cX6_value 165 = .ok (.invokevirtual 111, 3) := by decide +kernel
theorem dX6_value_168 : decode cX6_value 168 = .ok (.istore 7, 2) := by decide +kernel
theorem dX6_value_170 : decode cX6_value 170 = .ok (.iconst (-1), 1) := by decide +kernel
theorem dX6_value_171 : decode cX6_value 171 = .ok (.istore 8, 2) := by decide +kernel
theorem dX6_value_173 : decode cX6_value 173 = .ok (.iload 7, 2) := by decide +kernel
theorem dX6_value_175 : decode cX6_value 175 = .ok (.ifCond .eq 19, 3) := by decide +kernel
theorem dX6_value_178 : decode cX6_value 178 = .ok (.iload_n 1, 1) := by decide +kernel
theorem dX6_value_179 : decode cX6_value 179 = .ok (.aload_n 0, 1) := by decide +kernel
theorem dX6_value_180 : decode cX6_value 180 = .ok (.getfield 33, 3) := by decide +kernel
theorem dX6_value_183 : decode cX6_value 183 = .ok (.iconst 1, 1) := by decide +kernel
theorem dX6_value_184 : decode cX6_value 184 = .ok (.isub, 1) := by decide +kernel
theorem dX6_value_185 : decode cX6_value 185 = .ok (.if_icmp .ne 9, 3) := by decide +kernel
theorem dX6_value_188 : decode cX6_value 188 = .ok (.iconst 0, 1) := by decide +kernel
theorem dX6_value_189 : decode cX6_value 189 = .ok (.istore 8, 2) := by decide +kernel
theorem dX6_value_191 : decode cX6_value 191 = .ok (.goto 58, 3) := by decide +kernel
theorem dX6_value_194 : decode cX6_value 194 = .ok (.iconst 1, 1) := by decide +kernel
theorem dX6_value_195 : decode cX6_value 195 = .ok (.istore 9, 2) := by decide +kernel
theorem dX6_value_197 : decode cX6_value 197 = .ok (.iload 9, 2) := by decide +kernel
theorem dX6_value_199 : decode cX6_value 199 = .ok (.bipush 24, 2) := by decide +kernel
theorem dX6_value_201 : decode cX6_value 201 = .ok (.if_icmp .gt 48, 3) := by decide +kernel
theorem dX6_value_204 : decode cX6_value 204 = .ok (.iload 8, 2) := by decide +kernel
theorem dX6_value_206 : decode cX6_value 206 = .ok (.iconst 1, 1) := by decide +kernel
theorem dX6_value_207 : decode cX6_value 207 = .ok (.if_icmp .ge 42, 3) := by decide +kernel
theorem dX6_value_210 : decode cX6_value 210 = .ok (.iload 7, 2) := by decide +kernel
theorem dX6_value_212 : decode cX6_value 212 = .ok (.iload 9, 2) := by decide +kernel
theorem dX6_value_214 : decode cX6_value 214 = .ok (.ishr, 1) := by decide +kernel
theorem dX6_value_215 : decode cX6_value 215 = .ok (.iconst 1, 1) := by decide +kernel
theorem dX6_value_216 : decode cX6_value 216 = .ok (.iand, 1) := by decide +kernel
theorem dX6_value_217 : decode cX6_value 217 = .ok (.ifCond .eq 22, 3) := by decide +kernel
theorem dX6_value_220 : decode cX6_value 220 = .ok (.iload 8, 2) := by decide +kernel
theorem dX6_value_222 : decode cX6_value 222 = .ok (.aload_n 0, 1) := by decide +kernel
theorem dX6_value_223 : decode cX6_value 223 = .ok (.iload_n 1, 1) := by decide +kernel
theorem dX6_value_224 : decode cX6_value 224 = .ok (.iconst 1, 1) := by decide +kernel
theorem dX6_value_225 : decode cX6_value 225 = .ok (.iadd, 1) := by decide +kernel
theorem dX6_value_226 : decode cX6_value 226 = .ok (.iload 9, 2) := by decide +kernel
theorem dX6_value_228 : decode cX6_value 228 = .ok (.iload_n 2, 1) := by decide +kernel
theorem dX6_value_229 : decode cX6_value 229 = .ok (.invokevirtual 85, 3) := by decide +kernel
theorem dX6_value_232 : decode cX6_value 232 = .ok (.ineg, 1) := by decide +kernel
theorem dX6_value_233 : decode cX6_value 233 = .ok (.invokestatic 30, 3) := by decide +kernel
theorem dX6_value_236 : decode cX6_value 236 = .ok (.goto 5, 3) := by decide +kernel
theorem dX6_value_239 : decode cX6_value 239 = .ok (.iload 8, 2) := by decide +kernel
theorem dX6_value_241 : decode cX6_value 241 = .ok (.istore 8, 2) := by decide +kernel
theorem dX6_value_243 : decode cX6_value 243 = .ok (.iinc 9 1, 3) := by decide +kernel
theorem dX6_value_246 : decode cX6_value 246 = .ok (.goto (-49), 3) := by decide +kernel
theorem dX6_value_249 : decode cX6_value 249 = .ok (.aload_n 0, 1) := by decide +kernel
theorem dX6_value_250 : decode cX6_value 250 = .ok (.getfield 15, 3) := by decide +kernel
theorem dX6_value_253 : decode cX6_value 253 = .ok (.iload 4, 2) := by decide +kernel
theorem dX6_value_255 : decode cX6_value 255 = .ok (.iload 8, 2) := by decide +kernel
theorem dX6_value_257 : decode cX6_value 257 = .ok (.invokevirtual 114, 3) := by decide +kernel
theorem dX6_value_260 : decode cX6_value 260 = .ok (.iload 8, 2) := by decide +kernel
theorem dX6_value_262 : decode cX6_value 262 = .ok (.ireturn, 1) := by decide +kernel
theorem dX10_init_0 : decode cX10_init 0 = .ok (.aload_n 0, 1) := by decide +kernel
theorem dX10_init_1 : decode cX10_init 1 = .ok (.invokespecial 3, 3) := by decide +kernel
theorem dX10_init_4 : decode cX10_init 4 = .ok (.aload_n 0, 1) := by decide +kernel
theorem dX10_init_5 : decode cX10_init 5 = .ok (.sipush 175, 3) := by decide +kernel
theorem dX10_init_8 : decode cX10_init 8 = .ok (.newarray .int, 2) := by decide +kernel
theorem dX10_init_10 : decode cX10_init 10 = .ok (.putfield 11, 3) := by decide +kernel
theorem dX10_init_13 : decode cX10_init 13 = .ok (.aload_n 0, 1) := by decide +kernel
theorem dX10_init_14 : decode cX10_init 14 = .ok (.sipush 175, 3) := by decide +kernel
theorem dX10_init_17 : decode cX10_init 17 = .ok (.newarray .int, 2) := by decide +kernel
theorem dX10_init_19 : decode cX10_init 19 = .ok (.putfield 15, 3) := by decide +kernel
theorem dX10_init_22 : decode cX10_init 22 = .ok (.aload_n 0, 1) := by decide +kernel
theorem dX10_init_23 : decode cX10_init 23 = .ok (.sipush 175, 3) := by decide +kernel
theorem dX10_init_26 : decode cX10_init 26 = .ok (.newarray .int, 2) := by decide +kernel
theorem dX10_init_28 : decode cX10_init 28 = .ok (.putfield 18, 3) := by decide +kernel
theorem dX10_init_31 : decode cX10_init 31 = .ok (.aload_n 0, 1) := by decide +kernel
theorem dX10_init_32 : decode cX10_init 32 = .ok (.aload_n 1, 1) := by decide +kernel
theorem dX10_init_33 : decode cX10_init 33 = .ok (.putfield 21, 3) := by decide +kernel
theorem dX10_init_36 : decode cX10_init 36 = .ok (.return_, 1) := by decide +kernel
theorem dX10_answer_0 : decode cX10_answer 0 = .ok (.aload_n 0, 1) := by decide +kernel
theorem dX10_answer_1 : decode cX10_answer 1 = .ok (.iconst 1, 1) := by decide +kernel
theorem dX10_answer_2 : decode cX10_answer 2 = .ok (.iload_n 3, 1) := by decide +kernel
theorem dX10_answer_3 : decode cX10_answer 3 = .ok (.ishl, 1) := by decide +kernel
theorem dX10_answer_4 : decode cX10_answer 4 = .ok (.putfield 25, 3) := by decide +kernel
theorem dX10_answer_7 : decode cX10_answer 7 = .ok (.aload_n 0, 1) := by decide +kernel
theorem dX10_answer_8 : decode cX10_answer 8 = .ok (.getfield 21, 3) := by decide +kernel
theorem dX10_answer_11 : decode cX10_answer 11 = .ok (.invokevirtual 29, 3) := by decide +kernel
theorem dX10_answer_14 : decode cX10_answer 14 = .ok (.aload_n 0, 1) := by decide +kernel
theorem dX10_answer_15 : decode cX10_answer 15 = .ok (.getfield 25, 3) := by decide +kernel
theorem dX10_answer_18 : decode cX10_answer 18 = .ok (.iand, 1) := by decide +kernel
theorem dX10_answer_19 : decode cX10_answer 19 = .ok (.ifCond .ne 6, 3) := by decide +kernel
theorem dX10_answer_22 : decode cX10_answer 22 = .ok (.bipush (-2), 2) := by decide +kernel
theorem dX10_answer_24 : decode cX10_answer 24 = .ok (.ireturn, 1) := by decide +kernel
theorem dX10_answer_25 : decode cX10_answer 25 = .ok (.aload_n 0, 1) := by decide +kernel
theorem dX10_answer_26 : decode cX10_answer 26 = .ok (.aload_n 1, 1) := by decide +kernel
theorem dX10_answer_27 : decode cX10_answer 27 = .ok (.iload_n 2, 1) := by decide +kernel
theorem dX10_answer_28 : decode cX10_answer 28 = .ok (.invokevirtual 35, 3) := by decide +kernel
theorem dX10_answer_31 : decode cX10_answer 31 = .ok (.iconst 0, 1) := by decide +kernel
theorem dX10_answer_32 : decode cX10_answer 32 = .ok (.istore 4, 2) := by decide +kernel
theorem dX10_answer_34 : decode cX10_answer 34 = .ok (.iload 4, 2) := by decide +kernel
theorem dX10_answer_36 : decode cX10_answer 36 = .ok (.iconst 5, 1) := by decide +kernel
theorem dX10_answer_37 : decode cX10_answer 37 = .ok (.if_icmp .gt 49, 3) := by decide +kernel
theorem dX10_answer_40 : decode cX10_answer 40 = .ok (.aload_n 0, 1) := by decide +kernel
theorem dX10_answer_41 : decode cX10_answer 41 = .ok (.aload_n 1, 1) := by decide +kernel
theorem dX10_answer_42 : decode cX10_answer 42 = .ok (.getfield 39, 3) := by decide +kernel
theorem dX10_answer_45 : decode cX10_answer 45 = .ok (.iload 4, 2) := by decide +kernel
theorem dX10_answer_47 : decode cX10_answer 47 = .ok (.iadd, 1) := by decide +kernel
theorem dX10_answer_48 : decode cX10_answer 48 = .ok (.invokevirtual 44, 3) := by decide +kernel
theorem dX10_answer_51 : decode cX10_answer 51 = .ok (.ifCond .eq 6, 3) := by decide +kernel
theorem dX10_answer_54 : decode cX10_answer 54 = .ok (.iload 4, 2) := by decide +kernel
theorem dX10_answer_56 : decode cX10_answer 56 = .ok (.ireturn, 1) := by decide +kernel
theorem dX10_answer_57 : decode cX10_answer 57 = .ok (.iload 4, 2) := by decide +kernel
theorem dX10_answer_59 : decode cX10_answer 59 = .ok (.iconst 5, 1) := by decide +kernel
theorem dX10_answer_60 : decode cX10_answer 60 = .ok (.if_icmp .ge 20, 3) := by decide +kernel
theorem dX10_answer_63 : decode cX10_answer 63 = .ok (.aload_n 0, 1) := by decide +kernel
theorem dX10_answer_64 : decode cX10_answer 64 = .ok (.aload_n 1, 1) := by decide +kernel
theorem dX10_answer_65 : decode cX10_answer 65 = .ok (.getfield 39, 3) := by decide +kernel
theorem dX10_answer_68 : decode cX10_answer 68 = .ok (.iload 4, 2) := by decide +kernel
theorem dX10_answer_70 : decode cX10_answer 70 = .ok (.iadd, 1) := by decide +kernel
theorem dX10_answer_71 : decode cX10_answer 71 = .ok (.invokevirtual 48, 3) := by decide +kernel
theorem dX10_answer_74 : decode cX10_answer 74 = .ok (.ifCond .ne 6, 3) := by decide +kernel
theorem dX10_answer_77 : decode cX10_answer 77 = .ok (.bipush (-2), 2) := by decide +kernel
theorem dX10_answer_79 : decode cX10_answer 79 = .ok (.ireturn, 1) := by decide +kernel
theorem dX10_answer_80 : decode cX10_answer 80 = .ok (.iinc 4 1, 3) := by decide +kernel
theorem dX10_answer_83 : decode cX10_answer 83 = .ok (.goto (-49), 3) := by decide +kernel
theorem dX10_answer_86 : decode cX10_answer 86 = .ok (.bipush (-2), 2) := by decide +kernel
theorem dX10_answer_88 : decode cX10_answer 88 = .ok (.ireturn, 1) := by decide +kernel
theorem dX10_begin_0 : decode cX10_begin 0 = .ok (.aload_n 0, 1) := by decide +kernel
theorem dX10_begin_1 : decode cX10_begin 1 = .ok (.getfield 21, 3) := by decide +kernel
theorem dX10_begin_4 : decode cX10_begin 4 = .ok (.iconst 1, 1) := by decide +kernel
theorem dX10_begin_5 : decode cX10_begin 5 = .ok (.invokevirtual 51, 3) := by decide +kernel
theorem dX10_begin_8 : decode cX10_begin 8 = .ok (.istore_n 3, 1) := by decide +kernel
theorem dX10_begin_9 : decode cX10_begin 9 = .ok (.aload_n 0, 1) := by decide +kernel
theorem dX10_begin_10 : decode cX10_begin 10 = .ok (.aload_n 0, 1) := by decide +kernel
theorem dX10_begin_11 : decode cX10_begin 11 = .ok (.getfield 21, 3) := by decide +kernel
theorem dX10_begin_14 : decode cX10_begin 14 = .ok (.iload_n 2, 1) := by decide +kernel
theorem dX10_begin_15 : decode cX10_begin 15 = .ok (.iload_n 3, 1) := by decide +kernel
theorem dX10_begin_16 : decode cX10_begin 16 = .ok (.invokevirtual 55, 3) := by decide +kernel
theorem dX10_begin_19 : decode cX10_begin 19 = .ok (.putfield 59, 3) := by decide +kernel
theorem dX10_begin_22 : decode cX10_begin 22 = .ok (.aload_n 0, 1) := by decide +kernel
theorem dX10_begin_23 : decode cX10_begin 23 = .ok (.iload_n 3, 1) := by decide +kernel
theorem dX10_begin_24 : decode cX10_begin 24 = .ok (.bipush 32, 2) := by decide +kernel
theorem dX10_begin_26 : decode cX10_begin 26 = .ok (.iand, 1) := by decide +kernel
theorem dX10_begin_27 : decode cX10_begin 27 = .ok (.ifCond .eq 7, 3) := by decide +kernel
theorem dX10_begin_30 : decode cX10_begin 30 = .ok (.iconst 1, 1) := by decide +kernel
theorem dX10_begin_31 : decode cX10_begin 31 = .ok (.goto 4, 3) := by decide +kernel
theorem dX10_begin_34 : decode cX10_begin 34 = .ok (.iconst 0, 1) := by decide +kernel
theorem dX10_begin_35 : decode cX10_begin 35 = .ok (.putfield 62, 3) := by decide +kernel
theorem dX10_begin_38 : decode cX10_begin 38 = .ok (.aload_n 0, 1) := by decide +kernel
theorem dX10_begin_39 : decode cX10_begin 39 = .ok (.aload_n 0, 1) := by decide +kernel
theorem dX10_begin_40 : decode cX10_begin 40 = .ok (.getfield 62, 3) := by decide +kernel
theorem dX10_begin_43 : decode cX10_begin 43 = .ok (.ifCond .ne 10, 3) := by decide +kernel
theorem dX10_begin_46 : decode cX10_begin 46 = .ok (.iload_n 3, 1) := by decide +kernel
theorem dX10_begin_47 : decode cX10_begin 47 = .ok (.bipush 16, 2) := by decide +kernel
theorem dX10_begin_49 : decode cX10_begin 49 = .ok (.iand, 1) := by decide +kernel
theorem dX10_begin_50 : decode cX10_begin 50 = .ok (.ifCond .eq 7, 3) := by decide +kernel
theorem dX10_begin_53 : decode cX10_begin 53 = .ok (.iconst 1, 1) := by decide +kernel
theorem dX10_begin_54 : decode cX10_begin 54 = .ok (.goto 4, 3) := by decide +kernel
theorem dX10_begin_57 : decode cX10_begin 57 = .ok (.iconst 0, 1) := by decide +kernel
theorem dX10_begin_58 : decode cX10_begin 58 = .ok (.putfield 66, 3) := by decide +kernel
theorem dX10_begin_61 : decode cX10_begin 61 = .ok (.aload_n 0, 1) := by decide +kernel
theorem dX10_begin_62 : decode cX10_begin 62 = .ok (.iload_n 3, 1) := by decide +kernel
theorem dX10_begin_63 : decode cX10_begin 63 = .ok (.bipush 12, 2) := by decide +kernel
theorem dX10_begin_65 : decode cX10_begin 65 = .ok (.iand, 1) := by decide +kernel
theorem dX10_begin_66 : decode cX10_begin 66 = .ok (.ifCond .eq 7, 3) := by decide +kernel
theorem dX10_begin_69 : decode cX10_begin 69 = .ok (.iconst 1, 1) := by decide +kernel
theorem dX10_begin_70 : decode cX10_begin 70 = .ok (.goto 4, 3) := by decide +kernel
theorem dX10_begin_73 : decode cX10_begin 73 = .ok (.iconst 0, 1) := by decide +kernel
theorem dX10_begin_74 : decode cX10_begin 74 = .ok (.putfield 69, 3) := by decide +kernel
theorem dX10_begin_77 : decode cX10_begin 77 = .ok (.aload_n 0, 1) := by decide +kernel
theorem dX10_begin_78 : decode cX10_begin 78 = .ok (.iload_n 3, 1) := by decide +kernel
theorem dX10_begin_79 : decode cX10_begin 79 = .ok (.sipush 192, 3) := by decide +kernel
theorem dX10_begin_82 : decode cX10_begin 82 = .ok (.iand, 1) := by decide +kernel
theorem dX10_begin_83 : decode cX10_begin 83 = .ok (.ifCond .eq 7, 3) := by decide +kernel
theorem dX10_begin_86 : decode cX10_begin 86 = .ok (.iconst 1, 1) := by decide +kernel
theorem dX10_begin_87 : decode cX10_begin 87 = .ok (.goto 4, 3) := by decide +kernel
theorem dX10_begin_90 : decode cX10_begin 90 = .ok (.iconst 0, 1) := by decide +kernel
theorem dX10_begin_91 : decode cX10_begin 91 = .ok (.putfield 72, 3) := by decide +kernel
theorem dX10_begin_94 : decode cX10_begin 94 = .ok (.aload_n 0, 1) := by decide +kernel
theorem dX10_begin_95 : decode cX10_begin 95 = .ok (.iload_n 3, 1) := by decide +kernel
theorem dX10_begin_96 : decode cX10_begin 96 = .ok (.sipush 256, 3) := by decide +kernel
theorem dX10_begin_99 : decode cX10_begin 99 = .ok (.iand, 1) := by decide +kernel
theorem dX10_begin_100 : decode cX10_begin 100 = .ok (.ifCond .eq 7, 3) := by decide +kernel
theorem dX10_begin_103 : decode cX10_begin 103 = .ok (.iconst 1, 1) := by decide +kernel
theorem dX10_begin_104 : decode cX10_begin 104 = .ok (.goto 4, 3) := by decide +kernel
theorem dX10_begin_107 : decode cX10_begin 107 = .ok (.iconst 0, 1) := by decide +kernel
theorem dX10_begin_108 : decode cX10_begin 108 = .ok (.putfield 75, 3) := by decide +kernel
theorem dX10_begin_111 : decode cX10_begin 111 = .ok (.iconst 0, 1) := by decide +kernel
theorem dX10_begin_112 : decode cX10_begin 112 = .ok (.istore 4, 2) := by decide +kernel
theorem dX10_begin_114 : decode cX10_begin 114 = .ok (.iload 4, 2) := by decide +kernel
theorem dX10_begin_116 : decode cX10_begin 116 = .ok (.sipush 175, 3) := by decide +kernel
theorem dX10_begin_119 : decode cX10_begin 119 = .ok (.if_icmp .ge 25, 3) := by decide +kernel
theorem dX10_begin_122 : decode cX10_begin 122 = .ok (.aload_n 0, 1) := by decide +kernel
theorem dX10_begin_123 : decode cX10_begin 123 = .ok (.getfield 11, 3) := by decide +kernel
theorem dX10_begin_126 : decode cX10_begin 126 = .ok (.iload 4, 2) := by decide +kernel
theorem dX10_begin_128 : decode cX10_begin 128 = .ok (.iconst 0, 1) := by decide +kernel
theorem dX10_begin_129 : decode cX10_begin 129 = .ok (.iastore, 1) := by decide +kernel
theorem dX10_begin_130 : decode cX10_begin 130 = .ok (.aload_n 0, 1) := by decide +kernel
theorem dX10_begin_131 : decode cX10_begin 131 = .ok (.getfield 18, 3) := by decide +kernel
theorem dX10_begin_134 : decode cX10_begin 134 = .ok (.iload 4, 2) := by decide +kernel
theorem dX10_begin_136 : decode cX10_begin 136 = .ok (.iconst 0, 1) := by decide +kernel
theorem dX10_begin_137 : decode cX10_begin 137 = .ok (.iastore, 1) := by decide +kernel
theorem dX10_begin_138 : decode cX10_begin 138 = .ok (.iinc 4 1, 3) := by decide +kernel
theorem dX10_begin_141 : decode cX10_begin 141 = .ok (.goto (-27), 3) := by decide +kernel
theorem dX10_begin_144 : decode cX10_begin 144 = .ok (.aload_n 0, 1) := by decide +kernel
theorem dX10_begin_145 : decode cX10_begin 145 = .ok (.aload_n 1, 1) := by decide +kernel
theorem dX10_begin_146 : decode cX10_begin 146 = .ok (.aload_n 1, 1) := by decide +kernel
theorem dX10_begin_147 : decode cX10_begin 147 = .ok (.getfield 39, 3) := by decide +kernel
theorem dX10_begin_150 : decode cX10_begin 150 = .ok (.iconst 1, 1) := by decide +kernel
theorem dX10_begin_151 : decode cX10_begin 151 = .ok (.isub, 1) := by decide +kernel
theorem dX10_begin_152 : decode cX10_begin 152 = .ok (.invokevirtual 78, 3) := by decide +kernel
theorem dX10_begin_155 : decode cX10_begin 155 = .ok (.aload_n 1, 1) := by decide +kernel
theorem dX10_begin_156 : decode cX10_begin 156 = .ok (.aload_n 1, 1) := by decide +kernel
theorem dX10_begin_157 : decode cX10_begin 157 = .ok (.getfield 39, 3) := by decide +kernel
theorem dX10_begin_160 : decode cX10_begin 160 = .ok (.iconst 2, 1) := by decide +kernel
theorem dX10_begin_161 : decode cX10_begin 161 = .ok (.isub, 1) := by decide +kernel
theorem dX10_begin_162 : decode cX10_begin 162 = .ok (.invokevirtual 81, 3) := by decide +kernel
theorem dX10_begin_165 : decode cX10_begin 165 = .ok (.invokevirtual 84, 3) := by decide +kernel
theorem dX10_begin_168 : decode cX10_begin 168 = .ok (.istore 4, 2) := by decide +kernel
theorem dX10_begin_170 : decode cX10_begin 170 = .ok (.iload 4, 2) := by decide +kernel
theorem dX10_begin_172 : decode cX10_begin 172 = .ok (.ifCond .lt 55, 3) := by decide +kernel
theorem dX10_begin_175 : decode cX10_begin 175 = .ok (.iload 4, 2) := by decide +kernel
theorem dX10_begin_177 : decode cX10_begin 177 = .ok (.sipush 175, 3) := by decide +kernel
theorem dX10_begin_180 : decode cX10_begin 180 = .ok (.if_icmp .ge 47, 3) := by decide +kernel
theorem dX10_begin_183 : decode cX10_begin 183 = .ok (.aload_n 0, 1) := by decide +kernel
theorem dX10_begin_184 : decode cX10_begin 184 = .ok (.getfield 11, 3) := by decide +kernel
theorem dX10_begin_187 : decode cX10_begin 187 = .ok (.iload 4, 2) := by decide +kernel
theorem dX10_begin_189 : decode cX10_begin 189 = .ok (.aload_n 0, 1) := by decide +kernel
theorem dX10_begin_190 : decode cX10_begin 190 = .ok (.getfield 66, 3) := by decide +kernel
theorem dX10_begin_193 : decode cX10_begin 193 = .ok (.ifCond .eq 18, 3) := by decide +kernel
theorem dX10_begin_196 : decode cX10_begin 196 = .ok (.iconst 1, 1) := by decide +kernel
theorem dX10_begin_197 : decode cX10_begin 197 = .ok (.aload_n 1, 1) := by decide +kernel
theorem dX10_begin_198 : decode cX10_begin 198 = .ok (.aload_n 1, 1) := by decide +kernel
theorem dX10_begin_199 : decode cX10_begin 199 = .ok (.getfield 39, 3) := by decide +kernel
theorem dX10_begin_202 : decode cX10_begin 202 = .ok (.iconst 1, 1) := by decide +kernel
theorem dX10_begin_203 : decode cX10_begin 203 = .ok (.isub, 1) := by decide +kernel
theorem dX10_begin_204 : decode cX10_begin 204 = .ok (.invokevirtual 81, 3) := by decide +kernel
theorem dX10_begin_207 : decode cX10_begin 207 = .ok (.ishl, 1) := by decide +kernel
theorem dX10_begin_208 : decode cX10_begin 208 = .ok (.goto 4, 3) := by decide +kernel
theorem dX10_begin_211 : decode cX10_begin 211 = .ok (.iconst 1, 1) := by decide +kernel
theorem dX10_begin_212 : decode cX10_begin 212 = .ok (.iastore, 1) := by decide +kernel
theorem dX10_begin_213 : decode cX10_begin 213 = .ok (.aload_n 0, 1) := by decide +kernel
theorem dX10_begin_214 : decode cX10_begin 214 = .ok (.getfield 18, 3) := by decide +kernel
theorem dX10_begin_217 : decode cX10_begin 217 = .ok (.iload 4, 2) := by decide +kernel
theorem dX10_begin_219 : decode cX10_begin 219 = .ok (.aload_n 0, 1) := by decide +kernel
theorem dX10_begin_220 : decode cX10_begin 220 = .ok (.getfield 11, 3) := by decide +kernel
theorem dX10_begin_223 : decode cX10_begin 223 = .ok (.iload 4, 2) := by decide +kernel
theorem dX10_begin_225 : decode cX10_begin 225 = .ok (.iaload, 1) := by decide +kernel
theorem dX10_begin_226 : decode cX10_begin 226 = .ok (.iastore, 1) := by decide +kernel
theorem dX10_begin_227 : decode cX10_begin 227 = .ok (.return_, 1) := by decide +kernel
theorem dX10_rowOf_0 : decode cX10_rowOf 0 = .ok (.aload_n 0, 1) := by decide +kernel
theorem dX10_rowOf_1 : decode cX10_rowOf 1 = .ok (.getfield 72, 3) := by decide +kernel
theorem dX10_rowOf_4 : decode cX10_rowOf 4 = .ok (.ifCond .eq 9, 3) := by decide +kernel
theorem dX10_rowOf_7 : decode cX10_rowOf 7 = .ok (.iload_n 1, 1) := by decide +kernel
theorem dX10_rowOf_8 : decode cX10_rowOf 8 = .ok (.iconst 1, 1) := by decide +kernel
theorem dX10_rowOf_9 : decode cX10_rowOf 9 = .ok (.iadd, 1) := by decide +kernel
theorem dX10_rowOf_10 : decode cX10_rowOf 10 = .ok (.goto 4, 3) := by decide +kernel
theorem dX10_rowOf_13 : decode cX10_rowOf 13 = .ok (.iconst 0, 1) := by decide +kernel
theorem dX10_rowOf_14 : decode cX10_rowOf 14 = .ok (.bipush 25, 2) := by decide +kernel
theorem dX10_rowOf_16 : decode cX10_rowOf 16 = .ok (.imul, 1) := by decide +kernel
theorem dX10_rowOf_17 : decode cX10_rowOf 17 = .ok (.aload_n 0, 1) := by decide +kernel
theorem dX10_rowOf_18 : decode cX10_rowOf 18 = .ok (.getfield 62, 3) := by decide +kernel
theorem dX10_rowOf_21 : decode cX10_rowOf 21 = .ok (.ifCond .eq 7, 3) := by decide +kernel
theorem dX10_rowOf_24 : decode cX10_rowOf 24 = .ok (.iload_n 2, 1) := by decide +kernel
theorem dX10_rowOf_25 : decode cX10_rowOf 25 = .ok (.goto 4, 3) := by decide +kernel
theorem dX10_rowOf_28 : decode cX10_rowOf 28 = .ok (.iconst 0, 1) := by decide +kernel
theorem dX10_rowOf_29 : decode cX10_rowOf 29 = .ok (.iadd, 1) := by decide +kernel
theorem dX10_rowOf_30 : decode cX10_rowOf 30 = .ok (.ireturn, 1) := by decide +kernel
theorem dX10_standAt_0 : decode cX10_standAt 0 = .ok (.aload_n 0, 1) := by decide +kernel
theorem dX10_standAt_1 : decode cX10_standAt 1 = .ok (.getfield 21, 3) := by decide +kernel
theorem dX10_standAt_4 : decode cX10_standAt 4 = .ok (.iload_n 2, 1) := by decide +kernel
theorem dX10_standAt_5 : decode cX10_standAt 5 = .ok (.iload_n 1, 1) := by decide +kernel
theorem dX10_standAt_6 : decode cX10_standAt 6 = .ok (.bipush 25, 2) := by decide +kernel
theorem dX10_standAt_8 : decode cX10_standAt 8 = .ok (.irem, 1) := by decide +kernel
theorem dX10_standAt_9 : decode cX10_standAt 9 = .ok (.iload_n 1, 1) := by decide +kernel
theorem dX10_standAt_10 : decode cX10_standAt 10 = .ok (.bipush 25, 2) := by decide +kernel
theorem dX10_standAt_12 : decode cX10_standAt 12 = .ok (.idiv, 1) := by decide +kernel
theorem dX10_standAt_13 : decode cX10_standAt 13 = .ok (.iconst 1, 1) := by decide +kernel
theorem dX10_standAt_14 : decode cX10_standAt 14 = .ok (.isub, 1) := by decide +kernel
theorem dX10_standAt_15 : decode cX10_standAt 15 = .ok (.iload_n 3, 1) := by decide +kernel
theorem dX10_standAt_16 : decode cX10_standAt 16 = .ok (.invokevirtual 87, 3) := by decide +kernel
theorem dX10_standAt_19 : decode cX10_standAt 19 = .ok (.return_, 1) := by decide +kernel
theorem dX10_somebodyMay_0 : decode cX10_somebodyMay 0 = .ok (.iconst 0, 1) := by decide +kernel
theorem dX10_somebodyMay_1 : decode cX10_somebodyMay 1 = .ok (.istore_n 2, 1) := by decide +kernel
theorem dX10_somebodyMay_2 : decode cX10_somebodyMay 2 = .ok (.iload_n 2, 1) := by decide +kernel
theorem dX10_somebodyMay_3 : decode cX10_somebodyMay 3 = .ok (.sipush 175, 3) := by decide +kernel
theorem dX10_somebodyMay_6 : decode cX10_somebodyMay 6 = .ok (.if_icmp .ge 61, 3) := by decide +kernel
theorem dX10_somebodyMay_9 : decode cX10_somebodyMay 9 = .ok (.iconst 0, 1) := by decide +kernel
theorem dX10_somebodyMay_10 : decode cX10_somebodyMay 10 = .ok (.istore_n 3, 1) := by decide +kernel
theorem dX10_somebodyMay_11 : decode cX10_somebodyMay 11 = .ok (.iload_n 3, 1) := by decide +kernel
theorem dX10_somebodyMay_12 : decode cX10_somebodyMay 12 = .ok (.bipush 25, 2) := by decide +kernel
theorem dX10_somebodyMay_14 : decode cX10_somebodyMay 14 = .ok (.if_icmp .ge 47, 3) := by decide +kernel
theorem dX10_somebodyMay_17 : decode cX10_somebodyMay 17 = .ok (.aload_n 0, 1) := by decide +kernel
theorem dX10_somebodyMay_18 : decode cX10_somebodyMay 18 = .ok (.getfield 11, 3) := by decide +kernel
theorem dX10_somebodyMay_21 : decode cX10_somebodyMay 21 = .ok (.iload_n 2, 1) := by decide +kernel
theorem dX10_somebodyMay_22 : decode cX10_somebodyMay 22 = .ok (.iaload, 1) := by decide +kernel
theorem dX10_somebodyMay_23 : decode cX10_somebodyMay 23 = .ok (.ifCond .eq 38, 3) := by decide +kernel
theorem dX10_somebodyMay_26 : decode cX10_somebodyMay 26 = .ok (.aload_n 0, 1) := by decide +kernel
theorem dX10_somebodyMay_27 : decode cX10_somebodyMay 27 = .ok (.getfield 11, 3) := by decide +kernel
theorem dX10_somebodyMay_30 : decode cX10_somebodyMay 30 = .ok (.iload_n 2, 1) := by decide +kernel
theorem dX10_somebodyMay_31 : decode cX10_somebodyMay 31 = .ok (.iaload, 1) := by decide +kernel
theorem dX10_somebodyMay_32 : decode cX10_somebodyMay 32 = .ok (.iload_n 3, 1) := by decide +kernel
theorem dX10_somebodyMay_33 : decode cX10_somebodyMay 33 = .ok (.ishr, 1) := by decide +kernel
theorem dX10_somebodyMay_34 : decode cX10_somebodyMay 34 = .ok (.iconst 1, 1) := by decide +kernel
theorem dX10_somebodyMay_35 : decode cX10_somebodyMay 35 = .ok (.iand, 1) := by decide +kernel
theorem dX10_somebodyMay_36 : decode cX10_somebodyMay 36 = .ok (.ifCond .eq 19, 3) := by decide +kernel
theorem dX10_somebodyMay_39 : decode cX10_somebodyMay 39 = .ok (.aload_n 0, 1) := by decide +kernel
theorem dX10_somebodyMay_40 : decode cX10_somebodyMay 40 = .ok (.iload_n 2, 1) := by decide +kernel
theorem dX10_somebodyMay_41 : decode cX10_somebodyMay 41 = .ok (.iload_n 3, 1) := by decide +kernel
theorem dX10_somebodyMay_42 : decode cX10_somebodyMay 42 = .ok (.iload_n 1, 1) := by decide +kernel
theorem dX10_somebodyMay_43 : decode cX10_somebodyMay 43 = .ok (.invokevirtual 91, 3) := by decide +kernel
theorem dX10_somebodyMay_46 : decode cX10_somebodyMay 46 = .ok (.aload_n 0, 1) := by decide +kernel
theorem dX10_somebodyMay_47 : decode cX10_somebodyMay 47 = .ok (.invokevirtual 95, 3) := by decide +kernel
theorem dX10_somebodyMay_50 : decode cX10_somebodyMay 50 = .ok (.ifCond .eq 5, 3) := by decide +kernel
theorem dX10_somebodyMay_53 : decode cX10_somebodyMay 53 = .ok (.iconst 1, 1) := by decide +kernel
theorem dX10_somebodyMay_54 : decode cX10_somebodyMay 54 = .ok (.ireturn, 1) := by decide +kernel
theorem dX10_somebodyMay_55 : decode cX10_somebodyMay 55 = .ok (.iinc 3 1, 3) := by decide +kernel
theorem dX10_somebodyMay_58 : decode cX10_somebodyMay 58 = .ok (.goto (-47), 3) := by decide +kernel
theorem dX10_somebodyMay_61 : decode cX10_somebodyMay 61 = .ok (.iinc 2 1, 3) := by decide +kernel
theorem dX10_somebodyMay_64 : decode cX10_somebodyMay 64 = .ok (.goto (-62), 3) := by decide +kernel
theorem dX10_somebodyMay_67 : decode cX10_somebodyMay 67 = .ok (.iconst 0, 1) := by decide +kernel
theorem dX10_somebodyMay_68 : decode cX10_somebodyMay 68 = .ok (.ireturn, 1) := by decide +kernel
theorem dX10_anyMay_0 : decode cX10_anyMay 0 = .ok (.iconst 0, 1) := by decide +kernel
theorem dX10_anyMay_1 : decode cX10_anyMay 1 = .ok (.istore_n 1, 1) := by decide +kernel
theorem dX10_anyMay_2 : decode cX10_anyMay 2 = .ok (.iload_n 1, 1) := by decide +kernel
theorem dX10_anyMay_3 : decode cX10_anyMay 3 = .ok (.bipush 6, 2) := by decide +kernel
theorem dX10_anyMay_5 : decode cX10_anyMay 5 = .ok (.if_icmp .ge 49, 3) := by decide +kernel
theorem dX10_anyMay_8 : decode cX10_anyMay 8 = .ok (.aload_n 0, 1) := by decide +kernel
theorem dX10_anyMay_9 : decode cX10_anyMay 9 = .ok (.getfield 59, 3) := by decide +kernel
theorem dX10_anyMay_12 : decode cX10_anyMay 12 = .ok (.iload_n 1, 1) := by decide +kernel
theorem dX10_anyMay_13 : decode cX10_anyMay 13 = .ok (.ishr, 1) := by decide +kernel
theorem dX10_anyMay_14 : decode cX10_anyMay 14 = .ok (.iconst 1, 1) := by decide +kernel
theorem dX10_anyMay_15 : decode cX10_anyMay 15 = .ok (.iand, 1) := by decide +kernel
theorem dX10_anyMay_16 : decode cX10_anyMay 16 = .ok (.ifCond .eq 32, 3) := by decide +kernel
theorem dX10_anyMay_19 : decode cX10_anyMay 19 = .ok (.aload_n 0, 1) := by decide +kernel
theorem dX10_anyMay_20 : decode cX10_anyMay 20 = .ok (.getfield 21, 3) := by decide +kernel
theorem dX10_anyMay_23 : decode cX10_anyMay 23 = .ok (.iload_n 1, 1) := by decide +kernel
theorem dX10_anyMay_24 : decode cX10_anyMay 24 = .ok (.sipush 4095, 3) := by decide +kernel
theorem dX10_anyMay_27 : decode cX10_anyMay 27 = .ok (.aload_n 0, 1) := by decide +kernel
theorem dX10_anyMay_28 : decode cX10_anyMay 28 = .ok (.getfield 25, 3) := by decide +kernel
theorem dX10_anyMay_31 : decode cX10_anyMay 31 = .ok (.invokevirtual 99, 3) := by decide +kernel
theorem dX10_anyMay_34 : decode cX10_anyMay 34 = .ok (.ifCond .eq 5, 3) := by decide +kernel
theorem dX10_anyMay_37 : decode cX10_anyMay 37 = .ok (.iconst 1, 1) := by decide +kernel
theorem dX10_anyMay_38 : decode cX10_anyMay 38 = .ok (.ireturn, 1) := by decide +kernel
theorem dX10_anyMay_39 : decode cX10_anyMay 39 = .ok (.aload_n 0, 1) := by decide +kernel
theorem dX10_anyMay_40 : decode cX10_anyMay 40 = .ok (.getfield 69, 3) := by decide +kernel
theorem dX10_anyMay_43 : decode cX10_anyMay 43 = .ok (.ifCond .ne 5, 3) := by decide +kernel
theorem dX10_anyMay_46 : decode cX10_anyMay 46 = .ok (.iconst 0, 1) := by decide +kernel
theorem dX10_anyMay_47 : decode cX10_anyMay 47 = .ok (.ireturn, 1) := by decide +kernel
theorem dX10_anyMay_48 : decode cX10_anyMay 48 = .ok (.iinc 1 1, 3) := by decide +kernel
theorem dX10_anyMay_51 : decode cX10_anyMay 51 = .ok (.goto (-49), 3) := by decide +kernel
theorem dX10_anyMay_54 : decode cX10_anyMay 54 = .ok (.iconst 0, 1) := by decide +kernel
theorem dX10_anyMay_55 : decode cX10_anyMay 55 = .ok (.ireturn, 1) := by decide +kernel
theorem dX10_spread_0 : decode cX10_spread 0 = .ok (.iconst 0, 1) := by decide +kernel
theorem dX10_spread_1 : decode cX10_spread 1 = .ok (.istore_n 2, 1) := by decide +kernel
theorem dX10_spread_2 : decode cX10_spread 2 = .ok (.iload_n 2, 1) := by decide +kernel
theorem dX10_spread_3 : decode cX10_spread 3 = .ok (.sipush 175, 3) := by decide +kernel
theorem dX10_spread_6 : decode cX10_spread 6 = .ok (.if_icmp .ge 16, 3) := by decide +kernel
theorem dX10_spread_9 : decode cX10_spread 9 = .ok (.aload_n 0, 1) := by decide +kernel
theorem dX10_spread_10 : decode cX10_spread 10 = .ok (.getfield 15, 3) := by decide +kernel
theorem dX10_spread_13 : decode cX10_spread 13 = .ok (.iload_n 2, 1) := by decide +kernel
theorem dX10_spread_14 : decode cX10_spread 14 = .ok (.iconst 0, 1) := by decide +kernel
theorem dX10_spread_15 : decode cX10_spread 15 = .ok (.iastore, 1) := by decide +kernel
theorem dX10_spread_16 : decode cX10_spread 16 = .ok (.iinc 2 1, 3) := by decide +kernel
theorem dX10_spread_19 : decode cX10_spread 19 = .ok (.goto (-17), 3) := by decide +kernel
theorem dX10_spread_22 : decode cX10_spread 22 = .ok (.iconst 0, 1) := by decide +kernel
theorem dX10_spread_23 : decode cX10_spread 23 = .ok (.istore_n 2, 1) := by decide +kernel
theorem dX10_spread_24 : decode cX10_spread 24 = .ok (.iload_n 2, 1) := by decide +kernel
theorem dX10_spread_25 : decode cX10_spread 25 = .ok (.sipush 175, 3) := by decide +kernel
theorem dX10_spread_28 : decode cX10_spread 28 = .ok (.if_icmp .ge 57, 3) := by decide +kernel
theorem dX10_spread_31 : decode cX10_spread 31 = .ok (.iconst 0, 1) := by decide +kernel
theorem dX10_spread_32 : decode cX10_spread 32 = .ok (.istore_n 3, 1) := by decide +kernel
theorem dX10_spread_33 : decode cX10_spread 33 = .ok (.iload_n 3, 1) := by decide +kernel
theorem dX10_spread_34 : decode cX10_spread 34 = .ok (.bipush 25, 2) := by decide +kernel
theorem dX10_spread_36 : decode cX10_spread 36 = .ok (.if_icmp .ge 43, 3) := by decide +kernel
theorem dX10_spread_39 : decode cX10_spread 39 = .ok (.aload_n 0, 1) := by decide +kernel
theorem dX10_spread_40 : decode cX10_spread 40 = .ok (.getfield 11, 3) := by decide +kernel
theorem dX10_spread_43 : decode cX10_spread 43 = .ok (.iload_n 2, 1) := by decide +kernel
theorem dX10_spread_44 : decode cX10_spread 44 = .ok (.iaload, 1) := by decide +kernel
theorem dX10_spread_45 : decode cX10_spread 45 = .ok (.ifCond .eq 34, 3) := by decide +kernel
theorem dX10_spread_48 : decode cX10_spread 48 = .ok (.aload_n 0, 1) := by decide +kernel
theorem dX10_spread_49 : decode cX10_spread 49 = .ok (.getfield 11, 3) := by decide +kernel
theorem dX10_spread_52 : decode cX10_spread 52 = .ok (.iload_n 2, 1) := by decide +kernel
theorem dX10_spread_53 : decode cX10_spread 53 = .ok (.iaload, 1) := by decide +kernel
theorem dX10_spread_54 : decode cX10_spread 54 = .ok (.iload_n 3, 1) := by decide +kernel
theorem dX10_spread_55 : decode cX10_spread 55 = .ok (.ishr, 1) := by decide +kernel
theorem dX10_spread_56 : decode cX10_spread 56 = .ok (.iconst 1, 1) := by decide +kernel
theorem dX10_spread_57 : decode cX10_spread 57 = .ok (.iand, 1) := by decide +kernel
theorem dX10_spread_58 : decode cX10_spread 58 = .ok (.ifCond .eq 15, 3) := by decide +kernel
theorem dX10_spread_61 : decode cX10_spread 61 = .ok (.aload_n 0, 1) := by decide +kernel
theorem dX10_spread_62 : decode cX10_spread 62 = .ok (.iload_n 2, 1) := by decide +kernel
theorem dX10_spread_63 : decode cX10_spread 63 = .ok (.iload_n 3, 1) := by decide +kernel
theorem dX10_spread_64 : decode cX10_spread 64 = .ok (.iload_n 1, 1) := by decide +kernel
theorem dX10_spread_65 : decode cX10_spread 65 = .ok (.invokevirtual 91, 3) := by decide +kernel
theorem dX10_spread_68 : decode cX10_spread 68 = .ok (.aload_n 0, 1) := by decide +kernel
theorem dX10_spread_69 : decode cX10_spread 69 = .ok (.iload_n 3, 1) := by decide +kernel
theorem dX10_spread_70 : decode cX10_spread 70 = .ok (.invokevirtual 103, 3) := by decide +kernel
theorem dX10_spread_73 : decode cX10_spread 73 = .ok (.iinc 3 1, 3) := by decide +kernel
theorem dX10_spread_76 : decode cX10_spread 76 = .ok (.goto (-43), 3) := by decide +kernel
theorem dX10_spread_79 : decode cX10_spread 79 = .ok (.iinc 2 1, 3) := by decide +kernel
theorem dX10_spread_82 : decode cX10_spread 82 = .ok (.goto (-58), 3) := by decide +kernel
theorem dX10_spread_85 : decode cX10_spread 85 = .ok (.iconst 0, 1) := by decide +kernel
theorem dX10_spread_86 : decode cX10_spread 86 = .ok (.istore_n 2, 1) := by decide +kernel
theorem dX10_spread_87 : decode cX10_spread 87 = .ok (.iconst 0, 1) := by decide +kernel
theorem dX10_spread_88 : decode cX10_spread 88 = .ok (.istore_n 3, 1) := by decide +kernel
theorem dX10_spread_89 : decode cX10_spread 89 = .ok (.iload_n 3, 1) := by decide +kernel
theorem dX10_spread_90 : decode cX10_spread 90 = .ok (.sipush 175, 3) := by decide +kernel
theorem dX10_spread_93 : decode cX10_spread 93 = .ok (.if_icmp .ge 80, 3) := by decide +kernel
theorem dX10_spread_96 : decode cX10_spread 96 = .ok (.aload_n 0, 1) := by decide +kernel
theorem dX10_spread_97 : decode cX10_spread 97 = .ok (.getfield 11, 3) := by decide +kernel
theorem dX10_spread_100 : decode cX10_spread 100 = .ok (.iload_n 3, 1) := by decide +kernel
theorem dX10_spread_101 : decode cX10_spread 101 = .ok (.aload_n 0, 1) := by decide +kernel
theorem dX10_spread_102 : decode cX10_spread 102 = .ok (.getfield 75, 3) := by decide +kernel
theorem dX10_spread_105 : decode cX10_spread 105 = .ok (.ifCond .eq 12, 3) := by decide +kernel
theorem dX10_spread_108 : decode cX10_spread 108 = .ok (.aload_n 0, 1) := by decide +kernel
theorem dX10_spread_109 : decode cX10_spread 109 = .ok (.getfield 15, 3) := by decide +kernel
theorem dX10_spread_112 : decode cX10_spread 112 = .ok (.iload_n 3, 1) := by decide +kernel
theorem dX10_spread_113 : decode cX10_spread 113 = .ok (.iaload, 1) := by decide +kernel
theorem dX10_spread_114 : decode cX10_spread 114 = .ok (.goto 18, 3) := by decide +kernel
theorem dX10_spread_117 : decode cX10_spread 117 = .ok (.aload_n 0, 1) := by decide +kernel
theorem dX10_spread_118 : decode cX10_spread 118 = .ok (.getfield 15, 3) := by decide +kernel
theorem dX10_spread_121 : decode cX10_spread 121 = .ok (.iload_n 3, 1) := by decide +kernel
theorem dX10_spread_122 : decode cX10_spread 122 = .ok (.iaload, 1) := by decide +kernel
theorem dX10_spread_123 : decode cX10_spread 123 = .ok (.aload_n 0, 1) := by decide +kernel
theorem dX10_spread_124 : decode cX10_spread 124 = .ok (.getfield 18, 3) := by decide +kernel
theorem dX10_spread_127 : decode cX10_spread 127 = .ok (.iload_n 3, 1) := by decide +kernel
theorem dX10_spread_128 : decode cX10_spread 128 = .ok (.iaload, 1) := by decide +kernel
theorem dX10_spread_129 : decode cX10_spread 129 = .ok (.iconst (-1), 1) := by decide +kernel
theorem dX10_spread_130 : decode cX10_spread 130 = .ok (.ixor, 1) := by decide +kernel
theorem dX10_spread_131 : decode cX10_spread 131 = .ok (.iand, 1) := by decide +kernel
theorem dX10_spread_132 : decode cX10_spread 132 = .ok (.iastore, 1) := by decide +kernel
theorem dX10_spread_133 : decode cX10_spread 133 = .ok (.aload_n 0, 1) := by decide +kernel
theorem dX10_spread_134 : decode cX10_spread 134 = .ok (.getfield 18, 3) := by decide +kernel
theorem dX10_spread_137 : decode cX10_spread 137 = .ok (.iload_n 3, 1) := by decide +kernel
theorem dX10_spread_138 : decode cX10_spread 138 = .ok (.dup2, 1) := by decide +kernel
theorem dX10_spread_139 : decode cX10_spread 139 = .ok (.iaload, 1) := by decide +kernel
theorem dX10_spread_140 : decode cX10_spread 140 = .ok (.aload_n 0, 1) := by decide +kernel
theorem dX10_spread_141 : decode cX10_spread 141 = .ok (.getfield 15, 3) := by decide +kernel
theorem dX10_spread_144 : decode cX10_spread 144 = .ok (.iload_n 3, 1) := by decide +kernel
theorem dX10_spread_145 : decode cX10_spread 145 = .ok (.iaload, 1) := by decide +kernel
theorem dX10_spread_146 : decode cX10_spread 146 = .ok (.ior, 1) := by decide +kernel
theorem dX10_spread_147 : decode cX10_spread 147 = .ok (.iastore, 1) := by decide +kernel
theorem dX10_spread_148 : decode cX10_spread 148 = .ok (.iload_n 2, 1) := by decide +kernel
theorem dX10_spread_149 : decode cX10_spread 149 = .ok (.ifCond .ne 12, 3) := by decide +kernel
theorem dX10_spread_152 : decode cX10_spread 152 = .ok (.aload_n 0, 1) := by decide +kernel
theorem dX10_spread_153 : decode cX10_spread 153 = .ok (.getfield 11, 3) := by decide +kernel
theorem dX10_spread_156 : decode cX10_spread 156 = .ok (.iload_n 3, 1) := by decide +kernel
theorem dX10_spread_157 : decode cX10_spread 157 = .ok (.iaload, 1) := by decide +kernel
theorem dX10_spread_158 : decode cX10_spread 158 = .ok (.ifCond .eq 7, 3) := by decide +kernel
theorem dX10_spread_161 : decode cX10_spread 161 = .ok (.iconst 1, 1) := by decide +kernel
theorem dX10_spread_162 : decode cX10_spread 162 = .ok (.goto 4, 3) := by decide +kernel
theorem dX10_spread_165 : decode cX10_spread 165 = .ok (.iconst 0, 1) := by decide +kernel
theorem dX10_spread_166 : decode cX10_spread 166 = .ok (.istore_n 2, 1) := by decide +kernel
theorem dX10_spread_167 : decode cX10_spread 167 = .ok (.iinc 3 1, 3) := by decide +kernel
theorem dX10_spread_170 : decode cX10_spread 170 = .ok (.goto (-81), 3) := by decide +kernel
theorem dX10_spread_173 : decode cX10_spread 173 = .ok (.iload_n 2, 1) := by decide +kernel
theorem dX10_spread_174 : decode cX10_spread 174 = .ok (.ireturn, 1) := by decide +kernel
theorem dX10_speakOn_0 : decode cX10_speakOn 0 = .ok (.iconst 0, 1) := by decide +kernel
theorem dX10_speakOn_1 : decode cX10_speakOn 1 = .ok (.istore_n 2, 1) := by decide +kernel
theorem dX10_speakOn_2 : decode cX10_speakOn 2 = .ok (.iconst 0, 1) := by decide +kernel
theorem dX10_speakOn_3 : decode cX10_speakOn 3 = .ok (.istore_n 3, 1) := by decide +kernel
theorem dX10_speakOn_4 : decode cX10_speakOn 4 = .ok (.iconst 0, 1) := by decide +kernel
theorem dX10_speakOn_5 : decode cX10_speakOn 5 = .ok (.istore 4, 2) := by decide +kernel
theorem dX10_speakOn_7 : decode cX10_speakOn 7 = .ok (.iload 4, 2) := by decide +kernel
theorem dX10_speakOn_9 : decode cX10_speakOn 9 = .ok (.bipush 6, 2) := by decide +kernel
theorem dX10_speakOn_11 : decode cX10_speakOn 11 = .ok (.if_icmp .ge 114, 3) := by decide +kernel
theorem dX10_speakOn_14 : decode cX10_speakOn 14 = .ok (.aload_n 0, 1) := by decide +kernel
theorem dX10_speakOn_15 : decode cX10_speakOn 15 = .ok (.iload 4, 2) := by decide +kernel
theorem dX10_speakOn_17 : decode cX10_speakOn 17 = .ok (.iload_n 1, 1) := by decide +kernel
theorem dX10_speakOn_18 : decode cX10_speakOn 18 = .ok (.invokevirtual 84, 3) := by decide +kernel
theorem dX10_speakOn_21 : decode cX10_speakOn 21 = .ok (.istore 5, 2) := by decide +kernel
theorem dX10_speakOn_23 : decode cX10_speakOn 23 = .ok (.aload_n 0, 1) := by decide +kernel
theorem dX10_speakOn_24 : decode cX10_speakOn 24 = .ok (.getfield 59, 3) := by decide +kernel
theorem dX10_speakOn_27 : decode cX10_speakOn 27 = .ok (.iload 4, 2) := by decide +kernel
theorem dX10_speakOn_29 : decode cX10_speakOn 29 = .ok (.ishr, 1) := by decide +kernel
theorem dX10_speakOn_30 : decode cX10_speakOn 30 = .ok (.iconst 1, 1) := by decide +kernel
theorem dX10_speakOn_31 : decode cX10_speakOn 31 = .ok (.iand, 1) := by decide +kernel
theorem dX10_speakOn_32 : decode cX10_speakOn 32 = .ok (.ifCond .eq 87, 3) := by decide +kernel
theorem dX10_speakOn_35 : decode cX10_speakOn 35 = .ok (.iload 5, 2) := by decide +kernel
theorem dX10_speakOn_37 : decode cX10_speakOn 37 = .ok (.ifCond .lt 82, 3) := by decide +kernel
theorem dX10_speakOn_40 : decode cX10_speakOn 40 = .ok (.iload 5, 2) := by decide +kernel
theorem dX10_speakOn_42 : decode cX10_speakOn 42 = .ok (.sipush 175, 3) := by decide +kernel
theorem dX10_speakOn_45 : decode cX10_speakOn 45 = .ok (.if_icmp .ge 74, 3) := by decide +kernel
theorem dX10_speakOn_48 : decode cX10_speakOn 48 = .ok (.aload_n 0, 1) := by decide +kernel
theorem dX10_speakOn_49 : decode cX10_speakOn 49 = .ok (.getfield 69, 3) := by decide +kernel
theorem dX10_speakOn_52 : decode cX10_speakOn 52 = .ok (.ifCond .ne 7, 3) := by decide +kernel
theorem dX10_speakOn_55 : decode cX10_speakOn 55 = .ok (.iload_n 3, 1) := by decide +kernel
theorem dX10_speakOn_56 : decode cX10_speakOn 56 = .ok (.ifCond .ne 37, 3) := by decide +kernel
theorem dX10_speakOn_59 : decode cX10_speakOn 59 = .ok (.aload_n 0, 1) := by decide +kernel
theorem dX10_speakOn_60 : decode cX10_speakOn 60 = .ok (.getfield 21, 3) := by decide +kernel
theorem dX10_speakOn_63 : decode cX10_speakOn 63 = .ok (.iload 4, 2) := by decide +kernel
theorem dX10_speakOn_65 : decode cX10_speakOn 65 = .ok (.sipush 4095, 3) := by decide +kernel
theorem dX10_speakOn_68 : decode cX10_speakOn 68 = .ok (.ldc 107, 2) := by decide +kernel
theorem dX10_speakOn_70 : decode cX10_speakOn 70 = .ok (.aload_n 0, 1) := by decide +kernel
theorem dX10_speakOn_71 : decode cX10_speakOn 71 = .ok (.getfield 25, 3) := by decide +kernel
theorem dX10_speakOn_74 : decode cX10_speakOn 74 = .ok (.iconst (-1), 1) := by decide +kernel
theorem dX10_speakOn_75 : decode cX10_speakOn 75 = .ok (.ixor, 1) := by decide +kernel
theorem dX10_speakOn_76 : decode cX10_speakOn 76 = .ok (.iand, 1) := by decide +kernel
theorem dX10_speakOn_77 : decode cX10_speakOn 77 = .ok (.aload_n 0, 1) := by decide +kernel
theorem dX10_speakOn_78 : decode cX10_speakOn 78 = .ok (.getfield 15, 3) := by decide +kernel
theorem dX10_speakOn_81 : decode cX10_speakOn 81 = .ok (.iload 5, 2) := by decide +kernel
theorem dX10_speakOn_83 : decode cX10_speakOn 83 = .ok (.iaload, 1) := by decide +kernel
theorem dX10_speakOn_84 : decode cX10_speakOn 84 = .ok (.iconst (-1), 1) := by decide +kernel
theorem dX10_speakOn_85 : decode cX10_speakOn 85 = .ok (.ixor, 1) := by decide +kernel
theorem dX10_speakOn_86 : decode cX10_speakOn 86 = .ok (.iand, 1) := by decide +kernel
theorem dX10_speakOn_87 : decode cX10_speakOn 87 = .ok (.invokevirtual 99, 3) := by decide +kernel
theorem dX10_speakOn_90 : decode cX10_speakOn 90 = .ok (.istore_n 2, 1) := by decide +kernel
theorem dX10_speakOn_91 : decode cX10_speakOn 91 = .ok (.iconst 1, 1) := by decide +kernel
theorem dX10_speakOn_92 : decode cX10_speakOn 92 = .ok (.istore_n 3, 1) := by decide +kernel
theorem dX10_speakOn_93 : decode cX10_speakOn 93 = .ok (.iload_n 2, 1) := by decide +kernel
theorem dX10_speakOn_94 : decode cX10_speakOn 94 = .ok (.ifCond .eq 25, 3) := by decide +kernel
theorem dX10_speakOn_97 : decode cX10_speakOn 97 = .ok (.aload_n 0, 1) := by decide +kernel
theorem dX10_speakOn_98 : decode cX10_speakOn 98 = .ok (.getfield 15, 3) := by decide +kernel
theorem dX10_speakOn_101 : decode cX10_speakOn 101 = .ok (.iload 5, 2) := by decide +kernel
theorem dX10_speakOn_103 : decode cX10_speakOn 103 = .ok (.dup2, 1) := by decide +kernel
theorem dX10_speakOn_104 : decode cX10_speakOn 104 = .ok (.iaload, 1) := by decide +kernel
theorem dX10_speakOn_105 : decode cX10_speakOn 105 = .ok (.aload_n 0, 1) := by decide +kernel
theorem dX10_speakOn_106 : decode cX10_speakOn 106 = .ok (.getfield 66, 3) := by decide +kernel
theorem dX10_speakOn_109 : decode cX10_speakOn 109 = .ok (.ifCond .eq 7, 3) := by decide +kernel
theorem dX10_speakOn_112 : decode cX10_speakOn 112 = .ok (.iload_n 2, 1) := by decide +kernel
theorem dX10_speakOn_113 : decode cX10_speakOn 113 = .ok (.goto 4, 3) := by decide +kernel
theorem dX10_speakOn_116 : decode cX10_speakOn 116 = .ok (.iconst 1, 1) := by decide +kernel
theorem dX10_speakOn_117 : decode cX10_speakOn 117 = .ok (.ior, 1) := by decide +kernel
theorem dX10_speakOn_118 : decode cX10_speakOn 118 = .ok (.iastore, 1) := by decide +kernel
theorem dX10_speakOn_119 : decode cX10_speakOn 119 = .ok (.iinc 4 1, 3) := by decide +kernel
theorem dX10_speakOn_122 : decode cX10_speakOn 122 = .ok (.goto (-115), 3) := by decide +kernel
theorem dX10_speakOn_125 : decode cX10_speakOn 125 = .ok (.return_, 1) := by decide +kernel
theorem dJ6_bitCount_0f7a4_0 : decode cJ6_bitCount_0f7a4 0 = .ok (.iload_n 0, 1) := by decide +kernel
theorem dJ6_bitCount_0f7a4_1 : decode cJ6_bitCount_0f7a4 1 = .ok (.iload_n 0, 1) := by decide +kernel
theorem dJ6_bitCount_0f7a4_2 : decode cJ6_bitCount_0f7a4 2 = .ok (.iconst 1, 1) := by decide +kernel
theorem dJ6_bitCount_0f7a4_3 : decode cJ6_bitCount_0f7a4 3 = .ok (.iushr, 1) := by decide +kernel
theorem dJ6_bitCount_0f7a4_4 : decode cJ6_bitCount_0f7a4 4 = .ok (.ldc_w 265, 3) := by decide +kernel
theorem dJ6_bitCount_0f7a4_7 : decode cJ6_bitCount_0f7a4 7 = .ok (.iand, 1) := by decide +kernel
theorem dJ6_bitCount_0f7a4_8 : decode cJ6_bitCount_0f7a4 8 = .ok (.isub, 1) := by decide +kernel
theorem dJ6_bitCount_0f7a4_9 : decode cJ6_bitCount_0f7a4 9 = .ok (.istore_n 0, 1) := by decide +kernel
theorem dJ6_bitCount_0f7a4_10 : decode cJ6_bitCount_0f7a4 10 = .ok (.iload_n 0, 1) := by decide +kernel
theorem dJ6_bitCount_0f7a4_11 : decode cJ6_bitCount_0f7a4 11 = .ok (.ldc_w 266, 3) := by decide +kernel
theorem dJ6_bitCount_0f7a4_14 : decode cJ6_bitCount_0f7a4 14 = .ok (.iand, 1) := by decide +kernel
theorem dJ6_bitCount_0f7a4_15 : decode cJ6_bitCount_0f7a4 15 = .ok (.iload_n 0, 1) := by decide +kernel
theorem dJ6_bitCount_0f7a4_16 : decode cJ6_bitCount_0f7a4 16 = .ok (.iconst 2, 1) := by decide +kernel
theorem dJ6_bitCount_0f7a4_17 : decode cJ6_bitCount_0f7a4 17 = .ok (.iushr, 1) := by decide +kernel
theorem dJ6_bitCount_0f7a4_18 : decode cJ6_bitCount_0f7a4 18 = .ok (.ldc_w 266, 3) := by decide +kernel
theorem dJ6_bitCount_0f7a4_21 : decode cJ6_bitCount_0f7a4 21 = .ok (.iand, 1) := by decide +kernel
theorem dJ6_bitCount_0f7a4_22 : decode cJ6_bitCount_0f7a4 22 = .ok (.iadd, 1) := by decide +kernel
theorem dJ6_bitCount_0f7a4_23 : decode cJ6_bitCount_0f7a4 23 = .ok (.istore_n 0, 1) := by decide +kernel
theorem dJ6_bitCount_0f7a4_24 : decode cJ6_bitCount_0f7a4 24 = .ok (.iload_n 0, 1) := by decide +kernel
theorem dJ6_bitCount_0f7a4_25 : decode cJ6_bitCount_0f7a4 25 = .ok (.iload_n 0, 1) := by decide +kernel
theorem dJ6_bitCount_0f7a4_26 : decode cJ6_bitCount_0f7a4 26 = .ok (.iconst 4, 1) := by decide +kernel
theorem dJ6_bitCount_0f7a4_27 : decode cJ6_bitCount_0f7a4 27 = .ok (.iushr, 1) := by decide +kernel
theorem dJ6_bitCount_0f7a4_28 : decode cJ6_bitCount_0f7a4 28 = .ok (.iadd, 1) := by decide +kernel
theorem dJ6_bitCount_0f7a4_29 : decode cJ6_bitCount_0f7a4 29 = .ok (.ldc_w 267, 3) := by decide +kernel
theorem dJ6_bitCount_0f7a4_32 : decode cJ6_bitCount_0f7a4 32 = .ok (.iand, 1) := by decide +kernel
theorem dJ6_bitCount_0f7a4_33 : decode cJ6_bitCount_0f7a4 33 = .ok (.istore_n 0, 1) := by decide +kernel
theorem dJ6_bitCount_0f7a4_34 : decode cJ6_bitCount_0f7a4 34 = .ok (.iload_n 0, 1) := by decide +kernel
theorem dJ6_bitCount_0f7a4_35 : decode cJ6_bitCount_0f7a4 35 = .ok (.iload_n 0, 1) := by decide +kernel
theorem dJ6_bitCount_0f7a4_36 : decode cJ6_bitCount_0f7a4 36 = .ok (.bipush 8, 2) := by decide +kernel
theorem dJ6_bitCount_0f7a4_38 : decode cJ6_bitCount_0f7a4 38 = .ok (.iushr, 1) := by decide +kernel
theorem dJ6_bitCount_0f7a4_39 : decode cJ6_bitCount_0f7a4 39 = .ok (.iadd, 1) := by decide +kernel
theorem dJ6_bitCount_0f7a4_40 : decode cJ6_bitCount_0f7a4 40 = .ok (.istore_n 0, 1) := by decide +kernel
theorem dJ6_bitCount_0f7a4_41 : decode cJ6_bitCount_0f7a4 41 = .ok (.iload_n 0, 1) := by decide +kernel
theorem dJ6_bitCount_0f7a4_42 : decode cJ6_bitCount_0f7a4 42 = .ok (.iload_n 0, 1) := by decide +kernel
theorem dJ6_bitCount_0f7a4_43 : decode cJ6_bitCount_0f7a4 43 = .ok (.bipush 16, 2) := by decide +kernel
theorem dJ6_bitCount_0f7a4_45 : decode cJ6_bitCount_0f7a4 45 = .ok (.iushr, 1) := by decide +kernel
theorem dJ6_bitCount_0f7a4_46 : decode cJ6_bitCount_0f7a4 46 = .ok (.iadd, 1) := by decide +kernel
theorem dJ6_bitCount_0f7a4_47 : decode cJ6_bitCount_0f7a4 47 = .ok (.istore_n 0, 1) := by decide +kernel
theorem dJ6_bitCount_0f7a4_48 : decode cJ6_bitCount_0f7a4 48 = .ok (.iload_n 0, 1) := by decide +kernel
theorem dJ6_bitCount_0f7a4_49 : decode cJ6_bitCount_0f7a4 49 = .ok (.bipush 63, 2) := by decide +kernel
theorem dJ6_bitCount_0f7a4_51 : decode cJ6_bitCount_0f7a4 51 = .ok (.iand, 1) := by decide +kernel
theorem dJ6_bitCount_0f7a4_52 : decode cJ6_bitCount_0f7a4 52 = .ok (.ireturn, 1) := by decide +kernel
