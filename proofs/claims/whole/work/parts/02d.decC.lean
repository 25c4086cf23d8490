theorem dX4_init_0 : decode cX4_init 0 = .ok (.aload_n 0, 1) := by decide +kernel
theorem dX4_init_1 : decode cX4_init 1 = .ok (.invokespecial 3, 3) := by decide +kernel
theorem dX4_init_4 : decode cX4_init 4 = .ok (.aload_n 0, 1) := by decide +kernel
theorem dX4_init_5 : decode cX4_init 5 = .ok (.aload_n 1, 1) := by decide +kernel
theorem dX4_init_6 : decode cX4_init 6 = .ok (.putfield 9, 3) := by decide +kernel
theorem dX4_init_9 : decode cX4_init 9 = .ok (.aload_n 0, 1) := by decide +kernel
theorem dX4_init_10 : decode cX4_init 10 = .ok (.new 15, 3) := by decide +kernel
theorem dX4_init_13 : decode cX4_init 13 = .ok (.dup, 1) := by decide +kernel
theorem dX4_init_14 : decode cX4_init 14 = .ok (.invokespecial 17, 3) := by decide +kernel
theorem dX4_init_17 : decode cX4_init 17 = .ok (.putfield 18, 3) := by decide +kernel
theorem dX4_init_20 : decode cX4_init 20 = .ok (.return_, 1) := by decide +kernel
theorem dX4_readPattern_0 : decode cX4_readPattern 0 = .ok (.aload_n 0, 1) := by decide +kernel
theorem dX4_readPattern_1 : decode cX4_readPattern 1 = .ok (.getfield 9, 3) := by decide +kernel
theorem dX4_readPattern_4 : decode cX4_readPattern 4 = .ok (.iload_n 1, 1) := by decide +kernel
theorem dX4_readPattern_5 : decode cX4_readPattern 5 = .ok (.invokevirtual 22, 3) := by decide +kernel
theorem dX4_readPattern_8 : decode cX4_readPattern 8 = .ok (.aload_n 0, 1) := by decide +kernel
theorem dX4_readPattern_9 : decode cX4_readPattern 9 = .ok (.iconst 0, 1) := by decide +kernel
theorem dX4_readPattern_10 : decode cX4_readPattern 10 = .ok (.invokevirtual 28, 3) := by decide +kernel
theorem dX4_readPattern_13 : decode cX4_readPattern 13 = .ok (.istore_n 2, 1) := by decide +kernel
theorem dX4_readPattern_14 : decode cX4_readPattern 14 = .ok (.aload_n 0, 1) := by decide +kernel
theorem dX4_readPattern_15 : decode cX4_readPattern 15 = .ok (.getfield 9, 3) := by decide +kernel
theorem dX4_readPattern_18 : decode cX4_readPattern 18 = .ok (.invokevirtual 32, 3) := by decide +kernel
theorem dX4_readPattern_21 : decode cX4_readPattern 21 = .ok (.aload_n 0, 1) := by decide +kernel
theorem dX4_readPattern_22 : decode cX4_readPattern 22 = .ok (.getfield 9, 3) := by decide +kernel
theorem dX4_readPattern_25 : decode cX4_readPattern 25 = .ok (.invokevirtual 35, 3) := by decide +kernel
theorem dX4_readPattern_28 : decode cX4_readPattern 28 = .ok (.ifCond .eq 10, 3) := by decide +kernel
theorem dX4_readPattern_31 : decode cX4_readPattern 31 = .ok (.iload_n 2, 1) := by decide +kernel
theorem dX4_readPattern_32 : decode cX4_readPattern 32 = .ok (.ldc 39, 2) := by decide +kernel
theorem dX4_readPattern_34 : decode cX4_readPattern 34 = .ok (.iand, 1) := by decide +kernel
theorem dX4_readPattern_35 : decode cX4_readPattern 35 = .ok (.goto 10, 3) := by decide +kernel
theorem dX4_readPattern_38 : decode cX4_readPattern 38 = .ok (.aload_n 0, 1) := by decide +kernel
theorem dX4_readPattern_39 : decode cX4_readPattern 39 = .ok (.getfield 9, 3) := by decide +kernel
theorem dX4_readPattern_42 : decode cX4_readPattern 42 = .ok (.getfield 40, 3) := by decide +kernel
theorem dX4_readPattern_45 : decode cX4_readPattern 45 = .ok (.ireturn, 1) := by decide +kernel
theorem dX4_readWays_0 : decode cX4_readWays 0 = .ok (.aload_n 0, 1) := by decide +kernel
theorem dX4_readWays_1 : decode cX4_readWays 1 = .ok (.iload_n 1, 1) := by decide +kernel
theorem dX4_readWays_2 : decode cX4_readWays 2 = .ok (.invokevirtual 44, 3) := by decide +kernel
theorem dX4_readWays_5 : decode cX4_readWays 5 = .ok (.istore_n 2, 1) := by decide +kernel
theorem dX4_readWays_6 : decode cX4_readWays 6 = .ok (.iconst 0, 1) := by decide +kernel
theorem dX4_readWays_7 : decode cX4_readWays 7 = .ok (.istore_n 3, 1) := by decide +kernel
theorem dX4_readWays_8 : decode cX4_readWays 8 = .ok (.iload_n 3, 1) := by decide +kernel
theorem dX4_readWays_9 : decode cX4_readWays 9 = .ok (.bipush 60, 2) := by decide +kernel
theorem dX4_readWays_11 : decode cX4_readWays 11 = .ok (.if_icmp .ge 29, 3) := by decide +kernel
theorem dX4_readWays_14 : decode cX4_readWays 14 = .ok (.aload_n 0, 1) := by decide +kernel
theorem dX4_readWays_15 : decode cX4_readWays 15 = .ok (.getfield 9, 3) := by decide +kernel
theorem dX4_readWays_18 : decode cX4_readWays 18 = .ok (.bipush 124, 2) := by decide +kernel
theorem dX4_readWays_20 : decode cX4_readWays 20 = .ok (.invokevirtual 47, 3) := by decide +kernel
theorem dX4_readWays_23 : decode cX4_readWays 23 = .ok (.ifCond .eq 17, 3) := by decide +kernel
theorem dX4_readWays_26 : decode cX4_readWays 26 = .ok (.iload_n 2, 1) := by decide +kernel
theorem dX4_readWays_27 : decode cX4_readWays 27 = .ok (.aload_n 0, 1) := by decide +kernel
theorem dX4_readWays_28 : decode cX4_readWays 28 = .ok (.iload_n 1, 1) := by decide +kernel
theorem dX4_readWays_29 : decode cX4_readWays 29 = .ok (.invokevirtual 44, 3) := by decide +kernel
theorem dX4_readWays_32 : decode cX4_readWays 32 = .ok (.ior, 1) := by decide +kernel
theorem dX4_readWays_33 : decode cX4_readWays 33 = .ok (.istore_n 2, 1) := by decide +kernel
theorem dX4_readWays_34 : decode cX4_readWays 34 = .ok (.iinc 3 1, 3) := by decide +kernel
theorem dX4_readWays_37 : decode cX4_readWays 37 = .ok (.goto (-29), 3) := by decide +kernel
theorem dX4_readWays_40 : decode cX4_readWays 40 = .ok (.iload_n 2, 1) := by decide +kernel
theorem dX4_readWays_41 : decode cX4_readWays 41 = .ok (.ireturn, 1) := by decide +kernel
theorem dX4_readWay_0 : decode cX4_readWay 0 = .ok (.aload_n 0, 1) := by decide +kernel
theorem dX4_readWay_1 : decode cX4_readWay 1 = .ok (.iload_n 1, 1) := by decide +kernel
theorem dX4_readWay_2 : decode cX4_readWay 2 = .ok (.invokevirtual 51, 3) := by decide +kernel
theorem dX4_readWay_5 : decode cX4_readWay 5 = .ok (.istore_n 2, 1) := by decide +kernel
theorem dX4_readWay_6 : decode cX4_readWay 6 = .ok (.iconst 0, 1) := by decide +kernel
theorem dX4_readWay_7 : decode cX4_readWay 7 = .ok (.istore_n 3, 1) := by decide +kernel
theorem dX4_readWay_8 : decode cX4_readWay 8 = .ok (.iload_n 3, 1) := by decide +kernel
theorem dX4_readWay_9 : decode cX4_readWay 9 = .ok (.bipush 60, 2) := by decide +kernel
theorem dX4_readWay_11 : decode cX4_readWay 11 = .ok (.if_icmp .ge 32, 3) := by decide +kernel
theorem dX4_readWay_14 : decode cX4_readWay 14 = .ok (.aload_n 0, 1) := by decide +kernel
theorem dX4_readWay_15 : decode cX4_readWay 15 = .ok (.getfield 9, 3) := by decide +kernel
theorem dX4_readWay_18 : decode cX4_readWay 18 = .ok (.invokevirtual 54, 3) := by decide +kernel
theorem dX4_readWay_21 : decode cX4_readWay 21 = .ok (.invokestatic 58, 3) := by decide +kernel
theorem dX4_readWay_24 : decode cX4_readWay 24 = .ok (.ifCond .eq 19, 3) := by decide +kernel
theorem dX4_readWay_27 : decode cX4_readWay 27 = .ok (.iload_n 2, 1) := by decide +kernel
theorem dX4_readWay_28 : decode cX4_readWay 28 = .ok (.aload_n 0, 1) := by decide +kernel
theorem dX4_readWay_29 : decode cX4_readWay 29 = .ok (.iload_n 1, 1) := by decide +kernel
theorem dX4_readWay_30 : decode cX4_readWay 30 = .ok (.invokevirtual 51, 3) := by decide +kernel
theorem dX4_readWay_33 : decode cX4_readWay 33 = .ok (.invokestatic 61, 3) := by decide +kernel
theorem dX4_readWay_36 : decode cX4_readWay 36 = .ok (.istore_n 2, 1) := by decide +kernel
theorem dX4_readWay_37 : decode cX4_readWay 37 = .ok (.iinc 3 1, 3) := by decide +kernel
theorem dX4_readWay_40 : decode cX4_readWay 40 = .ok (.goto (-32), 3) := by decide +kernel
theorem dX4_readWay_43 : decode cX4_readWay 43 = .ok (.iload_n 2, 1) := by decide +kernel
theorem dX4_readWay_44 : decode cX4_readWay 44 = .ok (.ireturn, 1) := by decide +kernel
theorem dX4_beginsItem_0 : decode cX4_beginsItem 0 = .ok (.iload_n 0, 1) := by decide +kernel
theorem dX4_beginsItem_1 : decode cX4_beginsItem 1 = .ok (.invokestatic 65, 3) := by decide +kernel
theorem dX4_beginsItem_4 : decode cX4_beginsItem 4 = .ok (.ifCond .ne 15, 3) := by decide +kernel
theorem dX4_beginsItem_7 : decode cX4_beginsItem 7 = .ok (.iload_n 0, 1) := by decide +kernel
theorem dX4_beginsItem_8 : decode cX4_beginsItem 8 = .ok (.bipush 40, 2) := by decide +kernel
theorem dX4_beginsItem_10 : decode cX4_beginsItem 10 = .ok (.if_icmp .eq 9, 3) := by decide +kernel
theorem dX4_beginsItem_13 : decode cX4_beginsItem 13 = .ok (.iload_n 0, 1) := by decide +kernel
theorem dX4_beginsItem_14 : decode cX4_beginsItem 14 = .ok (.bipush 91, 2) := by decide +kernel
theorem dX4_beginsItem_16 : decode cX4_beginsItem 16 = .ok (.if_icmp .ne 7, 3) := by decide +kernel
theorem dX4_beginsItem_19 : decode cX4_beginsItem 19 = .ok (.iconst 1, 1) := by decide +kernel
theorem dX4_beginsItem_20 : decode cX4_beginsItem 20 = .ok (.goto 4, 3) := by decide +kernel
theorem dX4_beginsItem_23 : decode cX4_beginsItem 23 = .ok (.iconst 0, 1) := by decide +kernel
theorem dX4_beginsItem_24 : decode cX4_beginsItem 24 = .ok (.ireturn, 1) := by decide +kernel
theorem dX4_isWord_0 : decode cX4_isWord 0 = .ok (.iload_n 0, 1) := by decide +kernel
theorem dX4_isWord_1 : decode cX4_isWord 1 = .ok (.bipush 97, 2) := by decide +kernel
theorem dX4_isWord_3 : decode cX4_isWord 3 = .ok (.if_icmp .lt 13, 3) := by decide +kernel
theorem dX4_isWord_6 : decode cX4_isWord 6 = .ok (.iload_n 0, 1) := by decide +kernel
theorem dX4_isWord_7 : decode cX4_isWord 7 = .ok (.bipush 122, 2) := by decide +kernel
theorem dX4_isWord_9 : decode cX4_isWord 9 = .ok (.if_icmp .gt 7, 3) := by decide +kernel
theorem dX4_isWord_12 : decode cX4_isWord 12 = .ok (.iconst 1, 1) := by decide +kernel
theorem dX4_isWord_13 : decode cX4_isWord 13 = .ok (.goto 4, 3) := by decide +kernel
theorem dX4_isWord_16 : decode cX4_isWord 16 = .ok (.iconst 0, 1) := by decide +kernel
theorem dX4_isWord_17 : decode cX4_isWord 17 = .ok (.ireturn, 1) := by decide +kernel
theorem dX4_readItem_0 : decode cX4_readItem 0 = .ok (.aload_n 0, 1) := by decide +kernel
theorem dX4_readItem_1 : decode cX4_readItem 1 = .ok (.getfield 9, 3) := by decide +kernel
theorem dX4_readItem_4 : decode cX4_readItem 4 = .ok (.invokevirtual 54, 3) := by decide +kernel
theorem dX4_readItem_7 : decode cX4_readItem 7 = .ok (.istore_n 2, 1) := by decide +kernel
theorem dX4_readItem_8 : decode cX4_readItem 8 = .ok (.iconst 2, 1) := by decide +kernel
theorem dX4_readItem_9 : decode cX4_readItem 9 = .ok (.istore_n 3, 1) := by decide +kernel
theorem dX4_readItem_10 : decode cX4_readItem 10 = .ok (.iload_n 2, 1) := by decide +kernel
theorem dX4_readItem_11 : decode cX4_readItem 11 = .ok (.invokestatic 58, 3) := by decide +kernel
theorem dX4_readItem_14 : decode cX4_readItem 14 = .ok (.ifCond .ne 13, 3) := by decide +kernel
theorem dX4_readItem_17 : decode cX4_readItem 17 = .ok (.aload_n 0, 1) := by decide +kernel
theorem dX4_readItem_18 : decode cX4_readItem 18 = .ok (.getfield 9, 3) := by decide +kernel
theorem dX4_readItem_21 : decode cX4_readItem 21 = .ok (.iconst 1, 1) := by decide +kernel
theorem dX4_readItem_22 : decode cX4_readItem 22 = .ok (.invokevirtual 68, 3) := by decide +kernel
theorem dX4_readItem_25 : decode cX4_readItem 25 = .ok (.iconst 0, 1) := by decide +kernel
theorem dX4_readItem_26 : decode cX4_readItem 26 = .ok (.ireturn, 1) := by decide +kernel
theorem dX4_readItem_27 : decode cX4_readItem 27 = .ok (.iload_n 2, 1) := by decide +kernel
theorem dX4_readItem_28 : decode cX4_readItem 28 = .ok (.invokestatic 65, 3) := by decide +kernel
theorem dX4_readItem_31 : decode cX4_readItem 31 = .ok (.ifCond .ne 71, 3) := by decide +kernel
theorem dX4_readItem_34 : decode cX4_readItem 34 = .ok (.iload_n 1, 1) := by decide +kernel
theorem dX4_readItem_35 : decode cX4_readItem 35 = .ok (.bipush 6, 2) := by decide +kernel
theorem dX4_readItem_37 : decode cX4_readItem 37 = .ok (.if_icmp .lt 13, 3) := by decide +kernel
theorem dX4_readItem_40 : decode cX4_readItem 40 = .ok (.aload_n 0, 1) := by decide +kernel
theorem dX4_readItem_41 : decode cX4_readItem 41 = .ok (.getfield 9, 3) := by decide +kernel
theorem dX4_readItem_44 : decode cX4_readItem 44 = .ok (.iconst 5, 1) := by decide +kernel
theorem dX4_readItem_45 : decode cX4_readItem 45 = .ok (.invokevirtual 68, 3) := by decide +kernel
theorem dX4_readItem_48 : decode cX4_readItem 48 = .ok (.iconst 0, 1) := by decide +kernel
theorem dX4_readItem_49 : decode cX4_readItem 49 = .ok (.ireturn, 1) := by decide +kernel
theorem dX4_readItem_50 : decode cX4_readItem 50 = .ok (.aload_n 0, 1) := by decide +kernel
theorem dX4_readItem_51 : decode cX4_readItem 51 = .ok (.getfield 9, 3) := by decide +kernel
theorem dX4_readItem_54 : decode cX4_readItem 54 = .ok (.invokevirtual 71, 3) := by decide +kernel
theorem dX4_readItem_57 : decode cX4_readItem 57 = .ok (.aload_n 0, 1) := by decide +kernel
theorem dX4_readItem_58 : decode cX4_readItem 58 = .ok (.iload_n 1, 1) := by decide +kernel
theorem dX4_readItem_59 : decode cX4_readItem 59 = .ok (.iconst 1, 1) := by decide +kernel
theorem dX4_readItem_60 : decode cX4_readItem 60 = .ok (.iadd, 1) := by decide +kernel
theorem dX4_readItem_61 : decode cX4_readItem 61 = .ok (.invokevirtual 28, 3) := by decide +kernel
theorem dX4_readItem_64 : decode cX4_readItem 64 = .ok (.istore_n 3, 1) := by decide +kernel
theorem dX4_readItem_65 : decode cX4_readItem 65 = .ok (.aload_n 0, 1) := by decide +kernel
theorem dX4_readItem_66 : decode cX4_readItem 66 = .ok (.getfield 9, 3) := by decide +kernel
theorem dX4_readItem_69 : decode cX4_readItem 69 = .ok (.iload_n 2, 1) := by decide +kernel
theorem dX4_readItem_70 : decode cX4_readItem 70 = .ok (.bipush 40, 2) := by decide +kernel
theorem dX4_readItem_72 : decode cX4_readItem 72 = .ok (.if_icmp .ne 8, 3) := by decide +kernel
theorem dX4_readItem_75 : decode cX4_readItem 75 = .ok (.bipush 41, 2) := by decide +kernel
theorem dX4_readItem_77 : decode cX4_readItem 77 = .ok (.goto 5, 3) := by decide +kernel
theorem dX4_readItem_80 : decode cX4_readItem 80 = .ok (.bipush 93, 2) := by decide +kernel
theorem dX4_readItem_82 : decode cX4_readItem 82 = .ok (.invokevirtual 74, 3) := by decide +kernel
theorem dX4_readItem_85 : decode cX4_readItem 85 = .ok (.iload_n 2, 1) := by decide +kernel
theorem dX4_readItem_86 : decode cX4_readItem 86 = .ok (.bipush 91, 2) := by decide +kernel
theorem dX4_readItem_88 : decode cX4_readItem 88 = .ok (.if_icmp .ne 9, 3) := by decide +kernel
theorem dX4_readItem_91 : decode cX4_readItem 91 = .ok (.iload_n 3, 1) := by decide +kernel
theorem dX4_readItem_92 : decode cX4_readItem 92 = .ok (.iconst 1, 1) := by decide +kernel
theorem dX4_readItem_93 : decode cX4_readItem 93 = .ok (.ior, 1) := by decide +kernel
theorem dX4_readItem_94 : decode cX4_readItem 94 = .ok (.goto 4, 3) := by decide +kernel
theorem dX4_readItem_97 : decode cX4_readItem 97 = .ok (.iload_n 3, 1) := by decide +kernel
theorem dX4_readItem_98 : decode cX4_readItem 98 = .ok (.istore_n 3, 1) := by decide +kernel
theorem dX4_readItem_99 : decode cX4_readItem 99 = .ok (.goto 10, 3) := by decide +kernel
theorem dX4_readItem_102 : decode cX4_readItem 102 = .ok (.aload_n 0, 1) := by decide +kernel
theorem dX4_readItem_103 : decode cX4_readItem 103 = .ok (.getfield 9, 3) := by decide +kernel
theorem dX4_readItem_106 : decode cX4_readItem 106 = .ok (.invokevirtual 71, 3) := by decide +kernel
theorem dX4_readItem_109 : decode cX4_readItem 109 = .ok (.aload_n 0, 1) := by decide +kernel
theorem dX4_readItem_110 : decode cX4_readItem 110 = .ok (.iload_n 3, 1) := by decide +kernel
theorem dX4_readItem_111 : decode cX4_readItem 111 = .ok (.invokevirtual 77, 3) := by decide +kernel
theorem dX4_readItem_114 : decode cX4_readItem 114 = .ok (.ireturn, 1) := by decide +kernel
theorem dX4_readTimes_0 : decode cX4_readTimes 0 = .ok (.aload_n 0, 1) := by decide +kernel
theorem dX4_readTimes_1 : decode cX4_readTimes 1 = .ok (.getfield 9, 3) := by decide +kernel
theorem dX4_readTimes_4 : decode cX4_readTimes 4 = .ok (.invokevirtual 54, 3) := by decide +kernel
theorem dX4_readTimes_7 : decode cX4_readTimes 7 = .ok (.istore_n 2, 1) := by decide +kernel
theorem dX4_readTimes_8 : decode cX4_readTimes 8 = .ok (.iload_n 2, 1) := by decide +kernel
theorem dX4_readTimes_9 : decode cX4_readTimes 9 = .ok (.bipush 43, 2) := by decide +kernel
theorem dX4_readTimes_11 : decode cX4_readTimes 11 = .ok (.if_icmp .ne 38, 3) := by decide +kernel
theorem dX4_readTimes_14 : decode cX4_readTimes 14 = .ok (.aload_n 0, 1) := by decide +kernel
theorem dX4_readTimes_15 : decode cX4_readTimes 15 = .ok (.getfield 9, 3) := by decide +kernel
theorem dX4_readTimes_18 : decode cX4_readTimes 18 = .ok (.invokevirtual 71, 3) := by decide +kernel
theorem dX4_readTimes_21 : decode cX4_readTimes 21 = .ok (.iload_n 1, 1) := by decide +kernel
theorem dX4_readTimes_22 : decode cX4_readTimes 22 = .ok (.istore_n 3, 1) := by decide +kernel
theorem dX4_readTimes_23 : decode cX4_readTimes 23 = .ok (.iconst 1, 1) := by decide +kernel
theorem dX4_readTimes_24 : decode cX4_readTimes 24 = .ok (.istore 4, 2) := by decide +kernel
theorem dX4_readTimes_26 : decode cX4_readTimes 26 = .ok (.iload 4, 2) := by decide +kernel
theorem dX4_readTimes_28 : decode cX4_readTimes 28 = .ok (.bipush 24, 2) := by decide +kernel
theorem dX4_readTimes_30 : decode cX4_readTimes 30 = .ok (.if_icmp .ge 17, 3) := by decide +kernel
theorem dX4_readTimes_33 : decode cX4_readTimes 33 = .ok (.iload_n 3, 1) := by decide +kernel
theorem dX4_readTimes_34 : decode cX4_readTimes 34 = .ok (.iload_n 3, 1) := by decide +kernel
theorem dX4_readTimes_35 : decode cX4_readTimes 35 = .ok (.iload_n 1, 1) := by decide +kernel
theorem dX4_readTimes_36 : decode cX4_readTimes 36 = .ok (.invokestatic 61, 3) := by decide +kernel
theorem dX4_readTimes_39 : decode cX4_readTimes 39 = .ok (.ior, 1) := by decide +kernel
theorem dX4_readTimes_40 : decode cX4_readTimes 40 = .ok (.istore_n 3, 1) := by decide +kernel
theorem dX4_readTimes_41 : decode cX4_readTimes 41 = .ok (.iinc 4 1, 3) := by decide +kernel
theorem dX4_readTimes_44 : decode cX4_readTimes 44 = .ok (.goto (-18), 3) := by decide +kernel
theorem dX4_readTimes_47 : decode cX4_readTimes 47 = .ok (.iload_n 3, 1) := by decide +kernel
theorem dX4_readTimes_48 : decode cX4_readTimes 48 = .ok (.ireturn, 1) := by decide +kernel
theorem dX4_readTimes_49 : decode cX4_readTimes 49 = .ok (.iload_n 1, 1) := by decide +kernel
theorem dX4_readTimes_50 : decode cX4_readTimes 50 = .ok (.istore_n 3, 1) := by decide +kernel
theorem dX4_readTimes_51 : decode cX4_readTimes 51 = .ok (.iload_n 2, 1) := by decide +kernel
theorem dX4_readTimes_52 : decode cX4_readTimes 52 = .ok (.bipush 50, 2) := by decide +kernel
theorem dX4_readTimes_54 : decode cX4_readTimes 54 = .ok (.if_icmp .lt 38, 3) := by decide +kernel
theorem dX4_readTimes_57 : decode cX4_readTimes 57 = .ok (.iload_n 2, 1) := by decide +kernel
theorem dX4_readTimes_58 : decode cX4_readTimes 58 = .ok (.bipush 57, 2) := by decide +kernel
theorem dX4_readTimes_60 : decode cX4_readTimes 60 = .ok (.if_icmp .gt 32, 3) := by decide +kernel
theorem dX4_readTimes_63 : decode cX4_readTimes 63 = .ok (.aload_n 0, 1) := by decide +kernel
theorem dX4_readTimes_64 : decode cX4_readTimes 64 = .ok (.getfield 9, 3) := by decide +kernel
theorem dX4_readTimes_67 : decode cX4_readTimes 67 = .ok (.invokevirtual 71, 3) := by decide +kernel
theorem dX4_readTimes_70 : decode cX4_readTimes 70 = .ok (.bipush 49, 2) := by decide +kernel
theorem dX4_readTimes_72 : decode cX4_readTimes 72 = .ok (.istore 4, 2) := by decide +kernel
theorem dX4_readTimes_74 : decode cX4_readTimes 74 = .ok (.iload 4, 2) := by decide +kernel
theorem dX4_readTimes_76 : decode cX4_readTimes 76 = .ok (.iload_n 2, 1) := by decide +kernel
theorem dX4_readTimes_77 : decode cX4_readTimes 77 = .ok (.if_icmp .ge 15, 3) := by decide +kernel
theorem dX4_readTimes_80 : decode cX4_readTimes 80 = .ok (.iload_n 3, 1) := by decide +kernel
theorem dX4_readTimes_81 : decode cX4_readTimes 81 = .ok (.iload_n 1, 1) := by decide +kernel
theorem dX4_readTimes_82 : decode cX4_readTimes 82 = .ok (.invokestatic 61, 3) := by decide +kernel
theorem dX4_readTimes_85 : decode cX4_readTimes 85 = .ok (.istore_n 3, 1) := by decide +kernel
theorem dX4_readTimes_86 : decode cX4_readTimes 86 = .ok (.iinc 4 1, 3) := by decide +kernel
theorem dX4_readTimes_89 : decode cX4_readTimes 89 = .ok (.goto (-15), 3) := by decide +kernel
theorem dX4_readTimes_92 : decode cX4_readTimes 92 = .ok (.iload_n 3, 1) := by decide +kernel
theorem dX4_readTimes_93 : decode cX4_readTimes 93 = .ok (.ireturn, 1) := by decide +kernel
theorem dX4_joined_0 : decode cX4_joined 0 = .ok (.iconst 0, 1) := by decide +kernel
theorem dX4_joined_1 : decode cX4_joined 1 = .ok (.istore_n 2, 1) := by decide +kernel
theorem dX4_joined_2 : decode cX4_joined 2 = .ok (.iconst 0, 1) := by decide +kernel
theorem dX4_joined_3 : decode cX4_joined 3 = .ok (.istore_n 3, 1) := by decide +kernel
theorem dX4_joined_4 : decode cX4_joined 4 = .ok (.iload_n 3, 1) := by decide +kernel
theorem dX4_joined_5 : decode cX4_joined 5 = .ok (.bipush 25, 2) := by decide +kernel
theorem dX4_joined_7 : decode cX4_joined 7 = .ok (.if_icmp .ge 23, 3) := by decide +kernel
theorem dX4_joined_10 : decode cX4_joined 10 = .ok (.iload_n 1, 1) := by decide +kernel
theorem dX4_joined_11 : decode cX4_joined 11 = .ok (.iload_n 3, 1) := by decide +kernel
theorem dX4_joined_12 : decode cX4_joined 12 = .ok (.ishr, 1) := by decide +kernel
theorem dX4_joined_13 : decode cX4_joined 13 = .ok (.iconst 1, 1) := by decide +kernel
theorem dX4_joined_14 : decode cX4_joined 14 = .ok (.iand, 1) := by decide +kernel
theorem dX4_joined_15 : decode cX4_joined 15 = .ok (.ifCond .eq 9, 3) := by decide +kernel
theorem dX4_joined_18 : decode cX4_joined 18 = .ok (.iload_n 2, 1) := by decide +kernel
theorem dX4_joined_19 : decode cX4_joined 19 = .ok (.iload_n 0, 1) := by decide +kernel
theorem dX4_joined_20 : decode cX4_joined 20 = .ok (.iload_n 3, 1) := by decide +kernel
theorem dX4_joined_21 : decode cX4_joined 21 = .ok (.ishl, 1) := by decide +kernel
theorem dX4_joined_22 : decode cX4_joined 22 = .ok (.ior, 1) := by decide +kernel
theorem dX4_joined_23 : decode cX4_joined 23 = .ok (.istore_n 2, 1) := by decide +kernel
theorem dX4_joined_24 : decode cX4_joined 24 = .ok (.iinc 3 1, 3) := by decide +kernel
theorem dX4_joined_27 : decode cX4_joined 27 = .ok (.goto (-23), 3) := by decide +kernel
theorem dX4_joined_30 : decode cX4_joined 30 = .ok (.iload_n 2, 1) := by decide +kernel
theorem dX4_joined_31 : decode cX4_joined 31 = .ok (.ldc 80, 2) := by decide +kernel
theorem dX4_joined_33 : decode cX4_joined 33 = .ok (.iand, 1) := by decide +kernel
theorem dX4_joined_34 : decode cX4_joined 34 = .ok (.ireturn, 1) := by decide +kernel
theorem dX4_readLaw_0 : decode cX4_readLaw 0 = .ok (.aload_n 0, 1) := by decide +kernel
theorem dX4_readLaw_1 : decode cX4_readLaw 1 = .ok (.aload_n 2, 1) := by decide +kernel
theorem dX4_readLaw_2 : decode cX4_readLaw 2 = .ok (.putfield 18, 3) := by decide +kernel
theorem dX4_readLaw_5 : decode cX4_readLaw 5 = .ok (.aload_n 0, 1) := by decide +kernel
theorem dX4_readLaw_6 : decode cX4_readLaw 6 = .ok (.getfield 18, 3) := by decide +kernel
theorem dX4_readLaw_9 : decode cX4_readLaw 9 = .ok (.invokevirtual 81, 3) := by decide +kernel
theorem dX4_readLaw_12 : decode cX4_readLaw 12 = .ok (.aload_n 0, 1) := by decide +kernel
theorem dX4_readLaw_13 : decode cX4_readLaw 13 = .ok (.getfield 9, 3) := by decide +kernel
theorem dX4_readLaw_16 : decode cX4_readLaw 16 = .ok (.iload_n 1, 1) := by decide +kernel
theorem dX4_readLaw_17 : decode cX4_readLaw 17 = .ok (.invokevirtual 22, 3) := by decide +kernel
theorem dX4_readLaw_20 : decode cX4_readLaw 20 = .ok (.aload_n 0, 1) := by decide +kernel
theorem dX4_readLaw_21 : decode cX4_readLaw 21 = .ok (.invokevirtual 84, 3) := by decide +kernel
theorem dX4_readLaw_24 : decode cX4_readLaw 24 = .ok (.iconst 0, 1) := by decide +kernel
theorem dX4_readLaw_25 : decode cX4_readLaw 25 = .ok (.istore_n 3, 1) := by decide +kernel
theorem dX4_readLaw_26 : decode cX4_readLaw 26 = .ok (.iload_n 3, 1) := by decide +kernel
theorem dX4_readLaw_27 : decode cX4_readLaw 27 = .ok (.sipush 200, 3) := by decide +kernel
theorem dX4_readLaw_30 : decode cX4_readLaw 30 = .ok (.if_icmp .ge 25, 3) := by decide +kernel
theorem dX4_readLaw_33 : decode cX4_readLaw 33 = .ok (.aload_n 0, 1) := by decide +kernel
theorem dX4_readLaw_34 : decode cX4_readLaw 34 = .ok (.getfield 9, 3) := by decide +kernel
theorem dX4_readLaw_37 : decode cX4_readLaw 37 = .ok (.bipush 59, 2) := by decide +kernel
theorem dX4_readLaw_39 : decode cX4_readLaw 39 = .ok (.invokevirtual 47, 3) := by decide +kernel
theorem dX4_readLaw_42 : decode cX4_readLaw 42 = .ok (.ifCond .eq 13, 3) := by decide +kernel
theorem dX4_readLaw_45 : decode cX4_readLaw 45 = .ok (.aload_n 0, 1) := by decide +kernel
theorem dX4_readLaw_46 : decode cX4_readLaw 46 = .ok (.invokevirtual 84, 3) := by decide +kernel
theorem dX4_readLaw_49 : decode cX4_readLaw 49 = .ok (.iinc 3 1, 3) := by decide +kernel
theorem dX4_readLaw_52 : decode cX4_readLaw 52 = .ok (.goto (-26), 3) := by decide +kernel
theorem dX4_readLaw_55 : decode cX4_readLaw 55 = .ok (.aload_n 0, 1) := by decide +kernel
theorem dX4_readLaw_56 : decode cX4_readLaw 56 = .ok (.getfield 9, 3) := by decide +kernel
theorem dX4_readLaw_59 : decode cX4_readLaw 59 = .ok (.invokevirtual 32, 3) := by decide +kernel
theorem dX4_readLaw_62 : decode cX4_readLaw 62 = .ok (.aload_n 0, 1) := by decide +kernel
theorem dX4_readLaw_63 : decode cX4_readLaw 63 = .ok (.getfield 9, 3) := by decide +kernel
theorem dX4_readLaw_66 : decode cX4_readLaw 66 = .ok (.invokevirtual 35, 3) := by decide +kernel
theorem dX4_readLaw_69 : decode cX4_readLaw 69 = .ok (.ifCond .eq 13, 3) := by decide +kernel
theorem dX4_readLaw_72 : decode cX4_readLaw 72 = .ok (.aload_n 0, 1) := by decide +kernel
theorem dX4_readLaw_73 : decode cX4_readLaw 73 = .ok (.getfield 18, 3) := by decide +kernel
theorem dX4_readLaw_76 : decode cX4_readLaw 76 = .ok (.getfield 87, 3) := by decide +kernel
theorem dX4_readLaw_79 : decode cX4_readLaw 79 = .ok (.goto 10, 3) := by decide +kernel
theorem dX4_readLaw_82 : decode cX4_readLaw 82 = .ok (.aload_n 0, 1) := by decide +kernel
theorem dX4_readLaw_83 : decode cX4_readLaw 83 = .ok (.getfield 9, 3) := by decide +kernel
theorem dX4_readLaw_86 : decode cX4_readLaw 86 = .ok (.getfield 40, 3) := by decide +kernel
theorem dX4_readLaw_89 : decode cX4_readLaw 89 = .ok (.ireturn, 1) := by decide +kernel
theorem dX4_readClause_0 : decode cX4_readClause 0 = .ok (.aload_n 0, 1) := by decide +kernel
theorem dX4_readClause_1 : decode cX4_readClause 1 = .ok (.getfield 9, 3) := by decide +kernel
theorem dX4_readClause_4 : decode cX4_readClause 4 = .ok (.invokevirtual 54, 3) := by decide +kernel
theorem dX4_readClause_7 : decode cX4_readClause 7 = .ok (.istore_n 1, 1) := by decide +kernel
theorem dX4_readClause_8 : decode cX4_readClause 8 = .ok (.iload_n 1, 1) := by decide +kernel
theorem dX4_readClause_9 : decode cX4_readClause 9 = .ok (.bipush 110, 2) := by decide +kernel
theorem dX4_readClause_11 : decode cX4_readClause 11 = .ok (.if_icmp .eq 18, 3) := by decide +kernel
theorem dX4_readClause_14 : decode cX4_readClause 14 = .ok (.iload_n 1, 1) := by decide +kernel
theorem dX4_readClause_15 : decode cX4_readClause 15 = .ok (.bipush 112, 2) := by decide +kernel
theorem dX4_readClause_17 : decode cX4_readClause 17 = .ok (.if_icmp .eq 12, 3) := by decide +kernel
theorem dX4_readClause_20 : decode cX4_readClause 20 = .ok (.aload_n 0, 1) := by decide +kernel
theorem dX4_readClause_21 : decode cX4_readClause 21 = .ok (.getfield 9, 3) := by decide +kernel
theorem dX4_readClause_24 : decode cX4_readClause 24 = .ok (.iconst 1, 1) := by decide +kernel
theorem dX4_readClause_25 : decode cX4_readClause 25 = .ok (.invokevirtual 68, 3) := by decide +kernel
theorem dX4_readClause_28 : decode cX4_readClause 28 = .ok (.return_, 1) := by decide +kernel
theorem dX4_readClause_29 : decode cX4_readClause 29 = .ok (.aload_n 0, 1) := by decide +kernel
theorem dX4_readClause_30 : decode cX4_readClause 30 = .ok (.getfield 18, 3) := by decide +kernel
theorem dX4_readClause_33 : decode cX4_readClause 33 = .ok (.getfield 87, 3) := by decide +kernel
theorem dX4_readClause_36 : decode cX4_readClause 36 = .ok (.bipush 14, 2) := by decide +kernel
theorem dX4_readClause_38 : decode cX4_readClause 38 = .ok (.if_icmp .lt 12, 3) := by decide +kernel
theorem dX4_readClause_41 : decode cX4_readClause 41 = .ok (.aload_n 0, 1) := by decide +kernel
theorem dX4_readClause_42 : decode cX4_readClause 42 = .ok (.getfield 9, 3) := by decide +kernel
theorem dX4_readClause_45 : decode cX4_readClause 45 = .ok (.iconst 4, 1) := by decide +kernel
theorem dX4_readClause_46 : decode cX4_readClause 46 = .ok (.invokevirtual 68, 3) := by decide +kernel
theorem dX4_readClause_49 : decode cX4_readClause 49 = .ok (.return_, 1) := by decide +kernel
theorem dX4_readClause_50 : decode cX4_readClause 50 = .ok (.aload_n 0, 1) := by decide +kernel
theorem dX4_readClause_51 : decode cX4_readClause 51 = .ok (.getfield 9, 3) := by decide +kernel
theorem dX4_readClause_54 : decode cX4_readClause 54 = .ok (.invokevirtual 71, 3) := by decide +kernel
theorem dX4_readClause_57 : decode cX4_readClause 57 = .ok (.aload_n 0, 1) := by decide +kernel
theorem dX4_readClause_58 : decode cX4_readClause 58 = .ok (.getfield 18, 3) := by decide +kernel
theorem dX4_readClause_61 : decode cX4_readClause 61 = .ok (.invokevirtual 90, 3) := by decide +kernel
theorem dX4_readClause_64 : decode cX4_readClause 64 = .ok (.iload_n 1, 1) := by decide +kernel
theorem dX4_readClause_65 : decode cX4_readClause 65 = .ok (.bipush 112, 2) := by decide +kernel
theorem dX4_readClause_67 : decode cX4_readClause 67 = .ok (.if_icmp .ne 11, 3) := by decide +kernel
theorem dX4_readClause_70 : decode cX4_readClause 70 = .ok (.aload_n 0, 1) := by decide +kernel
theorem dX4_readClause_71 : decode cX4_readClause 71 = .ok (.iconst 0, 1) := by decide +kernel
theorem dX4_readClause_72 : decode cX4_readClause 72 = .ok (.invokevirtual 93, 3) := by decide +kernel
theorem dX4_readClause_75 : decode cX4_readClause 75 = .ok (.goto 4, 3) := by decide +kernel
theorem dX4_readClause_78 : decode cX4_readClause 78 = .ok (.iconst (-1), 1) := by decide +kernel
theorem dX4_readClause_79 : decode cX4_readClause 79 = .ok (.istore_n 2, 1) := by decide +kernel
theorem dX4_readClause_80 : decode cX4_readClause 80 = .ok (.aload_n 0, 1) := by decide +kernel
theorem dX4_readClause_81 : decode cX4_readClause 81 = .ok (.getfield 18, 3) := by decide +kernel
theorem dX4_readClause_84 : decode cX4_readClause 84 = .ok (.invokevirtual 96, 3) := by decide +kernel
theorem dX4_readClause_87 : decode cX4_readClause 87 = .ok (.aload_n 0, 1) := by decide +kernel
theorem dX4_readClause_88 : decode cX4_readClause 88 = .ok (.getfield 9, 3) := by decide +kernel
theorem dX4_readClause_91 : decode cX4_readClause 91 = .ok (.bipush 40, 2) := by decide +kernel
theorem dX4_readClause_93 : decode cX4_readClause 93 = .ok (.invokevirtual 74, 3) := by decide +kernel
theorem dX4_readClause_96 : decode cX4_readClause 96 = .ok (.aload_n 0, 1) := by decide +kernel
theorem dX4_readClause_97 : decode cX4_readClause 97 = .ok (.iconst 1, 1) := by decide +kernel
theorem dX4_readClause_98 : decode cX4_readClause 98 = .ok (.invokevirtual 99, 3) := by decide +kernel
theorem dX4_readClause_101 : decode cX4_readClause 101 = .ok (.aload_n 0, 1) := by decide +kernel
theorem dX4_readClause_102 : decode cX4_readClause 102 = .ok (.getfield 9, 3) := by decide +kernel
theorem dX4_readClause_105 : decode cX4_readClause 105 = .ok (.bipush 41, 2) := by decide +kernel
theorem dX4_readClause_107 : decode cX4_readClause 107 = .ok (.invokevirtual 74, 3) := by decide +kernel
theorem dX4_readClause_110 : decode cX4_readClause 110 = .ok (.aload_n 0, 1) := by decide +kernel
theorem dX4_readClause_111 : decode cX4_readClause 111 = .ok (.getfield 18, 3) := by decide +kernel
theorem dX4_readClause_114 : decode cX4_readClause 114 = .ok (.iload_n 2, 1) := by decide +kernel
theorem dX4_readClause_115 : decode cX4_readClause 115 = .ok (.invokevirtual 102, 3) := by decide +kernel
theorem dX4_readClause_118 : decode cX4_readClause 118 = .ok (.return_, 1) := by decide +kernel
theorem dX4_readCondition_0 : decode cX4_readCondition 0 = .ok (.iconst (-1), 1) := by decide +kernel
theorem dX4_readCondition_1 : decode cX4_readCondition 1 = .ok (.istore_n 2, 1) := by decide +kernel
theorem dX4_readCondition_2 : decode cX4_readCondition 2 = .ok (.aload_n 0, 1) := by decide +kernel
theorem dX4_readCondition_3 : decode cX4_readCondition 3 = .ok (.iload_n 1, 1) := by decide +kernel
theorem dX4_readCondition_4 : decode cX4_readCondition 4 = .ok (.invokevirtual 105, 3) := by decide +kernel
theorem dX4_readCondition_7 : decode cX4_readCondition 7 = .ok (.iconst 0, 1) := by decide +kernel
theorem dX4_readCondition_8 : decode cX4_readCondition 8 = .ok (.istore_n 3, 1) := by decide +kernel
theorem dX4_readCondition_9 : decode cX4_readCondition 9 = .ok (.iload_n 3, 1) := by decide +kernel
theorem dX4_readCondition_10 : decode cX4_readCondition 10 = .ok (.sipush 200, 3) := by decide +kernel
theorem dX4_readCondition_13 : decode cX4_readCondition 13 = .ok (.if_icmp .ge 37, 3) := by decide +kernel
theorem dX4_readCondition_16 : decode cX4_readCondition 16 = .ok (.aload_n 0, 1) := by decide +kernel
theorem dX4_readCondition_17 : decode cX4_readCondition 17 = .ok (.getfield 9, 3) := by decide +kernel
theorem dX4_readCondition_20 : decode cX4_readCondition 20 = .ok (.bipush 124, 2) := by decide +kernel
theorem dX4_readCondition_22 : decode cX4_readCondition 22 = .ok (.invokevirtual 47, 3) := by decide +kernel
theorem dX4_readCondition_25 : decode cX4_readCondition 25 = .ok (.ifCond .eq 25, 3) := by decide +kernel
theorem dX4_readCondition_28 : decode cX4_readCondition 28 = .ok (.aload_n 0, 1) := by decide +kernel
theorem dX4_readCondition_29 : decode cX4_readCondition 29 = .ok (.getfield 18, 3) := by decide +kernel
theorem dX4_readCondition_32 : decode cX4_readCondition 32 = .ok (.bipush 10, 2) := by decide +kernel
theorem dX4_readCondition_34 : decode cX4_readCondition 34 = .ok (.iload_n 2, 1) := by decide +kernel
theorem dX4_readCondition_35 : decode cX4_readCondition 35 = .ok (.invokevirtual 108, 3) := by decide +kernel
theorem dX4_readCondition_38 : decode cX4_readCondition 38 = .ok (.istore_n 2, 1) := by decide +kernel
theorem dX4_readCondition_39 : decode cX4_readCondition 39 = .ok (.aload_n 0, 1) := by decide +kernel
theorem dX4_readCondition_40 : decode cX4_readCondition 40 = .ok (.iload_n 1, 1) := by decide +kernel
theorem dX4_readCondition_41 : decode cX4_readCondition 41 = .ok (.invokevirtual 105, 3) := by decide +kernel
theorem dX4_readCondition_44 : decode cX4_readCondition 44 = .ok (.iinc 3 1, 3) := by decide +kernel
theorem dX4_readCondition_47 : decode cX4_readCondition 47 = .ok (.goto (-38), 3) := by decide +kernel
theorem dX4_readCondition_50 : decode cX4_readCondition 50 = .ok (.aload_n 0, 1) := by decide +kernel
theorem dX4_readCondition_51 : decode cX4_readCondition 51 = .ok (.getfield 18, 3) := by decide +kernel
theorem dX4_readCondition_54 : decode cX4_readCondition 54 = .ok (.iload_n 2, 1) := by decide +kernel
theorem dX4_readCondition_55 : decode cX4_readCondition 55 = .ok (.invokevirtual 111, 3) := by decide +kernel
theorem dX4_readCondition_58 : decode cX4_readCondition 58 = .ok (.return_, 1) := by decide +kernel
theorem dX4_readPart_0 : decode cX4_readPart 0 = .ok (.iconst (-1), 1) := by decide +kernel
theorem dX4_readPart_1 : decode cX4_readPart 1 = .ok (.istore_n 2, 1) := by decide +kernel
theorem dX4_readPart_2 : decode cX4_readPart 2 = .ok (.aload_n 0, 1) := by decide +kernel
theorem dX4_readPart_3 : decode cX4_readPart 3 = .ok (.iload_n 1, 1) := by decide +kernel
theorem dX4_readPart_4 : decode cX4_readPart 4 = .ok (.invokevirtual 114, 3) := by decide +kernel
theorem dX4_readPart_7 : decode cX4_readPart 7 = .ok (.iconst 0, 1) := by decide +kernel
theorem dX4_readPart_8 : decode cX4_readPart 8 = .ok (.istore_n 3, 1) := by decide +kernel
theorem dX4_readPart_9 : decode cX4_readPart 9 = .ok (.iload_n 3, 1) := by decide +kernel
theorem dX4_readPart_10 : decode cX4_readPart 10 = .ok (.sipush 200, 3) := by decide +kernel
theorem dX4_readPart_13 : decode cX4_readPart 13 = .ok (.if_icmp .ge 37, 3) := by decide +kernel
theorem dX4_readPart_16 : decode cX4_readPart 16 = .ok (.aload_n 0, 1) := by decide +kernel
theorem dX4_readPart_17 : decode cX4_readPart 17 = .ok (.getfield 9, 3) := by decide +kernel
theorem dX4_readPart_20 : decode cX4_readPart 20 = .ok (.bipush 38, 2) := by decide +kernel
theorem dX4_readPart_22 : decode cX4_readPart 22 = .ok (.invokevirtual 47, 3) := by decide +kernel
theorem dX4_readPart_25 : decode cX4_readPart 25 = .ok (.ifCond .eq 25, 3) := by decide +kernel
theorem dX4_readPart_28 : decode cX4_readPart 28 = .ok (.aload_n 0, 1) := by decide +kernel
theorem dX4_readPart_29 : decode cX4_readPart 29 = .ok (.getfield 18, 3) := by decide +kernel
theorem dX4_readPart_32 : decode cX4_readPart 32 = .ok (.bipush 11, 2) := by decide +kernel
theorem dX4_readPart_34 : decode cX4_readPart 34 = .ok (.iload_n 2, 1) := by decide +kernel
theorem dX4_readPart_35 : decode cX4_readPart 35 = .ok (.invokevirtual 108, 3) := by decide +kernel
theorem dX4_readPart_38 : decode cX4_readPart 38 = .ok (.istore_n 2, 1) := by decide +kernel
theorem dX4_readPart_39 : decode cX4_readPart 39 = .ok (.aload_n 0, 1) := by decide +kernel
theorem dX4_readPart_40 : decode cX4_readPart 40 = .ok (.iload_n 1, 1) := by decide +kernel
theorem dX4_readPart_41 : decode cX4_readPart 41 = .ok (.invokevirtual 114, 3) := by decide +kernel
theorem dX4_readPart_44 : decode cX4_readPart 44 = .ok (.iinc 3 1, 3) := by decide +kernel
theorem dX4_readPart_47 : decode cX4_readPart 47 = .ok (.goto (-38), 3) := by decide +kernel
theorem dX4_readPart_50 : decode cX4_readPart 50 = .ok (.aload_n 0, 1) := by decide +kernel
theorem dX4_readPart_51 : decode cX4_readPart 51 = .ok (.getfield 18, 3) := by decide +kernel
theorem dX4_readPart_54 : decode cX4_readPart 54 = .ok (.iload_n 2, 1) := by decide +kernel
theorem dX4_readPart_55 : decode cX4_readPart 55 = .ok (.invokevirtual 111, 3) := by decide +kernel
theorem dX4_readPart_58 : decode cX4_readPart 58 = .ok (.return_, 1) := by decide +kernel
theorem dX4_readPiece_0 : decode cX4_readPiece 0 = .ok (.aload_n 0, 1) := by decide +kernel
theorem dX4_readPiece_1 : decode cX4_readPiece 1 = .ok (.getfield 9, 3) := by decide +kernel
theorem dX4_readPiece_4 : decode cX4_readPiece 4 = .ok (.invokevirtual 54, 3) := by decide +kernel
theorem dX4_readPiece_7 : decode cX4_readPiece 7 = .ok (.istore_n 2, 1) := by decide +kernel
theorem dX4_readPiece_8 : decode cX4_readPiece 8 = .ok (.iload_n 2, 1) := by decide +kernel
theorem dX4_readPiece_9 : decode cX4_readPiece 9 = .ok (.bipush 33, 2) := by decide +kernel
theorem dX4_readPiece_11 : decode cX4_readPiece 11 = .ok (.if_icmp .eq 66, 3) := by decide +kernel
theorem dX4_readPiece_14 : decode cX4_readPiece 14 = .ok (.iload_n 2, 1) := by decide +kernel
theorem dX4_readPiece_15 : decode cX4_readPiece 15 = .ok (.bipush 40, 2) := by decide +kernel
theorem dX4_readPiece_17 : decode cX4_readPiece 17 = .ok (.if_icmp .eq 60, 3) := by decide +kernel
theorem dX4_readPiece_20 : decode cX4_readPiece 20 = .ok (.aload_n 0, 1) := by decide +kernel
theorem dX4_readPiece_21 : decode cX4_readPiece 21 = .ok (.iload_n 1, 1) := by decide +kernel
theorem dX4_readPiece_22 : decode cX4_readPiece 22 = .ok (.invokevirtual 93, 3) := by decide +kernel
theorem dX4_readPiece_25 : decode cX4_readPiece 25 = .ok (.istore_n 3, 1) := by decide +kernel
theorem dX4_readPiece_26 : decode cX4_readPiece 26 = .ok (.aload_n 0, 1) := by decide +kernel
theorem dX4_readPiece_27 : decode cX4_readPiece 27 = .ok (.getfield 9, 3) := by decide +kernel
theorem dX4_readPiece_30 : decode cX4_readPiece 30 = .ok (.invokevirtual 54, 3) := by decide +kernel
theorem dX4_readPiece_33 : decode cX4_readPiece 33 = .ok (.invokestatic 117, 3) := by decide +kernel
theorem dX4_readPiece_36 : decode cX4_readPiece 36 = .ok (.istore 4, 2) := by decide +kernel
theorem dX4_readPiece_38 : decode cX4_readPiece 38 = .ok (.iload 4, 2) := by decide +kernel
theorem dX4_readPiece_40 : decode cX4_readPiece 40 = .ok (.iconst (-1), 1) := by decide +kernel
theorem dX4_readPiece_41 : decode cX4_readPiece 41 = .ok (.if_icmp .ne 12, 3) := by decide +kernel
theorem dX4_readPiece_44 : decode cX4_readPiece 44 = .ok (.aload_n 0, 1) := by decide +kernel
theorem dX4_readPiece_45 : decode cX4_readPiece 45 = .ok (.getfield 9, 3) := by decide +kernel
theorem dX4_readPiece_48 : decode cX4_readPiece 48 = .ok (.iconst 1, 1) := by decide +kernel
theorem dX4_readPiece_49 : decode cX4_readPiece 49 = .ok (.invokevirtual 68, 3) := by decide +kernel
theorem dX4_readPiece_52 : decode cX4_readPiece 52 = .ok (.return_, 1) := by decide +kernel
theorem dX4_readPiece_53 : decode cX4_readPiece 53 = .ok (.aload_n 0, 1) := by decide +kernel
theorem dX4_readPiece_54 : decode cX4_readPiece 54 = .ok (.getfield 9, 3) := by decide +kernel
theorem dX4_readPiece_57 : decode cX4_readPiece 57 = .ok (.invokevirtual 71, 3) := by decide +kernel
theorem dX4_readPiece_60 : decode cX4_readPiece 60 = .ok (.aload_n 0, 1) := by decide +kernel
theorem dX4_readPiece_61 : decode cX4_readPiece 61 = .ok (.getfield 18, 3) := by decide +kernel
theorem dX4_readPiece_64 : decode cX4_readPiece 64 = .ok (.iload 4, 2) := by decide +kernel
theorem dX4_readPiece_66 : decode cX4_readPiece 66 = .ok (.iload_n 3, 1) := by decide +kernel
theorem dX4_readPiece_67 : decode cX4_readPiece 67 = .ok (.aload_n 0, 1) := by decide +kernel
theorem dX4_readPiece_68 : decode cX4_readPiece 68 = .ok (.iload_n 1, 1) := by decide +kernel
theorem dX4_readPiece_69 : decode cX4_readPiece 69 = .ok (.invokevirtual 93, 3) := by decide +kernel
theorem dX4_readPiece_72 : decode cX4_readPiece 72 = .ok (.invokevirtual 120, 3) := by decide +kernel
theorem dX4_readPiece_75 : decode cX4_readPiece 75 = .ok (.pop, 1) := by decide +kernel
theorem dX4_readPiece_76 : decode cX4_readPiece 76 = .ok (.return_, 1) := by decide +kernel
theorem dX4_readPiece_77 : decode cX4_readPiece 77 = .ok (.iload_n 1, 1) := by decide +kernel
theorem dX4_readPiece_78 : decode cX4_readPiece 78 = .ok (.bipush 6, 2) := by decide +kernel
theorem dX4_readPiece_80 : decode cX4_readPiece 80 = .ok (.if_icmp .lt 12, 3) := by decide +kernel
theorem dX4_readPiece_83 : decode cX4_readPiece 83 = .ok (.aload_n 0, 1) := by decide +kernel
theorem dX4_readPiece_84 : decode cX4_readPiece 84 = .ok (.getfield 9, 3) := by decide +kernel
theorem dX4_readPiece_87 : decode cX4_readPiece 87 = .ok (.iconst 5, 1) := by decide +kernel
theorem dX4_readPiece_88 : decode cX4_readPiece 88 = .ok (.invokevirtual 68, 3) := by decide +kernel
theorem dX4_readPiece_91 : decode cX4_readPiece 91 = .ok (.return_, 1) := by decide +kernel
theorem dX4_readPiece_92 : decode cX4_readPiece 92 = .ok (.aload_n 0, 1) := by decide +kernel
theorem dX4_readPiece_93 : decode cX4_readPiece 93 = .ok (.getfield 9, 3) := by decide +kernel
theorem dX4_readPiece_96 : decode cX4_readPiece 96 = .ok (.invokevirtual 71, 3) := by decide +kernel
theorem dX4_readPiece_99 : decode cX4_readPiece 99 = .ok (.iload_n 2, 1) := by decide +kernel
theorem dX4_readPiece_100 : decode cX4_readPiece 100 = .ok (.bipush 33, 2) := by decide +kernel
theorem dX4_readPiece_102 : decode cX4_readPiece 102 = .ok (.if_icmp .ne 25, 3) := by decide +kernel
theorem dX4_readPiece_105 : decode cX4_readPiece 105 = .ok (.aload_n 0, 1) := by decide +kernel
theorem dX4_readPiece_106 : decode cX4_readPiece 106 = .ok (.iload_n 1, 1) := by decide +kernel
theorem dX4_readPiece_107 : decode cX4_readPiece 107 = .ok (.iconst 1, 1) := by decide +kernel
theorem dX4_readPiece_108 : decode cX4_readPiece 108 = .ok (.iadd, 1) := by decide +kernel
theorem dX4_readPiece_109 : decode cX4_readPiece 109 = .ok (.invokevirtual 114, 3) := by decide +kernel
theorem dX4_readPiece_112 : decode cX4_readPiece 112 = .ok (.aload_n 0, 1) := by decide +kernel
theorem dX4_readPiece_113 : decode cX4_readPiece 113 = .ok (.getfield 18, 3) := by decide +kernel
theorem dX4_readPiece_116 : decode cX4_readPiece 116 = .ok (.bipush 9, 2) := by decide +kernel
theorem dX4_readPiece_118 : decode cX4_readPiece 118 = .ok (.iconst 0, 1) := by decide +kernel
theorem dX4_readPiece_119 : decode cX4_readPiece 119 = .ok (.iconst 0, 1) := by decide +kernel
theorem dX4_readPiece_120 : decode cX4_readPiece 120 = .ok (.invokevirtual 120, 3) := by decide +kernel
theorem dX4_readPiece_123 : decode cX4_readPiece 123 = .ok (.pop, 1) := by decide +kernel
theorem dX4_readPiece_124 : decode cX4_readPiece 124 = .ok (.goto 19, 3) := by decide +kernel
theorem dX4_readPiece_127 : decode cX4_readPiece 127 = .ok (.aload_n 0, 1) := by decide +kernel
theorem dX4_readPiece_128 : decode cX4_readPiece 128 = .ok (.iload_n 1, 1) := by decide +kernel
theorem dX4_readPiece_129 : decode cX4_readPiece 129 = .ok (.iconst 1, 1) := by decide +kernel
theorem dX4_readPiece_130 : decode cX4_readPiece 130 = .ok (.iadd, 1) := by decide +kernel
theorem dX4_readPiece_131 : decode cX4_readPiece 131 = .ok (.invokevirtual 99, 3) := by decide +kernel
theorem dX4_readPiece_134 : decode cX4_readPiece 134 = .ok (.aload_n 0, 1) := by decide +kernel
theorem dX4_readPiece_135 : decode cX4_readPiece 135 = .ok (.getfield 9, 3) := by decide +kernel
theorem dX4_readPiece_138 : decode cX4_readPiece 138 = .ok (.bipush 41, 2) := by decide +kernel
theorem dX4_readPiece_140 : decode cX4_readPiece 140 = .ok (.invokevirtual 74, 3) := by decide +kernel
theorem dX4_readPiece_143 : decode cX4_readPiece 143 = .ok (.return_, 1) := by decide +kernel
theorem dX4_comparison_0 : decode cX4_comparison 0 = .ok (.iload_n 0, 1) := by decide +kernel
theorem dX4_comparison_1 : decode cX4_comparison 1 = .ok (.tableswitch 36 60 62 #[27, 33, 30], 27) := by decide +kernel
theorem dX4_comparison_28 : decode cX4_comparison 28 = .ok (.bipush 6, 2) := by decide +kernel
theorem dX4_comparison_30 : decode cX4_comparison 30 = .ok (.ireturn, 1) := by decide +kernel
theorem dX4_comparison_31 : decode cX4_comparison 31 = .ok (.bipush 7, 2) := by decide +kernel
theorem dX4_comparison_33 : decode cX4_comparison 33 = .ok (.ireturn, 1) := by decide +kernel
theorem dX4_comparison_34 : decode cX4_comparison 34 = .ok (.bipush 8, 2) := by decide +kernel
theorem dX4_comparison_36 : decode cX4_comparison 36 = .ok (.ireturn, 1) := by decide +kernel
theorem dX4_comparison_37 : decode cX4_comparison 37 = .ok (.iconst (-1), 1) := by decide +kernel
theorem dX4_comparison_38 : decode cX4_comparison 38 = .ok (.ireturn, 1) := by decide +kernel
theorem dX4_readSum_0 : decode cX4_readSum 0 = .ok (.aload_n 0, 1) := by decide +kernel
theorem dX4_readSum_1 : decode cX4_readSum 1 = .ok (.iload_n 1, 1) := by decide +kernel
theorem dX4_readSum_2 : decode cX4_readSum 2 = .ok (.invokevirtual 124, 3) := by decide +kernel
theorem dX4_readSum_5 : decode cX4_readSum 5 = .ok (.istore_n 2, 1) := by decide +kernel
theorem dX4_readSum_6 : decode cX4_readSum 6 = .ok (.iconst 0, 1) := by decide +kernel
theorem dX4_readSum_7 : decode cX4_readSum 7 = .ok (.istore_n 3, 1) := by decide +kernel
theorem dX4_readSum_8 : decode cX4_readSum 8 = .ok (.iload_n 3, 1) := by decide +kernel
theorem dX4_readSum_9 : decode cX4_readSum 9 = .ok (.sipush 200, 3) := by decide +kernel
theorem dX4_readSum_12 : decode cX4_readSum 12 = .ok (.if_icmp .ge 75, 3) := by decide +kernel
theorem dX4_readSum_15 : decode cX4_readSum 15 = .ok (.aload_n 0, 1) := by decide +kernel
theorem dX4_readSum_16 : decode cX4_readSum 16 = .ok (.getfield 9, 3) := by decide +kernel
theorem dX4_readSum_19 : decode cX4_readSum 19 = .ok (.invokevirtual 54, 3) := by decide +kernel
theorem dX4_readSum_22 : decode cX4_readSum 22 = .ok (.bipush 43, 2) := by decide +kernel
theorem dX4_readSum_24 : decode cX4_readSum 24 = .ok (.if_icmp .eq 15, 3) := by decide +kernel
theorem dX4_readSum_27 : decode cX4_readSum 27 = .ok (.aload_n 0, 1) := by decide +kernel
theorem dX4_readSum_28 : decode cX4_readSum 28 = .ok (.getfield 9, 3) := by decide +kernel
theorem dX4_readSum_31 : decode cX4_readSum 31 = .ok (.invokevirtual 54, 3) := by decide +kernel
theorem dX4_readSum_34 : decode cX4_readSum 34 = .ok (.bipush 45, 2) := by decide +kernel
theorem dX4_readSum_36 : decode cX4_readSum 36 = .ok (.if_icmp .ne 51, 3) := by decide +kernel
theorem dX4_readSum_39 : decode cX4_readSum 39 = .ok (.aload_n 0, 1) := by decide +kernel
theorem dX4_readSum_40 : decode cX4_readSum 40 = .ok (.getfield 9, 3) := by decide +kernel
theorem dX4_readSum_43 : decode cX4_readSum 43 = .ok (.invokevirtual 54, 3) := by decide +kernel
theorem dX4_readSum_46 : decode cX4_readSum 46 = .ok (.bipush 43, 2) := by decide +kernel
theorem dX4_readSum_48 : decode cX4_readSum 48 = .ok (.if_icmp .ne 7, 3) := by decide +kernel
theorem dX4_readSum_51 : decode cX4_readSum 51 = .ok (.iconst 1, 1) := by decide +kernel
theorem dX4_readSum_52 : decode cX4_readSum 52 = .ok (.goto 4, 3) := by decide +kernel
theorem dX4_readSum_55 : decode cX4_readSum 55 = .ok (.iconst 2, 1) := by decide +kernel
theorem dX4_readSum_56 : decode cX4_readSum 56 = .ok (.istore 4, 2) := by decide +kernel
theorem dX4_readSum_58 : decode cX4_readSum 58 = .ok (.aload_n 0, 1) := by decide +kernel
theorem dX4_readSum_59 : decode cX4_readSum 59 = .ok (.getfield 9, 3) := by decide +kernel
theorem dX4_readSum_62 : decode cX4_readSum 62 = .ok (.invokevirtual 71, 3) := by decide +kernel
theorem dX4_readSum_65 : decode cX4_readSum 65 = .ok (.aload_n 0, 1) := by decide +kernel
theorem dX4_readSum_66 : decode cX4_readSum 66 = .ok (.getfield 18, 3) := by decide +kernel
theorem dX4_readSum_69 : decode cX4_readSum 69 = .ok (.iload 4, 2) := by decide +kernel
theorem dX4_readSum_71 : decode cX4_readSum 71 = .ok (.iload_n 2, 1) := by decide +kernel
theorem dX4_readSum_72 : decode cX4_readSum 72 = .ok (.aload_n 0, 1) := by decide +kernel
theorem dX4_readSum_73 : decode cX4_readSum 73 = .ok (.iload_n 1, 1) := by decide +kernel
theorem dX4_readSum_74 : decode cX4_readSum 74 = .ok (.invokevirtual 124, 3) := by decide +kernel
theorem dX4_readSum_77 : decode cX4_readSum 77 = .ok (.invokevirtual 120, 3) := by decide +kernel
theorem dX4_readSum_80 : decode cX4_readSum 80 = .ok (.istore_n 2, 1) := by decide +kernel
theorem dX4_readSum_81 : decode cX4_readSum 81 = .ok (.iinc 3 1, 3) := by decide +kernel
theorem dX4_readSum_84 : decode cX4_readSum 84 = .ok (.goto (-76), 3) := by decide +kernel
theorem dX4_readSum_87 : decode cX4_readSum 87 = .ok (.iload_n 2, 1) := by decide +kernel
theorem dX4_readSum_88 : decode cX4_readSum 88 = .ok (.ireturn, 1) := by decide +kernel
theorem dX4_readTerm_0 : decode cX4_readTerm 0 = .ok (.aload_n 0, 1) := by decide +kernel
theorem dX4_readTerm_1 : decode cX4_readTerm 1 = .ok (.iload_n 1, 1) := by decide +kernel
theorem dX4_readTerm_2 : decode cX4_readTerm 2 = .ok (.invokevirtual 127, 3) := by decide +kernel
theorem dX4_readTerm_5 : decode cX4_readTerm 5 = .ok (.istore_n 2, 1) := by decide +kernel
theorem dX4_readTerm_6 : decode cX4_readTerm 6 = .ok (.aload_n 0, 1) := by decide +kernel
theorem dX4_readTerm_7 : decode cX4_readTerm 7 = .ok (.getfield 9, 3) := by decide +kernel
theorem dX4_readTerm_10 : decode cX4_readTerm 10 = .ok (.invokevirtual 54, 3) := by decide +kernel
theorem dX4_readTerm_13 : decode cX4_readTerm 13 = .ok (.invokestatic 130, 3) := by decide +kernel
theorem dX4_readTerm_16 : decode cX4_readTerm 16 = .ok (.istore_n 3, 1) := by decide +kernel
theorem dX4_readTerm_17 : decode cX4_readTerm 17 = .ok (.iconst 0, 1) := by decide +kernel
theorem dX4_readTerm_18 : decode cX4_readTerm 18 = .ok (.istore 4, 2) := by decide +kernel
theorem dX4_readTerm_20 : decode cX4_readTerm 20 = .ok (.iload 4, 2) := by decide +kernel
theorem dX4_readTerm_22 : decode cX4_readTerm 22 = .ok (.sipush 200, 3) := by decide +kernel
theorem dX4_readTerm_25 : decode cX4_readTerm 25 = .ok (.if_icmp .ge 47, 3) := by decide +kernel
theorem dX4_readTerm_28 : decode cX4_readTerm 28 = .ok (.iload_n 3, 1) := by decide +kernel
theorem dX4_readTerm_29 : decode cX4_readTerm 29 = .ok (.iconst (-1), 1) := by decide +kernel
theorem dX4_readTerm_30 : decode cX4_readTerm 30 = .ok (.if_icmp .eq 42, 3) := by decide +kernel
theorem dX4_readTerm_33 : decode cX4_readTerm 33 = .ok (.aload_n 0, 1) := by decide +kernel
theorem dX4_readTerm_34 : decode cX4_readTerm 34 = .ok (.getfield 9, 3) := by decide +kernel
theorem dX4_readTerm_37 : decode cX4_readTerm 37 = .ok (.invokevirtual 71, 3) := by decide +kernel
theorem dX4_readTerm_40 : decode cX4_readTerm 40 = .ok (.aload_n 0, 1) := by decide +kernel
theorem dX4_readTerm_41 : decode cX4_readTerm 41 = .ok (.getfield 18, 3) := by decide +kernel
theorem dX4_readTerm_44 : decode cX4_readTerm 44 = .ok (.iload_n 3, 1) := by decide +kernel
theorem dX4_readTerm_45 : decode cX4_readTerm 45 = .ok (.iload_n 2, 1) := by decide +kernel
theorem dX4_readTerm_46 : decode cX4_readTerm 46 = .ok (.aload_n 0, 1) := by decide +kernel
theorem dX4_readTerm_47 : decode cX4_readTerm 47 = .ok (.iload_n 1, 1) := by decide +kernel
theorem dX4_readTerm_48 : decode cX4_readTerm 48 = .ok (.invokevirtual 127, 3) := by decide +kernel
theorem dX4_readTerm_51 : decode cX4_readTerm 51 = .ok (.invokevirtual 120, 3) := by decide +kernel
theorem dX4_readTerm_54 : decode cX4_readTerm 54 = .ok (.istore_n 2, 1) := by decide +kernel
theorem dX4_readTerm_55 : decode cX4_readTerm 55 = .ok (.aload_n 0, 1) := by decide +kernel
theorem dX4_readTerm_56 : decode cX4_readTerm 56 = .ok (.getfield 9, 3) := by decide +kernel
theorem dX4_readTerm_59 : decode cX4_readTerm 59 = .ok (.invokevirtual 54, 3) := by decide +kernel
theorem dX4_readTerm_62 : decode cX4_readTerm 62 = .ok (.invokestatic 130, 3) := by decide +kernel
theorem dX4_readTerm_65 : decode cX4_readTerm 65 = .ok (.istore_n 3, 1) := by decide +kernel
theorem dX4_readTerm_66 : decode cX4_readTerm 66 = .ok (.iinc 4 1, 3) := by decide +kernel
theorem dX4_readTerm_69 : decode cX4_readTerm 69 = .ok (.goto (-49), 3) := by decide +kernel
theorem dX4_readTerm_72 : decode cX4_readTerm 72 = .ok (.iload_n 2, 1) := by decide +kernel
theorem dX4_readTerm_73 : decode cX4_readTerm 73 = .ok (.ireturn, 1) := by decide +kernel
theorem dX4_operation_0 : decode cX4_operation 0 = .ok (.iload_n 0, 1) := by decide +kernel
theorem dX4_operation_1 : decode cX4_operation 1 = .ok (.lookupswitch 41 #[(37, 39), (42, 35), (47, 37)], 35) := by decide +kernel
theorem dX4_operation_36 : decode cX4_operation 36 = .ok (.iconst 3, 1) := by decide +kernel
theorem dX4_operation_37 : decode cX4_operation 37 = .ok (.ireturn, 1) := by decide +kernel
theorem dX4_operation_38 : decode cX4_operation 38 = .ok (.iconst 4, 1) := by decide +kernel
theorem dX4_operation_39 : decode cX4_operation 39 = .ok (.ireturn, 1) := by decide +kernel
theorem dX4_operation_40 : decode cX4_operation 40 = .ok (.iconst 5, 1) := by decide +kernel
theorem dX4_operation_41 : decode cX4_operation 41 = .ok (.ireturn, 1) := by decide +kernel
theorem dX4_operation_42 : decode cX4_operation 42 = .ok (.iconst (-1), 1) := by decide +kernel
theorem dX4_operation_43 : decode cX4_operation 43 = .ok (.ireturn, 1) := by decide +kernel
theorem dX4_readFactor_0 : decode cX4_readFactor 0 = .ok (.aload_n 0, 1) := by decide +kernel
theorem dX4_readFactor_1 : decode cX4_readFactor 1 = .ok (.getfield 9, 3) := by decide +kernel
theorem dX4_readFactor_4 : decode cX4_readFactor 4 = .ok (.invokevirtual 54, 3) := by decide +kernel
theorem dX4_readFactor_7 : decode cX4_readFactor 7 = .ok (.istore_n 2, 1) := by decide +kernel
theorem dX4_readFactor_8 : decode cX4_readFactor 8 = .ok (.iload_n 2, 1) := by decide +kernel
theorem dX4_readFactor_9 : decode cX4_readFactor 9 = .ok (.invokestatic 133, 3) := by decide +kernel
theorem dX4_readFactor_12 : decode cX4_readFactor 12 = .ok (.ifCond .eq 15, 3) := by decide +kernel
theorem dX4_readFactor_15 : decode cX4_readFactor 15 = .ok (.aload_n 0, 1) := by decide +kernel
theorem dX4_readFactor_16 : decode cX4_readFactor 16 = .ok (.getfield 18, 3) := by decide +kernel
theorem dX4_readFactor_19 : decode cX4_readFactor 19 = .ok (.aload_n 0, 1) := by decide +kernel
theorem dX4_readFactor_20 : decode cX4_readFactor 20 = .ok (.invokevirtual 136, 3) := by decide +kernel
theorem dX4_readFactor_23 : decode cX4_readFactor 23 = .ok (.invokevirtual 139, 3) := by decide +kernel
theorem dX4_readFactor_26 : decode cX4_readFactor 26 = .ok (.ireturn, 1) := by decide +kernel
theorem dX4_readFactor_27 : decode cX4_readFactor 27 = .ok (.iload_n 2, 1) := by decide +kernel
theorem dX4_readFactor_28 : decode cX4_readFactor 28 = .ok (.bipush 91, 2) := by decide +kernel
theorem dX4_readFactor_30 : decode cX4_readFactor 30 = .ok (.if_icmp .ne 45, 3) := by decide +kernel
theorem dX4_readFactor_33 : decode cX4_readFactor 33 = .ok (.iload_n 1, 1) := by decide +kernel
theorem dX4_readFactor_34 : decode cX4_readFactor 34 = .ok (.bipush 6, 2) := by decide +kernel
theorem dX4_readFactor_36 : decode cX4_readFactor 36 = .ok (.if_icmp .lt 13, 3) := by decide +kernel
theorem dX4_readFactor_39 : decode cX4_readFactor 39 = .ok (.aload_n 0, 1) := by decide +kernel
theorem dX4_readFactor_40 : decode cX4_readFactor 40 = .ok (.getfield 9, 3) := by decide +kernel
theorem dX4_readFactor_43 : decode cX4_readFactor 43 = .ok (.iconst 5, 1) := by decide +kernel
theorem dX4_readFactor_44 : decode cX4_readFactor 44 = .ok (.invokevirtual 68, 3) := by decide +kernel
theorem dX4_readFactor_47 : decode cX4_readFactor 47 = .ok (.iconst 0, 1) := by decide +kernel
theorem dX4_readFactor_48 : decode cX4_readFactor 48 = .ok (.ireturn, 1) := by decide +kernel
theorem dX4_readFactor_49 : decode cX4_readFactor 49 = .ok (.aload_n 0, 1) := by decide +kernel
theorem dX4_readFactor_50 : decode cX4_readFactor 50 = .ok (.getfield 9, 3) := by decide +kernel
theorem dX4_readFactor_53 : decode cX4_readFactor 53 = .ok (.invokevirtual 71, 3) := by decide +kernel
theorem dX4_readFactor_56 : decode cX4_readFactor 56 = .ok (.aload_n 0, 1) := by decide +kernel
theorem dX4_readFactor_57 : decode cX4_readFactor 57 = .ok (.iload_n 1, 1) := by decide +kernel
theorem dX4_readFactor_58 : decode cX4_readFactor 58 = .ok (.iconst 1, 1) := by decide +kernel
theorem dX4_readFactor_59 : decode cX4_readFactor 59 = .ok (.iadd, 1) := by decide +kernel
theorem dX4_readFactor_60 : decode cX4_readFactor 60 = .ok (.invokevirtual 93, 3) := by decide +kernel
theorem dX4_readFactor_63 : decode cX4_readFactor 63 = .ok (.istore_n 3, 1) := by decide +kernel
theorem dX4_readFactor_64 : decode cX4_readFactor 64 = .ok (.aload_n 0, 1) := by decide +kernel
theorem dX4_readFactor_65 : decode cX4_readFactor 65 = .ok (.getfield 9, 3) := by decide +kernel
theorem dX4_readFactor_68 : decode cX4_readFactor 68 = .ok (.bipush 93, 2) := by decide +kernel
theorem dX4_readFactor_70 : decode cX4_readFactor 70 = .ok (.invokevirtual 74, 3) := by decide +kernel
theorem dX4_readFactor_73 : decode cX4_readFactor 73 = .ok (.iload_n 3, 1) := by decide +kernel
theorem dX4_readFactor_74 : decode cX4_readFactor 74 = .ok (.ireturn, 1) := by decide +kernel
theorem dX4_readFactor_75 : decode cX4_readFactor 75 = .ok (.iload_n 2, 1) := by decide +kernel
theorem dX4_readFactor_76 : decode cX4_readFactor 76 = .ok (.invokestatic 65, 3) := by decide +kernel
theorem dX4_readFactor_79 : decode cX4_readFactor 79 = .ok (.ifCond .eq 13, 3) := by decide +kernel
theorem dX4_readFactor_82 : decode cX4_readFactor 82 = .ok (.ldc 142, 2) := by decide +kernel
theorem dX4_readFactor_84 : decode cX4_readFactor 84 = .ok (.iload_n 2, 1) := by decide +kernel
theorem dX4_readFactor_85 : decode cX4_readFactor 85 = .ok (.i2c, 1) := by decide +kernel
theorem dX4_readFactor_86 : decode cX4_readFactor 86 = .ok (.invokevirtual 144, 3) := by decide +kernel
theorem dX4_readFactor_89 : decode cX4_readFactor 89 = .ok (.goto 4, 3) := by decide +kernel
theorem dX4_readFactor_92 : decode cX4_readFactor 92 = .ok (.iconst (-1), 1) := by decide +kernel
theorem dX4_readFactor_93 : decode cX4_readFactor 93 = .ok (.istore_n 3, 1) := by decide +kernel
theorem dX4_readFactor_94 : decode cX4_readFactor 94 = .ok (.iload_n 3, 1) := by decide +kernel
theorem dX4_readFactor_95 : decode cX4_readFactor 95 = .ok (.ifCond .ge 13, 3) := by decide +kernel
theorem dX4_readFactor_98 : decode cX4_readFactor 98 = .ok (.aload_n 0, 1) := by decide +kernel
theorem dX4_readFactor_99 : decode cX4_readFactor 99 = .ok (.getfield 9, 3) := by decide +kernel
theorem dX4_readFactor_102 : decode cX4_readFactor 102 = .ok (.iconst 1, 1) := by decide +kernel
theorem dX4_readFactor_103 : decode cX4_readFactor 103 = .ok (.invokevirtual 68, 3) := by decide +kernel
theorem dX4_readFactor_106 : decode cX4_readFactor 106 = .ok (.iconst 0, 1) := by decide +kernel
theorem dX4_readFactor_107 : decode cX4_readFactor 107 = .ok (.ireturn, 1) := by decide +kernel
theorem dX4_readFactor_108 : decode cX4_readFactor 108 = .ok (.aload_n 0, 1) := by decide +kernel
theorem dX4_readFactor_109 : decode cX4_readFactor 109 = .ok (.getfield 9, 3) := by decide +kernel
theorem dX4_readFactor_112 : decode cX4_readFactor 112 = .ok (.invokevirtual 71, 3) := by decide +kernel
theorem dX4_readFactor_115 : decode cX4_readFactor 115 = .ok (.aload_n 0, 1) := by decide +kernel
theorem dX4_readFactor_116 : decode cX4_readFactor 116 = .ok (.getfield 18, 3) := by decide +kernel
theorem dX4_readFactor_119 : decode cX4_readFactor 119 = .ok (.iload_n 3, 1) := by decide +kernel
theorem dX4_readFactor_120 : decode cX4_readFactor 120 = .ok (.invokevirtual 149, 3) := by decide +kernel
theorem dX4_readFactor_123 : decode cX4_readFactor 123 = .ok (.ireturn, 1) := by decide +kernel
theorem dX4_isDigit_0 : decode cX4_isDigit 0 = .ok (.iload_n 0, 1) := by decide +kernel
theorem dX4_isDigit_1 : decode cX4_isDigit 1 = .ok (.bipush 48, 2) := by decide +kernel
theorem dX4_isDigit_3 : decode cX4_isDigit 3 = .ok (.if_icmp .lt 13, 3) := by decide +kernel
theorem dX4_isDigit_6 : decode cX4_isDigit 6 = .ok (.iload_n 0, 1) := by decide +kernel
theorem dX4_isDigit_7 : decode cX4_isDigit 7 = .ok (.bipush 57, 2) := by decide +kernel
theorem dX4_isDigit_9 : decode cX4_isDigit 9 = .ok (.if_icmp .gt 7, 3) := by decide +kernel
theorem dX4_isDigit_12 : decode cX4_isDigit 12 = .ok (.iconst 1, 1) := by decide +kernel
theorem dX4_isDigit_13 : decode cX4_isDigit 13 = .ok (.goto 4, 3) := by decide +kernel
theorem dX4_isDigit_16 : decode cX4_isDigit 16 = .ok (.iconst 0, 1) := by decide +kernel
theorem dX4_isDigit_17 : decode cX4_isDigit 17 = .ok (.ireturn, 1) := by decide +kernel
theorem dX4_readNumber_0 : decode cX4_readNumber 0 = .ok (.iconst 0, 1) := by decide +kernel
theorem dX4_readNumber_1 : decode cX4_readNumber 1 = .ok (.istore_n 1, 1) := by decide +kernel
theorem dX4_readNumber_2 : decode cX4_readNumber 2 = .ok (.iconst 0, 1) := by decide +kernel
theorem dX4_readNumber_3 : decode cX4_readNumber 3 = .ok (.istore_n 2, 1) := by decide +kernel
theorem dX4_readNumber_4 : decode cX4_readNumber 4 = .ok (.iload_n 2, 1) := by decide +kernel
theorem dX4_readNumber_5 : decode cX4_readNumber 5 = .ok (.iconst 5, 1) := by decide +kernel
theorem dX4_readNumber_6 : decode cX4_readNumber 6 = .ok (.if_icmp .ge 45, 3) := by decide +kernel
theorem dX4_readNumber_9 : decode cX4_readNumber 9 = .ok (.aload_n 0, 1) := by decide +kernel
theorem dX4_readNumber_10 : decode cX4_readNumber 10 = .ok (.getfield 9, 3) := by decide +kernel
theorem dX4_readNumber_13 : decode cX4_readNumber 13 = .ok (.invokevirtual 54, 3) := by decide +kernel
theorem dX4_readNumber_16 : decode cX4_readNumber 16 = .ok (.invokestatic 133, 3) := by decide +kernel
theorem dX4_readNumber_19 : decode cX4_readNumber 19 = .ok (.ifCond .eq 32, 3) := by decide +kernel
theorem dX4_readNumber_22 : decode cX4_readNumber 22 = .ok (.iload_n 1, 1) := by decide +kernel
theorem dX4_readNumber_23 : decode cX4_readNumber 23 = .ok (.bipush 10, 2) := by decide +kernel
theorem dX4_readNumber_25 : decode cX4_readNumber 25 = .ok (.imul, 1) := by decide +kernel
theorem dX4_readNumber_26 : decode cX4_readNumber 26 = .ok (.aload_n 0, 1) := by decide +kernel
theorem dX4_readNumber_27 : decode cX4_readNumber 27 = .ok (.getfield 9, 3) := by decide +kernel
theorem dX4_readNumber_30 : decode cX4_readNumber 30 = .ok (.invokevirtual 54, 3) := by decide +kernel
theorem dX4_readNumber_33 : decode cX4_readNumber 33 = .ok (.iadd, 1) := by decide +kernel
theorem dX4_readNumber_34 : decode cX4_readNumber 34 = .ok (.bipush 48, 2) := by decide +kernel
theorem dX4_readNumber_36 : decode cX4_readNumber 36 = .ok (.isub, 1) := by decide +kernel
theorem dX4_readNumber_37 : decode cX4_readNumber 37 = .ok (.istore_n 1, 1) := by decide +kernel
theorem dX4_readNumber_38 : decode cX4_readNumber 38 = .ok (.aload_n 0, 1) := by decide +kernel
theorem dX4_readNumber_39 : decode cX4_readNumber 39 = .ok (.getfield 9, 3) := by decide +kernel
theorem dX4_readNumber_42 : decode cX4_readNumber 42 = .ok (.invokevirtual 71, 3) := by decide +kernel
theorem dX4_readNumber_45 : decode cX4_readNumber 45 = .ok (.iinc 2 1, 3) := by decide +kernel
theorem dX4_readNumber_48 : decode cX4_readNumber 48 = .ok (.goto (-44), 3) := by decide +kernel
theorem dX4_readNumber_51 : decode cX4_readNumber 51 = .ok (.aload_n 0, 1) := by decide +kernel
theorem dX4_readNumber_52 : decode cX4_readNumber 52 = .ok (.getfield 9, 3) := by decide +kernel
theorem dX4_readNumber_55 : decode cX4_readNumber 55 = .ok (.invokevirtual 54, 3) := by decide +kernel
theorem dX4_readNumber_58 : decode cX4_readNumber 58 = .ok (.invokestatic 133, 3) := by decide +kernel
theorem dX4_readNumber_61 : decode cX4_readNumber 61 = .ok (.ifCond .eq 11, 3) := by decide +kernel
theorem dX4_readNumber_64 : decode cX4_readNumber 64 = .ok (.aload_n 0, 1) := by decide +kernel
theorem dX4_readNumber_65 : decode cX4_readNumber 65 = .ok (.getfield 9, 3) := by decide +kernel
theorem dX4_readNumber_68 : decode cX4_readNumber 68 = .ok (.iconst 2, 1) := by decide +kernel
theorem dX4_readNumber_69 : decode cX4_readNumber 69 = .ok (.invokevirtual 68, 3) := by decide +kernel
theorem dX4_readNumber_72 : decode cX4_readNumber 72 = .ok (.iload_n 1, 1) := by decide +kernel
theorem dX4_readNumber_73 : decode cX4_readNumber 73 = .ok (.ireturn, 1) := by decide +kernel
theorem dX11_init_0 : decode cX11_init 0 = .ok (.aload_n 0, 1) := by decide +kernel
theorem dX11_init_1 : decode cX11_init 1 = .ok (.invokespecial 3, 3) := by decide +kernel
theorem dX11_init_4 : decode cX11_init 4 = .ok (.new 9, 3) := by decide +kernel
theorem dX11_init_7 : decode cX11_init 7 = .ok (.dup, 1) := by decide +kernel
theorem dX11_init_8 : decode cX11_init 8 = .ok (.invokespecial 11, 3) := by decide +kernel
theorem dX11_init_11 : decode cX11_init 11 = .ok (.astore_n 1, 1) := by decide +kernel
theorem dX11_init_12 : decode cX11_init 12 = .ok (.new 12, 3) := by decide +kernel
theorem dX11_init_15 : decode cX11_init 15 = .ok (.dup, 1) := by decide +kernel
theorem dX11_init_16 : decode cX11_init 16 = .ok (.invokespecial 14, 3) := by decide +kernel
theorem dX11_init_19 : decode cX11_init 19 = .ok (.astore_n 2, 1) := by decide +kernel
theorem dX11_init_20 : decode cX11_init 20 = .ok (.new 15, 3) := by decide +kernel
theorem dX11_init_23 : decode cX11_init 23 = .ok (.dup, 1) := by decide +kernel
theorem dX11_init_24 : decode cX11_init 24 = .ok (.invokespecial 17, 3) := by decide +kernel
theorem dX11_init_27 : decode cX11_init 27 = .ok (.astore_n 3, 1) := by decide +kernel
theorem dX11_init_28 : decode cX11_init 28 = .ok (.aload_n 0, 1) := by decide +kernel
theorem dX11_init_29 : decode cX11_init 29 = .ok (.aload_n 1, 1) := by decide +kernel
theorem dX11_init_30 : decode cX11_init 30 = .ok (.putfield 18, 3) := by decide +kernel
theorem dX11_init_33 : decode cX11_init 33 = .ok (.aload_n 0, 1) := by decide +kernel
theorem dX11_init_34 : decode cX11_init 34 = .ok (.new 22, 3) := by decide +kernel
theorem dX11_init_37 : decode cX11_init 37 = .ok (.dup, 1) := by decide +kernel
theorem dX11_init_38 : decode cX11_init 38 = .ok (.aload_n 1, 1) := by decide +kernel
theorem dX11_init_39 : decode cX11_init 39 = .ok (.invokespecial 24, 3) := by decide +kernel
theorem dX11_init_42 : decode cX11_init 42 = .ok (.putfield 27, 3) := by decide +kernel
theorem dX11_init_45 : decode cX11_init 45 = .ok (.aload_n 0, 1) := by decide +kernel
theorem dX11_init_46 : decode cX11_init 46 = .ok (.aload_n 2, 1) := by decide +kernel
theorem dX11_init_47 : decode cX11_init 47 = .ok (.putfield 31, 3) := by decide +kernel
theorem dX11_init_50 : decode cX11_init 50 = .ok (.aload_n 0, 1) := by decide +kernel
theorem dX11_init_51 : decode cX11_init 51 = .ok (.new 35, 3) := by decide +kernel
theorem dX11_init_54 : decode cX11_init 54 = .ok (.dup, 1) := by decide +kernel
theorem dX11_init_55 : decode cX11_init 55 = .ok (.invokespecial 37, 3) := by decide +kernel
theorem dX11_init_58 : decode cX11_init 58 = .ok (.putfield 38, 3) := by decide +kernel
theorem dX11_init_61 : decode cX11_init 61 = .ok (.aload_n 0, 1) := by decide +kernel
theorem dX11_init_62 : decode cX11_init 62 = .ok (.new 35, 3) := by decide +kernel
theorem dX11_init_65 : decode cX11_init 65 = .ok (.dup, 1) := by decide +kernel
theorem dX11_init_66 : decode cX11_init 66 = .ok (.invokespecial 37, 3) := by decide +kernel
theorem dX11_init_69 : decode cX11_init 69 = .ok (.putfield 42, 3) := by decide +kernel
theorem dX11_init_72 : decode cX11_init 72 = .ok (.aload_n 0, 1) := by decide +kernel
theorem dX11_init_73 : decode cX11_init 73 = .ok (.bipush 6, 2) := by decide +kernel
theorem dX11_init_75 : decode cX11_init 75 = .ok (.newarray .int, 2) := by decide +kernel
theorem dX11_init_77 : decode cX11_init 77 = .ok (.putfield 45, 3) := by decide +kernel
theorem dX11_init_80 : decode cX11_init 80 = .ok (.aload_n 0, 1) := by decide +kernel
theorem dX11_init_81 : decode cX11_init 81 = .ok (.new 49, 3) := by decide +kernel
theorem dX11_init_84 : decode cX11_init 84 = .ok (.dup, 1) := by decide +kernel
theorem dX11_init_85 : decode cX11_init 85 = .ok (.aload_n 2, 1) := by decide +kernel
theorem dX11_init_86 : decode cX11_init 86 = .ok (.aload_n 3, 1) := by decide +kernel
theorem dX11_init_87 : decode cX11_init 87 = .ok (.invokespecial 51, 3) := by decide +kernel
theorem dX11_init_90 : decode cX11_init 90 = .ok (.putfield 54, 3) := by decide +kernel
theorem dX11_init_93 : decode cX11_init 93 = .ok (.aload_n 0, 1) := by decide +kernel
theorem dX11_init_94 : decode cX11_init 94 = .ok (.new 58, 3) := by decide +kernel
theorem dX11_init_97 : decode cX11_init 97 = .ok (.dup, 1) := by decide +kernel
theorem dX11_init_98 : decode cX11_init 98 = .ok (.aload_n 2, 1) := by decide +kernel
theorem dX11_init_99 : decode cX11_init 99 = .ok (.aload_n 3, 1) := by decide +kernel
theorem dX11_init_100 : decode cX11_init 100 = .ok (.invokespecial 60, 3) := by decide +kernel
theorem dX11_init_103 : decode cX11_init 103 = .ok (.putfield 61, 3) := by decide +kernel
theorem dX11_init_106 : decode cX11_init 106 = .ok (.aload_n 0, 1) := by decide +kernel
theorem dX11_init_107 : decode cX11_init 107 = .ok (.new 65, 3) := by decide +kernel
theorem dX11_init_110 : decode cX11_init 110 = .ok (.dup, 1) := by decide +kernel
theorem dX11_init_111 : decode cX11_init 111 = .ok (.aload_n 2, 1) := by decide +kernel
theorem dX11_init_112 : decode cX11_init 112 = .ok (.aload_n 3, 1) := by decide +kernel
theorem dX11_init_113 : decode cX11_init 113 = .ok (.invokespecial 67, 3) := by decide +kernel
theorem dX11_init_116 : decode cX11_init 116 = .ok (.putfield 68, 3) := by decide +kernel
theorem dX11_init_119 : decode cX11_init 119 = .ok (.aload_n 0, 1) := by decide +kernel
theorem dX11_init_120 : decode cX11_init 120 = .ok (.new 72, 3) := by decide +kernel
theorem dX11_init_123 : decode cX11_init 123 = .ok (.dup, 1) := by decide +kernel
theorem dX11_init_124 : decode cX11_init 124 = .ok (.aload_n 2, 1) := by decide +kernel
theorem dX11_init_125 : decode cX11_init 125 = .ok (.invokespecial 74, 3) := by decide +kernel
theorem dX11_init_128 : decode cX11_init 128 = .ok (.putfield 77, 3) := by decide +kernel
theorem dX11_init_131 : decode cX11_init 131 = .ok (.aload_n 0, 1) := by decide +kernel
theorem dX11_init_132 : decode cX11_init 132 = .ok (.new 81, 3) := by decide +kernel
theorem dX11_init_135 : decode cX11_init 135 = .ok (.dup, 1) := by decide +kernel
theorem dX11_init_136 : decode cX11_init 136 = .ok (.aload_n 2, 1) := by decide +kernel
theorem dX11_init_137 : decode cX11_init 137 = .ok (.aload_n 3, 1) := by decide +kernel
theorem dX11_init_138 : decode cX11_init 138 = .ok (.invokespecial 83, 3) := by decide +kernel
theorem dX11_init_141 : decode cX11_init 141 = .ok (.putfield 84, 3) := by decide +kernel
theorem dX11_init_144 : decode cX11_init 144 = .ok (.aload_n 0, 1) := by decide +kernel
theorem dX11_init_145 : decode cX11_init 145 = .ok (.iconst 1, 1) := by decide +kernel
theorem dX11_init_146 : decode cX11_init 146 = .ok (.putfield 88, 3) := by decide +kernel
theorem dX11_init_149 : decode cX11_init 149 = .ok (.return_, 1) := by decide +kernel
theorem dX11_feed_0 : decode cX11_feed 0 = .ok (.aload_n 0, 1) := by decide +kernel
theorem dX11_feed_1 : decode cX11_feed 1 = .ok (.getfield 18, 3) := by decide +kernel
theorem dX11_feed_4 : decode cX11_feed 4 = .ok (.getfield 92, 3) := by decide +kernel
theorem dX11_feed_7 : decode cX11_feed 7 = .ok (.bipush 20, 2) := by decide +kernel
theorem dX11_feed_9 : decode cX11_feed 9 = .ok (.iadd, 1) := by decide +kernel
theorem dX11_feed_10 : decode cX11_feed 10 = .ok (.sipush 220, 3) := by decide +kernel
theorem dX11_feed_13 : decode cX11_feed 13 = .ok (.if_icmp .le 5, 3) := by decide +kernel
theorem dX11_feed_16 : decode cX11_feed 16 = .ok (.iconst (-1), 1) := by decide +kernel
theorem dX11_feed_17 : decode cX11_feed 17 = .ok (.ireturn, 1) := by decide +kernel
theorem dX11_feed_18 : decode cX11_feed 18 = .ok (.aload_n 0, 1) := by decide +kernel
theorem dX11_feed_19 : decode cX11_feed 19 = .ok (.getfield 18, 3) := by decide +kernel
theorem dX11_feed_22 : decode cX11_feed 22 = .ok (.iload_n 1, 1) := by decide +kernel
theorem dX11_feed_23 : decode cX11_feed 23 = .ok (.invokevirtual 95, 3) := by decide +kernel
theorem dX11_feed_26 : decode cX11_feed 26 = .ok (.aload_n 0, 1) := by decide +kernel
theorem dX11_feed_27 : decode cX11_feed 27 = .ok (.getfield 18, 3) := by decide +kernel
theorem dX11_feed_30 : decode cX11_feed 30 = .ok (.iload_n 2, 1) := by decide +kernel
theorem dX11_feed_31 : decode cX11_feed 31 = .ok (.invokevirtual 95, 3) := by decide +kernel
theorem dX11_feed_34 : decode cX11_feed 34 = .ok (.aload_n 0, 1) := by decide +kernel
theorem dX11_feed_35 : decode cX11_feed 35 = .ok (.getfield 18, 3) := by decide +kernel
theorem dX11_feed_38 : decode cX11_feed 38 = .ok (.iload_n 3, 1) := by decide +kernel
theorem dX11_feed_39 : decode cX11_feed 39 = .ok (.invokevirtual 95, 3) := by decide +kernel
theorem dX11_feed_42 : decode cX11_feed 42 = .ok (.aload_n 0, 1) := by decide +kernel
theorem dX11_feed_43 : decode cX11_feed 43 = .ok (.getfield 18, 3) := by decide +kernel
theorem dX11_feed_46 : decode cX11_feed 46 = .ok (.iload 4, 2) := by decide +kernel
theorem dX11_feed_48 : decode cX11_feed 48 = .ok (.invokevirtual 95, 3) := by decide +kernel
theorem dX11_feed_51 : decode cX11_feed 51 = .ok (.aload_n 0, 1) := by decide +kernel
theorem dX11_feed_52 : decode cX11_feed 52 = .ok (.getfield 18, 3) := by decide +kernel
theorem dX11_feed_55 : decode cX11_feed 55 = .ok (.iload 5, 2) := by decide +kernel
theorem dX11_feed_57 : decode cX11_feed 57 = .ok (.invokevirtual 95, 3) := by decide +kernel
theorem dX11_feed_60 : decode cX11_feed 60 = .ok (.aload_n 0, 1) := by decide +kernel
theorem dX11_feed_61 : decode cX11_feed 61 = .ok (.getfield 18, 3) := by decide +kernel
theorem dX11_feed_64 : decode cX11_feed 64 = .ok (.getfield 92, 3) := by decide +kernel
theorem dX11_feed_67 : decode cX11_feed 67 = .ok (.ireturn, 1) := by decide +kernel
theorem dX11_thing_0 : decode cX11_thing 0 = .ok (.iload_n 1, 1) := by decide +kernel
theorem dX11_thing_1 : decode cX11_thing 1 = .ok (.invokestatic 99, 3) := by decide +kernel
theorem dX11_thing_4 : decode cX11_thing 4 = .ok (.ifCond .eq 14, 3) := by decide +kernel
theorem dX11_thing_7 : decode cX11_thing 7 = .ok (.aload_n 0, 1) := by decide +kernel
theorem dX11_thing_8 : decode cX11_thing 8 = .ok (.iload_n 2, 1) := by decide +kernel
theorem dX11_thing_9 : decode cX11_thing 9 = .ok (.bipush 60, 2) := by decide +kernel
theorem dX11_thing_11 : decode cX11_thing 11 = .ok (.iconst 1, 1) := by decide +kernel
theorem dX11_thing_12 : decode cX11_thing 12 = .ok (.invokevirtual 103, 3) := by decide +kernel
theorem dX11_thing_15 : decode cX11_thing 15 = .ok (.ifCond .ne 5, 3) := by decide +kernel
theorem dX11_thing_18 : decode cX11_thing 18 = .ok (.iconst (-1), 1) := by decide +kernel
theorem dX11_thing_19 : decode cX11_thing 19 = .ok (.ireturn, 1) := by decide +kernel
theorem dX11_thing_20 : decode cX11_thing 20 = .ok (.aload_n 0, 1) := by decide +kernel
theorem dX11_thing_21 : decode cX11_thing 21 = .ok (.getfield 27, 3) := by decide +kernel
theorem dX11_thing_24 : decode cX11_thing 24 = .ok (.iload_n 2, 1) := by decide +kernel
theorem dX11_thing_25 : decode cX11_thing 25 = .ok (.invokevirtual 107, 3) := by decide +kernel
theorem dX11_thing_28 : decode cX11_thing 28 = .ok (.istore_n 3, 1) := by decide +kernel
theorem dX11_thing_29 : decode cX11_thing 29 = .ok (.aload_n 0, 1) := by decide +kernel
theorem dX11_thing_30 : decode cX11_thing 30 = .ok (.getfield 18, 3) := by decide +kernel
theorem dX11_thing_33 : decode cX11_thing 33 = .ok (.invokevirtual 111, 3) := by decide +kernel
theorem dX11_thing_36 : decode cX11_thing 36 = .ok (.iload_n 3, 1) := by decide +kernel
theorem dX11_thing_37 : decode cX11_thing 37 = .ok (.ifCond .ge 5, 3) := by decide +kernel
theorem dX11_thing_40 : decode cX11_thing 40 = .ok (.iload_n 3, 1) := by decide +kernel
theorem dX11_thing_41 : decode cX11_thing 41 = .ok (.ireturn, 1) := by decide +kernel
theorem dX11_thing_42 : decode cX11_thing 42 = .ok (.aload_n 0, 1) := by decide +kernel
theorem dX11_thing_43 : decode cX11_thing 43 = .ok (.getfield 31, 3) := by decide +kernel
theorem dX11_thing_46 : decode cX11_thing 46 = .ok (.iload_n 1, 1) := by decide +kernel
theorem dX11_thing_47 : decode cX11_thing 47 = .ok (.iload_n 3, 1) := by decide +kernel
theorem dX11_thing_48 : decode cX11_thing 48 = .ok (.invokevirtual 114, 3) := by decide +kernel
theorem dX11_thing_51 : decode cX11_thing 51 = .ok (.iload_n 3, 1) := by decide +kernel
theorem dX11_thing_52 : decode cX11_thing 52 = .ok (.invokestatic 118, 3) := by decide +kernel
theorem dX11_thing_55 : decode cX11_thing 55 = .ok (.ireturn, 1) := by decide +kernel
theorem dX11_lengths_0 : decode cX11_lengths 0 = .ok (.iload_n 1, 1) := by decide +kernel
theorem dX11_lengths_1 : decode cX11_lengths 1 = .ok (.invokestatic 99, 3) := by decide +kernel
theorem dX11_lengths_4 : decode cX11_lengths 4 = .ok (.ifCond .eq 14, 3) := by decide +kernel
theorem dX11_lengths_7 : decode cX11_lengths 7 = .ok (.aload_n 0, 1) := by decide +kernel
theorem dX11_lengths_8 : decode cX11_lengths 8 = .ok (.getfield 31, 3) := by decide +kernel
theorem dX11_lengths_11 : decode cX11_lengths 11 = .ok (.iload_n 1, 1) := by decide +kernel
theorem dX11_lengths_12 : decode cX11_lengths 12 = .ok (.invokevirtual 123, 3) := by decide +kernel
theorem dX11_lengths_15 : decode cX11_lengths 15 = .ok (.goto 4, 3) := by decide +kernel
theorem dX11_lengths_18 : decode cX11_lengths 18 = .ok (.iconst (-1), 1) := by decide +kernel
theorem dX11_lengths_19 : decode cX11_lengths 19 = .ok (.ireturn, 1) := by decide +kernel
theorem dX11_colour_0 : decode cX11_colour 0 = .ok (.iload_n 1, 1) := by decide +kernel
theorem dX11_colour_1 : decode cX11_colour 1 = .ok (.invokestatic 126, 3) := by decide +kernel
theorem dX11_colour_4 : decode cX11_colour 4 = .ok (.ifCond .eq 12, 3) := by decide +kernel
theorem dX11_colour_7 : decode cX11_colour 7 = .ok (.iload_n 2, 1) := by decide +kernel
theorem dX11_colour_8 : decode cX11_colour 8 = .ok (.ifCond .lt 8, 3) := by decide +kernel
theorem dX11_colour_11 : decode cX11_colour 11 = .ok (.iload_n 2, 1) := by decide +kernel
theorem dX11_colour_12 : decode cX11_colour 12 = .ok (.iconst 4, 1) := by decide +kernel
theorem dX11_colour_13 : decode cX11_colour 13 = .ok (.if_icmp .lt 5, 3) := by decide +kernel
theorem dX11_colour_16 : decode cX11_colour 16 = .ok (.iconst 0, 1) := by decide +kernel
theorem dX11_colour_17 : decode cX11_colour 17 = .ok (.ireturn, 1) := by decide +kernel
theorem dX11_colour_18 : decode cX11_colour 18 = .ok (.aload_n 0, 1) := by decide +kernel
theorem dX11_colour_19 : decode cX11_colour 19 = .ok (.getfield 31, 3) := by decide +kernel
theorem dX11_colour_22 : decode cX11_colour 22 = .ok (.iload_n 1, 1) := by decide +kernel
theorem dX11_colour_23 : decode cX11_colour 23 = .ok (.iload_n 2, 1) := by decide +kernel
theorem dX11_colour_24 : decode cX11_colour 24 = .ok (.invokevirtual 129, 3) := by decide +kernel
theorem dX11_colour_27 : decode cX11_colour 27 = .ok (.iconst 1, 1) := by decide +kernel
theorem dX11_colour_28 : decode cX11_colour 28 = .ok (.ireturn, 1) := by decide +kernel
theorem dX11_law_0 : decode cX11_law 0 = .ok (.iload_n 1, 1) := by decide +kernel
theorem dX11_law_1 : decode cX11_law 1 = .ok (.invokestatic 132, 3) := by decide +kernel
theorem dX11_law_4 : decode cX11_law 4 = .ok (.ifCond .eq 15, 3) := by decide +kernel
theorem dX11_law_7 : decode cX11_law 7 = .ok (.aload_n 0, 1) := by decide +kernel
theorem dX11_law_8 : decode cX11_law 8 = .ok (.iload_n 2, 1) := by decide +kernel
theorem dX11_law_9 : decode cX11_law 9 = .ok (.sipush 200, 3) := by decide +kernel
theorem dX11_law_12 : decode cX11_law 12 = .ok (.iconst 1, 1) := by decide +kernel
theorem dX11_law_13 : decode cX11_law 13 = .ok (.invokevirtual 103, 3) := by decide +kernel
theorem dX11_law_16 : decode cX11_law 16 = .ok (.ifCond .ne 5, 3) := by decide +kernel
theorem dX11_law_19 : decode cX11_law 19 = .ok (.iconst (-1), 1) := by decide +kernel
theorem dX11_law_20 : decode cX11_law 20 = .ok (.ireturn, 1) := by decide +kernel
theorem dX11_law_21 : decode cX11_law 21 = .ok (.aload_n 0, 1) := by decide +kernel
theorem dX11_law_22 : decode cX11_law 22 = .ok (.getfield 27, 3) := by decide +kernel
theorem dX11_law_25 : decode cX11_law 25 = .ok (.iload_n 2, 1) := by decide +kernel
theorem dX11_law_26 : decode cX11_law 26 = .ok (.aload_n 0, 1) := by decide +kernel
theorem dX11_law_27 : decode cX11_law 27 = .ok (.getfield 31, 3) := by decide +kernel
theorem dX11_law_30 : decode cX11_law 30 = .ok (.getfield 135, 3) := by decide +kernel
theorem dX11_law_33 : decode cX11_law 33 = .ok (.invokevirtual 139, 3) := by decide +kernel
theorem dX11_law_36 : decode cX11_law 36 = .ok (.istore_n 3, 1) := by decide +kernel
theorem dX11_law_37 : decode cX11_law 37 = .ok (.aload_n 0, 1) := by decide +kernel
theorem dX11_law_38 : decode cX11_law 38 = .ok (.getfield 18, 3) := by decide +kernel
theorem dX11_law_41 : decode cX11_law 41 = .ok (.invokevirtual 111, 3) := by decide +kernel
theorem dX11_law_44 : decode cX11_law 44 = .ok (.iload_n 3, 1) := by decide +kernel
theorem dX11_law_45 : decode cX11_law 45 = .ok (.ifCond .lt 11, 3) := by decide +kernel
theorem dX11_law_48 : decode cX11_law 48 = .ok (.aload_n 0, 1) := by decide +kernel
theorem dX11_law_49 : decode cX11_law 49 = .ok (.getfield 31, 3) := by decide +kernel
theorem dX11_law_52 : decode cX11_law 52 = .ok (.iload_n 1, 1) := by decide +kernel
theorem dX11_law_53 : decode cX11_law 53 = .ok (.invokevirtual 143, 3) := by decide +kernel
theorem dX11_law_56 : decode cX11_law 56 = .ok (.iload_n 3, 1) := by decide +kernel
theorem dX11_law_57 : decode cX11_law 57 = .ok (.ireturn, 1) := by decide +kernel
theorem dX11_may_0 : decode cX11_may 0 = .ok (.iload_n 1, 1) := by decide +kernel
theorem dX11_may_1 : decode cX11_may 1 = .ok (.invokestatic 132, 3) := by decide +kernel
theorem dX11_may_4 : decode cX11_may 4 = .ok (.ifCond .eq 17, 3) := by decide +kernel
theorem dX11_may_7 : decode cX11_may 7 = .ok (.iload_n 2, 1) := by decide +kernel
theorem dX11_may_8 : decode cX11_may 8 = .ok (.invokestatic 126, 3) := by decide +kernel
theorem dX11_may_11 : decode cX11_may 11 = .ok (.ifCond .eq 10, 3) := by decide +kernel
theorem dX11_may_14 : decode cX11_may 14 = .ok (.iload_n 3, 1) := by decide +kernel
theorem dX11_may_15 : decode cX11_may 15 = .ok (.invokestatic 99, 3) := by decide +kernel
theorem dX11_may_18 : decode cX11_may 18 = .ok (.ifCond .ne 5, 3) := by decide +kernel
theorem dX11_may_21 : decode cX11_may 21 = .ok (.iconst (-1), 1) := by decide +kernel
theorem dX11_may_22 : decode cX11_may 22 = .ok (.ireturn, 1) := by decide +kernel
theorem dX11_may_23 : decode cX11_may 23 = .ok (.aload_n 0, 1) := by decide +kernel
theorem dX11_may_24 : decode cX11_may 24 = .ok (.getfield 31, 3) := by decide +kernel
theorem dX11_may_27 : decode cX11_may 27 = .ok (.iload_n 3, 1) := by decide +kernel
theorem dX11_may_28 : decode cX11_may 28 = .ok (.iload 4, 2) := by decide +kernel
theorem dX11_may_30 : decode cX11_may 30 = .ok (.invokevirtual 146, 3) := by decide +kernel
theorem dX11_may_33 : decode cX11_may 33 = .ok (.istore 5, 2) := by decide +kernel
theorem dX11_may_35 : decode cX11_may 35 = .ok (.iload 5, 2) := by decide +kernel
theorem dX11_may_37 : decode cX11_may 37 = .ok (.ifCond .ne 6, 3) := by decide +kernel
theorem dX11_may_40 : decode cX11_may 40 = .ok (.bipush (-2), 2) := by decide +kernel
theorem dX11_may_42 : decode cX11_may 42 = .ok (.ireturn, 1) := by decide +kernel
theorem dX11_may_43 : decode cX11_may 43 = .ok (.aload_n 0, 1) := by decide +kernel
theorem dX11_may_44 : decode cX11_may 44 = .ok (.invokevirtual 150, 3) := by decide +kernel
theorem dX11_may_47 : decode cX11_may 47 = .ok (.aload_n 0, 1) := by decide +kernel
theorem dX11_may_48 : decode cX11_may 48 = .ok (.getfield 31, 3) := by decide +kernel
theorem dX11_may_51 : decode cX11_may 51 = .ok (.iconst 1, 1) := by decide +kernel
theorem dX11_may_52 : decode cX11_may 52 = .ok (.iload_n 1, 1) := by decide +kernel
theorem dX11_may_53 : decode cX11_may 53 = .ok (.ishl, 1) := by decide +kernel
theorem dX11_may_54 : decode cX11_may 54 = .ok (.iload_n 2, 1) := by decide +kernel
theorem dX11_may_55 : decode cX11_may 55 = .ok (.iload_n 3, 1) := by decide +kernel
theorem dX11_may_56 : decode cX11_may 56 = .ok (.iload 5, 2) := by decide +kernel
theorem dX11_may_58 : decode cX11_may 58 = .ok (.invokevirtual 153, 3) := by decide +kernel
theorem dX11_may_61 : decode cX11_may 61 = .ok (.ifCond .ne 7, 3) := by decide +kernel
theorem dX11_may_64 : decode cX11_may 64 = .ok (.iconst 0, 1) := by decide +kernel
theorem dX11_may_65 : decode cX11_may 65 = .ok (.goto 4, 3) := by decide +kernel
theorem dX11_may_68 : decode cX11_may 68 = .ok (.iconst 1, 1) := by decide +kernel
theorem dX11_may_69 : decode cX11_may 69 = .ok (.ireturn, 1) := by decide +kernel
theorem dX11_ways_0 : decode cX11_ways 0 = .ok (.iload_n 1, 1) := by decide +kernel
theorem dX11_ways_1 : decode cX11_ways 1 = .ok (.invokestatic 132, 3) := by decide +kernel
theorem dX11_ways_4 : decode cX11_ways 4 = .ok (.ifCond .eq 17, 3) := by decide +kernel
theorem dX11_ways_7 : decode cX11_ways 7 = .ok (.iload_n 2, 1) := by decide +kernel
theorem dX11_ways_8 : decode cX11_ways 8 = .ok (.invokestatic 126, 3) := by decide +kernel
theorem dX11_ways_11 : decode cX11_ways 11 = .ok (.ifCond .eq 10, 3) := by decide +kernel
theorem dX11_ways_14 : decode cX11_ways 14 = .ok (.iload_n 3, 1) := by decide +kernel
theorem dX11_ways_15 : decode cX11_ways 15 = .ok (.invokestatic 99, 3) := by decide +kernel
theorem dX11_ways_18 : decode cX11_ways 18 = .ok (.ifCond .ne 5, 3) := by decide +kernel
theorem dX11_ways_21 : decode cX11_ways 21 = .ok (.iconst (-1), 1) := by decide +kernel
theorem dX11_ways_22 : decode cX11_ways 22 = .ok (.ireturn, 1) := by decide +kernel
theorem dX11_ways_23 : decode cX11_ways 23 = .ok (.aload_n 0, 1) := by decide +kernel
theorem dX11_ways_24 : decode cX11_ways 24 = .ok (.invokevirtual 150, 3) := by decide +kernel
theorem dX11_ways_27 : decode cX11_ways 27 = .ok (.aload_n 0, 1) := by decide +kernel
theorem dX11_ways_28 : decode cX11_ways 28 = .ok (.getfield 31, 3) := by decide +kernel
theorem dX11_ways_31 : decode cX11_ways 31 = .ok (.iconst 1, 1) := by decide +kernel
theorem dX11_ways_32 : decode cX11_ways 32 = .ok (.iload_n 1, 1) := by decide +kernel
theorem dX11_ways_33 : decode cX11_ways 33 = .ok (.ishl, 1) := by decide +kernel
theorem dX11_ways_34 : decode cX11_ways 34 = .ok (.iload_n 2, 1) := by decide +kernel
theorem dX11_ways_35 : decode cX11_ways 35 = .ok (.iload_n 3, 1) := by decide +kernel
theorem dX11_ways_36 : decode cX11_ways 36 = .ok (.aload_n 0, 1) := by decide +kernel
theorem dX11_ways_37 : decode cX11_ways 37 = .ok (.getfield 31, 3) := by decide +kernel
theorem dX11_ways_40 : decode cX11_ways 40 = .ok (.iload_n 3, 1) := by decide +kernel
theorem dX11_ways_41 : decode cX11_ways 41 = .ok (.invokevirtual 123, 3) := by decide +kernel
theorem dX11_ways_44 : decode cX11_ways 44 = .ok (.invokevirtual 153, 3) := by decide +kernel
theorem dX11_ways_47 : decode cX11_ways 47 = .ok (.ireturn, 1) := by decide +kernel
theorem dX11_say_0 : decode cX11_say 0 = .ok (.iload_n 1, 1) := by decide +kernel
theorem dX11_say_1 : decode cX11_say 1 = .ok (.invokestatic 126, 3) := by decide +kernel
theorem dX11_say_4 : decode cX11_say 4 = .ok (.ifCond .eq 23, 3) := by decide +kernel
theorem dX11_say_7 : decode cX11_say 7 = .ok (.iload_n 2, 1) := by decide +kernel
theorem dX11_say_8 : decode cX11_say 8 = .ok (.invokestatic 99, 3) := by decide +kernel
theorem dX11_say_11 : decode cX11_say 11 = .ok (.ifCond .eq 16, 3) := by decide +kernel
theorem dX11_say_14 : decode cX11_say 14 = .ok (.aload_n 0, 1) := by decide +kernel
theorem dX11_say_15 : decode cX11_say 15 = .ok (.getfield 38, 3) := by decide +kernel
theorem dX11_say_18 : decode cX11_say 18 = .ok (.getfield 157, 3) := by decide +kernel
theorem dX11_say_21 : decode cX11_say 21 = .ok (.sipush 200, 3) := by decide +kernel
theorem dX11_say_24 : decode cX11_say 24 = .ok (.if_icmp .lt 5, 3) := by decide +kernel
theorem dX11_say_27 : decode cX11_say 27 = .ok (.iconst (-1), 1) := by decide +kernel
theorem dX11_say_28 : decode cX11_say 28 = .ok (.ireturn, 1) := by decide +kernel
theorem dX11_say_29 : decode cX11_say 29 = .ok (.aload_n 0, 1) := by decide +kernel
theorem dX11_say_30 : decode cX11_say 30 = .ok (.getfield 31, 3) := by decide +kernel
theorem dX11_say_33 : decode cX11_say 33 = .ok (.iload_n 2, 1) := by decide +kernel
theorem dX11_say_34 : decode cX11_say 34 = .ok (.iload_n 3, 1) := by decide +kernel
theorem dX11_say_35 : decode cX11_say 35 = .ok (.invokevirtual 146, 3) := by decide +kernel
theorem dX11_say_38 : decode cX11_say 38 = .ok (.istore 4, 2) := by decide +kernel
theorem dX11_say_40 : decode cX11_say 40 = .ok (.iload 4, 2) := by decide +kernel
theorem dX11_say_42 : decode cX11_say 42 = .ok (.ifCond .ne 6, 3) := by decide +kernel
theorem dX11_say_45 : decode cX11_say 45 = .ok (.bipush (-2), 2) := by decide +kernel
theorem dX11_say_47 : decode cX11_say 47 = .ok (.ireturn, 1) := by decide +kernel
theorem dX11_say_48 : decode cX11_say 48 = .ok (.aload_n 0, 1) := by decide +kernel
theorem dX11_say_49 : decode cX11_say 49 = .ok (.invokevirtual 150, 3) := by decide +kernel
theorem dX11_say_52 : decode cX11_say 52 = .ok (.aload_n 0, 1) := by decide +kernel
theorem dX11_say_53 : decode cX11_say 53 = .ok (.getfield 31, 3) := by decide +kernel
theorem dX11_say_56 : decode cX11_say 56 = .ok (.iconst 1, 1) := by decide +kernel
theorem dX11_say_57 : decode cX11_say 57 = .ok (.iload_n 1, 1) := by decide +kernel
theorem dX11_say_58 : decode cX11_say 58 = .ok (.iload_n 2, 1) := by decide +kernel
theorem dX11_say_59 : decode cX11_say 59 = .ok (.iload 4, 2) := by decide +kernel
theorem dX11_say_61 : decode cX11_say 61 = .ok (.invokevirtual 153, 3) := by decide +kernel
theorem dX11_say_64 : decode cX11_say 64 = .ok (.ifCond .ne 6, 3) := by decide +kernel
theorem dX11_say_67 : decode cX11_say 67 = .ok (.bipush (-3), 2) := by decide +kernel
theorem dX11_say_69 : decode cX11_say 69 = .ok (.ireturn, 1) := by decide +kernel
theorem dX11_say_70 : decode cX11_say 70 = .ok (.aload_n 0, 1) := by decide +kernel
theorem dX11_say_71 : decode cX11_say 71 = .ok (.getfield 38, 3) := by decide +kernel
theorem dX11_say_74 : decode cX11_say 74 = .ok (.iload_n 1, 1) := by decide +kernel
theorem dX11_say_75 : decode cX11_say 75 = .ok (.iload_n 2, 1) := by decide +kernel
theorem dX11_say_76 : decode cX11_say 76 = .ok (.iload_n 3, 1) := by decide +kernel
theorem dX11_say_77 : decode cX11_say 77 = .ok (.invokevirtual 160, 3) := by decide +kernel
theorem dX11_say_80 : decode cX11_say 80 = .ok (.aload_n 0, 1) := by decide +kernel
theorem dX11_say_81 : decode cX11_say 81 = .ok (.getfield 38, 3) := by decide +kernel
theorem dX11_say_84 : decode cX11_say 84 = .ok (.getfield 157, 3) := by decide +kernel
theorem dX11_say_87 : decode cX11_say 87 = .ok (.ireturn, 1) := by decide +kernel
theorem dX11_said_0 : decode cX11_said 0 = .ok (.iload_n 1, 1) := by decide +kernel
theorem dX11_said_1 : decode cX11_said 1 = .ok (.ifCond .lt 14, 3) := by decide +kernel
theorem dX11_said_4 : decode cX11_said 4 = .ok (.iload_n 1, 1) := by decide +kernel
theorem dX11_said_5 : decode cX11_said 5 = .ok (.aload_n 0, 1) := by decide +kernel
theorem dX11_said_6 : decode cX11_said 6 = .ok (.getfield 38, 3) := by decide +kernel
theorem dX11_said_9 : decode cX11_said 9 = .ok (.getfield 157, 3) := by decide +kernel
theorem dX11_said_12 : decode cX11_said 12 = .ok (.if_icmp .lt 5, 3) := by decide +kernel
theorem dX11_said_15 : decode cX11_said 15 = .ok (.iconst (-1), 1) := by decide +kernel
theorem dX11_said_16 : decode cX11_said 16 = .ok (.ireturn, 1) := by decide +kernel
theorem dX11_said_17 : decode cX11_said 17 = .ok (.iload_n 2, 1) := by decide +kernel
theorem dX11_said_18 : decode cX11_said 18 = .ok (.tableswitch 63 0 3 #[30, 39, 48, 57], 30) := by decide +kernel
theorem dX11_said_48 : decode cX11_said 48 = .ok (.aload_n 0, 1) := by decide +kernel
theorem dX11_said_49 : decode cX11_said 49 = .ok (.getfield 38, 3) := by decide +kernel
theorem dX11_said_52 : decode cX11_said 52 = .ok (.iload_n 1, 1) := by decide +kernel
theorem dX11_said_53 : decode cX11_said 53 = .ok (.invokevirtual 164, 3) := by decide +kernel
theorem dX11_said_56 : decode cX11_said 56 = .ok (.ireturn, 1) := by decide +kernel
theorem dX11_said_57 : decode cX11_said 57 = .ok (.aload_n 0, 1) := by decide +kernel
theorem dX11_said_58 : decode cX11_said 58 = .ok (.getfield 38, 3) := by decide +kernel
theorem dX11_said_61 : decode cX11_said 61 = .ok (.iload_n 1, 1) := by decide +kernel
theorem dX11_said_62 : decode cX11_said 62 = .ok (.invokevirtual 167, 3) := by decide +kernel
theorem dX11_said_65 : decode cX11_said 65 = .ok (.ireturn, 1) := by decide +kernel
theorem dX11_said_66 : decode cX11_said 66 = .ok (.aload_n 0, 1) := by decide +kernel
theorem dX11_said_67 : decode cX11_said 67 = .ok (.getfield 38, 3) := by decide +kernel
theorem dX11_said_70 : decode cX11_said 70 = .ok (.iload_n 1, 1) := by decide +kernel
theorem dX11_said_71 : decode cX11_said 71 = .ok (.invokevirtual 170, 3) := by decide +kernel
theorem dX11_said_74 : decode cX11_said 74 = .ok (.ireturn, 1) := by decide +kernel
theorem dX11_said_75 : decode cX11_said 75 = .ok (.aload_n 0, 1) := by decide +kernel
theorem dX11_said_76 : decode cX11_said 76 = .ok (.iload_n 1, 1) := by decide +kernel
theorem dX11_said_77 : decode cX11_said 77 = .ok (.invokevirtual 173, 3) := by decide +kernel
theorem dX11_said_80 : decode cX11_said 80 = .ok (.ireturn, 1) := by decide +kernel
theorem dX11_said_81 : decode cX11_said 81 = .ok (.iconst (-1), 1) := by decide +kernel
theorem dX11_said_82 : decode cX11_said 82 = .ok (.ireturn, 1) := by decide +kernel
theorem dX11_paid_0 : decode cX11_paid 0 = .ok (.iload_n 1, 1) := by decide +kernel
theorem dX11_paid_1 : decode cX11_paid 1 = .ok (.invokestatic 126, 3) := by decide +kernel
theorem dX11_paid_4 : decode cX11_paid 4 = .ok (.ifCond .ne 5, 3) := by decide +kernel
theorem dX11_paid_7 : decode cX11_paid 7 = .ok (.iconst (-1), 1) := by decide +kernel
theorem dX11_paid_8 : decode cX11_paid 8 = .ok (.ireturn, 1) := by decide +kernel
theorem dX11_paid_9 : decode cX11_paid 9 = .ok (.iconst 0, 1) := by decide +kernel
theorem dX11_paid_10 : decode cX11_paid 10 = .ok (.istore_n 2, 1) := by decide +kernel
theorem dX11_paid_11 : decode cX11_paid 11 = .ok (.iconst 0, 1) := by decide +kernel
theorem dX11_paid_12 : decode cX11_paid 12 = .ok (.istore_n 3, 1) := by decide +kernel
theorem dX11_paid_13 : decode cX11_paid 13 = .ok (.iload_n 3, 1) := by decide +kernel
theorem dX11_paid_14 : decode cX11_paid 14 = .ok (.aload_n 0, 1) := by decide +kernel
theorem dX11_paid_15 : decode cX11_paid 15 = .ok (.getfield 38, 3) := by decide +kernel
theorem dX11_paid_18 : decode cX11_paid 18 = .ok (.getfield 157, 3) := by decide +kernel
theorem dX11_paid_21 : decode cX11_paid 21 = .ok (.if_icmp .ge 29, 3) := by decide +kernel
theorem dX11_paid_24 : decode cX11_paid 24 = .ok (.aload_n 0, 1) := by decide +kernel
theorem dX11_paid_25 : decode cX11_paid 25 = .ok (.getfield 38, 3) := by decide +kernel
theorem dX11_paid_28 : decode cX11_paid 28 = .ok (.iload_n 3, 1) := by decide +kernel
theorem dX11_paid_29 : decode cX11_paid 29 = .ok (.invokevirtual 164, 3) := by decide +kernel
theorem dX11_paid_32 : decode cX11_paid 32 = .ok (.iload_n 1, 1) := by decide +kernel
theorem dX11_paid_33 : decode cX11_paid 33 = .ok (.if_icmp .ne 11, 3) := by decide +kernel
theorem dX11_paid_36 : decode cX11_paid 36 = .ok (.iload_n 2, 1) := by decide +kernel
theorem dX11_paid_37 : decode cX11_paid 37 = .ok (.aload_n 0, 1) := by decide +kernel
theorem dX11_paid_38 : decode cX11_paid 38 = .ok (.iload_n 3, 1) := by decide +kernel
theorem dX11_paid_39 : decode cX11_paid 39 = .ok (.invokevirtual 173, 3) := by decide +kernel
theorem dX11_paid_42 : decode cX11_paid 42 = .ok (.iadd, 1) := by decide +kernel
theorem dX11_paid_43 : decode cX11_paid 43 = .ok (.istore_n 2, 1) := by decide +kernel
theorem dX11_paid_44 : decode cX11_paid 44 = .ok (.iinc 3 1, 3) := by decide +kernel
theorem dX11_paid_47 : decode cX11_paid 47 = .ok (.goto (-34), 3) := by decide +kernel
theorem dX11_paid_50 : decode cX11_paid 50 = .ok (.iload_n 2, 1) := by decide +kernel
theorem dX11_paid_51 : decode cX11_paid 51 = .ok (.ireturn, 1) := by decide +kernel
theorem dX11_judged_0 : decode cX11_judged 0 = .ok (.iload_n 1, 1) := by decide +kernel
theorem dX11_judged_1 : decode cX11_judged 1 = .ok (.invokestatic 132, 3) := by decide +kernel
theorem dX11_judged_4 : decode cX11_judged 4 = .ok (.ifCond .eq 14, 3) := by decide +kernel
theorem dX11_judged_7 : decode cX11_judged 7 = .ok (.aload_n 0, 1) := by decide +kernel
theorem dX11_judged_8 : decode cX11_judged 8 = .ok (.iload_n 2, 1) := by decide +kernel
theorem dX11_judged_9 : decode cX11_judged 9 = .ok (.bipush 60, 2) := by decide +kernel
theorem dX11_judged_11 : decode cX11_judged 11 = .ok (.iconst 3, 1) := by decide +kernel
theorem dX11_judged_12 : decode cX11_judged 12 = .ok (.invokevirtual 103, 3) := by decide +kernel
theorem dX11_judged_15 : decode cX11_judged 15 = .ok (.ifCond .ne 5, 3) := by decide +kernel
theorem dX11_judged_18 : decode cX11_judged 18 = .ok (.iconst (-1), 1) := by decide +kernel
theorem dX11_judged_19 : decode cX11_judged 19 = .ok (.ireturn, 1) := by decide +kernel
theorem dX11_judged_20 : decode cX11_judged 20 = .ok (.aload_n 0, 1) := by decide +kernel
theorem dX11_judged_21 : decode cX11_judged 21 = .ok (.iload_n 2, 1) := by decide +kernel
theorem dX11_judged_22 : decode cX11_judged 22 = .ok (.iconst 3, 1) := by decide +kernel
theorem dX11_judged_23 : decode cX11_judged 23 = .ok (.invokevirtual 176, 3) := by decide +kernel
theorem dX11_judged_26 : decode cX11_judged 26 = .ok (.ifCond .eq 12, 3) := by decide +kernel
theorem dX11_judged_29 : decode cX11_judged 29 = .ok (.aload_n 0, 1) := by decide +kernel
theorem dX11_judged_30 : decode cX11_judged 30 = .ok (.iload_n 1, 1) := by decide +kernel
theorem dX11_judged_31 : decode cX11_judged 31 = .ok (.iload_n 2, 1) := by decide +kernel
theorem dX11_judged_32 : decode cX11_judged 32 = .ok (.invokevirtual 180, 3) := by decide +kernel
theorem dX11_judged_35 : decode cX11_judged 35 = .ok (.goto 5, 3) := by decide +kernel
theorem dX11_judged_38 : decode cX11_judged 38 = .ok (.bipush (-2), 2) := by decide +kernel
theorem dX11_judged_40 : decode cX11_judged 40 = .ok (.istore_n 3, 1) := by decide +kernel
theorem dX11_judged_41 : decode cX11_judged 41 = .ok (.aload_n 0, 1) := by decide +kernel
theorem dX11_judged_42 : decode cX11_judged 42 = .ok (.getfield 18, 3) := by decide +kernel
theorem dX11_judged_45 : decode cX11_judged 45 = .ok (.invokevirtual 111, 3) := by decide +kernel
theorem dX11_judged_48 : decode cX11_judged 48 = .ok (.iload_n 3, 1) := by decide +kernel
theorem dX11_judged_49 : decode cX11_judged 49 = .ok (.ireturn, 1) := by decide +kernel
theorem dX11_held_0 : decode cX11_held 0 = .ok (.iload_n 1, 1) := by decide +kernel
theorem dX11_held_1 : decode cX11_held 1 = .ok (.iconst 1, 1) := by decide +kernel
theorem dX11_held_2 : decode cX11_held 2 = .ok (.if_icmp .lt 27, 3) := by decide +kernel
theorem dX11_held_5 : decode cX11_held 5 = .ok (.iload_n 1, 1) := by decide +kernel
theorem dX11_held_6 : decode cX11_held 6 = .ok (.iconst 3, 1) := by decide +kernel
theorem dX11_held_7 : decode cX11_held 7 = .ok (.if_icmp .gt 22, 3) := by decide +kernel
theorem dX11_held_10 : decode cX11_held 10 = .ok (.aload_n 0, 1) := by decide +kernel
theorem dX11_held_11 : decode cX11_held 11 = .ok (.iload_n 2, 1) := by decide +kernel
theorem dX11_held_12 : decode cX11_held 12 = .ok (.bipush 12, 2) := by decide +kernel
theorem dX11_held_14 : decode cX11_held 14 = .ok (.iconst 2, 1) := by decide +kernel
theorem dX11_held_15 : decode cX11_held 15 = .ok (.invokevirtual 103, 3) := by decide +kernel
theorem dX11_held_18 : decode cX11_held 18 = .ok (.ifCond .eq 11, 3) := by decide +kernel
theorem dX11_held_21 : decode cX11_held 21 = .ok (.iload_n 2, 1) := by decide +kernel
theorem dX11_held_22 : decode cX11_held 22 = .ok (.iload_n 3, 1) := by decide +kernel
theorem dX11_held_23 : decode cX11_held 23 = .ok (.invokestatic 183, 3) := by decide +kernel
theorem dX11_held_26 : decode cX11_held 26 = .ok (.ifCond .ne 5, 3) := by decide +kernel
theorem dX11_held_29 : decode cX11_held 29 = .ok (.iconst (-1), 1) := by decide +kernel
theorem dX11_held_30 : decode cX11_held 30 = .ok (.ireturn, 1) := by decide +kernel
theorem dX11_held_31 : decode cX11_held 31 = .ok (.bipush (-3), 2) := by decide +kernel
theorem dX11_held_33 : decode cX11_held 33 = .ok (.istore 4, 2) := by decide +kernel
theorem dX11_held_35 : decode cX11_held 35 = .ok (.aload_n 0, 1) := by decide +kernel
theorem dX11_held_36 : decode cX11_held 36 = .ok (.iload_n 2, 1) := by decide +kernel
theorem dX11_held_37 : decode cX11_held 37 = .ok (.iconst 2, 1) := by decide +kernel
theorem dX11_held_38 : decode cX11_held 38 = .ok (.invokevirtual 176, 3) := by decide +kernel
theorem dX11_held_41 : decode cX11_held 41 = .ok (.ifCond .eq 76, 3) := by decide +kernel
theorem dX11_held_44 : decode cX11_held 44 = .ok (.aload_n 0, 1) := by decide +kernel
theorem dX11_held_45 : decode cX11_held 45 = .ok (.getfield 54, 3) := by decide +kernel
theorem dX11_held_48 : decode cX11_held 48 = .ok (.iload_n 1, 1) := by decide +kernel
theorem dX11_held_49 : decode cX11_held 49 = .ok (.iconst 1, 1) := by decide +kernel
theorem dX11_held_50 : decode cX11_held 50 = .ok (.iload_n 2, 1) := by decide +kernel
theorem dX11_held_51 : decode cX11_held 51 = .ok (.invokevirtual 186, 3) := by decide +kernel
theorem dX11_held_54 : decode cX11_held 54 = .ok (.iconst 0, 1) := by decide +kernel
theorem dX11_held_55 : decode cX11_held 55 = .ok (.istore 5, 2) := by decide +kernel
theorem dX11_held_57 : decode cX11_held 57 = .ok (.iload 5, 2) := by decide +kernel
theorem dX11_held_59 : decode cX11_held 59 = .ok (.iload_n 2, 1) := by decide +kernel
theorem dX11_held_60 : decode cX11_held 60 = .ok (.if_icmp .ge 43, 3) := by decide +kernel
theorem dX11_held_63 : decode cX11_held 63 = .ok (.aload_n 0, 1) := by decide +kernel
theorem dX11_held_64 : decode cX11_held 64 = .ok (.getfield 54, 3) := by decide +kernel
theorem dX11_held_67 : decode cX11_held 67 = .ok (.iload 5, 2) := by decide +kernel
theorem dX11_held_69 : decode cX11_held 69 = .ok (.aload_n 0, 1) := by decide +kernel
theorem dX11_held_70 : decode cX11_held 70 = .ok (.getfield 18, 3) := by decide +kernel
theorem dX11_held_73 : decode cX11_held 73 = .ok (.iconst 2, 1) := by decide +kernel
theorem dX11_held_74 : decode cX11_held 74 = .ok (.iload 5, 2) := by decide +kernel
theorem dX11_held_76 : decode cX11_held 76 = .ok (.imul, 1) := by decide +kernel
theorem dX11_held_77 : decode cX11_held 77 = .ok (.invokevirtual 189, 3) := by decide +kernel
theorem dX11_held_80 : decode cX11_held 80 = .ok (.aload_n 0, 1) := by decide +kernel
theorem dX11_held_81 : decode cX11_held 81 = .ok (.getfield 18, 3) := by decide +kernel
theorem dX11_held_84 : decode cX11_held 84 = .ok (.iconst 2, 1) := by decide +kernel
theorem dX11_held_85 : decode cX11_held 85 = .ok (.iload 5, 2) := by decide +kernel
theorem dX11_held_87 : decode cX11_held 87 = .ok (.imul, 1) := by decide +kernel
theorem dX11_held_88 : decode cX11_held 88 = .ok (.iconst 1, 1) := by decide +kernel
theorem dX11_held_89 : decode cX11_held 89 = .ok (.iadd, 1) := by decide +kernel
theorem dX11_held_90 : decode cX11_held 90 = .ok (.invokevirtual 189, 3) := by decide +kernel
theorem dX11_held_93 : decode cX11_held 93 = .ok (.iconst 0, 1) := by decide +kernel
theorem dX11_held_94 : decode cX11_held 94 = .ok (.invokevirtual 192, 3) := by decide +kernel
theorem dX11_held_97 : decode cX11_held 97 = .ok (.iinc 5 1, 3) := by decide +kernel
theorem dX11_held_100 : decode cX11_held 100 = .ok (.goto (-43), 3) := by decide +kernel
theorem dX11_held_103 : decode cX11_held 103 = .ok (.aload_n 0, 1) := by decide +kernel
theorem dX11_held_104 : decode cX11_held 104 = .ok (.getfield 54, 3) := by decide +kernel
theorem dX11_held_107 : decode cX11_held 107 = .ok (.aload_n 0, 1) := by decide +kernel
theorem dX11_held_108 : decode cX11_held 108 = .ok (.getfield 38, 3) := by decide +kernel
theorem dX11_held_111 : decode cX11_held 111 = .ok (.iload_n 3, 1) := by decide +kernel
theorem dX11_held_112 : decode cX11_held 112 = .ok (.invokevirtual 196, 3) := by decide +kernel
theorem dX11_held_115 : decode cX11_held 115 = .ok (.istore 4, 2) := by decide +kernel
theorem dX11_held_117 : decode cX11_held 117 = .ok (.aload_n 0, 1) := by decide +kernel
theorem dX11_held_118 : decode cX11_held 118 = .ok (.getfield 18, 3) := by decide +kernel
theorem dX11_held_121 : decode cX11_held 121 = .ok (.invokevirtual 111, 3) := by decide +kernel
theorem dX11_held_124 : decode cX11_held 124 = .ok (.iload 4, 2) := by decide +kernel
theorem dX11_held_126 : decode cX11_held 126 = .ok (.ireturn, 1) := by decide +kernel
theorem dX11_coded_0 : decode cX11_coded 0 = .ok (.iload_n 1, 1) := by decide +kernel
theorem dX11_coded_1 : decode cX11_coded 1 = .ok (.iconst 2, 1) := by decide +kernel
theorem dX11_coded_2 : decode cX11_coded 2 = .ok (.if_icmp .lt 27, 3) := by decide +kernel
theorem dX11_coded_5 : decode cX11_coded 5 = .ok (.iload_n 1, 1) := by decide +kernel
theorem dX11_coded_6 : decode cX11_coded 6 = .ok (.iconst 5, 1) := by decide +kernel
theorem dX11_coded_7 : decode cX11_coded 7 = .ok (.if_icmp .gt 22, 3) := by decide +kernel
theorem dX11_coded_10 : decode cX11_coded 10 = .ok (.aload_n 0, 1) := by decide +kernel
theorem dX11_coded_11 : decode cX11_coded 11 = .ok (.iload_n 2, 1) := by decide +kernel
theorem dX11_coded_12 : decode cX11_coded 12 = .ok (.bipush 12, 2) := by decide +kernel
theorem dX11_coded_14 : decode cX11_coded 14 = .ok (.iconst 3, 1) := by decide +kernel
theorem dX11_coded_15 : decode cX11_coded 15 = .ok (.invokevirtual 103, 3) := by decide +kernel
theorem dX11_coded_18 : decode cX11_coded 18 = .ok (.ifCond .eq 11, 3) := by decide +kernel
theorem dX11_coded_21 : decode cX11_coded 21 = .ok (.iload_n 2, 1) := by decide +kernel
theorem dX11_coded_22 : decode cX11_coded 22 = .ok (.iload_n 3, 1) := by decide +kernel
theorem dX11_coded_23 : decode cX11_coded 23 = .ok (.invokestatic 183, 3) := by decide +kernel
theorem dX11_coded_26 : decode cX11_coded 26 = .ok (.ifCond .ne 5, 3) := by decide +kernel
theorem dX11_coded_29 : decode cX11_coded 29 = .ok (.iconst (-1), 1) := by decide +kernel
theorem dX11_coded_30 : decode cX11_coded 30 = .ok (.ireturn, 1) := by decide +kernel
theorem dX11_coded_31 : decode cX11_coded 31 = .ok (.bipush (-3), 2) := by decide +kernel
theorem dX11_coded_33 : decode cX11_coded 33 = .ok (.istore 4, 2) := by decide +kernel
theorem dX11_coded_35 : decode cX11_coded 35 = .ok (.aload_n 0, 1) := by decide +kernel
theorem dX11_coded_36 : decode cX11_coded 36 = .ok (.iload_n 2, 1) := by decide +kernel
theorem dX11_coded_37 : decode cX11_coded 37 = .ok (.iconst 3, 1) := by decide +kernel
theorem dX11_coded_38 : decode cX11_coded 38 = .ok (.invokevirtual 176, 3) := by decide +kernel
theorem dX11_coded_41 : decode cX11_coded 41 = .ok (.ifCond .eq 97, 3) := by decide +kernel
theorem dX11_coded_44 : decode cX11_coded 44 = .ok (.aload_n 0, 1) := by decide +kernel
theorem dX11_coded_45 : decode cX11_coded 45 = .ok (.iload_n 1, 1) := by decide +kernel
theorem dX11_coded_46 : decode cX11_coded 46 = .ok (.iload_n 2, 1) := by decide +kernel
theorem dX11_coded_47 : decode cX11_coded 47 = .ok (.invokevirtual 200, 3) := by decide +kernel
theorem dX11_coded_50 : decode cX11_coded 50 = .ok (.ifCond .eq 88, 3) := by decide +kernel
theorem dX11_coded_53 : decode cX11_coded 53 = .ok (.aload_n 0, 1) := by decide +kernel
theorem dX11_coded_54 : decode cX11_coded 54 = .ok (.getfield 54, 3) := by decide +kernel
theorem dX11_coded_57 : decode cX11_coded 57 = .ok (.iconst 1, 1) := by decide +kernel
theorem dX11_coded_58 : decode cX11_coded 58 = .ok (.iload_n 1, 1) := by decide +kernel
theorem dX11_coded_59 : decode cX11_coded 59 = .ok (.iload_n 2, 1) := by decide +kernel
theorem dX11_coded_60 : decode cX11_coded 60 = .ok (.invokevirtual 186, 3) := by decide +kernel
theorem dX11_coded_63 : decode cX11_coded 63 = .ok (.iconst 0, 1) := by decide +kernel
theorem dX11_coded_64 : decode cX11_coded 64 = .ok (.istore 5, 2) := by decide +kernel
theorem dX11_coded_66 : decode cX11_coded 66 = .ok (.iload 5, 2) := by decide +kernel
theorem dX11_coded_68 : decode cX11_coded 68 = .ok (.iload_n 2, 1) := by decide +kernel
theorem dX11_coded_69 : decode cX11_coded 69 = .ok (.if_icmp .ge 55, 3) := by decide +kernel
theorem dX11_coded_72 : decode cX11_coded 72 = .ok (.aload_n 0, 1) := by decide +kernel
theorem dX11_coded_73 : decode cX11_coded 73 = .ok (.getfield 54, 3) := by decide +kernel
theorem dX11_coded_76 : decode cX11_coded 76 = .ok (.iload 5, 2) := by decide +kernel
theorem dX11_coded_78 : decode cX11_coded 78 = .ok (.aload_n 0, 1) := by decide +kernel
theorem dX11_coded_79 : decode cX11_coded 79 = .ok (.getfield 18, 3) := by decide +kernel
theorem dX11_coded_82 : decode cX11_coded 82 = .ok (.iconst 3, 1) := by decide +kernel
theorem dX11_coded_83 : decode cX11_coded 83 = .ok (.iload 5, 2) := by decide +kernel
theorem dX11_coded_85 : decode cX11_coded 85 = .ok (.imul, 1) := by decide +kernel
theorem dX11_coded_86 : decode cX11_coded 86 = .ok (.invokevirtual 189, 3) := by decide +kernel
theorem dX11_coded_89 : decode cX11_coded 89 = .ok (.aload_n 0, 1) := by decide +kernel
theorem dX11_coded_90 : decode cX11_coded 90 = .ok (.getfield 18, 3) := by decide +kernel
theorem dX11_coded_93 : decode cX11_coded 93 = .ok (.iconst 3, 1) := by decide +kernel
theorem dX11_coded_94 : decode cX11_coded 94 = .ok (.iload 5, 2) := by decide +kernel
theorem dX11_coded_96 : decode cX11_coded 96 = .ok (.imul, 1) := by decide +kernel
theorem dX11_coded_97 : decode cX11_coded 97 = .ok (.iconst 1, 1) := by decide +kernel
theorem dX11_coded_98 : decode cX11_coded 98 = .ok (.iadd, 1) := by decide +kernel
theorem dX11_coded_99 : decode cX11_coded 99 = .ok (.invokevirtual 189, 3) := by decide +kernel
theorem dX11_coded_102 : decode cX11_coded 102 = .ok (.aload_n 0, 1) := by decide +kernel
theorem dX11_coded_103 : decode cX11_coded 103 = .ok (.getfield 18, 3) := by decide +kernel
theorem dX11_coded_106 : decode cX11_coded 106 = .ok (.iconst 3, 1) := by decide +kernel
theorem dX11_coded_107 : decode cX11_coded 107 = .ok (.iload 5, 2) := by decide +kernel
theorem dX11_coded_109 : decode cX11_coded 109 = .ok (.imul, 1) := by decide +kernel
theorem dX11_coded_110 : decode cX11_coded 110 = .ok (.iconst 2, 1) := by decide +kernel
theorem dX11_coded_111 : decode cX11_coded 111 = .ok (.iadd, 1) := by decide +kernel
theorem dX11_coded_112 : decode cX11_coded 112 = .ok (.invokevirtual 189, 3) := by decide +kernel
theorem dX11_coded_115 : decode cX11_coded 115 = .ok (.invokevirtual 192, 3) := by decide +kernel
theorem dX11_coded_118 : decode cX11_coded 118 = .ok (.iinc 5 1, 3) := by decide +kernel
theorem dX11_coded_121 : decode cX11_coded 121 = .ok (.goto (-55), 3) := by decide +kernel
theorem dX11_coded_124 : decode cX11_coded 124 = .ok (.aload_n 0, 1) := by decide +kernel
theorem dX11_coded_125 : decode cX11_coded 125 = .ok (.getfield 54, 3) := by decide +kernel
theorem dX11_coded_128 : decode cX11_coded 128 = .ok (.aload_n 0, 1) := by decide +kernel
theorem dX11_coded_129 : decode cX11_coded 129 = .ok (.getfield 38, 3) := by decide +kernel
theorem dX11_coded_132 : decode cX11_coded 132 = .ok (.iload_n 3, 1) := by decide +kernel
theorem dX11_coded_133 : decode cX11_coded 133 = .ok (.invokevirtual 196, 3) := by decide +kernel
theorem dX11_coded_136 : decode cX11_coded 136 = .ok (.istore 4, 2) := by decide +kernel
theorem dX11_coded_138 : decode cX11_coded 138 = .ok (.aload_n 0, 1) := by decide +kernel
theorem dX11_coded_139 : decode cX11_coded 139 = .ok (.getfield 18, 3) := by decide +kernel
theorem dX11_coded_142 : decode cX11_coded 142 = .ok (.invokevirtual 111, 3) := by decide +kernel
theorem dX11_coded_145 : decode cX11_coded 145 = .ok (.iload 4, 2) := by decide +kernel
theorem dX11_coded_147 : decode cX11_coded 147 = .ok (.ireturn, 1) := by decide +kernel
theorem dX11_heard_0 : decode cX11_heard 0 = .ok (.aload_n 0, 1) := by decide +kernel
theorem dX11_heard_1 : decode cX11_heard 1 = .ok (.iload_n 1, 1) := by decide +kernel
theorem dX11_heard_2 : decode cX11_heard 2 = .ok (.bipush 8, 2) := by decide +kernel
theorem dX11_heard_4 : decode cX11_heard 4 = .ok (.iconst 2, 1) := by decide +kernel
theorem dX11_heard_5 : decode cX11_heard 5 = .ok (.invokevirtual 103, 3) := by decide +kernel
theorem dX11_heard_8 : decode cX11_heard 8 = .ok (.ifCond .eq 11, 3) := by decide +kernel
theorem dX11_heard_11 : decode cX11_heard 11 = .ok (.iload_n 1, 1) := by decide +kernel
theorem dX11_heard_12 : decode cX11_heard 12 = .ok (.iload_n 2, 1) := by decide +kernel
theorem dX11_heard_13 : decode cX11_heard 13 = .ok (.invokestatic 203, 3) := by decide +kernel
theorem dX11_heard_16 : decode cX11_heard 16 = .ok (.ifCond .ne 7, 3) := by decide +kernel
theorem dX11_heard_19 : decode cX11_heard 19 = .ok (.ldc2_w 206, 3) := by decide +kernel
theorem dX11_heard_22 : decode cX11_heard 22 = .ok (.lreturn, 1) := by decide +kernel
theorem dX11_heard_23 : decode cX11_heard 23 = .ok (.aload_n 0, 1) := by decide +kernel
theorem dX11_heard_24 : decode cX11_heard 24 = .ok (.iload_n 1, 1) := by decide +kernel
theorem dX11_heard_25 : decode cX11_heard 25 = .ok (.invokevirtual 208, 3) := by decide +kernel
theorem dX11_heard_28 : decode cX11_heard 28 = .ok (.ifCond .eq 12, 3) := by decide +kernel
theorem dX11_heard_31 : decode cX11_heard 31 = .ok (.aload_n 0, 1) := by decide +kernel
theorem dX11_heard_32 : decode cX11_heard 32 = .ok (.iload_n 1, 1) := by decide +kernel
theorem dX11_heard_33 : decode cX11_heard 33 = .ok (.iload_n 2, 1) := by decide +kernel
theorem dX11_heard_34 : decode cX11_heard 34 = .ok (.invokevirtual 211, 3) := by decide +kernel
theorem dX11_heard_37 : decode cX11_heard 37 = .ok (.goto 6, 3) := by decide +kernel
theorem dX11_heard_40 : decode cX11_heard 40 = .ok (.ldc2_w 215, 3) := by decide +kernel
theorem dX11_heard_43 : decode cX11_heard 43 = .ok (.lstore_n 3, 1) := by decide +kernel
theorem dX11_heard_44 : decode cX11_heard 44 = .ok (.aload_n 0, 1) := by decide +kernel
theorem dX11_heard_45 : decode cX11_heard 45 = .ok (.getfield 18, 3) := by decide +kernel
theorem dX11_heard_48 : decode cX11_heard 48 = .ok (.invokevirtual 111, 3) := by decide +kernel
theorem dX11_heard_51 : decode cX11_heard 51 = .ok (.lload_n 3, 1) := by decide +kernel
theorem dX11_heard_52 : decode cX11_heard 52 = .ok (.lreturn, 1) := by decide +kernel
theorem dX11_anyTalk_0 : decode cX11_anyTalk 0 = .ok (.iload_n 1, 1) := by decide +kernel
theorem dX11_anyTalk_1 : decode cX11_anyTalk 1 = .ok (.invokestatic 118, 3) := by decide +kernel
theorem dX11_anyTalk_4 : decode cX11_anyTalk 4 = .ok (.istore 4, 2) := by decide +kernel
theorem dX11_anyTalk_6 : decode cX11_anyTalk 6 = .ok (.iload_n 1, 1) := by decide +kernel
theorem dX11_anyTalk_7 : decode cX11_anyTalk 7 = .ok (.sipush (-4096), 3) := by decide +kernel
theorem dX11_anyTalk_10 : decode cX11_anyTalk 10 = .ok (.iand, 1) := by decide +kernel
theorem dX11_anyTalk_11 : decode cX11_anyTalk 11 = .ok (.ifCond .ne 19, 3) := by decide +kernel
theorem dX11_anyTalk_14 : decode cX11_anyTalk 14 = .ok (.iload 4, 2) := by decide +kernel
theorem dX11_anyTalk_16 : decode cX11_anyTalk 16 = .ok (.iconst 1, 1) := by decide +kernel
theorem dX11_anyTalk_17 : decode cX11_anyTalk 17 = .ok (.if_icmp .lt 13, 3) := by decide +kernel
theorem dX11_anyTalk_20 : decode cX11_anyTalk 20 = .ok (.iload 4, 2) := by decide +kernel
theorem dX11_anyTalk_22 : decode cX11_anyTalk 22 = .ok (.iconst 4, 1) := by decide +kernel
theorem dX11_anyTalk_23 : decode cX11_anyTalk 23 = .ok (.if_icmp .gt 7, 3) := by decide +kernel
theorem dX11_anyTalk_26 : decode cX11_anyTalk 26 = .ok (.iconst 1, 1) := by decide +kernel
theorem dX11_anyTalk_27 : decode cX11_anyTalk 27 = .ok (.goto 4, 3) := by decide +kernel
theorem dX11_anyTalk_30 : decode cX11_anyTalk 30 = .ok (.iconst 0, 1) := by decide +kernel
theorem dX11_anyTalk_31 : decode cX11_anyTalk 31 = .ok (.istore 5, 2) := by decide +kernel
theorem dX11_anyTalk_33 : decode cX11_anyTalk 33 = .ok (.iload 5, 2) := by decide +kernel
theorem dX11_anyTalk_35 : decode cX11_anyTalk 35 = .ok (.ifCond .eq 23, 3) := by decide +kernel
theorem dX11_anyTalk_38 : decode cX11_anyTalk 38 = .ok (.iload_n 2, 1) := by decide +kernel
theorem dX11_anyTalk_39 : decode cX11_anyTalk 39 = .ok (.iconst 1, 1) := by decide +kernel
theorem dX11_anyTalk_40 : decode cX11_anyTalk 40 = .ok (.if_icmp .lt 18, 3) := by decide +kernel
theorem dX11_anyTalk_43 : decode cX11_anyTalk 43 = .ok (.iload_n 2, 1) := by decide +kernel
theorem dX11_anyTalk_44 : decode cX11_anyTalk 44 = .ok (.iconst 5, 1) := by decide +kernel
theorem dX11_anyTalk_45 : decode cX11_anyTalk 45 = .ok (.if_icmp .gt 13, 3) := by decide +kernel
theorem dX11_anyTalk_48 : decode cX11_anyTalk 48 = .ok (.iload_n 3, 1) := by decide +kernel
theorem dX11_anyTalk_49 : decode cX11_anyTalk 49 = .ok (.iconst (-1), 1) := by decide +kernel
theorem dX11_anyTalk_50 : decode cX11_anyTalk 50 = .ok (.if_icmp .lt 8, 3) := by decide +kernel
theorem dX11_anyTalk_53 : decode cX11_anyTalk 53 = .ok (.iload_n 3, 1) := by decide +kernel
theorem dX11_anyTalk_54 : decode cX11_anyTalk 54 = .ok (.iload_n 2, 1) := by decide +kernel
theorem dX11_anyTalk_55 : decode cX11_anyTalk 55 = .ok (.if_icmp .lt 6, 3) := by decide +kernel
theorem dX11_anyTalk_58 : decode cX11_anyTalk 58 = .ok (.bipush (-3), 2) := by decide +kernel
theorem dX11_anyTalk_60 : decode cX11_anyTalk 60 = .ok (.ireturn, 1) := by decide +kernel
theorem dX11_anyTalk_61 : decode cX11_anyTalk 61 = .ok (.aload_n 0, 1) := by decide +kernel
theorem dX11_anyTalk_62 : decode cX11_anyTalk 62 = .ok (.getfield 61, 3) := by decide +kernel
theorem dX11_anyTalk_65 : decode cX11_anyTalk 65 = .ok (.aload_n 0, 1) := by decide +kernel
theorem dX11_anyTalk_66 : decode cX11_anyTalk 66 = .ok (.getfield 38, 3) := by decide +kernel
theorem dX11_anyTalk_69 : decode cX11_anyTalk 69 = .ok (.iload_n 1, 1) := by decide +kernel
theorem dX11_anyTalk_70 : decode cX11_anyTalk 70 = .ok (.iload_n 2, 1) := by decide +kernel
theorem dX11_anyTalk_71 : decode cX11_anyTalk 71 = .ok (.iload_n 3, 1) := by decide +kernel
theorem dX11_anyTalk_72 : decode cX11_anyTalk 72 = .ok (.invokevirtual 217, 3) := by decide +kernel
theorem dX11_anyTalk_75 : decode cX11_anyTalk 75 = .ok (.ireturn, 1) := by decide +kernel
theorem dX11_silenced_0 : decode cX11_silenced 0 = .ok (.iload_n 1, 1) := by decide +kernel
theorem dX11_silenced_1 : decode cX11_silenced 1 = .ok (.invokestatic 126, 3) := by decide +kernel
theorem dX11_silenced_4 : decode cX11_silenced 4 = .ok (.ifCond .eq 19, 3) := by decide +kernel
theorem dX11_silenced_7 : decode cX11_silenced 7 = .ok (.iload_n 3, 1) := by decide +kernel
theorem dX11_silenced_8 : decode cX11_silenced 8 = .ok (.invokestatic 126, 3) := by decide +kernel
theorem dX11_silenced_11 : decode cX11_silenced 11 = .ok (.ifCond .eq 12, 3) := by decide +kernel
theorem dX11_silenced_14 : decode cX11_silenced 14 = .ok (.iload_n 1, 1) := by decide +kernel
theorem dX11_silenced_15 : decode cX11_silenced 15 = .ok (.iload_n 3, 1) := by decide +kernel
theorem dX11_silenced_16 : decode cX11_silenced 16 = .ok (.if_icmp .eq 7, 3) := by decide +kernel
theorem dX11_silenced_19 : decode cX11_silenced 19 = .ok (.iconst 1, 1) := by decide +kernel
theorem dX11_silenced_20 : decode cX11_silenced 20 = .ok (.goto 4, 3) := by decide +kernel
theorem dX11_silenced_23 : decode cX11_silenced 23 = .ok (.iconst 0, 1) := by decide +kernel
theorem dX11_silenced_24 : decode cX11_silenced 24 = .ok (.istore 7, 2) := by decide +kernel
theorem dX11_silenced_26 : decode cX11_silenced 26 = .ok (.iload_n 2, 1) := by decide +kernel
theorem dX11_silenced_27 : decode cX11_silenced 27 = .ok (.sipush (-4096), 3) := by decide +kernel
theorem dX11_silenced_30 : decode cX11_silenced 30 = .ok (.iand, 1) := by decide +kernel
theorem dX11_silenced_31 : decode cX11_silenced 31 = .ok (.ifCond .ne 16, 3) := by decide +kernel
theorem dX11_silenced_34 : decode cX11_silenced 34 = .ok (.iload 4, 2) := by decide +kernel
theorem dX11_silenced_36 : decode cX11_silenced 36 = .ok (.sipush (-4096), 3) := by decide +kernel
theorem dX11_silenced_39 : decode cX11_silenced 39 = .ok (.iand, 1) := by decide +kernel
theorem dX11_silenced_40 : decode cX11_silenced 40 = .ok (.ifCond .ne 7, 3) := by decide +kernel
theorem dX11_silenced_43 : decode cX11_silenced 43 = .ok (.iconst 1, 1) := by decide +kernel
theorem dX11_silenced_44 : decode cX11_silenced 44 = .ok (.goto 4, 3) := by decide +kernel
theorem dX11_silenced_47 : decode cX11_silenced 47 = .ok (.iconst 0, 1) := by decide +kernel
theorem dX11_silenced_48 : decode cX11_silenced 48 = .ok (.istore 8, 2) := by decide +kernel
theorem dX11_silenced_50 : decode cX11_silenced 50 = .ok (.iload 7, 2) := by decide +kernel
theorem dX11_silenced_52 : decode cX11_silenced 52 = .ok (.ifCond .eq 32, 3) := by decide +kernel
theorem dX11_silenced_55 : decode cX11_silenced 55 = .ok (.iload 8, 2) := by decide +kernel
theorem dX11_silenced_57 : decode cX11_silenced 57 = .ok (.ifCond .eq 27, 3) := by decide +kernel
theorem dX11_silenced_60 : decode cX11_silenced 60 = .ok (.iload 5, 2) := by decide +kernel
theorem dX11_silenced_62 : decode cX11_silenced 62 = .ok (.iconst 1, 1) := by decide +kernel
theorem dX11_silenced_63 : decode cX11_silenced 63 = .ok (.if_icmp .lt 21, 3) := by decide +kernel
theorem dX11_silenced_66 : decode cX11_silenced 66 = .ok (.iload 5, 2) := by decide +kernel
theorem dX11_silenced_68 : decode cX11_silenced 68 = .ok (.bipush 6, 2) := by decide +kernel
theorem dX11_silenced_70 : decode cX11_silenced 70 = .ok (.if_icmp .gt 14, 3) := by decide +kernel
theorem dX11_silenced_73 : decode cX11_silenced 73 = .ok (.iload 6, 2) := by decide +kernel
theorem dX11_silenced_75 : decode cX11_silenced 75 = .ok (.ifCond .lt 9, 3) := by decide +kernel
theorem dX11_silenced_78 : decode cX11_silenced 78 = .ok (.iload 6, 2) := by decide +kernel
theorem dX11_silenced_80 : decode cX11_silenced 80 = .ok (.iconst 2, 1) := by decide +kernel
theorem dX11_silenced_81 : decode cX11_silenced 81 = .ok (.if_icmp .le 6, 3) := by decide +kernel
theorem dX11_silenced_84 : decode cX11_silenced 84 = .ok (.bipush (-3), 2) := by decide +kernel
theorem dX11_silenced_86 : decode cX11_silenced 86 = .ok (.ireturn, 1) := by decide +kernel
theorem dX11_silenced_87 : decode cX11_silenced 87 = .ok (.aload_n 0, 1) := by decide +kernel
theorem dX11_silenced_88 : decode cX11_silenced 88 = .ok (.getfield 68, 3) := by decide +kernel
theorem dX11_silenced_91 : decode cX11_silenced 91 = .ok (.aload_n 0, 1) := by decide +kernel
theorem dX11_silenced_92 : decode cX11_silenced 92 = .ok (.getfield 38, 3) := by decide +kernel
theorem dX11_silenced_95 : decode cX11_silenced 95 = .ok (.iload 5, 2) := by decide +kernel
theorem dX11_silenced_97 : decode cX11_silenced 97 = .ok (.invokevirtual 220, 3) := by decide +kernel
theorem dX11_silenced_100 : decode cX11_silenced 100 = .ok (.aload_n 0, 1) := by decide +kernel
theorem dX11_silenced_101 : decode cX11_silenced 101 = .ok (.getfield 68, 3) := by decide +kernel
theorem dX11_silenced_104 : decode cX11_silenced 104 = .ok (.iload_n 1, 1) := by decide +kernel
theorem dX11_silenced_105 : decode cX11_silenced 105 = .ok (.iload_n 2, 1) := by decide +kernel
theorem dX11_silenced_106 : decode cX11_silenced 106 = .ok (.iload_n 3, 1) := by decide +kernel
theorem dX11_silenced_107 : decode cX11_silenced 107 = .ok (.iload 4, 2) := by decide +kernel
theorem dX11_silenced_109 : decode cX11_silenced 109 = .ok (.invokevirtual 223, 3) := by decide +kernel
theorem dX11_silenced_112 : decode cX11_silenced 112 = .ok (.aload_n 0, 1) := by decide +kernel
theorem dX11_silenced_113 : decode cX11_silenced 113 = .ok (.getfield 68, 3) := by decide +kernel
theorem dX11_silenced_116 : decode cX11_silenced 116 = .ok (.iload 6, 2) := by decide +kernel
theorem dX11_silenced_118 : decode cX11_silenced 118 = .ok (.invokevirtual 224, 3) := by decide +kernel
theorem dX11_silenced_121 : decode cX11_silenced 121 = .ok (.ireturn, 1) := by decide +kernel
theorem dX11_waited_0 : decode cX11_waited 0 = .ok (.iload_n 1, 1) := by decide +kernel
theorem dX11_waited_1 : decode cX11_waited 1 = .ok (.iconst 1, 1) := by decide +kernel
theorem dX11_waited_2 : decode cX11_waited 2 = .ok (.if_icmp .lt 20, 3) := by decide +kernel
theorem dX11_waited_5 : decode cX11_waited 5 = .ok (.iload_n 1, 1) := by decide +kernel
theorem dX11_waited_6 : decode cX11_waited 6 = .ok (.bipush 63, 2) := by decide +kernel
theorem dX11_waited_8 : decode cX11_waited 8 = .ok (.if_icmp .gt 14, 3) := by decide +kernel
theorem dX11_waited_11 : decode cX11_waited 11 = .ok (.iload_n 2, 1) := by decide +kernel
theorem dX11_waited_12 : decode cX11_waited 12 = .ok (.iconst 1, 1) := by decide +kernel
theorem dX11_waited_13 : decode cX11_waited 13 = .ok (.if_icmp .lt 9, 3) := by decide +kernel
theorem dX11_waited_16 : decode cX11_waited 16 = .ok (.iload_n 2, 1) := by decide +kernel
theorem dX11_waited_17 : decode cX11_waited 17 = .ok (.bipush 24, 2) := by decide +kernel
theorem dX11_waited_19 : decode cX11_waited 19 = .ok (.if_icmp .le 5, 3) := by decide +kernel
theorem dX11_waited_22 : decode cX11_waited 22 = .ok (.iconst (-1), 1) := by decide +kernel
theorem dX11_waited_23 : decode cX11_waited 23 = .ok (.ireturn, 1) := by decide +kernel
theorem dX11_waited_24 : decode cX11_waited 24 = .ok (.aload_n 0, 1) := by decide +kernel
theorem dX11_waited_25 : decode cX11_waited 25 = .ok (.getfield 77, 3) := by decide +kernel
theorem dX11_waited_28 : decode cX11_waited 28 = .ok (.aload_n 0, 1) := by decide +kernel
theorem dX11_waited_29 : decode cX11_waited 29 = .ok (.getfield 38, 3) := by decide +kernel
theorem dX11_waited_32 : decode cX11_waited 32 = .ok (.iload_n 1, 1) := by decide +kernel
theorem dX11_waited_33 : decode cX11_waited 33 = .ok (.iload_n 2, 1) := by decide +kernel
theorem dX11_waited_34 : decode cX11_waited 34 = .ok (.invokevirtual 226, 3) := by decide +kernel
theorem dX11_waited_37 : decode cX11_waited 37 = .ok (.ireturn, 1) := by decide +kernel
theorem dX11_round_0 : decode cX11_round 0 = .ok (.iload_n 1, 1) := by decide +kernel
theorem dX11_round_1 : decode cX11_round 1 = .ok (.invokestatic 99, 3) := by decide +kernel
theorem dX11_round_4 : decode cX11_round 4 = .ok (.ifCond .eq 14, 3) := by decide +kernel
theorem dX11_round_7 : decode cX11_round 7 = .ok (.iload_n 2, 1) := by decide +kernel
theorem dX11_round_8 : decode cX11_round 8 = .ok (.iconst (-1), 1) := by decide +kernel
theorem dX11_round_9 : decode cX11_round 9 = .ok (.if_icmp .lt 9, 3) := by decide +kernel
theorem dX11_round_12 : decode cX11_round 12 = .ok (.iload_n 2, 1) := by decide +kernel
theorem dX11_round_13 : decode cX11_round 13 = .ok (.bipush 6, 2) := by decide +kernel
theorem dX11_round_15 : decode cX11_round 15 = .ok (.if_icmp .lt 6, 3) := by decide +kernel
theorem dX11_round_18 : decode cX11_round 18 = .ok (.bipush (-3), 2) := by decide +kernel
theorem dX11_round_20 : decode cX11_round 20 = .ok (.ireturn, 1) := by decide +kernel
theorem dX11_round_21 : decode cX11_round 21 = .ok (.aload_n 0, 1) := by decide +kernel
theorem dX11_round_22 : decode cX11_round 22 = .ok (.getfield 84, 3) := by decide +kernel
theorem dX11_round_25 : decode cX11_round 25 = .ok (.iload_n 1, 1) := by decide +kernel
theorem dX11_round_26 : decode cX11_round 26 = .ok (.aload_n 0, 1) := by decide +kernel
theorem dX11_round_27 : decode cX11_round 27 = .ok (.getfield 38, 3) := by decide +kernel
theorem dX11_round_30 : decode cX11_round 30 = .ok (.getfield 157, 3) := by decide +kernel
theorem dX11_round_33 : decode cX11_round 33 = .ok (.iload_n 2, 1) := by decide +kernel
theorem dX11_round_34 : decode cX11_round 34 = .ok (.invokevirtual 229, 3) := by decide +kernel
theorem dX11_round_37 : decode cX11_round 37 = .ok (.ireturn, 1) := by decide +kernel
theorem dX11_seed_0 : decode cX11_seed 0 = .ok (.iload_n 1, 1) := by decide +kernel
theorem dX11_seed_1 : decode cX11_seed 1 = .ok (.ifCond .lt 9, 3) := by decide +kernel
theorem dX11_seed_4 : decode cX11_seed 4 = .ok (.iload_n 1, 1) := by decide +kernel
theorem dX11_seed_5 : decode cX11_seed 5 = .ok (.ldc 232, 2) := by decide +kernel
theorem dX11_seed_7 : decode cX11_seed 7 = .ok (.if_icmp .lt 5, 3) := by decide +kernel
theorem dX11_seed_10 : decode cX11_seed 10 = .ok (.iconst 0, 1) := by decide +kernel
theorem dX11_seed_11 : decode cX11_seed 11 = .ok (.ireturn, 1) := by decide +kernel
theorem dX11_seed_12 : decode cX11_seed 12 = .ok (.aload_n 0, 1) := by decide +kernel
theorem dX11_seed_13 : decode cX11_seed 13 = .ok (.iload_n 1, 1) := by decide +kernel
theorem dX11_seed_14 : decode cX11_seed 14 = .ok (.putfield 88, 3) := by decide +kernel
theorem dX11_seed_17 : decode cX11_seed 17 = .ok (.iconst 1, 1) := by decide +kernel
theorem dX11_seed_18 : decode cX11_seed 18 = .ok (.ireturn, 1) := by decide +kernel
theorem dX11_draw_0 : decode cX11_draw 0 = .ok (.iload_n 1, 1) := by decide +kernel
theorem dX11_draw_1 : decode cX11_draw 1 = .ok (.iconst 1, 1) := by decide +kernel
theorem dX11_draw_2 : decode cX11_draw 2 = .ok (.if_icmp .lt 9, 3) := by decide +kernel
theorem dX11_draw_5 : decode cX11_draw 5 = .ok (.iload_n 1, 1) := by decide +kernel
theorem dX11_draw_6 : decode cX11_draw 6 = .ok (.bipush 20, 2) := by decide +kernel
theorem dX11_draw_8 : decode cX11_draw 8 = .ok (.if_icmp .le 5, 3) := by decide +kernel
theorem dX11_draw_11 : decode cX11_draw 11 = .ok (.iconst (-1), 1) := by decide +kernel
theorem dX11_draw_12 : decode cX11_draw 12 = .ok (.ireturn, 1) := by decide +kernel
theorem dX11_draw_13 : decode cX11_draw 13 = .ok (.iconst 0, 1) := by decide +kernel
theorem dX11_draw_14 : decode cX11_draw 14 = .ok (.istore_n 2, 1) := by decide +kernel
theorem dX11_draw_15 : decode cX11_draw 15 = .ok (.iconst 0, 1) := by decide +kernel
theorem dX11_draw_16 : decode cX11_draw 16 = .ok (.istore_n 3, 1) := by decide +kernel
theorem dX11_draw_17 : decode cX11_draw 17 = .ok (.iload_n 3, 1) := by decide +kernel
theorem dX11_draw_18 : decode cX11_draw 18 = .ok (.iload_n 1, 1) := by decide +kernel
theorem dX11_draw_19 : decode cX11_draw 19 = .ok (.if_icmp .ge 38, 3) := by decide +kernel
theorem dX11_draw_22 : decode cX11_draw 22 = .ok (.aload_n 0, 1) := by decide +kernel
theorem dX11_draw_23 : decode cX11_draw 23 = .ok (.sipush 25173, 3) := by decide +kernel
theorem dX11_draw_26 : decode cX11_draw 26 = .ok (.aload_n 0, 1) := by decide +kernel
theorem dX11_draw_27 : decode cX11_draw 27 = .ok (.getfield 88, 3) := by decide +kernel
theorem dX11_draw_30 : decode cX11_draw 30 = .ok (.imul, 1) := by decide +kernel
theorem dX11_draw_31 : decode cX11_draw 31 = .ok (.sipush 13849, 3) := by decide +kernel
theorem dX11_draw_34 : decode cX11_draw 34 = .ok (.iadd, 1) := by decide +kernel
theorem dX11_draw_35 : decode cX11_draw 35 = .ok (.ldc 232, 2) := by decide +kernel
theorem dX11_draw_37 : decode cX11_draw 37 = .ok (.irem, 1) := by decide +kernel
theorem dX11_draw_38 : decode cX11_draw 38 = .ok (.putfield 88, 3) := by decide +kernel
theorem dX11_draw_41 : decode cX11_draw 41 = .ok (.aload_n 0, 1) := by decide +kernel
theorem dX11_draw_42 : decode cX11_draw 42 = .ok (.invokevirtual 233, 3) := by decide +kernel
theorem dX11_draw_45 : decode cX11_draw 45 = .ok (.ifCond .eq 6, 3) := by decide +kernel
theorem dX11_draw_48 : decode cX11_draw 48 = .ok (.iinc 2 1, 3) := by decide +kernel
theorem dX11_draw_51 : decode cX11_draw 51 = .ok (.iinc 3 1, 3) := by decide +kernel
theorem dX11_draw_54 : decode cX11_draw 54 = .ok (.goto (-37), 3) := by decide +kernel
theorem dX11_draw_57 : decode cX11_draw 57 = .ok (.iload_n 2, 1) := by decide +kernel
theorem dX11_draw_58 : decode cX11_draw 58 = .ok (.ireturn, 1) := by decide +kernel
theorem dX11_keep_0 : decode cX11_keep 0 = .ok (.aload_n 0, 1) := by decide +kernel
theorem dX11_keep_1 : decode cX11_keep 1 = .ok (.getfield 42, 3) := by decide +kernel
theorem dX11_keep_4 : decode cX11_keep 4 = .ok (.aload_n 0, 1) := by decide +kernel
theorem dX11_keep_5 : decode cX11_keep 5 = .ok (.getfield 38, 3) := by decide +kernel
theorem dX11_keep_8 : decode cX11_keep 8 = .ok (.invokevirtual 237, 3) := by decide +kernel
theorem dX11_keep_11 : decode cX11_keep 11 = .ok (.aload_n 0, 1) := by decide +kernel
theorem dX11_keep_12 : decode cX11_keep 12 = .ok (.getfield 31, 3) := by decide +kernel
theorem dX11_keep_15 : decode cX11_keep 15 = .ok (.getfield 241, 3) := by decide +kernel
theorem dX11_keep_18 : decode cX11_keep 18 = .ok (.iconst 0, 1) := by decide +kernel
theorem dX11_keep_19 : decode cX11_keep 19 = .ok (.aload_n 0, 1) := by decide +kernel
theorem dX11_keep_20 : decode cX11_keep 20 = .ok (.getfield 45, 3) := by decide +kernel
theorem dX11_keep_23 : decode cX11_keep 23 = .ok (.iconst 0, 1) := by decide +kernel
theorem dX11_keep_24 : decode cX11_keep 24 = .ok (.bipush 6, 2) := by decide +kernel
theorem dX11_keep_26 : decode cX11_keep 26 = .ok (.invokestatic 244, 3) := by decide +kernel
theorem dX11_keep_29 : decode cX11_keep 29 = .ok (.aload_n 0, 1) := by decide +kernel
theorem dX11_keep_30 : decode cX11_keep 30 = .ok (.aload_n 0, 1) := by decide +kernel
theorem dX11_keep_31 : decode cX11_keep 31 = .ok (.getfield 88, 3) := by decide +kernel
theorem dX11_keep_34 : decode cX11_keep 34 = .ok (.putfield 250, 3) := by decide +kernel
theorem dX11_keep_37 : decode cX11_keep 37 = .ok (.aload_n 0, 1) := by decide +kernel
theorem dX11_keep_38 : decode cX11_keep 38 = .ok (.iconst 1, 1) := by decide +kernel
theorem dX11_keep_39 : decode cX11_keep 39 = .ok (.putfield 253, 3) := by decide +kernel
theorem dX11_keep_42 : decode cX11_keep 42 = .ok (.aload_n 0, 1) := by decide +kernel
theorem dX11_keep_43 : decode cX11_keep 43 = .ok (.getfield 38, 3) := by decide +kernel
theorem dX11_keep_46 : decode cX11_keep 46 = .ok (.getfield 157, 3) := by decide +kernel
theorem dX11_keep_49 : decode cX11_keep 49 = .ok (.ireturn, 1) := by decide +kernel
theorem dX11_undo_0 : decode cX11_undo 0 = .ok (.aload_n 0, 1) := by decide +kernel
theorem dX11_undo_1 : decode cX11_undo 1 = .ok (.getfield 253, 3) := by decide +kernel
theorem dX11_undo_4 : decode cX11_undo 4 = .ok (.ifCond .ne 5, 3) := by decide +kernel
theorem dX11_undo_7 : decode cX11_undo 7 = .ok (.iconst 0, 1) := by decide +kernel
theorem dX11_undo_8 : decode cX11_undo 8 = .ok (.ireturn, 1) := by decide +kernel
theorem dX11_undo_9 : decode cX11_undo 9 = .ok (.aload_n 0, 1) := by decide +kernel
theorem dX11_undo_10 : decode cX11_undo 10 = .ok (.getfield 38, 3) := by decide +kernel
theorem dX11_undo_13 : decode cX11_undo 13 = .ok (.aload_n 0, 1) := by decide +kernel
theorem dX11_undo_14 : decode cX11_undo 14 = .ok (.getfield 42, 3) := by decide +kernel
theorem dX11_undo_17 : decode cX11_undo 17 = .ok (.invokevirtual 237, 3) := by decide +kernel
theorem dX11_undo_20 : decode cX11_undo 20 = .ok (.aload_n 0, 1) := by decide +kernel
theorem dX11_undo_21 : decode cX11_undo 21 = .ok (.getfield 45, 3) := by decide +kernel
theorem dX11_undo_24 : decode cX11_undo 24 = .ok (.iconst 0, 1) := by decide +kernel
theorem dX11_undo_25 : decode cX11_undo 25 = .ok (.aload_n 0, 1) := by decide +kernel
theorem dX11_undo_26 : decode cX11_undo 26 = .ok (.getfield 31, 3) := by decide +kernel
theorem dX11_undo_29 : decode cX11_undo 29 = .ok (.getfield 241, 3) := by decide +kernel
theorem dX11_undo_32 : decode cX11_undo 32 = .ok (.iconst 0, 1) := by decide +kernel
theorem dX11_undo_33 : decode cX11_undo 33 = .ok (.bipush 6, 2) := by decide +kernel
theorem dX11_undo_35 : decode cX11_undo 35 = .ok (.invokestatic 244, 3) := by decide +kernel
theorem dX11_undo_38 : decode cX11_undo 38 = .ok (.aload_n 0, 1) := by decide +kernel
theorem dX11_undo_39 : decode cX11_undo 39 = .ok (.aload_n 0, 1) := by decide +kernel
theorem dX11_undo_40 : decode cX11_undo 40 = .ok (.getfield 250, 3) := by decide +kernel
theorem dX11_undo_43 : decode cX11_undo 43 = .ok (.putfield 88, 3) := by decide +kernel
theorem dX11_undo_46 : decode cX11_undo 46 = .ok (.iconst 1, 1) := by decide +kernel
theorem dX11_undo_47 : decode cX11_undo 47 = .ok (.ireturn, 1) := by decide +kernel
theorem dX11_check_0 : decode cX11_check 0 = .ok (.iload_n 1, 1) := by decide +kernel
theorem dX11_check_1 : decode cX11_check 1 = .ok (.ifCond .lt 33, 3) := by decide +kernel
theorem dX11_check_4 : decode cX11_check 4 = .ok (.iload_n 1, 1) := by decide +kernel
theorem dX11_check_5 : decode cX11_check 5 = .ok (.bipush 20, 2) := by decide +kernel
theorem dX11_check_7 : decode cX11_check 7 = .ok (.if_icmp .gt 27, 3) := by decide +kernel
theorem dX11_check_10 : decode cX11_check 10 = .ok (.iload_n 1, 1) := by decide +kernel
theorem dX11_check_11 : decode cX11_check 11 = .ok (.aload_n 0, 1) := by decide +kernel
theorem dX11_check_12 : decode cX11_check 12 = .ok (.getfield 38, 3) := by decide +kernel
theorem dX11_check_15 : decode cX11_check 15 = .ok (.getfield 157, 3) := by decide +kernel
theorem dX11_check_18 : decode cX11_check 18 = .ok (.if_icmp .gt 16, 3) := by decide +kernel
theorem dX11_check_21 : decode cX11_check 21 = .ok (.iconst 4, 1) := by decide +kernel
theorem dX11_check_22 : decode cX11_check 22 = .ok (.iload_n 1, 1) := by decide +kernel
theorem dX11_check_23 : decode cX11_check 23 = .ok (.imul, 1) := by decide +kernel
theorem dX11_check_24 : decode cX11_check 24 = .ok (.aload_n 0, 1) := by decide +kernel
theorem dX11_check_25 : decode cX11_check 25 = .ok (.getfield 18, 3) := by decide +kernel
theorem dX11_check_28 : decode cX11_check 28 = .ok (.getfield 92, 3) := by decide +kernel
theorem dX11_check_31 : decode cX11_check 31 = .ok (.if_icmp .le 6, 3) := by decide +kernel
theorem dX11_check_34 : decode cX11_check 34 = .ok (.bipush (-2), 2) := by decide +kernel
theorem dX11_check_36 : decode cX11_check 36 = .ok (.ireturn, 1) := by decide +kernel
theorem dX11_check_37 : decode cX11_check 37 = .ok (.iconst (-1), 1) := by decide +kernel
theorem dX11_check_38 : decode cX11_check 38 = .ok (.istore_n 2, 1) := by decide +kernel
theorem dX11_check_39 : decode cX11_check 39 = .ok (.iconst 0, 1) := by decide +kernel
theorem dX11_check_40 : decode cX11_check 40 = .ok (.istore_n 3, 1) := by decide +kernel
theorem dX11_check_41 : decode cX11_check 41 = .ok (.iload_n 3, 1) := by decide +kernel
theorem dX11_check_42 : decode cX11_check 42 = .ok (.iload_n 1, 1) := by decide +kernel
theorem dX11_check_43 : decode cX11_check 43 = .ok (.if_icmp .ge 45, 3) := by decide +kernel
theorem dX11_check_46 : decode cX11_check 46 = .ok (.iload_n 2, 1) := by decide +kernel
theorem dX11_check_47 : decode cX11_check 47 = .ok (.iconst (-1), 1) := by decide +kernel
theorem dX11_check_48 : decode cX11_check 48 = .ok (.if_icmp .ne 40, 3) := by decide +kernel
theorem dX11_check_51 : decode cX11_check 51 = .ok (.aload_n 0, 1) := by decide +kernel
theorem dX11_check_52 : decode cX11_check 52 = .ok (.getfield 18, 3) := by decide +kernel
theorem dX11_check_55 : decode cX11_check 55 = .ok (.iload_n 3, 1) := by decide +kernel
theorem dX11_check_56 : decode cX11_check 56 = .ok (.invokevirtual 257, 3) := by decide +kernel
theorem dX11_check_59 : decode cX11_check 59 = .ok (.aload_n 0, 1) := by decide +kernel
theorem dX11_check_60 : decode cX11_check 60 = .ok (.getfield 38, 3) := by decide +kernel
theorem dX11_check_63 : decode cX11_check 63 = .ok (.aload_n 0, 1) := by decide +kernel
theorem dX11_check_64 : decode cX11_check 64 = .ok (.getfield 38, 3) := by decide +kernel
theorem dX11_check_67 : decode cX11_check 67 = .ok (.getfield 157, 3) := by decide +kernel
theorem dX11_check_70 : decode cX11_check 70 = .ok (.iload_n 1, 1) := by decide +kernel
theorem dX11_check_71 : decode cX11_check 71 = .ok (.isub, 1) := by decide +kernel
theorem dX11_check_72 : decode cX11_check 72 = .ok (.iload_n 3, 1) := by decide +kernel
theorem dX11_check_73 : decode cX11_check 73 = .ok (.iadd, 1) := by decide +kernel
theorem dX11_check_74 : decode cX11_check 74 = .ok (.invokevirtual 170, 3) := by decide +kernel
theorem dX11_check_77 : decode cX11_check 77 = .ok (.if_icmp .eq 5, 3) := by decide +kernel
theorem dX11_check_80 : decode cX11_check 80 = .ok (.iload_n 3, 1) := by decide +kernel
theorem dX11_check_81 : decode cX11_check 81 = .ok (.istore_n 2, 1) := by decide +kernel
theorem dX11_check_82 : decode cX11_check 82 = .ok (.iinc 3 1, 3) := by decide +kernel
theorem dX11_check_85 : decode cX11_check 85 = .ok (.goto (-44), 3) := by decide +kernel
theorem dX11_check_88 : decode cX11_check 88 = .ok (.aload_n 0, 1) := by decide +kernel
theorem dX11_check_89 : decode cX11_check 89 = .ok (.getfield 18, 3) := by decide +kernel
theorem dX11_check_92 : decode cX11_check 92 = .ok (.invokevirtual 111, 3) := by decide +kernel
theorem dX11_check_95 : decode cX11_check 95 = .ok (.iload_n 2, 1) := by decide +kernel
theorem dX11_check_96 : decode cX11_check 96 = .ok (.ireturn, 1) := by decide +kernel
theorem dX11_count_0 : decode cX11_count 0 = .ok (.iload_n 1, 1) := by decide +kernel
theorem dX11_count_1 : decode cX11_count 1 = .ok (.bipush 10, 2) := by decide +kernel
theorem dX11_count_3 : decode cX11_count 3 = .ok (.if_icmp .lt 21, 3) := by decide +kernel
theorem dX11_count_6 : decode cX11_count 6 = .ok (.iload_n 1, 1) := by decide +kernel
theorem dX11_count_7 : decode cX11_count 7 = .ok (.bipush 16, 2) := by decide +kernel
theorem dX11_count_9 : decode cX11_count 9 = .ok (.if_icmp .ge 15, 3) := by decide +kernel
theorem dX11_count_12 : decode cX11_count 12 = .ok (.aload_n 0, 1) := by decide +kernel
theorem dX11_count_13 : decode cX11_count 13 = .ok (.getfield 31, 3) := by decide +kernel
theorem dX11_count_16 : decode cX11_count 16 = .ok (.iload_n 1, 1) := by decide +kernel
theorem dX11_count_17 : decode cX11_count 17 = .ok (.bipush 10, 2) := by decide +kernel
theorem dX11_count_19 : decode cX11_count 19 = .ok (.isub, 1) := by decide +kernel
theorem dX11_count_20 : decode cX11_count 20 = .ok (.invokevirtual 260, 3) := by decide +kernel
theorem dX11_count_23 : decode cX11_count 23 = .ok (.ireturn, 1) := by decide +kernel
theorem dX11_count_24 : decode cX11_count 24 = .ok (.iload_n 1, 1) := by decide +kernel
theorem dX11_count_25 : decode cX11_count 25 = .ok (.bipush 20, 2) := by decide +kernel
theorem dX11_count_27 : decode cX11_count 27 = .ok (.if_icmp .lt 21, 3) := by decide +kernel
theorem dX11_count_30 : decode cX11_count 30 = .ok (.iload_n 1, 1) := by decide +kernel
theorem dX11_count_31 : decode cX11_count 31 = .ok (.bipush 26, 2) := by decide +kernel
theorem dX11_count_33 : decode cX11_count 33 = .ok (.if_icmp .ge 15, 3) := by decide +kernel
theorem dX11_count_36 : decode cX11_count 36 = .ok (.aload_n 0, 1) := by decide +kernel
theorem dX11_count_37 : decode cX11_count 37 = .ok (.getfield 38, 3) := by decide +kernel
theorem dX11_count_40 : decode cX11_count 40 = .ok (.iload_n 1, 1) := by decide +kernel
theorem dX11_count_41 : decode cX11_count 41 = .ok (.bipush 20, 2) := by decide +kernel
theorem dX11_count_43 : decode cX11_count 43 = .ok (.isub, 1) := by decide +kernel
theorem dX11_count_44 : decode cX11_count 44 = .ok (.invokevirtual 263, 3) := by decide +kernel
theorem dX11_count_47 : decode cX11_count 47 = .ok (.ireturn, 1) := by decide +kernel
theorem dX11_count_48 : decode cX11_count 48 = .ok (.iload_n 1, 1) := by decide +kernel
theorem dX11_count_49 : decode cX11_count 49 = .ok (.tableswitch 144 0 8 #[51, 59, 67, 78, 89, 97, 102, 110, 127], 51) := by decide +kernel
theorem dX11_count_100 : decode cX11_count 100 = .ok (.aload_n 0, 1) := by decide +kernel
theorem dX11_count_101 : decode cX11_count 101 = .ok (.getfield 38, 3) := by decide +kernel
theorem dX11_count_104 : decode cX11_count 104 = .ok (.getfield 157, 3) := by decide +kernel
theorem dX11_count_107 : decode cX11_count 107 = .ok (.ireturn, 1) := by decide +kernel
theorem dX11_count_108 : decode cX11_count 108 = .ok (.aload_n 0, 1) := by decide +kernel
theorem dX11_count_109 : decode cX11_count 109 = .ok (.getfield 38, 3) := by decide +kernel
theorem dX11_count_112 : decode cX11_count 112 = .ok (.getfield 266, 3) := by decide +kernel
theorem dX11_count_115 : decode cX11_count 115 = .ok (.ireturn, 1) := by decide +kernel
theorem dX11_count_116 : decode cX11_count 116 = .ok (.aload_n 0, 1) := by decide +kernel
theorem dX11_count_117 : decode cX11_count 117 = .ok (.getfield 31, 3) := by decide +kernel
theorem dX11_count_120 : decode cX11_count 120 = .ok (.getfield 269, 3) := by decide +kernel
theorem dX11_count_123 : decode cX11_count 123 = .ok (.getfield 272, 3) := by decide +kernel
theorem dX11_count_126 : decode cX11_count 126 = .ok (.ireturn, 1) := by decide +kernel
theorem dX11_count_127 : decode cX11_count 127 = .ok (.aload_n 0, 1) := by decide +kernel
theorem dX11_count_128 : decode cX11_count 128 = .ok (.getfield 31, 3) := by decide +kernel
theorem dX11_count_131 : decode cX11_count 131 = .ok (.getfield 277, 3) := by decide +kernel
theorem dX11_count_134 : decode cX11_count 134 = .ok (.getfield 272, 3) := by decide +kernel
theorem dX11_count_137 : decode cX11_count 137 = .ok (.ireturn, 1) := by decide +kernel
theorem dX11_count_138 : decode cX11_count 138 = .ok (.aload_n 0, 1) := by decide +kernel
theorem dX11_count_139 : decode cX11_count 139 = .ok (.getfield 18, 3) := by decide +kernel
theorem dX11_count_142 : decode cX11_count 142 = .ok (.getfield 92, 3) := by decide +kernel
theorem dX11_count_145 : decode cX11_count 145 = .ok (.ireturn, 1) := by decide +kernel
theorem dX11_count_146 : decode cX11_count 146 = .ok (.aload_n 0, 1) := by decide +kernel
theorem dX11_count_147 : decode cX11_count 147 = .ok (.getfield 88, 3) := by decide +kernel
theorem dX11_count_150 : decode cX11_count 150 = .ok (.ireturn, 1) := by decide +kernel
theorem dX11_count_151 : decode cX11_count 151 = .ok (.aload_n 0, 1) := by decide +kernel
theorem dX11_count_152 : decode cX11_count 152 = .ok (.getfield 31, 3) := by decide +kernel
theorem dX11_count_155 : decode cX11_count 155 = .ok (.invokevirtual 280, 3) := by decide +kernel
theorem dX11_count_158 : decode cX11_count 158 = .ok (.ireturn, 1) := by decide +kernel
theorem dX11_count_159 : decode cX11_count 159 = .ok (.aload_n 0, 1) := by decide +kernel
theorem dX11_count_160 : decode cX11_count 160 = .ok (.getfield 38, 3) := by decide +kernel
theorem dX11_count_163 : decode cX11_count 163 = .ok (.aload_n 0, 1) := by decide +kernel
theorem dX11_count_164 : decode cX11_count 164 = .ok (.getfield 38, 3) := by decide +kernel
theorem dX11_count_167 : decode cX11_count 167 = .ok (.getfield 157, 3) := by decide +kernel
theorem dX11_count_170 : decode cX11_count 170 = .ok (.iconst 1, 1) := by decide +kernel
theorem dX11_count_171 : decode cX11_count 171 = .ok (.isub, 1) := by decide +kernel
theorem dX11_count_172 : decode cX11_count 172 = .ok (.invokevirtual 170, 3) := by decide +kernel
theorem dX11_count_175 : decode cX11_count 175 = .ok (.ireturn, 1) := by decide +kernel
theorem dX11_count_176 : decode cX11_count 176 = .ok (.aload_n 0, 1) := by decide +kernel
theorem dX11_count_177 : decode cX11_count 177 = .ok (.getfield 38, 3) := by decide +kernel
theorem dX11_count_180 : decode cX11_count 180 = .ok (.aload_n 0, 1) := by decide +kernel
theorem dX11_count_181 : decode cX11_count 181 = .ok (.getfield 38, 3) := by decide +kernel
theorem dX11_count_184 : decode cX11_count 184 = .ok (.getfield 157, 3) := by decide +kernel
theorem dX11_count_187 : decode cX11_count 187 = .ok (.iconst 2, 1) := by decide +kernel
theorem dX11_count_188 : decode cX11_count 188 = .ok (.isub, 1) := by decide +kernel
theorem dX11_count_189 : decode cX11_count 189 = .ok (.invokevirtual 170, 3) := by decide +kernel
theorem dX11_count_192 : decode cX11_count 192 = .ok (.ireturn, 1) := by decide +kernel
theorem dX11_count_193 : decode cX11_count 193 = .ok (.iconst (-1), 1) := by decide +kernel
theorem dX11_count_194 : decode cX11_count 194 = .ok (.ireturn, 1) := by decide +kernel
theorem dX11_isThing_0 : decode cX11_isThing 0 = .ok (.iload_n 0, 1) := by decide +kernel
theorem dX11_isThing_1 : decode cX11_isThing 1 = .ok (.ifCond .lt 13, 3) := by decide +kernel
theorem dX11_isThing_4 : decode cX11_isThing 4 = .ok (.iload_n 0, 1) := by decide +kernel
theorem dX11_isThing_5 : decode cX11_isThing 5 = .ok (.bipush 12, 2) := by decide +kernel
theorem dX11_isThing_7 : decode cX11_isThing 7 = .ok (.if_icmp .ge 7, 3) := by decide +kernel
theorem dX11_isThing_10 : decode cX11_isThing 10 = .ok (.iconst 1, 1) := by decide +kernel
theorem dX11_isThing_11 : decode cX11_isThing 11 = .ok (.goto 4, 3) := by decide +kernel
theorem dX11_isThing_14 : decode cX11_isThing 14 = .ok (.iconst 0, 1) := by decide +kernel
theorem dX11_isThing_15 : decode cX11_isThing 15 = .ok (.ireturn, 1) := by decide +kernel
theorem dX11_isSpeaker_0 : decode cX11_isSpeaker 0 = .ok (.iload_n 0, 1) := by decide +kernel
theorem dX11_isSpeaker_1 : decode cX11_isSpeaker 1 = .ok (.ifCond .lt 13, 3) := by decide +kernel
theorem dX11_isSpeaker_4 : decode cX11_isSpeaker 4 = .ok (.iload_n 0, 1) := by decide +kernel
theorem dX11_isSpeaker_5 : decode cX11_isSpeaker 5 = .ok (.bipush 6, 2) := by decide +kernel
theorem dX11_isSpeaker_7 : decode cX11_isSpeaker 7 = .ok (.if_icmp .ge 7, 3) := by decide +kernel
theorem dX11_isSpeaker_10 : decode cX11_isSpeaker 10 = .ok (.iconst 1, 1) := by decide +kernel
theorem dX11_isSpeaker_11 : decode cX11_isSpeaker 11 = .ok (.goto 4, 3) := by decide +kernel
theorem dX11_isSpeaker_14 : decode cX11_isSpeaker 14 = .ok (.iconst 0, 1) := by decide +kernel
theorem dX11_isSpeaker_15 : decode cX11_isSpeaker 15 = .ok (.ireturn, 1) := by decide +kernel
theorem dX11_isLaw_0 : decode cX11_isLaw 0 = .ok (.iload_n 0, 1) := by decide +kernel
theorem dX11_isLaw_1 : decode cX11_isLaw 1 = .ok (.ifCond .eq 8, 3) := by decide +kernel
theorem dX11_isLaw_4 : decode cX11_isLaw 4 = .ok (.iload_n 0, 1) := by decide +kernel
theorem dX11_isLaw_5 : decode cX11_isLaw 5 = .ok (.iconst 1, 1) := by decide +kernel
theorem dX11_isLaw_6 : decode cX11_isLaw 6 = .ok (.if_icmp .ne 7, 3) := by decide +kernel
theorem dX11_isLaw_9 : decode cX11_isLaw 9 = .ok (.iconst 1, 1) := by decide +kernel
theorem dX11_isLaw_10 : decode cX11_isLaw 10 = .ok (.goto 4, 3) := by decide +kernel
theorem dX11_isLaw_13 : decode cX11_isLaw 13 = .ok (.iconst 0, 1) := by decide +kernel
theorem dX11_isLaw_14 : decode cX11_isLaw 14 = .ok (.ireturn, 1) := by decide +kernel
theorem dX11_isHeldPlace_0 : decode cX11_isHeldPlace 0 = .ok (.iload_n 1, 1) := by decide +kernel
theorem dX11_isHeldPlace_1 : decode cX11_isHeldPlace 1 = .ok (.iconst (-1), 1) := by decide +kernel
theorem dX11_isHeldPlace_2 : decode cX11_isHeldPlace 2 = .ok (.if_icmp .eq 18, 3) := by decide +kernel
theorem dX11_isHeldPlace_5 : decode cX11_isHeldPlace 5 = .ok (.iload_n 1, 1) := by decide +kernel
theorem dX11_isHeldPlace_6 : decode cX11_isHeldPlace 6 = .ok (.bipush 20, 2) := by decide +kernel
theorem dX11_isHeldPlace_8 : decode cX11_isHeldPlace 8 = .ok (.if_icmp .eq 12, 3) := by decide +kernel
theorem dX11_isHeldPlace_11 : decode cX11_isHeldPlace 11 = .ok (.iload_n 1, 1) := by decide +kernel
theorem dX11_isHeldPlace_12 : decode cX11_isHeldPlace 12 = .ok (.ifCond .lt 12, 3) := by decide +kernel
theorem dX11_isHeldPlace_15 : decode cX11_isHeldPlace 15 = .ok (.iload_n 1, 1) := by decide +kernel
theorem dX11_isHeldPlace_16 : decode cX11_isHeldPlace 16 = .ok (.iload_n 0, 1) := by decide +kernel
theorem dX11_isHeldPlace_17 : decode cX11_isHeldPlace 17 = .ok (.if_icmp .ge 7, 3) := by decide +kernel
theorem dX11_isHeldPlace_20 : decode cX11_isHeldPlace 20 = .ok (.iconst 1, 1) := by decide +kernel
theorem dX11_isHeldPlace_21 : decode cX11_isHeldPlace 21 = .ok (.goto 4, 3) := by decide +kernel
theorem dX11_isHeldPlace_24 : decode cX11_isHeldPlace 24 = .ok (.iconst 0, 1) := by decide +kernel
theorem dX11_isHeldPlace_25 : decode cX11_isHeldPlace 25 = .ok (.ireturn, 1) := by decide +kernel
theorem dX11_isHeardPlace_0 : decode cX11_isHeardPlace 0 = .ok (.iload_n 1, 1) := by decide +kernel
theorem dX11_isHeardPlace_1 : decode cX11_isHeardPlace 1 = .ok (.iconst (-1), 1) := by decide +kernel
theorem dX11_isHeardPlace_2 : decode cX11_isHeardPlace 2 = .ok (.if_icmp .lt 8, 3) := by decide +kernel
theorem dX11_isHeardPlace_5 : decode cX11_isHeardPlace 5 = .ok (.iload_n 1, 1) := by decide +kernel
theorem dX11_isHeardPlace_6 : decode cX11_isHeardPlace 6 = .ok (.iload_n 0, 1) := by decide +kernel
theorem dX11_isHeardPlace_7 : decode cX11_isHeardPlace 7 = .ok (.if_icmp .lt 17, 3) := by decide +kernel
theorem dX11_isHeardPlace_10 : decode cX11_isHeardPlace 10 = .ok (.iload_n 1, 1) := by decide +kernel
theorem dX11_isHeardPlace_11 : decode cX11_isHeardPlace 11 = .ok (.bipush 10, 2) := by decide +kernel
theorem dX11_isHeardPlace_13 : decode cX11_isHeardPlace 13 = .ok (.if_icmp .lt 15, 3) := by decide +kernel
theorem dX11_isHeardPlace_16 : decode cX11_isHeardPlace 16 = .ok (.iload_n 1, 1) := by decide +kernel
theorem dX11_isHeardPlace_17 : decode cX11_isHeardPlace 17 = .ok (.bipush 10, 2) := by decide +kernel
theorem dX11_isHeardPlace_19 : decode cX11_isHeardPlace 19 = .ok (.iload_n 0, 1) := by decide +kernel
theorem dX11_isHeardPlace_20 : decode cX11_isHeardPlace 20 = .ok (.iadd, 1) := by decide +kernel
theorem dX11_isHeardPlace_21 : decode cX11_isHeardPlace 21 = .ok (.if_icmp .ge 7, 3) := by decide +kernel
theorem dX11_isHeardPlace_24 : decode cX11_isHeardPlace 24 = .ok (.iconst 1, 1) := by decide +kernel
theorem dX11_isHeardPlace_25 : decode cX11_isHeardPlace 25 = .ok (.goto 4, 3) := by decide +kernel
theorem dX11_isHeardPlace_28 : decode cX11_isHeardPlace 28 = .ok (.iconst 0, 1) := by decide +kernel
theorem dX11_isHeardPlace_29 : decode cX11_isHeardPlace 29 = .ok (.ireturn, 1) := by decide +kernel
theorem dX11_isOnTape_0 : decode cX11_isOnTape 0 = .ok (.iload_n 1, 1) := by decide +kernel
theorem dX11_isOnTape_1 : decode cX11_isOnTape 1 = .ok (.iconst 1, 1) := by decide +kernel
theorem dX11_isOnTape_2 : decode cX11_isOnTape 2 = .ok (.if_icmp .lt 25, 3) := by decide +kernel
theorem dX11_isOnTape_5 : decode cX11_isOnTape 5 = .ok (.iload_n 1, 1) := by decide +kernel
theorem dX11_isOnTape_6 : decode cX11_isOnTape 6 = .ok (.iload_n 2, 1) := by decide +kernel
theorem dX11_isOnTape_7 : decode cX11_isOnTape 7 = .ok (.if_icmp .gt 20, 3) := by decide +kernel
theorem dX11_isOnTape_10 : decode cX11_isOnTape 10 = .ok (.iload_n 1, 1) := by decide +kernel
theorem dX11_isOnTape_11 : decode cX11_isOnTape 11 = .ok (.iload_n 3, 1) := by decide +kernel
theorem dX11_isOnTape_12 : decode cX11_isOnTape 12 = .ok (.imul, 1) := by decide +kernel
theorem dX11_isOnTape_13 : decode cX11_isOnTape 13 = .ok (.aload_n 0, 1) := by decide +kernel
theorem dX11_isOnTape_14 : decode cX11_isOnTape 14 = .ok (.getfield 18, 3) := by decide +kernel
theorem dX11_isOnTape_17 : decode cX11_isOnTape 17 = .ok (.getfield 92, 3) := by decide +kernel
theorem dX11_isOnTape_20 : decode cX11_isOnTape 20 = .ok (.if_icmp .gt 7, 3) := by decide +kernel
theorem dX11_isOnTape_23 : decode cX11_isOnTape 23 = .ok (.iconst 1, 1) := by decide +kernel
theorem dX11_isOnTape_24 : decode cX11_isOnTape 24 = .ok (.goto 4, 3) := by decide +kernel
theorem dX11_isOnTape_27 : decode cX11_isOnTape 27 = .ok (.iconst 0, 1) := by decide +kernel
theorem dX11_isOnTape_28 : decode cX11_isOnTape 28 = .ok (.ireturn, 1) := by decide +kernel
theorem dX11_tellsSpeakersAndThings_0 : decode cX11_tellsSpeakersAndThings 0 = .ok (.iconst 0, 1) := by decide +kernel
theorem dX11_tellsSpeakersAndThings_1 : decode cX11_tellsSpeakersAndThings 1 = .ok (.istore_n 3, 1) := by decide +kernel
theorem dX11_tellsSpeakersAndThings_2 : decode cX11_tellsSpeakersAndThings 2 = .ok (.iload_n 3, 1) := by decide +kernel
theorem dX11_tellsSpeakersAndThings_3 : decode cX11_tellsSpeakersAndThings 3 = .ok (.iload_n 1, 1) := by decide +kernel
theorem dX11_tellsSpeakersAndThings_4 : decode cX11_tellsSpeakersAndThings 4 = .ok (.if_icmp .ge 45, 3) := by decide +kernel
theorem dX11_tellsSpeakersAndThings_7 : decode cX11_tellsSpeakersAndThings 7 = .ok (.aload_n 0, 1) := by decide +kernel
theorem dX11_tellsSpeakersAndThings_8 : decode cX11_tellsSpeakersAndThings 8 = .ok (.getfield 18, 3) := by decide +kernel
theorem dX11_tellsSpeakersAndThings_11 : decode cX11_tellsSpeakersAndThings 11 = .ok (.iload_n 2, 1) := by decide +kernel
theorem dX11_tellsSpeakersAndThings_12 : decode cX11_tellsSpeakersAndThings 12 = .ok (.iload_n 3, 1) := by decide +kernel
theorem dX11_tellsSpeakersAndThings_13 : decode cX11_tellsSpeakersAndThings 13 = .ok (.imul, 1) := by decide +kernel
theorem dX11_tellsSpeakersAndThings_14 : decode cX11_tellsSpeakersAndThings 14 = .ok (.invokevirtual 189, 3) := by decide +kernel
theorem dX11_tellsSpeakersAndThings_17 : decode cX11_tellsSpeakersAndThings 17 = .ok (.invokestatic 126, 3) := by decide +kernel
theorem dX11_tellsSpeakersAndThings_20 : decode cX11_tellsSpeakersAndThings 20 = .ok (.ifCond .eq 21, 3) := by decide +kernel
theorem dX11_tellsSpeakersAndThings_23 : decode cX11_tellsSpeakersAndThings 23 = .ok (.aload_n 0, 1) := by decide +kernel
theorem dX11_tellsSpeakersAndThings_24 : decode cX11_tellsSpeakersAndThings 24 = .ok (.getfield 18, 3) := by decide +kernel
theorem dX11_tellsSpeakersAndThings_27 : decode cX11_tellsSpeakersAndThings 27 = .ok (.iload_n 2, 1) := by decide +kernel
theorem dX11_tellsSpeakersAndThings_28 : decode cX11_tellsSpeakersAndThings 28 = .ok (.iload_n 3, 1) := by decide +kernel
theorem dX11_tellsSpeakersAndThings_29 : decode cX11_tellsSpeakersAndThings 29 = .ok (.imul, 1) := by decide +kernel
theorem dX11_tellsSpeakersAndThings_30 : decode cX11_tellsSpeakersAndThings 30 = .ok (.iconst 1, 1) := by decide +kernel
theorem dX11_tellsSpeakersAndThings_31 : decode cX11_tellsSpeakersAndThings 31 = .ok (.iadd, 1) := by decide +kernel
theorem dX11_tellsSpeakersAndThings_32 : decode cX11_tellsSpeakersAndThings 32 = .ok (.invokevirtual 189, 3) := by decide +kernel
theorem dX11_tellsSpeakersAndThings_35 : decode cX11_tellsSpeakersAndThings 35 = .ok (.invokestatic 99, 3) := by decide +kernel
theorem dX11_tellsSpeakersAndThings_38 : decode cX11_tellsSpeakersAndThings 38 = .ok (.ifCond .ne 5, 3) := by decide +kernel
theorem dX11_tellsSpeakersAndThings_41 : decode cX11_tellsSpeakersAndThings 41 = .ok (.iconst 0, 1) := by decide +kernel
theorem dX11_tellsSpeakersAndThings_42 : decode cX11_tellsSpeakersAndThings 42 = .ok (.ireturn, 1) := by decide +kernel
theorem dX11_tellsSpeakersAndThings_43 : decode cX11_tellsSpeakersAndThings 43 = .ok (.iinc 3 1, 3) := by decide +kernel
theorem dX11_tellsSpeakersAndThings_46 : decode cX11_tellsSpeakersAndThings 46 = .ok (.goto (-44), 3) := by decide +kernel
theorem dX11_tellsSpeakersAndThings_49 : decode cX11_tellsSpeakersAndThings 49 = .ok (.iconst 1, 1) := by decide +kernel
theorem dX11_tellsSpeakersAndThings_50 : decode cX11_tellsSpeakersAndThings 50 = .ok (.ireturn, 1) := by decide +kernel
theorem dX11_tellsDigits_0 : decode cX11_tellsDigits 0 = .ok (.iconst 0, 1) := by decide +kernel
theorem dX11_tellsDigits_1 : decode cX11_tellsDigits 1 = .ok (.istore_n 3, 1) := by decide +kernel
theorem dX11_tellsDigits_2 : decode cX11_tellsDigits 2 = .ok (.iload_n 3, 1) := by decide +kernel
theorem dX11_tellsDigits_3 : decode cX11_tellsDigits 3 = .ok (.iload_n 2, 1) := by decide +kernel
theorem dX11_tellsDigits_4 : decode cX11_tellsDigits 4 = .ok (.if_icmp .ge 27, 3) := by decide +kernel
theorem dX11_tellsDigits_7 : decode cX11_tellsDigits 7 = .ok (.aload_n 0, 1) := by decide +kernel
theorem dX11_tellsDigits_8 : decode cX11_tellsDigits 8 = .ok (.getfield 18, 3) := by decide +kernel
theorem dX11_tellsDigits_11 : decode cX11_tellsDigits 11 = .ok (.iconst 3, 1) := by decide +kernel
theorem dX11_tellsDigits_12 : decode cX11_tellsDigits 12 = .ok (.iload_n 3, 1) := by decide +kernel
theorem dX11_tellsDigits_13 : decode cX11_tellsDigits 13 = .ok (.imul, 1) := by decide +kernel
theorem dX11_tellsDigits_14 : decode cX11_tellsDigits 14 = .ok (.iconst 2, 1) := by decide +kernel
theorem dX11_tellsDigits_15 : decode cX11_tellsDigits 15 = .ok (.iadd, 1) := by decide +kernel
theorem dX11_tellsDigits_16 : decode cX11_tellsDigits 16 = .ok (.invokevirtual 189, 3) := by decide +kernel
theorem dX11_tellsDigits_19 : decode cX11_tellsDigits 19 = .ok (.iload_n 1, 1) := by decide +kernel
theorem dX11_tellsDigits_20 : decode cX11_tellsDigits 20 = .ok (.if_icmp .lt 5, 3) := by decide +kernel
theorem dX11_tellsDigits_23 : decode cX11_tellsDigits 23 = .ok (.iconst 0, 1) := by decide +kernel
theorem dX11_tellsDigits_24 : decode cX11_tellsDigits 24 = .ok (.ireturn, 1) := by decide +kernel
theorem dX11_tellsDigits_25 : decode cX11_tellsDigits 25 = .ok (.iinc 3 1, 3) := by decide +kernel
theorem dX11_tellsDigits_28 : decode cX11_tellsDigits 28 = .ok (.goto (-26), 3) := by decide +kernel
theorem dX11_tellsDigits_31 : decode cX11_tellsDigits 31 = .ok (.iconst 1, 1) := by decide +kernel
theorem dX11_tellsDigits_32 : decode cX11_tellsDigits 32 = .ok (.ireturn, 1) := by decide +kernel
theorem dX11_tellsSpeakersAndLengths_0 : decode cX11_tellsSpeakersAndLengths 0 = .ok (.iconst 0, 1) := by decide +kernel
theorem dX11_tellsSpeakersAndLengths_1 : decode cX11_tellsSpeakersAndLengths 1 = .ok (.istore_n 2, 1) := by decide +kernel
theorem dX11_tellsSpeakersAndLengths_2 : decode cX11_tellsSpeakersAndLengths 2 = .ok (.iload_n 2, 1) := by decide +kernel
theorem dX11_tellsSpeakersAndLengths_3 : decode cX11_tellsSpeakersAndLengths 3 = .ok (.iload_n 1, 1) := by decide +kernel
theorem dX11_tellsSpeakersAndLengths_4 : decode cX11_tellsSpeakersAndLengths 4 = .ok (.if_icmp .ge 51, 3) := by decide +kernel
theorem dX11_tellsSpeakersAndLengths_7 : decode cX11_tellsSpeakersAndLengths 7 = .ok (.aload_n 0, 1) := by decide +kernel
theorem dX11_tellsSpeakersAndLengths_8 : decode cX11_tellsSpeakersAndLengths 8 = .ok (.getfield 18, 3) := by decide +kernel
theorem dX11_tellsSpeakersAndLengths_11 : decode cX11_tellsSpeakersAndLengths 11 = .ok (.iconst 2, 1) := by decide +kernel
theorem dX11_tellsSpeakersAndLengths_12 : decode cX11_tellsSpeakersAndLengths 12 = .ok (.iload_n 2, 1) := by decide +kernel
theorem dX11_tellsSpeakersAndLengths_13 : decode cX11_tellsSpeakersAndLengths 13 = .ok (.imul, 1) := by decide +kernel
theorem dX11_tellsSpeakersAndLengths_14 : decode cX11_tellsSpeakersAndLengths 14 = .ok (.iconst 1, 1) := by decide +kernel
theorem dX11_tellsSpeakersAndLengths_15 : decode cX11_tellsSpeakersAndLengths 15 = .ok (.iadd, 1) := by decide +kernel
theorem dX11_tellsSpeakersAndLengths_16 : decode cX11_tellsSpeakersAndLengths 16 = .ok (.invokevirtual 189, 3) := by decide +kernel
theorem dX11_tellsSpeakersAndLengths_19 : decode cX11_tellsSpeakersAndLengths 19 = .ok (.istore_n 3, 1) := by decide +kernel
theorem dX11_tellsSpeakersAndLengths_20 : decode cX11_tellsSpeakersAndLengths 20 = .ok (.aload_n 0, 1) := by decide +kernel
theorem dX11_tellsSpeakersAndLengths_21 : decode cX11_tellsSpeakersAndLengths 21 = .ok (.getfield 18, 3) := by decide +kernel
theorem dX11_tellsSpeakersAndLengths_24 : decode cX11_tellsSpeakersAndLengths 24 = .ok (.iconst 2, 1) := by decide +kernel
theorem dX11_tellsSpeakersAndLengths_25 : decode cX11_tellsSpeakersAndLengths 25 = .ok (.iload_n 2, 1) := by decide +kernel
theorem dX11_tellsSpeakersAndLengths_26 : decode cX11_tellsSpeakersAndLengths 26 = .ok (.imul, 1) := by decide +kernel
theorem dX11_tellsSpeakersAndLengths_27 : decode cX11_tellsSpeakersAndLengths 27 = .ok (.invokevirtual 189, 3) := by decide +kernel
theorem dX11_tellsSpeakersAndLengths_30 : decode cX11_tellsSpeakersAndLengths 30 = .ok (.invokestatic 126, 3) := by decide +kernel
theorem dX11_tellsSpeakersAndLengths_33 : decode cX11_tellsSpeakersAndLengths 33 = .ok (.ifCond .eq 14, 3) := by decide +kernel
theorem dX11_tellsSpeakersAndLengths_36 : decode cX11_tellsSpeakersAndLengths 36 = .ok (.iload_n 3, 1) := by decide +kernel
theorem dX11_tellsSpeakersAndLengths_37 : decode cX11_tellsSpeakersAndLengths 37 = .ok (.iconst 1, 1) := by decide +kernel
theorem dX11_tellsSpeakersAndLengths_38 : decode cX11_tellsSpeakersAndLengths 38 = .ok (.if_icmp .lt 9, 3) := by decide +kernel
theorem dX11_tellsSpeakersAndLengths_41 : decode cX11_tellsSpeakersAndLengths 41 = .ok (.iload_n 3, 1) := by decide +kernel
theorem dX11_tellsSpeakersAndLengths_42 : decode cX11_tellsSpeakersAndLengths 42 = .ok (.bipush 24, 2) := by decide +kernel
theorem dX11_tellsSpeakersAndLengths_44 : decode cX11_tellsSpeakersAndLengths 44 = .ok (.if_icmp .le 5, 3) := by decide +kernel
theorem dX11_tellsSpeakersAndLengths_47 : decode cX11_tellsSpeakersAndLengths 47 = .ok (.iconst 0, 1) := by decide +kernel
theorem dX11_tellsSpeakersAndLengths_48 : decode cX11_tellsSpeakersAndLengths 48 = .ok (.ireturn, 1) := by decide +kernel
theorem dX11_tellsSpeakersAndLengths_49 : decode cX11_tellsSpeakersAndLengths 49 = .ok (.iinc 2 1, 3) := by decide +kernel
theorem dX11_tellsSpeakersAndLengths_52 : decode cX11_tellsSpeakersAndLengths 52 = .ok (.goto (-50), 3) := by decide +kernel
theorem dX11_tellsSpeakersAndLengths_55 : decode cX11_tellsSpeakersAndLengths 55 = .ok (.iconst 1, 1) := by decide +kernel
theorem dX11_tellsSpeakersAndLengths_56 : decode cX11_tellsSpeakersAndLengths 56 = .ok (.ireturn, 1) := by decide +kernel
theorem dX11_standNow_0 : decode cX11_standNow 0 = .ok (.aload_n 0, 1) := by decide +kernel
theorem dX11_standNow_1 : decode cX11_standNow 1 = .ok (.getfield 31, 3) := by decide +kernel
theorem dX11_standNow_4 : decode cX11_standNow 4 = .ok (.aload_n 0, 1) := by decide +kernel
theorem dX11_standNow_5 : decode cX11_standNow 5 = .ok (.getfield 38, 3) := by decide +kernel
theorem dX11_standNow_8 : decode cX11_standNow 8 = .ok (.aload_n 0, 1) := by decide +kernel
theorem dX11_standNow_9 : decode cX11_standNow 9 = .ok (.getfield 38, 3) := by decide +kernel
theorem dX11_standNow_12 : decode cX11_standNow 12 = .ok (.getfield 157, 3) := by decide +kernel
theorem dX11_standNow_15 : decode cX11_standNow 15 = .ok (.iconst 1, 1) := by decide +kernel
theorem dX11_standNow_16 : decode cX11_standNow 16 = .ok (.isub, 1) := by decide +kernel
theorem dX11_standNow_17 : decode cX11_standNow 17 = .ok (.invokevirtual 170, 3) := by decide +kernel
theorem dX11_standNow_20 : decode cX11_standNow 20 = .ok (.aload_n 0, 1) := by decide +kernel
theorem dX11_standNow_21 : decode cX11_standNow 21 = .ok (.getfield 38, 3) := by decide +kernel
theorem dX11_standNow_24 : decode cX11_standNow 24 = .ok (.aload_n 0, 1) := by decide +kernel
theorem dX11_standNow_25 : decode cX11_standNow 25 = .ok (.getfield 38, 3) := by decide +kernel
theorem dX11_standNow_28 : decode cX11_standNow 28 = .ok (.getfield 157, 3) := by decide +kernel
theorem dX11_standNow_31 : decode cX11_standNow 31 = .ok (.iconst 2, 1) := by decide +kernel
theorem dX11_standNow_32 : decode cX11_standNow 32 = .ok (.isub, 1) := by decide +kernel
theorem dX11_standNow_33 : decode cX11_standNow 33 = .ok (.invokevirtual 170, 3) := by decide +kernel
theorem dX11_standNow_36 : decode cX11_standNow 36 = .ok (.aload_n 0, 1) := by decide +kernel
theorem dX11_standNow_37 : decode cX11_standNow 37 = .ok (.getfield 38, 3) := by decide +kernel
theorem dX11_standNow_40 : decode cX11_standNow 40 = .ok (.aload_n 0, 1) := by decide +kernel
theorem dX11_standNow_41 : decode cX11_standNow 41 = .ok (.getfield 38, 3) := by decide +kernel
theorem dX11_standNow_44 : decode cX11_standNow 44 = .ok (.getfield 157, 3) := by decide +kernel
theorem dX11_standNow_47 : decode cX11_standNow 47 = .ok (.iconst 1, 1) := by decide +kernel
theorem dX11_standNow_48 : decode cX11_standNow 48 = .ok (.isub, 1) := by decide +kernel
theorem dX11_standNow_49 : decode cX11_standNow 49 = .ok (.invokevirtual 164, 3) := by decide +kernel
theorem dX11_standNow_52 : decode cX11_standNow 52 = .ok (.aload_n 0, 1) := by decide +kernel
theorem dX11_standNow_53 : decode cX11_standNow 53 = .ok (.getfield 38, 3) := by decide +kernel
theorem dX11_standNow_56 : decode cX11_standNow 56 = .ok (.getfield 157, 3) := by decide +kernel
theorem dX11_standNow_59 : decode cX11_standNow 59 = .ok (.invokevirtual 284, 3) := by decide +kernel
theorem dX11_standNow_62 : decode cX11_standNow 62 = .ok (.return_, 1) := by decide +kernel
theorem dX11_payOf_0 : decode cX11_payOf 0 = .ok (.aload_n 0, 1) := by decide +kernel
theorem dX11_payOf_1 : decode cX11_payOf 1 = .ok (.getfield 31, 3) := by decide +kernel
theorem dX11_payOf_4 : decode cX11_payOf 4 = .ok (.aload_n 0, 1) := by decide +kernel
theorem dX11_payOf_5 : decode cX11_payOf 5 = .ok (.getfield 38, 3) := by decide +kernel
theorem dX11_payOf_8 : decode cX11_payOf 8 = .ok (.iload_n 1, 1) := by decide +kernel
theorem dX11_payOf_9 : decode cX11_payOf 9 = .ok (.iconst 1, 1) := by decide +kernel
theorem dX11_payOf_10 : decode cX11_payOf 10 = .ok (.isub, 1) := by decide +kernel
theorem dX11_payOf_11 : decode cX11_payOf 11 = .ok (.invokevirtual 170, 3) := by decide +kernel
theorem dX11_payOf_14 : decode cX11_payOf 14 = .ok (.aload_n 0, 1) := by decide +kernel
theorem dX11_payOf_15 : decode cX11_payOf 15 = .ok (.getfield 38, 3) := by decide +kernel
theorem dX11_payOf_18 : decode cX11_payOf 18 = .ok (.iload_n 1, 1) := by decide +kernel
theorem dX11_payOf_19 : decode cX11_payOf 19 = .ok (.iconst 2, 1) := by decide +kernel
theorem dX11_payOf_20 : decode cX11_payOf 20 = .ok (.isub, 1) := by decide +kernel
theorem dX11_payOf_21 : decode cX11_payOf 21 = .ok (.invokevirtual 170, 3) := by decide +kernel
theorem dX11_payOf_24 : decode cX11_payOf 24 = .ok (.aload_n 0, 1) := by decide +kernel
theorem dX11_payOf_25 : decode cX11_payOf 25 = .ok (.getfield 38, 3) := by decide +kernel
theorem dX11_payOf_28 : decode cX11_payOf 28 = .ok (.iload_n 1, 1) := by decide +kernel
theorem dX11_payOf_29 : decode cX11_payOf 29 = .ok (.iconst 1, 1) := by decide +kernel
theorem dX11_payOf_30 : decode cX11_payOf 30 = .ok (.isub, 1) := by decide +kernel
theorem dX11_payOf_31 : decode cX11_payOf 31 = .ok (.invokevirtual 164, 3) := by decide +kernel
theorem dX11_payOf_34 : decode cX11_payOf 34 = .ok (.iload_n 1, 1) := by decide +kernel
theorem dX11_payOf_35 : decode cX11_payOf 35 = .ok (.invokevirtual 284, 3) := by decide +kernel
theorem dX11_payOf_38 : decode cX11_payOf 38 = .ok (.aload_n 0, 1) := by decide +kernel
theorem dX11_payOf_39 : decode cX11_payOf 39 = .ok (.getfield 31, 3) := by decide +kernel
theorem dX11_payOf_42 : decode cX11_payOf 42 = .ok (.aload_n 0, 1) := by decide +kernel
theorem dX11_payOf_43 : decode cX11_payOf 43 = .ok (.getfield 38, 3) := by decide +kernel
theorem dX11_payOf_46 : decode cX11_payOf 46 = .ok (.iload_n 1, 1) := by decide +kernel
theorem dX11_payOf_47 : decode cX11_payOf 47 = .ok (.invokevirtual 164, 3) := by decide +kernel
theorem dX11_payOf_50 : decode cX11_payOf 50 = .ok (.aload_n 0, 1) := by decide +kernel
theorem dX11_payOf_51 : decode cX11_payOf 51 = .ok (.getfield 38, 3) := by decide +kernel
theorem dX11_payOf_54 : decode cX11_payOf 54 = .ok (.iload_n 1, 1) := by decide +kernel
theorem dX11_payOf_55 : decode cX11_payOf 55 = .ok (.invokevirtual 167, 3) := by decide +kernel
theorem dX11_payOf_58 : decode cX11_payOf 58 = .ok (.aload_n 0, 1) := by decide +kernel
theorem dX11_payOf_59 : decode cX11_payOf 59 = .ok (.getfield 38, 3) := by decide +kernel
theorem dX11_payOf_62 : decode cX11_payOf 62 = .ok (.iload_n 1, 1) := by decide +kernel
theorem dX11_payOf_63 : decode cX11_payOf 63 = .ok (.invokevirtual 170, 3) := by decide +kernel
theorem dX11_payOf_66 : decode cX11_payOf 66 = .ok (.invokevirtual 287, 3) := by decide +kernel
theorem dX11_payOf_69 : decode cX11_payOf 69 = .ok (.ireturn, 1) := by decide +kernel
theorem dX11_firstWrong_0 : decode cX11_firstWrong 0 = .ok (.aload_n 0, 1) := by decide +kernel
theorem dX11_firstWrong_1 : decode cX11_firstWrong 1 = .ok (.getfield 38, 3) := by decide +kernel
theorem dX11_firstWrong_4 : decode cX11_firstWrong 4 = .ok (.aload_n 0, 1) := by decide +kernel
theorem dX11_firstWrong_5 : decode cX11_firstWrong 5 = .ok (.getfield 38, 3) := by decide +kernel
theorem dX11_firstWrong_8 : decode cX11_firstWrong 8 = .ok (.getfield 157, 3) := by decide +kernel
theorem dX11_firstWrong_11 : decode cX11_firstWrong 11 = .ok (.iconst 1, 1) := by decide +kernel
theorem dX11_firstWrong_12 : decode cX11_firstWrong 12 = .ok (.isub, 1) := by decide +kernel
theorem dX11_firstWrong_13 : decode cX11_firstWrong 13 = .ok (.invokevirtual 170, 3) := by decide +kernel
theorem dX11_firstWrong_16 : decode cX11_firstWrong 16 = .ok (.istore_n 3, 1) := by decide +kernel
theorem dX11_firstWrong_17 : decode cX11_firstWrong 17 = .ok (.aload_n 0, 1) := by decide +kernel
theorem dX11_firstWrong_18 : decode cX11_firstWrong 18 = .ok (.getfield 38, 3) := by decide +kernel
theorem dX11_firstWrong_21 : decode cX11_firstWrong 21 = .ok (.aload_n 0, 1) := by decide +kernel
theorem dX11_firstWrong_22 : decode cX11_firstWrong 22 = .ok (.getfield 38, 3) := by decide +kernel
theorem dX11_firstWrong_25 : decode cX11_firstWrong 25 = .ok (.getfield 157, 3) := by decide +kernel
theorem dX11_firstWrong_28 : decode cX11_firstWrong 28 = .ok (.iconst 2, 1) := by decide +kernel
theorem dX11_firstWrong_29 : decode cX11_firstWrong 29 = .ok (.isub, 1) := by decide +kernel
theorem dX11_firstWrong_30 : decode cX11_firstWrong 30 = .ok (.invokevirtual 170, 3) := by decide +kernel
theorem dX11_firstWrong_33 : decode cX11_firstWrong 33 = .ok (.istore 4, 2) := by decide +kernel
theorem dX11_firstWrong_35 : decode cX11_firstWrong 35 = .ok (.aload_n 0, 1) := by decide +kernel
theorem dX11_firstWrong_36 : decode cX11_firstWrong 36 = .ok (.getfield 38, 3) := by decide +kernel
theorem dX11_firstWrong_39 : decode cX11_firstWrong 39 = .ok (.aload_n 0, 1) := by decide +kernel
theorem dX11_firstWrong_40 : decode cX11_firstWrong 40 = .ok (.getfield 38, 3) := by decide +kernel
theorem dX11_firstWrong_43 : decode cX11_firstWrong 43 = .ok (.getfield 157, 3) := by decide +kernel
theorem dX11_firstWrong_46 : decode cX11_firstWrong 46 = .ok (.iconst 1, 1) := by decide +kernel
theorem dX11_firstWrong_47 : decode cX11_firstWrong 47 = .ok (.isub, 1) := by decide +kernel
theorem dX11_firstWrong_48 : decode cX11_firstWrong 48 = .ok (.invokevirtual 164, 3) := by decide +kernel
theorem dX11_firstWrong_51 : decode cX11_firstWrong 51 = .ok (.istore 5, 2) := by decide +kernel
theorem dX11_firstWrong_53 : decode cX11_firstWrong 53 = .ok (.iconst 0, 1) := by decide +kernel
theorem dX11_firstWrong_54 : decode cX11_firstWrong 54 = .ok (.istore 6, 2) := by decide +kernel
theorem dX11_firstWrong_56 : decode cX11_firstWrong 56 = .ok (.iload 6, 2) := by decide +kernel
theorem dX11_firstWrong_58 : decode cX11_firstWrong 58 = .ok (.iload_n 2, 1) := by decide +kernel
theorem dX11_firstWrong_59 : decode cX11_firstWrong 59 = .ok (.if_icmp .ge 115, 3) := by decide +kernel
theorem dX11_firstWrong_62 : decode cX11_firstWrong 62 = .ok (.aload_n 0, 1) := by decide +kernel
theorem dX11_firstWrong_63 : decode cX11_firstWrong 63 = .ok (.getfield 18, 3) := by decide +kernel
theorem dX11_firstWrong_66 : decode cX11_firstWrong 66 = .ok (.iconst 3, 1) := by decide +kernel
theorem dX11_firstWrong_67 : decode cX11_firstWrong 67 = .ok (.iload 6, 2) := by decide +kernel
theorem dX11_firstWrong_69 : decode cX11_firstWrong 69 = .ok (.imul, 1) := by decide +kernel
theorem dX11_firstWrong_70 : decode cX11_firstWrong 70 = .ok (.invokevirtual 189, 3) := by decide +kernel
theorem dX11_firstWrong_73 : decode cX11_firstWrong 73 = .ok (.istore 7, 2) := by decide +kernel
theorem dX11_firstWrong_75 : decode cX11_firstWrong 75 = .ok (.aload_n 0, 1) := by decide +kernel
theorem dX11_firstWrong_76 : decode cX11_firstWrong 76 = .ok (.getfield 18, 3) := by decide +kernel
theorem dX11_firstWrong_79 : decode cX11_firstWrong 79 = .ok (.iconst 3, 1) := by decide +kernel
theorem dX11_firstWrong_80 : decode cX11_firstWrong 80 = .ok (.iload 6, 2) := by decide +kernel
theorem dX11_firstWrong_82 : decode cX11_firstWrong 82 = .ok (.imul, 1) := by decide +kernel
theorem dX11_firstWrong_83 : decode cX11_firstWrong 83 = .ok (.iconst 1, 1) := by decide +kernel
theorem dX11_firstWrong_84 : decode cX11_firstWrong 84 = .ok (.iadd, 1) := by decide +kernel
theorem dX11_firstWrong_85 : decode cX11_firstWrong 85 = .ok (.invokevirtual 189, 3) := by decide +kernel
theorem dX11_firstWrong_88 : decode cX11_firstWrong 88 = .ok (.istore 8, 2) := by decide +kernel
theorem dX11_firstWrong_90 : decode cX11_firstWrong 90 = .ok (.aload_n 0, 1) := by decide +kernel
theorem dX11_firstWrong_91 : decode cX11_firstWrong 91 = .ok (.getfield 18, 3) := by decide +kernel
theorem dX11_firstWrong_94 : decode cX11_firstWrong 94 = .ok (.iconst 3, 1) := by decide +kernel
theorem dX11_firstWrong_95 : decode cX11_firstWrong 95 = .ok (.iload 6, 2) := by decide +kernel
theorem dX11_firstWrong_97 : decode cX11_firstWrong 97 = .ok (.imul, 1) := by decide +kernel
theorem dX11_firstWrong_98 : decode cX11_firstWrong 98 = .ok (.iconst 2, 1) := by decide +kernel
theorem dX11_firstWrong_99 : decode cX11_firstWrong 99 = .ok (.iadd, 1) := by decide +kernel
theorem dX11_firstWrong_100 : decode cX11_firstWrong 100 = .ok (.invokevirtual 189, 3) := by decide +kernel
theorem dX11_firstWrong_103 : decode cX11_firstWrong 103 = .ok (.istore 9, 2) := by decide +kernel
theorem dX11_firstWrong_105 : decode cX11_firstWrong 105 = .ok (.aload_n 0, 1) := by decide +kernel
theorem dX11_firstWrong_106 : decode cX11_firstWrong 106 = .ok (.getfield 31, 3) := by decide +kernel
theorem dX11_firstWrong_109 : decode cX11_firstWrong 109 = .ok (.iload_n 3, 1) := by decide +kernel
theorem dX11_firstWrong_110 : decode cX11_firstWrong 110 = .ok (.iload 4, 2) := by decide +kernel
theorem dX11_firstWrong_112 : decode cX11_firstWrong 112 = .ok (.iload 5, 2) := by decide +kernel
theorem dX11_firstWrong_114 : decode cX11_firstWrong 114 = .ok (.aload_n 0, 1) := by decide +kernel
theorem dX11_firstWrong_115 : decode cX11_firstWrong 115 = .ok (.getfield 38, 3) := by decide +kernel
theorem dX11_firstWrong_118 : decode cX11_firstWrong 118 = .ok (.getfield 157, 3) := by decide +kernel
theorem dX11_firstWrong_121 : decode cX11_firstWrong 121 = .ok (.iload 6, 2) := by decide +kernel
theorem dX11_firstWrong_123 : decode cX11_firstWrong 123 = .ok (.iadd, 1) := by decide +kernel
theorem dX11_firstWrong_124 : decode cX11_firstWrong 124 = .ok (.invokevirtual 284, 3) := by decide +kernel
theorem dX11_firstWrong_127 : decode cX11_firstWrong 127 = .ok (.aload_n 0, 1) := by decide +kernel
theorem dX11_firstWrong_128 : decode cX11_firstWrong 128 = .ok (.getfield 31, 3) := by decide +kernel
theorem dX11_firstWrong_131 : decode cX11_firstWrong 131 = .ok (.iconst 1, 1) := by decide +kernel
theorem dX11_firstWrong_132 : decode cX11_firstWrong 132 = .ok (.iload_n 1, 1) := by decide +kernel
theorem dX11_firstWrong_133 : decode cX11_firstWrong 133 = .ok (.ishl, 1) := by decide +kernel
theorem dX11_firstWrong_134 : decode cX11_firstWrong 134 = .ok (.iload 7, 2) := by decide +kernel
theorem dX11_firstWrong_136 : decode cX11_firstWrong 136 = .ok (.iload 8, 2) := by decide +kernel
theorem dX11_firstWrong_138 : decode cX11_firstWrong 138 = .ok (.aload_n 0, 1) := by decide +kernel
theorem dX11_firstWrong_139 : decode cX11_firstWrong 139 = .ok (.getfield 31, 3) := by decide +kernel
theorem dX11_firstWrong_142 : decode cX11_firstWrong 142 = .ok (.iload 8, 2) := by decide +kernel
theorem dX11_firstWrong_144 : decode cX11_firstWrong 144 = .ok (.iload 9, 2) := by decide +kernel
theorem dX11_firstWrong_146 : decode cX11_firstWrong 146 = .ok (.invokevirtual 146, 3) := by decide +kernel
theorem dX11_firstWrong_149 : decode cX11_firstWrong 149 = .ok (.invokevirtual 153, 3) := by decide +kernel
theorem dX11_firstWrong_152 : decode cX11_firstWrong 152 = .ok (.ifCond .ne 6, 3) := by decide +kernel
theorem dX11_firstWrong_155 : decode cX11_firstWrong 155 = .ok (.iload 6, 2) := by decide +kernel
theorem dX11_firstWrong_157 : decode cX11_firstWrong 157 = .ok (.ireturn, 1) := by decide +kernel
theorem dX11_firstWrong_158 : decode cX11_firstWrong 158 = .ok (.iload_n 3, 1) := by decide +kernel
theorem dX11_firstWrong_159 : decode cX11_firstWrong 159 = .ok (.istore 4, 2) := by decide +kernel
theorem dX11_firstWrong_161 : decode cX11_firstWrong 161 = .ok (.iload 9, 2) := by decide +kernel
theorem dX11_firstWrong_163 : decode cX11_firstWrong 163 = .ok (.istore_n 3, 1) := by decide +kernel
theorem dX11_firstWrong_164 : decode cX11_firstWrong 164 = .ok (.iload 7, 2) := by decide +kernel
theorem dX11_firstWrong_166 : decode cX11_firstWrong 166 = .ok (.istore 5, 2) := by decide +kernel
theorem dX11_firstWrong_168 : decode cX11_firstWrong 168 = .ok (.iinc 6 1, 3) := by decide +kernel
theorem dX11_firstWrong_171 : decode cX11_firstWrong 171 = .ok (.goto (-115), 3) := by decide +kernel
theorem dX11_firstWrong_174 : decode cX11_firstWrong 174 = .ok (.iload_n 2, 1) := by decide +kernel
theorem dX11_firstWrong_175 : decode cX11_firstWrong 175 = .ok (.ireturn, 1) := by decide +kernel
theorem dX11_heardAnswer_0 : decode cX11_heardAnswer 0 = .ok (.lconst 1, 1) := by decide +kernel
theorem dX11_heardAnswer_1 : decode cX11_heardAnswer 1 = .ok (.lstore_n 3, 1) := by decide +kernel
theorem dX11_heardAnswer_2 : decode cX11_heardAnswer 2 = .ok (.iconst 0, 1) := by decide +kernel
theorem dX11_heardAnswer_3 : decode cX11_heardAnswer 3 = .ok (.istore 5, 2) := by decide +kernel
theorem dX11_heardAnswer_5 : decode cX11_heardAnswer 5 = .ok (.aload_n 0, 1) := by decide +kernel
theorem dX11_heardAnswer_6 : decode cX11_heardAnswer 6 = .ok (.getfield 38, 3) := by decide +kernel
theorem dX11_heardAnswer_9 : decode cX11_heardAnswer 9 = .ok (.aload_n 0, 1) := by decide +kernel
theorem dX11_heardAnswer_10 : decode cX11_heardAnswer 10 = .ok (.getfield 38, 3) := by decide +kernel
theorem dX11_heardAnswer_13 : decode cX11_heardAnswer 13 = .ok (.getfield 157, 3) := by decide +kernel
theorem dX11_heardAnswer_16 : decode cX11_heardAnswer 16 = .ok (.iconst 1, 1) := by decide +kernel
theorem dX11_heardAnswer_17 : decode cX11_heardAnswer 17 = .ok (.isub, 1) := by decide +kernel
theorem dX11_heardAnswer_18 : decode cX11_heardAnswer 18 = .ok (.invokevirtual 170, 3) := by decide +kernel
theorem dX11_heardAnswer_21 : decode cX11_heardAnswer 21 = .ok (.istore 6, 2) := by decide +kernel
theorem dX11_heardAnswer_23 : decode cX11_heardAnswer 23 = .ok (.aload_n 0, 1) := by decide +kernel
theorem dX11_heardAnswer_24 : decode cX11_heardAnswer 24 = .ok (.getfield 38, 3) := by decide +kernel
theorem dX11_heardAnswer_27 : decode cX11_heardAnswer 27 = .ok (.aload_n 0, 1) := by decide +kernel
theorem dX11_heardAnswer_28 : decode cX11_heardAnswer 28 = .ok (.getfield 38, 3) := by decide +kernel
theorem dX11_heardAnswer_31 : decode cX11_heardAnswer 31 = .ok (.getfield 157, 3) := by decide +kernel
theorem dX11_heardAnswer_34 : decode cX11_heardAnswer 34 = .ok (.iconst 2, 1) := by decide +kernel
theorem dX11_heardAnswer_35 : decode cX11_heardAnswer 35 = .ok (.isub, 1) := by decide +kernel
theorem dX11_heardAnswer_36 : decode cX11_heardAnswer 36 = .ok (.invokevirtual 170, 3) := by decide +kernel
theorem dX11_heardAnswer_39 : decode cX11_heardAnswer 39 = .ok (.istore 7, 2) := by decide +kernel
theorem dX11_heardAnswer_41 : decode cX11_heardAnswer 41 = .ok (.aload_n 0, 1) := by decide +kernel
theorem dX11_heardAnswer_42 : decode cX11_heardAnswer 42 = .ok (.getfield 38, 3) := by decide +kernel
theorem dX11_heardAnswer_45 : decode cX11_heardAnswer 45 = .ok (.aload_n 0, 1) := by decide +kernel
theorem dX11_heardAnswer_46 : decode cX11_heardAnswer 46 = .ok (.getfield 38, 3) := by decide +kernel
theorem dX11_heardAnswer_49 : decode cX11_heardAnswer 49 = .ok (.getfield 157, 3) := by decide +kernel
theorem dX11_heardAnswer_52 : decode cX11_heardAnswer 52 = .ok (.iconst 1, 1) := by decide +kernel
theorem dX11_heardAnswer_53 : decode cX11_heardAnswer 53 = .ok (.isub, 1) := by decide +kernel
theorem dX11_heardAnswer_54 : decode cX11_heardAnswer 54 = .ok (.invokevirtual 164, 3) := by decide +kernel
theorem dX11_heardAnswer_57 : decode cX11_heardAnswer 57 = .ok (.istore 8, 2) := by decide +kernel
theorem dX11_heardAnswer_59 : decode cX11_heardAnswer 59 = .ok (.iconst 0, 1) := by decide +kernel
theorem dX11_heardAnswer_60 : decode cX11_heardAnswer 60 = .ok (.istore 9, 2) := by decide +kernel
theorem dX11_heardAnswer_62 : decode cX11_heardAnswer 62 = .ok (.iload 9, 2) := by decide +kernel
theorem dX11_heardAnswer_64 : decode cX11_heardAnswer 64 = .ok (.iload_n 1, 1) := by decide +kernel
theorem dX11_heardAnswer_65 : decode cX11_heardAnswer 65 = .ok (.if_icmp .ge 119, 3) := by decide +kernel
theorem dX11_heardAnswer_68 : decode cX11_heardAnswer 68 = .ok (.lload_n 3, 1) := by decide +kernel
theorem dX11_heardAnswer_69 : decode cX11_heardAnswer 69 = .ok (.lconst 0, 1) := by decide +kernel
theorem dX11_heardAnswer_70 : decode cX11_heardAnswer 70 = .ok (.lcmp, 1) := by decide +kernel
theorem dX11_heardAnswer_71 : decode cX11_heardAnswer 71 = .ok (.ifCond .le 113, 3) := by decide +kernel
theorem dX11_heardAnswer_74 : decode cX11_heardAnswer 74 = .ok (.aload_n 0, 1) := by decide +kernel
theorem dX11_heardAnswer_75 : decode cX11_heardAnswer 75 = .ok (.getfield 18, 3) := by decide +kernel
theorem dX11_heardAnswer_78 : decode cX11_heardAnswer 78 = .ok (.iconst 2, 1) := by decide +kernel
theorem dX11_heardAnswer_79 : decode cX11_heardAnswer 79 = .ok (.iload 9, 2) := by decide +kernel
theorem dX11_heardAnswer_81 : decode cX11_heardAnswer 81 = .ok (.imul, 1) := by decide +kernel
theorem dX11_heardAnswer_82 : decode cX11_heardAnswer 82 = .ok (.invokevirtual 189, 3) := by decide +kernel
theorem dX11_heardAnswer_85 : decode cX11_heardAnswer 85 = .ok (.istore 10, 2) := by decide +kernel
theorem dX11_heardAnswer_87 : decode cX11_heardAnswer 87 = .ok (.aload_n 0, 1) := by decide +kernel
theorem dX11_heardAnswer_88 : decode cX11_heardAnswer 88 = .ok (.getfield 18, 3) := by decide +kernel
theorem dX11_heardAnswer_91 : decode cX11_heardAnswer 91 = .ok (.iconst 2, 1) := by decide +kernel
theorem dX11_heardAnswer_92 : decode cX11_heardAnswer 92 = .ok (.iload 9, 2) := by decide +kernel
theorem dX11_heardAnswer_94 : decode cX11_heardAnswer 94 = .ok (.imul, 1) := by decide +kernel
theorem dX11_heardAnswer_95 : decode cX11_heardAnswer 95 = .ok (.iconst 1, 1) := by decide +kernel
theorem dX11_heardAnswer_96 : decode cX11_heardAnswer 96 = .ok (.iadd, 1) := by decide +kernel
theorem dX11_heardAnswer_97 : decode cX11_heardAnswer 97 = .ok (.invokevirtual 189, 3) := by decide +kernel
theorem dX11_heardAnswer_100 : decode cX11_heardAnswer 100 = .ok (.istore 11, 2) := by decide +kernel
theorem dX11_heardAnswer_102 : decode cX11_heardAnswer 102 = .ok (.aload_n 0, 1) := by decide +kernel
theorem dX11_heardAnswer_103 : decode cX11_heardAnswer 103 = .ok (.getfield 31, 3) := by decide +kernel
theorem dX11_heardAnswer_106 : decode cX11_heardAnswer 106 = .ok (.iload 6, 2) := by decide +kernel
theorem dX11_heardAnswer_108 : decode cX11_heardAnswer 108 = .ok (.iload 7, 2) := by decide +kernel
theorem dX11_heardAnswer_110 : decode cX11_heardAnswer 110 = .ok (.iload 8, 2) := by decide +kernel
theorem dX11_heardAnswer_112 : decode cX11_heardAnswer 112 = .ok (.aload_n 0, 1) := by decide +kernel
theorem dX11_heardAnswer_113 : decode cX11_heardAnswer 113 = .ok (.getfield 38, 3) := by decide +kernel
theorem dX11_heardAnswer_116 : decode cX11_heardAnswer 116 = .ok (.getfield 157, 3) := by decide +kernel
theorem dX11_heardAnswer_119 : decode cX11_heardAnswer 119 = .ok (.iload 9, 2) := by decide +kernel
theorem dX11_heardAnswer_121 : decode cX11_heardAnswer 121 = .ok (.iadd, 1) := by decide +kernel
theorem dX11_heardAnswer_122 : decode cX11_heardAnswer 122 = .ok (.invokevirtual 284, 3) := by decide +kernel
theorem dX11_heardAnswer_125 : decode cX11_heardAnswer 125 = .ok (.aload_n 0, 1) := by decide +kernel
theorem dX11_heardAnswer_126 : decode cX11_heardAnswer 126 = .ok (.getfield 31, 3) := by decide +kernel
theorem dX11_heardAnswer_129 : decode cX11_heardAnswer 129 = .ok (.iload 10, 2) := by decide +kernel
theorem dX11_heardAnswer_131 : decode cX11_heardAnswer 131 = .ok (.iload 11, 2) := by decide +kernel
theorem dX11_heardAnswer_133 : decode cX11_heardAnswer 133 = .ok (.invokevirtual 290, 3) := by decide +kernel
theorem dX11_heardAnswer_136 : decode cX11_heardAnswer 136 = .ok (.istore 12, 2) := by decide +kernel
theorem dX11_heardAnswer_138 : decode cX11_heardAnswer 138 = .ok (.lload_n 3, 1) := by decide +kernel
theorem dX11_heardAnswer_139 : decode cX11_heardAnswer 139 = .ok (.iload 12, 2) := by decide +kernel
theorem dX11_heardAnswer_141 : decode cX11_heardAnswer 141 = .ok (.invokestatic 118, 3) := by decide +kernel
theorem dX11_heardAnswer_144 : decode cX11_heardAnswer 144 = .ok (.i2l, 1) := by decide +kernel
theorem dX11_heardAnswer_145 : decode cX11_heardAnswer 145 = .ok (.lmul, 1) := by decide +kernel
theorem dX11_heardAnswer_146 : decode cX11_heardAnswer 146 = .ok (.lstore_n 3, 1) := by decide +kernel
theorem dX11_heardAnswer_147 : decode cX11_heardAnswer 147 = .ok (.iload_n 2, 1) := by decide +kernel
theorem dX11_heardAnswer_148 : decode cX11_heardAnswer 148 = .ok (.iload 9, 2) := by decide +kernel
theorem dX11_heardAnswer_150 : decode cX11_heardAnswer 150 = .ok (.if_icmp .eq 12, 3) := by decide +kernel
theorem dX11_heardAnswer_153 : decode cX11_heardAnswer 153 = .ok (.iload_n 2, 1) := by decide +kernel
theorem dX11_heardAnswer_154 : decode cX11_heardAnswer 154 = .ok (.bipush 10, 2) := by decide +kernel
theorem dX11_heardAnswer_156 : decode cX11_heardAnswer 156 = .ok (.iload 9, 2) := by decide +kernel
theorem dX11_heardAnswer_158 : decode cX11_heardAnswer 158 = .ok (.iadd, 1) := by decide +kernel
theorem dX11_heardAnswer_159 : decode cX11_heardAnswer 159 = .ok (.if_icmp .ne 7, 3) := by decide +kernel
theorem dX11_heardAnswer_162 : decode cX11_heardAnswer 162 = .ok (.iload 12, 2) := by decide +kernel
theorem dX11_heardAnswer_164 : decode cX11_heardAnswer 164 = .ok (.istore 5, 2) := by decide +kernel
theorem dX11_heardAnswer_166 : decode cX11_heardAnswer 166 = .ok (.iload 6, 2) := by decide +kernel
theorem dX11_heardAnswer_168 : decode cX11_heardAnswer 168 = .ok (.istore 7, 2) := by decide +kernel
theorem dX11_heardAnswer_170 : decode cX11_heardAnswer 170 = .ok (.iload 11, 2) := by decide +kernel
theorem dX11_heardAnswer_172 : decode cX11_heardAnswer 172 = .ok (.istore 6, 2) := by decide +kernel
theorem dX11_heardAnswer_174 : decode cX11_heardAnswer 174 = .ok (.iload 10, 2) := by decide +kernel
theorem dX11_heardAnswer_176 : decode cX11_heardAnswer 176 = .ok (.istore 8, 2) := by decide +kernel
theorem dX11_heardAnswer_178 : decode cX11_heardAnswer 178 = .ok (.iinc 9 1, 3) := by decide +kernel
theorem dX11_heardAnswer_181 : decode cX11_heardAnswer 181 = .ok (.goto (-119), 3) := by decide +kernel
theorem dX11_heardAnswer_184 : decode cX11_heardAnswer 184 = .ok (.iload_n 2, 1) := by decide +kernel
theorem dX11_heardAnswer_185 : decode cX11_heardAnswer 185 = .ok (.iconst (-1), 1) := by decide +kernel
theorem dX11_heardAnswer_186 : decode cX11_heardAnswer 186 = .ok (.if_icmp .ne 5, 3) := by decide +kernel
theorem dX11_heardAnswer_189 : decode cX11_heardAnswer 189 = .ok (.lload_n 3, 1) := by decide +kernel
theorem dX11_heardAnswer_190 : decode cX11_heardAnswer 190 = .ok (.lreturn, 1) := by decide +kernel
theorem dX11_heardAnswer_191 : decode cX11_heardAnswer 191 = .ok (.iload_n 2, 1) := by decide +kernel
theorem dX11_heardAnswer_192 : decode cX11_heardAnswer 192 = .ok (.bipush 10, 2) := by decide +kernel
theorem dX11_heardAnswer_194 : decode cX11_heardAnswer 194 = .ok (.if_icmp .lt 17, 3) := by decide +kernel
theorem dX11_heardAnswer_197 : decode cX11_heardAnswer 197 = .ok (.lload_n 3, 1) := by decide +kernel
theorem dX11_heardAnswer_198 : decode cX11_heardAnswer 198 = .ok (.lconst 0, 1) := by decide +kernel
theorem dX11_heardAnswer_199 : decode cX11_heardAnswer 199 = .ok (.lcmp, 1) := by decide +kernel
theorem dX11_heardAnswer_200 : decode cX11_heardAnswer 200 = .ok (.ifCond .ne 7, 3) := by decide +kernel
theorem dX11_heardAnswer_203 : decode cX11_heardAnswer 203 = .ok (.lconst 0, 1) := by decide +kernel
theorem dX11_heardAnswer_204 : decode cX11_heardAnswer 204 = .ok (.goto 6, 3) := by decide +kernel
theorem dX11_heardAnswer_207 : decode cX11_heardAnswer 207 = .ok (.iload 5, 2) := by decide +kernel
theorem dX11_heardAnswer_209 : decode cX11_heardAnswer 209 = .ok (.i2l, 1) := by decide +kernel
theorem dX11_heardAnswer_210 : decode cX11_heardAnswer 210 = .ok (.lreturn, 1) := by decide +kernel
theorem dX11_heardAnswer_211 : decode cX11_heardAnswer 211 = .ok (.lload_n 3, 1) := by decide +kernel
theorem dX11_heardAnswer_212 : decode cX11_heardAnswer 212 = .ok (.lconst 0, 1) := by decide +kernel
theorem dX11_heardAnswer_213 : decode cX11_heardAnswer 213 = .ok (.lcmp, 1) := by decide +kernel
theorem dX11_heardAnswer_214 : decode cX11_heardAnswer 214 = .ok (.ifCond .ne 9, 3) := by decide +kernel
theorem dX11_heardAnswer_217 : decode cX11_heardAnswer 217 = .ok (.ldc2_w 293, 3) := by decide +kernel
theorem dX11_heardAnswer_220 : decode cX11_heardAnswer 220 = .ok (.goto 10, 3) := by decide +kernel
theorem dX11_heardAnswer_223 : decode cX11_heardAnswer 223 = .ok (.iload 5, 2) := by decide +kernel
theorem dX11_heardAnswer_225 : decode cX11_heardAnswer 225 = .ok (.iconst 0, 1) := by decide +kernel
theorem dX11_heardAnswer_226 : decode cX11_heardAnswer 226 = .ok (.invokestatic 295, 3) := by decide +kernel
theorem dX11_heardAnswer_229 : decode cX11_heardAnswer 229 = .ok (.i2l, 1) := by decide +kernel
theorem dX11_heardAnswer_230 : decode cX11_heardAnswer 230 = .ok (.lreturn, 1) := by decide +kernel
theorem dX11_drawOne_0 : decode cX11_drawOne 0 = .ok (.aload_n 0, 1) := by decide +kernel
theorem dX11_drawOne_1 : decode cX11_drawOne 1 = .ok (.getfield 88, 3) := by decide +kernel
theorem dX11_drawOne_4 : decode cX11_drawOne 4 = .ok (.bipush 6, 2) := by decide +kernel
theorem dX11_drawOne_6 : decode cX11_drawOne 6 = .ok (.irem, 1) := by decide +kernel
theorem dX11_drawOne_7 : decode cX11_drawOne 7 = .ok (.istore_n 1, 1) := by decide +kernel
theorem dX11_drawOne_8 : decode cX11_drawOne 8 = .ok (.aload_n 0, 1) := by decide +kernel
theorem dX11_drawOne_9 : decode cX11_drawOne 9 = .ok (.getfield 88, 3) := by decide +kernel
theorem dX11_drawOne_12 : decode cX11_drawOne 12 = .ok (.bipush 6, 2) := by decide +kernel
theorem dX11_drawOne_14 : decode cX11_drawOne 14 = .ok (.idiv, 1) := by decide +kernel
theorem dX11_drawOne_15 : decode cX11_drawOne 15 = .ok (.bipush 12, 2) := by decide +kernel
theorem dX11_drawOne_17 : decode cX11_drawOne 17 = .ok (.irem, 1) := by decide +kernel
theorem dX11_drawOne_18 : decode cX11_drawOne 18 = .ok (.istore_n 2, 1) := by decide +kernel
theorem dX11_drawOne_19 : decode cX11_drawOne 19 = .ok (.aload_n 0, 1) := by decide +kernel
theorem dX11_drawOne_20 : decode cX11_drawOne 20 = .ok (.invokevirtual 150, 3) := by decide +kernel
theorem dX11_drawOne_23 : decode cX11_drawOne 23 = .ok (.aload_n 0, 1) := by decide +kernel
theorem dX11_drawOne_24 : decode cX11_drawOne 24 = .ok (.getfield 31, 3) := by decide +kernel
theorem dX11_drawOne_27 : decode cX11_drawOne 27 = .ok (.iconst 1, 1) := by decide +kernel
theorem dX11_drawOne_28 : decode cX11_drawOne 28 = .ok (.iload_n 1, 1) := by decide +kernel
theorem dX11_drawOne_29 : decode cX11_drawOne 29 = .ok (.iload_n 2, 1) := by decide +kernel
theorem dX11_drawOne_30 : decode cX11_drawOne 30 = .ok (.aload_n 0, 1) := by decide +kernel
theorem dX11_drawOne_31 : decode cX11_drawOne 31 = .ok (.getfield 31, 3) := by decide +kernel
theorem dX11_drawOne_34 : decode cX11_drawOne 34 = .ok (.iload_n 2, 1) := by decide +kernel
theorem dX11_drawOne_35 : decode cX11_drawOne 35 = .ok (.invokevirtual 123, 3) := by decide +kernel
theorem dX11_drawOne_38 : decode cX11_drawOne 38 = .ok (.invokevirtual 153, 3) := by decide +kernel
theorem dX11_drawOne_41 : decode cX11_drawOne 41 = .ok (.istore_n 3, 1) := by decide +kernel
theorem dX11_drawOne_42 : decode cX11_drawOne 42 = .ok (.iload_n 3, 1) := by decide +kernel
theorem dX11_drawOne_43 : decode cX11_drawOne 43 = .ok (.invokestatic 118, 3) := by decide +kernel
theorem dX11_drawOne_46 : decode cX11_drawOne 46 = .ok (.istore 4, 2) := by decide +kernel
theorem dX11_drawOne_48 : decode cX11_drawOne 48 = .ok (.iload 4, 2) := by decide +kernel
theorem dX11_drawOne_50 : decode cX11_drawOne 50 = .ok (.ifCond .eq 16, 3) := by decide +kernel
theorem dX11_drawOne_53 : decode cX11_drawOne 53 = .ok (.aload_n 0, 1) := by decide +kernel
theorem dX11_drawOne_54 : decode cX11_drawOne 54 = .ok (.getfield 38, 3) := by decide +kernel
theorem dX11_drawOne_57 : decode cX11_drawOne 57 = .ok (.getfield 157, 3) := by decide +kernel
theorem dX11_drawOne_60 : decode cX11_drawOne 60 = .ok (.sipush 200, 3) := by decide +kernel
theorem dX11_drawOne_63 : decode cX11_drawOne 63 = .ok (.if_icmp .lt 5, 3) := by decide +kernel
theorem dX11_drawOne_66 : decode cX11_drawOne 66 = .ok (.iconst 0, 1) := by decide +kernel
theorem dX11_drawOne_67 : decode cX11_drawOne 67 = .ok (.ireturn, 1) := by decide +kernel
theorem dX11_drawOne_68 : decode cX11_drawOne 68 = .ok (.aload_n 0, 1) := by decide +kernel
theorem dX11_drawOne_69 : decode cX11_drawOne 69 = .ok (.getfield 38, 3) := by decide +kernel
theorem dX11_drawOne_72 : decode cX11_drawOne 72 = .ok (.iload_n 1, 1) := by decide +kernel
theorem dX11_drawOne_73 : decode cX11_drawOne 73 = .ok (.iload_n 2, 1) := by decide +kernel
theorem dX11_drawOne_74 : decode cX11_drawOne 74 = .ok (.iload_n 3, 1) := by decide +kernel
theorem dX11_drawOne_75 : decode cX11_drawOne 75 = .ok (.aload_n 0, 1) := by decide +kernel
theorem dX11_drawOne_76 : decode cX11_drawOne 76 = .ok (.getfield 88, 3) := by decide +kernel
theorem dX11_drawOne_79 : decode cX11_drawOne 79 = .ok (.bipush 72, 2) := by decide +kernel
theorem dX11_drawOne_81 : decode cX11_drawOne 81 = .ok (.idiv, 1) := by decide +kernel
theorem dX11_drawOne_82 : decode cX11_drawOne 82 = .ok (.iload 4, 2) := by decide +kernel
theorem dX11_drawOne_84 : decode cX11_drawOne 84 = .ok (.irem, 1) := by decide +kernel
theorem dX11_drawOne_85 : decode cX11_drawOne 85 = .ok (.invokestatic 295, 3) := by decide +kernel
theorem dX11_drawOne_88 : decode cX11_drawOne 88 = .ok (.invokevirtual 160, 3) := by decide +kernel
theorem dX11_drawOne_91 : decode cX11_drawOne 91 = .ok (.iconst 1, 1) := by decide +kernel
theorem dX11_drawOne_92 : decode cX11_drawOne 92 = .ok (.ireturn, 1) := by decide +kernel
theorem dX11_placeOfBit_0 : decode cX11_placeOfBit 0 = .ok (.iload_n 1, 1) := by decide +kernel
theorem dX11_placeOfBit_1 : decode cX11_placeOfBit 1 = .ok (.istore_n 2, 1) := by decide +kernel
theorem dX11_placeOfBit_2 : decode cX11_placeOfBit 2 = .ok (.iconst 0, 1) := by decide +kernel
theorem dX11_placeOfBit_3 : decode cX11_placeOfBit 3 = .ok (.istore_n 3, 1) := by decide +kernel
theorem dX11_placeOfBit_4 : decode cX11_placeOfBit 4 = .ok (.iload_n 3, 1) := by decide +kernel
theorem dX11_placeOfBit_5 : decode cX11_placeOfBit 5 = .ok (.bipush 25, 2) := by decide +kernel
theorem dX11_placeOfBit_7 : decode cX11_placeOfBit 7 = .ok (.if_icmp .ge 26, 3) := by decide +kernel
theorem dX11_placeOfBit_10 : decode cX11_placeOfBit 10 = .ok (.iload_n 0, 1) := by decide +kernel
theorem dX11_placeOfBit_11 : decode cX11_placeOfBit 11 = .ok (.iload_n 3, 1) := by decide +kernel
theorem dX11_placeOfBit_12 : decode cX11_placeOfBit 12 = .ok (.ishr, 1) := by decide +kernel
theorem dX11_placeOfBit_13 : decode cX11_placeOfBit 13 = .ok (.iconst 1, 1) := by decide +kernel
theorem dX11_placeOfBit_14 : decode cX11_placeOfBit 14 = .ok (.iand, 1) := by decide +kernel
theorem dX11_placeOfBit_15 : decode cX11_placeOfBit 15 = .ok (.ifCond .eq 12, 3) := by decide +kernel
theorem dX11_placeOfBit_18 : decode cX11_placeOfBit 18 = .ok (.iload_n 2, 1) := by decide +kernel
theorem dX11_placeOfBit_19 : decode cX11_placeOfBit 19 = .ok (.ifCond .ne 5, 3) := by decide +kernel
theorem dX11_placeOfBit_22 : decode cX11_placeOfBit 22 = .ok (.iload_n 3, 1) := by decide +kernel
theorem dX11_placeOfBit_23 : decode cX11_placeOfBit 23 = .ok (.ireturn, 1) := by decide +kernel
theorem dX11_placeOfBit_24 : decode cX11_placeOfBit 24 = .ok (.iinc 2 (-1), 3) := by decide +kernel
theorem dX11_placeOfBit_27 : decode cX11_placeOfBit 27 = .ok (.iinc 3 1, 3) := by decide +kernel
theorem dX11_placeOfBit_30 : decode cX11_placeOfBit 30 = .ok (.goto (-26), 3) := by decide +kernel
theorem dX11_placeOfBit_33 : decode cX11_placeOfBit 33 = .ok (.iconst (-1), 1) := by decide +kernel
theorem dX11_placeOfBit_34 : decode cX11_placeOfBit 34 = .ok (.ireturn, 1) := by decide +kernel
