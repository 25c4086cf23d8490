theorem dX12_has_0 : decode cX12_has 0 = .ok (.iload_n 0, 1) := by decide +kernel
theorem dX12_has_1 : decode cX12_has 1 = .ok (.iload_n 1, 1) := by decide +kernel
theorem dX12_has_2 : decode cX12_has 2 = .ok (.ishr, 1) := by decide +kernel
theorem dX12_has_3 : decode cX12_has 3 = .ok (.iconst 1, 1) := by decide +kernel
theorem dX12_has_4 : decode cX12_has 4 = .ok (.iand, 1) := by decide +kernel
theorem dX12_has_5 : decode cX12_has 5 = .ok (.iconst 1, 1) := by decide +kernel
theorem dX12_has_6 : decode cX12_has 6 = .ok (.if_icmp .ne 7, 3) := by decide +kernel
theorem dX12_has_9 : decode cX12_has 9 = .ok (.iconst 1, 1) := by decide +kernel
theorem dX12_has_10 : decode cX12_has 10 = .ok (.goto 4, 3) := by decide +kernel
theorem dX12_has_13 : decode cX12_has 13 = .ok (.iconst 0, 1) := by decide +kernel
theorem dX12_has_14 : decode cX12_has 14 = .ok (.ireturn, 1) := by decide +kernel
theorem dX12_feed_0 : decode cX12_feed 0 = .ok (.aload_n 0, 1) := by decide +kernel
theorem dX12_feed_1 : decode cX12_feed 1 = .ok (.getfield 157, 3) := by decide +kernel
theorem dX12_feed_4 : decode cX12_feed 4 = .ok (.bipush 20, 2) := by decide +kernel
theorem dX12_feed_6 : decode cX12_feed 6 = .ok (.iadd, 1) := by decide +kernel
theorem dX12_feed_7 : decode cX12_feed 7 = .ok (.sipush 220, 3) := by decide +kernel
theorem dX12_feed_10 : decode cX12_feed 10 = .ok (.if_icmp .le 5, 3) := by decide +kernel
theorem dX12_feed_13 : decode cX12_feed 13 = .ok (.iconst (-1), 1) := by decide +kernel
theorem dX12_feed_14 : decode cX12_feed 14 = .ok (.ireturn, 1) := by decide +kernel
theorem dX12_feed_15 : decode cX12_feed 15 = .ok (.aload_n 0, 1) := by decide +kernel
theorem dX12_feed_16 : decode cX12_feed 16 = .ok (.iload_n 1, 1) := by decide +kernel
theorem dX12_feed_17 : decode cX12_feed 17 = .ok (.invokevirtual 160, 3) := by decide +kernel
theorem dX12_feed_20 : decode cX12_feed 20 = .ok (.aload_n 0, 1) := by decide +kernel
theorem dX12_feed_21 : decode cX12_feed 21 = .ok (.iload_n 2, 1) := by decide +kernel
theorem dX12_feed_22 : decode cX12_feed 22 = .ok (.invokevirtual 160, 3) := by decide +kernel
theorem dX12_feed_25 : decode cX12_feed 25 = .ok (.aload_n 0, 1) := by decide +kernel
theorem dX12_feed_26 : decode cX12_feed 26 = .ok (.iload_n 3, 1) := by decide +kernel
theorem dX12_feed_27 : decode cX12_feed 27 = .ok (.invokevirtual 160, 3) := by decide +kernel
theorem dX12_feed_30 : decode cX12_feed 30 = .ok (.aload_n 0, 1) := by decide +kernel
theorem dX12_feed_31 : decode cX12_feed 31 = .ok (.iload 4, 2) := by decide +kernel
theorem dX12_feed_33 : decode cX12_feed 33 = .ok (.invokevirtual 160, 3) := by decide +kernel
theorem dX12_feed_36 : decode cX12_feed 36 = .ok (.aload_n 0, 1) := by decide +kernel
theorem dX12_feed_37 : decode cX12_feed 37 = .ok (.iload 5, 2) := by decide +kernel
theorem dX12_feed_39 : decode cX12_feed 39 = .ok (.invokevirtual 160, 3) := by decide +kernel
theorem dX12_feed_42 : decode cX12_feed 42 = .ok (.aload_n 0, 1) := by decide +kernel
theorem dX12_feed_43 : decode cX12_feed 43 = .ok (.getfield 157, 3) := by decide +kernel
theorem dX12_feed_46 : decode cX12_feed 46 = .ok (.ireturn, 1) := by decide +kernel
theorem dX12_byteAt_0 : decode cX12_byteAt 0 = .ok (.aload_n 0, 1) := by decide +kernel
theorem dX12_byteAt_1 : decode cX12_byteAt 1 = .ok (.getfield 7, 3) := by decide +kernel
theorem dX12_byteAt_4 : decode cX12_byteAt 4 = .ok (.iload_n 1, 1) := by decide +kernel
theorem dX12_byteAt_5 : decode cX12_byteAt 5 = .ok (.baload, 1) := by decide +kernel
theorem dX12_byteAt_6 : decode cX12_byteAt 6 = .ok (.sipush 255, 3) := by decide +kernel
theorem dX12_byteAt_9 : decode cX12_byteAt 9 = .ok (.iand, 1) := by decide +kernel
theorem dX12_byteAt_10 : decode cX12_byteAt 10 = .ok (.ireturn, 1) := by decide +kernel
theorem dX12_here_0 : decode cX12_here 0 = .ok (.aload_n 0, 1) := by decide +kernel
theorem dX12_here_1 : decode cX12_here 1 = .ok (.getfield 164, 3) := by decide +kernel
theorem dX12_here_4 : decode cX12_here 4 = .ok (.aload_n 0, 1) := by decide +kernel
theorem dX12_here_5 : decode cX12_here 5 = .ok (.getfield 167, 3) := by decide +kernel
theorem dX12_here_8 : decode cX12_here 8 = .ok (.if_icmp .ge 19, 3) := by decide +kernel
theorem dX12_here_11 : decode cX12_here 11 = .ok (.aload_n 0, 1) := by decide +kernel
theorem dX12_here_12 : decode cX12_here 12 = .ok (.getfield 7, 3) := by decide +kernel
theorem dX12_here_15 : decode cX12_here 15 = .ok (.aload_n 0, 1) := by decide +kernel
theorem dX12_here_16 : decode cX12_here 16 = .ok (.getfield 164, 3) := by decide +kernel
theorem dX12_here_19 : decode cX12_here 19 = .ok (.baload, 1) := by decide +kernel
theorem dX12_here_20 : decode cX12_here 20 = .ok (.sipush 255, 3) := by decide +kernel
theorem dX12_here_23 : decode cX12_here 23 = .ok (.iand, 1) := by decide +kernel
theorem dX12_here_24 : decode cX12_here 24 = .ok (.goto 4, 3) := by decide +kernel
theorem dX12_here_27 : decode cX12_here 27 = .ok (.iconst 0, 1) := by decide +kernel
theorem dX12_here_28 : decode cX12_here 28 = .ok (.ireturn, 1) := by decide +kernel
theorem dX12_behind_0 : decode cX12_behind 0 = .ok (.iconst 0, 1) := by decide +kernel
theorem dX12_behind_1 : decode cX12_behind 1 = .ok (.istore_n 2, 1) := by decide +kernel
theorem dX12_behind_2 : decode cX12_behind 2 = .ok (.iconst 0, 1) := by decide +kernel
theorem dX12_behind_3 : decode cX12_behind 3 = .ok (.istore_n 3, 1) := by decide +kernel
theorem dX12_behind_4 : decode cX12_behind 4 = .ok (.iload_n 3, 1) := by decide +kernel
theorem dX12_behind_5 : decode cX12_behind 5 = .ok (.bipush 24, 2) := by decide +kernel
theorem dX12_behind_7 : decode cX12_behind 7 = .ok (.if_icmp .gt 23, 3) := by decide +kernel
theorem dX12_behind_10 : decode cX12_behind 10 = .ok (.iload_n 0, 1) := by decide +kernel
theorem dX12_behind_11 : decode cX12_behind 11 = .ok (.iload_n 3, 1) := by decide +kernel
theorem dX12_behind_12 : decode cX12_behind 12 = .ok (.invokestatic 187, 3) := by decide +kernel
theorem dX12_behind_15 : decode cX12_behind 15 = .ok (.ifCond .eq 9, 3) := by decide +kernel
theorem dX12_behind_18 : decode cX12_behind 18 = .ok (.iload_n 2, 1) := by decide +kernel
theorem dX12_behind_19 : decode cX12_behind 19 = .ok (.iload_n 1, 1) := by decide +kernel
theorem dX12_behind_20 : decode cX12_behind 20 = .ok (.iload_n 3, 1) := by decide +kernel
theorem dX12_behind_21 : decode cX12_behind 21 = .ok (.ishl, 1) := by decide +kernel
theorem dX12_behind_22 : decode cX12_behind 22 = .ok (.ior, 1) := by decide +kernel
theorem dX12_behind_23 : decode cX12_behind 23 = .ok (.istore_n 2, 1) := by decide +kernel
theorem dX12_behind_24 : decode cX12_behind 24 = .ok (.iinc 3 1, 3) := by decide +kernel
theorem dX12_behind_27 : decode cX12_behind 27 = .ok (.goto (-23), 3) := by decide +kernel
theorem dX12_behind_30 : decode cX12_behind 30 = .ok (.iload_n 2, 1) := by decide +kernel
theorem dX12_behind_31 : decode cX12_behind 31 = .ok (.ldc 191, 2) := by decide +kernel
theorem dX12_behind_33 : decode cX12_behind 33 = .ok (.iand, 1) := by decide +kernel
theorem dX12_behind_34 : decode cX12_behind 34 = .ok (.ireturn, 1) := by decide +kernel
theorem dX12_begins_0 : decode cX12_begins 0 = .ok (.aload_n 0, 1) := by decide +kernel
theorem dX12_begins_1 : decode cX12_begins 1 = .ok (.getfield 21, 3) := by decide +kernel
theorem dX12_begins_4 : decode cX12_begins 4 = .ok (.aload_n 0, 1) := by decide +kernel
theorem dX12_begins_5 : decode cX12_begins 5 = .ok (.getfield 192, 3) := by decide +kernel
theorem dX12_begins_8 : decode cX12_begins 8 = .ok (.iconst 0, 1) := by decide +kernel
theorem dX12_begins_9 : decode cX12_begins 9 = .ok (.iastore, 1) := by decide +kernel
theorem dX12_begins_10 : decode cX12_begins 10 = .ok (.aload_n 0, 1) := by decide +kernel
theorem dX12_begins_11 : decode cX12_begins 11 = .ok (.getfield 24, 3) := by decide +kernel
theorem dX12_begins_14 : decode cX12_begins 14 = .ok (.aload_n 0, 1) := by decide +kernel
theorem dX12_begins_15 : decode cX12_begins 15 = .ok (.getfield 192, 3) := by decide +kernel
theorem dX12_begins_18 : decode cX12_begins 18 = .ok (.iconst 1, 1) := by decide +kernel
theorem dX12_begins_19 : decode cX12_begins 19 = .ok (.iastore, 1) := by decide +kernel
theorem dX12_begins_20 : decode cX12_begins 20 = .ok (.aload_n 0, 1) := by decide +kernel
theorem dX12_begins_21 : decode cX12_begins 21 = .ok (.getfield 30, 3) := by decide +kernel
theorem dX12_begins_24 : decode cX12_begins 24 = .ok (.aload_n 0, 1) := by decide +kernel
theorem dX12_begins_25 : decode cX12_begins 25 = .ok (.getfield 192, 3) := by decide +kernel
theorem dX12_begins_28 : decode cX12_begins 28 = .ok (.iconst 0, 1) := by decide +kernel
theorem dX12_begins_29 : decode cX12_begins 29 = .ok (.bastore, 1) := by decide +kernel
theorem dX12_begins_30 : decode cX12_begins 30 = .ok (.return_, 1) := by decide +kernel
theorem dX12_adds_0 : decode cX12_adds 0 = .ok (.aload_n 0, 1) := by decide +kernel
theorem dX12_adds_1 : decode cX12_adds 1 = .ok (.getfield 24, 3) := by decide +kernel
theorem dX12_adds_4 : decode cX12_adds 4 = .ok (.aload_n 0, 1) := by decide +kernel
theorem dX12_adds_5 : decode cX12_adds 5 = .ok (.getfield 192, 3) := by decide +kernel
theorem dX12_adds_8 : decode cX12_adds 8 = .ok (.aload_n 0, 1) := by decide +kernel
theorem dX12_adds_9 : decode cX12_adds 9 = .ok (.getfield 24, 3) := by decide +kernel
theorem dX12_adds_12 : decode cX12_adds 12 = .ok (.aload_n 0, 1) := by decide +kernel
theorem dX12_adds_13 : decode cX12_adds 13 = .ok (.getfield 192, 3) := by decide +kernel
theorem dX12_adds_16 : decode cX12_adds 16 = .ok (.iaload, 1) := by decide +kernel
theorem dX12_adds_17 : decode cX12_adds 17 = .ok (.aload_n 0, 1) := by decide +kernel
theorem dX12_adds_18 : decode cX12_adds 18 = .ok (.iload_n 1, 1) := by decide +kernel
theorem dX12_adds_19 : decode cX12_adds 19 = .ok (.invokevirtual 201, 3) := by decide +kernel
theorem dX12_adds_22 : decode cX12_adds 22 = .ok (.invokestatic 195, 3) := by decide +kernel
theorem dX12_adds_25 : decode cX12_adds 25 = .ok (.iastore, 1) := by decide +kernel
theorem dX12_adds_26 : decode cX12_adds 26 = .ok (.aload_n 0, 1) := by decide +kernel
theorem dX12_adds_27 : decode cX12_adds 27 = .ok (.getfield 30, 3) := by decide +kernel
theorem dX12_adds_30 : decode cX12_adds 30 = .ok (.aload_n 0, 1) := by decide +kernel
theorem dX12_adds_31 : decode cX12_adds 31 = .ok (.getfield 192, 3) := by decide +kernel
theorem dX12_adds_34 : decode cX12_adds 34 = .ok (.iconst 1, 1) := by decide +kernel
theorem dX12_adds_35 : decode cX12_adds 35 = .ok (.bastore, 1) := by decide +kernel
theorem dX12_adds_36 : decode cX12_adds 36 = .ok (.return_, 1) := by decide +kernel
theorem dX12_endsWay_0 : decode cX12_endsWay 0 = .ok (.aload_n 0, 1) := by decide +kernel
theorem dX12_endsWay_1 : decode cX12_endsWay 1 = .ok (.getfield 30, 3) := by decide +kernel
theorem dX12_endsWay_4 : decode cX12_endsWay 4 = .ok (.aload_n 0, 1) := by decide +kernel
theorem dX12_endsWay_5 : decode cX12_endsWay 5 = .ok (.getfield 192, 3) := by decide +kernel
theorem dX12_endsWay_8 : decode cX12_endsWay 8 = .ok (.baload, 1) := by decide +kernel
theorem dX12_endsWay_9 : decode cX12_endsWay 9 = .ok (.ifCond .ne 12, 3) := by decide +kernel
theorem dX12_endsWay_12 : decode cX12_endsWay 12 = .ok (.aload_n 0, 1) := by decide +kernel
theorem dX12_endsWay_13 : decode cX12_endsWay 13 = .ok (.iconst 1, 1) := by decide +kernel
theorem dX12_endsWay_14 : decode cX12_endsWay 14 = .ok (.aload_n 0, 1) := by decide +kernel
theorem dX12_endsWay_15 : decode cX12_endsWay 15 = .ok (.getfield 164, 3) := by decide +kernel
theorem dX12_endsWay_18 : decode cX12_endsWay 18 = .ok (.invokevirtual 205, 3) := by decide +kernel
theorem dX12_endsWay_21 : decode cX12_endsWay 21 = .ok (.aload_n 0, 1) := by decide +kernel
theorem dX12_endsWay_22 : decode cX12_endsWay 22 = .ok (.getfield 21, 3) := by decide +kernel
theorem dX12_endsWay_25 : decode cX12_endsWay 25 = .ok (.aload_n 0, 1) := by decide +kernel
theorem dX12_endsWay_26 : decode cX12_endsWay 26 = .ok (.getfield 192, 3) := by decide +kernel
theorem dX12_endsWay_29 : decode cX12_endsWay 29 = .ok (.dup2, 1) := by decide +kernel
theorem dX12_endsWay_30 : decode cX12_endsWay 30 = .ok (.iaload, 1) := by decide +kernel
theorem dX12_endsWay_31 : decode cX12_endsWay 31 = .ok (.aload_n 0, 1) := by decide +kernel
theorem dX12_endsWay_32 : decode cX12_endsWay 32 = .ok (.getfield 24, 3) := by decide +kernel
theorem dX12_endsWay_35 : decode cX12_endsWay 35 = .ok (.aload_n 0, 1) := by decide +kernel
theorem dX12_endsWay_36 : decode cX12_endsWay 36 = .ok (.getfield 192, 3) := by decide +kernel
theorem dX12_endsWay_39 : decode cX12_endsWay 39 = .ok (.iaload, 1) := by decide +kernel
theorem dX12_endsWay_40 : decode cX12_endsWay 40 = .ok (.ior, 1) := by decide +kernel
theorem dX12_endsWay_41 : decode cX12_endsWay 41 = .ok (.iastore, 1) := by decide +kernel
theorem dX12_endsWay_42 : decode cX12_endsWay 42 = .ok (.aload_n 0, 1) := by decide +kernel
theorem dX12_endsWay_43 : decode cX12_endsWay 43 = .ok (.getfield 24, 3) := by decide +kernel
theorem dX12_endsWay_46 : decode cX12_endsWay 46 = .ok (.aload_n 0, 1) := by decide +kernel
theorem dX12_endsWay_47 : decode cX12_endsWay 47 = .ok (.getfield 192, 3) := by decide +kernel
theorem dX12_endsWay_50 : decode cX12_endsWay 50 = .ok (.iconst 1, 1) := by decide +kernel
theorem dX12_endsWay_51 : decode cX12_endsWay 51 = .ok (.iastore, 1) := by decide +kernel
theorem dX12_endsWay_52 : decode cX12_endsWay 52 = .ok (.aload_n 0, 1) := by decide +kernel
theorem dX12_endsWay_53 : decode cX12_endsWay 53 = .ok (.getfield 30, 3) := by decide +kernel
theorem dX12_endsWay_56 : decode cX12_endsWay 56 = .ok (.aload_n 0, 1) := by decide +kernel
theorem dX12_endsWay_57 : decode cX12_endsWay 57 = .ok (.getfield 192, 3) := by decide +kernel
theorem dX12_endsWay_60 : decode cX12_endsWay 60 = .ok (.iconst 0, 1) := by decide +kernel
theorem dX12_endsWay_61 : decode cX12_endsWay 61 = .ok (.bastore, 1) := by decide +kernel
theorem dX12_endsWay_62 : decode cX12_endsWay 62 = .ok (.return_, 1) := by decide +kernel
theorem dX12_closes_0 : decode cX12_closes 0 = .ok (.aload_n 0, 1) := by decide +kernel
theorem dX12_closes_1 : decode cX12_closes 1 = .ok (.getfield 192, 3) := by decide +kernel
theorem dX12_closes_4 : decode cX12_closes 4 = .ok (.ifCond .eq 28, 3) := by decide +kernel
theorem dX12_closes_7 : decode cX12_closes 7 = .ok (.aload_n 0, 1) := by decide +kernel
theorem dX12_closes_8 : decode cX12_closes 8 = .ok (.getfield 27, 3) := by decide +kernel
theorem dX12_closes_11 : decode cX12_closes 11 = .ok (.aload_n 0, 1) := by decide +kernel
theorem dX12_closes_12 : decode cX12_closes 12 = .ok (.getfield 192, 3) := by decide +kernel
theorem dX12_closes_15 : decode cX12_closes 15 = .ok (.iaload, 1) := by decide +kernel
theorem dX12_closes_16 : decode cX12_closes 16 = .ok (.iload_n 1, 1) := by decide +kernel
theorem dX12_closes_17 : decode cX12_closes 17 = .ok (.bipush 41, 2) := by decide +kernel
theorem dX12_closes_19 : decode cX12_closes 19 = .ok (.if_icmp .ne 8, 3) := by decide +kernel
theorem dX12_closes_22 : decode cX12_closes 22 = .ok (.bipush 40, 2) := by decide +kernel
theorem dX12_closes_24 : decode cX12_closes 24 = .ok (.goto 5, 3) := by decide +kernel
theorem dX12_closes_27 : decode cX12_closes 27 = .ok (.bipush 91, 2) := by decide +kernel
theorem dX12_closes_29 : decode cX12_closes 29 = .ok (.if_icmp .eq 12, 3) := by decide +kernel
theorem dX12_closes_32 : decode cX12_closes 32 = .ok (.aload_n 0, 1) := by decide +kernel
theorem dX12_closes_33 : decode cX12_closes 33 = .ok (.iconst 1, 1) := by decide +kernel
theorem dX12_closes_34 : decode cX12_closes 34 = .ok (.aload_n 0, 1) := by decide +kernel
theorem dX12_closes_35 : decode cX12_closes 35 = .ok (.getfield 164, 3) := by decide +kernel
theorem dX12_closes_38 : decode cX12_closes 38 = .ok (.invokevirtual 205, 3) := by decide +kernel
theorem dX12_closes_41 : decode cX12_closes 41 = .ok (.aload_n 0, 1) := by decide +kernel
theorem dX12_closes_42 : decode cX12_closes 42 = .ok (.invokevirtual 209, 3) := by decide +kernel
theorem dX12_closes_45 : decode cX12_closes 45 = .ok (.ifCond .ne 4, 3) := by decide +kernel
theorem dX12_closes_48 : decode cX12_closes 48 = .ok (.return_, 1) := by decide +kernel
theorem dX12_closes_49 : decode cX12_closes 49 = .ok (.aload_n 0, 1) := by decide +kernel
theorem dX12_closes_50 : decode cX12_closes 50 = .ok (.invokevirtual 213, 3) := by decide +kernel
theorem dX12_closes_53 : decode cX12_closes 53 = .ok (.aload_n 0, 1) := by decide +kernel
theorem dX12_closes_54 : decode cX12_closes 54 = .ok (.invokevirtual 209, 3) := by decide +kernel
theorem dX12_closes_57 : decode cX12_closes 57 = .ok (.ifCond .ne 4, 3) := by decide +kernel
theorem dX12_closes_60 : decode cX12_closes 60 = .ok (.return_, 1) := by decide +kernel
theorem dX12_closes_61 : decode cX12_closes 61 = .ok (.aload_n 0, 1) := by decide +kernel
theorem dX12_closes_62 : decode cX12_closes 62 = .ok (.getfield 21, 3) := by decide +kernel
theorem dX12_closes_65 : decode cX12_closes 65 = .ok (.aload_n 0, 1) := by decide +kernel
theorem dX12_closes_66 : decode cX12_closes 66 = .ok (.getfield 192, 3) := by decide +kernel
theorem dX12_closes_69 : decode cX12_closes 69 = .ok (.iaload, 1) := by decide +kernel
theorem dX12_closes_70 : decode cX12_closes 70 = .ok (.iload_n 1, 1) := by decide +kernel
theorem dX12_closes_71 : decode cX12_closes 71 = .ok (.bipush 93, 2) := by decide +kernel
theorem dX12_closes_73 : decode cX12_closes 73 = .ok (.if_icmp .ne 7, 3) := by decide +kernel
theorem dX12_closes_76 : decode cX12_closes 76 = .ok (.iconst 1, 1) := by decide +kernel
theorem dX12_closes_77 : decode cX12_closes 77 = .ok (.goto 4, 3) := by decide +kernel
theorem dX12_closes_80 : decode cX12_closes 80 = .ok (.iconst 0, 1) := by decide +kernel
theorem dX12_closes_81 : decode cX12_closes 81 = .ok (.ior, 1) := by decide +kernel
theorem dX12_closes_82 : decode cX12_closes 82 = .ok (.istore_n 2, 1) := by decide +kernel
theorem dX12_closes_83 : decode cX12_closes 83 = .ok (.aload_n 0, 1) := by decide +kernel
theorem dX12_closes_84 : decode cX12_closes 84 = .ok (.dup, 1) := by decide +kernel
theorem dX12_closes_85 : decode cX12_closes 85 = .ok (.getfield 192, 3) := by decide +kernel
theorem dX12_closes_88 : decode cX12_closes 88 = .ok (.iconst 1, 1) := by decide +kernel
theorem dX12_closes_89 : decode cX12_closes 89 = .ok (.isub, 1) := by decide +kernel
theorem dX12_closes_90 : decode cX12_closes 90 = .ok (.putfield 192, 3) := by decide +kernel
theorem dX12_closes_93 : decode cX12_closes 93 = .ok (.aload_n 0, 1) := by decide +kernel
theorem dX12_closes_94 : decode cX12_closes 94 = .ok (.dup, 1) := by decide +kernel
theorem dX12_closes_95 : decode cX12_closes 95 = .ok (.getfield 164, 3) := by decide +kernel
theorem dX12_closes_98 : decode cX12_closes 98 = .ok (.iconst 1, 1) := by decide +kernel
theorem dX12_closes_99 : decode cX12_closes 99 = .ok (.iadd, 1) := by decide +kernel
theorem dX12_closes_100 : decode cX12_closes 100 = .ok (.putfield 164, 3) := by decide +kernel
theorem dX12_closes_103 : decode cX12_closes 103 = .ok (.aload_n 0, 1) := by decide +kernel
theorem dX12_closes_104 : decode cX12_closes 104 = .ok (.iload_n 2, 1) := by decide +kernel
theorem dX12_closes_105 : decode cX12_closes 105 = .ok (.invokevirtual 216, 3) := by decide +kernel
theorem dX12_closes_108 : decode cX12_closes 108 = .ok (.return_, 1) := by decide +kernel
theorem dX12_emit_0 : decode cX12_emit 0 = .ok (.aload_n 0, 1) := by decide +kernel
theorem dX12_emit_1 : decode cX12_emit 1 = .ok (.invokevirtual 209, 3) := by decide +kernel
theorem dX12_emit_4 : decode cX12_emit 4 = .ok (.ifCond .ne 4, 3) := by decide +kernel
theorem dX12_emit_7 : decode cX12_emit 7 = .ok (.return_, 1) := by decide +kernel
theorem dX12_emit_8 : decode cX12_emit 8 = .ok (.aload_n 0, 1) := by decide +kernel
theorem dX12_emit_9 : decode cX12_emit 9 = .ok (.getfield 67, 3) := by decide +kernel
theorem dX12_emit_12 : decode cX12_emit 12 = .ok (.aload_n 0, 1) := by decide +kernel
theorem dX12_emit_13 : decode cX12_emit 13 = .ok (.getfield 242, 3) := by decide +kernel
theorem dX12_emit_16 : decode cX12_emit 16 = .ok (.iload_n 1, 1) := by decide +kernel
theorem dX12_emit_17 : decode cX12_emit 17 = .ok (.iastore, 1) := by decide +kernel
theorem dX12_emit_18 : decode cX12_emit 18 = .ok (.aload_n 0, 1) := by decide +kernel
theorem dX12_emit_19 : decode cX12_emit 19 = .ok (.getfield 70, 3) := by decide +kernel
theorem dX12_emit_22 : decode cX12_emit 22 = .ok (.aload_n 0, 1) := by decide +kernel
theorem dX12_emit_23 : decode cX12_emit 23 = .ok (.getfield 242, 3) := by decide +kernel
theorem dX12_emit_26 : decode cX12_emit 26 = .ok (.iload_n 2, 1) := by decide +kernel
theorem dX12_emit_27 : decode cX12_emit 27 = .ok (.iastore, 1) := by decide +kernel
theorem dX12_emit_28 : decode cX12_emit 28 = .ok (.aload_n 0, 1) := by decide +kernel
theorem dX12_emit_29 : decode cX12_emit 29 = .ok (.dup, 1) := by decide +kernel
theorem dX12_emit_30 : decode cX12_emit 30 = .ok (.getfield 242, 3) := by decide +kernel
theorem dX12_emit_33 : decode cX12_emit 33 = .ok (.iconst 1, 1) := by decide +kernel
theorem dX12_emit_34 : decode cX12_emit 34 = .ok (.iadd, 1) := by decide +kernel
theorem dX12_emit_35 : decode cX12_emit 35 = .ok (.putfield 242, 3) := by decide +kernel
theorem dX12_emit_38 : decode cX12_emit 38 = .ok (.return_, 1) := by decide +kernel
theorem dX12_ends_0 : decode cX12_ends 0 = .ok (.aload_n 0, 1) := by decide +kernel
theorem dX12_ends_1 : decode cX12_ends 1 = .ok (.invokevirtual 257, 3) := by decide +kernel
theorem dX12_ends_4 : decode cX12_ends 4 = .ok (.bipush 33, 2) := by decide +kernel
theorem dX12_ends_6 : decode cX12_ends 6 = .ok (.if_icmp .ne 32, 3) := by decide +kernel
theorem dX12_ends_9 : decode cX12_ends 9 = .ok (.aload_n 0, 1) := by decide +kernel
theorem dX12_ends_10 : decode cX12_ends 10 = .ok (.iconst 2, 1) := by decide +kernel
theorem dX12_ends_11 : decode cX12_ends 11 = .ok (.iconst 0, 1) := by decide +kernel
theorem dX12_ends_12 : decode cX12_ends 12 = .ok (.invokevirtual 266, 3) := by decide +kernel
theorem dX12_ends_15 : decode cX12_ends 15 = .ok (.aload_n 0, 1) := by decide +kernel
theorem dX12_ends_16 : decode cX12_ends 16 = .ok (.dup, 1) := by decide +kernel
theorem dX12_ends_17 : decode cX12_ends 17 = .ok (.getfield 245, 3) := by decide +kernel
theorem dX12_ends_20 : decode cX12_ends 20 = .ok (.iconst 1, 1) := by decide +kernel
theorem dX12_ends_21 : decode cX12_ends 21 = .ok (.isub, 1) := by decide +kernel
theorem dX12_ends_22 : decode cX12_ends 22 = .ok (.putfield 245, 3) := by decide +kernel
theorem dX12_ends_25 : decode cX12_ends 25 = .ok (.aload_n 0, 1) := by decide +kernel
theorem dX12_ends_26 : decode cX12_ends 26 = .ok (.dup, 1) := by decide +kernel
theorem dX12_ends_27 : decode cX12_ends 27 = .ok (.getfield 248, 3) := by decide +kernel
theorem dX12_ends_30 : decode cX12_ends 30 = .ok (.iconst 1, 1) := by decide +kernel
theorem dX12_ends_31 : decode cX12_ends 31 = .ok (.isub, 1) := by decide +kernel
theorem dX12_ends_32 : decode cX12_ends 32 = .ok (.putfield 248, 3) := by decide +kernel
theorem dX12_ends_35 : decode cX12_ends 35 = .ok (.goto (-35), 3) := by decide +kernel
theorem dX12_ends_38 : decode cX12_ends 38 = .ok (.return_, 1) := by decide +kernel
theorem dX12_factor_0 : decode cX12_factor 0 = .ok (.aload_n 0, 1) := by decide +kernel
theorem dX12_factor_1 : decode cX12_factor 1 = .ok (.invokevirtual 209, 3) := by decide +kernel
theorem dX12_factor_4 : decode cX12_factor 4 = .ok (.ifCond .eq 19, 3) := by decide +kernel
theorem dX12_factor_7 : decode cX12_factor 7 = .ok (.aload_n 0, 1) := by decide +kernel
theorem dX12_factor_8 : decode cX12_factor 8 = .ok (.invokevirtual 173, 3) := by decide +kernel
theorem dX12_factor_11 : decode cX12_factor 11 = .ok (.bipush 91, 2) := by decide +kernel
theorem dX12_factor_13 : decode cX12_factor 13 = .ok (.if_icmp .ne 10, 3) := by decide +kernel
theorem dX12_factor_16 : decode cX12_factor 16 = .ok (.aload_n 0, 1) := by decide +kernel
theorem dX12_factor_17 : decode cX12_factor 17 = .ok (.invokevirtual 269, 3) := by decide +kernel
theorem dX12_factor_20 : decode cX12_factor 20 = .ok (.goto (-20), 3) := by decide +kernel
theorem dX12_factor_23 : decode cX12_factor 23 = .ok (.aload_n 0, 1) := by decide +kernel
theorem dX12_factor_24 : decode cX12_factor 24 = .ok (.invokevirtual 209, 3) := by decide +kernel
theorem dX12_factor_27 : decode cX12_factor 27 = .ok (.ifCond .ne 4, 3) := by decide +kernel
theorem dX12_factor_30 : decode cX12_factor 30 = .ok (.return_, 1) := by decide +kernel
theorem dX12_factor_31 : decode cX12_factor 31 = .ok (.aload_n 0, 1) := by decide +kernel
theorem dX12_factor_32 : decode cX12_factor 32 = .ok (.invokevirtual 254, 3) := by decide +kernel
theorem dX12_factor_35 : decode cX12_factor 35 = .ok (.ifCond .eq 15, 3) := by decide +kernel
theorem dX12_factor_38 : decode cX12_factor 38 = .ok (.aload_n 0, 1) := by decide +kernel
theorem dX12_factor_39 : decode cX12_factor 39 = .ok (.iconst 0, 1) := by decide +kernel
theorem dX12_factor_40 : decode cX12_factor 40 = .ok (.aload_n 0, 1) := by decide +kernel
theorem dX12_factor_41 : decode cX12_factor 41 = .ok (.invokevirtual 272, 3) := by decide +kernel
theorem dX12_factor_44 : decode cX12_factor 44 = .ok (.invokevirtual 266, 3) := by decide +kernel
theorem dX12_factor_47 : decode cX12_factor 47 = .ok (.goto 44, 3) := by decide +kernel
theorem dX12_factor_50 : decode cX12_factor 50 = .ok (.aload_n 0, 1) := by decide +kernel
theorem dX12_factor_51 : decode cX12_factor 51 = .ok (.invokevirtual 173, 3) := by decide +kernel
theorem dX12_factor_54 : decode cX12_factor 54 = .ok (.invokestatic 275, 3) := by decide +kernel
theorem dX12_factor_57 : decode cX12_factor 57 = .ok (.ifCond .eq 25, 3) := by decide +kernel
theorem dX12_factor_60 : decode cX12_factor 60 = .ok (.aload_n 0, 1) := by decide +kernel
theorem dX12_factor_61 : decode cX12_factor 61 = .ok (.iconst 1, 1) := by decide +kernel
theorem dX12_factor_62 : decode cX12_factor 62 = .ok (.aload_n 0, 1) := by decide +kernel
theorem dX12_factor_63 : decode cX12_factor 63 = .ok (.invokevirtual 173, 3) := by decide +kernel
theorem dX12_factor_66 : decode cX12_factor 66 = .ok (.invokevirtual 266, 3) := by decide +kernel
theorem dX12_factor_69 : decode cX12_factor 69 = .ok (.aload_n 0, 1) := by decide +kernel
theorem dX12_factor_70 : decode cX12_factor 70 = .ok (.dup, 1) := by decide +kernel
theorem dX12_factor_71 : decode cX12_factor 71 = .ok (.getfield 164, 3) := by decide +kernel
theorem dX12_factor_74 : decode cX12_factor 74 = .ok (.iconst 1, 1) := by decide +kernel
theorem dX12_factor_75 : decode cX12_factor 75 = .ok (.iadd, 1) := by decide +kernel
theorem dX12_factor_76 : decode cX12_factor 76 = .ok (.putfield 164, 3) := by decide +kernel
theorem dX12_factor_79 : decode cX12_factor 79 = .ok (.goto 12, 3) := by decide +kernel
theorem dX12_factor_82 : decode cX12_factor 82 = .ok (.aload_n 0, 1) := by decide +kernel
theorem dX12_factor_83 : decode cX12_factor 83 = .ok (.iconst 1, 1) := by decide +kernel
theorem dX12_factor_84 : decode cX12_factor 84 = .ok (.aload_n 0, 1) := by decide +kernel
theorem dX12_factor_85 : decode cX12_factor 85 = .ok (.getfield 164, 3) := by decide +kernel
theorem dX12_factor_88 : decode cX12_factor 88 = .ok (.invokevirtual 205, 3) := by decide +kernel
theorem dX12_factor_91 : decode cX12_factor 91 = .ok (.return_, 1) := by decide +kernel
theorem dX12_goesBehind_0 : decode cX12_goesBehind 0 = .ok (.aload_n 0, 1) := by decide +kernel
theorem dX12_goesBehind_1 : decode cX12_goesBehind 1 = .ok (.invokevirtual 173, 3) := by decide +kernel
theorem dX12_goesBehind_4 : decode cX12_goesBehind 4 = .ok (.istore_n 1, 1) := by decide +kernel
theorem dX12_goesBehind_5 : decode cX12_goesBehind 5 = .ok (.iload_n 1, 1) := by decide +kernel
theorem dX12_goesBehind_6 : decode cX12_goesBehind 6 = .ok (.bipush 38, 2) := by decide +kernel
theorem dX12_goesBehind_8 : decode cX12_goesBehind 8 = .ok (.if_icmp .eq 9, 3) := by decide +kernel
theorem dX12_goesBehind_11 : decode cX12_goesBehind 11 = .ok (.iload_n 1, 1) := by decide +kernel
theorem dX12_goesBehind_12 : decode cX12_goesBehind 12 = .ok (.bipush 124, 2) := by decide +kernel
theorem dX12_goesBehind_14 : decode cX12_goesBehind 14 = .ok (.if_icmp .ne 25, 3) := by decide +kernel
theorem dX12_goesBehind_17 : decode cX12_goesBehind 17 = .ok (.aload_n 0, 1) := by decide +kernel
theorem dX12_goesBehind_18 : decode cX12_goesBehind 18 = .ok (.iload_n 1, 1) := by decide +kernel
theorem dX12_goesBehind_19 : decode cX12_goesBehind 19 = .ok (.bipush 124, 2) := by decide +kernel
theorem dX12_goesBehind_21 : decode cX12_goesBehind 21 = .ok (.if_icmp .ne 7, 3) := by decide +kernel
theorem dX12_goesBehind_24 : decode cX12_goesBehind 24 = .ok (.iconst 1, 1) := by decide +kernel
theorem dX12_goesBehind_25 : decode cX12_goesBehind 25 = .ok (.goto 4, 3) := by decide +kernel
theorem dX12_goesBehind_28 : decode cX12_goesBehind 28 = .ok (.iconst 0, 1) := by decide +kernel
theorem dX12_goesBehind_29 : decode cX12_goesBehind 29 = .ok (.invokevirtual 301, 3) := by decide +kernel
theorem dX12_goesBehind_32 : decode cX12_goesBehind 32 = .ok (.aload_n 0, 1) := by decide +kernel
theorem dX12_goesBehind_33 : decode cX12_goesBehind 33 = .ok (.iload_n 1, 1) := by decide +kernel
theorem dX12_goesBehind_34 : decode cX12_goesBehind 34 = .ok (.invokevirtual 251, 3) := by decide +kernel
theorem dX12_goesBehind_37 : decode cX12_goesBehind 37 = .ok (.iconst 1, 1) := by decide +kernel
theorem dX12_goesBehind_38 : decode cX12_goesBehind 38 = .ok (.ireturn, 1) := by decide +kernel
theorem dX12_goesBehind_39 : decode cX12_goesBehind 39 = .ok (.iload_n 1, 1) := by decide +kernel
theorem dX12_goesBehind_40 : decode cX12_goesBehind 40 = .ok (.bipush 41, 2) := by decide +kernel
theorem dX12_goesBehind_42 : decode cX12_goesBehind 42 = .ok (.if_icmp .eq 14, 3) := by decide +kernel
theorem dX12_goesBehind_45 : decode cX12_goesBehind 45 = .ok (.aload_n 0, 1) := by decide +kernel
theorem dX12_goesBehind_46 : decode cX12_goesBehind 46 = .ok (.iconst 1, 1) := by decide +kernel
theorem dX12_goesBehind_47 : decode cX12_goesBehind 47 = .ok (.aload_n 0, 1) := by decide +kernel
theorem dX12_goesBehind_48 : decode cX12_goesBehind 48 = .ok (.getfield 164, 3) := by decide +kernel
theorem dX12_goesBehind_51 : decode cX12_goesBehind 51 = .ok (.invokevirtual 205, 3) := by decide +kernel
theorem dX12_goesBehind_54 : decode cX12_goesBehind 54 = .ok (.iconst 0, 1) := by decide +kernel
theorem dX12_goesBehind_55 : decode cX12_goesBehind 55 = .ok (.ireturn, 1) := by decide +kernel
theorem dX12_goesBehind_56 : decode cX12_goesBehind 56 = .ok (.aload_n 0, 1) := by decide +kernel
theorem dX12_goesBehind_57 : decode cX12_goesBehind 57 = .ok (.iconst 1, 1) := by decide +kernel
theorem dX12_goesBehind_58 : decode cX12_goesBehind 58 = .ok (.invokevirtual 301, 3) := by decide +kernel
theorem dX12_goesBehind_61 : decode cX12_goesBehind 61 = .ok (.aload_n 0, 1) := by decide +kernel
theorem dX12_goesBehind_62 : decode cX12_goesBehind 62 = .ok (.dup, 1) := by decide +kernel
theorem dX12_goesBehind_63 : decode cX12_goesBehind 63 = .ok (.getfield 245, 3) := by decide +kernel
theorem dX12_goesBehind_66 : decode cX12_goesBehind 66 = .ok (.iconst 1, 1) := by decide +kernel
theorem dX12_goesBehind_67 : decode cX12_goesBehind 67 = .ok (.isub, 1) := by decide +kernel
theorem dX12_goesBehind_68 : decode cX12_goesBehind 68 = .ok (.putfield 245, 3) := by decide +kernel
theorem dX12_goesBehind_71 : decode cX12_goesBehind 71 = .ok (.aload_n 0, 1) := by decide +kernel
theorem dX12_goesBehind_72 : decode cX12_goesBehind 72 = .ok (.dup, 1) := by decide +kernel
theorem dX12_goesBehind_73 : decode cX12_goesBehind 73 = .ok (.getfield 248, 3) := by decide +kernel
theorem dX12_goesBehind_76 : decode cX12_goesBehind 76 = .ok (.iconst 1, 1) := by decide +kernel
theorem dX12_goesBehind_77 : decode cX12_goesBehind 77 = .ok (.isub, 1) := by decide +kernel
theorem dX12_goesBehind_78 : decode cX12_goesBehind 78 = .ok (.putfield 248, 3) := by decide +kernel
theorem dX12_goesBehind_81 : decode cX12_goesBehind 81 = .ok (.aload_n 0, 1) := by decide +kernel
theorem dX12_goesBehind_82 : decode cX12_goesBehind 82 = .ok (.dup, 1) := by decide +kernel
theorem dX12_goesBehind_83 : decode cX12_goesBehind 83 = .ok (.getfield 164, 3) := by decide +kernel
theorem dX12_goesBehind_86 : decode cX12_goesBehind 86 = .ok (.iconst 1, 1) := by decide +kernel
theorem dX12_goesBehind_87 : decode cX12_goesBehind 87 = .ok (.iadd, 1) := by decide +kernel
theorem dX12_goesBehind_88 : decode cX12_goesBehind 88 = .ok (.putfield 164, 3) := by decide +kernel
theorem dX12_goesBehind_91 : decode cX12_goesBehind 91 = .ok (.aload_n 0, 1) := by decide +kernel
theorem dX12_goesBehind_92 : decode cX12_goesBehind 92 = .ok (.aload_n 0, 1) := by decide +kernel
theorem dX12_goesBehind_93 : decode cX12_goesBehind 93 = .ok (.getfield 245, 3) := by decide +kernel
theorem dX12_goesBehind_96 : decode cX12_goesBehind 96 = .ok (.ifCond .ne 7, 3) := by decide +kernel
theorem dX12_goesBehind_99 : decode cX12_goesBehind 99 = .ok (.iconst 1, 1) := by decide +kernel
theorem dX12_goesBehind_100 : decode cX12_goesBehind 100 = .ok (.goto 4, 3) := by decide +kernel
theorem dX12_goesBehind_103 : decode cX12_goesBehind 103 = .ok (.iconst 0, 1) := by decide +kernel
theorem dX12_goesBehind_104 : decode cX12_goesBehind 104 = .ok (.putfield 304, 3) := by decide +kernel
theorem dX12_goesBehind_107 : decode cX12_goesBehind 107 = .ok (.aload_n 0, 1) := by decide +kernel
theorem dX12_goesBehind_108 : decode cX12_goesBehind 108 = .ok (.getfield 304, 3) := by decide +kernel
theorem dX12_goesBehind_111 : decode cX12_goesBehind 111 = .ok (.ifCond .ne 7, 3) := by decide +kernel
theorem dX12_goesBehind_114 : decode cX12_goesBehind 114 = .ok (.aload_n 0, 1) := by decide +kernel
theorem dX12_goesBehind_115 : decode cX12_goesBehind 115 = .ok (.invokevirtual 298, 3) := by decide +kernel
theorem dX12_goesBehind_118 : decode cX12_goesBehind 118 = .ok (.iconst 0, 1) := by decide +kernel
theorem dX12_goesBehind_119 : decode cX12_goesBehind 119 = .ok (.ireturn, 1) := by decide +kernel
theorem dX12_condition_0 : decode cX12_condition 0 = .ok (.aload_n 0, 1) := by decide +kernel
theorem dX12_condition_1 : decode cX12_condition 1 = .ok (.iconst 0, 1) := by decide +kernel
theorem dX12_condition_2 : decode cX12_condition 2 = .ok (.putfield 304, 3) := by decide +kernel
theorem dX12_condition_5 : decode cX12_condition 5 = .ok (.aload_n 0, 1) := by decide +kernel
theorem dX12_condition_6 : decode cX12_condition 6 = .ok (.invokevirtual 173, 3) := by decide +kernel
theorem dX12_condition_9 : decode cX12_condition 9 = .ok (.bipush 40, 2) := by decide +kernel
theorem dX12_condition_11 : decode cX12_condition 11 = .ok (.if_icmp .eq 12, 3) := by decide +kernel
theorem dX12_condition_14 : decode cX12_condition 14 = .ok (.aload_n 0, 1) := by decide +kernel
theorem dX12_condition_15 : decode cX12_condition 15 = .ok (.iconst 1, 1) := by decide +kernel
theorem dX12_condition_16 : decode cX12_condition 16 = .ok (.aload_n 0, 1) := by decide +kernel
theorem dX12_condition_17 : decode cX12_condition 17 = .ok (.getfield 164, 3) := by decide +kernel
theorem dX12_condition_20 : decode cX12_condition 20 = .ok (.invokevirtual 205, 3) := by decide +kernel
theorem dX12_condition_23 : decode cX12_condition 23 = .ok (.aload_n 0, 1) := by decide +kernel
theorem dX12_condition_24 : decode cX12_condition 24 = .ok (.invokevirtual 209, 3) := by decide +kernel
theorem dX12_condition_27 : decode cX12_condition 27 = .ok (.ifCond .ne 4, 3) := by decide +kernel
theorem dX12_condition_30 : decode cX12_condition 30 = .ok (.return_, 1) := by decide +kernel
theorem dX12_condition_31 : decode cX12_condition 31 = .ok (.aload_n 0, 1) := by decide +kernel
theorem dX12_condition_32 : decode cX12_condition 32 = .ok (.invokevirtual 269, 3) := by decide +kernel
theorem dX12_condition_35 : decode cX12_condition 35 = .ok (.iconst 1, 1) := by decide +kernel
theorem dX12_condition_36 : decode cX12_condition 36 = .ok (.istore_n 1, 1) := by decide +kernel
theorem dX12_condition_37 : decode cX12_condition 37 = .ok (.aload_n 0, 1) := by decide +kernel
theorem dX12_condition_38 : decode cX12_condition 38 = .ok (.invokevirtual 209, 3) := by decide +kernel
theorem dX12_condition_41 : decode cX12_condition 41 = .ok (.ifCond .eq 33, 3) := by decide +kernel
theorem dX12_condition_44 : decode cX12_condition 44 = .ok (.aload_n 0, 1) := by decide +kernel
theorem dX12_condition_45 : decode cX12_condition 45 = .ok (.getfield 304, 3) := by decide +kernel
theorem dX12_condition_48 : decode cX12_condition 48 = .ok (.ifCond .ne 26, 3) := by decide +kernel
theorem dX12_condition_51 : decode cX12_condition 51 = .ok (.iload_n 1, 1) := by decide +kernel
theorem dX12_condition_52 : decode cX12_condition 52 = .ok (.ifCond .eq 7, 3) := by decide +kernel
theorem dX12_condition_55 : decode cX12_condition 55 = .ok (.aload_n 0, 1) := by decide +kernel
theorem dX12_condition_56 : decode cX12_condition 56 = .ok (.invokevirtual 307, 3) := by decide +kernel
theorem dX12_condition_59 : decode cX12_condition 59 = .ok (.aload_n 0, 1) := by decide +kernel
theorem dX12_condition_60 : decode cX12_condition 60 = .ok (.invokevirtual 209, 3) := by decide +kernel
theorem dX12_condition_63 : decode cX12_condition 63 = .ok (.ifCond .eq (-26), 3) := by decide +kernel
theorem dX12_condition_66 : decode cX12_condition 66 = .ok (.aload_n 0, 1) := by decide +kernel
theorem dX12_condition_67 : decode cX12_condition 67 = .ok (.invokevirtual 310, 3) := by decide +kernel
theorem dX12_condition_70 : decode cX12_condition 70 = .ok (.istore_n 1, 1) := by decide +kernel
theorem dX12_condition_71 : decode cX12_condition 71 = .ok (.goto (-34), 3) := by decide +kernel
theorem dX12_condition_74 : decode cX12_condition 74 = .ok (.return_, 1) := by decide +kernel
theorem dX12_clause_0 : decode cX12_clause 0 = .ok (.aload_n 0, 1) := by decide +kernel
theorem dX12_clause_1 : decode cX12_clause 1 = .ok (.invokevirtual 173, 3) := by decide +kernel
theorem dX12_clause_4 : decode cX12_clause 4 = .ok (.istore_n 1, 1) := by decide +kernel
theorem dX12_clause_5 : decode cX12_clause 5 = .ok (.iload_n 1, 1) := by decide +kernel
theorem dX12_clause_6 : decode cX12_clause 6 = .ok (.bipush 110, 2) := by decide +kernel
theorem dX12_clause_8 : decode cX12_clause 8 = .ok (.if_icmp .eq 21, 3) := by decide +kernel
theorem dX12_clause_11 : decode cX12_clause 11 = .ok (.iload_n 1, 1) := by decide +kernel
theorem dX12_clause_12 : decode cX12_clause 12 = .ok (.bipush 112, 2) := by decide +kernel
theorem dX12_clause_14 : decode cX12_clause 14 = .ok (.if_icmp .eq 15, 3) := by decide +kernel
theorem dX12_clause_17 : decode cX12_clause 17 = .ok (.aload_n 0, 1) := by decide +kernel
theorem dX12_clause_18 : decode cX12_clause 18 = .ok (.iconst 1, 1) := by decide +kernel
theorem dX12_clause_19 : decode cX12_clause 19 = .ok (.aload_n 0, 1) := by decide +kernel
theorem dX12_clause_20 : decode cX12_clause 20 = .ok (.getfield 164, 3) := by decide +kernel
theorem dX12_clause_23 : decode cX12_clause 23 = .ok (.invokevirtual 205, 3) := by decide +kernel
theorem dX12_clause_26 : decode cX12_clause 26 = .ok (.goto 21, 3) := by decide +kernel
theorem dX12_clause_29 : decode cX12_clause 29 = .ok (.aload_n 0, 1) := by decide +kernel
theorem dX12_clause_30 : decode cX12_clause 30 = .ok (.getfield 313, 3) := by decide +kernel
theorem dX12_clause_33 : decode cX12_clause 33 = .ok (.bipush 14, 2) := by decide +kernel
theorem dX12_clause_35 : decode cX12_clause 35 = .ok (.if_icmp .ne 12, 3) := by decide +kernel
theorem dX12_clause_38 : decode cX12_clause 38 = .ok (.aload_n 0, 1) := by decide +kernel
theorem dX12_clause_39 : decode cX12_clause 39 = .ok (.iconst 4, 1) := by decide +kernel
theorem dX12_clause_40 : decode cX12_clause 40 = .ok (.aload_n 0, 1) := by decide +kernel
theorem dX12_clause_41 : decode cX12_clause 41 = .ok (.getfield 164, 3) := by decide +kernel
theorem dX12_clause_44 : decode cX12_clause 44 = .ok (.invokevirtual 205, 3) := by decide +kernel
theorem dX12_clause_47 : decode cX12_clause 47 = .ok (.aload_n 0, 1) := by decide +kernel
theorem dX12_clause_48 : decode cX12_clause 48 = .ok (.invokevirtual 209, 3) := by decide +kernel
theorem dX12_clause_51 : decode cX12_clause 51 = .ok (.ifCond .ne 4, 3) := by decide +kernel
theorem dX12_clause_54 : decode cX12_clause 54 = .ok (.return_, 1) := by decide +kernel
theorem dX12_clause_55 : decode cX12_clause 55 = .ok (.aload_n 0, 1) := by decide +kernel
theorem dX12_clause_56 : decode cX12_clause 56 = .ok (.getfield 55, 3) := by decide +kernel
theorem dX12_clause_59 : decode cX12_clause 59 = .ok (.aload_n 0, 1) := by decide +kernel
theorem dX12_clause_60 : decode cX12_clause 60 = .ok (.getfield 313, 3) := by decide +kernel
theorem dX12_clause_63 : decode cX12_clause 63 = .ok (.iload_n 1, 1) := by decide +kernel
theorem dX12_clause_64 : decode cX12_clause 64 = .ok (.iastore, 1) := by decide +kernel
theorem dX12_clause_65 : decode cX12_clause 65 = .ok (.aload_n 0, 1) := by decide +kernel
theorem dX12_clause_66 : decode cX12_clause 66 = .ok (.getfield 58, 3) := by decide +kernel
theorem dX12_clause_69 : decode cX12_clause 69 = .ok (.aload_n 0, 1) := by decide +kernel
theorem dX12_clause_70 : decode cX12_clause 70 = .ok (.getfield 313, 3) := by decide +kernel
theorem dX12_clause_73 : decode cX12_clause 73 = .ok (.aload_n 0, 1) := by decide +kernel
theorem dX12_clause_74 : decode cX12_clause 74 = .ok (.getfield 242, 3) := by decide +kernel
theorem dX12_clause_77 : decode cX12_clause 77 = .ok (.iastore, 1) := by decide +kernel
theorem dX12_clause_78 : decode cX12_clause 78 = .ok (.aload_n 0, 1) := by decide +kernel
theorem dX12_clause_79 : decode cX12_clause 79 = .ok (.dup, 1) := by decide +kernel
theorem dX12_clause_80 : decode cX12_clause 80 = .ok (.getfield 164, 3) := by decide +kernel
theorem dX12_clause_83 : decode cX12_clause 83 = .ok (.iconst 1, 1) := by decide +kernel
theorem dX12_clause_84 : decode cX12_clause 84 = .ok (.iadd, 1) := by decide +kernel
theorem dX12_clause_85 : decode cX12_clause 85 = .ok (.putfield 164, 3) := by decide +kernel
theorem dX12_clause_88 : decode cX12_clause 88 = .ok (.aload_n 0, 1) := by decide +kernel
theorem dX12_clause_89 : decode cX12_clause 89 = .ok (.iconst 0, 1) := by decide +kernel
theorem dX12_clause_90 : decode cX12_clause 90 = .ok (.putfield 245, 3) := by decide +kernel
theorem dX12_clause_93 : decode cX12_clause 93 = .ok (.aload_n 0, 1) := by decide +kernel
theorem dX12_clause_94 : decode cX12_clause 94 = .ok (.iconst 0, 1) := by decide +kernel
theorem dX12_clause_95 : decode cX12_clause 95 = .ok (.putfield 248, 3) := by decide +kernel
theorem dX12_clause_98 : decode cX12_clause 98 = .ok (.iload_n 1, 1) := by decide +kernel
theorem dX12_clause_99 : decode cX12_clause 99 = .ok (.bipush 112, 2) := by decide +kernel
theorem dX12_clause_101 : decode cX12_clause 101 = .ok (.if_icmp .ne 7, 3) := by decide +kernel
theorem dX12_clause_104 : decode cX12_clause 104 = .ok (.aload_n 0, 1) := by decide +kernel
theorem dX12_clause_105 : decode cX12_clause 105 = .ok (.invokevirtual 292, 3) := by decide +kernel
theorem dX12_clause_108 : decode cX12_clause 108 = .ok (.aload_n 0, 1) := by decide +kernel
theorem dX12_clause_109 : decode cX12_clause 109 = .ok (.getfield 61, 3) := by decide +kernel
theorem dX12_clause_112 : decode cX12_clause 112 = .ok (.aload_n 0, 1) := by decide +kernel
theorem dX12_clause_113 : decode cX12_clause 113 = .ok (.getfield 313, 3) := by decide +kernel
theorem dX12_clause_116 : decode cX12_clause 116 = .ok (.aload_n 0, 1) := by decide +kernel
theorem dX12_clause_117 : decode cX12_clause 117 = .ok (.getfield 242, 3) := by decide +kernel
theorem dX12_clause_120 : decode cX12_clause 120 = .ok (.iastore, 1) := by decide +kernel
theorem dX12_clause_121 : decode cX12_clause 121 = .ok (.aload_n 0, 1) := by decide +kernel
theorem dX12_clause_122 : decode cX12_clause 122 = .ok (.invokevirtual 209, 3) := by decide +kernel
theorem dX12_clause_125 : decode cX12_clause 125 = .ok (.ifCond .eq 7, 3) := by decide +kernel
theorem dX12_clause_128 : decode cX12_clause 128 = .ok (.aload_n 0, 1) := by decide +kernel
theorem dX12_clause_129 : decode cX12_clause 129 = .ok (.invokevirtual 316, 3) := by decide +kernel
theorem dX12_clause_132 : decode cX12_clause 132 = .ok (.aload_n 0, 1) := by decide +kernel
theorem dX12_clause_133 : decode cX12_clause 133 = .ok (.getfield 64, 3) := by decide +kernel
theorem dX12_clause_136 : decode cX12_clause 136 = .ok (.aload_n 0, 1) := by decide +kernel
theorem dX12_clause_137 : decode cX12_clause 137 = .ok (.getfield 313, 3) := by decide +kernel
theorem dX12_clause_140 : decode cX12_clause 140 = .ok (.aload_n 0, 1) := by decide +kernel
theorem dX12_clause_141 : decode cX12_clause 141 = .ok (.getfield 242, 3) := by decide +kernel
theorem dX12_clause_144 : decode cX12_clause 144 = .ok (.iastore, 1) := by decide +kernel
theorem dX12_clause_145 : decode cX12_clause 145 = .ok (.aload_n 0, 1) := by decide +kernel
theorem dX12_clause_146 : decode cX12_clause 146 = .ok (.dup, 1) := by decide +kernel
theorem dX12_clause_147 : decode cX12_clause 147 = .ok (.getfield 313, 3) := by decide +kernel
theorem dX12_clause_150 : decode cX12_clause 150 = .ok (.iconst 1, 1) := by decide +kernel
theorem dX12_clause_151 : decode cX12_clause 151 = .ok (.iadd, 1) := by decide +kernel
theorem dX12_clause_152 : decode cX12_clause 152 = .ok (.putfield 313, 3) := by decide +kernel
theorem dX12_clause_155 : decode cX12_clause 155 = .ok (.return_, 1) := by decide +kernel
theorem dX12_does_0 : decode cX12_does 0 = .ok (.iload_n 2, 1) := by decide +kernel
theorem dX12_does_1 : decode cX12_does 1 = .ok (.iconst 1, 1) := by decide +kernel
theorem dX12_does_2 : decode cX12_does 2 = .ok (.iadd, 1) := by decide +kernel
theorem dX12_does_3 : decode cX12_does 3 = .ok (.istore_n 3, 1) := by decide +kernel
theorem dX12_does_4 : decode cX12_does 4 = .ok (.iload_n 1, 1) := by decide +kernel
theorem dX12_does_5 : decode cX12_does 5 = .ok (.bipush 38, 2) := by decide +kernel
theorem dX12_does_7 : decode cX12_does 7 = .ok (.if_icmp .eq 9, 3) := by decide +kernel
theorem dX12_does_10 : decode cX12_does 10 = .ok (.iload_n 1, 1) := by decide +kernel
theorem dX12_does_11 : decode cX12_does 11 = .ok (.bipush 124, 2) := by decide +kernel
theorem dX12_does_13 : decode cX12_does 13 = .ok (.if_icmp .ne 58, 3) := by decide +kernel
theorem dX12_does_16 : decode cX12_does 16 = .ok (.aload_n 0, 1) := by decide +kernel
theorem dX12_does_17 : decode cX12_does 17 = .ok (.getfield 82, 3) := by decide +kernel
theorem dX12_does_20 : decode cX12_does 20 = .ok (.iload_n 2, 1) := by decide +kernel
theorem dX12_does_21 : decode cX12_does 21 = .ok (.baload, 1) := by decide +kernel
theorem dX12_does_22 : decode cX12_does 22 = .ok (.ifCond .ne 23, 3) := by decide +kernel
theorem dX12_does_25 : decode cX12_does 25 = .ok (.aload_n 0, 1) := by decide +kernel
theorem dX12_does_26 : decode cX12_does 26 = .ok (.getfield 79, 3) := by decide +kernel
theorem dX12_does_29 : decode cX12_does 29 = .ok (.iload_n 2, 1) := by decide +kernel
theorem dX12_does_30 : decode cX12_does 30 = .ok (.iaload, 1) := by decide +kernel
theorem dX12_does_31 : decode cX12_does 31 = .ok (.iload_n 1, 1) := by decide +kernel
theorem dX12_does_32 : decode cX12_does 32 = .ok (.bipush 38, 2) := by decide +kernel
theorem dX12_does_34 : decode cX12_does 34 = .ok (.if_icmp .ne 7, 3) := by decide +kernel
theorem dX12_does_37 : decode cX12_does 37 = .ok (.iconst 1, 1) := by decide +kernel
theorem dX12_does_38 : decode cX12_does 38 = .ok (.goto 4, 3) := by decide +kernel
theorem dX12_does_41 : decode cX12_does 41 = .ok (.iconst 0, 1) := by decide +kernel
theorem dX12_does_42 : decode cX12_does 42 = .ok (.if_icmp .eq 4, 3) := by decide +kernel
theorem dX12_does_45 : decode cX12_does 45 = .ok (.return_, 1) := by decide +kernel
theorem dX12_does_46 : decode cX12_does 46 = .ok (.aload_n 0, 1) := by decide +kernel
theorem dX12_does_47 : decode cX12_does 47 = .ok (.getfield 79, 3) := by decide +kernel
theorem dX12_does_50 : decode cX12_does 50 = .ok (.iload_n 2, 1) := by decide +kernel
theorem dX12_does_51 : decode cX12_does 51 = .ok (.aload_n 0, 1) := by decide +kernel
theorem dX12_does_52 : decode cX12_does 52 = .ok (.getfield 79, 3) := by decide +kernel
theorem dX12_does_55 : decode cX12_does 55 = .ok (.iload_n 3, 1) := by decide +kernel
theorem dX12_does_56 : decode cX12_does 56 = .ok (.iaload, 1) := by decide +kernel
theorem dX12_does_57 : decode cX12_does 57 = .ok (.iastore, 1) := by decide +kernel
theorem dX12_does_58 : decode cX12_does 58 = .ok (.aload_n 0, 1) := by decide +kernel
theorem dX12_does_59 : decode cX12_does 59 = .ok (.getfield 82, 3) := by decide +kernel
theorem dX12_does_62 : decode cX12_does 62 = .ok (.iload_n 2, 1) := by decide +kernel
theorem dX12_does_63 : decode cX12_does 63 = .ok (.aload_n 0, 1) := by decide +kernel
theorem dX12_does_64 : decode cX12_does 64 = .ok (.getfield 82, 3) := by decide +kernel
theorem dX12_does_67 : decode cX12_does 67 = .ok (.iload_n 3, 1) := by decide +kernel
theorem dX12_does_68 : decode cX12_does 68 = .ok (.baload, 1) := by decide +kernel
theorem dX12_does_69 : decode cX12_does 69 = .ok (.bastore, 1) := by decide +kernel
theorem dX12_does_70 : decode cX12_does 70 = .ok (.return_, 1) := by decide +kernel
theorem dX12_does_71 : decode cX12_does 71 = .ok (.aload_n 0, 1) := by decide +kernel
theorem dX12_does_72 : decode cX12_does 72 = .ok (.getfield 82, 3) := by decide +kernel
theorem dX12_does_75 : decode cX12_does 75 = .ok (.iload_n 2, 1) := by decide +kernel
theorem dX12_does_76 : decode cX12_does 76 = .ok (.aload_n 0, 1) := by decide +kernel
theorem dX12_does_77 : decode cX12_does 77 = .ok (.getfield 82, 3) := by decide +kernel
theorem dX12_does_80 : decode cX12_does 80 = .ok (.iload_n 2, 1) := by decide +kernel
theorem dX12_does_81 : decode cX12_does 81 = .ok (.baload, 1) := by decide +kernel
theorem dX12_does_82 : decode cX12_does 82 = .ok (.ifCond .ne 33, 3) := by decide +kernel
theorem dX12_does_85 : decode cX12_does 85 = .ok (.aload_n 0, 1) := by decide +kernel
theorem dX12_does_86 : decode cX12_does 86 = .ok (.getfield 82, 3) := by decide +kernel
theorem dX12_does_89 : decode cX12_does 89 = .ok (.iload_n 3, 1) := by decide +kernel
theorem dX12_does_90 : decode cX12_does 90 = .ok (.baload, 1) := by decide +kernel
theorem dX12_does_91 : decode cX12_does 91 = .ok (.ifCond .ne 24, 3) := by decide +kernel
theorem dX12_does_94 : decode cX12_does 94 = .ok (.iload_n 1, 1) := by decide +kernel
theorem dX12_does_95 : decode cX12_does 95 = .ok (.bipush 47, 2) := by decide +kernel
theorem dX12_does_97 : decode cX12_does 97 = .ok (.if_icmp .eq 9, 3) := by decide +kernel
theorem dX12_does_100 : decode cX12_does 100 = .ok (.iload_n 1, 1) := by decide +kernel
theorem dX12_does_101 : decode cX12_does 101 = .ok (.bipush 37, 2) := by decide +kernel
theorem dX12_does_103 : decode cX12_does 103 = .ok (.if_icmp .ne 16, 3) := by decide +kernel
theorem dX12_does_106 : decode cX12_does 106 = .ok (.aload_n 0, 1) := by decide +kernel
theorem dX12_does_107 : decode cX12_does 107 = .ok (.getfield 79, 3) := by decide +kernel
theorem dX12_does_110 : decode cX12_does 110 = .ok (.iload_n 3, 1) := by decide +kernel
theorem dX12_does_111 : decode cX12_does 111 = .ok (.iaload, 1) := by decide +kernel
theorem dX12_does_112 : decode cX12_does 112 = .ok (.ifCond .ne 7, 3) := by decide +kernel
theorem dX12_does_115 : decode cX12_does 115 = .ok (.iconst 1, 1) := by decide +kernel
theorem dX12_does_116 : decode cX12_does 116 = .ok (.goto 4, 3) := by decide +kernel
theorem dX12_does_119 : decode cX12_does 119 = .ok (.iconst 0, 1) := by decide +kernel
theorem dX12_does_120 : decode cX12_does 120 = .ok (.bastore, 1) := by decide +kernel
theorem dX12_does_121 : decode cX12_does 121 = .ok (.aload_n 0, 1) := by decide +kernel
theorem dX12_does_122 : decode cX12_does 122 = .ok (.getfield 79, 3) := by decide +kernel
theorem dX12_does_125 : decode cX12_does 125 = .ok (.iload_n 2, 1) := by decide +kernel
theorem dX12_does_126 : decode cX12_does 126 = .ok (.iload_n 1, 1) := by decide +kernel
theorem dX12_does_127 : decode cX12_does 127 = .ok (.aload_n 0, 1) := by decide +kernel
theorem dX12_does_128 : decode cX12_does 128 = .ok (.getfield 79, 3) := by decide +kernel
theorem dX12_does_131 : decode cX12_does 131 = .ok (.iload_n 2, 1) := by decide +kernel
theorem dX12_does_132 : decode cX12_does 132 = .ok (.iaload, 1) := by decide +kernel
theorem dX12_does_133 : decode cX12_does 133 = .ok (.aload_n 0, 1) := by decide +kernel
theorem dX12_does_134 : decode cX12_does 134 = .ok (.getfield 79, 3) := by decide +kernel
theorem dX12_does_137 : decode cX12_does 137 = .ok (.iload_n 3, 1) := by decide +kernel
theorem dX12_does_138 : decode cX12_does 138 = .ok (.iaload, 1) := by decide +kernel
theorem dX12_does_139 : decode cX12_does 139 = .ok (.invokestatic 348, 3) := by decide +kernel
theorem dX12_does_142 : decode cX12_does 142 = .ok (.iastore, 1) := by decide +kernel
theorem dX12_does_143 : decode cX12_does 143 = .ok (.return_, 1) := by decide +kernel
theorem dX12_holds_0 : decode cX12_holds 0 = .ok (.aload_n 0, 1) := by decide +kernel
theorem dX12_holds_1 : decode cX12_holds 1 = .ok (.aload_n 0, 1) := by decide +kernel
theorem dX12_holds_2 : decode cX12_holds 2 = .ok (.getfield 43, 3) := by decide +kernel
theorem dX12_holds_5 : decode cX12_holds 5 = .ok (.iload_n 1, 1) := by decide +kernel
theorem dX12_holds_6 : decode cX12_holds 6 = .ok (.iaload, 1) := by decide +kernel
theorem dX12_holds_7 : decode cX12_holds 7 = .ok (.aload_n 0, 1) := by decide +kernel
theorem dX12_holds_8 : decode cX12_holds 8 = .ok (.getfield 46, 3) := by decide +kernel
theorem dX12_holds_11 : decode cX12_holds 11 = .ok (.iload_n 1, 1) := by decide +kernel
theorem dX12_holds_12 : decode cX12_holds 12 = .ok (.iaload, 1) := by decide +kernel
theorem dX12_holds_13 : decode cX12_holds 13 = .ok (.invokevirtual 358, 3) := by decide +kernel
theorem dX12_holds_16 : decode cX12_holds 16 = .ok (.aload_n 0, 1) := by decide +kernel
theorem dX12_holds_17 : decode cX12_holds 17 = .ok (.getfield 82, 3) := by decide +kernel
theorem dX12_holds_20 : decode cX12_holds 20 = .ok (.iconst 0, 1) := by decide +kernel
theorem dX12_holds_21 : decode cX12_holds 21 = .ok (.baload, 1) := by decide +kernel
theorem dX12_holds_22 : decode cX12_holds 22 = .ok (.ifCond .ne 17, 3) := by decide +kernel
theorem dX12_holds_25 : decode cX12_holds 25 = .ok (.aload_n 0, 1) := by decide +kernel
theorem dX12_holds_26 : decode cX12_holds 26 = .ok (.getfield 79, 3) := by decide +kernel
theorem dX12_holds_29 : decode cX12_holds 29 = .ok (.iconst 0, 1) := by decide +kernel
theorem dX12_holds_30 : decode cX12_holds 30 = .ok (.iaload, 1) := by decide +kernel
theorem dX12_holds_31 : decode cX12_holds 31 = .ok (.iconst 1, 1) := by decide +kernel
theorem dX12_holds_32 : decode cX12_holds 32 = .ok (.if_icmp .ne 7, 3) := by decide +kernel
theorem dX12_holds_35 : decode cX12_holds 35 = .ok (.iconst 1, 1) := by decide +kernel
theorem dX12_holds_36 : decode cX12_holds 36 = .ok (.goto 4, 3) := by decide +kernel
theorem dX12_holds_39 : decode cX12_holds 39 = .ok (.iconst 0, 1) := by decide +kernel
theorem dX12_holds_40 : decode cX12_holds 40 = .ok (.ireturn, 1) := by decide +kernel
theorem dX12_colour_0 : decode cX12_colour 0 = .ok (.iload_n 1, 1) := by decide +kernel
theorem dX12_colour_1 : decode cX12_colour 1 = .ok (.invokestatic 378, 3) := by decide +kernel
theorem dX12_colour_4 : decode cX12_colour 4 = .ok (.ifCond .eq 15, 3) := by decide +kernel
theorem dX12_colour_7 : decode cX12_colour 7 = .ok (.iload_n 2, 1) := by decide +kernel
theorem dX12_colour_8 : decode cX12_colour 8 = .ok (.i2l, 1) := by decide +kernel
theorem dX12_colour_9 : decode cX12_colour 9 = .ok (.lconst 0, 1) := by decide +kernel
theorem dX12_colour_10 : decode cX12_colour 10 = .ok (.ldc2_w 381, 3) := by decide +kernel
theorem dX12_colour_13 : decode cX12_colour 13 = .ok (.invokestatic 181, 3) := by decide +kernel
theorem dX12_colour_16 : decode cX12_colour 16 = .ok (.ifCond .ne 5, 3) := by decide +kernel
theorem dX12_colour_19 : decode cX12_colour 19 = .ok (.iconst 0, 1) := by decide +kernel
theorem dX12_colour_20 : decode cX12_colour 20 = .ok (.ireturn, 1) := by decide +kernel
theorem dX12_colour_21 : decode cX12_colour 21 = .ok (.aload_n 0, 1) := by decide +kernel
theorem dX12_colour_22 : decode cX12_colour 22 = .ok (.getfield 76, 3) := by decide +kernel
theorem dX12_colour_25 : decode cX12_colour 25 = .ok (.iload_n 1, 1) := by decide +kernel
theorem dX12_colour_26 : decode cX12_colour 26 = .ok (.iload_n 2, 1) := by decide +kernel
theorem dX12_colour_27 : decode cX12_colour 27 = .ok (.iastore, 1) := by decide +kernel
theorem dX12_colour_28 : decode cX12_colour 28 = .ok (.iconst 1, 1) := by decide +kernel
theorem dX12_colour_29 : decode cX12_colour 29 = .ok (.ireturn, 1) := by decide +kernel
theorem dX12_goesOn_0 : decode cX12_goesOn 0 = .ok (.aload_n 0, 1) := by decide +kernel
theorem dX12_goesOn_1 : decode cX12_goesOn 1 = .ok (.dup, 1) := by decide +kernel
theorem dX12_goesOn_2 : decode cX12_goesOn 2 = .ok (.getfield 345, 3) := by decide +kernel
theorem dX12_goesOn_5 : decode cX12_goesOn 5 = .ok (.iconst 1, 1) := by decide +kernel
theorem dX12_goesOn_6 : decode cX12_goesOn 6 = .ok (.iadd, 1) := by decide +kernel
theorem dX12_goesOn_7 : decode cX12_goesOn 7 = .ok (.putfield 345, 3) := by decide +kernel
theorem dX12_goesOn_10 : decode cX12_goesOn 10 = .ok (.aload_n 0, 1) := by decide +kernel
theorem dX12_goesOn_11 : decode cX12_goesOn 11 = .ok (.aload_n 0, 1) := by decide +kernel
theorem dX12_goesOn_12 : decode cX12_goesOn 12 = .ok (.getfield 336, 3) := by decide +kernel
theorem dX12_goesOn_15 : decode cX12_goesOn 15 = .ok (.putfield 339, 3) := by decide +kernel
theorem dX12_goesOn_18 : decode cX12_goesOn 18 = .ok (.aload_n 0, 1) := by decide +kernel
theorem dX12_goesOn_19 : decode cX12_goesOn 19 = .ok (.iload_n 2, 1) := by decide +kernel
theorem dX12_goesOn_20 : decode cX12_goesOn 20 = .ok (.putfield 336, 3) := by decide +kernel
theorem dX12_goesOn_23 : decode cX12_goesOn 23 = .ok (.aload_n 0, 1) := by decide +kernel
theorem dX12_goesOn_24 : decode cX12_goesOn 24 = .ok (.iload_n 1, 1) := by decide +kernel
theorem dX12_goesOn_25 : decode cX12_goesOn 25 = .ok (.putfield 342, 3) := by decide +kernel
theorem dX12_goesOn_28 : decode cX12_goesOn 28 = .ok (.return_, 1) := by decide +kernel
theorem dX12_counts_0 : decode cX12_counts 0 = .ok (.iload_n 1, 1) := by decide +kernel
theorem dX12_counts_1 : decode cX12_counts 1 = .ok (.istore_n 2, 1) := by decide +kernel
theorem dX12_counts_2 : decode cX12_counts 2 = .ok (.iload_n 2, 1) := by decide +kernel
theorem dX12_counts_3 : decode cX12_counts 3 = .ok (.ifCond .lt 165, 3) := by decide +kernel
theorem dX12_counts_6 : decode cX12_counts 6 = .ok (.iconst 0, 1) := by decide +kernel
theorem dX12_counts_7 : decode cX12_counts 7 = .ok (.istore_n 3, 1) := by decide +kernel
theorem dX12_counts_8 : decode cX12_counts 8 = .ok (.iload_n 3, 1) := by decide +kernel
theorem dX12_counts_9 : decode cX12_counts 9 = .ok (.sipush 625, 3) := by decide +kernel
theorem dX12_counts_12 : decode cX12_counts 12 = .ok (.if_icmp .ge 150, 3) := by decide +kernel
theorem dX12_counts_15 : decode cX12_counts 15 = .ok (.aload_n 0, 1) := by decide +kernel
theorem dX12_counts_16 : decode cX12_counts 16 = .ok (.getfield 106, 3) := by decide +kernel
theorem dX12_counts_19 : decode cX12_counts 19 = .ok (.sipush 625, 3) := by decide +kernel
theorem dX12_counts_22 : decode cX12_counts 22 = .ok (.iload_n 2, 1) := by decide +kernel
theorem dX12_counts_23 : decode cX12_counts 23 = .ok (.imul, 1) := by decide +kernel
theorem dX12_counts_24 : decode cX12_counts 24 = .ok (.iload_n 3, 1) := by decide +kernel
theorem dX12_counts_25 : decode cX12_counts 25 = .ok (.iadd, 1) := by decide +kernel
theorem dX12_counts_26 : decode cX12_counts 26 = .ok (.iload_n 2, 1) := by decide +kernel
theorem dX12_counts_27 : decode cX12_counts 27 = .ok (.iload_n 1, 1) := by decide +kernel
theorem dX12_counts_28 : decode cX12_counts 28 = .ok (.if_icmp .ne 7, 3) := by decide +kernel
theorem dX12_counts_31 : decode cX12_counts 31 = .ok (.iconst 0, 1) := by decide +kernel
theorem dX12_counts_32 : decode cX12_counts 32 = .ok (.goto 6, 3) := by decide +kernel
theorem dX12_counts_35 : decode cX12_counts 35 = .ok (.ldc_w 422, 3) := by decide +kernel
theorem dX12_counts_38 : decode cX12_counts 38 = .ok (.iastore, 1) := by decide +kernel
theorem dX12_counts_39 : decode cX12_counts 39 = .ok (.iload_n 2, 1) := by decide +kernel
theorem dX12_counts_40 : decode cX12_counts 40 = .ok (.iload_n 1, 1) := by decide +kernel
theorem dX12_counts_41 : decode cX12_counts 41 = .ok (.if_icmp .eq 115, 3) := by decide +kernel
theorem dX12_counts_44 : decode cX12_counts 44 = .ok (.aload_n 0, 1) := by decide +kernel
theorem dX12_counts_45 : decode cX12_counts 45 = .ok (.getfield 109, 3) := by decide +kernel
theorem dX12_counts_48 : decode cX12_counts 48 = .ok (.sipush 625, 3) := by decide +kernel
theorem dX12_counts_51 : decode cX12_counts 51 = .ok (.iload_n 2, 1) := by decide +kernel
theorem dX12_counts_52 : decode cX12_counts 52 = .ok (.imul, 1) := by decide +kernel
theorem dX12_counts_53 : decode cX12_counts 53 = .ok (.iload_n 3, 1) := by decide +kernel
theorem dX12_counts_54 : decode cX12_counts 54 = .ok (.iadd, 1) := by decide +kernel
theorem dX12_counts_55 : decode cX12_counts 55 = .ok (.baload, 1) := by decide +kernel
theorem dX12_counts_56 : decode cX12_counts 56 = .ok (.ifCond .ne 6, 3) := by decide +kernel
theorem dX12_counts_59 : decode cX12_counts 59 = .ok (.goto 97, 3) := by decide +kernel
theorem dX12_counts_62 : decode cX12_counts 62 = .ok (.iconst 1, 1) := by decide +kernel
theorem dX12_counts_63 : decode cX12_counts 63 = .ok (.istore 4, 2) := by decide +kernel
theorem dX12_counts_65 : decode cX12_counts 65 = .ok (.iload 4, 2) := by decide +kernel
theorem dX12_counts_67 : decode cX12_counts 67 = .ok (.bipush 24, 2) := by decide +kernel
theorem dX12_counts_69 : decode cX12_counts 69 = .ok (.if_icmp .gt 87, 3) := by decide +kernel
theorem dX12_counts_72 : decode cX12_counts 72 = .ok (.aload_n 0, 1) := by decide +kernel
theorem dX12_counts_73 : decode cX12_counts 73 = .ok (.getfield 103, 3) := by decide +kernel
theorem dX12_counts_76 : decode cX12_counts 76 = .ok (.sipush 625, 3) := by decide +kernel
theorem dX12_counts_79 : decode cX12_counts 79 = .ok (.iload_n 2, 1) := by decide +kernel
theorem dX12_counts_80 : decode cX12_counts 80 = .ok (.imul, 1) := by decide +kernel
theorem dX12_counts_81 : decode cX12_counts 81 = .ok (.iload_n 3, 1) := by decide +kernel
theorem dX12_counts_82 : decode cX12_counts 82 = .ok (.iadd, 1) := by decide +kernel
theorem dX12_counts_83 : decode cX12_counts 83 = .ok (.iaload, 1) := by decide +kernel
theorem dX12_counts_84 : decode cX12_counts 84 = .ok (.iload 4, 2) := by decide +kernel
theorem dX12_counts_86 : decode cX12_counts 86 = .ok (.invokestatic 187, 3) := by decide +kernel
theorem dX12_counts_89 : decode cX12_counts 89 = .ok (.ifCond .ne 6, 3) := by decide +kernel
theorem dX12_counts_92 : decode cX12_counts 92 = .ok (.goto 58, 3) := by decide +kernel
theorem dX12_counts_95 : decode cX12_counts 95 = .ok (.iload 4, 2) := by decide +kernel
theorem dX12_counts_97 : decode cX12_counts 97 = .ok (.aload_n 0, 1) := by decide +kernel
theorem dX12_counts_98 : decode cX12_counts 98 = .ok (.getfield 106, 3) := by decide +kernel
theorem dX12_counts_101 : decode cX12_counts 101 = .ok (.sipush 625, 3) := by decide +kernel
theorem dX12_counts_104 : decode cX12_counts 104 = .ok (.iload_n 2, 1) := by decide +kernel
theorem dX12_counts_105 : decode cX12_counts 105 = .ok (.iconst 1, 1) := by decide +kernel
theorem dX12_counts_106 : decode cX12_counts 106 = .ok (.iadd, 1) := by decide +kernel
theorem dX12_counts_107 : decode cX12_counts 107 = .ok (.imul, 1) := by decide +kernel
theorem dX12_counts_108 : decode cX12_counts 108 = .ok (.iload_n 3, 1) := by decide +kernel
theorem dX12_counts_109 : decode cX12_counts 109 = .ok (.iload 4, 2) := by decide +kernel
theorem dX12_counts_111 : decode cX12_counts 111 = .ok (.invokestatic 419, 3) := by decide +kernel
theorem dX12_counts_114 : decode cX12_counts 114 = .ok (.iadd, 1) := by decide +kernel
theorem dX12_counts_115 : decode cX12_counts 115 = .ok (.iaload, 1) := by decide +kernel
theorem dX12_counts_116 : decode cX12_counts 116 = .ok (.iadd, 1) := by decide +kernel
theorem dX12_counts_117 : decode cX12_counts 117 = .ok (.istore 5, 2) := by decide +kernel
theorem dX12_counts_119 : decode cX12_counts 119 = .ok (.iload 5, 2) := by decide +kernel
theorem dX12_counts_121 : decode cX12_counts 121 = .ok (.aload_n 0, 1) := by decide +kernel
theorem dX12_counts_122 : decode cX12_counts 122 = .ok (.getfield 106, 3) := by decide +kernel
theorem dX12_counts_125 : decode cX12_counts 125 = .ok (.sipush 625, 3) := by decide +kernel
theorem dX12_counts_128 : decode cX12_counts 128 = .ok (.iload_n 2, 1) := by decide +kernel
theorem dX12_counts_129 : decode cX12_counts 129 = .ok (.imul, 1) := by decide +kernel
theorem dX12_counts_130 : decode cX12_counts 130 = .ok (.iload_n 3, 1) := by decide +kernel
theorem dX12_counts_131 : decode cX12_counts 131 = .ok (.iadd, 1) := by decide +kernel
theorem dX12_counts_132 : decode cX12_counts 132 = .ok (.iaload, 1) := by decide +kernel
theorem dX12_counts_133 : decode cX12_counts 133 = .ok (.if_icmp .ge 17, 3) := by decide +kernel
theorem dX12_counts_136 : decode cX12_counts 136 = .ok (.aload_n 0, 1) := by decide +kernel
theorem dX12_counts_137 : decode cX12_counts 137 = .ok (.getfield 106, 3) := by decide +kernel
theorem dX12_counts_140 : decode cX12_counts 140 = .ok (.sipush 625, 3) := by decide +kernel
theorem dX12_counts_143 : decode cX12_counts 143 = .ok (.iload_n 2, 1) := by decide +kernel
theorem dX12_counts_144 : decode cX12_counts 144 = .ok (.imul, 1) := by decide +kernel
theorem dX12_counts_145 : decode cX12_counts 145 = .ok (.iload_n 3, 1) := by decide +kernel
theorem dX12_counts_146 : decode cX12_counts 146 = .ok (.iadd, 1) := by decide +kernel
theorem dX12_counts_147 : decode cX12_counts 147 = .ok (.iload 5, 2) := by decide +kernel
theorem dX12_counts_149 : decode cX12_counts 149 = .ok (.iastore, 1) := by decide +kernel
theorem dX12_counts_150 : decode cX12_counts 150 = .ok (.iinc 4 1, 3) := by decide +kernel
theorem dX12_counts_153 : decode cX12_counts 153 = .ok (.goto (-88), 3) := by decide +kernel
theorem dX12_counts_156 : decode cX12_counts 156 = .ok (.iinc 3 1, 3) := by decide +kernel
theorem dX12_counts_159 : decode cX12_counts 159 = .ok (.goto (-151), 3) := by decide +kernel
theorem dX12_counts_162 : decode cX12_counts 162 = .ok (.iinc 2 (-1), 3) := by decide +kernel
theorem dX12_counts_165 : decode cX12_counts 165 = .ok (.goto (-163), 3) := by decide +kernel
theorem dX12_counts_168 : decode cX12_counts 168 = .ok (.return_, 1) := by decide +kernel
theorem dX12_heldBy_0 : decode cX12_heldBy 0 = .ok (.aload_n 0, 1) := by decide +kernel
theorem dX12_heldBy_1 : decode cX12_heldBy 1 = .ok (.iload_n 1, 1) := by decide +kernel
theorem dX12_heldBy_2 : decode cX12_heldBy 2 = .ok (.iload_n 2, 1) := by decide +kernel
theorem dX12_heldBy_3 : decode cX12_heldBy 3 = .ok (.iload_n 3, 1) := by decide +kernel
theorem dX12_heldBy_4 : decode cX12_heldBy 4 = .ok (.invokevirtual 423, 3) := by decide +kernel
theorem dX12_heldBy_7 : decode cX12_heldBy 7 = .ok (.istore 5, 2) := by decide +kernel
theorem dX12_heldBy_9 : decode cX12_heldBy 9 = .ok (.iload 4, 2) := by decide +kernel
theorem dX12_heldBy_11 : decode cX12_heldBy 11 = .ok (.bipush 20, 2) := by decide +kernel
theorem dX12_heldBy_13 : decode cX12_heldBy 13 = .ok (.if_icmp .ne 6, 3) := by decide +kernel
theorem dX12_heldBy_16 : decode cX12_heldBy 16 = .ok (.iload 5, 2) := by decide +kernel
theorem dX12_heldBy_18 : decode cX12_heldBy 18 = .ok (.ireturn, 1) := by decide +kernel
theorem dX12_heldBy_19 : decode cX12_heldBy 19 = .ok (.aload_n 0, 1) := by decide +kernel
theorem dX12_heldBy_20 : decode cX12_heldBy 20 = .ok (.iload_n 2, 1) := by decide +kernel
theorem dX12_heldBy_21 : decode cX12_heldBy 21 = .ok (.invokevirtual 426, 3) := by decide +kernel
theorem dX12_heldBy_24 : decode cX12_heldBy 24 = .ok (.aload_n 0, 1) := by decide +kernel
theorem dX12_heldBy_25 : decode cX12_heldBy 25 = .ok (.invokevirtual 410, 3) := by decide +kernel
theorem dX12_heldBy_28 : decode cX12_heldBy 28 = .ok (.istore 6, 2) := by decide +kernel
theorem dX12_heldBy_30 : decode cX12_heldBy 30 = .ok (.iload 5, 2) := by decide +kernel
theorem dX12_heldBy_32 : decode cX12_heldBy 32 = .ok (.iload_n 2, 1) := by decide +kernel
theorem dX12_heldBy_33 : decode cX12_heldBy 33 = .ok (.if_icmp .ge 6, 3) := by decide +kernel
theorem dX12_heldBy_36 : decode cX12_heldBy 36 = .ok (.bipush (-2), 2) := by decide +kernel
theorem dX12_heldBy_38 : decode cX12_heldBy 38 = .ok (.ireturn, 1) := by decide +kernel
theorem dX12_heldBy_39 : decode cX12_heldBy 39 = .ok (.iload 4, 2) := by decide +kernel
theorem dX12_heldBy_41 : decode cX12_heldBy 41 = .ok (.iconst (-1), 1) := by decide +kernel
theorem dX12_heldBy_42 : decode cX12_heldBy 42 = .ok (.if_icmp .ne 11, 3) := by decide +kernel
theorem dX12_heldBy_45 : decode cX12_heldBy 45 = .ok (.aload_n 0, 1) := by decide +kernel
theorem dX12_heldBy_46 : decode cX12_heldBy 46 = .ok (.getfield 106, 3) := by decide +kernel
theorem dX12_heldBy_49 : decode cX12_heldBy 49 = .ok (.iload 6, 2) := by decide +kernel
theorem dX12_heldBy_51 : decode cX12_heldBy 51 = .ok (.iaload, 1) := by decide +kernel
theorem dX12_heldBy_52 : decode cX12_heldBy 52 = .ok (.ireturn, 1) := by decide +kernel
theorem dX12_heldBy_53 : decode cX12_heldBy 53 = .ok (.iconst 0, 1) := by decide +kernel
theorem dX12_heldBy_54 : decode cX12_heldBy 54 = .ok (.istore 7, 2) := by decide +kernel
theorem dX12_heldBy_56 : decode cX12_heldBy 56 = .ok (.iconst 0, 1) := by decide +kernel
theorem dX12_heldBy_57 : decode cX12_heldBy 57 = .ok (.istore 8, 2) := by decide +kernel
theorem dX12_heldBy_59 : decode cX12_heldBy 59 = .ok (.iload 8, 2) := by decide +kernel
theorem dX12_heldBy_61 : decode cX12_heldBy 61 = .ok (.iload 4, 2) := by decide +kernel
theorem dX12_heldBy_63 : decode cX12_heldBy 63 = .ok (.if_icmp .gt 90, 3) := by decide +kernel
theorem dX12_heldBy_66 : decode cX12_heldBy 66 = .ok (.iconst 1, 1) := by decide +kernel
theorem dX12_heldBy_67 : decode cX12_heldBy 67 = .ok (.istore 7, 2) := by decide +kernel
theorem dX12_heldBy_69 : decode cX12_heldBy 69 = .ok (.aload_n 0, 1) := by decide +kernel
theorem dX12_heldBy_70 : decode cX12_heldBy 70 = .ok (.getfield 103, 3) := by decide +kernel
theorem dX12_heldBy_73 : decode cX12_heldBy 73 = .ok (.sipush 625, 3) := by decide +kernel
theorem dX12_heldBy_76 : decode cX12_heldBy 76 = .ok (.iload 8, 2) := by decide +kernel
theorem dX12_heldBy_78 : decode cX12_heldBy 78 = .ok (.imul, 1) := by decide +kernel
theorem dX12_heldBy_79 : decode cX12_heldBy 79 = .ok (.iload 6, 2) := by decide +kernel
theorem dX12_heldBy_81 : decode cX12_heldBy 81 = .ok (.iadd, 1) := by decide +kernel
theorem dX12_heldBy_82 : decode cX12_heldBy 82 = .ok (.iaload, 1) := by decide +kernel
theorem dX12_heldBy_83 : decode cX12_heldBy 83 = .ok (.iload 7, 2) := by decide +kernel
theorem dX12_heldBy_85 : decode cX12_heldBy 85 = .ok (.invokestatic 187, 3) := by decide +kernel
theorem dX12_heldBy_88 : decode cX12_heldBy 88 = .ok (.ifCond .eq 44, 3) := by decide +kernel
theorem dX12_heldBy_91 : decode cX12_heldBy 91 = .ok (.iload 7, 2) := by decide +kernel
theorem dX12_heldBy_93 : decode cX12_heldBy 93 = .ok (.aload_n 0, 1) := by decide +kernel
theorem dX12_heldBy_94 : decode cX12_heldBy 94 = .ok (.getfield 106, 3) := by decide +kernel
theorem dX12_heldBy_97 : decode cX12_heldBy 97 = .ok (.sipush 625, 3) := by decide +kernel
theorem dX12_heldBy_100 : decode cX12_heldBy 100 = .ok (.iload 8, 2) := by decide +kernel
theorem dX12_heldBy_102 : decode cX12_heldBy 102 = .ok (.iconst 1, 1) := by decide +kernel
theorem dX12_heldBy_103 : decode cX12_heldBy 103 = .ok (.iadd, 1) := by decide +kernel
theorem dX12_heldBy_104 : decode cX12_heldBy 104 = .ok (.imul, 1) := by decide +kernel
theorem dX12_heldBy_105 : decode cX12_heldBy 105 = .ok (.iload 6, 2) := by decide +kernel
theorem dX12_heldBy_107 : decode cX12_heldBy 107 = .ok (.iload 7, 2) := by decide +kernel
theorem dX12_heldBy_109 : decode cX12_heldBy 109 = .ok (.invokestatic 419, 3) := by decide +kernel
theorem dX12_heldBy_112 : decode cX12_heldBy 112 = .ok (.iadd, 1) := by decide +kernel
theorem dX12_heldBy_113 : decode cX12_heldBy 113 = .ok (.iaload, 1) := by decide +kernel
theorem dX12_heldBy_114 : decode cX12_heldBy 114 = .ok (.iadd, 1) := by decide +kernel
theorem dX12_heldBy_115 : decode cX12_heldBy 115 = .ok (.aload_n 0, 1) := by decide +kernel
theorem dX12_heldBy_116 : decode cX12_heldBy 116 = .ok (.getfield 106, 3) := by decide +kernel
theorem dX12_heldBy_119 : decode cX12_heldBy 119 = .ok (.sipush 625, 3) := by decide +kernel
theorem dX12_heldBy_122 : decode cX12_heldBy 122 = .ok (.iload 8, 2) := by decide +kernel
theorem dX12_heldBy_124 : decode cX12_heldBy 124 = .ok (.imul, 1) := by decide +kernel
theorem dX12_heldBy_125 : decode cX12_heldBy 125 = .ok (.iload 6, 2) := by decide +kernel
theorem dX12_heldBy_127 : decode cX12_heldBy 127 = .ok (.iadd, 1) := by decide +kernel
theorem dX12_heldBy_128 : decode cX12_heldBy 128 = .ok (.iaload, 1) := by decide +kernel
theorem dX12_heldBy_129 : decode cX12_heldBy 129 = .ok (.if_icmp .eq 9, 3) := by decide +kernel
theorem dX12_heldBy_132 : decode cX12_heldBy 132 = .ok (.iinc 7 1, 3) := by decide +kernel
theorem dX12_heldBy_135 : decode cX12_heldBy 135 = .ok (.goto (-66), 3) := by decide +kernel
theorem dX12_heldBy_138 : decode cX12_heldBy 138 = .ok (.iload 6, 2) := by decide +kernel
theorem dX12_heldBy_140 : decode cX12_heldBy 140 = .ok (.iload 7, 2) := by decide +kernel
theorem dX12_heldBy_142 : decode cX12_heldBy 142 = .ok (.invokestatic 419, 3) := by decide +kernel
theorem dX12_heldBy_145 : decode cX12_heldBy 145 = .ok (.istore 6, 2) := by decide +kernel
theorem dX12_heldBy_147 : decode cX12_heldBy 147 = .ok (.iinc 8 1, 3) := by decide +kernel
theorem dX12_heldBy_150 : decode cX12_heldBy 150 = .ok (.goto (-91), 3) := by decide +kernel
theorem dX12_heldBy_153 : decode cX12_heldBy 153 = .ok (.iload 7, 2) := by decide +kernel
theorem dX12_heldBy_155 : decode cX12_heldBy 155 = .ok (.ireturn, 1) := by decide +kernel
theorem dX12_held_0 : decode cX12_held 0 = .ok (.iload_n 1, 1) := by decide +kernel
theorem dX12_held_1 : decode cX12_held 1 = .ok (.i2l, 1) := by decide +kernel
theorem dX12_held_2 : decode cX12_held 2 = .ok (.lconst 1, 1) := by decide +kernel
theorem dX12_held_3 : decode cX12_held 3 = .ok (.ldc2_w 381, 3) := by decide +kernel
theorem dX12_held_6 : decode cX12_held 6 = .ok (.invokestatic 181, 3) := by decide +kernel
theorem dX12_held_9 : decode cX12_held 9 = .ok (.ifCond .eq 49, 3) := by decide +kernel
theorem dX12_held_12 : decode cX12_held 12 = .ok (.iload_n 2, 1) := by decide +kernel
theorem dX12_held_13 : decode cX12_held 13 = .ok (.i2l, 1) := by decide +kernel
theorem dX12_held_14 : decode cX12_held 14 = .ok (.lconst 1, 1) := by decide +kernel
theorem dX12_held_15 : decode cX12_held 15 = .ok (.ldc2_w 429, 3) := by decide +kernel
theorem dX12_held_18 : decode cX12_held 18 = .ok (.invokestatic 181, 3) := by decide +kernel
theorem dX12_held_21 : decode cX12_held 21 = .ok (.ifCond .eq 37, 3) := by decide +kernel
theorem dX12_held_24 : decode cX12_held 24 = .ok (.iload_n 3, 1) := by decide +kernel
theorem dX12_held_25 : decode cX12_held 25 = .ok (.iconst (-1), 1) := by decide +kernel
theorem dX12_held_26 : decode cX12_held 26 = .ok (.if_icmp .eq 22, 3) := by decide +kernel
theorem dX12_held_29 : decode cX12_held 29 = .ok (.iload_n 3, 1) := by decide +kernel
theorem dX12_held_30 : decode cX12_held 30 = .ok (.bipush 20, 2) := by decide +kernel
theorem dX12_held_32 : decode cX12_held 32 = .ok (.if_icmp .eq 16, 3) := by decide +kernel
theorem dX12_held_35 : decode cX12_held 35 = .ok (.iload_n 3, 1) := by decide +kernel
theorem dX12_held_36 : decode cX12_held 36 = .ok (.i2l, 1) := by decide +kernel
theorem dX12_held_37 : decode cX12_held 37 = .ok (.lconst 0, 1) := by decide +kernel
theorem dX12_held_38 : decode cX12_held 38 = .ok (.iload_n 2, 1) := by decide +kernel
theorem dX12_held_39 : decode cX12_held 39 = .ok (.iconst 1, 1) := by decide +kernel
theorem dX12_held_40 : decode cX12_held 40 = .ok (.isub, 1) := by decide +kernel
theorem dX12_held_41 : decode cX12_held 41 = .ok (.i2l, 1) := by decide +kernel
theorem dX12_held_42 : decode cX12_held 42 = .ok (.invokestatic 181, 3) := by decide +kernel
theorem dX12_held_45 : decode cX12_held 45 = .ok (.ifCond .eq 13, 3) := by decide +kernel
theorem dX12_held_48 : decode cX12_held 48 = .ok (.iconst 2, 1) := by decide +kernel
theorem dX12_held_49 : decode cX12_held 49 = .ok (.iload_n 2, 1) := by decide +kernel
theorem dX12_held_50 : decode cX12_held 50 = .ok (.imul, 1) := by decide +kernel
theorem dX12_held_51 : decode cX12_held 51 = .ok (.aload_n 0, 1) := by decide +kernel
theorem dX12_held_52 : decode cX12_held 52 = .ok (.getfield 157, 3) := by decide +kernel
theorem dX12_held_55 : decode cX12_held 55 = .ok (.if_icmp .le 5, 3) := by decide +kernel
theorem dX12_held_58 : decode cX12_held 58 = .ok (.iconst (-1), 1) := by decide +kernel
theorem dX12_held_59 : decode cX12_held 59 = .ok (.ireturn, 1) := by decide +kernel
theorem dX12_held_60 : decode cX12_held 60 = .ok (.aload_n 0, 1) := by decide +kernel
theorem dX12_held_61 : decode cX12_held 61 = .ok (.iload_n 2, 1) := by decide +kernel
theorem dX12_held_62 : decode cX12_held 62 = .ok (.iconst 2, 1) := by decide +kernel
theorem dX12_held_63 : decode cX12_held 63 = .ok (.iconst 0, 1) := by decide +kernel
theorem dX12_held_64 : decode cX12_held 64 = .ok (.invokevirtual 431, 3) := by decide +kernel
theorem dX12_held_67 : decode cX12_held 67 = .ok (.ifCond .eq 14, 3) := by decide +kernel
theorem dX12_held_70 : decode cX12_held 70 = .ok (.aload_n 0, 1) := by decide +kernel
theorem dX12_held_71 : decode cX12_held 71 = .ok (.iload_n 1, 1) := by decide +kernel
theorem dX12_held_72 : decode cX12_held 72 = .ok (.iload_n 2, 1) := by decide +kernel
theorem dX12_held_73 : decode cX12_held 73 = .ok (.iconst 0, 1) := by decide +kernel
theorem dX12_held_74 : decode cX12_held 74 = .ok (.iload_n 3, 1) := by decide +kernel
theorem dX12_held_75 : decode cX12_held 75 = .ok (.invokevirtual 435, 3) := by decide +kernel
theorem dX12_held_78 : decode cX12_held 78 = .ok (.goto 5, 3) := by decide +kernel
theorem dX12_held_81 : decode cX12_held 81 = .ok (.bipush (-3), 2) := by decide +kernel
theorem dX12_held_83 : decode cX12_held 83 = .ok (.ireturn, 1) := by decide +kernel
theorem dX12_coded_0 : decode cX12_coded 0 = .ok (.iload_n 1, 1) := by decide +kernel
theorem dX12_coded_1 : decode cX12_coded 1 = .ok (.i2l, 1) := by decide +kernel
theorem dX12_coded_2 : decode cX12_coded 2 = .ok (.ldc2_w 439, 3) := by decide +kernel
theorem dX12_coded_5 : decode cX12_coded 5 = .ok (.ldc2_w 364, 3) := by decide +kernel
theorem dX12_coded_8 : decode cX12_coded 8 = .ok (.invokestatic 181, 3) := by decide +kernel
theorem dX12_coded_11 : decode cX12_coded 11 = .ok (.ifCond .eq 49, 3) := by decide +kernel
theorem dX12_coded_14 : decode cX12_coded 14 = .ok (.iload_n 2, 1) := by decide +kernel
theorem dX12_coded_15 : decode cX12_coded 15 = .ok (.i2l, 1) := by decide +kernel
theorem dX12_coded_16 : decode cX12_coded 16 = .ok (.lconst 1, 1) := by decide +kernel
theorem dX12_coded_17 : decode cX12_coded 17 = .ok (.ldc2_w 429, 3) := by decide +kernel
theorem dX12_coded_20 : decode cX12_coded 20 = .ok (.invokestatic 181, 3) := by decide +kernel
theorem dX12_coded_23 : decode cX12_coded 23 = .ok (.ifCond .eq 37, 3) := by decide +kernel
theorem dX12_coded_26 : decode cX12_coded 26 = .ok (.iload_n 3, 1) := by decide +kernel
theorem dX12_coded_27 : decode cX12_coded 27 = .ok (.iconst (-1), 1) := by decide +kernel
theorem dX12_coded_28 : decode cX12_coded 28 = .ok (.if_icmp .eq 22, 3) := by decide +kernel
theorem dX12_coded_31 : decode cX12_coded 31 = .ok (.iload_n 3, 1) := by decide +kernel
theorem dX12_coded_32 : decode cX12_coded 32 = .ok (.bipush 20, 2) := by decide +kernel
theorem dX12_coded_34 : decode cX12_coded 34 = .ok (.if_icmp .eq 16, 3) := by decide +kernel
theorem dX12_coded_37 : decode cX12_coded 37 = .ok (.iload_n 3, 1) := by decide +kernel
theorem dX12_coded_38 : decode cX12_coded 38 = .ok (.i2l, 1) := by decide +kernel
theorem dX12_coded_39 : decode cX12_coded 39 = .ok (.lconst 0, 1) := by decide +kernel
theorem dX12_coded_40 : decode cX12_coded 40 = .ok (.iload_n 2, 1) := by decide +kernel
theorem dX12_coded_41 : decode cX12_coded 41 = .ok (.iconst 1, 1) := by decide +kernel
theorem dX12_coded_42 : decode cX12_coded 42 = .ok (.isub, 1) := by decide +kernel
theorem dX12_coded_43 : decode cX12_coded 43 = .ok (.i2l, 1) := by decide +kernel
theorem dX12_coded_44 : decode cX12_coded 44 = .ok (.invokestatic 181, 3) := by decide +kernel
theorem dX12_coded_47 : decode cX12_coded 47 = .ok (.ifCond .eq 13, 3) := by decide +kernel
theorem dX12_coded_50 : decode cX12_coded 50 = .ok (.iconst 3, 1) := by decide +kernel
theorem dX12_coded_51 : decode cX12_coded 51 = .ok (.iload_n 2, 1) := by decide +kernel
theorem dX12_coded_52 : decode cX12_coded 52 = .ok (.imul, 1) := by decide +kernel
theorem dX12_coded_53 : decode cX12_coded 53 = .ok (.aload_n 0, 1) := by decide +kernel
theorem dX12_coded_54 : decode cX12_coded 54 = .ok (.getfield 157, 3) := by decide +kernel
theorem dX12_coded_57 : decode cX12_coded 57 = .ok (.if_icmp .le 5, 3) := by decide +kernel
theorem dX12_coded_60 : decode cX12_coded 60 = .ok (.iconst (-1), 1) := by decide +kernel
theorem dX12_coded_61 : decode cX12_coded 61 = .ok (.ireturn, 1) := by decide +kernel
theorem dX12_coded_62 : decode cX12_coded 62 = .ok (.aload_n 0, 1) := by decide +kernel
theorem dX12_coded_63 : decode cX12_coded 63 = .ok (.iload_n 2, 1) := by decide +kernel
theorem dX12_coded_64 : decode cX12_coded 64 = .ok (.iconst 3, 1) := by decide +kernel
theorem dX12_coded_65 : decode cX12_coded 65 = .ok (.iload_n 1, 1) := by decide +kernel
theorem dX12_coded_66 : decode cX12_coded 66 = .ok (.invokevirtual 431, 3) := by decide +kernel
theorem dX12_coded_69 : decode cX12_coded 69 = .ok (.ifCond .eq 14, 3) := by decide +kernel
theorem dX12_coded_72 : decode cX12_coded 72 = .ok (.aload_n 0, 1) := by decide +kernel
theorem dX12_coded_73 : decode cX12_coded 73 = .ok (.iconst 1, 1) := by decide +kernel
theorem dX12_coded_74 : decode cX12_coded 74 = .ok (.iload_n 2, 1) := by decide +kernel
theorem dX12_coded_75 : decode cX12_coded 75 = .ok (.iload_n 1, 1) := by decide +kernel
theorem dX12_coded_76 : decode cX12_coded 76 = .ok (.iload_n 3, 1) := by decide +kernel
theorem dX12_coded_77 : decode cX12_coded 77 = .ok (.invokevirtual 435, 3) := by decide +kernel
theorem dX12_coded_80 : decode cX12_coded 80 = .ok (.goto 5, 3) := by decide +kernel
theorem dX12_coded_83 : decode cX12_coded 83 = .ok (.bipush (-3), 2) := by decide +kernel
theorem dX12_coded_85 : decode cX12_coded 85 = .ok (.ireturn, 1) := by decide +kernel
theorem dX12_heard_0 : decode cX12_heard 0 = .ok (.iload_n 1, 1) := by decide +kernel
theorem dX12_heard_1 : decode cX12_heard 1 = .ok (.i2l, 1) := by decide +kernel
theorem dX12_heard_2 : decode cX12_heard 2 = .ok (.lconst 1, 1) := by decide +kernel
theorem dX12_heard_3 : decode cX12_heard 3 = .ok (.ldc2_w 441, 3) := by decide +kernel
theorem dX12_heard_6 : decode cX12_heard 6 = .ok (.invokestatic 181, 3) := by decide +kernel
theorem dX12_heard_9 : decode cX12_heard 9 = .ok (.ifCond .eq 47, 3) := by decide +kernel
theorem dX12_heard_12 : decode cX12_heard 12 = .ok (.iload_n 2, 1) := by decide +kernel
theorem dX12_heard_13 : decode cX12_heard 13 = .ok (.iconst (-1), 1) := by decide +kernel
theorem dX12_heard_14 : decode cX12_heard 14 = .ok (.if_icmp .eq 32, 3) := by decide +kernel
theorem dX12_heard_17 : decode cX12_heard 17 = .ok (.iload_n 2, 1) := by decide +kernel
theorem dX12_heard_18 : decode cX12_heard 18 = .ok (.i2l, 1) := by decide +kernel
theorem dX12_heard_19 : decode cX12_heard 19 = .ok (.lconst 0, 1) := by decide +kernel
theorem dX12_heard_20 : decode cX12_heard 20 = .ok (.iload_n 1, 1) := by decide +kernel
theorem dX12_heard_21 : decode cX12_heard 21 = .ok (.iconst 1, 1) := by decide +kernel
theorem dX12_heard_22 : decode cX12_heard 22 = .ok (.isub, 1) := by decide +kernel
theorem dX12_heard_23 : decode cX12_heard 23 = .ok (.i2l, 1) := by decide +kernel
theorem dX12_heard_24 : decode cX12_heard 24 = .ok (.invokestatic 181, 3) := by decide +kernel
theorem dX12_heard_27 : decode cX12_heard 27 = .ok (.ifCond .ne 19, 3) := by decide +kernel
theorem dX12_heard_30 : decode cX12_heard 30 = .ok (.iload_n 2, 1) := by decide +kernel
theorem dX12_heard_31 : decode cX12_heard 31 = .ok (.i2l, 1) := by decide +kernel
theorem dX12_heard_32 : decode cX12_heard 32 = .ok (.ldc2_w 443, 3) := by decide +kernel
theorem dX12_heard_35 : decode cX12_heard 35 = .ok (.bipush 9, 2) := by decide +kernel
theorem dX12_heard_37 : decode cX12_heard 37 = .ok (.iload_n 1, 1) := by decide +kernel
theorem dX12_heard_38 : decode cX12_heard 38 = .ok (.iadd, 1) := by decide +kernel
theorem dX12_heard_39 : decode cX12_heard 39 = .ok (.i2l, 1) := by decide +kernel
theorem dX12_heard_40 : decode cX12_heard 40 = .ok (.invokestatic 181, 3) := by decide +kernel
theorem dX12_heard_43 : decode cX12_heard 43 = .ok (.ifCond .eq 13, 3) := by decide +kernel
theorem dX12_heard_46 : decode cX12_heard 46 = .ok (.iconst 2, 1) := by decide +kernel
theorem dX12_heard_47 : decode cX12_heard 47 = .ok (.iload_n 1, 1) := by decide +kernel
theorem dX12_heard_48 : decode cX12_heard 48 = .ok (.imul, 1) := by decide +kernel
theorem dX12_heard_49 : decode cX12_heard 49 = .ok (.aload_n 0, 1) := by decide +kernel
theorem dX12_heard_50 : decode cX12_heard 50 = .ok (.getfield 157, 3) := by decide +kernel
theorem dX12_heard_53 : decode cX12_heard 53 = .ok (.if_icmp .le 7, 3) := by decide +kernel
theorem dX12_heard_56 : decode cX12_heard 56 = .ok (.ldc2_w 445, 3) := by decide +kernel
theorem dX12_heard_59 : decode cX12_heard 59 = .ok (.lreturn, 1) := by decide +kernel
theorem dX12_heard_60 : decode cX12_heard 60 = .ok (.aload_n 0, 1) := by decide +kernel
theorem dX12_heard_61 : decode cX12_heard 61 = .ok (.iconst 0, 1) := by decide +kernel
theorem dX12_heard_62 : decode cX12_heard 62 = .ok (.putfield 157, 3) := by decide +kernel
theorem dX12_heard_65 : decode cX12_heard 65 = .ok (.iconst 0, 1) := by decide +kernel
theorem dX12_heard_66 : decode cX12_heard 66 = .ok (.istore_n 3, 1) := by decide +kernel
theorem dX12_heard_67 : decode cX12_heard 67 = .ok (.iload_n 3, 1) := by decide +kernel
theorem dX12_heard_68 : decode cX12_heard 68 = .ok (.iload_n 1, 1) := by decide +kernel
theorem dX12_heard_69 : decode cX12_heard 69 = .ok (.if_icmp .ge 41, 3) := by decide +kernel
theorem dX12_heard_72 : decode cX12_heard 72 = .ok (.aload_n 0, 1) := by decide +kernel
theorem dX12_heard_73 : decode cX12_heard 73 = .ok (.iconst 2, 1) := by decide +kernel
theorem dX12_heard_74 : decode cX12_heard 74 = .ok (.iload_n 3, 1) := by decide +kernel
theorem dX12_heard_75 : decode cX12_heard 75 = .ok (.imul, 1) := by decide +kernel
theorem dX12_heard_76 : decode cX12_heard 76 = .ok (.invokevirtual 404, 3) := by decide +kernel
theorem dX12_heard_79 : decode cX12_heard 79 = .ok (.invokestatic 378, 3) := by decide +kernel
theorem dX12_heard_82 : decode cX12_heard 82 = .ok (.ifCond .eq 18, 3) := by decide +kernel
theorem dX12_heard_85 : decode cX12_heard 85 = .ok (.aload_n 0, 1) := by decide +kernel
theorem dX12_heard_86 : decode cX12_heard 86 = .ok (.iconst 2, 1) := by decide +kernel
theorem dX12_heard_87 : decode cX12_heard 87 = .ok (.iload_n 3, 1) := by decide +kernel
theorem dX12_heard_88 : decode cX12_heard 88 = .ok (.imul, 1) := by decide +kernel
theorem dX12_heard_89 : decode cX12_heard 89 = .ok (.iconst 1, 1) := by decide +kernel
theorem dX12_heard_90 : decode cX12_heard 90 = .ok (.iadd, 1) := by decide +kernel
theorem dX12_heard_91 : decode cX12_heard 91 = .ok (.invokevirtual 404, 3) := by decide +kernel
theorem dX12_heard_94 : decode cX12_heard 94 = .ok (.invokestatic 383, 3) := by decide +kernel
theorem dX12_heard_97 : decode cX12_heard 97 = .ok (.ifCond .ne 7, 3) := by decide +kernel
theorem dX12_heard_100 : decode cX12_heard 100 = .ok (.ldc2_w 447, 3) := by decide +kernel
theorem dX12_heard_103 : decode cX12_heard 103 = .ok (.lreturn, 1) := by decide +kernel
theorem dX12_heard_104 : decode cX12_heard 104 = .ok (.iinc 3 1, 3) := by decide +kernel
theorem dX12_heard_107 : decode cX12_heard 107 = .ok (.goto (-40), 3) := by decide +kernel
theorem dX12_heard_110 : decode cX12_heard 110 = .ok (.aload_n 0, 1) := by decide +kernel
theorem dX12_heard_111 : decode cX12_heard 111 = .ok (.aload_n 0, 1) := by decide +kernel
theorem dX12_heard_112 : decode cX12_heard 112 = .ok (.getfield 386, 3) := by decide +kernel
theorem dX12_heard_115 : decode cX12_heard 115 = .ok (.invokevirtual 389, 3) := by decide +kernel
theorem dX12_heard_118 : decode cX12_heard 118 = .ok (.lconst 1, 1) := by decide +kernel
theorem dX12_heard_119 : decode cX12_heard 119 = .ok (.lstore_n 3, 1) := by decide +kernel
theorem dX12_heard_120 : decode cX12_heard 120 = .ok (.iconst 0, 1) := by decide +kernel
theorem dX12_heard_121 : decode cX12_heard 121 = .ok (.istore 5, 2) := by decide +kernel
theorem dX12_heard_123 : decode cX12_heard 123 = .ok (.iload 5, 2) := by decide +kernel
theorem dX12_heard_125 : decode cX12_heard 125 = .ok (.iload_n 1, 1) := by decide +kernel
theorem dX12_heard_126 : decode cX12_heard 126 = .ok (.if_icmp .ge 130, 3) := by decide +kernel
theorem dX12_heard_129 : decode cX12_heard 129 = .ok (.aload_n 0, 1) := by decide +kernel
theorem dX12_heard_130 : decode cX12_heard 130 = .ok (.iconst 2, 1) := by decide +kernel
theorem dX12_heard_131 : decode cX12_heard 131 = .ok (.iload 5, 2) := by decide +kernel
theorem dX12_heard_133 : decode cX12_heard 133 = .ok (.imul, 1) := by decide +kernel
theorem dX12_heard_134 : decode cX12_heard 134 = .ok (.iconst 1, 1) := by decide +kernel
theorem dX12_heard_135 : decode cX12_heard 135 = .ok (.iadd, 1) := by decide +kernel
theorem dX12_heard_136 : decode cX12_heard 136 = .ok (.invokevirtual 404, 3) := by decide +kernel
theorem dX12_heard_139 : decode cX12_heard 139 = .ok (.istore 6, 2) := by decide +kernel
theorem dX12_heard_141 : decode cX12_heard 141 = .ok (.aload_n 0, 1) := by decide +kernel
theorem dX12_heard_142 : decode cX12_heard 142 = .ok (.getfield 112, 3) := by decide +kernel
theorem dX12_heard_145 : decode cX12_heard 145 = .ok (.iload 5, 2) := by decide +kernel
theorem dX12_heard_147 : decode cX12_heard 147 = .ok (.iconst 0, 1) := by decide +kernel
theorem dX12_heard_148 : decode cX12_heard 148 = .ok (.iastore, 1) := by decide +kernel
theorem dX12_heard_149 : decode cX12_heard 149 = .ok (.iconst 0, 1) := by decide +kernel
theorem dX12_heard_150 : decode cX12_heard 150 = .ok (.istore 7, 2) := by decide +kernel
theorem dX12_heard_152 : decode cX12_heard 152 = .ok (.iload 7, 2) := by decide +kernel
theorem dX12_heard_154 : decode cX12_heard 154 = .ok (.bipush 12, 2) := by decide +kernel
theorem dX12_heard_156 : decode cX12_heard 156 = .ok (.if_icmp .ge 66, 3) := by decide +kernel
theorem dX12_heard_159 : decode cX12_heard 159 = .ok (.aload_n 0, 1) := by decide +kernel
theorem dX12_heard_160 : decode cX12_heard 160 = .ok (.aload_n 0, 1) := by decide +kernel
theorem dX12_heard_161 : decode cX12_heard 161 = .ok (.iconst 2, 1) := by decide +kernel
theorem dX12_heard_162 : decode cX12_heard 162 = .ok (.iload 5, 2) := by decide +kernel
theorem dX12_heard_164 : decode cX12_heard 164 = .ok (.imul, 1) := by decide +kernel
theorem dX12_heard_165 : decode cX12_heard 165 = .ok (.invokevirtual 404, 3) := by decide +kernel
theorem dX12_heard_168 : decode cX12_heard 168 = .ok (.iload 7, 2) := by decide +kernel
theorem dX12_heard_170 : decode cX12_heard 170 = .ok (.iload 6, 2) := by decide +kernel
theorem dX12_heard_172 : decode cX12_heard 172 = .ok (.invokevirtual 371, 3) := by decide +kernel
theorem dX12_heard_175 : decode cX12_heard 175 = .ok (.aload_n 0, 1) := by decide +kernel
theorem dX12_heard_176 : decode cX12_heard 176 = .ok (.getfield 112, 3) := by decide +kernel
theorem dX12_heard_179 : decode cX12_heard 179 = .ok (.iload 5, 2) := by decide +kernel
theorem dX12_heard_181 : decode cX12_heard 181 = .ok (.dup2, 1) := by decide +kernel
theorem dX12_heard_182 : decode cX12_heard 182 = .ok (.iaload, 1) := by decide +kernel
theorem dX12_heard_183 : decode cX12_heard 183 = .ok (.aload_n 0, 1) := by decide +kernel
theorem dX12_heard_184 : decode cX12_heard 184 = .ok (.getfield 17, 3) := by decide +kernel
theorem dX12_heard_187 : decode cX12_heard 187 = .ok (.iload 7, 2) := by decide +kernel
theorem dX12_heard_189 : decode cX12_heard 189 = .ok (.iaload, 1) := by decide +kernel
theorem dX12_heard_190 : decode cX12_heard 190 = .ok (.iload 6, 2) := by decide +kernel
theorem dX12_heard_192 : decode cX12_heard 192 = .ok (.invokestatic 187, 3) := by decide +kernel
theorem dX12_heard_195 : decode cX12_heard 195 = .ok (.ifCond .eq 18, 3) := by decide +kernel
theorem dX12_heard_198 : decode cX12_heard 198 = .ok (.aload_n 0, 1) := by decide +kernel
theorem dX12_heard_199 : decode cX12_heard 199 = .ok (.iconst 0, 1) := by decide +kernel
theorem dX12_heard_200 : decode cX12_heard 200 = .ok (.invokevirtual 375, 3) := by decide +kernel
theorem dX12_heard_203 : decode cX12_heard 203 = .ok (.ifCond .eq 10, 3) := by decide +kernel
theorem dX12_heard_206 : decode cX12_heard 206 = .ok (.iconst 1, 1) := by decide +kernel
theorem dX12_heard_207 : decode cX12_heard 207 = .ok (.iload 7, 2) := by decide +kernel
theorem dX12_heard_209 : decode cX12_heard 209 = .ok (.ishl, 1) := by decide +kernel
theorem dX12_heard_210 : decode cX12_heard 210 = .ok (.goto 4, 3) := by decide +kernel
theorem dX12_heard_213 : decode cX12_heard 213 = .ok (.iconst 0, 1) := by decide +kernel
theorem dX12_heard_214 : decode cX12_heard 214 = .ok (.ior, 1) := by decide +kernel
theorem dX12_heard_215 : decode cX12_heard 215 = .ok (.iastore, 1) := by decide +kernel
theorem dX12_heard_216 : decode cX12_heard 216 = .ok (.iinc 7 1, 3) := by decide +kernel
theorem dX12_heard_219 : decode cX12_heard 219 = .ok (.goto (-67), 3) := by decide +kernel
theorem dX12_heard_222 : decode cX12_heard 222 = .ok (.lload_n 3, 1) := by decide +kernel
theorem dX12_heard_223 : decode cX12_heard 223 = .ok (.aload_n 0, 1) := by decide +kernel
theorem dX12_heard_224 : decode cX12_heard 224 = .ok (.getfield 112, 3) := by decide +kernel
theorem dX12_heard_227 : decode cX12_heard 227 = .ok (.iload 5, 2) := by decide +kernel
theorem dX12_heard_229 : decode cX12_heard 229 = .ok (.iaload, 1) := by decide +kernel
theorem dX12_heard_230 : decode cX12_heard 230 = .ok (.invokestatic 239, 3) := by decide +kernel
theorem dX12_heard_233 : decode cX12_heard 233 = .ok (.i2l, 1) := by decide +kernel
theorem dX12_heard_234 : decode cX12_heard 234 = .ok (.lmul, 1) := by decide +kernel
theorem dX12_heard_235 : decode cX12_heard 235 = .ok (.lstore_n 3, 1) := by decide +kernel
theorem dX12_heard_236 : decode cX12_heard 236 = .ok (.aload_n 0, 1) := by decide +kernel
theorem dX12_heard_237 : decode cX12_heard 237 = .ok (.aload_n 0, 1) := by decide +kernel
theorem dX12_heard_238 : decode cX12_heard 238 = .ok (.iconst 2, 1) := by decide +kernel
theorem dX12_heard_239 : decode cX12_heard 239 = .ok (.iload 5, 2) := by decide +kernel
theorem dX12_heard_241 : decode cX12_heard 241 = .ok (.imul, 1) := by decide +kernel
theorem dX12_heard_242 : decode cX12_heard 242 = .ok (.invokevirtual 404, 3) := by decide +kernel
theorem dX12_heard_245 : decode cX12_heard 245 = .ok (.iload 6, 2) := by decide +kernel
theorem dX12_heard_247 : decode cX12_heard 247 = .ok (.invokevirtual 407, 3) := by decide +kernel
theorem dX12_heard_250 : decode cX12_heard 250 = .ok (.iinc 5 1, 3) := by decide +kernel
theorem dX12_heard_253 : decode cX12_heard 253 = .ok (.goto (-130), 3) := by decide +kernel
theorem dX12_heard_256 : decode cX12_heard 256 = .ok (.iload_n 2, 1) := by decide +kernel
theorem dX12_heard_257 : decode cX12_heard 257 = .ok (.iconst (-1), 1) := by decide +kernel
theorem dX12_heard_258 : decode cX12_heard 258 = .ok (.if_icmp .ne 5, 3) := by decide +kernel
theorem dX12_heard_261 : decode cX12_heard 261 = .ok (.lload_n 3, 1) := by decide +kernel
theorem dX12_heard_262 : decode cX12_heard 262 = .ok (.lreturn, 1) := by decide +kernel
theorem dX12_heard_263 : decode cX12_heard 263 = .ok (.iload_n 2, 1) := by decide +kernel
theorem dX12_heard_264 : decode cX12_heard 264 = .ok (.bipush 10, 2) := by decide +kernel
theorem dX12_heard_266 : decode cX12_heard 266 = .ok (.if_icmp .lt 24, 3) := by decide +kernel
theorem dX12_heard_269 : decode cX12_heard 269 = .ok (.lload_n 3, 1) := by decide +kernel
theorem dX12_heard_270 : decode cX12_heard 270 = .ok (.lconst 0, 1) := by decide +kernel
theorem dX12_heard_271 : decode cX12_heard 271 = .ok (.lcmp, 1) := by decide +kernel
theorem dX12_heard_272 : decode cX12_heard 272 = .ok (.ifCond .ne 7, 3) := by decide +kernel
theorem dX12_heard_275 : decode cX12_heard 275 = .ok (.lconst 0, 1) := by decide +kernel
theorem dX12_heard_276 : decode cX12_heard 276 = .ok (.goto 13, 3) := by decide +kernel
theorem dX12_heard_279 : decode cX12_heard 279 = .ok (.aload_n 0, 1) := by decide +kernel
theorem dX12_heard_280 : decode cX12_heard 280 = .ok (.getfield 112, 3) := by decide +kernel
theorem dX12_heard_283 : decode cX12_heard 283 = .ok (.iload_n 2, 1) := by decide +kernel
theorem dX12_heard_284 : decode cX12_heard 284 = .ok (.bipush 10, 2) := by decide +kernel
theorem dX12_heard_286 : decode cX12_heard 286 = .ok (.isub, 1) := by decide +kernel
theorem dX12_heard_287 : decode cX12_heard 287 = .ok (.iaload, 1) := by decide +kernel
theorem dX12_heard_288 : decode cX12_heard 288 = .ok (.i2l, 1) := by decide +kernel
theorem dX12_heard_289 : decode cX12_heard 289 = .ok (.lreturn, 1) := by decide +kernel
theorem dX12_heard_290 : decode cX12_heard 290 = .ok (.lload_n 3, 1) := by decide +kernel
theorem dX12_heard_291 : decode cX12_heard 291 = .ok (.lconst 0, 1) := by decide +kernel
theorem dX12_heard_292 : decode cX12_heard 292 = .ok (.lcmp, 1) := by decide +kernel
theorem dX12_heard_293 : decode cX12_heard 293 = .ok (.ifCond .ne 7, 3) := by decide +kernel
theorem dX12_heard_296 : decode cX12_heard 296 = .ok (.ldc2_w 449, 3) := by decide +kernel
theorem dX12_heard_299 : decode cX12_heard 299 = .ok (.lreturn, 1) := by decide +kernel
theorem dX12_heard_300 : decode cX12_heard 300 = .ok (.iconst 0, 1) := by decide +kernel
theorem dX12_heard_301 : decode cX12_heard 301 = .ok (.istore 5, 2) := by decide +kernel
theorem dX12_heard_303 : decode cX12_heard 303 = .ok (.aload_n 0, 1) := by decide +kernel
theorem dX12_heard_304 : decode cX12_heard 304 = .ok (.getfield 112, 3) := by decide +kernel
theorem dX12_heard_307 : decode cX12_heard 307 = .ok (.iload_n 2, 1) := by decide +kernel
theorem dX12_heard_308 : decode cX12_heard 308 = .ok (.iaload, 1) := by decide +kernel
theorem dX12_heard_309 : decode cX12_heard 309 = .ok (.iload 5, 2) := by decide +kernel
theorem dX12_heard_311 : decode cX12_heard 311 = .ok (.invokestatic 187, 3) := by decide +kernel
theorem dX12_heard_314 : decode cX12_heard 314 = .ok (.ifCond .ne 9, 3) := by decide +kernel
theorem dX12_heard_317 : decode cX12_heard 317 = .ok (.iinc 5 1, 3) := by decide +kernel
theorem dX12_heard_320 : decode cX12_heard 320 = .ok (.goto (-17), 3) := by decide +kernel
theorem dX12_heard_323 : decode cX12_heard 323 = .ok (.iload 5, 2) := by decide +kernel
theorem dX12_heard_325 : decode cX12_heard 325 = .ok (.i2l, 1) := by decide +kernel
theorem dX12_heard_326 : decode cX12_heard 326 = .ok (.lreturn, 1) := by decide +kernel
theorem dX12_canHold_0 : decode cX12_canHold 0 = .ok (.iconst 0, 1) := by decide +kernel
theorem dX12_canHold_1 : decode cX12_canHold 1 = .ok (.istore 4, 2) := by decide +kernel
theorem dX12_canHold_3 : decode cX12_canHold 3 = .ok (.iload 4, 2) := by decide +kernel
theorem dX12_canHold_5 : decode cX12_canHold 5 = .ok (.sipush 625, 3) := by decide +kernel
theorem dX12_canHold_8 : decode cX12_canHold 8 = .ok (.if_icmp .ge 30, 3) := by decide +kernel
theorem dX12_canHold_11 : decode cX12_canHold 11 = .ok (.aload_n 0, 1) := by decide +kernel
theorem dX12_canHold_12 : decode cX12_canHold 12 = .ok (.getfield 121, 3) := by decide +kernel
theorem dX12_canHold_15 : decode cX12_canHold 15 = .ok (.iload 4, 2) := by decide +kernel
theorem dX12_canHold_17 : decode cX12_canHold 17 = .ok (.iload 4, 2) := by decide +kernel
theorem dX12_canHold_19 : decode cX12_canHold 19 = .ok (.aload_n 0, 1) := by decide +kernel
theorem dX12_canHold_20 : decode cX12_canHold 20 = .ok (.invokevirtual 410, 3) := by decide +kernel
theorem dX12_canHold_23 : decode cX12_canHold 23 = .ok (.if_icmp .ne 7, 3) := by decide +kernel
theorem dX12_canHold_26 : decode cX12_canHold 26 = .ok (.iconst 1, 1) := by decide +kernel
theorem dX12_canHold_27 : decode cX12_canHold 27 = .ok (.goto 4, 3) := by decide +kernel
theorem dX12_canHold_30 : decode cX12_canHold 30 = .ok (.iconst 0, 1) := by decide +kernel
theorem dX12_canHold_31 : decode cX12_canHold 31 = .ok (.bastore, 1) := by decide +kernel
theorem dX12_canHold_32 : decode cX12_canHold 32 = .ok (.iinc 4 1, 3) := by decide +kernel
theorem dX12_canHold_35 : decode cX12_canHold 35 = .ok (.goto (-32), 3) := by decide +kernel
theorem dX12_canHold_38 : decode cX12_canHold 38 = .ok (.iconst 1, 1) := by decide +kernel
theorem dX12_canHold_39 : decode cX12_canHold 39 = .ok (.istore 4, 2) := by decide +kernel
theorem dX12_canHold_41 : decode cX12_canHold 41 = .ok (.iconst 0, 1) := by decide +kernel
theorem dX12_canHold_42 : decode cX12_canHold 42 = .ok (.istore 5, 2) := by decide +kernel
theorem dX12_canHold_44 : decode cX12_canHold 44 = .ok (.iload 5, 2) := by decide +kernel
theorem dX12_canHold_46 : decode cX12_canHold 46 = .ok (.iload_n 3, 1) := by decide +kernel
theorem dX12_canHold_47 : decode cX12_canHold 47 = .ok (.if_icmp .ge 201, 3) := by decide +kernel
theorem dX12_canHold_50 : decode cX12_canHold 50 = .ok (.iload 4, 2) := by decide +kernel
theorem dX12_canHold_52 : decode cX12_canHold 52 = .ok (.ifCond .eq 196, 3) := by decide +kernel
theorem dX12_canHold_55 : decode cX12_canHold 55 = .ok (.iload_n 1, 1) := by decide +kernel
theorem dX12_canHold_56 : decode cX12_canHold 56 = .ok (.iload_n 2, 1) := by decide +kernel
theorem dX12_canHold_57 : decode cX12_canHold 57 = .ok (.iload_n 3, 1) := by decide +kernel
theorem dX12_canHold_58 : decode cX12_canHold 58 = .ok (.iconst 1, 1) := by decide +kernel
theorem dX12_canHold_59 : decode cX12_canHold 59 = .ok (.isub, 1) := by decide +kernel
theorem dX12_canHold_60 : decode cX12_canHold 60 = .ok (.iload 5, 2) := by decide +kernel
theorem dX12_canHold_62 : decode cX12_canHold 62 = .ok (.isub, 1) := by decide +kernel
theorem dX12_canHold_63 : decode cX12_canHold 63 = .ok (.invokestatic 451, 3) := by decide +kernel
theorem dX12_canHold_66 : decode cX12_canHold 66 = .ok (.idiv, 1) := by decide +kernel
theorem dX12_canHold_67 : decode cX12_canHold 67 = .ok (.iload_n 2, 1) := by decide +kernel
theorem dX12_canHold_68 : decode cX12_canHold 68 = .ok (.irem, 1) := by decide +kernel
theorem dX12_canHold_69 : decode cX12_canHold 69 = .ok (.istore 6, 2) := by decide +kernel
theorem dX12_canHold_71 : decode cX12_canHold 71 = .ok (.iconst 0, 1) := by decide +kernel
theorem dX12_canHold_72 : decode cX12_canHold 72 = .ok (.istore 4, 2) := by decide +kernel
theorem dX12_canHold_74 : decode cX12_canHold 74 = .ok (.iconst 0, 1) := by decide +kernel
theorem dX12_canHold_75 : decode cX12_canHold 75 = .ok (.istore 7, 2) := by decide +kernel
theorem dX12_canHold_77 : decode cX12_canHold 77 = .ok (.iload 7, 2) := by decide +kernel
theorem dX12_canHold_79 : decode cX12_canHold 79 = .ok (.sipush 625, 3) := by decide +kernel
theorem dX12_canHold_82 : decode cX12_canHold 82 = .ok (.if_icmp .ge 17, 3) := by decide +kernel
theorem dX12_canHold_85 : decode cX12_canHold 85 = .ok (.aload_n 0, 1) := by decide +kernel
theorem dX12_canHold_86 : decode cX12_canHold 86 = .ok (.getfield 124, 3) := by decide +kernel
theorem dX12_canHold_89 : decode cX12_canHold 89 = .ok (.iload 7, 2) := by decide +kernel
theorem dX12_canHold_91 : decode cX12_canHold 91 = .ok (.iconst 0, 1) := by decide +kernel
theorem dX12_canHold_92 : decode cX12_canHold 92 = .ok (.bastore, 1) := by decide +kernel
theorem dX12_canHold_93 : decode cX12_canHold 93 = .ok (.iinc 7 1, 3) := by decide +kernel
theorem dX12_canHold_96 : decode cX12_canHold 96 = .ok (.goto (-19), 3) := by decide +kernel
theorem dX12_canHold_99 : decode cX12_canHold 99 = .ok (.iconst 0, 1) := by decide +kernel
theorem dX12_canHold_100 : decode cX12_canHold 100 = .ok (.istore 7, 2) := by decide +kernel
theorem dX12_canHold_102 : decode cX12_canHold 102 = .ok (.iload 7, 2) := by decide +kernel
theorem dX12_canHold_104 : decode cX12_canHold 104 = .ok (.sipush 625, 3) := by decide +kernel
theorem dX12_canHold_107 : decode cX12_canHold 107 = .ok (.if_icmp .ge 104, 3) := by decide +kernel
theorem dX12_canHold_110 : decode cX12_canHold 110 = .ok (.aload_n 0, 1) := by decide +kernel
theorem dX12_canHold_111 : decode cX12_canHold 111 = .ok (.getfield 121, 3) := by decide +kernel
theorem dX12_canHold_114 : decode cX12_canHold 114 = .ok (.iload 7, 2) := by decide +kernel
theorem dX12_canHold_116 : decode cX12_canHold 116 = .ok (.baload, 1) := by decide +kernel
theorem dX12_canHold_117 : decode cX12_canHold 117 = .ok (.ifCond .ne 6, 3) := by decide +kernel
theorem dX12_canHold_120 : decode cX12_canHold 120 = .ok (.goto 85, 3) := by decide +kernel
theorem dX12_canHold_123 : decode cX12_canHold 123 = .ok (.aload_n 0, 1) := by decide +kernel
theorem dX12_canHold_124 : decode cX12_canHold 124 = .ok (.getfield 118, 3) := by decide +kernel
theorem dX12_canHold_127 : decode cX12_canHold 127 = .ok (.iconst 4, 1) := by decide +kernel
theorem dX12_canHold_128 : decode cX12_canHold 128 = .ok (.iload 5, 2) := by decide +kernel
theorem dX12_canHold_130 : decode cX12_canHold 130 = .ok (.imul, 1) := by decide +kernel
theorem dX12_canHold_131 : decode cX12_canHold 131 = .ok (.iload 6, 2) := by decide +kernel
theorem dX12_canHold_133 : decode cX12_canHold 133 = .ok (.iadd, 1) := by decide +kernel
theorem dX12_canHold_134 : decode cX12_canHold 134 = .ok (.sipush 625, 3) := by decide +kernel
theorem dX12_canHold_137 : decode cX12_canHold 137 = .ok (.imul, 1) := by decide +kernel
theorem dX12_canHold_138 : decode cX12_canHold 138 = .ok (.iload 7, 2) := by decide +kernel
theorem dX12_canHold_140 : decode cX12_canHold 140 = .ok (.iadd, 1) := by decide +kernel
theorem dX12_canHold_141 : decode cX12_canHold 141 = .ok (.iaload, 1) := by decide +kernel
theorem dX12_canHold_142 : decode cX12_canHold 142 = .ok (.istore 8, 2) := by decide +kernel
theorem dX12_canHold_144 : decode cX12_canHold 144 = .ok (.iload 4, 2) := by decide +kernel
theorem dX12_canHold_146 : decode cX12_canHold 146 = .ok (.ifCond .ne 8, 3) := by decide +kernel
theorem dX12_canHold_149 : decode cX12_canHold 149 = .ok (.iload 8, 2) := by decide +kernel
theorem dX12_canHold_151 : decode cX12_canHold 151 = .ok (.ifCond .eq 7, 3) := by decide +kernel
theorem dX12_canHold_154 : decode cX12_canHold 154 = .ok (.iconst 1, 1) := by decide +kernel
theorem dX12_canHold_155 : decode cX12_canHold 155 = .ok (.goto 4, 3) := by decide +kernel
theorem dX12_canHold_158 : decode cX12_canHold 158 = .ok (.iconst 0, 1) := by decide +kernel
theorem dX12_canHold_159 : decode cX12_canHold 159 = .ok (.istore 4, 2) := by decide +kernel
theorem dX12_canHold_161 : decode cX12_canHold 161 = .ok (.iconst 1, 1) := by decide +kernel
theorem dX12_canHold_162 : decode cX12_canHold 162 = .ok (.istore 9, 2) := by decide +kernel
theorem dX12_canHold_164 : decode cX12_canHold 164 = .ok (.iload 9, 2) := by decide +kernel
theorem dX12_canHold_166 : decode cX12_canHold 166 = .ok (.bipush 24, 2) := by decide +kernel
theorem dX12_canHold_168 : decode cX12_canHold 168 = .ok (.if_icmp .gt 37, 3) := by decide +kernel
theorem dX12_canHold_171 : decode cX12_canHold 171 = .ok (.iload 8, 2) := by decide +kernel
theorem dX12_canHold_173 : decode cX12_canHold 173 = .ok (.ifCond .eq 32, 3) := by decide +kernel
theorem dX12_canHold_176 : decode cX12_canHold 176 = .ok (.iload 8, 2) := by decide +kernel
theorem dX12_canHold_178 : decode cX12_canHold 178 = .ok (.iload 9, 2) := by decide +kernel
theorem dX12_canHold_180 : decode cX12_canHold 180 = .ok (.invokestatic 187, 3) := by decide +kernel
theorem dX12_canHold_183 : decode cX12_canHold 183 = .ok (.ifCond .eq 16, 3) := by decide +kernel
theorem dX12_canHold_186 : decode cX12_canHold 186 = .ok (.aload_n 0, 1) := by decide +kernel
theorem dX12_canHold_187 : decode cX12_canHold 187 = .ok (.getfield 124, 3) := by decide +kernel
theorem dX12_canHold_190 : decode cX12_canHold 190 = .ok (.iload 7, 2) := by decide +kernel
theorem dX12_canHold_192 : decode cX12_canHold 192 = .ok (.iload 9, 2) := by decide +kernel
theorem dX12_canHold_194 : decode cX12_canHold 194 = .ok (.invokestatic 419, 3) := by decide +kernel
theorem dX12_canHold_197 : decode cX12_canHold 197 = .ok (.iconst 1, 1) := by decide +kernel
theorem dX12_canHold_198 : decode cX12_canHold 198 = .ok (.bastore, 1) := by decide +kernel
theorem dX12_canHold_199 : decode cX12_canHold 199 = .ok (.iinc 9 1, 3) := by decide +kernel
theorem dX12_canHold_202 : decode cX12_canHold 202 = .ok (.goto (-38), 3) := by decide +kernel
theorem dX12_canHold_205 : decode cX12_canHold 205 = .ok (.iinc 7 1, 3) := by decide +kernel
theorem dX12_canHold_208 : decode cX12_canHold 208 = .ok (.goto (-106), 3) := by decide +kernel
theorem dX12_canHold_211 : decode cX12_canHold 211 = .ok (.iconst 0, 1) := by decide +kernel
theorem dX12_canHold_212 : decode cX12_canHold 212 = .ok (.istore 7, 2) := by decide +kernel
theorem dX12_canHold_214 : decode cX12_canHold 214 = .ok (.iload 7, 2) := by decide +kernel
theorem dX12_canHold_216 : decode cX12_canHold 216 = .ok (.sipush 625, 3) := by decide +kernel
theorem dX12_canHold_219 : decode cX12_canHold 219 = .ok (.if_icmp .ge 23, 3) := by decide +kernel
theorem dX12_canHold_222 : decode cX12_canHold 222 = .ok (.aload_n 0, 1) := by decide +kernel
theorem dX12_canHold_223 : decode cX12_canHold 223 = .ok (.getfield 121, 3) := by decide +kernel
theorem dX12_canHold_226 : decode cX12_canHold 226 = .ok (.iload 7, 2) := by decide +kernel
theorem dX12_canHold_228 : decode cX12_canHold 228 = .ok (.aload_n 0, 1) := by decide +kernel
theorem dX12_canHold_229 : decode cX12_canHold 229 = .ok (.getfield 124, 3) := by decide +kernel
theorem dX12_canHold_232 : decode cX12_canHold 232 = .ok (.iload 7, 2) := by decide +kernel
theorem dX12_canHold_234 : decode cX12_canHold 234 = .ok (.baload, 1) := by decide +kernel
theorem dX12_canHold_235 : decode cX12_canHold 235 = .ok (.bastore, 1) := by decide +kernel
theorem dX12_canHold_236 : decode cX12_canHold 236 = .ok (.iinc 7 1, 3) := by decide +kernel
theorem dX12_canHold_239 : decode cX12_canHold 239 = .ok (.goto (-25), 3) := by decide +kernel
theorem dX12_canHold_242 : decode cX12_canHold 242 = .ok (.iinc 5 1, 3) := by decide +kernel
theorem dX12_canHold_245 : decode cX12_canHold 245 = .ok (.goto (-201), 3) := by decide +kernel
theorem dX12_canHold_248 : decode cX12_canHold 248 = .ok (.iload 4, 2) := by decide +kernel
theorem dX12_canHold_250 : decode cX12_canHold 250 = .ok (.ireturn, 1) := by decide +kernel
theorem dX12_anyTalk_0 : decode cX12_anyTalk 0 = .ok (.iload_n 1, 1) := by decide +kernel
theorem dX12_anyTalk_1 : decode cX12_anyTalk 1 = .ok (.i2l, 1) := by decide +kernel
theorem dX12_anyTalk_2 : decode cX12_anyTalk 2 = .ok (.lconst 1, 1) := by decide +kernel
theorem dX12_anyTalk_3 : decode cX12_anyTalk 3 = .ok (.ldc2_w 454, 3) := by decide +kernel
theorem dX12_anyTalk_6 : decode cX12_anyTalk 6 = .ok (.invokestatic 181, 3) := by decide +kernel
theorem dX12_anyTalk_9 : decode cX12_anyTalk 9 = .ok (.ifCond .eq 41, 3) := by decide +kernel
theorem dX12_anyTalk_12 : decode cX12_anyTalk 12 = .ok (.iload_n 1, 1) := by decide +kernel
theorem dX12_anyTalk_13 : decode cX12_anyTalk 13 = .ok (.invokestatic 239, 3) := by decide +kernel
theorem dX12_anyTalk_16 : decode cX12_anyTalk 16 = .ok (.iconst 4, 1) := by decide +kernel
theorem dX12_anyTalk_17 : decode cX12_anyTalk 17 = .ok (.if_icmp .gt 33, 3) := by decide +kernel
theorem dX12_anyTalk_20 : decode cX12_anyTalk 20 = .ok (.iload_n 2, 1) := by decide +kernel
theorem dX12_anyTalk_21 : decode cX12_anyTalk 21 = .ok (.i2l, 1) := by decide +kernel
theorem dX12_anyTalk_22 : decode cX12_anyTalk 22 = .ok (.lconst 1, 1) := by decide +kernel
theorem dX12_anyTalk_23 : decode cX12_anyTalk 23 = .ok (.ldc2_w 364, 3) := by decide +kernel
theorem dX12_anyTalk_26 : decode cX12_anyTalk 26 = .ok (.invokestatic 181, 3) := by decide +kernel
theorem dX12_anyTalk_29 : decode cX12_anyTalk 29 = .ok (.ifCond .eq 21, 3) := by decide +kernel
theorem dX12_anyTalk_32 : decode cX12_anyTalk 32 = .ok (.iload_n 3, 1) := by decide +kernel
theorem dX12_anyTalk_33 : decode cX12_anyTalk 33 = .ok (.iconst (-1), 1) := by decide +kernel
theorem dX12_anyTalk_34 : decode cX12_anyTalk 34 = .ok (.if_icmp .eq 19, 3) := by decide +kernel
theorem dX12_anyTalk_37 : decode cX12_anyTalk 37 = .ok (.iload_n 3, 1) := by decide +kernel
theorem dX12_anyTalk_38 : decode cX12_anyTalk 38 = .ok (.i2l, 1) := by decide +kernel
theorem dX12_anyTalk_39 : decode cX12_anyTalk 39 = .ok (.lconst 0, 1) := by decide +kernel
theorem dX12_anyTalk_40 : decode cX12_anyTalk 40 = .ok (.iload_n 2, 1) := by decide +kernel
theorem dX12_anyTalk_41 : decode cX12_anyTalk 41 = .ok (.iconst 1, 1) := by decide +kernel
theorem dX12_anyTalk_42 : decode cX12_anyTalk 42 = .ok (.isub, 1) := by decide +kernel
theorem dX12_anyTalk_43 : decode cX12_anyTalk 43 = .ok (.i2l, 1) := by decide +kernel
theorem dX12_anyTalk_44 : decode cX12_anyTalk 44 = .ok (.invokestatic 181, 3) := by decide +kernel
theorem dX12_anyTalk_47 : decode cX12_anyTalk 47 = .ok (.ifCond .ne 6, 3) := by decide +kernel
theorem dX12_anyTalk_50 : decode cX12_anyTalk 50 = .ok (.bipush (-3), 2) := by decide +kernel
theorem dX12_anyTalk_52 : decode cX12_anyTalk 52 = .ok (.ireturn, 1) := by decide +kernel
theorem dX12_anyTalk_53 : decode cX12_anyTalk 53 = .ok (.iconst 0, 1) := by decide +kernel
theorem dX12_anyTalk_54 : decode cX12_anyTalk 54 = .ok (.istore 4, 2) := by decide +kernel
theorem dX12_anyTalk_56 : decode cX12_anyTalk 56 = .ok (.iconst 0, 1) := by decide +kernel
theorem dX12_anyTalk_57 : decode cX12_anyTalk 57 = .ok (.istore 5, 2) := by decide +kernel
theorem dX12_anyTalk_59 : decode cX12_anyTalk 59 = .ok (.iload 5, 2) := by decide +kernel
theorem dX12_anyTalk_61 : decode cX12_anyTalk 61 = .ok (.bipush 12, 2) := by decide +kernel
theorem dX12_anyTalk_63 : decode cX12_anyTalk 63 = .ok (.if_icmp .ge 33, 3) := by decide +kernel
theorem dX12_anyTalk_66 : decode cX12_anyTalk 66 = .ok (.iload_n 1, 1) := by decide +kernel
theorem dX12_anyTalk_67 : decode cX12_anyTalk 67 = .ok (.iload 5, 2) := by decide +kernel
theorem dX12_anyTalk_69 : decode cX12_anyTalk 69 = .ok (.invokestatic 187, 3) := by decide +kernel
theorem dX12_anyTalk_72 : decode cX12_anyTalk 72 = .ok (.ifCond .ne 6, 3) := by decide +kernel
theorem dX12_anyTalk_75 : decode cX12_anyTalk 75 = .ok (.goto 15, 3) := by decide +kernel
theorem dX12_anyTalk_78 : decode cX12_anyTalk 78 = .ok (.aload_n 0, 1) := by decide +kernel
theorem dX12_anyTalk_79 : decode cX12_anyTalk 79 = .ok (.getfield 115, 3) := by decide +kernel
theorem dX12_anyTalk_82 : decode cX12_anyTalk 82 = .ok (.iload 4, 2) := by decide +kernel
theorem dX12_anyTalk_84 : decode cX12_anyTalk 84 = .ok (.iload 5, 2) := by decide +kernel
theorem dX12_anyTalk_86 : decode cX12_anyTalk 86 = .ok (.iastore, 1) := by decide +kernel
theorem dX12_anyTalk_87 : decode cX12_anyTalk 87 = .ok (.iinc 4 1, 3) := by decide +kernel
theorem dX12_anyTalk_90 : decode cX12_anyTalk 90 = .ok (.iinc 5 1, 3) := by decide +kernel
theorem dX12_anyTalk_93 : decode cX12_anyTalk 93 = .ok (.goto (-34), 3) := by decide +kernel
theorem dX12_anyTalk_96 : decode cX12_anyTalk 96 = .ok (.aload_n 0, 1) := by decide +kernel
theorem dX12_anyTalk_97 : decode cX12_anyTalk 97 = .ok (.iload 4, 2) := by decide +kernel
theorem dX12_anyTalk_99 : decode cX12_anyTalk 99 = .ok (.iload_n 2, 1) := by decide +kernel
theorem dX12_anyTalk_100 : decode cX12_anyTalk 100 = .ok (.invokevirtual 456, 3) := by decide +kernel
theorem dX12_anyTalk_103 : decode cX12_anyTalk 103 = .ok (.iload 4, 2) := by decide +kernel
theorem dX12_anyTalk_105 : decode cX12_anyTalk 105 = .ok (.iload_n 2, 1) := by decide +kernel
theorem dX12_anyTalk_106 : decode cX12_anyTalk 106 = .ok (.invokestatic 451, 3) := by decide +kernel
theorem dX12_anyTalk_109 : decode cX12_anyTalk 109 = .ok (.istore 5, 2) := by decide +kernel
theorem dX12_anyTalk_111 : decode cX12_anyTalk 111 = .ok (.iconst 0, 1) := by decide +kernel
theorem dX12_anyTalk_112 : decode cX12_anyTalk 112 = .ok (.istore 6, 2) := by decide +kernel
theorem dX12_anyTalk_114 : decode cX12_anyTalk 114 = .ok (.iload 6, 2) := by decide +kernel
theorem dX12_anyTalk_116 : decode cX12_anyTalk 116 = .ok (.iload 5, 2) := by decide +kernel
theorem dX12_anyTalk_118 : decode cX12_anyTalk 118 = .ok (.if_icmp .ge 52, 3) := by decide +kernel
theorem dX12_anyTalk_121 : decode cX12_anyTalk 121 = .ok (.aload_n 0, 1) := by decide +kernel
theorem dX12_anyTalk_122 : decode cX12_anyTalk 122 = .ok (.iload 6, 2) := by decide +kernel
theorem dX12_anyTalk_124 : decode cX12_anyTalk 124 = .ok (.iload 4, 2) := by decide +kernel
theorem dX12_anyTalk_126 : decode cX12_anyTalk 126 = .ok (.iload_n 2, 1) := by decide +kernel
theorem dX12_anyTalk_127 : decode cX12_anyTalk 127 = .ok (.invokevirtual 459, 3) := by decide +kernel
theorem dX12_anyTalk_130 : decode cX12_anyTalk 130 = .ok (.ifCond .ne 34, 3) := by decide +kernel
theorem dX12_anyTalk_133 : decode cX12_anyTalk 133 = .ok (.iload_n 3, 1) := by decide +kernel
theorem dX12_anyTalk_134 : decode cX12_anyTalk 134 = .ok (.iconst (-1), 1) := by decide +kernel
theorem dX12_anyTalk_135 : decode cX12_anyTalk 135 = .ok (.if_icmp .ne 7, 3) := by decide +kernel
theorem dX12_anyTalk_138 : decode cX12_anyTalk 138 = .ok (.iconst 0, 1) := by decide +kernel
theorem dX12_anyTalk_139 : decode cX12_anyTalk 139 = .ok (.goto 24, 3) := by decide +kernel
theorem dX12_anyTalk_142 : decode cX12_anyTalk 142 = .ok (.aload_n 0, 1) := by decide +kernel
theorem dX12_anyTalk_143 : decode cX12_anyTalk 143 = .ok (.getfield 115, 3) := by decide +kernel
theorem dX12_anyTalk_146 : decode cX12_anyTalk 146 = .ok (.iload 6, 2) := by decide +kernel
theorem dX12_anyTalk_148 : decode cX12_anyTalk 148 = .ok (.iload 4, 2) := by decide +kernel
theorem dX12_anyTalk_150 : decode cX12_anyTalk 150 = .ok (.iload_n 2, 1) := by decide +kernel
theorem dX12_anyTalk_151 : decode cX12_anyTalk 151 = .ok (.iconst 1, 1) := by decide +kernel
theorem dX12_anyTalk_152 : decode cX12_anyTalk 152 = .ok (.isub, 1) := by decide +kernel
theorem dX12_anyTalk_153 : decode cX12_anyTalk 153 = .ok (.iload_n 3, 1) := by decide +kernel
theorem dX12_anyTalk_154 : decode cX12_anyTalk 154 = .ok (.isub, 1) := by decide +kernel
theorem dX12_anyTalk_155 : decode cX12_anyTalk 155 = .ok (.invokestatic 451, 3) := by decide +kernel
theorem dX12_anyTalk_158 : decode cX12_anyTalk 158 = .ok (.idiv, 1) := by decide +kernel
theorem dX12_anyTalk_159 : decode cX12_anyTalk 159 = .ok (.iload 4, 2) := by decide +kernel
theorem dX12_anyTalk_161 : decode cX12_anyTalk 161 = .ok (.irem, 1) := by decide +kernel
theorem dX12_anyTalk_162 : decode cX12_anyTalk 162 = .ok (.iaload, 1) := by decide +kernel
theorem dX12_anyTalk_163 : decode cX12_anyTalk 163 = .ok (.ireturn, 1) := by decide +kernel
theorem dX12_anyTalk_164 : decode cX12_anyTalk 164 = .ok (.iinc 6 1, 3) := by decide +kernel
theorem dX12_anyTalk_167 : decode cX12_anyTalk 167 = .ok (.goto (-53), 3) := by decide +kernel
theorem dX12_anyTalk_170 : decode cX12_anyTalk 170 = .ok (.iload_n 3, 1) := by decide +kernel
theorem dX12_anyTalk_171 : decode cX12_anyTalk 171 = .ok (.iconst (-1), 1) := by decide +kernel
theorem dX12_anyTalk_172 : decode cX12_anyTalk 172 = .ok (.if_icmp .ne 7, 3) := by decide +kernel
theorem dX12_anyTalk_175 : decode cX12_anyTalk 175 = .ok (.iconst 1, 1) := by decide +kernel
theorem dX12_anyTalk_176 : decode cX12_anyTalk 176 = .ok (.goto 5, 3) := by decide +kernel
theorem dX12_anyTalk_179 : decode cX12_anyTalk 179 = .ok (.bipush (-2), 2) := by decide +kernel
theorem dX12_anyTalk_181 : decode cX12_anyTalk 181 = .ok (.ireturn, 1) := by decide +kernel
theorem dX12_betterOf_0 : decode cX12_betterOf 0 = .ok (.iload_n 0, 1) := by decide +kernel
theorem dX12_betterOf_1 : decode cX12_betterOf 1 = .ok (.iload_n 1, 1) := by decide +kernel
theorem dX12_betterOf_2 : decode cX12_betterOf 2 = .ok (.if_icmp .le 7, 3) := by decide +kernel
theorem dX12_betterOf_5 : decode cX12_betterOf 5 = .ok (.iload_n 0, 1) := by decide +kernel
theorem dX12_betterOf_6 : decode cX12_betterOf 6 = .ok (.goto 4, 3) := by decide +kernel
theorem dX12_betterOf_9 : decode cX12_betterOf 9 = .ok (.iload_n 1, 1) := by decide +kernel
theorem dX12_betterOf_10 : decode cX12_betterOf 10 = .ok (.ireturn, 1) := by decide +kernel
theorem dX12_comesOut_0 : decode cX12_comesOut 0 = .ok (.aload_n 0, 1) := by decide +kernel
theorem dX12_comesOut_1 : decode cX12_comesOut 1 = .ok (.iload_n 1, 1) := by decide +kernel
theorem dX12_comesOut_2 : decode cX12_comesOut 2 = .ok (.iload_n 2, 1) := by decide +kernel
theorem dX12_comesOut_3 : decode cX12_comesOut 3 = .ok (.bipush 25, 2) := by decide +kernel
theorem dX12_comesOut_5 : decode cX12_comesOut 5 = .ok (.idiv, 1) := by decide +kernel
theorem dX12_comesOut_6 : decode cX12_comesOut 6 = .ok (.iload_n 2, 1) := by decide +kernel
theorem dX12_comesOut_7 : decode cX12_comesOut 7 = .ok (.bipush 25, 2) := by decide +kernel
theorem dX12_comesOut_9 : decode cX12_comesOut 9 = .ok (.irem, 1) := by decide +kernel
theorem dX12_comesOut_10 : decode cX12_comesOut 10 = .ok (.invokevirtual 413, 3) := by decide +kernel
theorem dX12_comesOut_13 : decode cX12_comesOut 13 = .ok (.iconst (-1), 1) := by decide +kernel
theorem dX12_comesOut_14 : decode cX12_comesOut 14 = .ok (.istore 5, 2) := by decide +kernel
theorem dX12_comesOut_16 : decode cX12_comesOut 16 = .ok (.iconst 0, 1) := by decide +kernel
theorem dX12_comesOut_17 : decode cX12_comesOut 17 = .ok (.istore 6, 2) := by decide +kernel
theorem dX12_comesOut_19 : decode cX12_comesOut 19 = .ok (.iload 6, 2) := by decide +kernel
theorem dX12_comesOut_21 : decode cX12_comesOut 21 = .ok (.bipush 12, 2) := by decide +kernel
theorem dX12_comesOut_23 : decode cX12_comesOut 23 = .ok (.if_icmp .ge 85, 3) := by decide +kernel
theorem dX12_comesOut_26 : decode cX12_comesOut 26 = .ok (.iload 4, 2) := by decide +kernel
theorem dX12_comesOut_28 : decode cX12_comesOut 28 = .ok (.iload 6, 2) := by decide +kernel
theorem dX12_comesOut_30 : decode cX12_comesOut 30 = .ok (.invokestatic 187, 3) := by decide +kernel
theorem dX12_comesOut_33 : decode cX12_comesOut 33 = .ok (.ifCond .ne 6, 3) := by decide +kernel
theorem dX12_comesOut_36 : decode cX12_comesOut 36 = .ok (.goto 66, 3) := by decide +kernel
theorem dX12_comesOut_39 : decode cX12_comesOut 39 = .ok (.aload_n 0, 1) := by decide +kernel
theorem dX12_comesOut_40 : decode cX12_comesOut 40 = .ok (.iconst 1, 1) := by decide +kernel
theorem dX12_comesOut_41 : decode cX12_comesOut 41 = .ok (.iload_n 3, 1) := by decide +kernel
theorem dX12_comesOut_42 : decode cX12_comesOut 42 = .ok (.iload 6, 2) := by decide +kernel
theorem dX12_comesOut_44 : decode cX12_comesOut 44 = .ok (.invokevirtual 392, 3) := by decide +kernel
theorem dX12_comesOut_47 : decode cX12_comesOut 47 = .ok (.istore 7, 2) := by decide +kernel
theorem dX12_comesOut_49 : decode cX12_comesOut 49 = .ok (.iconst 1, 1) := by decide +kernel
theorem dX12_comesOut_50 : decode cX12_comesOut 50 = .ok (.istore 8, 2) := by decide +kernel
theorem dX12_comesOut_52 : decode cX12_comesOut 52 = .ok (.iload 8, 2) := by decide +kernel
theorem dX12_comesOut_54 : decode cX12_comesOut 54 = .ok (.bipush 24, 2) := by decide +kernel
theorem dX12_comesOut_56 : decode cX12_comesOut 56 = .ok (.if_icmp .gt 46, 3) := by decide +kernel
theorem dX12_comesOut_59 : decode cX12_comesOut 59 = .ok (.iload 7, 2) := by decide +kernel
theorem dX12_comesOut_61 : decode cX12_comesOut 61 = .ok (.iload 8, 2) := by decide +kernel
theorem dX12_comesOut_63 : decode cX12_comesOut 63 = .ok (.invokestatic 187, 3) := by decide +kernel
theorem dX12_comesOut_66 : decode cX12_comesOut 66 = .ok (.ifCond .eq 30, 3) := by decide +kernel
theorem dX12_comesOut_69 : decode cX12_comesOut 69 = .ok (.iload 5, 2) := by decide +kernel
theorem dX12_comesOut_71 : decode cX12_comesOut 71 = .ok (.aload_n 0, 1) := by decide +kernel
theorem dX12_comesOut_72 : decode cX12_comesOut 72 = .ok (.getfield 127, 3) := by decide +kernel
theorem dX12_comesOut_75 : decode cX12_comesOut 75 = .ok (.sipush 625, 3) := by decide +kernel
theorem dX12_comesOut_78 : decode cX12_comesOut 78 = .ok (.iload_n 1, 1) := by decide +kernel
theorem dX12_comesOut_79 : decode cX12_comesOut 79 = .ok (.iconst 1, 1) := by decide +kernel
theorem dX12_comesOut_80 : decode cX12_comesOut 80 = .ok (.iadd, 1) := by decide +kernel
theorem dX12_comesOut_81 : decode cX12_comesOut 81 = .ok (.imul, 1) := by decide +kernel
theorem dX12_comesOut_82 : decode cX12_comesOut 82 = .ok (.iload_n 2, 1) := by decide +kernel
theorem dX12_comesOut_83 : decode cX12_comesOut 83 = .ok (.iload 8, 2) := by decide +kernel
theorem dX12_comesOut_85 : decode cX12_comesOut 85 = .ok (.invokestatic 419, 3) := by decide +kernel
theorem dX12_comesOut_88 : decode cX12_comesOut 88 = .ok (.iadd, 1) := by decide +kernel
theorem dX12_comesOut_89 : decode cX12_comesOut 89 = .ok (.iaload, 1) := by decide +kernel
theorem dX12_comesOut_90 : decode cX12_comesOut 90 = .ok (.ineg, 1) := by decide +kernel
theorem dX12_comesOut_91 : decode cX12_comesOut 91 = .ok (.invokestatic 462, 3) := by decide +kernel
theorem dX12_comesOut_94 : decode cX12_comesOut 94 = .ok (.istore 5, 2) := by decide +kernel
theorem dX12_comesOut_96 : decode cX12_comesOut 96 = .ok (.iinc 8 1, 3) := by decide +kernel
theorem dX12_comesOut_99 : decode cX12_comesOut 99 = .ok (.goto (-47), 3) := by decide +kernel
theorem dX12_comesOut_102 : decode cX12_comesOut 102 = .ok (.iinc 6 1, 3) := by decide +kernel
theorem dX12_comesOut_105 : decode cX12_comesOut 105 = .ok (.goto (-86), 3) := by decide +kernel
theorem dX12_comesOut_108 : decode cX12_comesOut 108 = .ok (.iload 5, 2) := by decide +kernel
theorem dX12_comesOut_110 : decode cX12_comesOut 110 = .ok (.ireturn, 1) := by decide +kernel
theorem dX12_canBe_0 : decode cX12_canBe 0 = .ok (.iload_n 1, 1) := by decide +kernel
theorem dX12_canBe_1 : decode cX12_canBe 1 = .ok (.iconst 1, 1) := by decide +kernel
theorem dX12_canBe_2 : decode cX12_canBe 2 = .ok (.if_icmp .le 25, 3) := by decide +kernel
theorem dX12_canBe_5 : decode cX12_canBe 5 = .ok (.iload_n 2, 1) := by decide +kernel
theorem dX12_canBe_6 : decode cX12_canBe 6 = .ok (.bipush 25, 2) := by decide +kernel
theorem dX12_canBe_8 : decode cX12_canBe 8 = .ok (.idiv, 1) := by decide +kernel
theorem dX12_canBe_9 : decode cX12_canBe 9 = .ok (.ifCond .le 14, 3) := by decide +kernel
theorem dX12_canBe_12 : decode cX12_canBe 12 = .ok (.iload_n 2, 1) := by decide +kernel
theorem dX12_canBe_13 : decode cX12_canBe 13 = .ok (.bipush 25, 2) := by decide +kernel
theorem dX12_canBe_15 : decode cX12_canBe 15 = .ok (.irem, 1) := by decide +kernel
theorem dX12_canBe_16 : decode cX12_canBe 16 = .ok (.ifCond .le 7, 3) := by decide +kernel
theorem dX12_canBe_19 : decode cX12_canBe 19 = .ok (.iconst 1, 1) := by decide +kernel
theorem dX12_canBe_20 : decode cX12_canBe 20 = .ok (.goto 50, 3) := by decide +kernel
theorem dX12_canBe_23 : decode cX12_canBe 23 = .ok (.iconst 0, 1) := by decide +kernel
theorem dX12_canBe_24 : decode cX12_canBe 24 = .ok (.goto 46, 3) := by decide +kernel
theorem dX12_canBe_27 : decode cX12_canBe 27 = .ok (.iload_n 1, 1) := by decide +kernel
theorem dX12_canBe_28 : decode cX12_canBe 28 = .ok (.iconst 1, 1) := by decide +kernel
theorem dX12_canBe_29 : decode cX12_canBe 29 = .ok (.if_icmp .ne 28, 3) := by decide +kernel
theorem dX12_canBe_32 : decode cX12_canBe 32 = .ok (.iload_n 2, 1) := by decide +kernel
theorem dX12_canBe_33 : decode cX12_canBe 33 = .ok (.bipush 25, 2) := by decide +kernel
theorem dX12_canBe_35 : decode cX12_canBe 35 = .ok (.irem, 1) := by decide +kernel
theorem dX12_canBe_36 : decode cX12_canBe 36 = .ok (.aload_n 0, 1) := by decide +kernel
theorem dX12_canBe_37 : decode cX12_canBe 37 = .ok (.aload_n 0, 1) := by decide +kernel
theorem dX12_canBe_38 : decode cX12_canBe 38 = .ok (.getfield 386, 3) := by decide +kernel
theorem dX12_canBe_41 : decode cX12_canBe 41 = .ok (.iconst 1, 1) := by decide +kernel
theorem dX12_canBe_42 : decode cX12_canBe 42 = .ok (.isub, 1) := by decide +kernel
theorem dX12_canBe_43 : decode cX12_canBe 43 = .ok (.invokevirtual 366, 3) := by decide +kernel
theorem dX12_canBe_46 : decode cX12_canBe 46 = .ok (.if_icmp .ne 7, 3) := by decide +kernel
theorem dX12_canBe_49 : decode cX12_canBe 49 = .ok (.iconst 1, 1) := by decide +kernel
theorem dX12_canBe_50 : decode cX12_canBe 50 = .ok (.goto 20, 3) := by decide +kernel
theorem dX12_canBe_53 : decode cX12_canBe 53 = .ok (.iconst 0, 1) := by decide +kernel
theorem dX12_canBe_54 : decode cX12_canBe 54 = .ok (.goto 16, 3) := by decide +kernel
theorem dX12_canBe_57 : decode cX12_canBe 57 = .ok (.iload_n 2, 1) := by decide +kernel
theorem dX12_canBe_58 : decode cX12_canBe 58 = .ok (.aload_n 0, 1) := by decide +kernel
theorem dX12_canBe_59 : decode cX12_canBe 59 = .ok (.invokevirtual 410, 3) := by decide +kernel
theorem dX12_canBe_62 : decode cX12_canBe 62 = .ok (.if_icmp .ne 7, 3) := by decide +kernel
theorem dX12_canBe_65 : decode cX12_canBe 65 = .ok (.iconst 1, 1) := by decide +kernel
theorem dX12_canBe_66 : decode cX12_canBe 66 = .ok (.goto 4, 3) := by decide +kernel
theorem dX12_canBe_69 : decode cX12_canBe 69 = .ok (.iconst 0, 1) := by decide +kernel
theorem dX12_canBe_70 : decode cX12_canBe 70 = .ok (.ireturn, 1) := by decide +kernel
theorem dX12_firstFor_0 : decode cX12_firstFor 0 = .ok (.aload_n 0, 1) := by decide +kernel
theorem dX12_firstFor_1 : decode cX12_firstFor 1 = .ok (.invokevirtual 410, 3) := by decide +kernel
theorem dX12_firstFor_4 : decode cX12_firstFor 4 = .ok (.istore 4, 2) := by decide +kernel
theorem dX12_firstFor_6 : decode cX12_firstFor 6 = .ok (.aload_n 0, 1) := by decide +kernel
theorem dX12_firstFor_7 : decode cX12_firstFor 7 = .ok (.iconst 0, 1) := by decide +kernel
theorem dX12_firstFor_8 : decode cX12_firstFor 8 = .ok (.iload 4, 2) := by decide +kernel
theorem dX12_firstFor_10 : decode cX12_firstFor 10 = .ok (.bipush 25, 2) := by decide +kernel
theorem dX12_firstFor_12 : decode cX12_firstFor 12 = .ok (.idiv, 1) := by decide +kernel
theorem dX12_firstFor_13 : decode cX12_firstFor 13 = .ok (.iload 4, 2) := by decide +kernel
theorem dX12_firstFor_15 : decode cX12_firstFor 15 = .ok (.bipush 25, 2) := by decide +kernel
theorem dX12_firstFor_17 : decode cX12_firstFor 17 = .ok (.irem, 1) := by decide +kernel
theorem dX12_firstFor_18 : decode cX12_firstFor 18 = .ok (.invokevirtual 413, 3) := by decide +kernel
theorem dX12_firstFor_21 : decode cX12_firstFor 21 = .ok (.iconst 0, 1) := by decide +kernel
theorem dX12_firstFor_22 : decode cX12_firstFor 22 = .ok (.istore 5, 2) := by decide +kernel
theorem dX12_firstFor_24 : decode cX12_firstFor 24 = .ok (.iload 5, 2) := by decide +kernel
theorem dX12_firstFor_26 : decode cX12_firstFor 26 = .ok (.bipush 12, 2) := by decide +kernel
theorem dX12_firstFor_28 : decode cX12_firstFor 28 = .ok (.if_icmp .ge 87, 3) := by decide +kernel
theorem dX12_firstFor_31 : decode cX12_firstFor 31 = .ok (.iload_n 2, 1) := by decide +kernel
theorem dX12_firstFor_32 : decode cX12_firstFor 32 = .ok (.iload 5, 2) := by decide +kernel
theorem dX12_firstFor_34 : decode cX12_firstFor 34 = .ok (.invokestatic 187, 3) := by decide +kernel
theorem dX12_firstFor_37 : decode cX12_firstFor 37 = .ok (.ifCond .ne 6, 3) := by decide +kernel
theorem dX12_firstFor_40 : decode cX12_firstFor 40 = .ok (.goto 69, 3) := by decide +kernel
theorem dX12_firstFor_43 : decode cX12_firstFor 43 = .ok (.aload_n 0, 1) := by decide +kernel
theorem dX12_firstFor_44 : decode cX12_firstFor 44 = .ok (.iconst 1, 1) := by decide +kernel
theorem dX12_firstFor_45 : decode cX12_firstFor 45 = .ok (.iload_n 1, 1) := by decide +kernel
theorem dX12_firstFor_46 : decode cX12_firstFor 46 = .ok (.iload 5, 2) := by decide +kernel
theorem dX12_firstFor_48 : decode cX12_firstFor 48 = .ok (.invokevirtual 392, 3) := by decide +kernel
theorem dX12_firstFor_51 : decode cX12_firstFor 51 = .ok (.istore 6, 2) := by decide +kernel
theorem dX12_firstFor_53 : decode cX12_firstFor 53 = .ok (.iconst 1, 1) := by decide +kernel
theorem dX12_firstFor_54 : decode cX12_firstFor 54 = .ok (.istore 7, 2) := by decide +kernel
theorem dX12_firstFor_56 : decode cX12_firstFor 56 = .ok (.iload 7, 2) := by decide +kernel
theorem dX12_firstFor_58 : decode cX12_firstFor 58 = .ok (.bipush 24, 2) := by decide +kernel
theorem dX12_firstFor_60 : decode cX12_firstFor 60 = .ok (.if_icmp .gt 49, 3) := by decide +kernel
theorem dX12_firstFor_63 : decode cX12_firstFor 63 = .ok (.iload 6, 2) := by decide +kernel
theorem dX12_firstFor_65 : decode cX12_firstFor 65 = .ok (.iload 7, 2) := by decide +kernel
theorem dX12_firstFor_67 : decode cX12_firstFor 67 = .ok (.invokestatic 187, 3) := by decide +kernel
theorem dX12_firstFor_70 : decode cX12_firstFor 70 = .ok (.ifCond .eq 33, 3) := by decide +kernel
theorem dX12_firstFor_73 : decode cX12_firstFor 73 = .ok (.aload_n 0, 1) := by decide +kernel
theorem dX12_firstFor_74 : decode cX12_firstFor 74 = .ok (.getfield 127, 3) := by decide +kernel
theorem dX12_firstFor_77 : decode cX12_firstFor 77 = .ok (.sipush 625, 3) := by decide +kernel
theorem dX12_firstFor_80 : decode cX12_firstFor 80 = .ok (.iload 4, 2) := by decide +kernel
theorem dX12_firstFor_82 : decode cX12_firstFor 82 = .ok (.iload 7, 2) := by decide +kernel
theorem dX12_firstFor_84 : decode cX12_firstFor 84 = .ok (.invokestatic 419, 3) := by decide +kernel
theorem dX12_firstFor_87 : decode cX12_firstFor 87 = .ok (.iadd, 1) := by decide +kernel
theorem dX12_firstFor_88 : decode cX12_firstFor 88 = .ok (.iaload, 1) := by decide +kernel
theorem dX12_firstFor_89 : decode cX12_firstFor 89 = .ok (.ineg, 1) := by decide +kernel
theorem dX12_firstFor_90 : decode cX12_firstFor 90 = .ok (.iload_n 3, 1) := by decide +kernel
theorem dX12_firstFor_91 : decode cX12_firstFor 91 = .ok (.if_icmp .ne 12, 3) := by decide +kernel
theorem dX12_firstFor_94 : decode cX12_firstFor 94 = .ok (.bipush 100, 2) := by decide +kernel
theorem dX12_firstFor_96 : decode cX12_firstFor 96 = .ok (.iload 5, 2) := by decide +kernel
theorem dX12_firstFor_98 : decode cX12_firstFor 98 = .ok (.imul, 1) := by decide +kernel
theorem dX12_firstFor_99 : decode cX12_firstFor 99 = .ok (.iload 7, 2) := by decide +kernel
theorem dX12_firstFor_101 : decode cX12_firstFor 101 = .ok (.iadd, 1) := by decide +kernel
theorem dX12_firstFor_102 : decode cX12_firstFor 102 = .ok (.ireturn, 1) := by decide +kernel
theorem dX12_firstFor_103 : decode cX12_firstFor 103 = .ok (.iinc 7 1, 3) := by decide +kernel
theorem dX12_firstFor_106 : decode cX12_firstFor 106 = .ok (.goto (-50), 3) := by decide +kernel
theorem dX12_firstFor_109 : decode cX12_firstFor 109 = .ok (.iinc 5 1, 3) := by decide +kernel
theorem dX12_firstFor_112 : decode cX12_firstFor 112 = .ok (.goto (-88), 3) := by decide +kernel
theorem dX12_firstFor_115 : decode cX12_firstFor 115 = .ok (.bipush (-2), 2) := by decide +kernel
theorem dX12_firstFor_117 : decode cX12_firstFor 117 = .ok (.ireturn, 1) := by decide +kernel
theorem dX12_findsRound_0 : decode cX12_findsRound 0 = .ok (.iconst 1, 1) := by decide +kernel
theorem dX12_findsRound_1 : decode cX12_findsRound 1 = .ok (.istore_n 2, 1) := by decide +kernel
theorem dX12_findsRound_2 : decode cX12_findsRound 2 = .ok (.iload_n 2, 1) := by decide +kernel
theorem dX12_findsRound_3 : decode cX12_findsRound 3 = .ok (.bipush 24, 2) := by decide +kernel
theorem dX12_findsRound_5 : decode cX12_findsRound 5 = .ok (.if_icmp .gt 174, 3) := by decide +kernel
theorem dX12_findsRound_8 : decode cX12_findsRound 8 = .ok (.iconst 1, 1) := by decide +kernel
theorem dX12_findsRound_9 : decode cX12_findsRound 9 = .ok (.istore_n 3, 1) := by decide +kernel
theorem dX12_findsRound_10 : decode cX12_findsRound 10 = .ok (.iload_n 3, 1) := by decide +kernel
theorem dX12_findsRound_11 : decode cX12_findsRound 11 = .ok (.bipush 24, 2) := by decide +kernel
theorem dX12_findsRound_13 : decode cX12_findsRound 13 = .ok (.if_icmp .gt 160, 3) := by decide +kernel
theorem dX12_findsRound_16 : decode cX12_findsRound 16 = .ok (.bipush 25, 2) := by decide +kernel
theorem dX12_findsRound_18 : decode cX12_findsRound 18 = .ok (.iload_n 3, 1) := by decide +kernel
theorem dX12_findsRound_19 : decode cX12_findsRound 19 = .ok (.imul, 1) := by decide +kernel
theorem dX12_findsRound_20 : decode cX12_findsRound 20 = .ok (.iload_n 2, 1) := by decide +kernel
theorem dX12_findsRound_21 : decode cX12_findsRound 21 = .ok (.iadd, 1) := by decide +kernel
theorem dX12_findsRound_22 : decode cX12_findsRound 22 = .ok (.istore 4, 2) := by decide +kernel
theorem dX12_findsRound_24 : decode cX12_findsRound 24 = .ok (.aload_n 0, 1) := by decide +kernel
theorem dX12_findsRound_25 : decode cX12_findsRound 25 = .ok (.getfield 136, 3) := by decide +kernel
theorem dX12_findsRound_28 : decode cX12_findsRound 28 = .ok (.iload 4, 2) := by decide +kernel
theorem dX12_findsRound_30 : decode cX12_findsRound 30 = .ok (.iaload, 1) := by decide +kernel
theorem dX12_findsRound_31 : decode cX12_findsRound 31 = .ok (.ifCond .ne 6, 3) := by decide +kernel
theorem dX12_findsRound_34 : decode cX12_findsRound 34 = .ok (.goto 133, 3) := by decide +kernel
theorem dX12_findsRound_37 : decode cX12_findsRound 37 = .ok (.aload_n 0, 1) := by decide +kernel
theorem dX12_findsRound_38 : decode cX12_findsRound 38 = .ok (.iload 4, 2) := by decide +kernel
theorem dX12_findsRound_40 : decode cX12_findsRound 40 = .ok (.iload_n 1, 1) := by decide +kernel
theorem dX12_findsRound_41 : decode cX12_findsRound 41 = .ok (.invokevirtual 487, 3) := by decide +kernel
theorem dX12_findsRound_44 : decode cX12_findsRound 44 = .ok (.aload_n 0, 1) := by decide +kernel
theorem dX12_findsRound_45 : decode cX12_findsRound 45 = .ok (.getfield 139, 3) := by decide +kernel
theorem dX12_findsRound_48 : decode cX12_findsRound 48 = .ok (.iload 4, 2) := by decide +kernel
theorem dX12_findsRound_50 : decode cX12_findsRound 50 = .ok (.baload, 1) := by decide +kernel
theorem dX12_findsRound_51 : decode cX12_findsRound 51 = .ok (.ifCond .ne 6, 3) := by decide +kernel
theorem dX12_findsRound_54 : decode cX12_findsRound 54 = .ok (.goto 113, 3) := by decide +kernel
theorem dX12_findsRound_57 : decode cX12_findsRound 57 = .ok (.aload_n 0, 1) := by decide +kernel
theorem dX12_findsRound_58 : decode cX12_findsRound 58 = .ok (.getfield 142, 3) := by decide +kernel
theorem dX12_findsRound_61 : decode cX12_findsRound 61 = .ok (.iconst 0, 1) := by decide +kernel
theorem dX12_findsRound_62 : decode cX12_findsRound 62 = .ok (.iload_n 2, 1) := by decide +kernel
theorem dX12_findsRound_63 : decode cX12_findsRound 63 = .ok (.iastore, 1) := by decide +kernel
theorem dX12_findsRound_64 : decode cX12_findsRound 64 = .ok (.aload_n 0, 1) := by decide +kernel
theorem dX12_findsRound_65 : decode cX12_findsRound 65 = .ok (.getfield 142, 3) := by decide +kernel
theorem dX12_findsRound_68 : decode cX12_findsRound 68 = .ok (.iconst 1, 1) := by decide +kernel
theorem dX12_findsRound_69 : decode cX12_findsRound 69 = .ok (.iload_n 3, 1) := by decide +kernel
theorem dX12_findsRound_70 : decode cX12_findsRound 70 = .ok (.iastore, 1) := by decide +kernel
theorem dX12_findsRound_71 : decode cX12_findsRound 71 = .ok (.iload 4, 2) := by decide +kernel
theorem dX12_findsRound_73 : decode cX12_findsRound 73 = .ok (.istore 5, 2) := by decide +kernel
theorem dX12_findsRound_75 : decode cX12_findsRound 75 = .ok (.iconst 2, 1) := by decide +kernel
theorem dX12_findsRound_76 : decode cX12_findsRound 76 = .ok (.istore 6, 2) := by decide +kernel
theorem dX12_findsRound_78 : decode cX12_findsRound 78 = .ok (.iload 6, 2) := by decide +kernel
theorem dX12_findsRound_80 : decode cX12_findsRound 80 = .ok (.iload_n 1, 1) := by decide +kernel
theorem dX12_findsRound_81 : decode cX12_findsRound 81 = .ok (.if_icmp .ge 84, 3) := by decide +kernel
theorem dX12_findsRound_84 : decode cX12_findsRound 84 = .ok (.iconst 1, 1) := by decide +kernel
theorem dX12_findsRound_85 : decode cX12_findsRound 85 = .ok (.istore 7, 2) := by decide +kernel
theorem dX12_findsRound_87 : decode cX12_findsRound 87 = .ok (.aload_n 0, 1) := by decide +kernel
theorem dX12_findsRound_88 : decode cX12_findsRound 88 = .ok (.getfield 136, 3) := by decide +kernel
theorem dX12_findsRound_91 : decode cX12_findsRound 91 = .ok (.sipush 625, 3) := by decide +kernel
theorem dX12_findsRound_94 : decode cX12_findsRound 94 = .ok (.iload 6, 2) := by decide +kernel
theorem dX12_findsRound_96 : decode cX12_findsRound 96 = .ok (.iconst 2, 1) := by decide +kernel
theorem dX12_findsRound_97 : decode cX12_findsRound 97 = .ok (.irem, 1) := by decide +kernel
theorem dX12_findsRound_98 : decode cX12_findsRound 98 = .ok (.imul, 1) := by decide +kernel
theorem dX12_findsRound_99 : decode cX12_findsRound 99 = .ok (.iload 5, 2) := by decide +kernel
theorem dX12_findsRound_101 : decode cX12_findsRound 101 = .ok (.iadd, 1) := by decide +kernel
theorem dX12_findsRound_102 : decode cX12_findsRound 102 = .ok (.iaload, 1) := by decide +kernel
theorem dX12_findsRound_103 : decode cX12_findsRound 103 = .ok (.iload 7, 2) := by decide +kernel
theorem dX12_findsRound_105 : decode cX12_findsRound 105 = .ok (.invokestatic 187, 3) := by decide +kernel
theorem dX12_findsRound_108 : decode cX12_findsRound 108 = .ok (.ifCond .eq 27, 3) := by decide +kernel
theorem dX12_findsRound_111 : decode cX12_findsRound 111 = .ok (.aload_n 0, 1) := by decide +kernel
theorem dX12_findsRound_112 : decode cX12_findsRound 112 = .ok (.getfield 139, 3) := by decide +kernel
theorem dX12_findsRound_115 : decode cX12_findsRound 115 = .ok (.sipush 625, 3) := by decide +kernel
theorem dX12_findsRound_118 : decode cX12_findsRound 118 = .ok (.iload 6, 2) := by decide +kernel
theorem dX12_findsRound_120 : decode cX12_findsRound 120 = .ok (.iconst 1, 1) := by decide +kernel
theorem dX12_findsRound_121 : decode cX12_findsRound 121 = .ok (.isub, 1) := by decide +kernel
theorem dX12_findsRound_122 : decode cX12_findsRound 122 = .ok (.imul, 1) := by decide +kernel
theorem dX12_findsRound_123 : decode cX12_findsRound 123 = .ok (.iload 5, 2) := by decide +kernel
theorem dX12_findsRound_125 : decode cX12_findsRound 125 = .ok (.iload 7, 2) := by decide +kernel
theorem dX12_findsRound_127 : decode cX12_findsRound 127 = .ok (.invokestatic 419, 3) := by decide +kernel
theorem dX12_findsRound_130 : decode cX12_findsRound 130 = .ok (.iadd, 1) := by decide +kernel
theorem dX12_findsRound_131 : decode cX12_findsRound 131 = .ok (.baload, 1) := by decide +kernel
theorem dX12_findsRound_132 : decode cX12_findsRound 132 = .ok (.ifCond .ne 9, 3) := by decide +kernel
theorem dX12_findsRound_135 : decode cX12_findsRound 135 = .ok (.iinc 7 1, 3) := by decide +kernel
theorem dX12_findsRound_138 : decode cX12_findsRound 138 = .ok (.goto (-51), 3) := by decide +kernel
theorem dX12_findsRound_141 : decode cX12_findsRound 141 = .ok (.aload_n 0, 1) := by decide +kernel
theorem dX12_findsRound_142 : decode cX12_findsRound 142 = .ok (.getfield 142, 3) := by decide +kernel
theorem dX12_findsRound_145 : decode cX12_findsRound 145 = .ok (.iload 6, 2) := by decide +kernel
theorem dX12_findsRound_147 : decode cX12_findsRound 147 = .ok (.iload 7, 2) := by decide +kernel
theorem dX12_findsRound_149 : decode cX12_findsRound 149 = .ok (.iastore, 1) := by decide +kernel
theorem dX12_findsRound_150 : decode cX12_findsRound 150 = .ok (.iload 5, 2) := by decide +kernel
theorem dX12_findsRound_152 : decode cX12_findsRound 152 = .ok (.iload 7, 2) := by decide +kernel
theorem dX12_findsRound_154 : decode cX12_findsRound 154 = .ok (.invokestatic 419, 3) := by decide +kernel
theorem dX12_findsRound_157 : decode cX12_findsRound 157 = .ok (.istore 5, 2) := by decide +kernel
theorem dX12_findsRound_159 : decode cX12_findsRound 159 = .ok (.iinc 6 1, 3) := by decide +kernel
theorem dX12_findsRound_162 : decode cX12_findsRound 162 = .ok (.goto (-84), 3) := by decide +kernel
theorem dX12_findsRound_165 : decode cX12_findsRound 165 = .ok (.iconst 1, 1) := by decide +kernel
theorem dX12_findsRound_166 : decode cX12_findsRound 166 = .ok (.ireturn, 1) := by decide +kernel
theorem dX12_findsRound_167 : decode cX12_findsRound 167 = .ok (.iinc 3 1, 3) := by decide +kernel
theorem dX12_findsRound_170 : decode cX12_findsRound 170 = .ok (.goto (-160), 3) := by decide +kernel
theorem dX12_findsRound_173 : decode cX12_findsRound 173 = .ok (.iinc 2 1, 3) := by decide +kernel
theorem dX12_findsRound_176 : decode cX12_findsRound 176 = .ok (.goto (-174), 3) := by decide +kernel
theorem dX12_findsRound_179 : decode cX12_findsRound 179 = .ok (.iconst 0, 1) := by decide +kernel
theorem dX12_findsRound_180 : decode cX12_findsRound 180 = .ok (.ireturn, 1) := by decide +kernel
theorem dX12_draw_0 : decode cX12_draw 0 = .ok (.iload_n 1, 1) := by decide +kernel
theorem dX12_draw_1 : decode cX12_draw 1 = .ok (.i2l, 1) := by decide +kernel
theorem dX12_draw_2 : decode cX12_draw 2 = .ok (.lconst 1, 1) := by decide +kernel
theorem dX12_draw_3 : decode cX12_draw 3 = .ok (.ldc2_w 498, 3) := by decide +kernel
theorem dX12_draw_6 : decode cX12_draw 6 = .ok (.invokestatic 181, 3) := by decide +kernel
theorem dX12_draw_9 : decode cX12_draw 9 = .ok (.ifCond .ne 5, 3) := by decide +kernel
theorem dX12_draw_12 : decode cX12_draw 12 = .ok (.iconst (-1), 1) := by decide +kernel
theorem dX12_draw_13 : decode cX12_draw 13 = .ok (.ireturn, 1) := by decide +kernel
theorem dX12_draw_14 : decode cX12_draw 14 = .ok (.iconst 0, 1) := by decide +kernel
theorem dX12_draw_15 : decode cX12_draw 15 = .ok (.istore_n 2, 1) := by decide +kernel
theorem dX12_draw_16 : decode cX12_draw 16 = .ok (.iconst 0, 1) := by decide +kernel
theorem dX12_draw_17 : decode cX12_draw 17 = .ok (.istore_n 3, 1) := by decide +kernel
theorem dX12_draw_18 : decode cX12_draw 18 = .ok (.iload_n 3, 1) := by decide +kernel
theorem dX12_draw_19 : decode cX12_draw 19 = .ok (.iload_n 1, 1) := by decide +kernel
theorem dX12_draw_20 : decode cX12_draw 20 = .ok (.if_icmp .ge 159, 3) := by decide +kernel
theorem dX12_draw_23 : decode cX12_draw 23 = .ok (.aload_n 0, 1) := by decide +kernel
theorem dX12_draw_24 : decode cX12_draw 24 = .ok (.sipush 25173, 3) := by decide +kernel
theorem dX12_draw_27 : decode cX12_draw 27 = .ok (.aload_n 0, 1) := by decide +kernel
theorem dX12_draw_28 : decode cX12_draw 28 = .ok (.getfield 13, 3) := by decide +kernel
theorem dX12_draw_31 : decode cX12_draw 31 = .ok (.imul, 1) := by decide +kernel
theorem dX12_draw_32 : decode cX12_draw 32 = .ok (.sipush 13849, 3) := by decide +kernel
theorem dX12_draw_35 : decode cX12_draw 35 = .ok (.iadd, 1) := by decide +kernel
theorem dX12_draw_36 : decode cX12_draw 36 = .ok (.ldc_w 500, 3) := by decide +kernel
theorem dX12_draw_39 : decode cX12_draw 39 = .ok (.irem, 1) := by decide +kernel
theorem dX12_draw_40 : decode cX12_draw 40 = .ok (.putfield 13, 3) := by decide +kernel
theorem dX12_draw_43 : decode cX12_draw 43 = .ok (.aload_n 0, 1) := by decide +kernel
theorem dX12_draw_44 : decode cX12_draw 44 = .ok (.getfield 13, 3) := by decide +kernel
theorem dX12_draw_47 : decode cX12_draw 47 = .ok (.bipush 6, 2) := by decide +kernel
theorem dX12_draw_49 : decode cX12_draw 49 = .ok (.irem, 1) := by decide +kernel
theorem dX12_draw_50 : decode cX12_draw 50 = .ok (.istore 4, 2) := by decide +kernel
theorem dX12_draw_52 : decode cX12_draw 52 = .ok (.aload_n 0, 1) := by decide +kernel
theorem dX12_draw_53 : decode cX12_draw 53 = .ok (.getfield 13, 3) := by decide +kernel
theorem dX12_draw_56 : decode cX12_draw 56 = .ok (.bipush 6, 2) := by decide +kernel
theorem dX12_draw_58 : decode cX12_draw 58 = .ok (.idiv, 1) := by decide +kernel
theorem dX12_draw_59 : decode cX12_draw 59 = .ok (.bipush 12, 2) := by decide +kernel
theorem dX12_draw_61 : decode cX12_draw 61 = .ok (.irem, 1) := by decide +kernel
theorem dX12_draw_62 : decode cX12_draw 62 = .ok (.istore 5, 2) := by decide +kernel
theorem dX12_draw_64 : decode cX12_draw 64 = .ok (.aload_n 0, 1) := by decide +kernel
theorem dX12_draw_65 : decode cX12_draw 65 = .ok (.aload_n 0, 1) := by decide +kernel
theorem dX12_draw_66 : decode cX12_draw 66 = .ok (.getfield 386, 3) := by decide +kernel
theorem dX12_draw_69 : decode cX12_draw 69 = .ok (.invokevirtual 389, 3) := by decide +kernel
theorem dX12_draw_72 : decode cX12_draw 72 = .ok (.aload_n 0, 1) := by decide +kernel
theorem dX12_draw_73 : decode cX12_draw 73 = .ok (.iconst 1, 1) := by decide +kernel
theorem dX12_draw_74 : decode cX12_draw 74 = .ok (.iload 4, 2) := by decide +kernel
theorem dX12_draw_76 : decode cX12_draw 76 = .ok (.iload 5, 2) := by decide +kernel
theorem dX12_draw_78 : decode cX12_draw 78 = .ok (.invokevirtual 392, 3) := by decide +kernel
theorem dX12_draw_81 : decode cX12_draw 81 = .ok (.istore 6, 2) := by decide +kernel
theorem dX12_draw_83 : decode cX12_draw 83 = .ok (.iload 6, 2) := by decide +kernel
theorem dX12_draw_85 : decode cX12_draw 85 = .ok (.ifCond .eq 88, 3) := by decide +kernel
theorem dX12_draw_88 : decode cX12_draw 88 = .ok (.aload_n 0, 1) := by decide +kernel
theorem dX12_draw_89 : decode cX12_draw 89 = .ok (.getfield 386, 3) := by decide +kernel
theorem dX12_draw_92 : decode cX12_draw 92 = .ok (.sipush 200, 3) := by decide +kernel
theorem dX12_draw_95 : decode cX12_draw 95 = .ok (.if_icmp .ne 6, 3) := by decide +kernel
theorem dX12_draw_98 : decode cX12_draw 98 = .ok (.goto 75, 3) := by decide +kernel
theorem dX12_draw_101 : decode cX12_draw 101 = .ok (.aload_n 0, 1) := by decide +kernel
theorem dX12_draw_102 : decode cX12_draw 102 = .ok (.getfield 13, 3) := by decide +kernel
theorem dX12_draw_105 : decode cX12_draw 105 = .ok (.bipush 72, 2) := by decide +kernel
theorem dX12_draw_107 : decode cX12_draw 107 = .ok (.idiv, 1) := by decide +kernel
theorem dX12_draw_108 : decode cX12_draw 108 = .ok (.iload 6, 2) := by decide +kernel
theorem dX12_draw_110 : decode cX12_draw 110 = .ok (.invokestatic 239, 3) := by decide +kernel
theorem dX12_draw_113 : decode cX12_draw 113 = .ok (.irem, 1) := by decide +kernel
theorem dX12_draw_114 : decode cX12_draw 114 = .ok (.istore 7, 2) := by decide +kernel
theorem dX12_draw_116 : decode cX12_draw 116 = .ok (.iconst 1, 1) := by decide +kernel
theorem dX12_draw_117 : decode cX12_draw 117 = .ok (.istore 8, 2) := by decide +kernel
theorem dX12_draw_119 : decode cX12_draw 119 = .ok (.iload 6, 2) := by decide +kernel
theorem dX12_draw_121 : decode cX12_draw 121 = .ok (.iload 8, 2) := by decide +kernel
theorem dX12_draw_123 : decode cX12_draw 123 = .ok (.invokestatic 187, 3) := by decide +kernel
theorem dX12_draw_126 : decode cX12_draw 126 = .ok (.ifCond .eq 8, 3) := by decide +kernel
theorem dX12_draw_129 : decode cX12_draw 129 = .ok (.iload 7, 2) := by decide +kernel
theorem dX12_draw_131 : decode cX12_draw 131 = .ok (.ifCond .le 29, 3) := by decide +kernel
theorem dX12_draw_134 : decode cX12_draw 134 = .ok (.iload 7, 2) := by decide +kernel
theorem dX12_draw_136 : decode cX12_draw 136 = .ok (.iload 6, 2) := by decide +kernel
theorem dX12_draw_138 : decode cX12_draw 138 = .ok (.iload 8, 2) := by decide +kernel
theorem dX12_draw_140 : decode cX12_draw 140 = .ok (.invokestatic 187, 3) := by decide +kernel
theorem dX12_draw_143 : decode cX12_draw 143 = .ok (.ifCond .eq 7, 3) := by decide +kernel
theorem dX12_draw_146 : decode cX12_draw 146 = .ok (.iconst 1, 1) := by decide +kernel
theorem dX12_draw_147 : decode cX12_draw 147 = .ok (.goto 4, 3) := by decide +kernel
theorem dX12_draw_150 : decode cX12_draw 150 = .ok (.iconst 0, 1) := by decide +kernel
theorem dX12_draw_151 : decode cX12_draw 151 = .ok (.isub, 1) := by decide +kernel
theorem dX12_draw_152 : decode cX12_draw 152 = .ok (.istore 7, 2) := by decide +kernel
theorem dX12_draw_154 : decode cX12_draw 154 = .ok (.iinc 8 1, 3) := by decide +kernel
theorem dX12_draw_157 : decode cX12_draw 157 = .ok (.goto (-38), 3) := by decide +kernel
theorem dX12_draw_160 : decode cX12_draw 160 = .ok (.aload_n 0, 1) := by decide +kernel
theorem dX12_draw_161 : decode cX12_draw 161 = .ok (.iload 4, 2) := by decide +kernel
theorem dX12_draw_163 : decode cX12_draw 163 = .ok (.iload 5, 2) := by decide +kernel
theorem dX12_draw_165 : decode cX12_draw 165 = .ok (.iload 8, 2) := by decide +kernel
theorem dX12_draw_167 : decode cX12_draw 167 = .ok (.invokevirtual 395, 3) := by decide +kernel
theorem dX12_draw_170 : decode cX12_draw 170 = .ok (.iinc 2 1, 3) := by decide +kernel
theorem dX12_draw_173 : decode cX12_draw 173 = .ok (.iinc 3 1, 3) := by decide +kernel
theorem dX12_draw_176 : decode cX12_draw 176 = .ok (.goto (-158), 3) := by decide +kernel
theorem dX12_draw_179 : decode cX12_draw 179 = .ok (.iload_n 2, 1) := by decide +kernel
theorem dX12_draw_180 : decode cX12_draw 180 = .ok (.ireturn, 1) := by decide +kernel
theorem dX12_check_0 : decode cX12_check 0 = .ok (.iload_n 1, 1) := by decide +kernel
theorem dX12_check_1 : decode cX12_check 1 = .ok (.i2l, 1) := by decide +kernel
theorem dX12_check_2 : decode cX12_check 2 = .ok (.lconst 0, 1) := by decide +kernel
theorem dX12_check_3 : decode cX12_check 3 = .ok (.ldc2_w 498, 3) := by decide +kernel
theorem dX12_check_6 : decode cX12_check 6 = .ok (.invokestatic 181, 3) := by decide +kernel
theorem dX12_check_9 : decode cX12_check 9 = .ok (.ifCond .eq 21, 3) := by decide +kernel
theorem dX12_check_12 : decode cX12_check 12 = .ok (.iload_n 1, 1) := by decide +kernel
theorem dX12_check_13 : decode cX12_check 13 = .ok (.aload_n 0, 1) := by decide +kernel
theorem dX12_check_14 : decode cX12_check 14 = .ok (.getfield 386, 3) := by decide +kernel
theorem dX12_check_17 : decode cX12_check 17 = .ok (.if_icmp .gt 13, 3) := by decide +kernel
theorem dX12_check_20 : decode cX12_check 20 = .ok (.iload_n 1, 1) := by decide +kernel
theorem dX12_check_21 : decode cX12_check 21 = .ok (.aload_n 0, 1) := by decide +kernel
theorem dX12_check_22 : decode cX12_check 22 = .ok (.getfield 157, 3) := by decide +kernel
theorem dX12_check_25 : decode cX12_check 25 = .ok (.iconst 4, 1) := by decide +kernel
theorem dX12_check_26 : decode cX12_check 26 = .ok (.idiv, 1) := by decide +kernel
theorem dX12_check_27 : decode cX12_check 27 = .ok (.if_icmp .le 6, 3) := by decide +kernel
theorem dX12_check_30 : decode cX12_check 30 = .ok (.bipush (-2), 2) := by decide +kernel
theorem dX12_check_32 : decode cX12_check 32 = .ok (.ireturn, 1) := by decide +kernel
theorem dX12_check_33 : decode cX12_check 33 = .ok (.aload_n 0, 1) := by decide +kernel
theorem dX12_check_34 : decode cX12_check 34 = .ok (.iconst 0, 1) := by decide +kernel
theorem dX12_check_35 : decode cX12_check 35 = .ok (.putfield 157, 3) := by decide +kernel
theorem dX12_check_38 : decode cX12_check 38 = .ok (.iconst 0, 1) := by decide +kernel
theorem dX12_check_39 : decode cX12_check 39 = .ok (.istore_n 2, 1) := by decide +kernel
theorem dX12_check_40 : decode cX12_check 40 = .ok (.iload_n 2, 1) := by decide +kernel
theorem dX12_check_41 : decode cX12_check 41 = .ok (.iload_n 1, 1) := by decide +kernel
theorem dX12_check_42 : decode cX12_check 42 = .ok (.if_icmp .ge 32, 3) := by decide +kernel
theorem dX12_check_45 : decode cX12_check 45 = .ok (.aload_n 0, 1) := by decide +kernel
theorem dX12_check_46 : decode cX12_check 46 = .ok (.iload_n 2, 1) := by decide +kernel
theorem dX12_check_47 : decode cX12_check 47 = .ok (.invokevirtual 510, 3) := by decide +kernel
theorem dX12_check_50 : decode cX12_check 50 = .ok (.aload_n 0, 1) := by decide +kernel
theorem dX12_check_51 : decode cX12_check 51 = .ok (.getfield 91, 3) := by decide +kernel
theorem dX12_check_54 : decode cX12_check 54 = .ok (.aload_n 0, 1) := by decide +kernel
theorem dX12_check_55 : decode cX12_check 55 = .ok (.getfield 386, 3) := by decide +kernel
theorem dX12_check_58 : decode cX12_check 58 = .ok (.iload_n 1, 1) := by decide +kernel
theorem dX12_check_59 : decode cX12_check 59 = .ok (.isub, 1) := by decide +kernel
theorem dX12_check_60 : decode cX12_check 60 = .ok (.iload_n 2, 1) := by decide +kernel
theorem dX12_check_61 : decode cX12_check 61 = .ok (.iadd, 1) := by decide +kernel
theorem dX12_check_62 : decode cX12_check 62 = .ok (.iaload, 1) := by decide +kernel
theorem dX12_check_63 : decode cX12_check 63 = .ok (.if_icmp .eq 5, 3) := by decide +kernel
theorem dX12_check_66 : decode cX12_check 66 = .ok (.iload_n 2, 1) := by decide +kernel
theorem dX12_check_67 : decode cX12_check 67 = .ok (.ireturn, 1) := by decide +kernel
theorem dX12_check_68 : decode cX12_check 68 = .ok (.iinc 2 1, 3) := by decide +kernel
theorem dX12_check_71 : decode cX12_check 71 = .ok (.goto (-31), 3) := by decide +kernel
theorem dX12_check_74 : decode cX12_check 74 = .ok (.iconst (-1), 1) := by decide +kernel
theorem dX12_check_75 : decode cX12_check 75 = .ok (.ireturn, 1) := by decide +kernel
theorem dX12_allWords_0 : decode cX12_allWords 0 = .ok (.iconst 0, 1) := by decide +kernel
theorem dX12_allWords_1 : decode cX12_allWords 1 = .ok (.istore_n 1, 1) := by decide +kernel
theorem dX12_allWords_2 : decode cX12_allWords 2 = .ok (.iconst 0, 1) := by decide +kernel
theorem dX12_allWords_3 : decode cX12_allWords 3 = .ok (.istore_n 2, 1) := by decide +kernel
theorem dX12_allWords_4 : decode cX12_allWords 4 = .ok (.iload_n 2, 1) := by decide +kernel
theorem dX12_allWords_5 : decode cX12_allWords 5 = .ok (.aload_n 0, 1) := by decide +kernel
theorem dX12_allWords_6 : decode cX12_allWords 6 = .ok (.getfield 386, 3) := by decide +kernel
theorem dX12_allWords_9 : decode cX12_allWords 9 = .ok (.if_icmp .ge 18, 3) := by decide +kernel
theorem dX12_allWords_12 : decode cX12_allWords 12 = .ok (.iload_n 1, 1) := by decide +kernel
theorem dX12_allWords_13 : decode cX12_allWords 13 = .ok (.aload_n 0, 1) := by decide +kernel
theorem dX12_allWords_14 : decode cX12_allWords 14 = .ok (.getfield 91, 3) := by decide +kernel
theorem dX12_allWords_17 : decode cX12_allWords 17 = .ok (.iload_n 2, 1) := by decide +kernel
theorem dX12_allWords_18 : decode cX12_allWords 18 = .ok (.iaload, 1) := by decide +kernel
theorem dX12_allWords_19 : decode cX12_allWords 19 = .ok (.iadd, 1) := by decide +kernel
theorem dX12_allWords_20 : decode cX12_allWords 20 = .ok (.istore_n 1, 1) := by decide +kernel
theorem dX12_allWords_21 : decode cX12_allWords 21 = .ok (.iinc 2 1, 3) := by decide +kernel
theorem dX12_allWords_24 : decode cX12_allWords 24 = .ok (.goto (-20), 3) := by decide +kernel
theorem dX12_allWords_27 : decode cX12_allWords 27 = .ok (.iload_n 1, 1) := by decide +kernel
theorem dX12_allWords_28 : decode cX12_allWords 28 = .ok (.ireturn, 1) := by decide +kernel
theorem dX12_count_0 : decode cX12_count 0 = .ok (.iload_n 1, 1) := by decide +kernel
theorem dX12_count_1 : decode cX12_count 1 = .ok (.bipush 10, 2) := by decide +kernel
theorem dX12_count_3 : decode cX12_count 3 = .ok (.isub, 1) := by decide +kernel
theorem dX12_count_4 : decode cX12_count 4 = .ok (.invokestatic 378, 3) := by decide +kernel
theorem dX12_count_7 : decode cX12_count 7 = .ok (.ifCond .eq 13, 3) := by decide +kernel
theorem dX12_count_10 : decode cX12_count 10 = .ok (.aload_n 0, 1) := by decide +kernel
theorem dX12_count_11 : decode cX12_count 11 = .ok (.getfield 76, 3) := by decide +kernel
theorem dX12_count_14 : decode cX12_count 14 = .ok (.iload_n 1, 1) := by decide +kernel
theorem dX12_count_15 : decode cX12_count 15 = .ok (.bipush 10, 2) := by decide +kernel
theorem dX12_count_17 : decode cX12_count 17 = .ok (.isub, 1) := by decide +kernel
theorem dX12_count_18 : decode cX12_count 18 = .ok (.iaload, 1) := by decide +kernel
theorem dX12_count_19 : decode cX12_count 19 = .ok (.ireturn, 1) := by decide +kernel
theorem dX12_count_20 : decode cX12_count 20 = .ok (.iload_n 1, 1) := by decide +kernel
theorem dX12_count_21 : decode cX12_count 21 = .ok (.bipush 20, 2) := by decide +kernel
theorem dX12_count_23 : decode cX12_count 23 = .ok (.isub, 1) := by decide +kernel
theorem dX12_count_24 : decode cX12_count 24 = .ok (.invokestatic 378, 3) := by decide +kernel
theorem dX12_count_27 : decode cX12_count 27 = .ok (.ifCond .eq 12, 3) := by decide +kernel
theorem dX12_count_30 : decode cX12_count 30 = .ok (.aload_n 0, 1) := by decide +kernel
theorem dX12_count_31 : decode cX12_count 31 = .ok (.iload_n 1, 1) := by decide +kernel
theorem dX12_count_32 : decode cX12_count 32 = .ok (.bipush 20, 2) := by decide +kernel
theorem dX12_count_34 : decode cX12_count 34 = .ok (.isub, 1) := by decide +kernel
theorem dX12_count_35 : decode cX12_count 35 = .ok (.invokevirtual 513, 3) := by decide +kernel
theorem dX12_count_38 : decode cX12_count 38 = .ok (.ireturn, 1) := by decide +kernel
theorem dX12_count_39 : decode cX12_count 39 = .ok (.iload_n 1, 1) := by decide +kernel
theorem dX12_count_40 : decode cX12_count 40 = .ok (.tableswitch 113 0 8 #[52, 57, 62, 69, 76, 81, 86, 91, 102], 52) := by decide +kernel
theorem dX12_count_92 : decode cX12_count 92 = .ok (.aload_n 0, 1) := by decide +kernel
theorem dX12_count_93 : decode cX12_count 93 = .ok (.getfield 386, 3) := by decide +kernel
theorem dX12_count_96 : decode cX12_count 96 = .ok (.ireturn, 1) := by decide +kernel
theorem dX12_count_97 : decode cX12_count 97 = .ok (.aload_n 0, 1) := by decide +kernel
theorem dX12_count_98 : decode cX12_count 98 = .ok (.invokevirtual 516, 3) := by decide +kernel
theorem dX12_count_101 : decode cX12_count 101 = .ok (.ireturn, 1) := by decide +kernel
theorem dX12_count_102 : decode cX12_count 102 = .ok (.aload_n 0, 1) := by decide +kernel
theorem dX12_count_103 : decode cX12_count 103 = .ok (.getfield 34, 3) := by decide +kernel
theorem dX12_count_106 : decode cX12_count 106 = .ok (.iconst 0, 1) := by decide +kernel
theorem dX12_count_107 : decode cX12_count 107 = .ok (.iaload, 1) := by decide +kernel
theorem dX12_count_108 : decode cX12_count 108 = .ok (.ireturn, 1) := by decide +kernel
theorem dX12_count_109 : decode cX12_count 109 = .ok (.aload_n 0, 1) := by decide +kernel
theorem dX12_count_110 : decode cX12_count 110 = .ok (.getfield 34, 3) := by decide +kernel
theorem dX12_count_113 : decode cX12_count 113 = .ok (.iconst 1, 1) := by decide +kernel
theorem dX12_count_114 : decode cX12_count 114 = .ok (.iaload, 1) := by decide +kernel
theorem dX12_count_115 : decode cX12_count 115 = .ok (.ireturn, 1) := by decide +kernel
theorem dX12_count_116 : decode cX12_count 116 = .ok (.aload_n 0, 1) := by decide +kernel
theorem dX12_count_117 : decode cX12_count 117 = .ok (.getfield 157, 3) := by decide +kernel
theorem dX12_count_120 : decode cX12_count 120 = .ok (.ireturn, 1) := by decide +kernel
theorem dX12_count_121 : decode cX12_count 121 = .ok (.aload_n 0, 1) := by decide +kernel
theorem dX12_count_122 : decode cX12_count 122 = .ok (.getfield 13, 3) := by decide +kernel
theorem dX12_count_125 : decode cX12_count 125 = .ok (.ireturn, 1) := by decide +kernel
theorem dX12_count_126 : decode cX12_count 126 = .ok (.aload_n 0, 1) := by decide +kernel
theorem dX12_count_127 : decode cX12_count 127 = .ok (.invokevirtual 519, 3) := by decide +kernel
theorem dX12_count_130 : decode cX12_count 130 = .ok (.ireturn, 1) := by decide +kernel
theorem dX12_count_131 : decode cX12_count 131 = .ok (.aload_n 0, 1) := by decide +kernel
theorem dX12_count_132 : decode cX12_count 132 = .ok (.aload_n 0, 1) := by decide +kernel
theorem dX12_count_133 : decode cX12_count 133 = .ok (.getfield 386, 3) := by decide +kernel
theorem dX12_count_136 : decode cX12_count 136 = .ok (.iconst 1, 1) := by decide +kernel
theorem dX12_count_137 : decode cX12_count 137 = .ok (.isub, 1) := by decide +kernel
theorem dX12_count_138 : decode cX12_count 138 = .ok (.invokevirtual 366, 3) := by decide +kernel
theorem dX12_count_141 : decode cX12_count 141 = .ok (.ireturn, 1) := by decide +kernel
theorem dX12_count_142 : decode cX12_count 142 = .ok (.aload_n 0, 1) := by decide +kernel
theorem dX12_count_143 : decode cX12_count 143 = .ok (.aload_n 0, 1) := by decide +kernel
theorem dX12_count_144 : decode cX12_count 144 = .ok (.getfield 386, 3) := by decide +kernel
theorem dX12_count_147 : decode cX12_count 147 = .ok (.iconst 2, 1) := by decide +kernel
theorem dX12_count_148 : decode cX12_count 148 = .ok (.isub, 1) := by decide +kernel
theorem dX12_count_149 : decode cX12_count 149 = .ok (.invokevirtual 366, 3) := by decide +kernel
theorem dX12_count_152 : decode cX12_count 152 = .ok (.ireturn, 1) := by decide +kernel
theorem dX12_count_153 : decode cX12_count 153 = .ok (.iconst (-1), 1) := by decide +kernel
theorem dX12_count_154 : decode cX12_count 154 = .ok (.ireturn, 1) := by decide +kernel
