theorem dX0_init_0 : decode cX0_init 0 = .ok (.aload_n 0, 1) := by decide +kernel
theorem dX0_init_1 : decode cX0_init 1 = .ok (.invokespecial 3, 3) := by decide +kernel
theorem dX0_init_4 : decode cX0_init 4 = .ok (.aload_n 0, 1) := by decide +kernel
theorem dX0_init_5 : decode cX0_init 5 = .ok (.sipush 400, 3) := by decide +kernel
theorem dX0_init_8 : decode cX0_init 8 = .ok (.newarray .int, 2) := by decide +kernel
theorem dX0_init_10 : decode cX0_init 10 = .ok (.putfield 9, 3) := by decide +kernel
theorem dX0_init_13 : decode cX0_init 13 = .ok (.aload_n 0, 1) := by decide +kernel
theorem dX0_init_14 : decode cX0_init 14 = .ok (.bipush 60, 2) := by decide +kernel
theorem dX0_init_16 : decode cX0_init 16 = .ok (.newarray .int, 2) := by decide +kernel
theorem dX0_init_18 : decode cX0_init 18 = .ok (.putfield 15, 3) := by decide +kernel
theorem dX0_init_21 : decode cX0_init 21 = .ok (.aload_n 0, 1) := by decide +kernel
theorem dX0_init_22 : decode cX0_init 22 = .ok (.bipush 36, 2) := by decide +kernel
theorem dX0_init_24 : decode cX0_init 24 = .ok (.newarray .int, 2) := by decide +kernel
theorem dX0_init_26 : decode cX0_init 26 = .ok (.putfield 18, 3) := by decide +kernel
theorem dX0_init_29 : decode cX0_init 29 = .ok (.aload_n 0, 1) := by decide +kernel
theorem dX0_init_30 : decode cX0_init 30 = .ok (.bipush 6, 2) := by decide +kernel
theorem dX0_init_32 : decode cX0_init 32 = .ok (.newarray .int, 2) := by decide +kernel
theorem dX0_init_34 : decode cX0_init 34 = .ok (.putfield 21, 3) := by decide +kernel
theorem dX0_init_37 : decode cX0_init 37 = .ok (.aload_n 0, 1) := by decide +kernel
theorem dX0_init_38 : decode cX0_init 38 = .ok (.aload_n 1, 1) := by decide +kernel
theorem dX0_init_39 : decode cX0_init 39 = .ok (.putfield 24, 3) := by decide +kernel
theorem dX0_init_42 : decode cX0_init 42 = .ok (.return_, 1) := by decide +kernel
theorem dX0_rangAt_0 : decode cX0_rangAt 0 = .ok (.aload_n 0, 1) := by decide +kernel
theorem dX0_rangAt_1 : decode cX0_rangAt 1 = .ok (.getfield 9, 3) := by decide +kernel
theorem dX0_rangAt_4 : decode cX0_rangAt 4 = .ok (.iload_n 2, 1) := by decide +kernel
theorem dX0_rangAt_5 : decode cX0_rangAt 5 = .ok (.iaload, 1) := by decide +kernel
theorem dX0_rangAt_6 : decode cX0_rangAt 6 = .ok (.iload_n 1, 1) := by decide +kernel
theorem dX0_rangAt_7 : decode cX0_rangAt 7 = .ok (.ishr, 1) := by decide +kernel
theorem dX0_rangAt_8 : decode cX0_rangAt 8 = .ok (.iconst 1, 1) := by decide +kernel
theorem dX0_rangAt_9 : decode cX0_rangAt 9 = .ok (.iand, 1) := by decide +kernel
theorem dX0_rangAt_10 : decode cX0_rangAt 10 = .ok (.ifCond .eq 7, 3) := by decide +kernel
theorem dX0_rangAt_13 : decode cX0_rangAt 13 = .ok (.iconst 1, 1) := by decide +kernel
theorem dX0_rangAt_14 : decode cX0_rangAt 14 = .ok (.goto 4, 3) := by decide +kernel
theorem dX0_rangAt_17 : decode cX0_rangAt 17 = .ok (.iconst 0, 1) := by decide +kernel
theorem dX0_rangAt_18 : decode cX0_rangAt 18 = .ok (.ireturn, 1) := by decide +kernel
theorem dX0_bellsBefore_0 : decode cX0_bellsBefore 0 = .ok (.iconst 0, 1) := by decide +kernel
theorem dX0_bellsBefore_1 : decode cX0_bellsBefore 1 = .ok (.istore_n 2, 1) := by decide +kernel
theorem dX0_bellsBefore_2 : decode cX0_bellsBefore 2 = .ok (.iconst 0, 1) := by decide +kernel
theorem dX0_bellsBefore_3 : decode cX0_bellsBefore 3 = .ok (.istore_n 3, 1) := by decide +kernel
theorem dX0_bellsBefore_4 : decode cX0_bellsBefore 4 = .ok (.iload_n 3, 1) := by decide +kernel
theorem dX0_bellsBefore_5 : decode cX0_bellsBefore 5 = .ok (.iload_n 1, 1) := by decide +kernel
theorem dX0_bellsBefore_6 : decode cX0_bellsBefore 6 = .ok (.if_icmp .ge 18, 3) := by decide +kernel
theorem dX0_bellsBefore_9 : decode cX0_bellsBefore 9 = .ok (.iload_n 2, 1) := by decide +kernel
theorem dX0_bellsBefore_10 : decode cX0_bellsBefore 10 = .ok (.aload_n 0, 1) := by decide +kernel
theorem dX0_bellsBefore_11 : decode cX0_bellsBefore 11 = .ok (.getfield 9, 3) := by decide +kernel
theorem dX0_bellsBefore_14 : decode cX0_bellsBefore 14 = .ok (.iload_n 3, 1) := by decide +kernel
theorem dX0_bellsBefore_15 : decode cX0_bellsBefore 15 = .ok (.iaload, 1) := by decide +kernel
theorem dX0_bellsBefore_16 : decode cX0_bellsBefore 16 = .ok (.ior, 1) := by decide +kernel
theorem dX0_bellsBefore_17 : decode cX0_bellsBefore 17 = .ok (.istore_n 2, 1) := by decide +kernel
theorem dX0_bellsBefore_18 : decode cX0_bellsBefore 18 = .ok (.iinc 3 1, 3) := by decide +kernel
theorem dX0_bellsBefore_21 : decode cX0_bellsBefore 21 = .ok (.goto (-17), 3) := by decide +kernel
theorem dX0_bellsBefore_24 : decode cX0_bellsBefore 24 = .ok (.iload_n 2, 1) := by decide +kernel
theorem dX0_bellsBefore_25 : decode cX0_bellsBefore 25 = .ok (.ireturn, 1) := by decide +kernel
theorem dX0_lastMinute_0 : decode cX0_lastMinute 0 = .ok (.sipush 399, 3) := by decide +kernel
theorem dX0_lastMinute_3 : decode cX0_lastMinute 3 = .ok (.istore_n 1, 1) := by decide +kernel
theorem dX0_lastMinute_4 : decode cX0_lastMinute 4 = .ok (.iload_n 1, 1) := by decide +kernel
theorem dX0_lastMinute_5 : decode cX0_lastMinute 5 = .ok (.ifCond .lt 20, 3) := by decide +kernel
theorem dX0_lastMinute_8 : decode cX0_lastMinute 8 = .ok (.aload_n 0, 1) := by decide +kernel
theorem dX0_lastMinute_9 : decode cX0_lastMinute 9 = .ok (.getfield 9, 3) := by decide +kernel
theorem dX0_lastMinute_12 : decode cX0_lastMinute 12 = .ok (.iload_n 1, 1) := by decide +kernel
theorem dX0_lastMinute_13 : decode cX0_lastMinute 13 = .ok (.iaload, 1) := by decide +kernel
theorem dX0_lastMinute_14 : decode cX0_lastMinute 14 = .ok (.ifCond .eq 5, 3) := by decide +kernel
theorem dX0_lastMinute_17 : decode cX0_lastMinute 17 = .ok (.iload_n 1, 1) := by decide +kernel
theorem dX0_lastMinute_18 : decode cX0_lastMinute 18 = .ok (.ireturn, 1) := by decide +kernel
theorem dX0_lastMinute_19 : decode cX0_lastMinute 19 = .ok (.iinc 1 (-1), 3) := by decide +kernel
theorem dX0_lastMinute_22 : decode cX0_lastMinute 22 = .ok (.goto (-18), 3) := by decide +kernel
theorem dX0_lastMinute_25 : decode cX0_lastMinute 25 = .ok (.bipush (-9), 2) := by decide +kernel
theorem dX0_lastMinute_27 : decode cX0_lastMinute 27 = .ok (.ireturn, 1) := by decide +kernel
theorem dX0_play_0 : decode cX0_play 0 = .ok (.aload_n 0, 1) := by decide +kernel
theorem dX0_play_1 : decode cX0_play 1 = .ok (.getfield 9, 3) := by decide +kernel
theorem dX0_play_4 : decode cX0_play 4 = .ok (.iconst 0, 1) := by decide +kernel
theorem dX0_play_5 : decode cX0_play 5 = .ok (.invokestatic 28, 3) := by decide +kernel
theorem dX0_play_8 : decode cX0_play 8 = .ok (.aload_n 0, 1) := by decide +kernel
theorem dX0_play_9 : decode cX0_play 9 = .ok (.getfield 15, 3) := by decide +kernel
theorem dX0_play_12 : decode cX0_play 12 = .ok (.iconst 0, 1) := by decide +kernel
theorem dX0_play_13 : decode cX0_play 13 = .ok (.invokestatic 28, 3) := by decide +kernel
theorem dX0_play_16 : decode cX0_play 16 = .ok (.aload_n 0, 1) := by decide +kernel
theorem dX0_play_17 : decode cX0_play 17 = .ok (.getfield 18, 3) := by decide +kernel
theorem dX0_play_20 : decode cX0_play 20 = .ok (.iconst 0, 1) := by decide +kernel
theorem dX0_play_21 : decode cX0_play 21 = .ok (.invokestatic 28, 3) := by decide +kernel
theorem dX0_play_24 : decode cX0_play 24 = .ok (.aload_n 0, 1) := by decide +kernel
theorem dX0_play_25 : decode cX0_play 25 = .ok (.getfield 21, 3) := by decide +kernel
theorem dX0_play_28 : decode cX0_play 28 = .ok (.iconst 0, 1) := by decide +kernel
theorem dX0_play_29 : decode cX0_play 29 = .ok (.invokestatic 28, 3) := by decide +kernel
theorem dX0_play_32 : decode cX0_play 32 = .ok (.aload_n 0, 1) := by decide +kernel
theorem dX0_play_33 : decode cX0_play 33 = .ok (.aload_n 1, 1) := by decide +kernel
theorem dX0_play_34 : decode cX0_play 34 = .ok (.invokevirtual 34, 3) := by decide +kernel
theorem dX0_play_37 : decode cX0_play 37 = .ok (.putfield 40, 3) := by decide +kernel
theorem dX0_play_40 : decode cX0_play 40 = .ok (.iconst 0, 1) := by decide +kernel
theorem dX0_play_41 : decode cX0_play 41 = .ok (.istore 5, 2) := by decide +kernel
theorem dX0_play_43 : decode cX0_play 43 = .ok (.iload 5, 2) := by decide +kernel
theorem dX0_play_45 : decode cX0_play 45 = .ok (.iload 4, 2) := by decide +kernel
theorem dX0_play_47 : decode cX0_play 47 = .ok (.if_icmp .ge 55, 3) := by decide +kernel
theorem dX0_play_50 : decode cX0_play 50 = .ok (.iload 5, 2) := by decide +kernel
theorem dX0_play_52 : decode cX0_play 52 = .ok (.aload_n 0, 1) := by decide +kernel
theorem dX0_play_53 : decode cX0_play 53 = .ok (.getfield 40, 3) := by decide +kernel
theorem dX0_play_56 : decode cX0_play 56 = .ok (.if_icmp .gt 46, 3) := by decide +kernel
theorem dX0_play_59 : decode cX0_play 59 = .ok (.aload_n 0, 1) := by decide +kernel
theorem dX0_play_60 : decode cX0_play 60 = .ok (.iload 5, 2) := by decide +kernel
theorem dX0_play_62 : decode cX0_play 62 = .ok (.invokevirtual 44, 3) := by decide +kernel
theorem dX0_play_65 : decode cX0_play 65 = .ok (.aload_n 0, 1) := by decide +kernel
theorem dX0_play_66 : decode cX0_play 66 = .ok (.aload_n 1, 1) := by decide +kernel
theorem dX0_play_67 : decode cX0_play 67 = .ok (.iload 5, 2) := by decide +kernel
theorem dX0_play_69 : decode cX0_play 69 = .ok (.invokevirtual 48, 3) := by decide +kernel
theorem dX0_play_72 : decode cX0_play 72 = .ok (.aload_n 0, 1) := by decide +kernel
theorem dX0_play_73 : decode cX0_play 73 = .ok (.iload 5, 2) := by decide +kernel
theorem dX0_play_75 : decode cX0_play 75 = .ok (.iload_n 2, 1) := by decide +kernel
theorem dX0_play_76 : decode cX0_play 76 = .ok (.invokevirtual 52, 3) := by decide +kernel
theorem dX0_play_79 : decode cX0_play 79 = .ok (.aload_n 0, 1) := by decide +kernel
theorem dX0_play_80 : decode cX0_play 80 = .ok (.getfield 9, 3) := by decide +kernel
theorem dX0_play_83 : decode cX0_play 83 = .ok (.iload 5, 2) := by decide +kernel
theorem dX0_play_85 : decode cX0_play 85 = .ok (.iaload, 1) := by decide +kernel
theorem dX0_play_86 : decode cX0_play 86 = .ok (.ifCond .eq 10, 3) := by decide +kernel
theorem dX0_play_89 : decode cX0_play 89 = .ok (.aload_n 0, 1) := by decide +kernel
theorem dX0_play_90 : decode cX0_play 90 = .ok (.iload 5, 2) := by decide +kernel
theorem dX0_play_92 : decode cX0_play 92 = .ok (.iload_n 3, 1) := by decide +kernel
theorem dX0_play_93 : decode cX0_play 93 = .ok (.invokevirtual 56, 3) := by decide +kernel
theorem dX0_play_96 : decode cX0_play 96 = .ok (.iinc 5 1, 3) := by decide +kernel
theorem dX0_play_99 : decode cX0_play 99 = .ok (.goto (-56), 3) := by decide +kernel
theorem dX0_play_102 : decode cX0_play 102 = .ok (.return_, 1) := by decide +kernel
theorem dX0_swingByRopes_0 : decode cX0_swingByRopes 0 = .ok (.iload_n 1, 1) := by decide +kernel
theorem dX0_swingByRopes_1 : decode cX0_swingByRopes 1 = .ok (.bipush 10, 2) := by decide +kernel
theorem dX0_swingByRopes_3 : decode cX0_swingByRopes 3 = .ok (.irem, 1) := by decide +kernel
theorem dX0_swingByRopes_4 : decode cX0_swingByRopes 4 = .ok (.bipush 6, 2) := by decide +kernel
theorem dX0_swingByRopes_6 : decode cX0_swingByRopes 6 = .ok (.imul, 1) := by decide +kernel
theorem dX0_swingByRopes_7 : decode cX0_swingByRopes 7 = .ok (.istore_n 2, 1) := by decide +kernel
theorem dX0_swingByRopes_8 : decode cX0_swingByRopes 8 = .ok (.iload_n 1, 1) := by decide +kernel
theorem dX0_swingByRopes_9 : decode cX0_swingByRopes 9 = .ok (.bipush 6, 2) := by decide +kernel
theorem dX0_swingByRopes_11 : decode cX0_swingByRopes 11 = .ok (.irem, 1) := by decide +kernel
theorem dX0_swingByRopes_12 : decode cX0_swingByRopes 12 = .ok (.bipush 6, 2) := by decide +kernel
theorem dX0_swingByRopes_14 : decode cX0_swingByRopes 14 = .ok (.imul, 1) := by decide +kernel
theorem dX0_swingByRopes_15 : decode cX0_swingByRopes 15 = .ok (.istore_n 3, 1) := by decide +kernel
theorem dX0_swingByRopes_16 : decode cX0_swingByRopes 16 = .ok (.iconst 0, 1) := by decide +kernel
theorem dX0_swingByRopes_17 : decode cX0_swingByRopes 17 = .ok (.istore 4, 2) := by decide +kernel
theorem dX0_swingByRopes_19 : decode cX0_swingByRopes 19 = .ok (.iload 4, 2) := by decide +kernel
theorem dX0_swingByRopes_21 : decode cX0_swingByRopes 21 = .ok (.aload_n 0, 1) := by decide +kernel
theorem dX0_swingByRopes_22 : decode cX0_swingByRopes 22 = .ok (.getfield 24, 3) := by decide +kernel
theorem dX0_swingByRopes_25 : decode cX0_swingByRopes 25 = .ok (.getfield 59, 3) := by decide +kernel
theorem dX0_swingByRopes_28 : decode cX0_swingByRopes 28 = .ok (.if_icmp .ge 43, 3) := by decide +kernel
theorem dX0_swingByRopes_31 : decode cX0_swingByRopes 31 = .ok (.aload_n 0, 1) := by decide +kernel
theorem dX0_swingByRopes_32 : decode cX0_swingByRopes 32 = .ok (.getfield 18, 3) := by decide +kernel
theorem dX0_swingByRopes_35 : decode cX0_swingByRopes 35 = .ok (.iload_n 3, 1) := by decide +kernel
theorem dX0_swingByRopes_36 : decode cX0_swingByRopes 36 = .ok (.iload 4, 2) := by decide +kernel
theorem dX0_swingByRopes_38 : decode cX0_swingByRopes 38 = .ok (.iadd, 1) := by decide +kernel
theorem dX0_swingByRopes_39 : decode cX0_swingByRopes 39 = .ok (.aload_n 0, 1) := by decide +kernel
theorem dX0_swingByRopes_40 : decode cX0_swingByRopes 40 = .ok (.iload 4, 2) := by decide +kernel
theorem dX0_swingByRopes_42 : decode cX0_swingByRopes 42 = .ok (.aload_n 0, 1) := by decide +kernel
theorem dX0_swingByRopes_43 : decode cX0_swingByRopes 43 = .ok (.getfield 15, 3) := by decide +kernel
theorem dX0_swingByRopes_46 : decode cX0_swingByRopes 46 = .ok (.iload_n 2, 1) := by decide +kernel
theorem dX0_swingByRopes_47 : decode cX0_swingByRopes 47 = .ok (.iload 4, 2) := by decide +kernel
theorem dX0_swingByRopes_49 : decode cX0_swingByRopes 49 = .ok (.iadd, 1) := by decide +kernel
theorem dX0_swingByRopes_50 : decode cX0_swingByRopes 50 = .ok (.iaload, 1) := by decide +kernel
theorem dX0_swingByRopes_51 : decode cX0_swingByRopes 51 = .ok (.invokevirtual 64, 3) := by decide +kernel
theorem dX0_swingByRopes_54 : decode cX0_swingByRopes 54 = .ok (.iastore, 1) := by decide +kernel
theorem dX0_swingByRopes_55 : decode cX0_swingByRopes 55 = .ok (.aload_n 0, 1) := by decide +kernel
theorem dX0_swingByRopes_56 : decode cX0_swingByRopes 56 = .ok (.getfield 15, 3) := by decide +kernel
theorem dX0_swingByRopes_59 : decode cX0_swingByRopes 59 = .ok (.iload_n 2, 1) := by decide +kernel
theorem dX0_swingByRopes_60 : decode cX0_swingByRopes 60 = .ok (.iload 4, 2) := by decide +kernel
theorem dX0_swingByRopes_62 : decode cX0_swingByRopes 62 = .ok (.iadd, 1) := by decide +kernel
theorem dX0_swingByRopes_63 : decode cX0_swingByRopes 63 = .ok (.iconst 0, 1) := by decide +kernel
theorem dX0_swingByRopes_64 : decode cX0_swingByRopes 64 = .ok (.iastore, 1) := by decide +kernel
theorem dX0_swingByRopes_65 : decode cX0_swingByRopes 65 = .ok (.iinc 4 1, 3) := by decide +kernel
theorem dX0_swingByRopes_68 : decode cX0_swingByRopes 68 = .ok (.goto (-49), 3) := by decide +kernel
theorem dX0_swingByRopes_71 : decode cX0_swingByRopes 71 = .ok (.return_, 1) := by decide +kernel
theorem dX0_countedOf_0 : decode cX0_countedOf 0 = .ok (.aload_n 0, 1) := by decide +kernel
theorem dX0_countedOf_1 : decode cX0_countedOf 1 = .ok (.getfield 24, 3) := by decide +kernel
theorem dX0_countedOf_4 : decode cX0_countedOf 4 = .ok (.getfield 68, 3) := by decide +kernel
theorem dX0_countedOf_7 : decode cX0_countedOf 7 = .ok (.iload_n 1, 1) := by decide +kernel
theorem dX0_countedOf_8 : decode cX0_countedOf 8 = .ok (.iaload, 1) := by decide +kernel
theorem dX0_countedOf_9 : decode cX0_countedOf 9 = .ok (.iconst 2, 1) := by decide +kernel
theorem dX0_countedOf_10 : decode cX0_countedOf 10 = .ok (.if_icmp .eq 5, 3) := by decide +kernel
theorem dX0_countedOf_13 : decode cX0_countedOf 13 = .ok (.iload_n 2, 1) := by decide +kernel
theorem dX0_countedOf_14 : decode cX0_countedOf 14 = .ok (.ireturn, 1) := by decide +kernel
theorem dX0_countedOf_15 : decode cX0_countedOf 15 = .ok (.aload_n 0, 1) := by decide +kernel
theorem dX0_countedOf_16 : decode cX0_countedOf 16 = .ok (.getfield 21, 3) := by decide +kernel
theorem dX0_countedOf_19 : decode cX0_countedOf 19 = .ok (.iload_n 1, 1) := by decide +kernel
theorem dX0_countedOf_20 : decode cX0_countedOf 20 = .ok (.iaload, 1) := by decide +kernel
theorem dX0_countedOf_21 : decode cX0_countedOf 21 = .ok (.istore_n 3, 1) := by decide +kernel
theorem dX0_countedOf_22 : decode cX0_countedOf 22 = .ok (.aload_n 0, 1) := by decide +kernel
theorem dX0_countedOf_23 : decode cX0_countedOf 23 = .ok (.getfield 21, 3) := by decide +kernel
theorem dX0_countedOf_26 : decode cX0_countedOf 26 = .ok (.iload_n 1, 1) := by decide +kernel
theorem dX0_countedOf_27 : decode cX0_countedOf 27 = .ok (.iload_n 3, 1) := by decide +kernel
theorem dX0_countedOf_28 : decode cX0_countedOf 28 = .ok (.iload_n 2, 1) := by decide +kernel
theorem dX0_countedOf_29 : decode cX0_countedOf 29 = .ok (.iadd, 1) := by decide +kernel
theorem dX0_countedOf_30 : decode cX0_countedOf 30 = .ok (.iastore, 1) := by decide +kernel
theorem dX0_countedOf_31 : decode cX0_countedOf 31 = .ok (.iload_n 3, 1) := by decide +kernel
theorem dX0_countedOf_32 : decode cX0_countedOf 32 = .ok (.iload_n 2, 1) := by decide +kernel
theorem dX0_countedOf_33 : decode cX0_countedOf 33 = .ok (.iadd, 1) := by decide +kernel
theorem dX0_countedOf_34 : decode cX0_countedOf 34 = .ok (.iconst 2, 1) := by decide +kernel
theorem dX0_countedOf_35 : decode cX0_countedOf 35 = .ok (.idiv, 1) := by decide +kernel
theorem dX0_countedOf_36 : decode cX0_countedOf 36 = .ok (.iload_n 3, 1) := by decide +kernel
theorem dX0_countedOf_37 : decode cX0_countedOf 37 = .ok (.iconst 2, 1) := by decide +kernel
theorem dX0_countedOf_38 : decode cX0_countedOf 38 = .ok (.idiv, 1) := by decide +kernel
theorem dX0_countedOf_39 : decode cX0_countedOf 39 = .ok (.isub, 1) := by decide +kernel
theorem dX0_countedOf_40 : decode cX0_countedOf 40 = .ok (.ireturn, 1) := by decide +kernel
theorem dX0_swingByPulls_0 : decode cX0_swingByPulls 0 = .ok (.iload_n 2, 1) := by decide +kernel
theorem dX0_swingByPulls_1 : decode cX0_swingByPulls 1 = .ok (.bipush 6, 2) := by decide +kernel
theorem dX0_swingByPulls_3 : decode cX0_swingByPulls 3 = .ok (.irem, 1) := by decide +kernel
theorem dX0_swingByPulls_4 : decode cX0_swingByPulls 4 = .ok (.bipush 6, 2) := by decide +kernel
theorem dX0_swingByPulls_6 : decode cX0_swingByPulls 6 = .ok (.imul, 1) := by decide +kernel
theorem dX0_swingByPulls_7 : decode cX0_swingByPulls 7 = .ok (.istore_n 3, 1) := by decide +kernel
theorem dX0_swingByPulls_8 : decode cX0_swingByPulls 8 = .ok (.iconst 0, 1) := by decide +kernel
theorem dX0_swingByPulls_9 : decode cX0_swingByPulls 9 = .ok (.istore 4, 2) := by decide +kernel
theorem dX0_swingByPulls_11 : decode cX0_swingByPulls 11 = .ok (.iload 4, 2) := by decide +kernel
theorem dX0_swingByPulls_13 : decode cX0_swingByPulls 13 = .ok (.aload_n 1, 1) := by decide +kernel
theorem dX0_swingByPulls_14 : decode cX0_swingByPulls 14 = .ok (.getfield 71, 3) := by decide +kernel
theorem dX0_swingByPulls_17 : decode cX0_swingByPulls 17 = .ok (.if_icmp .ge 44, 3) := by decide +kernel
theorem dX0_swingByPulls_20 : decode cX0_swingByPulls 20 = .ok (.aload_n 1, 1) := by decide +kernel
theorem dX0_swingByPulls_21 : decode cX0_swingByPulls 21 = .ok (.getfield 74, 3) := by decide +kernel
theorem dX0_swingByPulls_24 : decode cX0_swingByPulls 24 = .ok (.iload 4, 2) := by decide +kernel
theorem dX0_swingByPulls_26 : decode cX0_swingByPulls 26 = .ok (.iaload, 1) := by decide +kernel
theorem dX0_swingByPulls_27 : decode cX0_swingByPulls 27 = .ok (.iload_n 2, 1) := by decide +kernel
theorem dX0_swingByPulls_28 : decode cX0_swingByPulls 28 = .ok (.if_icmp .ne 27, 3) := by decide +kernel
theorem dX0_swingByPulls_31 : decode cX0_swingByPulls 31 = .ok (.aload_n 0, 1) := by decide +kernel
theorem dX0_swingByPulls_32 : decode cX0_swingByPulls 32 = .ok (.getfield 18, 3) := by decide +kernel
theorem dX0_swingByPulls_35 : decode cX0_swingByPulls 35 = .ok (.iload_n 3, 1) := by decide +kernel
theorem dX0_swingByPulls_36 : decode cX0_swingByPulls 36 = .ok (.aload_n 1, 1) := by decide +kernel
theorem dX0_swingByPulls_37 : decode cX0_swingByPulls 37 = .ok (.getfield 77, 3) := by decide +kernel
theorem dX0_swingByPulls_40 : decode cX0_swingByPulls 40 = .ok (.iload 4, 2) := by decide +kernel
theorem dX0_swingByPulls_42 : decode cX0_swingByPulls 42 = .ok (.iaload, 1) := by decide +kernel
theorem dX0_swingByPulls_43 : decode cX0_swingByPulls 43 = .ok (.iadd, 1) := by decide +kernel
theorem dX0_swingByPulls_44 : decode cX0_swingByPulls 44 = .ok (.dup2, 1) := by decide +kernel
theorem dX0_swingByPulls_45 : decode cX0_swingByPulls 45 = .ok (.iaload, 1) := by decide +kernel
theorem dX0_swingByPulls_46 : decode cX0_swingByPulls 46 = .ok (.aload_n 1, 1) := by decide +kernel
theorem dX0_swingByPulls_47 : decode cX0_swingByPulls 47 = .ok (.getfield 79, 3) := by decide +kernel
theorem dX0_swingByPulls_50 : decode cX0_swingByPulls 50 = .ok (.iload 4, 2) := by decide +kernel
theorem dX0_swingByPulls_52 : decode cX0_swingByPulls 52 = .ok (.iaload, 1) := by decide +kernel
theorem dX0_swingByPulls_53 : decode cX0_swingByPulls 53 = .ok (.iadd, 1) := by decide +kernel
theorem dX0_swingByPulls_54 : decode cX0_swingByPulls 54 = .ok (.iastore, 1) := by decide +kernel
theorem dX0_swingByPulls_55 : decode cX0_swingByPulls 55 = .ok (.iinc 4 1, 3) := by decide +kernel
theorem dX0_swingByPulls_58 : decode cX0_swingByPulls 58 = .ok (.goto (-47), 3) := by decide +kernel
theorem dX0_swingByPulls_61 : decode cX0_swingByPulls 61 = .ok (.return_, 1) := by decide +kernel
theorem dX0_ringAll_0 : decode cX0_ringAll 0 = .ok (.iconst 0, 1) := by decide +kernel
theorem dX0_ringAll_1 : decode cX0_ringAll 1 = .ok (.istore_n 3, 1) := by decide +kernel
theorem dX0_ringAll_2 : decode cX0_ringAll 2 = .ok (.iload_n 3, 1) := by decide +kernel
theorem dX0_ringAll_3 : decode cX0_ringAll 3 = .ok (.aload_n 0, 1) := by decide +kernel
theorem dX0_ringAll_4 : decode cX0_ringAll 4 = .ok (.getfield 24, 3) := by decide +kernel
theorem dX0_ringAll_7 : decode cX0_ringAll 7 = .ok (.getfield 59, 3) := by decide +kernel
theorem dX0_ringAll_10 : decode cX0_ringAll 10 = .ok (.if_icmp .ge 51, 3) := by decide +kernel
theorem dX0_ringAll_13 : decode cX0_ringAll 13 = .ok (.iload_n 2, 1) := by decide +kernel
theorem dX0_ringAll_14 : decode cX0_ringAll 14 = .ok (.iload_n 3, 1) := by decide +kernel
theorem dX0_ringAll_15 : decode cX0_ringAll 15 = .ok (.ishr, 1) := by decide +kernel
theorem dX0_ringAll_16 : decode cX0_ringAll 16 = .ok (.iconst 1, 1) := by decide +kernel
theorem dX0_ringAll_17 : decode cX0_ringAll 17 = .ok (.iand, 1) := by decide +kernel
theorem dX0_ringAll_18 : decode cX0_ringAll 18 = .ok (.ifCond .ne 37, 3) := by decide +kernel
theorem dX0_ringAll_21 : decode cX0_ringAll 21 = .ok (.aload_n 0, 1) := by decide +kernel
theorem dX0_ringAll_22 : decode cX0_ringAll 22 = .ok (.iload_n 3, 1) := by decide +kernel
theorem dX0_ringAll_23 : decode cX0_ringAll 23 = .ok (.iload_n 1, 1) := by decide +kernel
theorem dX0_ringAll_24 : decode cX0_ringAll 24 = .ok (.invokevirtual 82, 3) := by decide +kernel
theorem dX0_ringAll_27 : decode cX0_ringAll 27 = .ok (.aload_n 0, 1) := by decide +kernel
theorem dX0_ringAll_28 : decode cX0_ringAll 28 = .ok (.getfield 24, 3) := by decide +kernel
theorem dX0_ringAll_31 : decode cX0_ringAll 31 = .ok (.iload_n 3, 1) := by decide +kernel
theorem dX0_ringAll_32 : decode cX0_ringAll 32 = .ok (.invokevirtual 85, 3) := by decide +kernel
theorem dX0_ringAll_35 : decode cX0_ringAll 35 = .ok (.if_icmp .lt 20, 3) := by decide +kernel
theorem dX0_ringAll_38 : decode cX0_ringAll 38 = .ok (.aload_n 0, 1) := by decide +kernel
theorem dX0_ringAll_39 : decode cX0_ringAll 39 = .ok (.getfield 9, 3) := by decide +kernel
theorem dX0_ringAll_42 : decode cX0_ringAll 42 = .ok (.iload_n 1, 1) := by decide +kernel
theorem dX0_ringAll_43 : decode cX0_ringAll 43 = .ok (.dup2, 1) := by decide +kernel
theorem dX0_ringAll_44 : decode cX0_ringAll 44 = .ok (.iaload, 1) := by decide +kernel
theorem dX0_ringAll_45 : decode cX0_ringAll 45 = .ok (.iconst 1, 1) := by decide +kernel
theorem dX0_ringAll_46 : decode cX0_ringAll 46 = .ok (.iload_n 3, 1) := by decide +kernel
theorem dX0_ringAll_47 : decode cX0_ringAll 47 = .ok (.ishl, 1) := by decide +kernel
theorem dX0_ringAll_48 : decode cX0_ringAll 48 = .ok (.ior, 1) := by decide +kernel
theorem dX0_ringAll_49 : decode cX0_ringAll 49 = .ok (.iastore, 1) := by decide +kernel
theorem dX0_ringAll_50 : decode cX0_ringAll 50 = .ok (.aload_n 0, 1) := by decide +kernel
theorem dX0_ringAll_51 : decode cX0_ringAll 51 = .ok (.iload_n 3, 1) := by decide +kernel
theorem dX0_ringAll_52 : decode cX0_ringAll 52 = .ok (.invokevirtual 89, 3) := by decide +kernel
theorem dX0_ringAll_55 : decode cX0_ringAll 55 = .ok (.iinc 3 1, 3) := by decide +kernel
theorem dX0_ringAll_58 : decode cX0_ringAll 58 = .ok (.goto (-56), 3) := by decide +kernel
theorem dX0_ringAll_61 : decode cX0_ringAll 61 = .ok (.return_, 1) := by decide +kernel
theorem dX0_countTogether_0 : decode cX0_countTogether 0 = .ok (.iconst 0, 1) := by decide +kernel
theorem dX0_countTogether_1 : decode cX0_countTogether 1 = .ok (.istore_n 3, 1) := by decide +kernel
theorem dX0_countTogether_2 : decode cX0_countTogether 2 = .ok (.iconst 0, 1) := by decide +kernel
theorem dX0_countTogether_3 : decode cX0_countTogether 3 = .ok (.istore 4, 2) := by decide +kernel
theorem dX0_countTogether_5 : decode cX0_countTogether 5 = .ok (.iload 4, 2) := by decide +kernel
theorem dX0_countTogether_7 : decode cX0_countTogether 7 = .ok (.aload_n 0, 1) := by decide +kernel
theorem dX0_countTogether_8 : decode cX0_countTogether 8 = .ok (.getfield 24, 3) := by decide +kernel
theorem dX0_countTogether_11 : decode cX0_countTogether 11 = .ok (.getfield 92, 3) := by decide +kernel
theorem dX0_countTogether_14 : decode cX0_countTogether 14 = .ok (.if_icmp .gt 35, 3) := by decide +kernel
theorem dX0_countTogether_17 : decode cX0_countTogether 17 = .ok (.iload 4, 2) := by decide +kernel
theorem dX0_countTogether_19 : decode cX0_countTogether 19 = .ok (.iload_n 2, 1) := by decide +kernel
theorem dX0_countTogether_20 : decode cX0_countTogether 20 = .ok (.if_icmp .gt 29, 3) := by decide +kernel
theorem dX0_countTogether_23 : decode cX0_countTogether 23 = .ok (.iload_n 3, 1) := by decide +kernel
theorem dX0_countTogether_24 : decode cX0_countTogether 24 = .ok (.aload_n 0, 1) := by decide +kernel
theorem dX0_countTogether_25 : decode cX0_countTogether 25 = .ok (.getfield 18, 3) := by decide +kernel
theorem dX0_countTogether_28 : decode cX0_countTogether 28 = .ok (.iload_n 2, 1) := by decide +kernel
theorem dX0_countTogether_29 : decode cX0_countTogether 29 = .ok (.iload 4, 2) := by decide +kernel
theorem dX0_countTogether_31 : decode cX0_countTogether 31 = .ok (.isub, 1) := by decide +kernel
theorem dX0_countTogether_32 : decode cX0_countTogether 32 = .ok (.bipush 6, 2) := by decide +kernel
theorem dX0_countTogether_34 : decode cX0_countTogether 34 = .ok (.irem, 1) := by decide +kernel
theorem dX0_countTogether_35 : decode cX0_countTogether 35 = .ok (.bipush 6, 2) := by decide +kernel
theorem dX0_countTogether_37 : decode cX0_countTogether 37 = .ok (.imul, 1) := by decide +kernel
theorem dX0_countTogether_38 : decode cX0_countTogether 38 = .ok (.iload_n 1, 1) := by decide +kernel
theorem dX0_countTogether_39 : decode cX0_countTogether 39 = .ok (.iadd, 1) := by decide +kernel
theorem dX0_countTogether_40 : decode cX0_countTogether 40 = .ok (.iaload, 1) := by decide +kernel
theorem dX0_countTogether_41 : decode cX0_countTogether 41 = .ok (.iadd, 1) := by decide +kernel
theorem dX0_countTogether_42 : decode cX0_countTogether 42 = .ok (.istore_n 3, 1) := by decide +kernel
theorem dX0_countTogether_43 : decode cX0_countTogether 43 = .ok (.iinc 4 1, 3) := by decide +kernel
theorem dX0_countTogether_46 : decode cX0_countTogether 46 = .ok (.goto (-41), 3) := by decide +kernel
theorem dX0_countTogether_49 : decode cX0_countTogether 49 = .ok (.iload_n 3, 1) := by decide +kernel
theorem dX0_countTogether_50 : decode cX0_countTogether 50 = .ok (.ireturn, 1) := by decide +kernel
theorem dX0_forget_0 : decode cX0_forget 0 = .ok (.iconst 0, 1) := by decide +kernel
theorem dX0_forget_1 : decode cX0_forget 1 = .ok (.istore_n 2, 1) := by decide +kernel
theorem dX0_forget_2 : decode cX0_forget 2 = .ok (.iload_n 2, 1) := by decide +kernel
theorem dX0_forget_3 : decode cX0_forget 3 = .ok (.bipush 6, 2) := by decide +kernel
theorem dX0_forget_5 : decode cX0_forget 5 = .ok (.if_icmp .ge 21, 3) := by decide +kernel
theorem dX0_forget_8 : decode cX0_forget 8 = .ok (.aload_n 0, 1) := by decide +kernel
theorem dX0_forget_9 : decode cX0_forget 9 = .ok (.getfield 18, 3) := by decide +kernel
theorem dX0_forget_12 : decode cX0_forget 12 = .ok (.iload_n 2, 1) := by decide +kernel
theorem dX0_forget_13 : decode cX0_forget 13 = .ok (.bipush 6, 2) := by decide +kernel
theorem dX0_forget_15 : decode cX0_forget 15 = .ok (.imul, 1) := by decide +kernel
theorem dX0_forget_16 : decode cX0_forget 16 = .ok (.iload_n 1, 1) := by decide +kernel
theorem dX0_forget_17 : decode cX0_forget 17 = .ok (.iadd, 1) := by decide +kernel
theorem dX0_forget_18 : decode cX0_forget 18 = .ok (.iconst 0, 1) := by decide +kernel
theorem dX0_forget_19 : decode cX0_forget 19 = .ok (.iastore, 1) := by decide +kernel
theorem dX0_forget_20 : decode cX0_forget 20 = .ok (.iinc 2 1, 3) := by decide +kernel
theorem dX0_forget_23 : decode cX0_forget 23 = .ok (.goto (-21), 3) := by decide +kernel
theorem dX0_forget_26 : decode cX0_forget 26 = .ok (.aload_n 0, 1) := by decide +kernel
theorem dX0_forget_27 : decode cX0_forget 27 = .ok (.getfield 21, 3) := by decide +kernel
theorem dX0_forget_30 : decode cX0_forget 30 = .ok (.iload_n 1, 1) := by decide +kernel
theorem dX0_forget_31 : decode cX0_forget 31 = .ok (.iconst 0, 1) := by decide +kernel
theorem dX0_forget_32 : decode cX0_forget 32 = .ok (.iastore, 1) := by decide +kernel
theorem dX0_forget_33 : decode cX0_forget 33 = .ok (.return_, 1) := by decide +kernel
theorem dX0_sendOn_0 : decode cX0_sendOn 0 = .ok (.iconst 0, 1) := by decide +kernel
theorem dX0_sendOn_1 : decode cX0_sendOn 1 = .ok (.istore_n 3, 1) := by decide +kernel
theorem dX0_sendOn_2 : decode cX0_sendOn 2 = .ok (.iload_n 3, 1) := by decide +kernel
theorem dX0_sendOn_3 : decode cX0_sendOn 3 = .ok (.bipush 8, 2) := by decide +kernel
theorem dX0_sendOn_5 : decode cX0_sendOn 5 = .ok (.if_icmp .gt 87, 3) := by decide +kernel
theorem dX0_sendOn_8 : decode cX0_sendOn 8 = .ok (.iload_n 2, 1) := by decide +kernel
theorem dX0_sendOn_9 : decode cX0_sendOn 9 = .ok (.iload_n 3, 1) := by decide +kernel
theorem dX0_sendOn_10 : decode cX0_sendOn 10 = .ok (.ishr, 1) := by decide +kernel
theorem dX0_sendOn_11 : decode cX0_sendOn 11 = .ok (.iconst 1, 1) := by decide +kernel
theorem dX0_sendOn_12 : decode cX0_sendOn 12 = .ok (.iand, 1) := by decide +kernel
theorem dX0_sendOn_13 : decode cX0_sendOn 13 = .ok (.ifCond .eq 73, 3) := by decide +kernel
theorem dX0_sendOn_16 : decode cX0_sendOn 16 = .ok (.aload_n 0, 1) := by decide +kernel
theorem dX0_sendOn_17 : decode cX0_sendOn 17 = .ok (.aload_n 0, 1) := by decide +kernel
theorem dX0_sendOn_18 : decode cX0_sendOn 18 = .ok (.getfield 24, 3) := by decide +kernel
theorem dX0_sendOn_21 : decode cX0_sendOn 21 = .ok (.getfield 95, 3) := by decide +kernel
theorem dX0_sendOn_24 : decode cX0_sendOn 24 = .ok (.iload_n 3, 1) := by decide +kernel
theorem dX0_sendOn_25 : decode cX0_sendOn 25 = .ok (.iaload, 1) := by decide +kernel
theorem dX0_sendOn_26 : decode cX0_sendOn 26 = .ok (.iload_n 1, 1) := by decide +kernel
theorem dX0_sendOn_27 : decode cX0_sendOn 27 = .ok (.invokevirtual 98, 3) := by decide +kernel
theorem dX0_sendOn_30 : decode cX0_sendOn 30 = .ok (.ifCond .eq 56, 3) := by decide +kernel
theorem dX0_sendOn_33 : decode cX0_sendOn 33 = .ok (.iload_n 1, 1) := by decide +kernel
theorem dX0_sendOn_34 : decode cX0_sendOn 34 = .ok (.aload_n 0, 1) := by decide +kernel
theorem dX0_sendOn_35 : decode cX0_sendOn 35 = .ok (.getfield 24, 3) := by decide +kernel
theorem dX0_sendOn_38 : decode cX0_sendOn 38 = .ok (.getfield 102, 3) := by decide +kernel
theorem dX0_sendOn_41 : decode cX0_sendOn 41 = .ok (.iload_n 3, 1) := by decide +kernel
theorem dX0_sendOn_42 : decode cX0_sendOn 42 = .ok (.iaload, 1) := by decide +kernel
theorem dX0_sendOn_43 : decode cX0_sendOn 43 = .ok (.iadd, 1) := by decide +kernel
theorem dX0_sendOn_44 : decode cX0_sendOn 44 = .ok (.istore 4, 2) := by decide +kernel
theorem dX0_sendOn_46 : decode cX0_sendOn 46 = .ok (.aload_n 0, 1) := by decide +kernel
theorem dX0_sendOn_47 : decode cX0_sendOn 47 = .ok (.getfield 15, 3) := by decide +kernel
theorem dX0_sendOn_50 : decode cX0_sendOn 50 = .ok (.iload 4, 2) := by decide +kernel
theorem dX0_sendOn_52 : decode cX0_sendOn 52 = .ok (.bipush 10, 2) := by decide +kernel
theorem dX0_sendOn_54 : decode cX0_sendOn 54 = .ok (.irem, 1) := by decide +kernel
theorem dX0_sendOn_55 : decode cX0_sendOn 55 = .ok (.bipush 6, 2) := by decide +kernel
theorem dX0_sendOn_57 : decode cX0_sendOn 57 = .ok (.imul, 1) := by decide +kernel
theorem dX0_sendOn_58 : decode cX0_sendOn 58 = .ok (.aload_n 0, 1) := by decide +kernel
theorem dX0_sendOn_59 : decode cX0_sendOn 59 = .ok (.getfield 24, 3) := by decide +kernel
theorem dX0_sendOn_62 : decode cX0_sendOn 62 = .ok (.getfield 105, 3) := by decide +kernel
theorem dX0_sendOn_65 : decode cX0_sendOn 65 = .ok (.iload_n 3, 1) := by decide +kernel
theorem dX0_sendOn_66 : decode cX0_sendOn 66 = .ok (.iaload, 1) := by decide +kernel
theorem dX0_sendOn_67 : decode cX0_sendOn 67 = .ok (.iadd, 1) := by decide +kernel
theorem dX0_sendOn_68 : decode cX0_sendOn 68 = .ok (.dup2, 1) := by decide +kernel
theorem dX0_sendOn_69 : decode cX0_sendOn 69 = .ok (.iaload, 1) := by decide +kernel
theorem dX0_sendOn_70 : decode cX0_sendOn 70 = .ok (.iconst 1, 1) := by decide +kernel
theorem dX0_sendOn_71 : decode cX0_sendOn 71 = .ok (.iadd, 1) := by decide +kernel
theorem dX0_sendOn_72 : decode cX0_sendOn 72 = .ok (.iastore, 1) := by decide +kernel
theorem dX0_sendOn_73 : decode cX0_sendOn 73 = .ok (.aload_n 0, 1) := by decide +kernel
theorem dX0_sendOn_74 : decode cX0_sendOn 74 = .ok (.aload_n 0, 1) := by decide +kernel
theorem dX0_sendOn_75 : decode cX0_sendOn 75 = .ok (.getfield 40, 3) := by decide +kernel
theorem dX0_sendOn_78 : decode cX0_sendOn 78 = .ok (.iload 4, 2) := by decide +kernel
theorem dX0_sendOn_80 : decode cX0_sendOn 80 = .ok (.invokestatic 108, 3) := by decide +kernel
theorem dX0_sendOn_83 : decode cX0_sendOn 83 = .ok (.putfield 40, 3) := by decide +kernel
theorem dX0_sendOn_86 : decode cX0_sendOn 86 = .ok (.iinc 3 1, 3) := by decide +kernel
theorem dX0_sendOn_89 : decode cX0_sendOn 89 = .ok (.goto (-87), 3) := by decide +kernel
theorem dX0_sendOn_92 : decode cX0_sendOn 92 = .ok (.return_, 1) := by decide +kernel
theorem dX1_init_0 : decode cX1_init 0 = .ok (.aload_n 0, 1) := by decide +kernel
theorem dX1_init_1 : decode cX1_init 1 = .ok (.invokespecial 3, 3) := by decide +kernel
theorem dX1_init_4 : decode cX1_init 4 = .ok (.aload_n 0, 1) := by decide +kernel
theorem dX1_init_5 : decode cX1_init 5 = .ok (.bipush 6, 2) := by decide +kernel
theorem dX1_init_7 : decode cX1_init 7 = .ok (.newarray .int, 2) := by decide +kernel
theorem dX1_init_9 : decode cX1_init 9 = .ok (.putfield 9, 3) := by decide +kernel
theorem dX1_init_12 : decode cX1_init 12 = .ok (.aload_n 0, 1) := by decide +kernel
theorem dX1_init_13 : decode cX1_init 13 = .ok (.bipush 6, 2) := by decide +kernel
theorem dX1_init_15 : decode cX1_init 15 = .ok (.newarray .int, 2) := by decide +kernel
theorem dX1_init_17 : decode cX1_init 17 = .ok (.putfield 15, 3) := by decide +kernel
theorem dX1_init_20 : decode cX1_init 20 = .ok (.aload_n 0, 1) := by decide +kernel
theorem dX1_init_21 : decode cX1_init 21 = .ok (.bipush 6, 2) := by decide +kernel
theorem dX1_init_23 : decode cX1_init 23 = .ok (.newarray .int, 2) := by decide +kernel
theorem dX1_init_25 : decode cX1_init 25 = .ok (.putfield 18, 3) := by decide +kernel
theorem dX1_init_28 : decode cX1_init 28 = .ok (.return_, 1) := by decide +kernel
theorem dX1_add_0 : decode cX1_add 0 = .ok (.aload_n 0, 1) := by decide +kernel
theorem dX1_add_1 : decode cX1_add 1 = .ok (.getfield 21, 3) := by decide +kernel
theorem dX1_add_4 : decode cX1_add 4 = .ok (.bipush 6, 2) := by decide +kernel
theorem dX1_add_6 : decode cX1_add 6 = .ok (.if_icmp .ge 43, 3) := by decide +kernel
theorem dX1_add_9 : decode cX1_add 9 = .ok (.aload_n 0, 1) := by decide +kernel
theorem dX1_add_10 : decode cX1_add 10 = .ok (.getfield 9, 3) := by decide +kernel
theorem dX1_add_13 : decode cX1_add 13 = .ok (.aload_n 0, 1) := by decide +kernel
theorem dX1_add_14 : decode cX1_add 14 = .ok (.getfield 21, 3) := by decide +kernel
theorem dX1_add_17 : decode cX1_add 17 = .ok (.iload_n 1, 1) := by decide +kernel
theorem dX1_add_18 : decode cX1_add 18 = .ok (.iastore, 1) := by decide +kernel
theorem dX1_add_19 : decode cX1_add 19 = .ok (.aload_n 0, 1) := by decide +kernel
theorem dX1_add_20 : decode cX1_add 20 = .ok (.getfield 15, 3) := by decide +kernel
theorem dX1_add_23 : decode cX1_add 23 = .ok (.aload_n 0, 1) := by decide +kernel
theorem dX1_add_24 : decode cX1_add 24 = .ok (.getfield 21, 3) := by decide +kernel
theorem dX1_add_27 : decode cX1_add 27 = .ok (.iload_n 2, 1) := by decide +kernel
theorem dX1_add_28 : decode cX1_add 28 = .ok (.iastore, 1) := by decide +kernel
theorem dX1_add_29 : decode cX1_add 29 = .ok (.aload_n 0, 1) := by decide +kernel
theorem dX1_add_30 : decode cX1_add 30 = .ok (.getfield 18, 3) := by decide +kernel
theorem dX1_add_33 : decode cX1_add 33 = .ok (.aload_n 0, 1) := by decide +kernel
theorem dX1_add_34 : decode cX1_add 34 = .ok (.getfield 21, 3) := by decide +kernel
theorem dX1_add_37 : decode cX1_add 37 = .ok (.iload_n 3, 1) := by decide +kernel
theorem dX1_add_38 : decode cX1_add 38 = .ok (.iastore, 1) := by decide +kernel
theorem dX1_add_39 : decode cX1_add 39 = .ok (.aload_n 0, 1) := by decide +kernel
theorem dX1_add_40 : decode cX1_add 40 = .ok (.dup, 1) := by decide +kernel
theorem dX1_add_41 : decode cX1_add 41 = .ok (.getfield 21, 3) := by decide +kernel
theorem dX1_add_44 : decode cX1_add 44 = .ok (.iconst 1, 1) := by decide +kernel
theorem dX1_add_45 : decode cX1_add 45 = .ok (.iadd, 1) := by decide +kernel
theorem dX1_add_46 : decode cX1_add 46 = .ok (.putfield 21, 3) := by decide +kernel
theorem dX1_add_49 : decode cX1_add 49 = .ok (.return_, 1) := by decide +kernel
theorem dX1_lastMinute_0 : decode cX1_lastMinute 0 = .ok (.bipush (-9), 2) := by decide +kernel
theorem dX1_lastMinute_2 : decode cX1_lastMinute 2 = .ok (.istore_n 1, 1) := by decide +kernel
theorem dX1_lastMinute_3 : decode cX1_lastMinute 3 = .ok (.iconst 0, 1) := by decide +kernel
theorem dX1_lastMinute_4 : decode cX1_lastMinute 4 = .ok (.istore_n 2, 1) := by decide +kernel
theorem dX1_lastMinute_5 : decode cX1_lastMinute 5 = .ok (.iload_n 2, 1) := by decide +kernel
theorem dX1_lastMinute_6 : decode cX1_lastMinute 6 = .ok (.aload_n 0, 1) := by decide +kernel
theorem dX1_lastMinute_7 : decode cX1_lastMinute 7 = .ok (.getfield 21, 3) := by decide +kernel
theorem dX1_lastMinute_10 : decode cX1_lastMinute 10 = .ok (.if_icmp .ge 20, 3) := by decide +kernel
theorem dX1_lastMinute_13 : decode cX1_lastMinute 13 = .ok (.iload_n 1, 1) := by decide +kernel
theorem dX1_lastMinute_14 : decode cX1_lastMinute 14 = .ok (.aload_n 0, 1) := by decide +kernel
theorem dX1_lastMinute_15 : decode cX1_lastMinute 15 = .ok (.getfield 15, 3) := by decide +kernel
theorem dX1_lastMinute_18 : decode cX1_lastMinute 18 = .ok (.iload_n 2, 1) := by decide +kernel
theorem dX1_lastMinute_19 : decode cX1_lastMinute 19 = .ok (.iaload, 1) := by decide +kernel
theorem dX1_lastMinute_20 : decode cX1_lastMinute 20 = .ok (.invokestatic 25, 3) := by decide +kernel
theorem dX1_lastMinute_23 : decode cX1_lastMinute 23 = .ok (.istore_n 1, 1) := by decide +kernel
theorem dX1_lastMinute_24 : decode cX1_lastMinute 24 = .ok (.iinc 2 1, 3) := by decide +kernel
theorem dX1_lastMinute_27 : decode cX1_lastMinute 27 = .ok (.goto (-22), 3) := by decide +kernel
theorem dX1_lastMinute_30 : decode cX1_lastMinute 30 = .ok (.iload_n 1, 1) := by decide +kernel
theorem dX1_lastMinute_31 : decode cX1_lastMinute 31 = .ok (.ireturn, 1) := by decide +kernel
theorem dX2_init_0 : decode cX2_init 0 = .ok (.aload_n 0, 1) := by decide +kernel
theorem dX2_init_1 : decode cX2_init 1 = .ok (.invokespecial 3, 3) := by decide +kernel
theorem dX2_init_4 : decode cX2_init 4 = .ok (.aload_n 0, 1) := by decide +kernel
theorem dX2_init_5 : decode cX2_init 5 = .ok (.bipush 6, 2) := by decide +kernel
theorem dX2_init_7 : decode cX2_init 7 = .ok (.newarray .int, 2) := by decide +kernel
theorem dX2_init_9 : decode cX2_init 9 = .ok (.putfield 9, 3) := by decide +kernel
theorem dX2_init_12 : decode cX2_init 12 = .ok (.aload_n 0, 1) := by decide +kernel
theorem dX2_init_13 : decode cX2_init 13 = .ok (.bipush 6, 2) := by decide +kernel
theorem dX2_init_15 : decode cX2_init 15 = .ok (.newarray .int, 2) := by decide +kernel
theorem dX2_init_17 : decode cX2_init 17 = .ok (.putfield 15, 3) := by decide +kernel
theorem dX2_init_20 : decode cX2_init 20 = .ok (.aload_n 0, 1) := by decide +kernel
theorem dX2_init_21 : decode cX2_init 21 = .ok (.bipush 6, 2) := by decide +kernel
theorem dX2_init_23 : decode cX2_init 23 = .ok (.newarray .boolean, 2) := by decide +kernel
theorem dX2_init_25 : decode cX2_init 25 = .ok (.putfield 18, 3) := by decide +kernel
theorem dX2_init_28 : decode cX2_init 28 = .ok (.return_, 1) := by decide +kernel
theorem dX2_add_0 : decode cX2_add 0 = .ok (.aload_n 0, 1) := by decide +kernel
theorem dX2_add_1 : decode cX2_add 1 = .ok (.getfield 22, 3) := by decide +kernel
theorem dX2_add_4 : decode cX2_add 4 = .ok (.bipush 6, 2) := by decide +kernel
theorem dX2_add_6 : decode cX2_add 6 = .ok (.if_icmp .ge 43, 3) := by decide +kernel
theorem dX2_add_9 : decode cX2_add 9 = .ok (.aload_n 0, 1) := by decide +kernel
theorem dX2_add_10 : decode cX2_add 10 = .ok (.getfield 9, 3) := by decide +kernel
theorem dX2_add_13 : decode cX2_add 13 = .ok (.aload_n 0, 1) := by decide +kernel
theorem dX2_add_14 : decode cX2_add 14 = .ok (.getfield 22, 3) := by decide +kernel
theorem dX2_add_17 : decode cX2_add 17 = .ok (.iload_n 1, 1) := by decide +kernel
theorem dX2_add_18 : decode cX2_add 18 = .ok (.iastore, 1) := by decide +kernel
theorem dX2_add_19 : decode cX2_add 19 = .ok (.aload_n 0, 1) := by decide +kernel
theorem dX2_add_20 : decode cX2_add 20 = .ok (.getfield 15, 3) := by decide +kernel
theorem dX2_add_23 : decode cX2_add 23 = .ok (.aload_n 0, 1) := by decide +kernel
theorem dX2_add_24 : decode cX2_add 24 = .ok (.getfield 22, 3) := by decide +kernel
theorem dX2_add_27 : decode cX2_add 27 = .ok (.iload_n 2, 1) := by decide +kernel
theorem dX2_add_28 : decode cX2_add 28 = .ok (.iastore, 1) := by decide +kernel
theorem dX2_add_29 : decode cX2_add 29 = .ok (.aload_n 0, 1) := by decide +kernel
theorem dX2_add_30 : decode cX2_add 30 = .ok (.getfield 18, 3) := by decide +kernel
theorem dX2_add_33 : decode cX2_add 33 = .ok (.aload_n 0, 1) := by decide +kernel
theorem dX2_add_34 : decode cX2_add 34 = .ok (.getfield 22, 3) := by decide +kernel
theorem dX2_add_37 : decode cX2_add 37 = .ok (.iload_n 3, 1) := by decide +kernel
theorem dX2_add_38 : decode cX2_add 38 = .ok (.bastore, 1) := by decide +kernel
theorem dX2_add_39 : decode cX2_add 39 = .ok (.aload_n 0, 1) := by decide +kernel
theorem dX2_add_40 : decode cX2_add 40 = .ok (.dup, 1) := by decide +kernel
theorem dX2_add_41 : decode cX2_add 41 = .ok (.getfield 22, 3) := by decide +kernel
theorem dX2_add_44 : decode cX2_add 44 = .ok (.iconst 1, 1) := by decide +kernel
theorem dX2_add_45 : decode cX2_add 45 = .ok (.iadd, 1) := by decide +kernel
theorem dX2_add_46 : decode cX2_add 46 = .ok (.putfield 22, 3) := by decide +kernel
theorem dX2_add_49 : decode cX2_add 49 = .ok (.return_, 1) := by decide +kernel
theorem dX2_areSoIn_0 : decode cX2_areSoIn 0 = .ok (.iconst 0, 1) := by decide +kernel
theorem dX2_areSoIn_1 : decode cX2_areSoIn 1 = .ok (.istore_n 2, 1) := by decide +kernel
theorem dX2_areSoIn_2 : decode cX2_areSoIn 2 = .ok (.iload_n 2, 1) := by decide +kernel
theorem dX2_areSoIn_3 : decode cX2_areSoIn 3 = .ok (.aload_n 0, 1) := by decide +kernel
theorem dX2_areSoIn_4 : decode cX2_areSoIn 4 = .ok (.getfield 22, 3) := by decide +kernel
theorem dX2_areSoIn_7 : decode cX2_areSoIn 7 = .ok (.if_icmp .ge 36, 3) := by decide +kernel
theorem dX2_areSoIn_10 : decode cX2_areSoIn 10 = .ok (.aload_n 1, 1) := by decide +kernel
theorem dX2_areSoIn_11 : decode cX2_areSoIn 11 = .ok (.aload_n 0, 1) := by decide +kernel
theorem dX2_areSoIn_12 : decode cX2_areSoIn 12 = .ok (.getfield 9, 3) := by decide +kernel
theorem dX2_areSoIn_15 : decode cX2_areSoIn 15 = .ok (.iload_n 2, 1) := by decide +kernel
theorem dX2_areSoIn_16 : decode cX2_areSoIn 16 = .ok (.iaload, 1) := by decide +kernel
theorem dX2_areSoIn_17 : decode cX2_areSoIn 17 = .ok (.aload_n 0, 1) := by decide +kernel
theorem dX2_areSoIn_18 : decode cX2_areSoIn 18 = .ok (.getfield 15, 3) := by decide +kernel
theorem dX2_areSoIn_21 : decode cX2_areSoIn 21 = .ok (.iload_n 2, 1) := by decide +kernel
theorem dX2_areSoIn_22 : decode cX2_areSoIn 22 = .ok (.iaload, 1) := by decide +kernel
theorem dX2_areSoIn_23 : decode cX2_areSoIn 23 = .ok (.invokevirtual 26, 3) := by decide +kernel
theorem dX2_areSoIn_26 : decode cX2_areSoIn 26 = .ok (.aload_n 0, 1) := by decide +kernel
theorem dX2_areSoIn_27 : decode cX2_areSoIn 27 = .ok (.getfield 18, 3) := by decide +kernel
theorem dX2_areSoIn_30 : decode cX2_areSoIn 30 = .ok (.iload_n 2, 1) := by decide +kernel
theorem dX2_areSoIn_31 : decode cX2_areSoIn 31 = .ok (.baload, 1) := by decide +kernel
theorem dX2_areSoIn_32 : decode cX2_areSoIn 32 = .ok (.if_icmp .eq 5, 3) := by decide +kernel
theorem dX2_areSoIn_35 : decode cX2_areSoIn 35 = .ok (.iconst 0, 1) := by decide +kernel
theorem dX2_areSoIn_36 : decode cX2_areSoIn 36 = .ok (.ireturn, 1) := by decide +kernel
theorem dX2_areSoIn_37 : decode cX2_areSoIn 37 = .ok (.iinc 2 1, 3) := by decide +kernel
theorem dX2_areSoIn_40 : decode cX2_areSoIn 40 = .ok (.goto (-38), 3) := by decide +kernel
theorem dX2_areSoIn_43 : decode cX2_areSoIn 43 = .ok (.iconst 1, 1) := by decide +kernel
theorem dX2_areSoIn_44 : decode cX2_areSoIn 44 = .ok (.ireturn, 1) := by decide +kernel
theorem dX3_init_0 : decode cX3_init 0 = .ok (.aload_n 0, 1) := by decide +kernel
theorem dX3_init_1 : decode cX3_init 1 = .ok (.invokespecial 3, 3) := by decide +kernel
theorem dX3_init_4 : decode cX3_init 4 = .ok (.aload_n 0, 1) := by decide +kernel
theorem dX3_init_5 : decode cX3_init 5 = .ok (.bipush 60, 2) := by decide +kernel
theorem dX3_init_7 : decode cX3_init 7 = .ok (.newarray .int, 2) := by decide +kernel
theorem dX3_init_9 : decode cX3_init 9 = .ok (.putfield 9, 3) := by decide +kernel
theorem dX3_init_12 : decode cX3_init 12 = .ok (.aload_n 0, 1) := by decide +kernel
theorem dX3_init_13 : decode cX3_init 13 = .ok (.iconst (-1), 1) := by decide +kernel
theorem dX3_init_14 : decode cX3_init 14 = .ok (.putfield 15, 3) := by decide +kernel
theorem dX3_init_17 : decode cX3_init 17 = .ok (.return_, 1) := by decide +kernel
theorem dX3_begin_0 : decode cX3_begin 0 = .ok (.aload_n 0, 1) := by decide +kernel
theorem dX3_begin_1 : decode cX3_begin 1 = .ok (.getfield 9, 3) := by decide +kernel
theorem dX3_begin_4 : decode cX3_begin 4 = .ok (.iconst 0, 1) := by decide +kernel
theorem dX3_begin_5 : decode cX3_begin 5 = .ok (.invokestatic 19, 3) := by decide +kernel
theorem dX3_begin_8 : decode cX3_begin 8 = .ok (.aload_n 0, 1) := by decide +kernel
theorem dX3_begin_9 : decode cX3_begin 9 = .ok (.iload_n 1, 1) := by decide +kernel
theorem dX3_begin_10 : decode cX3_begin 10 = .ok (.putfield 25, 3) := by decide +kernel
theorem dX3_begin_13 : decode cX3_begin 13 = .ok (.aload_n 0, 1) := by decide +kernel
theorem dX3_begin_14 : decode cX3_begin 14 = .ok (.iload_n 2, 1) := by decide +kernel
theorem dX3_begin_15 : decode cX3_begin 15 = .ok (.putfield 15, 3) := by decide +kernel
theorem dX3_begin_18 : decode cX3_begin 18 = .ok (.return_, 1) := by decide +kernel
theorem dX3_hasRow_0 : decode cX3_hasRow 0 = .ok (.aload_n 0, 1) := by decide +kernel
theorem dX3_hasRow_1 : decode cX3_hasRow 1 = .ok (.getfield 15, 3) := by decide +kernel
theorem dX3_hasRow_4 : decode cX3_hasRow 4 = .ok (.iconst (-1), 1) := by decide +kernel
theorem dX3_hasRow_5 : decode cX3_hasRow 5 = .ok (.if_icmp .eq 7, 3) := by decide +kernel
theorem dX3_hasRow_8 : decode cX3_hasRow 8 = .ok (.iconst 1, 1) := by decide +kernel
theorem dX3_hasRow_9 : decode cX3_hasRow 9 = .ok (.goto 4, 3) := by decide +kernel
theorem dX3_hasRow_12 : decode cX3_hasRow 12 = .ok (.iconst 0, 1) := by decide +kernel
theorem dX3_hasRow_13 : decode cX3_hasRow 13 = .ok (.ireturn, 1) := by decide +kernel
theorem dX3_hasCell_0 : decode cX3_hasCell 0 = .ok (.iload_n 1, 1) := by decide +kernel
theorem dX3_hasCell_1 : decode cX3_hasCell 1 = .ok (.ifCond .lt 15, 3) := by decide +kernel
theorem dX3_hasCell_4 : decode cX3_hasCell 4 = .ok (.iload_n 1, 1) := by decide +kernel
theorem dX3_hasCell_5 : decode cX3_hasCell 5 = .ok (.aload_n 0, 1) := by decide +kernel
theorem dX3_hasCell_6 : decode cX3_hasCell 6 = .ok (.getfield 15, 3) := by decide +kernel
theorem dX3_hasCell_9 : decode cX3_hasCell 9 = .ok (.if_icmp .ge 7, 3) := by decide +kernel
theorem dX3_hasCell_12 : decode cX3_hasCell 12 = .ok (.iconst 1, 1) := by decide +kernel
theorem dX3_hasCell_13 : decode cX3_hasCell 13 = .ok (.goto 4, 3) := by decide +kernel
theorem dX3_hasCell_16 : decode cX3_hasCell 16 = .ok (.iconst 0, 1) := by decide +kernel
theorem dX3_hasCell_17 : decode cX3_hasCell 17 = .ok (.ireturn, 1) := by decide +kernel
theorem dX3_hasCells_0 : decode cX3_hasCells 0 = .ok (.iload_n 1, 1) := by decide +kernel
theorem dX3_hasCells_1 : decode cX3_hasCells 1 = .ok (.ifCond .lt 29, 3) := by decide +kernel
theorem dX3_hasCells_4 : decode cX3_hasCells 4 = .ok (.iload_n 1, 1) := by decide +kernel
theorem dX3_hasCells_5 : decode cX3_hasCells 5 = .ok (.aload_n 0, 1) := by decide +kernel
theorem dX3_hasCells_6 : decode cX3_hasCells 6 = .ok (.getfield 15, 3) := by decide +kernel
theorem dX3_hasCells_9 : decode cX3_hasCells 9 = .ok (.if_icmp .gt 21, 3) := by decide +kernel
theorem dX3_hasCells_12 : decode cX3_hasCells 12 = .ok (.iload_n 2, 1) := by decide +kernel
theorem dX3_hasCells_13 : decode cX3_hasCells 13 = .ok (.ifCond .lt 17, 3) := by decide +kernel
theorem dX3_hasCells_16 : decode cX3_hasCells 16 = .ok (.iload_n 2, 1) := by decide +kernel
theorem dX3_hasCells_17 : decode cX3_hasCells 17 = .ok (.aload_n 0, 1) := by decide +kernel
theorem dX3_hasCells_18 : decode cX3_hasCells 18 = .ok (.getfield 15, 3) := by decide +kernel
theorem dX3_hasCells_21 : decode cX3_hasCells 21 = .ok (.iload_n 1, 1) := by decide +kernel
theorem dX3_hasCells_22 : decode cX3_hasCells 22 = .ok (.isub, 1) := by decide +kernel
theorem dX3_hasCells_23 : decode cX3_hasCells 23 = .ok (.if_icmp .gt 7, 3) := by decide +kernel
theorem dX3_hasCells_26 : decode cX3_hasCells 26 = .ok (.iconst 1, 1) := by decide +kernel
theorem dX3_hasCells_27 : decode cX3_hasCells 27 = .ok (.goto 4, 3) := by decide +kernel
theorem dX3_hasCells_30 : decode cX3_hasCells 30 = .ok (.iconst 0, 1) := by decide +kernel
theorem dX3_hasCells_31 : decode cX3_hasCells 31 = .ok (.ireturn, 1) := by decide +kernel
theorem dX3_faultOfLane_0 : decode cX3_faultOfLane 0 = .ok (.aload_n 0, 1) := by decide +kernel
theorem dX3_faultOfLane_1 : decode cX3_faultOfLane 1 = .ok (.invokevirtual 28, 3) := by decide +kernel
theorem dX3_faultOfLane_4 : decode cX3_faultOfLane 4 = .ok (.ifCond .ne 5, 3) := by decide +kernel
theorem dX3_faultOfLane_7 : decode cX3_faultOfLane 7 = .ok (.iconst 1, 1) := by decide +kernel
theorem dX3_faultOfLane_8 : decode cX3_faultOfLane 8 = .ok (.ireturn, 1) := by decide +kernel
theorem dX3_faultOfLane_9 : decode cX3_faultOfLane 9 = .ok (.aload_n 0, 1) := by decide +kernel
theorem dX3_faultOfLane_10 : decode cX3_faultOfLane 10 = .ok (.getfield 25, 3) := by decide +kernel
theorem dX3_faultOfLane_13 : decode cX3_faultOfLane 13 = .ok (.iload_n 1, 1) := by decide +kernel
theorem dX3_faultOfLane_14 : decode cX3_faultOfLane 14 = .ok (.if_icmp .ne 7, 3) := by decide +kernel
theorem dX3_faultOfLane_17 : decode cX3_faultOfLane 17 = .ok (.iconst 0, 1) := by decide +kernel
theorem dX3_faultOfLane_18 : decode cX3_faultOfLane 18 = .ok (.goto 4, 3) := by decide +kernel
theorem dX3_faultOfLane_21 : decode cX3_faultOfLane 21 = .ok (.iconst 2, 1) := by decide +kernel
theorem dX3_faultOfLane_22 : decode cX3_faultOfLane 22 = .ok (.ireturn, 1) := by decide +kernel
theorem dX3_faultOfCells_0 : decode cX3_faultOfCells 0 = .ok (.aload_n 0, 1) := by decide +kernel
theorem dX3_faultOfCells_1 : decode cX3_faultOfCells 1 = .ok (.iload_n 1, 1) := by decide +kernel
theorem dX3_faultOfCells_2 : decode cX3_faultOfCells 2 = .ok (.invokevirtual 32, 3) := by decide +kernel
theorem dX3_faultOfCells_5 : decode cX3_faultOfCells 5 = .ok (.istore 4, 2) := by decide +kernel
theorem dX3_faultOfCells_7 : decode cX3_faultOfCells 7 = .ok (.iload 4, 2) := by decide +kernel
theorem dX3_faultOfCells_9 : decode cX3_faultOfCells 9 = .ok (.ifCond .eq 6, 3) := by decide +kernel
theorem dX3_faultOfCells_12 : decode cX3_faultOfCells 12 = .ok (.iload 4, 2) := by decide +kernel
theorem dX3_faultOfCells_14 : decode cX3_faultOfCells 14 = .ok (.ireturn, 1) := by decide +kernel
theorem dX3_faultOfCells_15 : decode cX3_faultOfCells 15 = .ok (.iload_n 3, 1) := by decide +kernel
theorem dX3_faultOfCells_16 : decode cX3_faultOfCells 16 = .ok (.ifCond .ge 5, 3) := by decide +kernel
theorem dX3_faultOfCells_19 : decode cX3_faultOfCells 19 = .ok (.iconst 4, 1) := by decide +kernel
theorem dX3_faultOfCells_20 : decode cX3_faultOfCells 20 = .ok (.ireturn, 1) := by decide +kernel
theorem dX3_faultOfCells_21 : decode cX3_faultOfCells 21 = .ok (.aload_n 0, 1) := by decide +kernel
theorem dX3_faultOfCells_22 : decode cX3_faultOfCells 22 = .ok (.iload_n 2, 1) := by decide +kernel
theorem dX3_faultOfCells_23 : decode cX3_faultOfCells 23 = .ok (.iload_n 3, 1) := by decide +kernel
theorem dX3_faultOfCells_24 : decode cX3_faultOfCells 24 = .ok (.invokevirtual 36, 3) := by decide +kernel
theorem dX3_faultOfCells_27 : decode cX3_faultOfCells 27 = .ok (.ifCond .eq 7, 3) := by decide +kernel
theorem dX3_faultOfCells_30 : decode cX3_faultOfCells 30 = .ok (.iconst 0, 1) := by decide +kernel
theorem dX3_faultOfCells_31 : decode cX3_faultOfCells 31 = .ok (.goto 4, 3) := by decide +kernel
theorem dX3_faultOfCells_34 : decode cX3_faultOfCells 34 = .ok (.iconst 3, 1) := by decide +kernel
theorem dX3_faultOfCells_35 : decode cX3_faultOfCells 35 = .ok (.ireturn, 1) := by decide +kernel
theorem dX3_cutToLane_0 : decode cX3_cutToLane 0 = .ok (.aload_n 0, 1) := by decide +kernel
theorem dX3_cutToLane_1 : decode cX3_cutToLane 1 = .ok (.getfield 25, 3) := by decide +kernel
theorem dX3_cutToLane_4 : decode cX3_cutToLane 4 = .ok (.lookupswitch 34 #[(0, 28), (1, 31)], 28) := by decide +kernel
theorem dX3_cutToLane_32 : decode cX3_cutToLane 32 = .ok (.iload_n 1, 1) := by decide +kernel
theorem dX3_cutToLane_33 : decode cX3_cutToLane 33 = .ok (.i2b, 1) := by decide +kernel
theorem dX3_cutToLane_34 : decode cX3_cutToLane 34 = .ok (.ireturn, 1) := by decide +kernel
theorem dX3_cutToLane_35 : decode cX3_cutToLane 35 = .ok (.iload_n 1, 1) := by decide +kernel
theorem dX3_cutToLane_36 : decode cX3_cutToLane 36 = .ok (.i2s, 1) := by decide +kernel
theorem dX3_cutToLane_37 : decode cX3_cutToLane 37 = .ok (.ireturn, 1) := by decide +kernel
theorem dX3_cutToLane_38 : decode cX3_cutToLane 38 = .ok (.iload_n 1, 1) := by decide +kernel
theorem dX3_cutToLane_39 : decode cX3_cutToLane 39 = .ok (.ireturn, 1) := by decide +kernel
theorem dX4_init_0 : decode cX4_init 0 = .ok (.aload_n 0, 1) := by decide +kernel
theorem dX4_init_1 : decode cX4_init 1 = .ok (.invokespecial 3, 3) := by decide +kernel
theorem dX4_init_4 : decode cX4_init 4 = .ok (.aload_n 0, 1) := by decide +kernel
theorem dX4_init_5 : decode cX4_init 5 = .ok (.new 9, 3) := by decide +kernel
theorem dX4_init_8 : decode cX4_init 8 = .ok (.dup, 1) := by decide +kernel
theorem dX4_init_9 : decode cX4_init 9 = .ok (.invokespecial 11, 3) := by decide +kernel
theorem dX4_init_12 : decode cX4_init 12 = .ok (.putfield 12, 3) := by decide +kernel
theorem dX4_init_15 : decode cX4_init 15 = .ok (.return_, 1) := by decide +kernel
theorem dX4_firstFault_0 : decode cX4_firstFault 0 = .ok (.aload_n 0, 1) := by decide +kernel
theorem dX4_firstFault_1 : decode cX4_firstFault 1 = .ok (.getfield 12, 3) := by decide +kernel
theorem dX4_firstFault_4 : decode cX4_firstFault 4 = .ok (.invokevirtual 18, 3) := by decide +kernel
theorem dX4_firstFault_7 : decode cX4_firstFault 7 = .ok (.aload_n 0, 1) := by decide +kernel
theorem dX4_firstFault_8 : decode cX4_firstFault 8 = .ok (.iconst 0, 1) := by decide +kernel
theorem dX4_firstFault_9 : decode cX4_firstFault 9 = .ok (.putfield 21, 3) := by decide +kernel
theorem dX4_firstFault_12 : decode cX4_firstFault 12 = .ok (.iconst 0, 1) := by decide +kernel
theorem dX4_firstFault_13 : decode cX4_firstFault 13 = .ok (.istore 4, 2) := by decide +kernel
theorem dX4_firstFault_15 : decode cX4_firstFault 15 = .ok (.iload 4, 2) := by decide +kernel
theorem dX4_firstFault_17 : decode cX4_firstFault 17 = .ok (.iload_n 3, 1) := by decide +kernel
theorem dX4_firstFault_18 : decode cX4_firstFault 18 = .ok (.if_icmp .ge 25, 3) := by decide +kernel
theorem dX4_firstFault_21 : decode cX4_firstFault 21 = .ok (.aload_n 0, 1) := by decide +kernel
theorem dX4_firstFault_22 : decode cX4_firstFault 22 = .ok (.aload_n 1, 1) := by decide +kernel
theorem dX4_firstFault_23 : decode cX4_firstFault 23 = .ok (.iload_n 2, 1) := by decide +kernel
theorem dX4_firstFault_24 : decode cX4_firstFault 24 = .ok (.iload 4, 2) := by decide +kernel
theorem dX4_firstFault_26 : decode cX4_firstFault 26 = .ok (.iadd, 1) := by decide +kernel
theorem dX4_firstFault_27 : decode cX4_firstFault 27 = .ok (.iaload, 1) := by decide +kernel
theorem dX4_firstFault_28 : decode cX4_firstFault 28 = .ok (.invokevirtual 25, 3) := by decide +kernel
theorem dX4_firstFault_31 : decode cX4_firstFault 31 = .ok (.ifCond .ne 6, 3) := by decide +kernel
theorem dX4_firstFault_34 : decode cX4_firstFault 34 = .ok (.iload 4, 2) := by decide +kernel
theorem dX4_firstFault_36 : decode cX4_firstFault 36 = .ok (.ireturn, 1) := by decide +kernel
theorem dX4_firstFault_37 : decode cX4_firstFault 37 = .ok (.iinc 4 1, 3) := by decide +kernel
theorem dX4_firstFault_40 : decode cX4_firstFault 40 = .ok (.goto (-25), 3) := by decide +kernel
theorem dX4_firstFault_43 : decode cX4_firstFault 43 = .ok (.aload_n 0, 1) := by decide +kernel
theorem dX4_firstFault_44 : decode cX4_firstFault 44 = .ok (.getfield 21, 3) := by decide +kernel
theorem dX4_firstFault_47 : decode cX4_firstFault 47 = .ok (.iconst 1, 1) := by decide +kernel
theorem dX4_firstFault_48 : decode cX4_firstFault 48 = .ok (.if_icmp .ne 19, 3) := by decide +kernel
theorem dX4_firstFault_51 : decode cX4_firstFault 51 = .ok (.aload_n 0, 1) := by decide +kernel
theorem dX4_firstFault_52 : decode cX4_firstFault 52 = .ok (.getfield 12, 3) := by decide +kernel
theorem dX4_firstFault_55 : decode cX4_firstFault 55 = .ok (.getfield 29, 3) := by decide +kernel
theorem dX4_firstFault_58 : decode cX4_firstFault 58 = .ok (.iconst 2, 1) := by decide +kernel
theorem dX4_firstFault_59 : decode cX4_firstFault 59 = .ok (.if_icmp .lt 8, 3) := by decide +kernel
theorem dX4_firstFault_62 : decode cX4_firstFault 62 = .ok (.bipush (-9), 2) := by decide +kernel
theorem dX4_firstFault_64 : decode cX4_firstFault 64 = .ok (.goto 4, 3) := by decide +kernel
theorem dX4_firstFault_67 : decode cX4_firstFault 67 = .ok (.iload_n 3, 1) := by decide +kernel
theorem dX4_firstFault_68 : decode cX4_firstFault 68 = .ok (.ireturn, 1) := by decide +kernel
theorem dX4_goesOnWith_0 : decode cX4_goesOnWith 0 = .ok (.aload_n 0, 1) := by decide +kernel
theorem dX4_goesOnWith_1 : decode cX4_goesOnWith 1 = .ok (.getfield 21, 3) := by decide +kernel
theorem dX4_goesOnWith_4 : decode cX4_goesOnWith 4 = .ok (.tableswitch 73 0 2 #[28, 45, 64], 28) := by decide +kernel
theorem dX4_goesOnWith_32 : decode cX4_goesOnWith 32 = .ok (.aload_n 0, 1) := by decide +kernel
theorem dX4_goesOnWith_33 : decode cX4_goesOnWith 33 = .ok (.iconst 1, 1) := by decide +kernel
theorem dX4_goesOnWith_34 : decode cX4_goesOnWith 34 = .ok (.putfield 21, 3) := by decide +kernel
theorem dX4_goesOnWith_37 : decode cX4_goesOnWith 37 = .ok (.iload_n 1, 1) := by decide +kernel
theorem dX4_goesOnWith_38 : decode cX4_goesOnWith 38 = .ok (.bipush 118, 2) := by decide +kernel
theorem dX4_goesOnWith_40 : decode cX4_goesOnWith 40 = .ok (.if_icmp .ne 7, 3) := by decide +kernel
theorem dX4_goesOnWith_43 : decode cX4_goesOnWith 43 = .ok (.iconst 1, 1) := by decide +kernel
theorem dX4_goesOnWith_44 : decode cX4_goesOnWith 44 = .ok (.goto 4, 3) := by decide +kernel
theorem dX4_goesOnWith_47 : decode cX4_goesOnWith 47 = .ok (.iconst 0, 1) := by decide +kernel
theorem dX4_goesOnWith_48 : decode cX4_goesOnWith 48 = .ok (.ireturn, 1) := by decide +kernel
theorem dX4_goesOnWith_49 : decode cX4_goesOnWith 49 = .ok (.iload_n 1, 1) := by decide +kernel
theorem dX4_goesOnWith_50 : decode cX4_goesOnWith 50 = .ok (.bipush 59, 2) := by decide +kernel
theorem dX4_goesOnWith_52 : decode cX4_goesOnWith 52 = .ok (.if_icmp .ne 10, 3) := by decide +kernel
theorem dX4_goesOnWith_55 : decode cX4_goesOnWith 55 = .ok (.aload_n 0, 1) := by decide +kernel
theorem dX4_goesOnWith_56 : decode cX4_goesOnWith 56 = .ok (.invokevirtual 32, 3) := by decide +kernel
theorem dX4_goesOnWith_59 : decode cX4_goesOnWith 59 = .ok (.goto 8, 3) := by decide +kernel
theorem dX4_goesOnWith_62 : decode cX4_goesOnWith 62 = .ok (.aload_n 0, 1) := by decide +kernel
theorem dX4_goesOnWith_63 : decode cX4_goesOnWith 63 = .ok (.iload_n 1, 1) := by decide +kernel
theorem dX4_goesOnWith_64 : decode cX4_goesOnWith 64 = .ok (.invokevirtual 36, 3) := by decide +kernel
theorem dX4_goesOnWith_67 : decode cX4_goesOnWith 67 = .ok (.ireturn, 1) := by decide +kernel
theorem dX4_goesOnWith_68 : decode cX4_goesOnWith 68 = .ok (.aload_n 0, 1) := by decide +kernel
theorem dX4_goesOnWith_69 : decode cX4_goesOnWith 69 = .ok (.iload_n 1, 1) := by decide +kernel
theorem dX4_goesOnWith_70 : decode cX4_goesOnWith 70 = .ok (.bipush 48, 2) := by decide +kernel
theorem dX4_goesOnWith_72 : decode cX4_goesOnWith 72 = .ok (.isub, 1) := by decide +kernel
theorem dX4_goesOnWith_73 : decode cX4_goesOnWith 73 = .ok (.invokevirtual 39, 3) := by decide +kernel
theorem dX4_goesOnWith_76 : decode cX4_goesOnWith 76 = .ok (.ireturn, 1) := by decide +kernel
theorem dX4_goesOnWith_77 : decode cX4_goesOnWith 77 = .ok (.aload_n 0, 1) := by decide +kernel
theorem dX4_goesOnWith_78 : decode cX4_goesOnWith 78 = .ok (.iload_n 1, 1) := by decide +kernel
theorem dX4_goesOnWith_79 : decode cX4_goesOnWith 79 = .ok (.bipush 48, 2) := by decide +kernel
theorem dX4_goesOnWith_81 : decode cX4_goesOnWith 81 = .ok (.isub, 1) := by decide +kernel
theorem dX4_goesOnWith_82 : decode cX4_goesOnWith 82 = .ok (.invokevirtual 42, 3) := by decide +kernel
theorem dX4_goesOnWith_85 : decode cX4_goesOnWith 85 = .ok (.ireturn, 1) := by decide +kernel
theorem dX4_beginsBell_0 : decode cX4_beginsBell 0 = .ok (.iload_n 1, 1) := by decide +kernel
theorem dX4_beginsBell_1 : decode cX4_beginsBell 1 = .ok (.invokestatic 45, 3) := by decide +kernel
theorem dX4_beginsBell_4 : decode cX4_beginsBell 4 = .ok (.istore_n 2, 1) := by decide +kernel
theorem dX4_beginsBell_5 : decode cX4_beginsBell 5 = .ok (.iload_n 2, 1) := by decide +kernel
theorem dX4_beginsBell_6 : decode cX4_beginsBell 6 = .ok (.bipush (-9), 2) := by decide +kernel
theorem dX4_beginsBell_8 : decode cX4_beginsBell 8 = .ok (.if_icmp .eq 25, 3) := by decide +kernel
theorem dX4_beginsBell_11 : decode cX4_beginsBell 11 = .ok (.aload_n 0, 1) := by decide +kernel
theorem dX4_beginsBell_12 : decode cX4_beginsBell 12 = .ok (.getfield 12, 3) := by decide +kernel
theorem dX4_beginsBell_15 : decode cX4_beginsBell 15 = .ok (.getfield 29, 3) := by decide +kernel
theorem dX4_beginsBell_18 : decode cX4_beginsBell 18 = .ok (.bipush 6, 2) := by decide +kernel
theorem dX4_beginsBell_20 : decode cX4_beginsBell 20 = .ok (.if_icmp .ge 13, 3) := by decide +kernel
theorem dX4_beginsBell_23 : decode cX4_beginsBell 23 = .ok (.aload_n 0, 1) := by decide +kernel
theorem dX4_beginsBell_24 : decode cX4_beginsBell 24 = .ok (.getfield 12, 3) := by decide +kernel
theorem dX4_beginsBell_27 : decode cX4_beginsBell 27 = .ok (.getfield 49, 3) := by decide +kernel
theorem dX4_beginsBell_30 : decode cX4_beginsBell 30 = .ok (.ifCond .le 5, 3) := by decide +kernel
theorem dX4_beginsBell_33 : decode cX4_beginsBell 33 = .ok (.iconst 0, 1) := by decide +kernel
theorem dX4_beginsBell_34 : decode cX4_beginsBell 34 = .ok (.ireturn, 1) := by decide +kernel
theorem dX4_beginsBell_35 : decode cX4_beginsBell 35 = .ok (.aload_n 0, 1) := by decide +kernel
theorem dX4_beginsBell_36 : decode cX4_beginsBell 36 = .ok (.getfield 12, 3) := by decide +kernel
theorem dX4_beginsBell_39 : decode cX4_beginsBell 39 = .ok (.getfield 52, 3) := by decide +kernel
theorem dX4_beginsBell_42 : decode cX4_beginsBell 42 = .ok (.aload_n 0, 1) := by decide +kernel
theorem dX4_beginsBell_43 : decode cX4_beginsBell 43 = .ok (.getfield 12, 3) := by decide +kernel
theorem dX4_beginsBell_46 : decode cX4_beginsBell 46 = .ok (.getfield 29, 3) := by decide +kernel
theorem dX4_beginsBell_49 : decode cX4_beginsBell 49 = .ok (.iload_n 2, 1) := by decide +kernel
theorem dX4_beginsBell_50 : decode cX4_beginsBell 50 = .ok (.iastore, 1) := by decide +kernel
theorem dX4_beginsBell_51 : decode cX4_beginsBell 51 = .ok (.aload_n 0, 1) := by decide +kernel
theorem dX4_beginsBell_52 : decode cX4_beginsBell 52 = .ok (.iconst 2, 1) := by decide +kernel
theorem dX4_beginsBell_53 : decode cX4_beginsBell 53 = .ok (.putfield 21, 3) := by decide +kernel
theorem dX4_beginsBell_56 : decode cX4_beginsBell 56 = .ok (.iconst 1, 1) := by decide +kernel
theorem dX4_beginsBell_57 : decode cX4_beginsBell 57 = .ok (.ireturn, 1) := by decide +kernel
theorem dX4_kindOf_0 : decode cX4_kindOf 0 = .ok (.iload_n 0, 1) := by decide +kernel
theorem dX4_kindOf_1 : decode cX4_kindOf 1 = .ok (.lookupswitch 41 #[(98, 35), (100, 39), (103, 37)], 35) := by decide +kernel
theorem dX4_kindOf_36 : decode cX4_kindOf 36 = .ok (.iconst 0, 1) := by decide +kernel
theorem dX4_kindOf_37 : decode cX4_kindOf 37 = .ok (.ireturn, 1) := by decide +kernel
theorem dX4_kindOf_38 : decode cX4_kindOf 38 = .ok (.iconst 1, 1) := by decide +kernel
theorem dX4_kindOf_39 : decode cX4_kindOf 39 = .ok (.ireturn, 1) := by decide +kernel
theorem dX4_kindOf_40 : decode cX4_kindOf 40 = .ok (.iconst 2, 1) := by decide +kernel
theorem dX4_kindOf_41 : decode cX4_kindOf 41 = .ok (.ireturn, 1) := by decide +kernel
theorem dX4_kindOf_42 : decode cX4_kindOf 42 = .ok (.bipush (-9), 2) := by decide +kernel
theorem dX4_kindOf_44 : decode cX4_kindOf 44 = .ok (.ireturn, 1) := by decide +kernel
theorem dX4_takesNeeds_0 : decode cX4_takesNeeds 0 = .ok (.iload_n 1, 1) := by decide +kernel
theorem dX4_takesNeeds_1 : decode cX4_takesNeeds 1 = .ok (.iconst 1, 1) := by decide +kernel
theorem dX4_takesNeeds_2 : decode cX4_takesNeeds 2 = .ok (.if_icmp .lt 8, 3) := by decide +kernel
theorem dX4_takesNeeds_5 : decode cX4_takesNeeds 5 = .ok (.iload_n 1, 1) := by decide +kernel
theorem dX4_takesNeeds_6 : decode cX4_takesNeeds 6 = .ok (.iconst 3, 1) := by decide +kernel
theorem dX4_takesNeeds_7 : decode cX4_takesNeeds 7 = .ok (.if_icmp .le 5, 3) := by decide +kernel
theorem dX4_takesNeeds_10 : decode cX4_takesNeeds 10 = .ok (.iconst 0, 1) := by decide +kernel
theorem dX4_takesNeeds_11 : decode cX4_takesNeeds 11 = .ok (.ireturn, 1) := by decide +kernel
theorem dX4_takesNeeds_12 : decode cX4_takesNeeds 12 = .ok (.aload_n 0, 1) := by decide +kernel
theorem dX4_takesNeeds_13 : decode cX4_takesNeeds 13 = .ok (.getfield 12, 3) := by decide +kernel
theorem dX4_takesNeeds_16 : decode cX4_takesNeeds 16 = .ok (.getfield 56, 3) := by decide +kernel
theorem dX4_takesNeeds_19 : decode cX4_takesNeeds 19 = .ok (.aload_n 0, 1) := by decide +kernel
theorem dX4_takesNeeds_20 : decode cX4_takesNeeds 20 = .ok (.getfield 12, 3) := by decide +kernel
theorem dX4_takesNeeds_23 : decode cX4_takesNeeds 23 = .ok (.getfield 29, 3) := by decide +kernel
theorem dX4_takesNeeds_26 : decode cX4_takesNeeds 26 = .ok (.iload_n 1, 1) := by decide +kernel
theorem dX4_takesNeeds_27 : decode cX4_takesNeeds 27 = .ok (.iastore, 1) := by decide +kernel
theorem dX4_takesNeeds_28 : decode cX4_takesNeeds 28 = .ok (.aload_n 0, 1) := by decide +kernel
theorem dX4_takesNeeds_29 : decode cX4_takesNeeds 29 = .ok (.getfield 12, 3) := by decide +kernel
theorem dX4_takesNeeds_32 : decode cX4_takesNeeds 32 = .ok (.dup, 1) := by decide +kernel
theorem dX4_takesNeeds_33 : decode cX4_takesNeeds 33 = .ok (.getfield 29, 3) := by decide +kernel
theorem dX4_takesNeeds_36 : decode cX4_takesNeeds 36 = .ok (.iconst 1, 1) := by decide +kernel
theorem dX4_takesNeeds_37 : decode cX4_takesNeeds 37 = .ok (.iadd, 1) := by decide +kernel
theorem dX4_takesNeeds_38 : decode cX4_takesNeeds 38 = .ok (.putfield 29, 3) := by decide +kernel
theorem dX4_takesNeeds_41 : decode cX4_takesNeeds 41 = .ok (.aload_n 0, 1) := by decide +kernel
theorem dX4_takesNeeds_42 : decode cX4_takesNeeds 42 = .ok (.iconst 1, 1) := by decide +kernel
theorem dX4_takesNeeds_43 : decode cX4_takesNeeds 43 = .ok (.putfield 21, 3) := by decide +kernel
theorem dX4_takesNeeds_46 : decode cX4_takesNeeds 46 = .ok (.iconst 1, 1) := by decide +kernel
theorem dX4_takesNeeds_47 : decode cX4_takesNeeds 47 = .ok (.ireturn, 1) := by decide +kernel
theorem dX4_beginsRope_0 : decode cX4_beginsRope 0 = .ok (.aload_n 0, 1) := by decide +kernel
theorem dX4_beginsRope_1 : decode cX4_beginsRope 1 = .ok (.getfield 12, 3) := by decide +kernel
theorem dX4_beginsRope_4 : decode cX4_beginsRope 4 = .ok (.getfield 29, 3) := by decide +kernel
theorem dX4_beginsRope_7 : decode cX4_beginsRope 7 = .ok (.iconst 2, 1) := by decide +kernel
theorem dX4_beginsRope_8 : decode cX4_beginsRope 8 = .ok (.if_icmp .lt 15, 3) := by decide +kernel
theorem dX4_beginsRope_11 : decode cX4_beginsRope 11 = .ok (.aload_n 0, 1) := by decide +kernel
theorem dX4_beginsRope_12 : decode cX4_beginsRope 12 = .ok (.getfield 12, 3) := by decide +kernel
theorem dX4_beginsRope_15 : decode cX4_beginsRope 15 = .ok (.getfield 49, 3) := by decide +kernel
theorem dX4_beginsRope_18 : decode cX4_beginsRope 18 = .ok (.bipush 8, 2) := by decide +kernel
theorem dX4_beginsRope_20 : decode cX4_beginsRope 20 = .ok (.if_icmp .lt 5, 3) := by decide +kernel
theorem dX4_beginsRope_23 : decode cX4_beginsRope 23 = .ok (.iconst 0, 1) := by decide +kernel
theorem dX4_beginsRope_24 : decode cX4_beginsRope 24 = .ok (.ireturn, 1) := by decide +kernel
theorem dX4_beginsRope_25 : decode cX4_beginsRope 25 = .ok (.aload_n 0, 1) := by decide +kernel
theorem dX4_beginsRope_26 : decode cX4_beginsRope 26 = .ok (.iconst 3, 1) := by decide +kernel
theorem dX4_beginsRope_27 : decode cX4_beginsRope 27 = .ok (.putfield 21, 3) := by decide +kernel
theorem dX4_beginsRope_30 : decode cX4_beginsRope 30 = .ok (.iconst 1, 1) := by decide +kernel
theorem dX4_beginsRope_31 : decode cX4_beginsRope 31 = .ok (.ireturn, 1) := by decide +kernel
theorem dX4_takesRope_0 : decode cX4_takesRope 0 = .ok (.aload_n 0, 1) := by decide +kernel
theorem dX4_takesRope_1 : decode cX4_takesRope 1 = .ok (.getfield 21, 3) := by decide +kernel
theorem dX4_takesRope_4 : decode cX4_takesRope 4 = .ok (.iconst 5, 1) := by decide +kernel
theorem dX4_takesRope_5 : decode cX4_takesRope 5 = .ok (.if_icmp .ne 9, 3) := by decide +kernel
theorem dX4_takesRope_8 : decode cX4_takesRope 8 = .ok (.aload_n 0, 1) := by decide +kernel
theorem dX4_takesRope_9 : decode cX4_takesRope 9 = .ok (.iload_n 1, 1) := by decide +kernel
theorem dX4_takesRope_10 : decode cX4_takesRope 10 = .ok (.invokevirtual 59, 3) := by decide +kernel
theorem dX4_takesRope_13 : decode cX4_takesRope 13 = .ok (.ireturn, 1) := by decide +kernel
theorem dX4_takesRope_14 : decode cX4_takesRope 14 = .ok (.aload_n 0, 1) := by decide +kernel
theorem dX4_takesRope_15 : decode cX4_takesRope 15 = .ok (.getfield 12, 3) := by decide +kernel
theorem dX4_takesRope_18 : decode cX4_takesRope 18 = .ok (.iload_n 1, 1) := by decide +kernel
theorem dX4_takesRope_19 : decode cX4_takesRope 19 = .ok (.invokevirtual 62, 3) := by decide +kernel
theorem dX4_takesRope_22 : decode cX4_takesRope 22 = .ok (.ifCond .ne 5, 3) := by decide +kernel
theorem dX4_takesRope_25 : decode cX4_takesRope 25 = .ok (.iconst 0, 1) := by decide +kernel
theorem dX4_takesRope_26 : decode cX4_takesRope 26 = .ok (.ireturn, 1) := by decide +kernel
theorem dX4_takesRope_27 : decode cX4_takesRope 27 = .ok (.aload_n 0, 1) := by decide +kernel
theorem dX4_takesRope_28 : decode cX4_takesRope 28 = .ok (.getfield 21, 3) := by decide +kernel
theorem dX4_takesRope_31 : decode cX4_takesRope 31 = .ok (.iconst 3, 1) := by decide +kernel
theorem dX4_takesRope_32 : decode cX4_takesRope 32 = .ok (.if_icmp .ne 27, 3) := by decide +kernel
theorem dX4_takesRope_35 : decode cX4_takesRope 35 = .ok (.aload_n 0, 1) := by decide +kernel
theorem dX4_takesRope_36 : decode cX4_takesRope 36 = .ok (.getfield 12, 3) := by decide +kernel
theorem dX4_takesRope_39 : decode cX4_takesRope 39 = .ok (.getfield 65, 3) := by decide +kernel
theorem dX4_takesRope_42 : decode cX4_takesRope 42 = .ok (.aload_n 0, 1) := by decide +kernel
theorem dX4_takesRope_43 : decode cX4_takesRope 43 = .ok (.getfield 12, 3) := by decide +kernel
theorem dX4_takesRope_46 : decode cX4_takesRope 46 = .ok (.getfield 49, 3) := by decide +kernel
theorem dX4_takesRope_49 : decode cX4_takesRope 49 = .ok (.iload_n 1, 1) := by decide +kernel
theorem dX4_takesRope_50 : decode cX4_takesRope 50 = .ok (.iastore, 1) := by decide +kernel
theorem dX4_takesRope_51 : decode cX4_takesRope 51 = .ok (.aload_n 0, 1) := by decide +kernel
theorem dX4_takesRope_52 : decode cX4_takesRope 52 = .ok (.iconst 4, 1) := by decide +kernel
theorem dX4_takesRope_53 : decode cX4_takesRope 53 = .ok (.putfield 21, 3) := by decide +kernel
theorem dX4_takesRope_56 : decode cX4_takesRope 56 = .ok (.goto 24, 3) := by decide +kernel
theorem dX4_takesRope_59 : decode cX4_takesRope 59 = .ok (.aload_n 0, 1) := by decide +kernel
theorem dX4_takesRope_60 : decode cX4_takesRope 60 = .ok (.getfield 12, 3) := by decide +kernel
theorem dX4_takesRope_63 : decode cX4_takesRope 63 = .ok (.getfield 68, 3) := by decide +kernel
theorem dX4_takesRope_66 : decode cX4_takesRope 66 = .ok (.aload_n 0, 1) := by decide +kernel
theorem dX4_takesRope_67 : decode cX4_takesRope 67 = .ok (.getfield 12, 3) := by decide +kernel
theorem dX4_takesRope_70 : decode cX4_takesRope 70 = .ok (.getfield 49, 3) := by decide +kernel
theorem dX4_takesRope_73 : decode cX4_takesRope 73 = .ok (.iload_n 1, 1) := by decide +kernel
theorem dX4_takesRope_74 : decode cX4_takesRope 74 = .ok (.iastore, 1) := by decide +kernel
theorem dX4_takesRope_75 : decode cX4_takesRope 75 = .ok (.aload_n 0, 1) := by decide +kernel
theorem dX4_takesRope_76 : decode cX4_takesRope 76 = .ok (.iconst 5, 1) := by decide +kernel
theorem dX4_takesRope_77 : decode cX4_takesRope 77 = .ok (.putfield 21, 3) := by decide +kernel
theorem dX4_takesRope_80 : decode cX4_takesRope 80 = .ok (.iconst 1, 1) := by decide +kernel
theorem dX4_takesRope_81 : decode cX4_takesRope 81 = .ok (.ireturn, 1) := by decide +kernel
theorem dX4_takesLong_0 : decode cX4_takesLong 0 = .ok (.iload_n 1, 1) := by decide +kernel
theorem dX4_takesLong_1 : decode cX4_takesLong 1 = .ok (.iconst 1, 1) := by decide +kernel
theorem dX4_takesLong_2 : decode cX4_takesLong 2 = .ok (.if_icmp .lt 9, 3) := by decide +kernel
theorem dX4_takesLong_5 : decode cX4_takesLong 5 = .ok (.iload_n 1, 1) := by decide +kernel
theorem dX4_takesLong_6 : decode cX4_takesLong 6 = .ok (.bipush 9, 2) := by decide +kernel
theorem dX4_takesLong_8 : decode cX4_takesLong 8 = .ok (.if_icmp .le 5, 3) := by decide +kernel
theorem dX4_takesLong_11 : decode cX4_takesLong 11 = .ok (.iconst 0, 1) := by decide +kernel
theorem dX4_takesLong_12 : decode cX4_takesLong 12 = .ok (.ireturn, 1) := by decide +kernel
theorem dX4_takesLong_13 : decode cX4_takesLong 13 = .ok (.aload_n 0, 1) := by decide +kernel
theorem dX4_takesLong_14 : decode cX4_takesLong 14 = .ok (.getfield 12, 3) := by decide +kernel
theorem dX4_takesLong_17 : decode cX4_takesLong 17 = .ok (.getfield 71, 3) := by decide +kernel
theorem dX4_takesLong_20 : decode cX4_takesLong 20 = .ok (.aload_n 0, 1) := by decide +kernel
theorem dX4_takesLong_21 : decode cX4_takesLong 21 = .ok (.getfield 12, 3) := by decide +kernel
theorem dX4_takesLong_24 : decode cX4_takesLong 24 = .ok (.getfield 49, 3) := by decide +kernel
theorem dX4_takesLong_27 : decode cX4_takesLong 27 = .ok (.iload_n 1, 1) := by decide +kernel
theorem dX4_takesLong_28 : decode cX4_takesLong 28 = .ok (.iastore, 1) := by decide +kernel
theorem dX4_takesLong_29 : decode cX4_takesLong 29 = .ok (.aload_n 0, 1) := by decide +kernel
theorem dX4_takesLong_30 : decode cX4_takesLong 30 = .ok (.getfield 12, 3) := by decide +kernel
theorem dX4_takesLong_33 : decode cX4_takesLong 33 = .ok (.dup, 1) := by decide +kernel
theorem dX4_takesLong_34 : decode cX4_takesLong 34 = .ok (.getfield 49, 3) := by decide +kernel
theorem dX4_takesLong_37 : decode cX4_takesLong 37 = .ok (.iconst 1, 1) := by decide +kernel
theorem dX4_takesLong_38 : decode cX4_takesLong 38 = .ok (.iadd, 1) := by decide +kernel
theorem dX4_takesLong_39 : decode cX4_takesLong 39 = .ok (.putfield 49, 3) := by decide +kernel
theorem dX4_takesLong_42 : decode cX4_takesLong 42 = .ok (.aload_n 0, 1) := by decide +kernel
theorem dX4_takesLong_43 : decode cX4_takesLong 43 = .ok (.iconst 1, 1) := by decide +kernel
theorem dX4_takesLong_44 : decode cX4_takesLong 44 = .ok (.putfield 21, 3) := by decide +kernel
theorem dX4_takesLong_47 : decode cX4_takesLong 47 = .ok (.iconst 1, 1) := by decide +kernel
theorem dX4_takesLong_48 : decode cX4_takesLong 48 = .ok (.ireturn, 1) := by decide +kernel
theorem dX5_init_0 : decode cX5_init 0 = .ok (.aload_n 0, 1) := by decide +kernel
theorem dX5_init_1 : decode cX5_init 1 = .ok (.invokespecial 3, 3) := by decide +kernel
theorem dX5_init_4 : decode cX5_init 4 = .ok (.aload_n 0, 1) := by decide +kernel
theorem dX5_init_5 : decode cX5_init 5 = .ok (.bipush 6, 2) := by decide +kernel
theorem dX5_init_7 : decode cX5_init 7 = .ok (.newarray .int, 2) := by decide +kernel
theorem dX5_init_9 : decode cX5_init 9 = .ok (.putfield 9, 3) := by decide +kernel
theorem dX5_init_12 : decode cX5_init 12 = .ok (.aload_n 0, 1) := by decide +kernel
theorem dX5_init_13 : decode cX5_init 13 = .ok (.bipush 6, 2) := by decide +kernel
theorem dX5_init_15 : decode cX5_init 15 = .ok (.newarray .int, 2) := by decide +kernel
theorem dX5_init_17 : decode cX5_init 17 = .ok (.putfield 15, 3) := by decide +kernel
theorem dX5_init_20 : decode cX5_init 20 = .ok (.aload_n 0, 1) := by decide +kernel
theorem dX5_init_21 : decode cX5_init 21 = .ok (.bipush 9, 2) := by decide +kernel
theorem dX5_init_23 : decode cX5_init 23 = .ok (.newarray .int, 2) := by decide +kernel
theorem dX5_init_25 : decode cX5_init 25 = .ok (.putfield 18, 3) := by decide +kernel
theorem dX5_init_28 : decode cX5_init 28 = .ok (.aload_n 0, 1) := by decide +kernel
theorem dX5_init_29 : decode cX5_init 29 = .ok (.bipush 9, 2) := by decide +kernel
theorem dX5_init_31 : decode cX5_init 31 = .ok (.newarray .int, 2) := by decide +kernel
theorem dX5_init_33 : decode cX5_init 33 = .ok (.putfield 21, 3) := by decide +kernel
theorem dX5_init_36 : decode cX5_init 36 = .ok (.aload_n 0, 1) := by decide +kernel
theorem dX5_init_37 : decode cX5_init 37 = .ok (.bipush 9, 2) := by decide +kernel
theorem dX5_init_39 : decode cX5_init 39 = .ok (.newarray .int, 2) := by decide +kernel
theorem dX5_init_41 : decode cX5_init 41 = .ok (.putfield 24, 3) := by decide +kernel
theorem dX5_init_44 : decode cX5_init 44 = .ok (.return_, 1) := by decide +kernel
theorem dX5_begin_0 : decode cX5_begin 0 = .ok (.aload_n 0, 1) := by decide +kernel
theorem dX5_begin_1 : decode cX5_begin 1 = .ok (.iconst 0, 1) := by decide +kernel
theorem dX5_begin_2 : decode cX5_begin 2 = .ok (.putfield 27, 3) := by decide +kernel
theorem dX5_begin_5 : decode cX5_begin 5 = .ok (.aload_n 0, 1) := by decide +kernel
theorem dX5_begin_6 : decode cX5_begin 6 = .ok (.iconst 0, 1) := by decide +kernel
theorem dX5_begin_7 : decode cX5_begin 7 = .ok (.putfield 31, 3) := by decide +kernel
theorem dX5_begin_10 : decode cX5_begin 10 = .ok (.aload_n 0, 1) := by decide +kernel
theorem dX5_begin_11 : decode cX5_begin 11 = .ok (.iconst 2, 1) := by decide +kernel
theorem dX5_begin_12 : decode cX5_begin 12 = .ok (.putfield 34, 3) := by decide +kernel
theorem dX5_begin_15 : decode cX5_begin 15 = .ok (.aload_n 0, 1) := by decide +kernel
theorem dX5_begin_16 : decode cX5_begin 16 = .ok (.iconst 0, 1) := by decide +kernel
theorem dX5_begin_17 : decode cX5_begin 17 = .ok (.putfield 37, 3) := by decide +kernel
theorem dX5_begin_20 : decode cX5_begin 20 = .ok (.return_, 1) := by decide +kernel
theorem dX5_become_0 : decode cX5_become 0 = .ok (.aload_n 1, 1) := by decide +kernel
theorem dX5_become_1 : decode cX5_become 1 = .ok (.getfield 9, 3) := by decide +kernel
theorem dX5_become_4 : decode cX5_become 4 = .ok (.iconst 0, 1) := by decide +kernel
theorem dX5_become_5 : decode cX5_become 5 = .ok (.aload_n 0, 1) := by decide +kernel
theorem dX5_become_6 : decode cX5_become 6 = .ok (.getfield 9, 3) := by decide +kernel
theorem dX5_become_9 : decode cX5_become 9 = .ok (.iconst 0, 1) := by decide +kernel
theorem dX5_become_10 : decode cX5_become 10 = .ok (.bipush 6, 2) := by decide +kernel
theorem dX5_become_12 : decode cX5_become 12 = .ok (.invokestatic 40, 3) := by decide +kernel
theorem dX5_become_15 : decode cX5_become 15 = .ok (.aload_n 1, 1) := by decide +kernel
theorem dX5_become_16 : decode cX5_become 16 = .ok (.getfield 15, 3) := by decide +kernel
theorem dX5_become_19 : decode cX5_become 19 = .ok (.iconst 0, 1) := by decide +kernel
theorem dX5_become_20 : decode cX5_become 20 = .ok (.aload_n 0, 1) := by decide +kernel
theorem dX5_become_21 : decode cX5_become 21 = .ok (.getfield 15, 3) := by decide +kernel
theorem dX5_become_24 : decode cX5_become 24 = .ok (.iconst 0, 1) := by decide +kernel
theorem dX5_become_25 : decode cX5_become 25 = .ok (.bipush 6, 2) := by decide +kernel
theorem dX5_become_27 : decode cX5_become 27 = .ok (.invokestatic 40, 3) := by decide +kernel
theorem dX5_become_30 : decode cX5_become 30 = .ok (.aload_n 1, 1) := by decide +kernel
theorem dX5_become_31 : decode cX5_become 31 = .ok (.getfield 18, 3) := by decide +kernel
theorem dX5_become_34 : decode cX5_become 34 = .ok (.iconst 0, 1) := by decide +kernel
theorem dX5_become_35 : decode cX5_become 35 = .ok (.aload_n 0, 1) := by decide +kernel
theorem dX5_become_36 : decode cX5_become 36 = .ok (.getfield 18, 3) := by decide +kernel
theorem dX5_become_39 : decode cX5_become 39 = .ok (.iconst 0, 1) := by decide +kernel
theorem dX5_become_40 : decode cX5_become 40 = .ok (.bipush 8, 2) := by decide +kernel
theorem dX5_become_42 : decode cX5_become 42 = .ok (.invokestatic 40, 3) := by decide +kernel
theorem dX5_become_45 : decode cX5_become 45 = .ok (.aload_n 1, 1) := by decide +kernel
theorem dX5_become_46 : decode cX5_become 46 = .ok (.getfield 21, 3) := by decide +kernel
theorem dX5_become_49 : decode cX5_become 49 = .ok (.iconst 0, 1) := by decide +kernel
theorem dX5_become_50 : decode cX5_become 50 = .ok (.aload_n 0, 1) := by decide +kernel
theorem dX5_become_51 : decode cX5_become 51 = .ok (.getfield 21, 3) := by decide +kernel
theorem dX5_become_54 : decode cX5_become 54 = .ok (.iconst 0, 1) := by decide +kernel
theorem dX5_become_55 : decode cX5_become 55 = .ok (.bipush 8, 2) := by decide +kernel
theorem dX5_become_57 : decode cX5_become 57 = .ok (.invokestatic 40, 3) := by decide +kernel
theorem dX5_become_60 : decode cX5_become 60 = .ok (.aload_n 1, 1) := by decide +kernel
theorem dX5_become_61 : decode cX5_become 61 = .ok (.getfield 24, 3) := by decide +kernel
theorem dX5_become_64 : decode cX5_become 64 = .ok (.iconst 0, 1) := by decide +kernel
theorem dX5_become_65 : decode cX5_become 65 = .ok (.aload_n 0, 1) := by decide +kernel
theorem dX5_become_66 : decode cX5_become 66 = .ok (.getfield 24, 3) := by decide +kernel
theorem dX5_become_69 : decode cX5_become 69 = .ok (.iconst 0, 1) := by decide +kernel
theorem dX5_become_70 : decode cX5_become 70 = .ok (.bipush 8, 2) := by decide +kernel
theorem dX5_become_72 : decode cX5_become 72 = .ok (.invokestatic 40, 3) := by decide +kernel
theorem dX5_become_75 : decode cX5_become 75 = .ok (.aload_n 0, 1) := by decide +kernel
theorem dX5_become_76 : decode cX5_become 76 = .ok (.aload_n 1, 1) := by decide +kernel
theorem dX5_become_77 : decode cX5_become 77 = .ok (.getfield 27, 3) := by decide +kernel
theorem dX5_become_80 : decode cX5_become 80 = .ok (.putfield 27, 3) := by decide +kernel
theorem dX5_become_83 : decode cX5_become 83 = .ok (.aload_n 0, 1) := by decide +kernel
theorem dX5_become_84 : decode cX5_become 84 = .ok (.aload_n 1, 1) := by decide +kernel
theorem dX5_become_85 : decode cX5_become 85 = .ok (.getfield 31, 3) := by decide +kernel
theorem dX5_become_88 : decode cX5_become 88 = .ok (.putfield 31, 3) := by decide +kernel
theorem dX5_become_91 : decode cX5_become 91 = .ok (.aload_n 0, 1) := by decide +kernel
theorem dX5_become_92 : decode cX5_become 92 = .ok (.aload_n 1, 1) := by decide +kernel
theorem dX5_become_93 : decode cX5_become 93 = .ok (.getfield 34, 3) := by decide +kernel
theorem dX5_become_96 : decode cX5_become 96 = .ok (.putfield 34, 3) := by decide +kernel
theorem dX5_become_99 : decode cX5_become 99 = .ok (.aload_n 0, 1) := by decide +kernel
theorem dX5_become_100 : decode cX5_become 100 = .ok (.aload_n 1, 1) := by decide +kernel
theorem dX5_become_101 : decode cX5_become 101 = .ok (.getfield 37, 3) := by decide +kernel
theorem dX5_become_104 : decode cX5_become 104 = .ok (.putfield 37, 3) := by decide +kernel
theorem dX5_become_107 : decode cX5_become 107 = .ok (.return_, 1) := by decide +kernel
theorem dX5_layRope_0 : decode cX5_layRope 0 = .ok (.aload_n 0, 1) := by decide +kernel
theorem dX5_layRope_1 : decode cX5_layRope 1 = .ok (.getfield 18, 3) := by decide +kernel
theorem dX5_layRope_4 : decode cX5_layRope 4 = .ok (.iload_n 1, 1) := by decide +kernel
theorem dX5_layRope_5 : decode cX5_layRope 5 = .ok (.iload_n 2, 1) := by decide +kernel
theorem dX5_layRope_6 : decode cX5_layRope 6 = .ok (.iastore, 1) := by decide +kernel
theorem dX5_layRope_7 : decode cX5_layRope 7 = .ok (.aload_n 0, 1) := by decide +kernel
theorem dX5_layRope_8 : decode cX5_layRope 8 = .ok (.getfield 21, 3) := by decide +kernel
theorem dX5_layRope_11 : decode cX5_layRope 11 = .ok (.iload_n 1, 1) := by decide +kernel
theorem dX5_layRope_12 : decode cX5_layRope 12 = .ok (.iload_n 3, 1) := by decide +kernel
theorem dX5_layRope_13 : decode cX5_layRope 13 = .ok (.iastore, 1) := by decide +kernel
theorem dX5_layRope_14 : decode cX5_layRope 14 = .ok (.aload_n 0, 1) := by decide +kernel
theorem dX5_layRope_15 : decode cX5_layRope 15 = .ok (.getfield 24, 3) := by decide +kernel
theorem dX5_layRope_18 : decode cX5_layRope 18 = .ok (.iload_n 1, 1) := by decide +kernel
theorem dX5_layRope_19 : decode cX5_layRope 19 = .ok (.iload 4, 2) := by decide +kernel
theorem dX5_layRope_21 : decode cX5_layRope 21 = .ok (.iastore, 1) := by decide +kernel
theorem dX5_layRope_22 : decode cX5_layRope 22 = .ok (.return_, 1) := by decide +kernel
theorem dX5_hasBell_0 : decode cX5_hasBell 0 = .ok (.iload_n 1, 1) := by decide +kernel
theorem dX5_hasBell_1 : decode cX5_hasBell 1 = .ok (.ifCond .lt 15, 3) := by decide +kernel
theorem dX5_hasBell_4 : decode cX5_hasBell 4 = .ok (.iload_n 1, 1) := by decide +kernel
theorem dX5_hasBell_5 : decode cX5_hasBell 5 = .ok (.aload_n 0, 1) := by decide +kernel
theorem dX5_hasBell_6 : decode cX5_hasBell 6 = .ok (.getfield 27, 3) := by decide +kernel
theorem dX5_hasBell_9 : decode cX5_hasBell 9 = .ok (.if_icmp .ge 7, 3) := by decide +kernel
theorem dX5_hasBell_12 : decode cX5_hasBell 12 = .ok (.iconst 1, 1) := by decide +kernel
theorem dX5_hasBell_13 : decode cX5_hasBell 13 = .ok (.goto 4, 3) := by decide +kernel
theorem dX5_hasBell_16 : decode cX5_hasBell 16 = .ok (.iconst 0, 1) := by decide +kernel
theorem dX5_hasBell_17 : decode cX5_hasBell 17 = .ok (.ireturn, 1) := by decide +kernel
theorem dX5_isTied_0 : decode cX5_isTied 0 = .ok (.aload_n 0, 1) := by decide +kernel
theorem dX5_isTied_1 : decode cX5_isTied 1 = .ok (.getfield 37, 3) := by decide +kernel
theorem dX5_isTied_4 : decode cX5_isTied 4 = .ok (.iload_n 1, 1) := by decide +kernel
theorem dX5_isTied_5 : decode cX5_isTied 5 = .ok (.ishr, 1) := by decide +kernel
theorem dX5_isTied_6 : decode cX5_isTied 6 = .ok (.iconst 1, 1) := by decide +kernel
theorem dX5_isTied_7 : decode cX5_isTied 7 = .ok (.iand, 1) := by decide +kernel
theorem dX5_isTied_8 : decode cX5_isTied 8 = .ok (.ifCond .eq 7, 3) := by decide +kernel
theorem dX5_isTied_11 : decode cX5_isTied 11 = .ok (.iconst 1, 1) := by decide +kernel
theorem dX5_isTied_12 : decode cX5_isTied 12 = .ok (.goto 4, 3) := by decide +kernel
theorem dX5_isTied_15 : decode cX5_isTied 15 = .ok (.iconst 0, 1) := by decide +kernel
theorem dX5_isTied_16 : decode cX5_isTied 16 = .ok (.ireturn, 1) := by decide +kernel
theorem dX5_allBells_0 : decode cX5_allBells 0 = .ok (.iconst 1, 1) := by decide +kernel
theorem dX5_allBells_1 : decode cX5_allBells 1 = .ok (.aload_n 0, 1) := by decide +kernel
theorem dX5_allBells_2 : decode cX5_allBells 2 = .ok (.getfield 27, 3) := by decide +kernel
theorem dX5_allBells_5 : decode cX5_allBells 5 = .ok (.ishl, 1) := by decide +kernel
theorem dX5_allBells_6 : decode cX5_allBells 6 = .ok (.iconst 1, 1) := by decide +kernel
theorem dX5_allBells_7 : decode cX5_allBells 7 = .ok (.isub, 1) := by decide +kernel
theorem dX5_allBells_8 : decode cX5_allBells 8 = .ok (.ireturn, 1) := by decide +kernel
theorem dX5_allRopes_0 : decode cX5_allRopes 0 = .ok (.iconst 1, 1) := by decide +kernel
theorem dX5_allRopes_1 : decode cX5_allRopes 1 = .ok (.aload_n 0, 1) := by decide +kernel
theorem dX5_allRopes_2 : decode cX5_allRopes 2 = .ok (.getfield 31, 3) := by decide +kernel
theorem dX5_allRopes_5 : decode cX5_allRopes 5 = .ok (.ishl, 1) := by decide +kernel
theorem dX5_allRopes_6 : decode cX5_allRopes 6 = .ok (.iconst 1, 1) := by decide +kernel
theorem dX5_allRopes_7 : decode cX5_allRopes 7 = .ok (.isub, 1) := by decide +kernel
theorem dX5_allRopes_8 : decode cX5_allRopes 8 = .ok (.ireturn, 1) := by decide +kernel
theorem dX5_swingsFor_0 : decode cX5_swingsFor 0 = .ok (.aload_n 0, 1) := by decide +kernel
theorem dX5_swingsFor_1 : decode cX5_swingsFor 1 = .ok (.getfield 9, 3) := by decide +kernel
theorem dX5_swingsFor_4 : decode cX5_swingsFor 4 = .ok (.iload_n 1, 1) := by decide +kernel
theorem dX5_swingsFor_5 : decode cX5_swingsFor 5 = .ok (.iaload, 1) := by decide +kernel
theorem dX5_swingsFor_6 : decode cX5_swingsFor 6 = .ok (.ifCond .ne 12, 3) := by decide +kernel
theorem dX5_swingsFor_9 : decode cX5_swingsFor 9 = .ok (.aload_n 0, 1) := by decide +kernel
theorem dX5_swingsFor_10 : decode cX5_swingsFor 10 = .ok (.getfield 15, 3) := by decide +kernel
theorem dX5_swingsFor_13 : decode cX5_swingsFor 13 = .ok (.iload_n 1, 1) := by decide +kernel
theorem dX5_swingsFor_14 : decode cX5_swingsFor 14 = .ok (.iaload, 1) := by decide +kernel
theorem dX5_swingsFor_15 : decode cX5_swingsFor 15 = .ok (.goto 11, 3) := by decide +kernel
theorem dX5_swingsFor_18 : decode cX5_swingsFor 18 = .ok (.aload_n 0, 1) := by decide +kernel
theorem dX5_swingsFor_19 : decode cX5_swingsFor 19 = .ok (.getfield 15, 3) := by decide +kernel
theorem dX5_swingsFor_22 : decode cX5_swingsFor 22 = .ok (.iload_n 1, 1) := by decide +kernel
theorem dX5_swingsFor_23 : decode cX5_swingsFor 23 = .ok (.iaload, 1) := by decide +kernel
theorem dX5_swingsFor_24 : decode cX5_swingsFor 24 = .ok (.iconst 1, 1) := by decide +kernel
theorem dX5_swingsFor_25 : decode cX5_swingsFor 25 = .ok (.iadd, 1) := by decide +kernel
theorem dX5_swingsFor_26 : decode cX5_swingsFor 26 = .ok (.ireturn, 1) := by decide +kernel
theorem dX6_init_0 : decode cX6_init 0 = .ok (.aload_n 0, 1) := by decide +kernel
theorem dX6_init_1 : decode cX6_init 1 = .ok (.invokespecial 3, 3) := by decide +kernel
theorem dX6_init_4 : decode cX6_init 4 = .ok (.aload_n 0, 1) := by decide +kernel
theorem dX6_init_5 : decode cX6_init 5 = .ok (.new 9, 3) := by decide +kernel
theorem dX6_init_8 : decode cX6_init 8 = .ok (.dup, 1) := by decide +kernel
theorem dX6_init_9 : decode cX6_init 9 = .ok (.invokespecial 11, 3) := by decide +kernel
theorem dX6_init_12 : decode cX6_init 12 = .ok (.putfield 12, 3) := by decide +kernel
theorem dX6_init_15 : decode cX6_init 15 = .ok (.aload_n 0, 1) := by decide +kernel
theorem dX6_init_16 : decode cX6_init 16 = .ok (.new 18, 3) := by decide +kernel
theorem dX6_init_19 : decode cX6_init 19 = .ok (.dup, 1) := by decide +kernel
theorem dX6_init_20 : decode cX6_init 20 = .ok (.invokespecial 20, 3) := by decide +kernel
theorem dX6_init_23 : decode cX6_init 23 = .ok (.putfield 21, 3) := by decide +kernel
theorem dX6_init_26 : decode cX6_init 26 = .ok (.aload_n 0, 1) := by decide +kernel
theorem dX6_init_27 : decode cX6_init 27 = .ok (.new 25, 3) := by decide +kernel
theorem dX6_init_30 : decode cX6_init 30 = .ok (.dup, 1) := by decide +kernel
theorem dX6_init_31 : decode cX6_init 31 = .ok (.invokespecial 27, 3) := by decide +kernel
theorem dX6_init_34 : decode cX6_init 34 = .ok (.putfield 28, 3) := by decide +kernel
theorem dX6_init_37 : decode cX6_init 37 = .ok (.aload_n 0, 1) := by decide +kernel
theorem dX6_init_38 : decode cX6_init 38 = .ok (.new 25, 3) := by decide +kernel
theorem dX6_init_41 : decode cX6_init 41 = .ok (.dup, 1) := by decide +kernel
theorem dX6_init_42 : decode cX6_init 42 = .ok (.invokespecial 27, 3) := by decide +kernel
theorem dX6_init_45 : decode cX6_init 45 = .ok (.putfield 32, 3) := by decide +kernel
theorem dX6_init_48 : decode cX6_init 48 = .ok (.aload_n 0, 1) := by decide +kernel
theorem dX6_init_49 : decode cX6_init 49 = .ok (.new 35, 3) := by decide +kernel
theorem dX6_init_52 : decode cX6_init 52 = .ok (.dup, 1) := by decide +kernel
theorem dX6_init_53 : decode cX6_init 53 = .ok (.invokespecial 37, 3) := by decide +kernel
theorem dX6_init_56 : decode cX6_init 56 = .ok (.putfield 38, 3) := by decide +kernel
theorem dX6_init_59 : decode cX6_init 59 = .ok (.aload_n 0, 1) := by decide +kernel
theorem dX6_init_60 : decode cX6_init 60 = .ok (.new 42, 3) := by decide +kernel
theorem dX6_init_63 : decode cX6_init 63 = .ok (.dup, 1) := by decide +kernel
theorem dX6_init_64 : decode cX6_init 64 = .ok (.aload_n 0, 1) := by decide +kernel
theorem dX6_init_65 : decode cX6_init 65 = .ok (.getfield 12, 3) := by decide +kernel
theorem dX6_init_68 : decode cX6_init 68 = .ok (.invokespecial 44, 3) := by decide +kernel
theorem dX6_init_71 : decode cX6_init 71 = .ok (.putfield 47, 3) := by decide +kernel
theorem dX6_init_74 : decode cX6_init 74 = .ok (.aload_n 0, 1) := by decide +kernel
theorem dX6_init_75 : decode cX6_init 75 = .ok (.new 42, 3) := by decide +kernel
theorem dX6_init_78 : decode cX6_init 78 = .ok (.dup, 1) := by decide +kernel
theorem dX6_init_79 : decode cX6_init 79 = .ok (.aload_n 0, 1) := by decide +kernel
theorem dX6_init_80 : decode cX6_init 80 = .ok (.getfield 12, 3) := by decide +kernel
theorem dX6_init_83 : decode cX6_init 83 = .ok (.invokespecial 44, 3) := by decide +kernel
theorem dX6_init_86 : decode cX6_init 86 = .ok (.putfield 51, 3) := by decide +kernel
theorem dX6_init_89 : decode cX6_init 89 = .ok (.aload_n 0, 1) := by decide +kernel
theorem dX6_init_90 : decode cX6_init 90 = .ok (.iconst 4, 1) := by decide +kernel
theorem dX6_init_91 : decode cX6_init 91 = .ok (.anewarray 54, 3) := by decide +kernel
theorem dX6_init_94 : decode cX6_init 94 = .ok (.putfield 56, 3) := by decide +kernel
theorem dX6_init_97 : decode cX6_init 97 = .ok (.iconst 0, 1) := by decide +kernel
theorem dX6_init_98 : decode cX6_init 98 = .ok (.istore_n 1, 1) := by decide +kernel
theorem dX6_init_99 : decode cX6_init 99 = .ok (.iload_n 1, 1) := by decide +kernel
theorem dX6_init_100 : decode cX6_init 100 = .ok (.iconst 4, 1) := by decide +kernel
theorem dX6_init_101 : decode cX6_init 101 = .ok (.if_icmp .ge 22, 3) := by decide +kernel
theorem dX6_init_104 : decode cX6_init 104 = .ok (.aload_n 0, 1) := by decide +kernel
theorem dX6_init_105 : decode cX6_init 105 = .ok (.getfield 56, 3) := by decide +kernel
theorem dX6_init_108 : decode cX6_init 108 = .ok (.iload_n 1, 1) := by decide +kernel
theorem dX6_init_109 : decode cX6_init 109 = .ok (.new 54, 3) := by decide +kernel
theorem dX6_init_112 : decode cX6_init 112 = .ok (.dup, 1) := by decide +kernel
theorem dX6_init_113 : decode cX6_init 113 = .ok (.invokespecial 60, 3) := by decide +kernel
theorem dX6_init_116 : decode cX6_init 116 = .ok (.aastore, 1) := by decide +kernel
theorem dX6_init_117 : decode cX6_init 117 = .ok (.iinc 1 1, 3) := by decide +kernel
theorem dX6_init_120 : decode cX6_init 120 = .ok (.goto (-21), 3) := by decide +kernel
theorem dX6_init_123 : decode cX6_init 123 = .ok (.return_, 1) := by decide +kernel
theorem dX6_valley_0 : decode cX6_valley 0 = .ok (.aload_n 0, 1) := by decide +kernel
theorem dX6_valley_1 : decode cX6_valley 1 = .ok (.iconst 0, 1) := by decide +kernel
theorem dX6_valley_2 : decode cX6_valley 2 = .ok (.putfield 61, 3) := by decide +kernel
theorem dX6_valley_5 : decode cX6_valley 5 = .ok (.iload_n 1, 1) := by decide +kernel
theorem dX6_valley_6 : decode cX6_valley 6 = .ok (.invokestatic 65, 3) := by decide +kernel
theorem dX6_valley_9 : decode cX6_valley 9 = .ok (.ifCond .ne 5, 3) := by decide +kernel
theorem dX6_valley_12 : decode cX6_valley 12 = .ok (.iconst (-1), 1) := by decide +kernel
theorem dX6_valley_13 : decode cX6_valley 13 = .ok (.ireturn, 1) := by decide +kernel
theorem dX6_valley_14 : decode cX6_valley 14 = .ok (.iload_n 2, 1) := by decide +kernel
theorem dX6_valley_15 : decode cX6_valley 15 = .ok (.invokestatic 69, 3) := by decide +kernel
theorem dX6_valley_18 : decode cX6_valley 18 = .ok (.ifCond .ne 6, 3) := by decide +kernel
theorem dX6_valley_21 : decode cX6_valley 21 = .ok (.bipush (-2), 2) := by decide +kernel
theorem dX6_valley_23 : decode cX6_valley 23 = .ok (.ireturn, 1) := by decide +kernel
theorem dX6_valley_24 : decode cX6_valley 24 = .ok (.aload_n 0, 1) := by decide +kernel
theorem dX6_valley_25 : decode cX6_valley 25 = .ok (.getfield 56, 3) := by decide +kernel
theorem dX6_valley_28 : decode cX6_valley 28 = .ok (.iload_n 1, 1) := by decide +kernel
theorem dX6_valley_29 : decode cX6_valley 29 = .ok (.aaload, 1) := by decide +kernel
theorem dX6_valley_30 : decode cX6_valley 30 = .ok (.iload_n 2, 1) := by decide +kernel
theorem dX6_valley_31 : decode cX6_valley 31 = .ok (.iload_n 3, 1) := by decide +kernel
theorem dX6_valley_32 : decode cX6_valley 32 = .ok (.iload 4, 2) := by decide +kernel
theorem dX6_valley_34 : decode cX6_valley 34 = .ok (.invokevirtual 72, 3) := by decide +kernel
theorem dX6_valley_37 : decode cX6_valley 37 = .ok (.istore 5, 2) := by decide +kernel
theorem dX6_valley_39 : decode cX6_valley 39 = .ok (.iload 5, 2) := by decide +kernel
theorem dX6_valley_41 : decode cX6_valley 41 = .ok (.ifCond .eq 10, 3) := by decide +kernel
theorem dX6_valley_44 : decode cX6_valley 44 = .ok (.aload_n 0, 1) := by decide +kernel
theorem dX6_valley_45 : decode cX6_valley 45 = .ok (.iload 5, 2) := by decide +kernel
theorem dX6_valley_47 : decode cX6_valley 47 = .ok (.invokevirtual 76, 3) := by decide +kernel
theorem dX6_valley_50 : decode cX6_valley 50 = .ok (.ireturn, 1) := by decide +kernel
theorem dX6_valley_51 : decode cX6_valley 51 = .ok (.aload_n 0, 1) := by decide +kernel
theorem dX6_valley_52 : decode cX6_valley 52 = .ok (.getfield 21, 3) := by decide +kernel
theorem dX6_valley_55 : decode cX6_valley 55 = .ok (.aload_n 0, 1) := by decide +kernel
theorem dX6_valley_56 : decode cX6_valley 56 = .ok (.getfield 56, 3) := by decide +kernel
theorem dX6_valley_59 : decode cX6_valley 59 = .ok (.iload_n 1, 1) := by decide +kernel
theorem dX6_valley_60 : decode cX6_valley 60 = .ok (.aaload, 1) := by decide +kernel
theorem dX6_valley_61 : decode cX6_valley 61 = .ok (.getfield 80, 3) := by decide +kernel
theorem dX6_valley_64 : decode cX6_valley 64 = .ok (.iload_n 3, 1) := by decide +kernel
theorem dX6_valley_65 : decode cX6_valley 65 = .ok (.iload 4, 2) := by decide +kernel
theorem dX6_valley_67 : decode cX6_valley 67 = .ok (.invokevirtual 84, 3) := by decide +kernel
theorem dX6_valley_70 : decode cX6_valley 70 = .ok (.istore 6, 2) := by decide +kernel
theorem dX6_valley_72 : decode cX6_valley 72 = .ok (.iload 6, 2) := by decide +kernel
theorem dX6_valley_74 : decode cX6_valley 74 = .ok (.bipush (-9), 2) := by decide +kernel
theorem dX6_valley_76 : decode cX6_valley 76 = .ok (.if_icmp .eq 9, 3) := by decide +kernel
theorem dX6_valley_79 : decode cX6_valley 79 = .ok (.bipush (-100), 2) := by decide +kernel
theorem dX6_valley_81 : decode cX6_valley 81 = .ok (.iload 6, 2) := by decide +kernel
theorem dX6_valley_83 : decode cX6_valley 83 = .ok (.isub, 1) := by decide +kernel
theorem dX6_valley_84 : decode cX6_valley 84 = .ok (.ireturn, 1) := by decide +kernel
theorem dX6_valley_85 : decode cX6_valley 85 = .ok (.aload_n 0, 1) := by decide +kernel
theorem dX6_valley_86 : decode cX6_valley 86 = .ok (.getfield 12, 3) := by decide +kernel
theorem dX6_valley_89 : decode cX6_valley 89 = .ok (.aload_n 0, 1) := by decide +kernel
theorem dX6_valley_90 : decode cX6_valley 90 = .ok (.getfield 21, 3) := by decide +kernel
theorem dX6_valley_93 : decode cX6_valley 93 = .ok (.getfield 88, 3) := by decide +kernel
theorem dX6_valley_96 : decode cX6_valley 96 = .ok (.invokevirtual 91, 3) := by decide +kernel
theorem dX6_valley_99 : decode cX6_valley 99 = .ok (.aload_n 0, 1) := by decide +kernel
theorem dX6_valley_100 : decode cX6_valley 100 = .ok (.getfield 28, 3) := by decide +kernel
theorem dX6_valley_103 : decode cX6_valley 103 = .ok (.iconst 0, 1) := by decide +kernel
theorem dX6_valley_104 : decode cX6_valley 104 = .ok (.putfield 94, 3) := by decide +kernel
theorem dX6_valley_107 : decode cX6_valley 107 = .ok (.aload_n 0, 1) := by decide +kernel
theorem dX6_valley_108 : decode cX6_valley 108 = .ok (.getfield 38, 3) := by decide +kernel
theorem dX6_valley_111 : decode cX6_valley 111 = .ok (.iconst 0, 1) := by decide +kernel
theorem dX6_valley_112 : decode cX6_valley 112 = .ok (.putfield 97, 3) := by decide +kernel
theorem dX6_valley_115 : decode cX6_valley 115 = .ok (.aload_n 0, 1) := by decide +kernel
theorem dX6_valley_116 : decode cX6_valley 116 = .ok (.iconst 0, 1) := by decide +kernel
theorem dX6_valley_117 : decode cX6_valley 117 = .ok (.putfield 98, 3) := by decide +kernel
theorem dX6_valley_120 : decode cX6_valley 120 = .ok (.aload_n 0, 1) := by decide +kernel
theorem dX6_valley_121 : decode cX6_valley 121 = .ok (.getfield 12, 3) := by decide +kernel
theorem dX6_valley_124 : decode cX6_valley 124 = .ok (.getfield 102, 3) := by decide +kernel
theorem dX6_valley_127 : decode cX6_valley 127 = .ok (.ireturn, 1) := by decide +kernel
theorem dX6_ofBell_0 : decode cX6_ofBell 0 = .ok (.aload_n 0, 1) := by decide +kernel
theorem dX6_ofBell_1 : decode cX6_ofBell 1 = .ok (.getfield 12, 3) := by decide +kernel
theorem dX6_ofBell_4 : decode cX6_ofBell 4 = .ok (.iload_n 1, 1) := by decide +kernel
theorem dX6_ofBell_5 : decode cX6_ofBell 5 = .ok (.invokevirtual 105, 3) := by decide +kernel
theorem dX6_ofBell_8 : decode cX6_ofBell 8 = .ok (.ifCond .ne 5, 3) := by decide +kernel
theorem dX6_ofBell_11 : decode cX6_ofBell 11 = .ok (.iconst (-1), 1) := by decide +kernel
theorem dX6_ofBell_12 : decode cX6_ofBell 12 = .ok (.ireturn, 1) := by decide +kernel
theorem dX6_ofBell_13 : decode cX6_ofBell 13 = .ok (.iload_n 2, 1) := by decide +kernel
theorem dX6_ofBell_14 : decode cX6_ofBell 14 = .ok (.tableswitch 76 0 3 #[30, 40, 50, 59], 30) := by decide +kernel
theorem dX6_ofBell_44 : decode cX6_ofBell 44 = .ok (.aload_n 0, 1) := by decide +kernel
theorem dX6_ofBell_45 : decode cX6_ofBell 45 = .ok (.getfield 12, 3) := by decide +kernel
theorem dX6_ofBell_48 : decode cX6_ofBell 48 = .ok (.getfield 108, 3) := by decide +kernel
theorem dX6_ofBell_51 : decode cX6_ofBell 51 = .ok (.iload_n 1, 1) := by decide +kernel
theorem dX6_ofBell_52 : decode cX6_ofBell 52 = .ok (.iaload, 1) := by decide +kernel
theorem dX6_ofBell_53 : decode cX6_ofBell 53 = .ok (.ireturn, 1) := by decide +kernel
theorem dX6_ofBell_54 : decode cX6_ofBell 54 = .ok (.aload_n 0, 1) := by decide +kernel
theorem dX6_ofBell_55 : decode cX6_ofBell 55 = .ok (.getfield 12, 3) := by decide +kernel
theorem dX6_ofBell_58 : decode cX6_ofBell 58 = .ok (.getfield 111, 3) := by decide +kernel
theorem dX6_ofBell_61 : decode cX6_ofBell 61 = .ok (.iload_n 1, 1) := by decide +kernel
theorem dX6_ofBell_62 : decode cX6_ofBell 62 = .ok (.iaload, 1) := by decide +kernel
theorem dX6_ofBell_63 : decode cX6_ofBell 63 = .ok (.ireturn, 1) := by decide +kernel
theorem dX6_ofBell_64 : decode cX6_ofBell 64 = .ok (.aload_n 0, 1) := by decide +kernel
theorem dX6_ofBell_65 : decode cX6_ofBell 65 = .ok (.getfield 12, 3) := by decide +kernel
theorem dX6_ofBell_68 : decode cX6_ofBell 68 = .ok (.iload_n 1, 1) := by decide +kernel
theorem dX6_ofBell_69 : decode cX6_ofBell 69 = .ok (.invokevirtual 114, 3) := by decide +kernel
theorem dX6_ofBell_72 : decode cX6_ofBell 72 = .ok (.ireturn, 1) := by decide +kernel
theorem dX6_ofBell_73 : decode cX6_ofBell 73 = .ok (.aload_n 0, 1) := by decide +kernel
theorem dX6_ofBell_74 : decode cX6_ofBell 74 = .ok (.getfield 12, 3) := by decide +kernel
theorem dX6_ofBell_77 : decode cX6_ofBell 77 = .ok (.iload_n 1, 1) := by decide +kernel
theorem dX6_ofBell_78 : decode cX6_ofBell 78 = .ok (.invokevirtual 117, 3) := by decide +kernel
theorem dX6_ofBell_81 : decode cX6_ofBell 81 = .ok (.ifCond .eq 7, 3) := by decide +kernel
theorem dX6_ofBell_84 : decode cX6_ofBell 84 = .ok (.iconst 1, 1) := by decide +kernel
theorem dX6_ofBell_85 : decode cX6_ofBell 85 = .ok (.goto 4, 3) := by decide +kernel
theorem dX6_ofBell_88 : decode cX6_ofBell 88 = .ok (.iconst 0, 1) := by decide +kernel
theorem dX6_ofBell_89 : decode cX6_ofBell 89 = .ok (.ireturn, 1) := by decide +kernel
theorem dX6_ofBell_90 : decode cX6_ofBell 90 = .ok (.bipush (-2), 2) := by decide +kernel
theorem dX6_ofBell_92 : decode cX6_ofBell 92 = .ok (.ireturn, 1) := by decide +kernel
theorem dX6_ofRope_0 : decode cX6_ofRope 0 = .ok (.iload_n 1, 1) := by decide +kernel
theorem dX6_ofRope_1 : decode cX6_ofRope 1 = .ok (.ifCond .lt 14, 3) := by decide +kernel
theorem dX6_ofRope_4 : decode cX6_ofRope 4 = .ok (.iload_n 1, 1) := by decide +kernel
theorem dX6_ofRope_5 : decode cX6_ofRope 5 = .ok (.aload_n 0, 1) := by decide +kernel
theorem dX6_ofRope_6 : decode cX6_ofRope 6 = .ok (.getfield 12, 3) := by decide +kernel
theorem dX6_ofRope_9 : decode cX6_ofRope 9 = .ok (.getfield 120, 3) := by decide +kernel
theorem dX6_ofRope_12 : decode cX6_ofRope 12 = .ok (.if_icmp .lt 5, 3) := by decide +kernel
theorem dX6_ofRope_15 : decode cX6_ofRope 15 = .ok (.iconst (-1), 1) := by decide +kernel
theorem dX6_ofRope_16 : decode cX6_ofRope 16 = .ok (.ireturn, 1) := by decide +kernel
theorem dX6_ofRope_17 : decode cX6_ofRope 17 = .ok (.iload_n 2, 1) := by decide +kernel
theorem dX6_ofRope_18 : decode cX6_ofRope 18 = .ok (.tableswitch 56 0 2 #[26, 36, 46], 26) := by decide +kernel
theorem dX6_ofRope_44 : decode cX6_ofRope 44 = .ok (.aload_n 0, 1) := by decide +kernel
theorem dX6_ofRope_45 : decode cX6_ofRope 45 = .ok (.getfield 12, 3) := by decide +kernel
theorem dX6_ofRope_48 : decode cX6_ofRope 48 = .ok (.getfield 123, 3) := by decide +kernel
theorem dX6_ofRope_51 : decode cX6_ofRope 51 = .ok (.iload_n 1, 1) := by decide +kernel
theorem dX6_ofRope_52 : decode cX6_ofRope 52 = .ok (.iaload, 1) := by decide +kernel
theorem dX6_ofRope_53 : decode cX6_ofRope 53 = .ok (.ireturn, 1) := by decide +kernel
theorem dX6_ofRope_54 : decode cX6_ofRope 54 = .ok (.aload_n 0, 1) := by decide +kernel
theorem dX6_ofRope_55 : decode cX6_ofRope 55 = .ok (.getfield 12, 3) := by decide +kernel
theorem dX6_ofRope_58 : decode cX6_ofRope 58 = .ok (.getfield 126, 3) := by decide +kernel
theorem dX6_ofRope_61 : decode cX6_ofRope 61 = .ok (.iload_n 1, 1) := by decide +kernel
theorem dX6_ofRope_62 : decode cX6_ofRope 62 = .ok (.iaload, 1) := by decide +kernel
theorem dX6_ofRope_63 : decode cX6_ofRope 63 = .ok (.ireturn, 1) := by decide +kernel
theorem dX6_ofRope_64 : decode cX6_ofRope 64 = .ok (.aload_n 0, 1) := by decide +kernel
theorem dX6_ofRope_65 : decode cX6_ofRope 65 = .ok (.getfield 12, 3) := by decide +kernel
theorem dX6_ofRope_68 : decode cX6_ofRope 68 = .ok (.getfield 129, 3) := by decide +kernel
theorem dX6_ofRope_71 : decode cX6_ofRope 71 = .ok (.iload_n 1, 1) := by decide +kernel
theorem dX6_ofRope_72 : decode cX6_ofRope 72 = .ok (.iaload, 1) := by decide +kernel
theorem dX6_ofRope_73 : decode cX6_ofRope 73 = .ok (.ireturn, 1) := by decide +kernel
theorem dX6_ofRope_74 : decode cX6_ofRope 74 = .ok (.bipush (-2), 2) := by decide +kernel
theorem dX6_ofRope_76 : decode cX6_ofRope 76 = .ok (.ireturn, 1) := by decide +kernel
theorem dX6_tie_0 : decode cX6_tie 0 = .ok (.aload_n 0, 1) := by decide +kernel
theorem dX6_tie_1 : decode cX6_tie 1 = .ok (.getfield 12, 3) := by decide +kernel
theorem dX6_tie_4 : decode cX6_tie 4 = .ok (.iload_n 1, 1) := by decide +kernel
theorem dX6_tie_5 : decode cX6_tie 5 = .ok (.invokevirtual 105, 3) := by decide +kernel
theorem dX6_tie_8 : decode cX6_tie 8 = .ok (.ifCond .ne 5, 3) := by decide +kernel
theorem dX6_tie_11 : decode cX6_tie 11 = .ok (.iconst (-1), 1) := by decide +kernel
theorem dX6_tie_12 : decode cX6_tie 12 = .ok (.ireturn, 1) := by decide +kernel
theorem dX6_tie_13 : decode cX6_tie 13 = .ok (.aload_n 0, 1) := by decide +kernel
theorem dX6_tie_14 : decode cX6_tie 14 = .ok (.getfield 12, 3) := by decide +kernel
theorem dX6_tie_17 : decode cX6_tie 17 = .ok (.iload_n 1, 1) := by decide +kernel
theorem dX6_tie_18 : decode cX6_tie 18 = .ok (.invokevirtual 117, 3) := by decide +kernel
theorem dX6_tie_21 : decode cX6_tie 21 = .ok (.iload_n 2, 1) := by decide +kernel
theorem dX6_tie_22 : decode cX6_tie 22 = .ok (.if_icmp .ne 5, 3) := by decide +kernel
theorem dX6_tie_25 : decode cX6_tie 25 = .ok (.iconst 0, 1) := by decide +kernel
theorem dX6_tie_26 : decode cX6_tie 26 = .ok (.ireturn, 1) := by decide +kernel
theorem dX6_tie_27 : decode cX6_tie 27 = .ok (.aload_n 0, 1) := by decide +kernel
theorem dX6_tie_28 : decode cX6_tie 28 = .ok (.getfield 12, 3) := by decide +kernel
theorem dX6_tie_31 : decode cX6_tie 31 = .ok (.dup, 1) := by decide +kernel
theorem dX6_tie_32 : decode cX6_tie 32 = .ok (.getfield 132, 3) := by decide +kernel
theorem dX6_tie_35 : decode cX6_tie 35 = .ok (.iconst 1, 1) := by decide +kernel
theorem dX6_tie_36 : decode cX6_tie 36 = .ok (.iload_n 1, 1) := by decide +kernel
theorem dX6_tie_37 : decode cX6_tie 37 = .ok (.ishl, 1) := by decide +kernel
theorem dX6_tie_38 : decode cX6_tie 38 = .ok (.ixor, 1) := by decide +kernel
theorem dX6_tie_39 : decode cX6_tie 39 = .ok (.putfield 132, 3) := by decide +kernel
theorem dX6_tie_42 : decode cX6_tie 42 = .ok (.aload_n 0, 1) := by decide +kernel
theorem dX6_tie_43 : decode cX6_tie 43 = .ok (.iconst 0, 1) := by decide +kernel
theorem dX6_tie_44 : decode cX6_tie 44 = .ok (.putfield 98, 3) := by decide +kernel
theorem dX6_tie_47 : decode cX6_tie 47 = .ok (.iconst 1, 1) := by decide +kernel
theorem dX6_tie_48 : decode cX6_tie 48 = .ok (.ireturn, 1) := by decide +kernel
theorem dX6_span_0 : decode cX6_span 0 = .ok (.iload_n 1, 1) := by decide +kernel
theorem dX6_span_1 : decode cX6_span 1 = .ok (.ifCond .lt 8, 3) := by decide +kernel
theorem dX6_span_4 : decode cX6_span 4 = .ok (.iload_n 1, 1) := by decide +kernel
theorem dX6_span_5 : decode cX6_span 5 = .ok (.iconst 5, 1) := by decide +kernel
theorem dX6_span_6 : decode cX6_span 6 = .ok (.if_icmp .le 6, 3) := by decide +kernel
theorem dX6_span_9 : decode cX6_span 9 = .ok (.bipush (-2), 2) := by decide +kernel
theorem dX6_span_11 : decode cX6_span 11 = .ok (.ireturn, 1) := by decide +kernel
theorem dX6_span_12 : decode cX6_span 12 = .ok (.aload_n 0, 1) := by decide +kernel
theorem dX6_span_13 : decode cX6_span 13 = .ok (.invokevirtual 135, 3) := by decide +kernel
theorem dX6_span_16 : decode cX6_span 16 = .ok (.ifCond .eq 6, 3) := by decide +kernel
theorem dX6_span_19 : decode cX6_span 19 = .ok (.bipush (-3), 2) := by decide +kernel
theorem dX6_span_21 : decode cX6_span 21 = .ok (.ireturn, 1) := by decide +kernel
theorem dX6_span_22 : decode cX6_span 22 = .ok (.aload_n 0, 1) := by decide +kernel
theorem dX6_span_23 : decode cX6_span 23 = .ok (.getfield 12, 3) := by decide +kernel
theorem dX6_span_26 : decode cX6_span 26 = .ok (.getfield 139, 3) := by decide +kernel
theorem dX6_span_29 : decode cX6_span 29 = .ok (.istore_n 2, 1) := by decide +kernel
theorem dX6_span_30 : decode cX6_span 30 = .ok (.aload_n 0, 1) := by decide +kernel
theorem dX6_span_31 : decode cX6_span 31 = .ok (.getfield 12, 3) := by decide +kernel
theorem dX6_span_34 : decode cX6_span 34 = .ok (.iload_n 1, 1) := by decide +kernel
theorem dX6_span_35 : decode cX6_span 35 = .ok (.putfield 139, 3) := by decide +kernel
theorem dX6_span_38 : decode cX6_span 38 = .ok (.aload_n 0, 1) := by decide +kernel
theorem dX6_span_39 : decode cX6_span 39 = .ok (.iconst 0, 1) := by decide +kernel
theorem dX6_span_40 : decode cX6_span 40 = .ok (.putfield 98, 3) := by decide +kernel
theorem dX6_span_43 : decode cX6_span 43 = .ok (.iload_n 2, 1) := by decide +kernel
theorem dX6_span_44 : decode cX6_span 44 = .ok (.ireturn, 1) := by decide +kernel
theorem dX6_pull_0 : decode cX6_pull 0 = .ok (.aload_n 0, 1) := by decide +kernel
theorem dX6_pull_1 : decode cX6_pull 1 = .ok (.getfield 12, 3) := by decide +kernel
theorem dX6_pull_4 : decode cX6_pull 4 = .ok (.iload_n 1, 1) := by decide +kernel
theorem dX6_pull_5 : decode cX6_pull 5 = .ok (.invokevirtual 105, 3) := by decide +kernel
theorem dX6_pull_8 : decode cX6_pull 8 = .ok (.ifCond .ne 5, 3) := by decide +kernel
theorem dX6_pull_11 : decode cX6_pull 11 = .ok (.iconst (-1), 1) := by decide +kernel
theorem dX6_pull_12 : decode cX6_pull 12 = .ok (.ireturn, 1) := by decide +kernel
theorem dX6_pull_13 : decode cX6_pull 13 = .ok (.iload_n 2, 1) := by decide +kernel
theorem dX6_pull_14 : decode cX6_pull 14 = .ok (.ifCond .lt 9, 3) := by decide +kernel
theorem dX6_pull_17 : decode cX6_pull 17 = .ok (.iload_n 2, 1) := by decide +kernel
theorem dX6_pull_18 : decode cX6_pull 18 = .ok (.bipush 100, 2) := by decide +kernel
theorem dX6_pull_20 : decode cX6_pull 20 = .ok (.if_icmp .lt 6, 3) := by decide +kernel
theorem dX6_pull_23 : decode cX6_pull 23 = .ok (.bipush (-2), 2) := by decide +kernel
theorem dX6_pull_25 : decode cX6_pull 25 = .ok (.ireturn, 1) := by decide +kernel
theorem dX6_pull_26 : decode cX6_pull 26 = .ok (.aload_n 0, 1) := by decide +kernel
theorem dX6_pull_27 : decode cX6_pull 27 = .ok (.getfield 28, 3) := by decide +kernel
theorem dX6_pull_30 : decode cX6_pull 30 = .ok (.getfield 94, 3) := by decide +kernel
theorem dX6_pull_33 : decode cX6_pull 33 = .ok (.bipush 6, 2) := by decide +kernel
theorem dX6_pull_35 : decode cX6_pull 35 = .ok (.if_icmp .lt 6, 3) := by decide +kernel
theorem dX6_pull_38 : decode cX6_pull 38 = .ok (.bipush (-4), 2) := by decide +kernel
theorem dX6_pull_40 : decode cX6_pull 40 = .ok (.ireturn, 1) := by decide +kernel
theorem dX6_pull_41 : decode cX6_pull 41 = .ok (.aload_n 0, 1) := by decide +kernel
theorem dX6_pull_42 : decode cX6_pull 42 = .ok (.getfield 28, 3) := by decide +kernel
theorem dX6_pull_45 : decode cX6_pull 45 = .ok (.iload_n 1, 1) := by decide +kernel
theorem dX6_pull_46 : decode cX6_pull 46 = .ok (.iload_n 2, 1) := by decide +kernel
theorem dX6_pull_47 : decode cX6_pull 47 = .ok (.iconst 1, 1) := by decide +kernel
theorem dX6_pull_48 : decode cX6_pull 48 = .ok (.invokevirtual 142, 3) := by decide +kernel
theorem dX6_pull_51 : decode cX6_pull 51 = .ok (.aload_n 0, 1) := by decide +kernel
theorem dX6_pull_52 : decode cX6_pull 52 = .ok (.iconst 0, 1) := by decide +kernel
theorem dX6_pull_53 : decode cX6_pull 53 = .ok (.putfield 98, 3) := by decide +kernel
theorem dX6_pull_56 : decode cX6_pull 56 = .ok (.aload_n 0, 1) := by decide +kernel
theorem dX6_pull_57 : decode cX6_pull 57 = .ok (.getfield 28, 3) := by decide +kernel
theorem dX6_pull_60 : decode cX6_pull 60 = .ok (.getfield 94, 3) := by decide +kernel
theorem dX6_pull_63 : decode cX6_pull 63 = .ok (.iconst 1, 1) := by decide +kernel
theorem dX6_pull_64 : decode cX6_pull 64 = .ok (.isub, 1) := by decide +kernel
theorem dX6_pull_65 : decode cX6_pull 65 = .ok (.ireturn, 1) := by decide +kernel
theorem dX6_undo_0 : decode cX6_undo 0 = .ok (.iload_n 1, 1) := by decide +kernel
theorem dX6_undo_1 : decode cX6_undo 1 = .ok (.ifCond .lt 14, 3) := by decide +kernel
theorem dX6_undo_4 : decode cX6_undo 4 = .ok (.iload_n 1, 1) := by decide +kernel
theorem dX6_undo_5 : decode cX6_undo 5 = .ok (.aload_n 0, 1) := by decide +kernel
theorem dX6_undo_6 : decode cX6_undo 6 = .ok (.getfield 28, 3) := by decide +kernel
theorem dX6_undo_9 : decode cX6_undo 9 = .ok (.getfield 94, 3) := by decide +kernel
theorem dX6_undo_12 : decode cX6_undo 12 = .ok (.if_icmp .le 6, 3) := by decide +kernel
theorem dX6_undo_15 : decode cX6_undo 15 = .ok (.bipush (-2), 2) := by decide +kernel
theorem dX6_undo_17 : decode cX6_undo 17 = .ok (.ireturn, 1) := by decide +kernel
theorem dX6_undo_18 : decode cX6_undo 18 = .ok (.aload_n 0, 1) := by decide +kernel
theorem dX6_undo_19 : decode cX6_undo 19 = .ok (.getfield 28, 3) := by decide +kernel
theorem dX6_undo_22 : decode cX6_undo 22 = .ok (.dup, 1) := by decide +kernel
theorem dX6_undo_23 : decode cX6_undo 23 = .ok (.getfield 94, 3) := by decide +kernel
theorem dX6_undo_26 : decode cX6_undo 26 = .ok (.iload_n 1, 1) := by decide +kernel
theorem dX6_undo_27 : decode cX6_undo 27 = .ok (.isub, 1) := by decide +kernel
theorem dX6_undo_28 : decode cX6_undo 28 = .ok (.putfield 94, 3) := by decide +kernel
theorem dX6_undo_31 : decode cX6_undo 31 = .ok (.aload_n 0, 1) := by decide +kernel
theorem dX6_undo_32 : decode cX6_undo 32 = .ok (.iconst 0, 1) := by decide +kernel
theorem dX6_undo_33 : decode cX6_undo 33 = .ok (.putfield 98, 3) := by decide +kernel
theorem dX6_undo_36 : decode cX6_undo 36 = .ok (.aload_n 0, 1) := by decide +kernel
theorem dX6_undo_37 : decode cX6_undo 37 = .ok (.getfield 28, 3) := by decide +kernel
theorem dX6_undo_40 : decode cX6_undo 40 = .ok (.getfield 94, 3) := by decide +kernel
theorem dX6_undo_43 : decode cX6_undo 43 = .ok (.ireturn, 1) := by decide +kernel
theorem dX6_rings_0 : decode cX6_rings 0 = .ok (.aload_n 0, 1) := by decide +kernel
theorem dX6_rings_1 : decode cX6_rings 1 = .ok (.getfield 12, 3) := by decide +kernel
theorem dX6_rings_4 : decode cX6_rings 4 = .ok (.iload_n 1, 1) := by decide +kernel
theorem dX6_rings_5 : decode cX6_rings 5 = .ok (.invokevirtual 105, 3) := by decide +kernel
theorem dX6_rings_8 : decode cX6_rings 8 = .ok (.ifCond .ne 5, 3) := by decide +kernel
theorem dX6_rings_11 : decode cX6_rings 11 = .ok (.iconst (-1), 1) := by decide +kernel
theorem dX6_rings_12 : decode cX6_rings 12 = .ok (.ireturn, 1) := by decide +kernel
theorem dX6_rings_13 : decode cX6_rings 13 = .ok (.aload_n 0, 1) := by decide +kernel
theorem dX6_rings_14 : decode cX6_rings 14 = .ok (.invokevirtual 146, 3) := by decide +kernel
theorem dX6_rings_17 : decode cX6_rings 17 = .ok (.astore_n 2, 1) := by decide +kernel
theorem dX6_rings_18 : decode cX6_rings 18 = .ok (.iconst 0, 1) := by decide +kernel
theorem dX6_rings_19 : decode cX6_rings 19 = .ok (.istore_n 3, 1) := by decide +kernel
theorem dX6_rings_20 : decode cX6_rings 20 = .ok (.iconst 0, 1) := by decide +kernel
theorem dX6_rings_21 : decode cX6_rings 21 = .ok (.istore 4, 2) := by decide +kernel
theorem dX6_rings_23 : decode cX6_rings 23 = .ok (.iload 4, 2) := by decide +kernel
theorem dX6_rings_25 : decode cX6_rings 25 = .ok (.sipush 400, 3) := by decide +kernel
theorem dX6_rings_28 : decode cX6_rings 28 = .ok (.if_icmp .ge 22, 3) := by decide +kernel
theorem dX6_rings_31 : decode cX6_rings 31 = .ok (.aload_n 2, 1) := by decide +kernel
theorem dX6_rings_32 : decode cX6_rings 32 = .ok (.iload_n 1, 1) := by decide +kernel
theorem dX6_rings_33 : decode cX6_rings 33 = .ok (.iload 4, 2) := by decide +kernel
theorem dX6_rings_35 : decode cX6_rings 35 = .ok (.invokevirtual 150, 3) := by decide +kernel
theorem dX6_rings_38 : decode cX6_rings 38 = .ok (.ifCond .eq 6, 3) := by decide +kernel
theorem dX6_rings_41 : decode cX6_rings 41 = .ok (.iinc 3 1, 3) := by decide +kernel
theorem dX6_rings_44 : decode cX6_rings 44 = .ok (.iinc 4 1, 3) := by decide +kernel
theorem dX6_rings_47 : decode cX6_rings 47 = .ok (.goto (-24), 3) := by decide +kernel
theorem dX6_rings_50 : decode cX6_rings 50 = .ok (.iload_n 3, 1) := by decide +kernel
theorem dX6_rings_51 : decode cX6_rings 51 = .ok (.ireturn, 1) := by decide +kernel
theorem dX6_ringsAt_0 : decode cX6_ringsAt 0 = .ok (.aload_n 0, 1) := by decide +kernel
theorem dX6_ringsAt_1 : decode cX6_ringsAt 1 = .ok (.getfield 12, 3) := by decide +kernel
theorem dX6_ringsAt_4 : decode cX6_ringsAt 4 = .ok (.iload_n 1, 1) := by decide +kernel
theorem dX6_ringsAt_5 : decode cX6_ringsAt 5 = .ok (.invokevirtual 105, 3) := by decide +kernel
theorem dX6_ringsAt_8 : decode cX6_ringsAt 8 = .ok (.ifCond .eq 7, 3) := by decide +kernel
theorem dX6_ringsAt_11 : decode cX6_ringsAt 11 = .ok (.iload_n 2, 1) := by decide +kernel
theorem dX6_ringsAt_12 : decode cX6_ringsAt 12 = .ok (.ifCond .ge 5, 3) := by decide +kernel
theorem dX6_ringsAt_15 : decode cX6_ringsAt 15 = .ok (.iconst (-1), 1) := by decide +kernel
theorem dX6_ringsAt_16 : decode cX6_ringsAt 16 = .ok (.ireturn, 1) := by decide +kernel
theorem dX6_ringsAt_17 : decode cX6_ringsAt 17 = .ok (.aload_n 0, 1) := by decide +kernel
theorem dX6_ringsAt_18 : decode cX6_ringsAt 18 = .ok (.invokevirtual 146, 3) := by decide +kernel
theorem dX6_ringsAt_21 : decode cX6_ringsAt 21 = .ok (.astore_n 3, 1) := by decide +kernel
theorem dX6_ringsAt_22 : decode cX6_ringsAt 22 = .ok (.iload_n 2, 1) := by decide +kernel
theorem dX6_ringsAt_23 : decode cX6_ringsAt 23 = .ok (.istore 4, 2) := by decide +kernel
theorem dX6_ringsAt_25 : decode cX6_ringsAt 25 = .ok (.iconst 0, 1) := by decide +kernel
theorem dX6_ringsAt_26 : decode cX6_ringsAt 26 = .ok (.istore 5, 2) := by decide +kernel
theorem dX6_ringsAt_28 : decode cX6_ringsAt 28 = .ok (.iload 5, 2) := by decide +kernel
theorem dX6_ringsAt_30 : decode cX6_ringsAt 30 = .ok (.sipush 400, 3) := by decide +kernel
theorem dX6_ringsAt_33 : decode cX6_ringsAt 33 = .ok (.if_icmp .ge 30, 3) := by decide +kernel
theorem dX6_ringsAt_36 : decode cX6_ringsAt 36 = .ok (.aload_n 3, 1) := by decide +kernel
theorem dX6_ringsAt_37 : decode cX6_ringsAt 37 = .ok (.iload_n 1, 1) := by decide +kernel
theorem dX6_ringsAt_38 : decode cX6_ringsAt 38 = .ok (.iload 5, 2) := by decide +kernel
theorem dX6_ringsAt_40 : decode cX6_ringsAt 40 = .ok (.invokevirtual 150, 3) := by decide +kernel
theorem dX6_ringsAt_43 : decode cX6_ringsAt 43 = .ok (.ifCond .eq 14, 3) := by decide +kernel
theorem dX6_ringsAt_46 : decode cX6_ringsAt 46 = .ok (.iload 4, 2) := by decide +kernel
theorem dX6_ringsAt_48 : decode cX6_ringsAt 48 = .ok (.ifCond .ne 6, 3) := by decide +kernel
theorem dX6_ringsAt_51 : decode cX6_ringsAt 51 = .ok (.iload 5, 2) := by decide +kernel
theorem dX6_ringsAt_53 : decode cX6_ringsAt 53 = .ok (.ireturn, 1) := by decide +kernel
theorem dX6_ringsAt_54 : decode cX6_ringsAt 54 = .ok (.iinc 4 (-1), 3) := by decide +kernel
theorem dX6_ringsAt_57 : decode cX6_ringsAt 57 = .ok (.iinc 5 1, 3) := by decide +kernel
theorem dX6_ringsAt_60 : decode cX6_ringsAt 60 = .ok (.goto (-32), 3) := by decide +kernel
theorem dX6_ringsAt_63 : decode cX6_ringsAt 63 = .ok (.bipush (-9), 2) := by decide +kernel
theorem dX6_ringsAt_65 : decode cX6_ringsAt 65 = .ok (.ireturn, 1) := by decide +kernel
theorem dX6_peal_0 : decode cX6_peal 0 = .ok (.iload_n 1, 1) := by decide +kernel
theorem dX6_peal_1 : decode cX6_peal 1 = .ok (.ifCond .lt 10, 3) := by decide +kernel
theorem dX6_peal_4 : decode cX6_peal 4 = .ok (.iload_n 1, 1) := by decide +kernel
theorem dX6_peal_5 : decode cX6_peal 5 = .ok (.sipush 400, 3) := by decide +kernel
theorem dX6_peal_8 : decode cX6_peal 8 = .ok (.if_icmp .lt 6, 3) := by decide +kernel
theorem dX6_peal_11 : decode cX6_peal 11 = .ok (.bipush (-2), 2) := by decide +kernel
theorem dX6_peal_13 : decode cX6_peal 13 = .ok (.ireturn, 1) := by decide +kernel
theorem dX6_peal_14 : decode cX6_peal 14 = .ok (.aload_n 0, 1) := by decide +kernel
theorem dX6_peal_15 : decode cX6_peal 15 = .ok (.invokevirtual 135, 3) := by decide +kernel
theorem dX6_peal_18 : decode cX6_peal 18 = .ok (.ifCond .eq 6, 3) := by decide +kernel
theorem dX6_peal_21 : decode cX6_peal 21 = .ok (.bipush (-3), 2) := by decide +kernel
theorem dX6_peal_23 : decode cX6_peal 23 = .ok (.ireturn, 1) := by decide +kernel
theorem dX6_peal_24 : decode cX6_peal 24 = .ok (.aload_n 0, 1) := by decide +kernel
theorem dX6_peal_25 : decode cX6_peal 25 = .ok (.invokevirtual 146, 3) := by decide +kernel
theorem dX6_peal_28 : decode cX6_peal 28 = .ok (.getfield 154, 3) := by decide +kernel
theorem dX6_peal_31 : decode cX6_peal 31 = .ok (.iload_n 1, 1) := by decide +kernel
theorem dX6_peal_32 : decode cX6_peal 32 = .ok (.iaload, 1) := by decide +kernel
theorem dX6_peal_33 : decode cX6_peal 33 = .ok (.ireturn, 1) := by decide +kernel
theorem dX6_stops_0 : decode cX6_stops 0 = .ok (.aload_n 0, 1) := by decide +kernel
theorem dX6_stops_1 : decode cX6_stops 1 = .ok (.invokevirtual 135, 3) := by decide +kernel
theorem dX6_stops_4 : decode cX6_stops 4 = .ok (.ifCond .eq 6, 3) := by decide +kernel
theorem dX6_stops_7 : decode cX6_stops 7 = .ok (.bipush (-3), 2) := by decide +kernel
theorem dX6_stops_9 : decode cX6_stops 9 = .ok (.ireturn, 1) := by decide +kernel
theorem dX6_stops_10 : decode cX6_stops 10 = .ok (.aload_n 0, 1) := by decide +kernel
theorem dX6_stops_11 : decode cX6_stops 11 = .ok (.invokevirtual 146, 3) := by decide +kernel
theorem dX6_stops_14 : decode cX6_stops 14 = .ok (.invokevirtual 157, 3) := by decide +kernel
theorem dX6_stops_17 : decode cX6_stops 17 = .ok (.ireturn, 1) := by decide +kernel
theorem dX6_fewest_0 : decode cX6_fewest 0 = .ok (.iload_n 1, 1) := by decide +kernel
theorem dX6_fewest_1 : decode cX6_fewest 1 = .ok (.aload_n 0, 1) := by decide +kernel
theorem dX6_fewest_2 : decode cX6_fewest 2 = .ok (.getfield 12, 3) := by decide +kernel
theorem dX6_fewest_5 : decode cX6_fewest 5 = .ok (.invokevirtual 161, 3) := by decide +kernel
theorem dX6_fewest_8 : decode cX6_fewest 8 = .ok (.iconst (-1), 1) := by decide +kernel
theorem dX6_fewest_9 : decode cX6_fewest 9 = .ok (.ixor, 1) := by decide +kernel
theorem dX6_fewest_10 : decode cX6_fewest 10 = .ok (.iand, 1) := by decide +kernel
theorem dX6_fewest_11 : decode cX6_fewest 11 = .ok (.ifCond .eq 6, 3) := by decide +kernel
theorem dX6_fewest_14 : decode cX6_fewest 14 = .ok (.bipush (-2), 2) := by decide +kernel
theorem dX6_fewest_16 : decode cX6_fewest 16 = .ok (.ireturn, 1) := by decide +kernel
theorem dX6_fewest_17 : decode cX6_fewest 17 = .ok (.aload_n 0, 1) := by decide +kernel
theorem dX6_fewest_18 : decode cX6_fewest 18 = .ok (.invokevirtual 135, 3) := by decide +kernel
theorem dX6_fewest_21 : decode cX6_fewest 21 = .ok (.ifCond .eq 6, 3) := by decide +kernel
theorem dX6_fewest_24 : decode cX6_fewest 24 = .ok (.bipush (-3), 2) := by decide +kernel
theorem dX6_fewest_26 : decode cX6_fewest 26 = .ok (.ireturn, 1) := by decide +kernel
theorem dX6_fewest_27 : decode cX6_fewest 27 = .ok (.bipush (-9), 2) := by decide +kernel
theorem dX6_fewest_29 : decode cX6_fewest 29 = .ok (.istore_n 2, 1) := by decide +kernel
theorem dX6_fewest_30 : decode cX6_fewest 30 = .ok (.iconst 0, 1) := by decide +kernel
theorem dX6_fewest_31 : decode cX6_fewest 31 = .ok (.istore_n 3, 1) := by decide +kernel
theorem dX6_fewest_32 : decode cX6_fewest 32 = .ok (.iload_n 3, 1) := by decide +kernel
theorem dX6_fewest_33 : decode cX6_fewest 33 = .ok (.aload_n 0, 1) := by decide +kernel
theorem dX6_fewest_34 : decode cX6_fewest 34 = .ok (.getfield 12, 3) := by decide +kernel
theorem dX6_fewest_37 : decode cX6_fewest 37 = .ok (.invokevirtual 161, 3) := by decide +kernel
theorem dX6_fewest_40 : decode cX6_fewest 40 = .ok (.if_icmp .gt 31, 3) := by decide +kernel
theorem dX6_fewest_43 : decode cX6_fewest 43 = .ok (.iload_n 3, 1) := by decide +kernel
theorem dX6_fewest_44 : decode cX6_fewest 44 = .ok (.iload_n 2, 1) := by decide +kernel
theorem dX6_fewest_45 : decode cX6_fewest 45 = .ok (.invokestatic 164, 3) := by decide +kernel
theorem dX6_fewest_48 : decode cX6_fewest 48 = .ok (.ifCond .eq 17, 3) := by decide +kernel
theorem dX6_fewest_51 : decode cX6_fewest 51 = .ok (.iload_n 1, 1) := by decide +kernel
theorem dX6_fewest_52 : decode cX6_fewest 52 = .ok (.aload_n 0, 1) := by decide +kernel
theorem dX6_fewest_53 : decode cX6_fewest 53 = .ok (.iload_n 3, 1) := by decide +kernel
theorem dX6_fewest_54 : decode cX6_fewest 54 = .ok (.invokevirtual 167, 3) := by decide +kernel
theorem dX6_fewest_57 : decode cX6_fewest 57 = .ok (.iconst (-1), 1) := by decide +kernel
theorem dX6_fewest_58 : decode cX6_fewest 58 = .ok (.ixor, 1) := by decide +kernel
theorem dX6_fewest_59 : decode cX6_fewest 59 = .ok (.iand, 1) := by decide +kernel
theorem dX6_fewest_60 : decode cX6_fewest 60 = .ok (.ifCond .ne 5, 3) := by decide +kernel
theorem dX6_fewest_63 : decode cX6_fewest 63 = .ok (.iload_n 3, 1) := by decide +kernel
theorem dX6_fewest_64 : decode cX6_fewest 64 = .ok (.istore_n 2, 1) := by decide +kernel
theorem dX6_fewest_65 : decode cX6_fewest 65 = .ok (.iinc 3 1, 3) := by decide +kernel
theorem dX6_fewest_68 : decode cX6_fewest 68 = .ok (.goto (-36), 3) := by decide +kernel
theorem dX6_fewest_71 : decode cX6_fewest 71 = .ok (.iload_n 2, 1) := by decide +kernel
theorem dX6_fewest_72 : decode cX6_fewest 72 = .ok (.ireturn, 1) := by decide +kernel
theorem dX6_still_0 : decode cX6_still 0 = .ok (.iload_n 1, 1) := by decide +kernel
theorem dX6_still_1 : decode cX6_still 1 = .ok (.ifCond .lt 10, 3) := by decide +kernel
theorem dX6_still_4 : decode cX6_still 4 = .ok (.iload_n 1, 1) := by decide +kernel
theorem dX6_still_5 : decode cX6_still 5 = .ok (.sipush 399, 3) := by decide +kernel
theorem dX6_still_8 : decode cX6_still 8 = .ok (.if_icmp .lt 6, 3) := by decide +kernel
theorem dX6_still_11 : decode cX6_still 11 = .ok (.bipush (-2), 2) := by decide +kernel
theorem dX6_still_13 : decode cX6_still 13 = .ok (.ireturn, 1) := by decide +kernel
theorem dX6_still_14 : decode cX6_still 14 = .ok (.aload_n 0, 1) := by decide +kernel
theorem dX6_still_15 : decode cX6_still 15 = .ok (.invokevirtual 135, 3) := by decide +kernel
theorem dX6_still_18 : decode cX6_still 18 = .ok (.ifCond .eq 6, 3) := by decide +kernel
theorem dX6_still_21 : decode cX6_still 21 = .ok (.bipush (-3), 2) := by decide +kernel
theorem dX6_still_23 : decode cX6_still 23 = .ok (.ireturn, 1) := by decide +kernel
theorem dX6_still_24 : decode cX6_still 24 = .ok (.bipush (-9), 2) := by decide +kernel
theorem dX6_still_26 : decode cX6_still 26 = .ok (.istore_n 2, 1) := by decide +kernel
theorem dX6_still_27 : decode cX6_still 27 = .ok (.iconst 0, 1) := by decide +kernel
theorem dX6_still_28 : decode cX6_still 28 = .ok (.istore_n 3, 1) := by decide +kernel
theorem dX6_still_29 : decode cX6_still 29 = .ok (.iload_n 3, 1) := by decide +kernel
theorem dX6_still_30 : decode cX6_still 30 = .ok (.aload_n 0, 1) := by decide +kernel
theorem dX6_still_31 : decode cX6_still 31 = .ok (.getfield 12, 3) := by decide +kernel
theorem dX6_still_34 : decode cX6_still 34 = .ok (.invokevirtual 161, 3) := by decide +kernel
theorem dX6_still_37 : decode cX6_still 37 = .ok (.if_icmp .gt 28, 3) := by decide +kernel
theorem dX6_still_40 : decode cX6_still 40 = .ok (.iload_n 3, 1) := by decide +kernel
theorem dX6_still_41 : decode cX6_still 41 = .ok (.iload_n 2, 1) := by decide +kernel
theorem dX6_still_42 : decode cX6_still 42 = .ok (.invokestatic 164, 3) := by decide +kernel
theorem dX6_still_45 : decode cX6_still 45 = .ok (.ifCond .eq 14, 3) := by decide +kernel
theorem dX6_still_48 : decode cX6_still 48 = .ok (.aload_n 0, 1) := by decide +kernel
theorem dX6_still_49 : decode cX6_still 49 = .ok (.iload_n 3, 1) := by decide +kernel
theorem dX6_still_50 : decode cX6_still 50 = .ok (.invokevirtual 170, 3) := by decide +kernel
theorem dX6_still_53 : decode cX6_still 53 = .ok (.iload_n 1, 1) := by decide +kernel
theorem dX6_still_54 : decode cX6_still 54 = .ok (.if_icmp .gt 5, 3) := by decide +kernel
theorem dX6_still_57 : decode cX6_still 57 = .ok (.iload_n 3, 1) := by decide +kernel
theorem dX6_still_58 : decode cX6_still 58 = .ok (.istore_n 2, 1) := by decide +kernel
theorem dX6_still_59 : decode cX6_still 59 = .ok (.iinc 3 1, 3) := by decide +kernel
theorem dX6_still_62 : decode cX6_still 62 = .ok (.goto (-33), 3) := by decide +kernel
theorem dX6_still_65 : decode cX6_still 65 = .ok (.iload_n 2, 1) := by decide +kernel
theorem dX6_still_66 : decode cX6_still 66 = .ok (.ireturn, 1) := by decide +kernel
theorem dX6_hung_0 : decode cX6_hung 0 = .ok (.iload_n 1, 1) := by decide +kernel
theorem dX6_hung_1 : decode cX6_hung 1 = .ok (.ifCond .lt 8, 3) := by decide +kernel
theorem dX6_hung_4 : decode cX6_hung 4 = .ok (.iload_n 1, 1) := by decide +kernel
theorem dX6_hung_5 : decode cX6_hung 5 = .ok (.iconst 1, 1) := by decide +kernel
theorem dX6_hung_6 : decode cX6_hung 6 = .ok (.if_icmp .le 6, 3) := by decide +kernel
theorem dX6_hung_9 : decode cX6_hung 9 = .ok (.bipush (-2), 2) := by decide +kernel
theorem dX6_hung_11 : decode cX6_hung 11 = .ok (.ireturn, 1) := by decide +kernel
theorem dX6_hung_12 : decode cX6_hung 12 = .ok (.aload_n 0, 1) := by decide +kernel
theorem dX6_hung_13 : decode cX6_hung 13 = .ok (.invokevirtual 135, 3) := by decide +kernel
theorem dX6_hung_16 : decode cX6_hung 16 = .ok (.ifCond .eq 6, 3) := by decide +kernel
theorem dX6_hung_19 : decode cX6_hung 19 = .ok (.bipush (-3), 2) := by decide +kernel
theorem dX6_hung_21 : decode cX6_hung 21 = .ok (.ireturn, 1) := by decide +kernel
theorem dX6_hung_22 : decode cX6_hung 22 = .ok (.aload_n 0, 1) := by decide +kernel
theorem dX6_hung_23 : decode cX6_hung 23 = .ok (.invokevirtual 146, 3) := by decide +kernel
theorem dX6_hung_26 : decode cX6_hung 26 = .ok (.bipush 100, 2) := by decide +kernel
theorem dX6_hung_28 : decode cX6_hung 28 = .ok (.invokevirtual 173, 3) := by decide +kernel
theorem dX6_hung_31 : decode cX6_hung 31 = .ok (.istore_n 2, 1) := by decide +kernel
theorem dX6_hung_32 : decode cX6_hung 32 = .ok (.iload_n 2, 1) := by decide +kernel
theorem dX6_hung_33 : decode cX6_hung 33 = .ok (.invokestatic 176, 3) := by decide +kernel
theorem dX6_hung_36 : decode cX6_hung 36 = .ok (.istore_n 3, 1) := by decide +kernel
theorem dX6_hung_37 : decode cX6_hung 37 = .ok (.bipush (-9), 2) := by decide +kernel
theorem dX6_hung_39 : decode cX6_hung 39 = .ok (.istore 4, 2) := by decide +kernel
theorem dX6_hung_41 : decode cX6_hung 41 = .ok (.iconst 0, 1) := by decide +kernel
theorem dX6_hung_42 : decode cX6_hung 42 = .ok (.istore 5, 2) := by decide +kernel
theorem dX6_hung_44 : decode cX6_hung 44 = .ok (.iload 5, 2) := by decide +kernel
theorem dX6_hung_46 : decode cX6_hung 46 = .ok (.aload_n 0, 1) := by decide +kernel
theorem dX6_hung_47 : decode cX6_hung 47 = .ok (.getfield 12, 3) := by decide +kernel
theorem dX6_hung_50 : decode cX6_hung 50 = .ok (.getfield 102, 3) := by decide +kernel
theorem dX6_hung_53 : decode cX6_hung 53 = .ok (.if_icmp .ge 94, 3) := by decide +kernel
theorem dX6_hung_56 : decode cX6_hung 56 = .ok (.iload_n 2, 1) := by decide +kernel
theorem dX6_hung_57 : decode cX6_hung 57 = .ok (.iload 5, 2) := by decide +kernel
theorem dX6_hung_59 : decode cX6_hung 59 = .ok (.ishr, 1) := by decide +kernel
theorem dX6_hung_60 : decode cX6_hung 60 = .ok (.iconst 1, 1) := by decide +kernel
theorem dX6_hung_61 : decode cX6_hung 61 = .ok (.iand, 1) := by decide +kernel
theorem dX6_hung_62 : decode cX6_hung 62 = .ok (.ifCond .ne 6, 3) := by decide +kernel
theorem dX6_hung_65 : decode cX6_hung 65 = .ok (.goto 76, 3) := by decide +kernel
theorem dX6_hung_68 : decode cX6_hung 68 = .ok (.iconst 0, 1) := by decide +kernel
theorem dX6_hung_69 : decode cX6_hung 69 = .ok (.istore 6, 2) := by decide +kernel
theorem dX6_hung_71 : decode cX6_hung 71 = .ok (.iload 6, 2) := by decide +kernel
theorem dX6_hung_73 : decode cX6_hung 73 = .ok (.aload_n 0, 1) := by decide +kernel
theorem dX6_hung_74 : decode cX6_hung 74 = .ok (.getfield 12, 3) := by decide +kernel
theorem dX6_hung_77 : decode cX6_hung 77 = .ok (.getfield 102, 3) := by decide +kernel
theorem dX6_hung_80 : decode cX6_hung 80 = .ok (.if_icmp .ge 61, 3) := by decide +kernel
theorem dX6_hung_83 : decode cX6_hung 83 = .ok (.iconst 1, 1) := by decide +kernel
theorem dX6_hung_84 : decode cX6_hung 84 = .ok (.istore 7, 2) := by decide +kernel
theorem dX6_hung_86 : decode cX6_hung 86 = .ok (.iload 7, 2) := by decide +kernel
theorem dX6_hung_88 : decode cX6_hung 88 = .ok (.iconst 3, 1) := by decide +kernel
theorem dX6_hung_89 : decode cX6_hung 89 = .ok (.if_icmp .gt 46, 3) := by decide +kernel
theorem dX6_hung_92 : decode cX6_hung 92 = .ok (.aload_n 0, 1) := by decide +kernel
theorem dX6_hung_93 : decode cX6_hung 93 = .ok (.iload 5, 2) := by decide +kernel
theorem dX6_hung_95 : decode cX6_hung 95 = .ok (.iload 6, 2) := by decide +kernel
theorem dX6_hung_97 : decode cX6_hung 97 = .ok (.iload 7, 2) := by decide +kernel
theorem dX6_hung_99 : decode cX6_hung 99 = .ok (.invokevirtual 181, 3) := by decide +kernel
theorem dX6_hung_102 : decode cX6_hung 102 = .ok (.istore 8, 2) := by decide +kernel
theorem dX6_hung_104 : decode cX6_hung 104 = .ok (.iload 8, 2) := by decide +kernel
theorem dX6_hung_106 : decode cX6_hung 106 = .ok (.iload_n 3, 1) := by decide +kernel
theorem dX6_hung_107 : decode cX6_hung 107 = .ok (.if_icmp .le 22, 3) := by decide +kernel
theorem dX6_hung_110 : decode cX6_hung 110 = .ok (.iload 8, 2) := by decide +kernel
theorem dX6_hung_112 : decode cX6_hung 112 = .ok (.istore_n 3, 1) := by decide +kernel
theorem dX6_hung_113 : decode cX6_hung 113 = .ok (.bipush 100, 2) := by decide +kernel
theorem dX6_hung_115 : decode cX6_hung 115 = .ok (.iload 5, 2) := by decide +kernel
theorem dX6_hung_117 : decode cX6_hung 117 = .ok (.imul, 1) := by decide +kernel
theorem dX6_hung_118 : decode cX6_hung 118 = .ok (.bipush 10, 2) := by decide +kernel
theorem dX6_hung_120 : decode cX6_hung 120 = .ok (.iload 6, 2) := by decide +kernel
theorem dX6_hung_122 : decode cX6_hung 122 = .ok (.imul, 1) := by decide +kernel
theorem dX6_hung_123 : decode cX6_hung 123 = .ok (.iadd, 1) := by decide +kernel
theorem dX6_hung_124 : decode cX6_hung 124 = .ok (.iload 7, 2) := by decide +kernel
theorem dX6_hung_126 : decode cX6_hung 126 = .ok (.iadd, 1) := by decide +kernel
theorem dX6_hung_127 : decode cX6_hung 127 = .ok (.istore 4, 2) := by decide +kernel
theorem dX6_hung_129 : decode cX6_hung 129 = .ok (.iinc 7 1, 3) := by decide +kernel
theorem dX6_hung_132 : decode cX6_hung 132 = .ok (.goto (-46), 3) := by decide +kernel
theorem dX6_hung_135 : decode cX6_hung 135 = .ok (.iinc 6 1, 3) := by decide +kernel
theorem dX6_hung_138 : decode cX6_hung 138 = .ok (.goto (-67), 3) := by decide +kernel
theorem dX6_hung_141 : decode cX6_hung 141 = .ok (.iinc 5 1, 3) := by decide +kernel
theorem dX6_hung_144 : decode cX6_hung 144 = .ok (.goto (-100), 3) := by decide +kernel
theorem dX6_hung_147 : decode cX6_hung 147 = .ok (.iload_n 1, 1) := by decide +kernel
theorem dX6_hung_148 : decode cX6_hung 148 = .ok (.ifCond .ne 8, 3) := by decide +kernel
theorem dX6_hung_151 : decode cX6_hung 151 = .ok (.iload 4, 2) := by decide +kernel
theorem dX6_hung_153 : decode cX6_hung 153 = .ok (.goto 4, 3) := by decide +kernel
theorem dX6_hung_156 : decode cX6_hung 156 = .ok (.iload_n 3, 1) := by decide +kernel
theorem dX6_hung_157 : decode cX6_hung 157 = .ok (.ireturn, 1) := by decide +kernel
theorem dX6_cut_0 : decode cX6_cut 0 = .ok (.aload_n 0, 1) := by decide +kernel
theorem dX6_cut_1 : decode cX6_cut 1 = .ok (.invokevirtual 135, 3) := by decide +kernel
theorem dX6_cut_4 : decode cX6_cut 4 = .ok (.ifCond .eq 6, 3) := by decide +kernel
theorem dX6_cut_7 : decode cX6_cut 7 = .ok (.bipush (-3), 2) := by decide +kernel
theorem dX6_cut_9 : decode cX6_cut 9 = .ok (.ireturn, 1) := by decide +kernel
theorem dX6_cut_10 : decode cX6_cut 10 = .ok (.aload_n 0, 1) := by decide +kernel
theorem dX6_cut_11 : decode cX6_cut 11 = .ok (.invokevirtual 146, 3) := by decide +kernel
theorem dX6_cut_14 : decode cX6_cut 14 = .ok (.bipush 100, 2) := by decide +kernel
theorem dX6_cut_16 : decode cX6_cut 16 = .ok (.invokevirtual 173, 3) := by decide +kernel
theorem dX6_cut_19 : decode cX6_cut 19 = .ok (.invokestatic 176, 3) := by decide +kernel
theorem dX6_cut_22 : decode cX6_cut 22 = .ok (.istore_n 1, 1) := by decide +kernel
theorem dX6_cut_23 : decode cX6_cut 23 = .ok (.iconst 0, 1) := by decide +kernel
theorem dX6_cut_24 : decode cX6_cut 24 = .ok (.istore_n 2, 1) := by decide +kernel
theorem dX6_cut_25 : decode cX6_cut 25 = .ok (.iconst 0, 1) := by decide +kernel
theorem dX6_cut_26 : decode cX6_cut 26 = .ok (.istore_n 3, 1) := by decide +kernel
theorem dX6_cut_27 : decode cX6_cut 27 = .ok (.iload_n 3, 1) := by decide +kernel
theorem dX6_cut_28 : decode cX6_cut 28 = .ok (.aload_n 0, 1) := by decide +kernel
theorem dX6_cut_29 : decode cX6_cut 29 = .ok (.getfield 12, 3) := by decide +kernel
theorem dX6_cut_32 : decode cX6_cut 32 = .ok (.getfield 120, 3) := by decide +kernel
theorem dX6_cut_35 : decode cX6_cut 35 = .ok (.if_icmp .ge 38, 3) := by decide +kernel
theorem dX6_cut_38 : decode cX6_cut 38 = .ok (.aload_n 0, 1) := by decide +kernel
theorem dX6_cut_39 : decode cX6_cut 39 = .ok (.iload_n 3, 1) := by decide +kernel
theorem dX6_cut_40 : decode cX6_cut 40 = .ok (.bipush 100, 2) := by decide +kernel
theorem dX6_cut_42 : decode cX6_cut 42 = .ok (.invokevirtual 184, 3) := by decide +kernel
theorem dX6_cut_45 : decode cX6_cut 45 = .ok (.aload_n 0, 1) := by decide +kernel
theorem dX6_cut_46 : decode cX6_cut 46 = .ok (.getfield 51, 3) := by decide +kernel
theorem dX6_cut_49 : decode cX6_cut 49 = .ok (.bipush 100, 2) := by decide +kernel
theorem dX6_cut_51 : decode cX6_cut 51 = .ok (.invokevirtual 173, 3) := by decide +kernel
theorem dX6_cut_54 : decode cX6_cut 54 = .ok (.invokestatic 176, 3) := by decide +kernel
theorem dX6_cut_57 : decode cX6_cut 57 = .ok (.iload_n 1, 1) := by decide +kernel
theorem dX6_cut_58 : decode cX6_cut 58 = .ok (.if_icmp .ge 9, 3) := by decide +kernel
theorem dX6_cut_61 : decode cX6_cut 61 = .ok (.iload_n 2, 1) := by decide +kernel
theorem dX6_cut_62 : decode cX6_cut 62 = .ok (.iconst 1, 1) := by decide +kernel
theorem dX6_cut_63 : decode cX6_cut 63 = .ok (.iload_n 3, 1) := by decide +kernel
theorem dX6_cut_64 : decode cX6_cut 64 = .ok (.ishl, 1) := by decide +kernel
theorem dX6_cut_65 : decode cX6_cut 65 = .ok (.ior, 1) := by decide +kernel
theorem dX6_cut_66 : decode cX6_cut 66 = .ok (.istore_n 2, 1) := by decide +kernel
theorem dX6_cut_67 : decode cX6_cut 67 = .ok (.iinc 3 1, 3) := by decide +kernel
theorem dX6_cut_70 : decode cX6_cut 70 = .ok (.goto (-43), 3) := by decide +kernel
theorem dX6_cut_73 : decode cX6_cut 73 = .ok (.iload_n 2, 1) := by decide +kernel
theorem dX6_cut_74 : decode cX6_cut 74 = .ok (.ireturn, 1) := by decide +kernel
theorem dX6_reading_0 : decode cX6_reading 0 = .ok (.aload_n 0, 1) := by decide +kernel
theorem dX6_reading_1 : decode cX6_reading 1 = .ok (.getfield 12, 3) := by decide +kernel
theorem dX6_reading_4 : decode cX6_reading 4 = .ok (.iload_n 1, 1) := by decide +kernel
theorem dX6_reading_5 : decode cX6_reading 5 = .ok (.invokevirtual 105, 3) := by decide +kernel
theorem dX6_reading_8 : decode cX6_reading 8 = .ok (.ifCond .ne 5, 3) := by decide +kernel
theorem dX6_reading_11 : decode cX6_reading 11 = .ok (.iconst (-1), 1) := by decide +kernel
theorem dX6_reading_12 : decode cX6_reading 12 = .ok (.ireturn, 1) := by decide +kernel
theorem dX6_reading_13 : decode cX6_reading 13 = .ok (.iload_n 2, 1) := by decide +kernel
theorem dX6_reading_14 : decode cX6_reading 14 = .ok (.ifCond .lt 10, 3) := by decide +kernel
theorem dX6_reading_17 : decode cX6_reading 17 = .ok (.iload_n 2, 1) := by decide +kernel
theorem dX6_reading_18 : decode cX6_reading 18 = .ok (.sipush 400, 3) := by decide +kernel
theorem dX6_reading_21 : decode cX6_reading 21 = .ok (.if_icmp .lt 6, 3) := by decide +kernel
theorem dX6_reading_24 : decode cX6_reading 24 = .ok (.bipush (-2), 2) := by decide +kernel
theorem dX6_reading_26 : decode cX6_reading 26 = .ok (.ireturn, 1) := by decide +kernel
theorem dX6_reading_27 : decode cX6_reading 27 = .ok (.aload_n 0, 1) := by decide +kernel
theorem dX6_reading_28 : decode cX6_reading 28 = .ok (.getfield 38, 3) := by decide +kernel
theorem dX6_reading_31 : decode cX6_reading 31 = .ok (.getfield 97, 3) := by decide +kernel
theorem dX6_reading_34 : decode cX6_reading 34 = .ok (.bipush 6, 2) := by decide +kernel
theorem dX6_reading_36 : decode cX6_reading 36 = .ok (.if_icmp .lt 6, 3) := by decide +kernel
theorem dX6_reading_39 : decode cX6_reading 39 = .ok (.bipush (-4), 2) := by decide +kernel
theorem dX6_reading_41 : decode cX6_reading 41 = .ok (.ireturn, 1) := by decide +kernel
theorem dX6_reading_42 : decode cX6_reading 42 = .ok (.aload_n 0, 1) := by decide +kernel
theorem dX6_reading_43 : decode cX6_reading 43 = .ok (.getfield 38, 3) := by decide +kernel
theorem dX6_reading_46 : decode cX6_reading 46 = .ok (.iload_n 1, 1) := by decide +kernel
theorem dX6_reading_47 : decode cX6_reading 47 = .ok (.iload_n 2, 1) := by decide +kernel
theorem dX6_reading_48 : decode cX6_reading 48 = .ok (.iload_n 3, 1) := by decide +kernel
theorem dX6_reading_49 : decode cX6_reading 49 = .ok (.invokevirtual 188, 3) := by decide +kernel
theorem dX6_reading_52 : decode cX6_reading 52 = .ok (.aload_n 0, 1) := by decide +kernel
theorem dX6_reading_53 : decode cX6_reading 53 = .ok (.getfield 38, 3) := by decide +kernel
theorem dX6_reading_56 : decode cX6_reading 56 = .ok (.getfield 97, 3) := by decide +kernel
theorem dX6_reading_59 : decode cX6_reading 59 = .ok (.iconst 1, 1) := by decide +kernel
theorem dX6_reading_60 : decode cX6_reading 60 = .ok (.isub, 1) := by decide +kernel
theorem dX6_reading_61 : decode cX6_reading 61 = .ok (.ireturn, 1) := by decide +kernel
theorem dX6_back_0 : decode cX6_back 0 = .ok (.iload_n 1, 1) := by decide +kernel
theorem dX6_back_1 : decode cX6_back 1 = .ok (.ifCond .lt 14, 3) := by decide +kernel
theorem dX6_back_4 : decode cX6_back 4 = .ok (.iload_n 1, 1) := by decide +kernel
theorem dX6_back_5 : decode cX6_back 5 = .ok (.aload_n 0, 1) := by decide +kernel
theorem dX6_back_6 : decode cX6_back 6 = .ok (.getfield 38, 3) := by decide +kernel
theorem dX6_back_9 : decode cX6_back 9 = .ok (.getfield 97, 3) := by decide +kernel
theorem dX6_back_12 : decode cX6_back 12 = .ok (.if_icmp .le 6, 3) := by decide +kernel
theorem dX6_back_15 : decode cX6_back 15 = .ok (.bipush (-2), 2) := by decide +kernel
theorem dX6_back_17 : decode cX6_back 17 = .ok (.ireturn, 1) := by decide +kernel
theorem dX6_back_18 : decode cX6_back 18 = .ok (.aload_n 0, 1) := by decide +kernel
theorem dX6_back_19 : decode cX6_back 19 = .ok (.getfield 38, 3) := by decide +kernel
theorem dX6_back_22 : decode cX6_back 22 = .ok (.dup, 1) := by decide +kernel
theorem dX6_back_23 : decode cX6_back 23 = .ok (.getfield 97, 3) := by decide +kernel
theorem dX6_back_26 : decode cX6_back 26 = .ok (.iload_n 1, 1) := by decide +kernel
theorem dX6_back_27 : decode cX6_back 27 = .ok (.isub, 1) := by decide +kernel
theorem dX6_back_28 : decode cX6_back 28 = .ok (.putfield 97, 3) := by decide +kernel
theorem dX6_back_31 : decode cX6_back 31 = .ok (.aload_n 0, 1) := by decide +kernel
theorem dX6_back_32 : decode cX6_back 32 = .ok (.getfield 38, 3) := by decide +kernel
theorem dX6_back_35 : decode cX6_back 35 = .ok (.getfield 97, 3) := by decide +kernel
theorem dX6_back_38 : decode cX6_back 38 = .ok (.ireturn, 1) := by decide +kernel
theorem dX6_first_0 : decode cX6_first 0 = .ok (.aload_n 0, 1) := by decide +kernel
theorem dX6_first_1 : decode cX6_first 1 = .ok (.invokevirtual 135, 3) := by decide +kernel
theorem dX6_first_4 : decode cX6_first 4 = .ok (.ifCond .eq 6, 3) := by decide +kernel
theorem dX6_first_7 : decode cX6_first 7 = .ok (.bipush (-3), 2) := by decide +kernel
theorem dX6_first_9 : decode cX6_first 9 = .ok (.ireturn, 1) := by decide +kernel
theorem dX6_first_10 : decode cX6_first 10 = .ok (.iconst 0, 1) := by decide +kernel
theorem dX6_first_11 : decode cX6_first 11 = .ok (.istore_n 1, 1) := by decide +kernel
theorem dX6_first_12 : decode cX6_first 12 = .ok (.iconst 0, 1) := by decide +kernel
theorem dX6_first_13 : decode cX6_first 13 = .ok (.istore_n 2, 1) := by decide +kernel
theorem dX6_first_14 : decode cX6_first 14 = .ok (.iload_n 2, 1) := by decide +kernel
theorem dX6_first_15 : decode cX6_first 15 = .ok (.aload_n 0, 1) := by decide +kernel
theorem dX6_first_16 : decode cX6_first 16 = .ok (.getfield 12, 3) := by decide +kernel
theorem dX6_first_19 : decode cX6_first 19 = .ok (.getfield 102, 3) := by decide +kernel
theorem dX6_first_22 : decode cX6_first 22 = .ok (.if_icmp .ge 39, 3) := by decide +kernel
theorem dX6_first_25 : decode cX6_first 25 = .ok (.aload_n 0, 1) := by decide +kernel
theorem dX6_first_26 : decode cX6_first 26 = .ok (.iconst 1, 1) := by decide +kernel
theorem dX6_first_27 : decode cX6_first 27 = .ok (.iload_n 2, 1) := by decide +kernel
theorem dX6_first_28 : decode cX6_first 28 = .ok (.ishl, 1) := by decide +kernel
theorem dX6_first_29 : decode cX6_first 29 = .ok (.sipush 400, 3) := by decide +kernel
theorem dX6_first_32 : decode cX6_first 32 = .ok (.invokevirtual 191, 3) := by decide +kernel
theorem dX6_first_35 : decode cX6_first 35 = .ok (.aload_n 0, 1) := by decide +kernel
theorem dX6_first_36 : decode cX6_first 36 = .ok (.getfield 38, 3) := by decide +kernel
theorem dX6_first_39 : decode cX6_first 39 = .ok (.aload_n 0, 1) := by decide +kernel
theorem dX6_first_40 : decode cX6_first 40 = .ok (.getfield 51, 3) := by decide +kernel
theorem dX6_first_43 : decode cX6_first 43 = .ok (.invokevirtual 194, 3) := by decide +kernel
theorem dX6_first_46 : decode cX6_first 46 = .ok (.ifCond .eq 9, 3) := by decide +kernel
theorem dX6_first_49 : decode cX6_first 49 = .ok (.iload_n 1, 1) := by decide +kernel
theorem dX6_first_50 : decode cX6_first 50 = .ok (.iconst 1, 1) := by decide +kernel
theorem dX6_first_51 : decode cX6_first 51 = .ok (.iload_n 2, 1) := by decide +kernel
theorem dX6_first_52 : decode cX6_first 52 = .ok (.ishl, 1) := by decide +kernel
theorem dX6_first_53 : decode cX6_first 53 = .ok (.ior, 1) := by decide +kernel
theorem dX6_first_54 : decode cX6_first 54 = .ok (.istore_n 1, 1) := by decide +kernel
theorem dX6_first_55 : decode cX6_first 55 = .ok (.iinc 2 1, 3) := by decide +kernel
theorem dX6_first_58 : decode cX6_first 58 = .ok (.goto (-44), 3) := by decide +kernel
theorem dX6_first_61 : decode cX6_first 61 = .ok (.iload_n 1, 1) := by decide +kernel
theorem dX6_first_62 : decode cX6_first 62 = .ok (.ireturn, 1) := by decide +kernel
theorem dX6_gone_0 : decode cX6_gone 0 = .ok (.aload_n 0, 1) := by decide +kernel
theorem dX6_gone_1 : decode cX6_gone 1 = .ok (.invokevirtual 135, 3) := by decide +kernel
theorem dX6_gone_4 : decode cX6_gone 4 = .ok (.ifCond .eq 6, 3) := by decide +kernel
theorem dX6_gone_7 : decode cX6_gone 7 = .ok (.bipush (-3), 2) := by decide +kernel
theorem dX6_gone_9 : decode cX6_gone 9 = .ok (.ireturn, 1) := by decide +kernel
theorem dX6_gone_10 : decode cX6_gone 10 = .ok (.iconst 0, 1) := by decide +kernel
theorem dX6_gone_11 : decode cX6_gone 11 = .ok (.istore_n 1, 1) := by decide +kernel
theorem dX6_gone_12 : decode cX6_gone 12 = .ok (.iconst 0, 1) := by decide +kernel
theorem dX6_gone_13 : decode cX6_gone 13 = .ok (.istore_n 2, 1) := by decide +kernel
theorem dX6_gone_14 : decode cX6_gone 14 = .ok (.iload_n 2, 1) := by decide +kernel
theorem dX6_gone_15 : decode cX6_gone 15 = .ok (.aload_n 0, 1) := by decide +kernel
theorem dX6_gone_16 : decode cX6_gone 16 = .ok (.getfield 12, 3) := by decide +kernel
theorem dX6_gone_19 : decode cX6_gone 19 = .ok (.getfield 120, 3) := by decide +kernel
theorem dX6_gone_22 : decode cX6_gone 22 = .ok (.if_icmp .ge 37, 3) := by decide +kernel
theorem dX6_gone_25 : decode cX6_gone 25 = .ok (.aload_n 0, 1) := by decide +kernel
theorem dX6_gone_26 : decode cX6_gone 26 = .ok (.iload_n 2, 1) := by decide +kernel
theorem dX6_gone_27 : decode cX6_gone 27 = .ok (.sipush 400, 3) := by decide +kernel
theorem dX6_gone_30 : decode cX6_gone 30 = .ok (.invokevirtual 184, 3) := by decide +kernel
theorem dX6_gone_33 : decode cX6_gone 33 = .ok (.aload_n 0, 1) := by decide +kernel
theorem dX6_gone_34 : decode cX6_gone 34 = .ok (.getfield 38, 3) := by decide +kernel
theorem dX6_gone_37 : decode cX6_gone 37 = .ok (.aload_n 0, 1) := by decide +kernel
theorem dX6_gone_38 : decode cX6_gone 38 = .ok (.getfield 51, 3) := by decide +kernel
theorem dX6_gone_41 : decode cX6_gone 41 = .ok (.invokevirtual 194, 3) := by decide +kernel
theorem dX6_gone_44 : decode cX6_gone 44 = .ok (.ifCond .eq 9, 3) := by decide +kernel
theorem dX6_gone_47 : decode cX6_gone 47 = .ok (.iload_n 1, 1) := by decide +kernel
theorem dX6_gone_48 : decode cX6_gone 48 = .ok (.iconst 1, 1) := by decide +kernel
theorem dX6_gone_49 : decode cX6_gone 49 = .ok (.iload_n 2, 1) := by decide +kernel
theorem dX6_gone_50 : decode cX6_gone 50 = .ok (.ishl, 1) := by decide +kernel
theorem dX6_gone_51 : decode cX6_gone 51 = .ok (.ior, 1) := by decide +kernel
theorem dX6_gone_52 : decode cX6_gone 52 = .ok (.istore_n 1, 1) := by decide +kernel
theorem dX6_gone_53 : decode cX6_gone 53 = .ok (.iinc 2 1, 3) := by decide +kernel
theorem dX6_gone_56 : decode cX6_gone 56 = .ok (.goto (-42), 3) := by decide +kernel
theorem dX6_gone_59 : decode cX6_gone 59 = .ok (.iload_n 1, 1) := by decide +kernel
theorem dX6_gone_60 : decode cX6_gone 60 = .ok (.ireturn, 1) := by decide +kernel
theorem dX6_sneezes_0 : decode cX6_sneezes 0 = .ok (.iload_n 1, 1) := by decide +kernel
theorem dX6_sneezes_1 : decode cX6_sneezes 1 = .ok (.ifCond .lt 15, 3) := by decide +kernel
theorem dX6_sneezes_4 : decode cX6_sneezes 4 = .ok (.iload_n 1, 1) := by decide +kernel
theorem dX6_sneezes_5 : decode cX6_sneezes 5 = .ok (.iconst 1, 1) := by decide +kernel
theorem dX6_sneezes_6 : decode cX6_sneezes 6 = .ok (.if_icmp .gt 10, 3) := by decide +kernel
theorem dX6_sneezes_9 : decode cX6_sneezes 9 = .ok (.aload_n 0, 1) := by decide +kernel
theorem dX6_sneezes_10 : decode cX6_sneezes 10 = .ok (.invokevirtual 135, 3) := by decide +kernel
theorem dX6_sneezes_13 : decode cX6_sneezes 13 = .ok (.ifCond .eq 7, 3) := by decide +kernel
theorem dX6_sneezes_16 : decode cX6_sneezes 16 = .ok (.ldc2_w 198, 3) := by decide +kernel
theorem dX6_sneezes_19 : decode cX6_sneezes 19 = .ok (.lreturn, 1) := by decide +kernel
theorem dX6_sneezes_20 : decode cX6_sneezes 20 = .ok (.aload_n 0, 1) := by decide +kernel
theorem dX6_sneezes_21 : decode cX6_sneezes 21 = .ok (.getfield 12, 3) := by decide +kernel
theorem dX6_sneezes_24 : decode cX6_sneezes 24 = .ok (.invokevirtual 161, 3) := by decide +kernel
theorem dX6_sneezes_27 : decode cX6_sneezes 27 = .ok (.aload_n 0, 1) := by decide +kernel
theorem dX6_sneezes_28 : decode cX6_sneezes 28 = .ok (.getfield 12, 3) := by decide +kernel
theorem dX6_sneezes_31 : decode cX6_sneezes 31 = .ok (.getfield 132, 3) := by decide +kernel
theorem dX6_sneezes_34 : decode cX6_sneezes 34 = .ok (.iconst (-1), 1) := by decide +kernel
theorem dX6_sneezes_35 : decode cX6_sneezes 35 = .ok (.ixor, 1) := by decide +kernel
theorem dX6_sneezes_36 : decode cX6_sneezes 36 = .ok (.iand, 1) := by decide +kernel
theorem dX6_sneezes_37 : decode cX6_sneezes 37 = .ok (.istore_n 2, 1) := by decide +kernel
theorem dX6_sneezes_38 : decode cX6_sneezes 38 = .ok (.iconst 0, 1) := by decide +kernel
theorem dX6_sneezes_39 : decode cX6_sneezes 39 = .ok (.istore_n 3, 1) := by decide +kernel
theorem dX6_sneezes_40 : decode cX6_sneezes 40 = .ok (.iconst 0, 1) := by decide +kernel
theorem dX6_sneezes_41 : decode cX6_sneezes 41 = .ok (.istore 4, 2) := by decide +kernel
theorem dX6_sneezes_43 : decode cX6_sneezes 43 = .ok (.iload 4, 2) := by decide +kernel
theorem dX6_sneezes_45 : decode cX6_sneezes 45 = .ok (.aload_n 0, 1) := by decide +kernel
theorem dX6_sneezes_46 : decode cX6_sneezes 46 = .ok (.getfield 12, 3) := by decide +kernel
theorem dX6_sneezes_49 : decode cX6_sneezes 49 = .ok (.invokevirtual 161, 3) := by decide +kernel
theorem dX6_sneezes_52 : decode cX6_sneezes 52 = .ok (.if_icmp .gt 25, 3) := by decide +kernel
theorem dX6_sneezes_55 : decode cX6_sneezes 55 = .ok (.iload_n 2, 1) := by decide +kernel
theorem dX6_sneezes_56 : decode cX6_sneezes 56 = .ok (.aload_n 0, 1) := by decide +kernel
theorem dX6_sneezes_57 : decode cX6_sneezes 57 = .ok (.iload 4, 2) := by decide +kernel
theorem dX6_sneezes_59 : decode cX6_sneezes 59 = .ok (.invokevirtual 167, 3) := by decide +kernel
theorem dX6_sneezes_62 : decode cX6_sneezes 62 = .ok (.iconst (-1), 1) := by decide +kernel
theorem dX6_sneezes_63 : decode cX6_sneezes 63 = .ok (.ixor, 1) := by decide +kernel
theorem dX6_sneezes_64 : decode cX6_sneezes 64 = .ok (.iand, 1) := by decide +kernel
theorem dX6_sneezes_65 : decode cX6_sneezes 65 = .ok (.ifCond .ne 6, 3) := by decide +kernel
theorem dX6_sneezes_68 : decode cX6_sneezes 68 = .ok (.iinc 3 1, 3) := by decide +kernel
theorem dX6_sneezes_71 : decode cX6_sneezes 71 = .ok (.iinc 4 1, 3) := by decide +kernel
theorem dX6_sneezes_74 : decode cX6_sneezes 74 = .ok (.goto (-31), 3) := by decide +kernel
theorem dX6_sneezes_77 : decode cX6_sneezes 77 = .ok (.aload_n 0, 1) := by decide +kernel
theorem dX6_sneezes_78 : decode cX6_sneezes 78 = .ok (.getfield 12, 3) := by decide +kernel
theorem dX6_sneezes_81 : decode cX6_sneezes 81 = .ok (.invokevirtual 161, 3) := by decide +kernel
theorem dX6_sneezes_84 : decode cX6_sneezes 84 = .ok (.iconst 1, 1) := by decide +kernel
theorem dX6_sneezes_85 : decode cX6_sneezes 85 = .ok (.iadd, 1) := by decide +kernel
theorem dX6_sneezes_86 : decode cX6_sneezes 86 = .ok (.istore 4, 2) := by decide +kernel
theorem dX6_sneezes_88 : decode cX6_sneezes 88 = .ok (.iload 4, 2) := by decide +kernel
theorem dX6_sneezes_90 : decode cX6_sneezes 90 = .ok (.iconst 1, 1) := by decide +kernel
theorem dX6_sneezes_91 : decode cX6_sneezes 91 = .ok (.if_icmp .le 22, 3) := by decide +kernel
theorem dX6_sneezes_94 : decode cX6_sneezes 94 = .ok (.iload_n 3, 1) := by decide +kernel
theorem dX6_sneezes_95 : decode cX6_sneezes 95 = .ok (.iconst 2, 1) := by decide +kernel
theorem dX6_sneezes_96 : decode cX6_sneezes 96 = .ok (.irem, 1) := by decide +kernel
theorem dX6_sneezes_97 : decode cX6_sneezes 97 = .ok (.ifCond .ne 16, 3) := by decide +kernel
theorem dX6_sneezes_100 : decode cX6_sneezes 100 = .ok (.iload_n 3, 1) := by decide +kernel
theorem dX6_sneezes_101 : decode cX6_sneezes 101 = .ok (.iconst 2, 1) := by decide +kernel
theorem dX6_sneezes_102 : decode cX6_sneezes 102 = .ok (.idiv, 1) := by decide +kernel
theorem dX6_sneezes_103 : decode cX6_sneezes 103 = .ok (.istore_n 3, 1) := by decide +kernel
theorem dX6_sneezes_104 : decode cX6_sneezes 104 = .ok (.iload 4, 2) := by decide +kernel
theorem dX6_sneezes_106 : decode cX6_sneezes 106 = .ok (.iconst 2, 1) := by decide +kernel
theorem dX6_sneezes_107 : decode cX6_sneezes 107 = .ok (.idiv, 1) := by decide +kernel
theorem dX6_sneezes_108 : decode cX6_sneezes 108 = .ok (.istore 4, 2) := by decide +kernel
theorem dX6_sneezes_110 : decode cX6_sneezes 110 = .ok (.goto (-22), 3) := by decide +kernel
theorem dX6_sneezes_113 : decode cX6_sneezes 113 = .ok (.iload_n 1, 1) := by decide +kernel
theorem dX6_sneezes_114 : decode cX6_sneezes 114 = .ok (.ifCond .ne 8, 3) := by decide +kernel
theorem dX6_sneezes_117 : decode cX6_sneezes 117 = .ok (.iload_n 3, 1) := by decide +kernel
theorem dX6_sneezes_118 : decode cX6_sneezes 118 = .ok (.i2l, 1) := by decide +kernel
theorem dX6_sneezes_119 : decode cX6_sneezes 119 = .ok (.goto 6, 3) := by decide +kernel
theorem dX6_sneezes_122 : decode cX6_sneezes 122 = .ok (.iload 4, 2) := by decide +kernel
theorem dX6_sneezes_124 : decode cX6_sneezes 124 = .ok (.i2l, 1) := by decide +kernel
theorem dX6_sneezes_125 : decode cX6_sneezes 125 = .ok (.lreturn, 1) := by decide +kernel
theorem dX6_tune_0 : decode cX6_tune 0 = .ok (.aload_n 0, 1) := by decide +kernel
theorem dX6_tune_1 : decode cX6_tune 1 = .ok (.iconst 0, 1) := by decide +kernel
theorem dX6_tune_2 : decode cX6_tune 2 = .ok (.putfield 61, 3) := by decide +kernel
theorem dX6_tune_5 : decode cX6_tune 5 = .ok (.iload_n 1, 1) := by decide +kernel
theorem dX6_tune_6 : decode cX6_tune 6 = .ok (.invokestatic 65, 3) := by decide +kernel
theorem dX6_tune_9 : decode cX6_tune 9 = .ok (.ifCond .ne 5, 3) := by decide +kernel
theorem dX6_tune_12 : decode cX6_tune 12 = .ok (.iconst (-1), 1) := by decide +kernel
theorem dX6_tune_13 : decode cX6_tune 13 = .ok (.ireturn, 1) := by decide +kernel
theorem dX6_tune_14 : decode cX6_tune 14 = .ok (.iload_n 2, 1) := by decide +kernel
theorem dX6_tune_15 : decode cX6_tune 15 = .ok (.invokestatic 69, 3) := by decide +kernel
theorem dX6_tune_18 : decode cX6_tune 18 = .ok (.ifCond .ne 6, 3) := by decide +kernel
theorem dX6_tune_21 : decode cX6_tune 21 = .ok (.bipush (-2), 2) := by decide +kernel
theorem dX6_tune_23 : decode cX6_tune 23 = .ok (.ireturn, 1) := by decide +kernel
theorem dX6_tune_24 : decode cX6_tune 24 = .ok (.aload_n 0, 1) := by decide +kernel
theorem dX6_tune_25 : decode cX6_tune 25 = .ok (.invokevirtual 135, 3) := by decide +kernel
theorem dX6_tune_28 : decode cX6_tune 28 = .ok (.ifCond .eq 6, 3) := by decide +kernel
theorem dX6_tune_31 : decode cX6_tune 31 = .ok (.bipush (-3), 2) := by decide +kernel
theorem dX6_tune_33 : decode cX6_tune 33 = .ok (.ireturn, 1) := by decide +kernel
theorem dX6_tune_34 : decode cX6_tune 34 = .ok (.aload_n 0, 1) := by decide +kernel
theorem dX6_tune_35 : decode cX6_tune 35 = .ok (.getfield 56, 3) := by decide +kernel
theorem dX6_tune_38 : decode cX6_tune 38 = .ok (.iload_n 1, 1) := by decide +kernel
theorem dX6_tune_39 : decode cX6_tune 39 = .ok (.aaload, 1) := by decide +kernel
theorem dX6_tune_40 : decode cX6_tune 40 = .ok (.iload_n 2, 1) := by decide +kernel
theorem dX6_tune_41 : decode cX6_tune 41 = .ok (.iload_n 3, 1) := by decide +kernel
theorem dX6_tune_42 : decode cX6_tune 42 = .ok (.iload 4, 2) := by decide +kernel
theorem dX6_tune_44 : decode cX6_tune 44 = .ok (.invokevirtual 72, 3) := by decide +kernel
theorem dX6_tune_47 : decode cX6_tune 47 = .ok (.istore 5, 2) := by decide +kernel
theorem dX6_tune_49 : decode cX6_tune 49 = .ok (.iload 5, 2) := by decide +kernel
theorem dX6_tune_51 : decode cX6_tune 51 = .ok (.ifCond .eq 10, 3) := by decide +kernel
theorem dX6_tune_54 : decode cX6_tune 54 = .ok (.aload_n 0, 1) := by decide +kernel
theorem dX6_tune_55 : decode cX6_tune 55 = .ok (.iload 5, 2) := by decide +kernel
theorem dX6_tune_57 : decode cX6_tune 57 = .ok (.invokevirtual 76, 3) := by decide +kernel
theorem dX6_tune_60 : decode cX6_tune 60 = .ok (.ireturn, 1) := by decide +kernel
theorem dX6_tune_61 : decode cX6_tune 61 = .ok (.iload 4, 2) := by decide +kernel
theorem dX6_tune_63 : decode cX6_tune 63 = .ok (.iconst 1, 1) := by decide +kernel
theorem dX6_tune_64 : decode cX6_tune 64 = .ok (.if_icmp .lt 10, 3) := by decide +kernel
theorem dX6_tune_67 : decode cX6_tune 67 = .ok (.iload 4, 2) := by decide +kernel
theorem dX6_tune_69 : decode cX6_tune 69 = .ok (.bipush 8, 2) := by decide +kernel
theorem dX6_tune_71 : decode cX6_tune 71 = .ok (.if_icmp .le 6, 3) := by decide +kernel
theorem dX6_tune_74 : decode cX6_tune 74 = .ok (.bipush (-2), 2) := by decide +kernel
theorem dX6_tune_76 : decode cX6_tune 76 = .ok (.ireturn, 1) := by decide +kernel
theorem dX6_tune_77 : decode cX6_tune 77 = .ok (.iconst 0, 1) := by decide +kernel
theorem dX6_tune_78 : decode cX6_tune 78 = .ok (.istore 6, 2) := by decide +kernel
theorem dX6_tune_80 : decode cX6_tune 80 = .ok (.iload 6, 2) := by decide +kernel
theorem dX6_tune_82 : decode cX6_tune 82 = .ok (.iload 4, 2) := by decide +kernel
theorem dX6_tune_84 : decode cX6_tune 84 = .ok (.if_icmp .ge 35, 3) := by decide +kernel
theorem dX6_tune_87 : decode cX6_tune 87 = .ok (.aload_n 0, 1) := by decide +kernel
theorem dX6_tune_88 : decode cX6_tune 88 = .ok (.getfield 12, 3) := by decide +kernel
theorem dX6_tune_91 : decode cX6_tune 91 = .ok (.aload_n 0, 1) := by decide +kernel
theorem dX6_tune_92 : decode cX6_tune 92 = .ok (.getfield 56, 3) := by decide +kernel
theorem dX6_tune_95 : decode cX6_tune 95 = .ok (.iload_n 1, 1) := by decide +kernel
theorem dX6_tune_96 : decode cX6_tune 96 = .ok (.aaload, 1) := by decide +kernel
theorem dX6_tune_97 : decode cX6_tune 97 = .ok (.getfield 80, 3) := by decide +kernel
theorem dX6_tune_100 : decode cX6_tune 100 = .ok (.iload_n 3, 1) := by decide +kernel
theorem dX6_tune_101 : decode cX6_tune 101 = .ok (.iload 6, 2) := by decide +kernel
theorem dX6_tune_103 : decode cX6_tune 103 = .ok (.iadd, 1) := by decide +kernel
theorem dX6_tune_104 : decode cX6_tune 104 = .ok (.iaload, 1) := by decide +kernel
theorem dX6_tune_105 : decode cX6_tune 105 = .ok (.invokevirtual 105, 3) := by decide +kernel
theorem dX6_tune_108 : decode cX6_tune 108 = .ok (.ifCond .ne 5, 3) := by decide +kernel
theorem dX6_tune_111 : decode cX6_tune 111 = .ok (.iconst (-1), 1) := by decide +kernel
theorem dX6_tune_112 : decode cX6_tune 112 = .ok (.ireturn, 1) := by decide +kernel
theorem dX6_tune_113 : decode cX6_tune 113 = .ok (.iinc 6 1, 3) := by decide +kernel
theorem dX6_tune_116 : decode cX6_tune 116 = .ok (.goto (-36), 3) := by decide +kernel
theorem dX6_tune_119 : decode cX6_tune 119 = .ok (.aload_n 0, 1) := by decide +kernel
theorem dX6_tune_120 : decode cX6_tune 120 = .ok (.aload_n 0, 1) := by decide +kernel
theorem dX6_tune_121 : decode cX6_tune 121 = .ok (.getfield 56, 3) := by decide +kernel
theorem dX6_tune_124 : decode cX6_tune 124 = .ok (.iload_n 1, 1) := by decide +kernel
theorem dX6_tune_125 : decode cX6_tune 125 = .ok (.aaload, 1) := by decide +kernel
theorem dX6_tune_126 : decode cX6_tune 126 = .ok (.getfield 80, 3) := by decide +kernel
theorem dX6_tune_129 : decode cX6_tune 129 = .ok (.iload_n 3, 1) := by decide +kernel
theorem dX6_tune_130 : decode cX6_tune 130 = .ok (.iload 4, 2) := by decide +kernel
theorem dX6_tune_132 : decode cX6_tune 132 = .ok (.invokevirtual 200, 3) := by decide +kernel
theorem dX6_tune_135 : decode cX6_tune 135 = .ok (.ireturn, 1) := by decide +kernel
theorem dX6_sheet_0 : decode cX6_sheet 0 = .ok (.aload_n 0, 1) := by decide +kernel
theorem dX6_sheet_1 : decode cX6_sheet 1 = .ok (.iconst 0, 1) := by decide +kernel
theorem dX6_sheet_2 : decode cX6_sheet 2 = .ok (.putfield 61, 3) := by decide +kernel
theorem dX6_sheet_5 : decode cX6_sheet 5 = .ok (.iload_n 1, 1) := by decide +kernel
theorem dX6_sheet_6 : decode cX6_sheet 6 = .ok (.invokestatic 65, 3) := by decide +kernel
theorem dX6_sheet_9 : decode cX6_sheet 9 = .ok (.ifCond .ne 5, 3) := by decide +kernel
theorem dX6_sheet_12 : decode cX6_sheet 12 = .ok (.iconst (-1), 1) := by decide +kernel
theorem dX6_sheet_13 : decode cX6_sheet 13 = .ok (.ireturn, 1) := by decide +kernel
theorem dX6_sheet_14 : decode cX6_sheet 14 = .ok (.iload_n 2, 1) := by decide +kernel
theorem dX6_sheet_15 : decode cX6_sheet 15 = .ok (.invokestatic 69, 3) := by decide +kernel
theorem dX6_sheet_18 : decode cX6_sheet 18 = .ok (.ifCond .eq 9, 3) := by decide +kernel
theorem dX6_sheet_21 : decode cX6_sheet 21 = .ok (.iload_n 3, 1) := by decide +kernel
theorem dX6_sheet_22 : decode cX6_sheet 22 = .ok (.bipush 60, 2) := by decide +kernel
theorem dX6_sheet_24 : decode cX6_sheet 24 = .ok (.if_icmp .le 6, 3) := by decide +kernel
theorem dX6_sheet_27 : decode cX6_sheet 27 = .ok (.bipush (-2), 2) := by decide +kernel
theorem dX6_sheet_29 : decode cX6_sheet 29 = .ok (.ireturn, 1) := by decide +kernel
theorem dX6_sheet_30 : decode cX6_sheet 30 = .ok (.iload_n 3, 1) := by decide +kernel
theorem dX6_sheet_31 : decode cX6_sheet 31 = .ok (.ifCond .ge 9, 3) := by decide +kernel
theorem dX6_sheet_34 : decode cX6_sheet 34 = .ok (.aload_n 0, 1) := by decide +kernel
theorem dX6_sheet_35 : decode cX6_sheet 35 = .ok (.iconst 4, 1) := by decide +kernel
theorem dX6_sheet_36 : decode cX6_sheet 36 = .ok (.invokevirtual 76, 3) := by decide +kernel
theorem dX6_sheet_39 : decode cX6_sheet 39 = .ok (.ireturn, 1) := by decide +kernel
theorem dX6_sheet_40 : decode cX6_sheet 40 = .ok (.aload_n 0, 1) := by decide +kernel
theorem dX6_sheet_41 : decode cX6_sheet 41 = .ok (.getfield 56, 3) := by decide +kernel
theorem dX6_sheet_44 : decode cX6_sheet 44 = .ok (.iload_n 1, 1) := by decide +kernel
theorem dX6_sheet_45 : decode cX6_sheet 45 = .ok (.aaload, 1) := by decide +kernel
theorem dX6_sheet_46 : decode cX6_sheet 46 = .ok (.iload_n 2, 1) := by decide +kernel
theorem dX6_sheet_47 : decode cX6_sheet 47 = .ok (.iload_n 3, 1) := by decide +kernel
theorem dX6_sheet_48 : decode cX6_sheet 48 = .ok (.invokevirtual 203, 3) := by decide +kernel
theorem dX6_sheet_51 : decode cX6_sheet 51 = .ok (.iconst 1, 1) := by decide +kernel
theorem dX6_sheet_52 : decode cX6_sheet 52 = .ok (.ireturn, 1) := by decide +kernel
theorem dX6_lose_0 : decode cX6_lose 0 = .ok (.iload_n 1, 1) := by decide +kernel
theorem dX6_lose_1 : decode cX6_lose 1 = .ok (.invokestatic 65, 3) := by decide +kernel
theorem dX6_lose_4 : decode cX6_lose 4 = .ok (.ifCond .ne 5, 3) := by decide +kernel
theorem dX6_lose_7 : decode cX6_lose 7 = .ok (.iconst (-1), 1) := by decide +kernel
theorem dX6_lose_8 : decode cX6_lose 8 = .ok (.ireturn, 1) := by decide +kernel
theorem dX6_lose_9 : decode cX6_lose 9 = .ok (.aload_n 0, 1) := by decide +kernel
theorem dX6_lose_10 : decode cX6_lose 10 = .ok (.getfield 56, 3) := by decide +kernel
theorem dX6_lose_13 : decode cX6_lose 13 = .ok (.iload_n 1, 1) := by decide +kernel
theorem dX6_lose_14 : decode cX6_lose 14 = .ok (.aaload, 1) := by decide +kernel
theorem dX6_lose_15 : decode cX6_lose 15 = .ok (.invokevirtual 206, 3) := by decide +kernel
theorem dX6_lose_18 : decode cX6_lose 18 = .ok (.ifCond .ne 5, 3) := by decide +kernel
theorem dX6_lose_21 : decode cX6_lose 21 = .ok (.iconst 0, 1) := by decide +kernel
theorem dX6_lose_22 : decode cX6_lose 22 = .ok (.ireturn, 1) := by decide +kernel
theorem dX6_lose_23 : decode cX6_lose 23 = .ok (.aload_n 0, 1) := by decide +kernel
theorem dX6_lose_24 : decode cX6_lose 24 = .ok (.getfield 56, 3) := by decide +kernel
theorem dX6_lose_27 : decode cX6_lose 27 = .ok (.iload_n 1, 1) := by decide +kernel
theorem dX6_lose_28 : decode cX6_lose 28 = .ok (.aaload, 1) := by decide +kernel
theorem dX6_lose_29 : decode cX6_lose 29 = .ok (.iconst (-1), 1) := by decide +kernel
theorem dX6_lose_30 : decode cX6_lose 30 = .ok (.putfield 209, 3) := by decide +kernel
theorem dX6_lose_33 : decode cX6_lose 33 = .ok (.iconst 1, 1) := by decide +kernel
theorem dX6_lose_34 : decode cX6_lose 34 = .ok (.ireturn, 1) := by decide +kernel
theorem dX6_put_0 : decode cX6_put 0 = .ok (.aload_n 0, 1) := by decide +kernel
theorem dX6_put_1 : decode cX6_put 1 = .ok (.iconst 0, 1) := by decide +kernel
theorem dX6_put_2 : decode cX6_put 2 = .ok (.putfield 61, 3) := by decide +kernel
theorem dX6_put_5 : decode cX6_put 5 = .ok (.iload_n 1, 1) := by decide +kernel
theorem dX6_put_6 : decode cX6_put 6 = .ok (.invokestatic 65, 3) := by decide +kernel
theorem dX6_put_9 : decode cX6_put 9 = .ok (.ifCond .ne 5, 3) := by decide +kernel
theorem dX6_put_12 : decode cX6_put 12 = .ok (.iconst (-1), 1) := by decide +kernel
theorem dX6_put_13 : decode cX6_put 13 = .ok (.ireturn, 1) := by decide +kernel
theorem dX6_put_14 : decode cX6_put 14 = .ok (.aload_n 0, 1) := by decide +kernel
theorem dX6_put_15 : decode cX6_put 15 = .ok (.getfield 56, 3) := by decide +kernel
theorem dX6_put_18 : decode cX6_put 18 = .ok (.iload_n 1, 1) := by decide +kernel
theorem dX6_put_19 : decode cX6_put 19 = .ok (.aaload, 1) := by decide +kernel
theorem dX6_put_20 : decode cX6_put 20 = .ok (.invokevirtual 206, 3) := by decide +kernel
theorem dX6_put_23 : decode cX6_put 23 = .ok (.ifCond .ne 9, 3) := by decide +kernel
theorem dX6_put_26 : decode cX6_put 26 = .ok (.aload_n 0, 1) := by decide +kernel
theorem dX6_put_27 : decode cX6_put 27 = .ok (.iconst 1, 1) := by decide +kernel
theorem dX6_put_28 : decode cX6_put 28 = .ok (.invokevirtual 76, 3) := by decide +kernel
theorem dX6_put_31 : decode cX6_put 31 = .ok (.ireturn, 1) := by decide +kernel
theorem dX6_put_32 : decode cX6_put 32 = .ok (.aload_n 0, 1) := by decide +kernel
theorem dX6_put_33 : decode cX6_put 33 = .ok (.getfield 56, 3) := by decide +kernel
theorem dX6_put_36 : decode cX6_put 36 = .ok (.iload_n 1, 1) := by decide +kernel
theorem dX6_put_37 : decode cX6_put 37 = .ok (.aaload, 1) := by decide +kernel
theorem dX6_put_38 : decode cX6_put 38 = .ok (.iload_n 2, 1) := by decide +kernel
theorem dX6_put_39 : decode cX6_put 39 = .ok (.invokevirtual 212, 3) := by decide +kernel
theorem dX6_put_42 : decode cX6_put 42 = .ok (.ifCond .ne 9, 3) := by decide +kernel
theorem dX6_put_45 : decode cX6_put 45 = .ok (.aload_n 0, 1) := by decide +kernel
theorem dX6_put_46 : decode cX6_put 46 = .ok (.iconst 3, 1) := by decide +kernel
theorem dX6_put_47 : decode cX6_put 47 = .ok (.invokevirtual 76, 3) := by decide +kernel
theorem dX6_put_50 : decode cX6_put 50 = .ok (.ireturn, 1) := by decide +kernel
theorem dX6_put_51 : decode cX6_put 51 = .ok (.aload_n 0, 1) := by decide +kernel
theorem dX6_put_52 : decode cX6_put 52 = .ok (.getfield 56, 3) := by decide +kernel
theorem dX6_put_55 : decode cX6_put 55 = .ok (.iload_n 1, 1) := by decide +kernel
theorem dX6_put_56 : decode cX6_put 56 = .ok (.aaload, 1) := by decide +kernel
theorem dX6_put_57 : decode cX6_put 57 = .ok (.getfield 80, 3) := by decide +kernel
theorem dX6_put_60 : decode cX6_put 60 = .ok (.iload_n 2, 1) := by decide +kernel
theorem dX6_put_61 : decode cX6_put 61 = .ok (.aload_n 0, 1) := by decide +kernel
theorem dX6_put_62 : decode cX6_put 62 = .ok (.getfield 56, 3) := by decide +kernel
theorem dX6_put_65 : decode cX6_put 65 = .ok (.iload_n 1, 1) := by decide +kernel
theorem dX6_put_66 : decode cX6_put 66 = .ok (.aaload, 1) := by decide +kernel
theorem dX6_put_67 : decode cX6_put 67 = .ok (.iload_n 3, 1) := by decide +kernel
theorem dX6_put_68 : decode cX6_put 68 = .ok (.invokevirtual 215, 3) := by decide +kernel
theorem dX6_put_71 : decode cX6_put 71 = .ok (.iastore, 1) := by decide +kernel
theorem dX6_put_72 : decode cX6_put 72 = .ok (.iconst 1, 1) := by decide +kernel
theorem dX6_put_73 : decode cX6_put 73 = .ok (.ireturn, 1) := by decide +kernel
theorem dX6_cell_0 : decode cX6_cell 0 = .ok (.aload_n 0, 1) := by decide +kernel
theorem dX6_cell_1 : decode cX6_cell 1 = .ok (.iconst 0, 1) := by decide +kernel
theorem dX6_cell_2 : decode cX6_cell 2 = .ok (.putfield 61, 3) := by decide +kernel
theorem dX6_cell_5 : decode cX6_cell 5 = .ok (.iload_n 1, 1) := by decide +kernel
theorem dX6_cell_6 : decode cX6_cell 6 = .ok (.invokestatic 65, 3) := by decide +kernel
theorem dX6_cell_9 : decode cX6_cell 9 = .ok (.ifCond .eq 10, 3) := by decide +kernel
theorem dX6_cell_12 : decode cX6_cell 12 = .ok (.iload_n 3, 1) := by decide +kernel
theorem dX6_cell_13 : decode cX6_cell 13 = .ok (.invokestatic 69, 3) := by decide +kernel
theorem dX6_cell_16 : decode cX6_cell 16 = .ok (.ifCond .ne 7, 3) := by decide +kernel
theorem dX6_cell_19 : decode cX6_cell 19 = .ok (.ldc2_w 198, 3) := by decide +kernel
theorem dX6_cell_22 : decode cX6_cell 22 = .ok (.lreturn, 1) := by decide +kernel
theorem dX6_cell_23 : decode cX6_cell 23 = .ok (.aload_n 0, 1) := by decide +kernel
theorem dX6_cell_24 : decode cX6_cell 24 = .ok (.aload_n 0, 1) := by decide +kernel
theorem dX6_cell_25 : decode cX6_cell 25 = .ok (.getfield 56, 3) := by decide +kernel
theorem dX6_cell_28 : decode cX6_cell 28 = .ok (.iload_n 1, 1) := by decide +kernel
theorem dX6_cell_29 : decode cX6_cell 29 = .ok (.aaload, 1) := by decide +kernel
theorem dX6_cell_30 : decode cX6_cell 30 = .ok (.iload_n 3, 1) := by decide +kernel
theorem dX6_cell_31 : decode cX6_cell 31 = .ok (.invokevirtual 218, 3) := by decide +kernel
theorem dX6_cell_34 : decode cX6_cell 34 = .ok (.putfield 61, 3) := by decide +kernel
theorem dX6_cell_37 : decode cX6_cell 37 = .ok (.aload_n 0, 1) := by decide +kernel
theorem dX6_cell_38 : decode cX6_cell 38 = .ok (.getfield 61, 3) := by decide +kernel
theorem dX6_cell_41 : decode cX6_cell 41 = .ok (.ifCond .ne 21, 3) := by decide +kernel
theorem dX6_cell_44 : decode cX6_cell 44 = .ok (.aload_n 0, 1) := by decide +kernel
theorem dX6_cell_45 : decode cX6_cell 45 = .ok (.getfield 56, 3) := by decide +kernel
theorem dX6_cell_48 : decode cX6_cell 48 = .ok (.iload_n 1, 1) := by decide +kernel
theorem dX6_cell_49 : decode cX6_cell 49 = .ok (.aaload, 1) := by decide +kernel
theorem dX6_cell_50 : decode cX6_cell 50 = .ok (.iload_n 2, 1) := by decide +kernel
theorem dX6_cell_51 : decode cX6_cell 51 = .ok (.invokevirtual 212, 3) := by decide +kernel
theorem dX6_cell_54 : decode cX6_cell 54 = .ok (.ifCond .ne 8, 3) := by decide +kernel
theorem dX6_cell_57 : decode cX6_cell 57 = .ok (.aload_n 0, 1) := by decide +kernel
theorem dX6_cell_58 : decode cX6_cell 58 = .ok (.iconst 3, 1) := by decide +kernel
theorem dX6_cell_59 : decode cX6_cell 59 = .ok (.putfield 61, 3) := by decide +kernel
theorem dX6_cell_62 : decode cX6_cell 62 = .ok (.aload_n 0, 1) := by decide +kernel
theorem dX6_cell_63 : decode cX6_cell 63 = .ok (.getfield 61, 3) := by decide +kernel
theorem dX6_cell_66 : decode cX6_cell 66 = .ok (.ifCond .ne 18, 3) := by decide +kernel
theorem dX6_cell_69 : decode cX6_cell 69 = .ok (.aload_n 0, 1) := by decide +kernel
theorem dX6_cell_70 : decode cX6_cell 70 = .ok (.getfield 56, 3) := by decide +kernel
theorem dX6_cell_73 : decode cX6_cell 73 = .ok (.iload_n 1, 1) := by decide +kernel
theorem dX6_cell_74 : decode cX6_cell 74 = .ok (.aaload, 1) := by decide +kernel
theorem dX6_cell_75 : decode cX6_cell 75 = .ok (.getfield 80, 3) := by decide +kernel
theorem dX6_cell_78 : decode cX6_cell 78 = .ok (.iload_n 2, 1) := by decide +kernel
theorem dX6_cell_79 : decode cX6_cell 79 = .ok (.iaload, 1) := by decide +kernel
theorem dX6_cell_80 : decode cX6_cell 80 = .ok (.i2l, 1) := by decide +kernel
theorem dX6_cell_81 : decode cX6_cell 81 = .ok (.goto 6, 3) := by decide +kernel
theorem dX6_cell_84 : decode cX6_cell 84 = .ok (.ldc2_w 198, 3) := by decide +kernel
theorem dX6_cell_87 : decode cX6_cell 87 = .ok (.lreturn, 1) := by decide +kernel
theorem dX6_copy_0 : decode cX6_copy 0 = .ok (.aload_n 0, 1) := by decide +kernel
theorem dX6_copy_1 : decode cX6_copy 1 = .ok (.iconst 0, 1) := by decide +kernel
theorem dX6_copy_2 : decode cX6_copy 2 = .ok (.putfield 61, 3) := by decide +kernel
theorem dX6_copy_5 : decode cX6_copy 5 = .ok (.iload_n 1, 1) := by decide +kernel
theorem dX6_copy_6 : decode cX6_copy 6 = .ok (.invokestatic 65, 3) := by decide +kernel
theorem dX6_copy_9 : decode cX6_copy 9 = .ok (.ifCond .eq 10, 3) := by decide +kernel
theorem dX6_copy_12 : decode cX6_copy 12 = .ok (.iload_n 3, 1) := by decide +kernel
theorem dX6_copy_13 : decode cX6_copy 13 = .ok (.invokestatic 65, 3) := by decide +kernel
theorem dX6_copy_16 : decode cX6_copy 16 = .ok (.ifCond .ne 5, 3) := by decide +kernel
theorem dX6_copy_19 : decode cX6_copy 19 = .ok (.iconst (-1), 1) := by decide +kernel
theorem dX6_copy_20 : decode cX6_copy 20 = .ok (.ireturn, 1) := by decide +kernel
theorem dX6_copy_21 : decode cX6_copy 21 = .ok (.aload_n 0, 1) := by decide +kernel
theorem dX6_copy_22 : decode cX6_copy 22 = .ok (.getfield 56, 3) := by decide +kernel
theorem dX6_copy_25 : decode cX6_copy 25 = .ok (.iload_n 1, 1) := by decide +kernel
theorem dX6_copy_26 : decode cX6_copy 26 = .ok (.aaload, 1) := by decide +kernel
theorem dX6_copy_27 : decode cX6_copy 27 = .ok (.astore 6, 2) := by decide +kernel
theorem dX6_copy_29 : decode cX6_copy 29 = .ok (.aload_n 0, 1) := by decide +kernel
theorem dX6_copy_30 : decode cX6_copy 30 = .ok (.getfield 56, 3) := by decide +kernel
theorem dX6_copy_33 : decode cX6_copy 33 = .ok (.iload_n 3, 1) := by decide +kernel
theorem dX6_copy_34 : decode cX6_copy 34 = .ok (.aaload, 1) := by decide +kernel
theorem dX6_copy_35 : decode cX6_copy 35 = .ok (.astore 7, 2) := by decide +kernel
theorem dX6_copy_37 : decode cX6_copy 37 = .ok (.aload 6, 2) := by decide +kernel
theorem dX6_copy_39 : decode cX6_copy 39 = .ok (.invokevirtual 206, 3) := by decide +kernel
theorem dX6_copy_42 : decode cX6_copy 42 = .ok (.ifCond .eq 11, 3) := by decide +kernel
theorem dX6_copy_45 : decode cX6_copy 45 = .ok (.aload 7, 2) := by decide +kernel
theorem dX6_copy_47 : decode cX6_copy 47 = .ok (.invokevirtual 206, 3) := by decide +kernel
theorem dX6_copy_50 : decode cX6_copy 50 = .ok (.ifCond .ne 9, 3) := by decide +kernel
theorem dX6_copy_53 : decode cX6_copy 53 = .ok (.aload_n 0, 1) := by decide +kernel
theorem dX6_copy_54 : decode cX6_copy 54 = .ok (.iconst 1, 1) := by decide +kernel
theorem dX6_copy_55 : decode cX6_copy 55 = .ok (.invokevirtual 76, 3) := by decide +kernel
theorem dX6_copy_58 : decode cX6_copy 58 = .ok (.ireturn, 1) := by decide +kernel
theorem dX6_copy_59 : decode cX6_copy 59 = .ok (.aload 6, 2) := by decide +kernel
theorem dX6_copy_61 : decode cX6_copy 61 = .ok (.getfield 221, 3) := by decide +kernel
theorem dX6_copy_64 : decode cX6_copy 64 = .ok (.aload 7, 2) := by decide +kernel
theorem dX6_copy_66 : decode cX6_copy 66 = .ok (.getfield 221, 3) := by decide +kernel
theorem dX6_copy_69 : decode cX6_copy 69 = .ok (.if_icmp .eq 9, 3) := by decide +kernel
theorem dX6_copy_72 : decode cX6_copy 72 = .ok (.aload_n 0, 1) := by decide +kernel
theorem dX6_copy_73 : decode cX6_copy 73 = .ok (.iconst 2, 1) := by decide +kernel
theorem dX6_copy_74 : decode cX6_copy 74 = .ok (.invokevirtual 76, 3) := by decide +kernel
theorem dX6_copy_77 : decode cX6_copy 77 = .ok (.ireturn, 1) := by decide +kernel
theorem dX6_copy_78 : decode cX6_copy 78 = .ok (.aload 6, 2) := by decide +kernel
theorem dX6_copy_80 : decode cX6_copy 80 = .ok (.iload_n 2, 1) := by decide +kernel
theorem dX6_copy_81 : decode cX6_copy 81 = .ok (.iload 5, 2) := by decide +kernel
theorem dX6_copy_83 : decode cX6_copy 83 = .ok (.invokevirtual 224, 3) := by decide +kernel
theorem dX6_copy_86 : decode cX6_copy 86 = .ok (.ifCond .eq 15, 3) := by decide +kernel
theorem dX6_copy_89 : decode cX6_copy 89 = .ok (.aload 7, 2) := by decide +kernel
theorem dX6_copy_91 : decode cX6_copy 91 = .ok (.iload 4, 2) := by decide +kernel
theorem dX6_copy_93 : decode cX6_copy 93 = .ok (.iload 5, 2) := by decide +kernel
theorem dX6_copy_95 : decode cX6_copy 95 = .ok (.invokevirtual 224, 3) := by decide +kernel
theorem dX6_copy_98 : decode cX6_copy 98 = .ok (.ifCond .ne 9, 3) := by decide +kernel
theorem dX6_copy_101 : decode cX6_copy 101 = .ok (.aload_n 0, 1) := by decide +kernel
theorem dX6_copy_102 : decode cX6_copy 102 = .ok (.iconst 3, 1) := by decide +kernel
theorem dX6_copy_103 : decode cX6_copy 103 = .ok (.invokevirtual 76, 3) := by decide +kernel
theorem dX6_copy_106 : decode cX6_copy 106 = .ok (.ireturn, 1) := by decide +kernel
theorem dX6_copy_107 : decode cX6_copy 107 = .ok (.aload 6, 2) := by decide +kernel
theorem dX6_copy_109 : decode cX6_copy 109 = .ok (.getfield 80, 3) := by decide +kernel
theorem dX6_copy_112 : decode cX6_copy 112 = .ok (.iload_n 2, 1) := by decide +kernel
theorem dX6_copy_113 : decode cX6_copy 113 = .ok (.aload 7, 2) := by decide +kernel
theorem dX6_copy_115 : decode cX6_copy 115 = .ok (.getfield 80, 3) := by decide +kernel
theorem dX6_copy_118 : decode cX6_copy 118 = .ok (.iload 4, 2) := by decide +kernel
theorem dX6_copy_120 : decode cX6_copy 120 = .ok (.iload 5, 2) := by decide +kernel
theorem dX6_copy_122 : decode cX6_copy 122 = .ok (.invokestatic 227, 3) := by decide +kernel
theorem dX6_copy_125 : decode cX6_copy 125 = .ok (.iload 5, 2) := by decide +kernel
theorem dX6_copy_127 : decode cX6_copy 127 = .ok (.ireturn, 1) := by decide +kernel
theorem dX6_tell_0 : decode cX6_tell 0 = .ok (.aload_n 0, 1) := by decide +kernel
theorem dX6_tell_1 : decode cX6_tell 1 = .ok (.getfield 12, 3) := by decide +kernel
theorem dX6_tell_4 : decode cX6_tell 4 = .ok (.iload_n 1, 1) := by decide +kernel
theorem dX6_tell_5 : decode cX6_tell 5 = .ok (.invokevirtual 105, 3) := by decide +kernel
theorem dX6_tell_8 : decode cX6_tell 8 = .ok (.ifCond .ne 5, 3) := by decide +kernel
theorem dX6_tell_11 : decode cX6_tell 11 = .ok (.iconst (-1), 1) := by decide +kernel
theorem dX6_tell_12 : decode cX6_tell 12 = .ok (.ireturn, 1) := by decide +kernel
theorem dX6_tell_13 : decode cX6_tell 13 = .ok (.aload_n 0, 1) := by decide +kernel
theorem dX6_tell_14 : decode cX6_tell 14 = .ok (.getfield 12, 3) := by decide +kernel
theorem dX6_tell_17 : decode cX6_tell 17 = .ok (.getfield 108, 3) := by decide +kernel
theorem dX6_tell_20 : decode cX6_tell 20 = .ok (.iload_n 1, 1) := by decide +kernel
theorem dX6_tell_21 : decode cX6_tell 21 = .ok (.iaload, 1) := by decide +kernel
theorem dX6_tell_22 : decode cX6_tell 22 = .ok (.lookupswitch 38 #[(1, 26), (2, 32)], 26) := by decide +kernel
theorem dX6_tell_48 : decode cX6_tell 48 = .ok (.aload_n 0, 1) := by decide +kernel
theorem dX6_tell_49 : decode cX6_tell 49 = .ok (.iload_n 1, 1) := by decide +kernel
theorem dX6_tell_50 : decode cX6_tell 50 = .ok (.invokevirtual 233, 3) := by decide +kernel
theorem dX6_tell_53 : decode cX6_tell 53 = .ok (.ireturn, 1) := by decide +kernel
theorem dX6_tell_54 : decode cX6_tell 54 = .ok (.aload_n 0, 1) := by decide +kernel
theorem dX6_tell_55 : decode cX6_tell 55 = .ok (.iload_n 1, 1) := by decide +kernel
theorem dX6_tell_56 : decode cX6_tell 56 = .ok (.invokevirtual 236, 3) := by decide +kernel
theorem dX6_tell_59 : decode cX6_tell 59 = .ok (.ireturn, 1) := by decide +kernel
theorem dX6_tell_60 : decode cX6_tell 60 = .ok (.aload_n 0, 1) := by decide +kernel
theorem dX6_tell_61 : decode cX6_tell 61 = .ok (.iload_n 1, 1) := by decide +kernel
theorem dX6_tell_62 : decode cX6_tell 62 = .ok (.invokevirtual 239, 3) := by decide +kernel
theorem dX6_tell_65 : decode cX6_tell 65 = .ok (.ireturn, 1) := by decide +kernel
theorem dX6_hail_0 : decode cX6_hail 0 = .ok (.aload_n 0, 1) := by decide +kernel
theorem dX6_hail_1 : decode cX6_hail 1 = .ok (.getfield 12, 3) := by decide +kernel
theorem dX6_hail_4 : decode cX6_hail 4 = .ok (.iload_n 1, 1) := by decide +kernel
theorem dX6_hail_5 : decode cX6_hail 5 = .ok (.invokevirtual 105, 3) := by decide +kernel
theorem dX6_hail_8 : decode cX6_hail 8 = .ok (.ifCond .ne 5, 3) := by decide +kernel
theorem dX6_hail_11 : decode cX6_hail 11 = .ok (.iconst (-1), 1) := by decide +kernel
theorem dX6_hail_12 : decode cX6_hail 12 = .ok (.ireturn, 1) := by decide +kernel
theorem dX6_hail_13 : decode cX6_hail 13 = .ok (.aload_n 0, 1) := by decide +kernel
theorem dX6_hail_14 : decode cX6_hail 14 = .ok (.getfield 12, 3) := by decide +kernel
theorem dX6_hail_17 : decode cX6_hail 17 = .ok (.getfield 108, 3) := by decide +kernel
theorem dX6_hail_20 : decode cX6_hail 20 = .ok (.iload_n 1, 1) := by decide +kernel
theorem dX6_hail_21 : decode cX6_hail 21 = .ok (.iaload, 1) := by decide +kernel
theorem dX6_hail_22 : decode cX6_hail 22 = .ok (.iconst 2, 1) := by decide +kernel
theorem dX6_hail_23 : decode cX6_hail 23 = .ok (.if_icmp .ne 10, 3) := by decide +kernel
theorem dX6_hail_26 : decode cX6_hail 26 = .ok (.aload_n 0, 1) := by decide +kernel
theorem dX6_hail_27 : decode cX6_hail 27 = .ok (.invokevirtual 242, 3) := by decide +kernel
theorem dX6_hail_30 : decode cX6_hail 30 = .ok (.goto 8, 3) := by decide +kernel
theorem dX6_hail_33 : decode cX6_hail 33 = .ok (.aload_n 0, 1) := by decide +kernel
theorem dX6_hail_34 : decode cX6_hail 34 = .ok (.iload_n 1, 1) := by decide +kernel
theorem dX6_hail_35 : decode cX6_hail 35 = .ok (.invokevirtual 245, 3) := by decide +kernel
theorem dX6_hail_38 : decode cX6_hail 38 = .ok (.ireturn, 1) := by decide +kernel
theorem dX6_as_0 : decode cX6_as 0 = .ok (.aload_n 0, 1) := by decide +kernel
theorem dX6_as_1 : decode cX6_as 1 = .ok (.iconst 0, 1) := by decide +kernel
theorem dX6_as_2 : decode cX6_as 2 = .ok (.putfield 61, 3) := by decide +kernel
theorem dX6_as_5 : decode cX6_as 5 = .ok (.aload_n 0, 1) := by decide +kernel
theorem dX6_as_6 : decode cX6_as 6 = .ok (.getfield 12, 3) := by decide +kernel
theorem dX6_as_9 : decode cX6_as 9 = .ok (.iload_n 1, 1) := by decide +kernel
theorem dX6_as_10 : decode cX6_as 10 = .ok (.invokevirtual 105, 3) := by decide +kernel
theorem dX6_as_13 : decode cX6_as 13 = .ok (.ifCond .ne 5, 3) := by decide +kernel
theorem dX6_as_16 : decode cX6_as 16 = .ok (.iconst (-1), 1) := by decide +kernel
theorem dX6_as_17 : decode cX6_as 17 = .ok (.ireturn, 1) := by decide +kernel
theorem dX6_as_18 : decode cX6_as 18 = .ok (.iload_n 2, 1) := by decide +kernel
theorem dX6_as_19 : decode cX6_as 19 = .ok (.ifCond .lt 8, 3) := by decide +kernel
theorem dX6_as_22 : decode cX6_as 22 = .ok (.iload_n 2, 1) := by decide +kernel
theorem dX6_as_23 : decode cX6_as 23 = .ok (.iconst 2, 1) := by decide +kernel
theorem dX6_as_24 : decode cX6_as 24 = .ok (.if_icmp .le 6, 3) := by decide +kernel
theorem dX6_as_27 : decode cX6_as 27 = .ok (.bipush (-2), 2) := by decide +kernel
theorem dX6_as_29 : decode cX6_as 29 = .ok (.ireturn, 1) := by decide +kernel
theorem dX6_as_30 : decode cX6_as 30 = .ok (.aload_n 0, 1) := by decide +kernel
theorem dX6_as_31 : decode cX6_as 31 = .ok (.getfield 12, 3) := by decide +kernel
theorem dX6_as_34 : decode cX6_as 34 = .ok (.getfield 108, 3) := by decide +kernel
theorem dX6_as_37 : decode cX6_as 37 = .ok (.iload_n 1, 1) := by decide +kernel
theorem dX6_as_38 : decode cX6_as 38 = .ok (.iaload, 1) := by decide +kernel
theorem dX6_as_39 : decode cX6_as 39 = .ok (.iload_n 2, 1) := by decide +kernel
theorem dX6_as_40 : decode cX6_as 40 = .ok (.if_icmp .lt 7, 3) := by decide +kernel
theorem dX6_as_43 : decode cX6_as 43 = .ok (.iconst 1, 1) := by decide +kernel
theorem dX6_as_44 : decode cX6_as 44 = .ok (.goto 8, 3) := by decide +kernel
theorem dX6_as_47 : decode cX6_as 47 = .ok (.aload_n 0, 1) := by decide +kernel
theorem dX6_as_48 : decode cX6_as 48 = .ok (.iconst 2, 1) := by decide +kernel
theorem dX6_as_49 : decode cX6_as 49 = .ok (.invokevirtual 76, 3) := by decide +kernel
theorem dX6_as_52 : decode cX6_as 52 = .ok (.ireturn, 1) := by decide +kernel
theorem dX6_trace_0 : decode cX6_trace 0 = .ok (.aload_n 0, 1) := by decide +kernel
theorem dX6_trace_1 : decode cX6_trace 1 = .ok (.getfield 248, 3) := by decide +kernel
theorem dX6_trace_4 : decode cX6_trace 4 = .ok (.ireturn, 1) := by decide +kernel
theorem dX6_fault_0 : decode cX6_fault 0 = .ok (.aload_n 0, 1) := by decide +kernel
theorem dX6_fault_1 : decode cX6_fault 1 = .ok (.getfield 61, 3) := by decide +kernel
theorem dX6_fault_4 : decode cX6_fault 4 = .ok (.ireturn, 1) := by decide +kernel
theorem dX6_many_0 : decode cX6_many 0 = .ok (.iload_n 1, 1) := by decide +kernel
theorem dX6_many_1 : decode cX6_many 1 = .ok (.tableswitch 75 0 4 #[35, 43, 51, 59, 67], 35) := by decide +kernel
theorem dX6_many_36 : decode cX6_many 36 = .ok (.aload_n 0, 1) := by decide +kernel
theorem dX6_many_37 : decode cX6_many 37 = .ok (.getfield 12, 3) := by decide +kernel
theorem dX6_many_40 : decode cX6_many 40 = .ok (.getfield 102, 3) := by decide +kernel
theorem dX6_many_43 : decode cX6_many 43 = .ok (.ireturn, 1) := by decide +kernel
theorem dX6_many_44 : decode cX6_many 44 = .ok (.aload_n 0, 1) := by decide +kernel
theorem dX6_many_45 : decode cX6_many 45 = .ok (.getfield 12, 3) := by decide +kernel
theorem dX6_many_48 : decode cX6_many 48 = .ok (.getfield 120, 3) := by decide +kernel
theorem dX6_many_51 : decode cX6_many 51 = .ok (.ireturn, 1) := by decide +kernel
theorem dX6_many_52 : decode cX6_many 52 = .ok (.aload_n 0, 1) := by decide +kernel
theorem dX6_many_53 : decode cX6_many 53 = .ok (.getfield 28, 3) := by decide +kernel
theorem dX6_many_56 : decode cX6_many 56 = .ok (.getfield 94, 3) := by decide +kernel
theorem dX6_many_59 : decode cX6_many 59 = .ok (.ireturn, 1) := by decide +kernel
theorem dX6_many_60 : decode cX6_many 60 = .ok (.aload_n 0, 1) := by decide +kernel
theorem dX6_many_61 : decode cX6_many 61 = .ok (.getfield 38, 3) := by decide +kernel
theorem dX6_many_64 : decode cX6_many 64 = .ok (.getfield 97, 3) := by decide +kernel
theorem dX6_many_67 : decode cX6_many 67 = .ok (.ireturn, 1) := by decide +kernel
theorem dX6_many_68 : decode cX6_many 68 = .ok (.aload_n 0, 1) := by decide +kernel
theorem dX6_many_69 : decode cX6_many 69 = .ok (.getfield 12, 3) := by decide +kernel
theorem dX6_many_72 : decode cX6_many 72 = .ok (.getfield 139, 3) := by decide +kernel
theorem dX6_many_75 : decode cX6_many 75 = .ok (.ireturn, 1) := by decide +kernel
theorem dX6_many_76 : decode cX6_many 76 = .ok (.bipush (-2), 2) := by decide +kernel
theorem dX6_many_78 : decode cX6_many 78 = .ok (.ireturn, 1) := by decide +kernel
theorem dX6_isSheet_0 : decode cX6_isSheet 0 = .ok (.iload_n 0, 1) := by decide +kernel
theorem dX6_isSheet_1 : decode cX6_isSheet 1 = .ok (.ifCond .lt 12, 3) := by decide +kernel
theorem dX6_isSheet_4 : decode cX6_isSheet 4 = .ok (.iload_n 0, 1) := by decide +kernel
theorem dX6_isSheet_5 : decode cX6_isSheet 5 = .ok (.iconst 4, 1) := by decide +kernel
theorem dX6_isSheet_6 : decode cX6_isSheet 6 = .ok (.if_icmp .ge 7, 3) := by decide +kernel
theorem dX6_isSheet_9 : decode cX6_isSheet 9 = .ok (.iconst 1, 1) := by decide +kernel
theorem dX6_isSheet_10 : decode cX6_isSheet 10 = .ok (.goto 4, 3) := by decide +kernel
theorem dX6_isSheet_13 : decode cX6_isSheet 13 = .ok (.iconst 0, 1) := by decide +kernel
theorem dX6_isSheet_14 : decode cX6_isSheet 14 = .ok (.ireturn, 1) := by decide +kernel
theorem dX6_isLane_0 : decode cX6_isLane 0 = .ok (.iload_n 0, 1) := by decide +kernel
theorem dX6_isLane_1 : decode cX6_isLane 1 = .ok (.ifCond .lt 12, 3) := by decide +kernel
theorem dX6_isLane_4 : decode cX6_isLane 4 = .ok (.iload_n 0, 1) := by decide +kernel
theorem dX6_isLane_5 : decode cX6_isLane 5 = .ok (.iconst 2, 1) := by decide +kernel
theorem dX6_isLane_6 : decode cX6_isLane 6 = .ok (.if_icmp .gt 7, 3) := by decide +kernel
theorem dX6_isLane_9 : decode cX6_isLane 9 = .ok (.iconst 1, 1) := by decide +kernel
theorem dX6_isLane_10 : decode cX6_isLane 10 = .ok (.goto 4, 3) := by decide +kernel
theorem dX6_isLane_13 : decode cX6_isLane 13 = .ok (.iconst 0, 1) := by decide +kernel
theorem dX6_isLane_14 : decode cX6_isLane 14 = .ok (.ireturn, 1) := by decide +kernel
theorem dX6_hasNoValley_0 : decode cX6_hasNoValley 0 = .ok (.aload_n 0, 1) := by decide +kernel
theorem dX6_hasNoValley_1 : decode cX6_hasNoValley 1 = .ok (.getfield 12, 3) := by decide +kernel
theorem dX6_hasNoValley_4 : decode cX6_hasNoValley 4 = .ok (.getfield 102, 3) := by decide +kernel
theorem dX6_hasNoValley_7 : decode cX6_hasNoValley 7 = .ok (.ifCond .ne 7, 3) := by decide +kernel
theorem dX6_hasNoValley_10 : decode cX6_hasNoValley 10 = .ok (.iconst 1, 1) := by decide +kernel
theorem dX6_hasNoValley_11 : decode cX6_hasNoValley 11 = .ok (.goto 4, 3) := by decide +kernel
theorem dX6_hasNoValley_14 : decode cX6_hasNoValley 14 = .ok (.iconst 0, 1) := by decide +kernel
theorem dX6_hasNoValley_15 : decode cX6_hasNoValley 15 = .ok (.ireturn, 1) := by decide +kernel
theorem dX6_faulty_0 : decode cX6_faulty 0 = .ok (.aload_n 0, 1) := by decide +kernel
theorem dX6_faulty_1 : decode cX6_faulty 1 = .ok (.iload_n 1, 1) := by decide +kernel
theorem dX6_faulty_2 : decode cX6_faulty 2 = .ok (.putfield 61, 3) := by decide +kernel
theorem dX6_faulty_5 : decode cX6_faulty 5 = .ok (.bipush (-10), 2) := by decide +kernel
theorem dX6_faulty_7 : decode cX6_faulty 7 = .ok (.iload_n 1, 1) := by decide +kernel
theorem dX6_faulty_8 : decode cX6_faulty 8 = .ok (.isub, 1) := by decide +kernel
theorem dX6_faulty_9 : decode cX6_faulty 9 = .ok (.ireturn, 1) := by decide +kernel
theorem dX6_isFewer_0 : decode cX6_isFewer 0 = .ok (.iload_n 1, 1) := by decide +kernel
theorem dX6_isFewer_1 : decode cX6_isFewer 1 = .ok (.bipush (-9), 2) := by decide +kernel
theorem dX6_isFewer_3 : decode cX6_isFewer 3 = .ok (.if_icmp .eq 14, 3) := by decide +kernel
theorem dX6_isFewer_6 : decode cX6_isFewer 6 = .ok (.iload_n 0, 1) := by decide +kernel
theorem dX6_isFewer_7 : decode cX6_isFewer 7 = .ok (.invokestatic 176, 3) := by decide +kernel
theorem dX6_isFewer_10 : decode cX6_isFewer 10 = .ok (.iload_n 1, 1) := by decide +kernel
theorem dX6_isFewer_11 : decode cX6_isFewer 11 = .ok (.invokestatic 176, 3) := by decide +kernel
theorem dX6_isFewer_14 : decode cX6_isFewer 14 = .ok (.if_icmp .ge 7, 3) := by decide +kernel
theorem dX6_isFewer_17 : decode cX6_isFewer 17 = .ok (.iconst 1, 1) := by decide +kernel
theorem dX6_isFewer_18 : decode cX6_isFewer 18 = .ok (.goto 4, 3) := by decide +kernel
theorem dX6_isFewer_21 : decode cX6_isFewer 21 = .ok (.iconst 0, 1) := by decide +kernel
theorem dX6_isFewer_22 : decode cX6_isFewer 22 = .ok (.ireturn, 1) := by decide +kernel
theorem dX6_heardNow_0 : decode cX6_heardNow 0 = .ok (.aload_n 0, 1) := by decide +kernel
theorem dX6_heardNow_1 : decode cX6_heardNow 1 = .ok (.getfield 98, 3) := by decide +kernel
theorem dX6_heardNow_4 : decode cX6_heardNow 4 = .ok (.ifCond .ne 36, 3) := by decide +kernel
theorem dX6_heardNow_7 : decode cX6_heardNow 7 = .ok (.aload_n 0, 1) := by decide +kernel
theorem dX6_heardNow_8 : decode cX6_heardNow 8 = .ok (.getfield 47, 3) := by decide +kernel
theorem dX6_heardNow_11 : decode cX6_heardNow 11 = .ok (.aload_n 0, 1) := by decide +kernel
theorem dX6_heardNow_12 : decode cX6_heardNow 12 = .ok (.getfield 28, 3) := by decide +kernel
theorem dX6_heardNow_15 : decode cX6_heardNow 15 = .ok (.aload_n 0, 1) := by decide +kernel
theorem dX6_heardNow_16 : decode cX6_heardNow 16 = .ok (.getfield 12, 3) := by decide +kernel
theorem dX6_heardNow_19 : decode cX6_heardNow 19 = .ok (.getfield 132, 3) := by decide +kernel
theorem dX6_heardNow_22 : decode cX6_heardNow 22 = .ok (.aload_n 0, 1) := by decide +kernel
theorem dX6_heardNow_23 : decode cX6_heardNow 23 = .ok (.getfield 12, 3) := by decide +kernel
theorem dX6_heardNow_26 : decode cX6_heardNow 26 = .ok (.invokevirtual 251, 3) := by decide +kernel
theorem dX6_heardNow_29 : decode cX6_heardNow 29 = .ok (.sipush 400, 3) := by decide +kernel
theorem dX6_heardNow_32 : decode cX6_heardNow 32 = .ok (.invokevirtual 254, 3) := by decide +kernel
theorem dX6_heardNow_35 : decode cX6_heardNow 35 = .ok (.aload_n 0, 1) := by decide +kernel
theorem dX6_heardNow_36 : decode cX6_heardNow 36 = .ok (.iconst 1, 1) := by decide +kernel
theorem dX6_heardNow_37 : decode cX6_heardNow 37 = .ok (.putfield 98, 3) := by decide +kernel
theorem dX6_heardNow_40 : decode cX6_heardNow 40 = .ok (.aload_n 0, 1) := by decide +kernel
theorem dX6_heardNow_41 : decode cX6_heardNow 41 = .ok (.getfield 47, 3) := by decide +kernel
theorem dX6_heardNow_44 : decode cX6_heardNow 44 = .ok (.areturn, 1) := by decide +kernel
theorem dX6_playSet_0 : decode cX6_playSet 0 = .ok (.aload_n 0, 1) := by decide +kernel
theorem dX6_playSet_1 : decode cX6_playSet 1 = .ok (.getfield 32, 3) := by decide +kernel
theorem dX6_playSet_4 : decode cX6_playSet 4 = .ok (.iconst 0, 1) := by decide +kernel
theorem dX6_playSet_5 : decode cX6_playSet 5 = .ok (.putfield 94, 3) := by decide +kernel
theorem dX6_playSet_8 : decode cX6_playSet 8 = .ok (.iconst 0, 1) := by decide +kernel
theorem dX6_playSet_9 : decode cX6_playSet 9 = .ok (.istore_n 3, 1) := by decide +kernel
theorem dX6_playSet_10 : decode cX6_playSet 10 = .ok (.iload_n 3, 1) := by decide +kernel
theorem dX6_playSet_11 : decode cX6_playSet 11 = .ok (.aload_n 0, 1) := by decide +kernel
theorem dX6_playSet_12 : decode cX6_playSet 12 = .ok (.getfield 12, 3) := by decide +kernel
theorem dX6_playSet_15 : decode cX6_playSet 15 = .ok (.getfield 102, 3) := by decide +kernel
theorem dX6_playSet_18 : decode cX6_playSet 18 = .ok (.if_icmp .ge 34, 3) := by decide +kernel
theorem dX6_playSet_21 : decode cX6_playSet 21 = .ok (.iload_n 1, 1) := by decide +kernel
theorem dX6_playSet_22 : decode cX6_playSet 22 = .ok (.iload_n 3, 1) := by decide +kernel
theorem dX6_playSet_23 : decode cX6_playSet 23 = .ok (.ishr, 1) := by decide +kernel
theorem dX6_playSet_24 : decode cX6_playSet 24 = .ok (.iconst 1, 1) := by decide +kernel
theorem dX6_playSet_25 : decode cX6_playSet 25 = .ok (.iand, 1) := by decide +kernel
theorem dX6_playSet_26 : decode cX6_playSet 26 = .ok (.ifCond .eq 20, 3) := by decide +kernel
theorem dX6_playSet_29 : decode cX6_playSet 29 = .ok (.aload_n 0, 1) := by decide +kernel
theorem dX6_playSet_30 : decode cX6_playSet 30 = .ok (.getfield 32, 3) := by decide +kernel
theorem dX6_playSet_33 : decode cX6_playSet 33 = .ok (.iload_n 3, 1) := by decide +kernel
theorem dX6_playSet_34 : decode cX6_playSet 34 = .ok (.iconst 0, 1) := by decide +kernel
theorem dX6_playSet_35 : decode cX6_playSet 35 = .ok (.aload_n 0, 1) := by decide +kernel
theorem dX6_playSet_36 : decode cX6_playSet 36 = .ok (.getfield 12, 3) := by decide +kernel
theorem dX6_playSet_39 : decode cX6_playSet 39 = .ok (.iload_n 3, 1) := by decide +kernel
theorem dX6_playSet_40 : decode cX6_playSet 40 = .ok (.invokevirtual 114, 3) := by decide +kernel
theorem dX6_playSet_43 : decode cX6_playSet 43 = .ok (.invokevirtual 142, 3) := by decide +kernel
theorem dX6_playSet_46 : decode cX6_playSet 46 = .ok (.iinc 3 1, 3) := by decide +kernel
theorem dX6_playSet_49 : decode cX6_playSet 49 = .ok (.goto (-39), 3) := by decide +kernel
theorem dX6_playSet_52 : decode cX6_playSet 52 = .ok (.aload_n 0, 1) := by decide +kernel
theorem dX6_playSet_53 : decode cX6_playSet 53 = .ok (.getfield 51, 3) := by decide +kernel
theorem dX6_playSet_56 : decode cX6_playSet 56 = .ok (.aload_n 0, 1) := by decide +kernel
theorem dX6_playSet_57 : decode cX6_playSet 57 = .ok (.getfield 32, 3) := by decide +kernel
theorem dX6_playSet_60 : decode cX6_playSet 60 = .ok (.aload_n 0, 1) := by decide +kernel
theorem dX6_playSet_61 : decode cX6_playSet 61 = .ok (.getfield 12, 3) := by decide +kernel
theorem dX6_playSet_64 : decode cX6_playSet 64 = .ok (.getfield 132, 3) := by decide +kernel
theorem dX6_playSet_67 : decode cX6_playSet 67 = .ok (.aload_n 0, 1) := by decide +kernel
theorem dX6_playSet_68 : decode cX6_playSet 68 = .ok (.getfield 12, 3) := by decide +kernel
theorem dX6_playSet_71 : decode cX6_playSet 71 = .ok (.invokevirtual 251, 3) := by decide +kernel
theorem dX6_playSet_74 : decode cX6_playSet 74 = .ok (.iload_n 2, 1) := by decide +kernel
theorem dX6_playSet_75 : decode cX6_playSet 75 = .ok (.invokevirtual 254, 3) := by decide +kernel
theorem dX6_playSet_78 : decode cX6_playSet 78 = .ok (.return_, 1) := by decide +kernel
theorem dX6_ringEarlyBy_0 : decode cX6_ringEarlyBy 0 = .ok (.aload_n 0, 1) := by decide +kernel
theorem dX6_ringEarlyBy_1 : decode cX6_ringEarlyBy 1 = .ok (.iload_n 1, 1) := by decide +kernel
theorem dX6_ringEarlyBy_2 : decode cX6_ringEarlyBy 2 = .ok (.bipush 100, 2) := by decide +kernel
theorem dX6_ringEarlyBy_4 : decode cX6_ringEarlyBy 4 = .ok (.invokevirtual 191, 3) := by decide +kernel
theorem dX6_ringEarlyBy_7 : decode cX6_ringEarlyBy 7 = .ok (.aload_n 0, 1) := by decide +kernel
theorem dX6_ringEarlyBy_8 : decode cX6_ringEarlyBy 8 = .ok (.getfield 51, 3) := by decide +kernel
theorem dX6_ringEarlyBy_11 : decode cX6_ringEarlyBy 11 = .ok (.bipush 100, 2) := by decide +kernel
theorem dX6_ringEarlyBy_13 : decode cX6_ringEarlyBy 13 = .ok (.invokevirtual 173, 3) := by decide +kernel
theorem dX6_ringEarlyBy_16 : decode cX6_ringEarlyBy 16 = .ok (.ireturn, 1) := by decide +kernel
theorem dX6_lastMinuteTied_0 : decode cX6_lastMinuteTied 0 = .ok (.aload_n 0, 1) := by decide +kernel
theorem dX6_lastMinuteTied_1 : decode cX6_lastMinuteTied 1 = .ok (.getfield 51, 3) := by decide +kernel
theorem dX6_lastMinuteTied_4 : decode cX6_lastMinuteTied 4 = .ok (.aload_n 0, 1) := by decide +kernel
theorem dX6_lastMinuteTied_5 : decode cX6_lastMinuteTied 5 = .ok (.getfield 28, 3) := by decide +kernel
theorem dX6_lastMinuteTied_8 : decode cX6_lastMinuteTied 8 = .ok (.aload_n 0, 1) := by decide +kernel
theorem dX6_lastMinuteTied_9 : decode cX6_lastMinuteTied 9 = .ok (.getfield 12, 3) := by decide +kernel
theorem dX6_lastMinuteTied_12 : decode cX6_lastMinuteTied 12 = .ok (.getfield 132, 3) := by decide +kernel
theorem dX6_lastMinuteTied_15 : decode cX6_lastMinuteTied 15 = .ok (.iload_n 1, 1) := by decide +kernel
theorem dX6_lastMinuteTied_16 : decode cX6_lastMinuteTied 16 = .ok (.ior, 1) := by decide +kernel
theorem dX6_lastMinuteTied_17 : decode cX6_lastMinuteTied 17 = .ok (.aload_n 0, 1) := by decide +kernel
theorem dX6_lastMinuteTied_18 : decode cX6_lastMinuteTied 18 = .ok (.getfield 12, 3) := by decide +kernel
theorem dX6_lastMinuteTied_21 : decode cX6_lastMinuteTied 21 = .ok (.invokevirtual 251, 3) := by decide +kernel
theorem dX6_lastMinuteTied_24 : decode cX6_lastMinuteTied 24 = .ok (.sipush 400, 3) := by decide +kernel
theorem dX6_lastMinuteTied_27 : decode cX6_lastMinuteTied 27 = .ok (.invokevirtual 254, 3) := by decide +kernel
theorem dX6_lastMinuteTied_30 : decode cX6_lastMinuteTied 30 = .ok (.aload_n 0, 1) := by decide +kernel
theorem dX6_lastMinuteTied_31 : decode cX6_lastMinuteTied 31 = .ok (.getfield 51, 3) := by decide +kernel
theorem dX6_lastMinuteTied_34 : decode cX6_lastMinuteTied 34 = .ok (.invokevirtual 157, 3) := by decide +kernel
theorem dX6_lastMinuteTied_37 : decode cX6_lastMinuteTied 37 = .ok (.ireturn, 1) := by decide +kernel
theorem dX6_howManyRingWith_0 : decode cX6_howManyRingWith 0 = .ok (.aload_n 0, 1) := by decide +kernel
theorem dX6_howManyRingWith_1 : decode cX6_howManyRingWith 1 = .ok (.getfield 12, 3) := by decide +kernel
theorem dX6_howManyRingWith_4 : decode cX6_howManyRingWith 4 = .ok (.bipush 8, 2) := by decide +kernel
theorem dX6_howManyRingWith_6 : decode cX6_howManyRingWith 6 = .ok (.iload_n 1, 1) := by decide +kernel
theorem dX6_howManyRingWith_7 : decode cX6_howManyRingWith 7 = .ok (.iload_n 2, 1) := by decide +kernel
theorem dX6_howManyRingWith_8 : decode cX6_howManyRingWith 8 = .ok (.iload_n 3, 1) := by decide +kernel
theorem dX6_howManyRingWith_9 : decode cX6_howManyRingWith 9 = .ok (.invokevirtual 258, 3) := by decide +kernel
theorem dX6_howManyRingWith_12 : decode cX6_howManyRingWith 12 = .ok (.aload_n 0, 1) := by decide +kernel
theorem dX6_howManyRingWith_13 : decode cX6_howManyRingWith 13 = .ok (.getfield 51, 3) := by decide +kernel
theorem dX6_howManyRingWith_16 : decode cX6_howManyRingWith 16 = .ok (.aload_n 0, 1) := by decide +kernel
theorem dX6_howManyRingWith_17 : decode cX6_howManyRingWith 17 = .ok (.getfield 28, 3) := by decide +kernel
theorem dX6_howManyRingWith_20 : decode cX6_howManyRingWith 20 = .ok (.aload_n 0, 1) := by decide +kernel
theorem dX6_howManyRingWith_21 : decode cX6_howManyRingWith 21 = .ok (.getfield 12, 3) := by decide +kernel
theorem dX6_howManyRingWith_24 : decode cX6_howManyRingWith 24 = .ok (.getfield 132, 3) := by decide +kernel
theorem dX6_howManyRingWith_27 : decode cX6_howManyRingWith 27 = .ok (.aload_n 0, 1) := by decide +kernel
theorem dX6_howManyRingWith_28 : decode cX6_howManyRingWith 28 = .ok (.getfield 12, 3) := by decide +kernel
theorem dX6_howManyRingWith_31 : decode cX6_howManyRingWith 31 = .ok (.invokevirtual 251, 3) := by decide +kernel
theorem dX6_howManyRingWith_34 : decode cX6_howManyRingWith 34 = .ok (.sipush 256, 3) := by decide +kernel
theorem dX6_howManyRingWith_37 : decode cX6_howManyRingWith 37 = .ok (.ior, 1) := by decide +kernel
theorem dX6_howManyRingWith_38 : decode cX6_howManyRingWith 38 = .ok (.bipush 100, 2) := by decide +kernel
theorem dX6_howManyRingWith_40 : decode cX6_howManyRingWith 40 = .ok (.invokevirtual 254, 3) := by decide +kernel
theorem dX6_howManyRingWith_43 : decode cX6_howManyRingWith 43 = .ok (.aload_n 0, 1) := by decide +kernel
theorem dX6_howManyRingWith_44 : decode cX6_howManyRingWith 44 = .ok (.getfield 51, 3) := by decide +kernel
theorem dX6_howManyRingWith_47 : decode cX6_howManyRingWith 47 = .ok (.bipush 100, 2) := by decide +kernel
theorem dX6_howManyRingWith_49 : decode cX6_howManyRingWith 49 = .ok (.invokevirtual 173, 3) := by decide +kernel
theorem dX6_howManyRingWith_52 : decode cX6_howManyRingWith 52 = .ok (.invokestatic 176, 3) := by decide +kernel
theorem dX6_howManyRingWith_55 : decode cX6_howManyRingWith 55 = .ok (.ireturn, 1) := by decide +kernel
theorem dX6_playWithout_0 : decode cX6_playWithout 0 = .ok (.aload_n 0, 1) := by decide +kernel
theorem dX6_playWithout_1 : decode cX6_playWithout 1 = .ok (.getfield 51, 3) := by decide +kernel
theorem dX6_playWithout_4 : decode cX6_playWithout 4 = .ok (.aload_n 0, 1) := by decide +kernel
theorem dX6_playWithout_5 : decode cX6_playWithout 5 = .ok (.getfield 28, 3) := by decide +kernel
theorem dX6_playWithout_8 : decode cX6_playWithout 8 = .ok (.aload_n 0, 1) := by decide +kernel
theorem dX6_playWithout_9 : decode cX6_playWithout 9 = .ok (.getfield 12, 3) := by decide +kernel
theorem dX6_playWithout_12 : decode cX6_playWithout 12 = .ok (.getfield 132, 3) := by decide +kernel
theorem dX6_playWithout_15 : decode cX6_playWithout 15 = .ok (.aload_n 0, 1) := by decide +kernel
theorem dX6_playWithout_16 : decode cX6_playWithout 16 = .ok (.getfield 12, 3) := by decide +kernel
theorem dX6_playWithout_19 : decode cX6_playWithout 19 = .ok (.invokevirtual 251, 3) := by decide +kernel
theorem dX6_playWithout_22 : decode cX6_playWithout 22 = .ok (.iconst 1, 1) := by decide +kernel
theorem dX6_playWithout_23 : decode cX6_playWithout 23 = .ok (.iload_n 1, 1) := by decide +kernel
theorem dX6_playWithout_24 : decode cX6_playWithout 24 = .ok (.ishl, 1) := by decide +kernel
theorem dX6_playWithout_25 : decode cX6_playWithout 25 = .ok (.iconst (-1), 1) := by decide +kernel
theorem dX6_playWithout_26 : decode cX6_playWithout 26 = .ok (.ixor, 1) := by decide +kernel
theorem dX6_playWithout_27 : decode cX6_playWithout 27 = .ok (.iand, 1) := by decide +kernel
theorem dX6_playWithout_28 : decode cX6_playWithout 28 = .ok (.iload_n 2, 1) := by decide +kernel
theorem dX6_playWithout_29 : decode cX6_playWithout 29 = .ok (.invokevirtual 254, 3) := by decide +kernel
theorem dX6_playWithout_32 : decode cX6_playWithout 32 = .ok (.return_, 1) := by decide +kernel
theorem dX6_wholeAt_0 : decode cX6_wholeAt 0 = .ok (.aload_n 0, 1) := by decide +kernel
theorem dX6_wholeAt_1 : decode cX6_wholeAt 1 = .ok (.invokevirtual 146, 3) := by decide +kernel
theorem dX6_wholeAt_4 : decode cX6_wholeAt 4 = .ok (.astore 4, 2) := by decide +kernel
theorem dX6_wholeAt_6 : decode cX6_wholeAt 6 = .ok (.iconst 0, 1) := by decide +kernel
theorem dX6_wholeAt_7 : decode cX6_wholeAt 7 = .ok (.istore 5, 2) := by decide +kernel
theorem dX6_wholeAt_9 : decode cX6_wholeAt 9 = .ok (.iconst 0, 1) := by decide +kernel
theorem dX6_wholeAt_10 : decode cX6_wholeAt 10 = .ok (.istore 6, 2) := by decide +kernel
theorem dX6_wholeAt_12 : decode cX6_wholeAt 12 = .ok (.iload 6, 2) := by decide +kernel
theorem dX6_wholeAt_14 : decode cX6_wholeAt 14 = .ok (.sipush 400, 3) := by decide +kernel
theorem dX6_wholeAt_17 : decode cX6_wholeAt 17 = .ok (.if_icmp .ge 37, 3) := by decide +kernel
theorem dX6_wholeAt_20 : decode cX6_wholeAt 20 = .ok (.aload 4, 2) := by decide +kernel
theorem dX6_wholeAt_22 : decode cX6_wholeAt 22 = .ok (.aload_n 1, 1) := by decide +kernel
theorem dX6_wholeAt_23 : decode cX6_wholeAt 23 = .ok (.iload_n 2, 1) := by decide +kernel
theorem dX6_wholeAt_24 : decode cX6_wholeAt 24 = .ok (.iload 5, 2) := by decide +kernel
theorem dX6_wholeAt_26 : decode cX6_wholeAt 26 = .ok (.iadd, 1) := by decide +kernel
theorem dX6_wholeAt_27 : decode cX6_wholeAt 27 = .ok (.iaload, 1) := by decide +kernel
theorem dX6_wholeAt_28 : decode cX6_wholeAt 28 = .ok (.iload 6, 2) := by decide +kernel
theorem dX6_wholeAt_30 : decode cX6_wholeAt 30 = .ok (.invokevirtual 150, 3) := by decide +kernel
theorem dX6_wholeAt_33 : decode cX6_wholeAt 33 = .ok (.ifCond .eq 15, 3) := by decide +kernel
theorem dX6_wholeAt_36 : decode cX6_wholeAt 36 = .ok (.iinc 5 1, 3) := by decide +kernel
theorem dX6_wholeAt_39 : decode cX6_wholeAt 39 = .ok (.iload 5, 2) := by decide +kernel
theorem dX6_wholeAt_41 : decode cX6_wholeAt 41 = .ok (.iload_n 3, 1) := by decide +kernel
theorem dX6_wholeAt_42 : decode cX6_wholeAt 42 = .ok (.if_icmp .ne 6, 3) := by decide +kernel
theorem dX6_wholeAt_45 : decode cX6_wholeAt 45 = .ok (.iload 6, 2) := by decide +kernel
theorem dX6_wholeAt_47 : decode cX6_wholeAt 47 = .ok (.ireturn, 1) := by decide +kernel
theorem dX6_wholeAt_48 : decode cX6_wholeAt 48 = .ok (.iinc 6 1, 3) := by decide +kernel
theorem dX6_wholeAt_51 : decode cX6_wholeAt 51 = .ok (.goto (-39), 3) := by decide +kernel
theorem dX6_wholeAt_54 : decode cX6_wholeAt 54 = .ok (.bipush (-9), 2) := by decide +kernel
theorem dX6_wholeAt_56 : decode cX6_wholeAt 56 = .ok (.ireturn, 1) := by decide +kernel
theorem dX6_leave_0 : decode cX6_leave 0 = .ok (.aload_n 0, 1) := by decide +kernel
theorem dX6_leave_1 : decode cX6_leave 1 = .ok (.bipush 31, 2) := by decide +kernel
theorem dX6_leave_3 : decode cX6_leave 3 = .ok (.aload_n 0, 1) := by decide +kernel
theorem dX6_leave_4 : decode cX6_leave 4 = .ok (.getfield 248, 3) := by decide +kernel
theorem dX6_leave_7 : decode cX6_leave 7 = .ok (.imul, 1) := by decide +kernel
theorem dX6_leave_8 : decode cX6_leave 8 = .ok (.iload_n 1, 1) := by decide +kernel
theorem dX6_leave_9 : decode cX6_leave 9 = .ok (.iadd, 1) := by decide +kernel
theorem dX6_leave_10 : decode cX6_leave 10 = .ok (.putfield 248, 3) := by decide +kernel
theorem dX6_leave_13 : decode cX6_leave 13 = .ok (.return_, 1) := by decide +kernel
theorem dX6_bellTells_0 : decode cX6_bellTells 0 = .ok (.aload_n 0, 1) := by decide +kernel
theorem dX6_bellTells_1 : decode cX6_bellTells 1 = .ok (.iconst 1, 1) := by decide +kernel
theorem dX6_bellTells_2 : decode cX6_bellTells 2 = .ok (.invokevirtual 262, 3) := by decide +kernel
theorem dX6_bellTells_5 : decode cX6_bellTells 5 = .ok (.aload_n 0, 1) := by decide +kernel
theorem dX6_bellTells_6 : decode cX6_bellTells 6 = .ok (.getfield 12, 3) := by decide +kernel
theorem dX6_bellTells_9 : decode cX6_bellTells 9 = .ok (.getfield 111, 3) := by decide +kernel
theorem dX6_bellTells_12 : decode cX6_bellTells 12 = .ok (.iload_n 1, 1) := by decide +kernel
theorem dX6_bellTells_13 : decode cX6_bellTells 13 = .ok (.iaload, 1) := by decide +kernel
theorem dX6_bellTells_14 : decode cX6_bellTells 14 = .ok (.ireturn, 1) := by decide +kernel
theorem dX6_greatTells_0 : decode cX6_greatTells 0 = .ok (.aload_n 0, 1) := by decide +kernel
theorem dX6_greatTells_1 : decode cX6_greatTells 1 = .ok (.iconst 2, 1) := by decide +kernel
theorem dX6_greatTells_2 : decode cX6_greatTells 2 = .ok (.invokevirtual 262, 3) := by decide +kernel
theorem dX6_greatTells_5 : decode cX6_greatTells 5 = .ok (.aload_n 0, 1) := by decide +kernel
theorem dX6_greatTells_6 : decode cX6_greatTells 6 = .ok (.iload_n 1, 1) := by decide +kernel
theorem dX6_greatTells_7 : decode cX6_greatTells 7 = .ok (.invokevirtual 239, 3) := by decide +kernel
theorem dX6_greatTells_10 : decode cX6_greatTells 10 = .ok (.bipush 100, 2) := by decide +kernel
theorem dX6_greatTells_12 : decode cX6_greatTells 12 = .ok (.iadd, 1) := by decide +kernel
theorem dX6_greatTells_13 : decode cX6_greatTells 13 = .ok (.ireturn, 1) := by decide +kernel
theorem dX6_deafTells_0 : decode cX6_deafTells 0 = .ok (.aload_n 0, 1) := by decide +kernel
theorem dX6_deafTells_1 : decode cX6_deafTells 1 = .ok (.iconst 3, 1) := by decide +kernel
theorem dX6_deafTells_2 : decode cX6_deafTells 2 = .ok (.invokevirtual 262, 3) := by decide +kernel
theorem dX6_deafTells_5 : decode cX6_deafTells 5 = .ok (.aload_n 0, 1) := by decide +kernel
theorem dX6_deafTells_6 : decode cX6_deafTells 6 = .ok (.iload_n 1, 1) := by decide +kernel
theorem dX6_deafTells_7 : decode cX6_deafTells 7 = .ok (.invokevirtual 233, 3) := by decide +kernel
theorem dX6_deafTells_10 : decode cX6_deafTells 10 = .ok (.istore_n 2, 1) := by decide +kernel
theorem dX6_deafTells_11 : decode cX6_deafTells 11 = .ok (.iload_n 2, 1) := by decide +kernel
theorem dX6_deafTells_12 : decode cX6_deafTells 12 = .ok (.aload_n 0, 1) := by decide +kernel
theorem dX6_deafTells_13 : decode cX6_deafTells 13 = .ok (.iload_n 1, 1) := by decide +kernel
theorem dX6_deafTells_14 : decode cX6_deafTells 14 = .ok (.invokevirtual 239, 3) := by decide +kernel
theorem dX6_deafTells_17 : decode cX6_deafTells 17 = .ok (.iadd, 1) := by decide +kernel
theorem dX6_deafTells_18 : decode cX6_deafTells 18 = .ok (.ireturn, 1) := by decide +kernel
theorem dX6_lentHailed_0 : decode cX6_lentHailed 0 = .ok (.aload_n 0, 1) := by decide +kernel
theorem dX6_lentHailed_1 : decode cX6_lentHailed 1 = .ok (.iconst 4, 1) := by decide +kernel
theorem dX6_lentHailed_2 : decode cX6_lentHailed 2 = .ok (.invokevirtual 262, 3) := by decide +kernel
theorem dX6_lentHailed_5 : decode cX6_lentHailed 5 = .ok (.iload_n 1, 1) := by decide +kernel
theorem dX6_lentHailed_6 : decode cX6_lentHailed 6 = .ok (.ireturn, 1) := by decide +kernel
theorem dX6_deafHailed_0 : decode cX6_deafHailed 0 = .ok (.aload_n 0, 1) := by decide +kernel
theorem dX6_deafHailed_1 : decode cX6_deafHailed 1 = .ok (.iconst 5, 1) := by decide +kernel
theorem dX6_deafHailed_2 : decode cX6_deafHailed 2 = .ok (.invokevirtual 262, 3) := by decide +kernel
theorem dX6_deafHailed_5 : decode cX6_deafHailed 5 = .ok (.bipush 90, 2) := by decide +kernel
theorem dX6_deafHailed_7 : decode cX6_deafHailed 7 = .ok (.ireturn, 1) := by decide +kernel
theorem dJ6_bitCount_0f7a4_0 : decode cJ6_bitCount_0f7a4 0 = .ok (.iload_n 0, 1) := by decide +kernel
theorem dJ6_bitCount_0f7a4_1 : decode cJ6_bitCount_0f7a4 1 = .ok (.iload_n 0, 1) := by decide +kernel
theorem dJ6_bitCount_0f7a4_2 : decode cJ6_bitCount_0f7a4 2 = .ok (.iconst 1, 1) := by decide +kernel
theorem dJ6_bitCount_0f7a4_3 : decode cJ6_bitCount_0f7a4 3 = .ok (.iushr, 1) := by decide +kernel
theorem dJ6_bitCount_0f7a4_4 : decode cJ6_bitCount_0f7a4 4 = .ok (.ldc_w 265, 3) := by decide +kernel
theorem dJ6_bitCount_0f7a4_7 : decode cJ6_bitCount_0f7a4 7 = .ok (.iand, 1) := by decide +kernel
theorem dJ6_bitCount_0f7a4_8 : decode cJ6_bitCount_0f7a4 8 = .ok (.isub, 1) := by decide +kernel
theorem dJ6_bitCount_0f7a4_9 : decode cJ6_bitCount_0f7a4 9 = .ok (.istore_n 0, 1) := by decide +kernel
theorem dJ6_bitCount_0f7a4_10 : decode cJ6_bitCount_0f7a4 10 = .ok (.iload_n 0, 1) := by decide +kernel
theorem dJ6_bitCount_0f7a4_11 : decode cJ6_bitCount_0f7a4 11 = .ok (.ldc_w 266, 3) := by decide +kernel
theorem dJ6_bitCount_0f7a4_14 : decode cJ6_bitCount_0f7a4 14 = .ok (.iand, 1) := by decide +kernel
theorem dJ6_bitCount_0f7a4_15 : decode cJ6_bitCount_0f7a4 15 = .ok (.iload_n 0, 1) := by decide +kernel
theorem dJ6_bitCount_0f7a4_16 : decode cJ6_bitCount_0f7a4 16 = .ok (.iconst 2, 1) := by decide +kernel
theorem dJ6_bitCount_0f7a4_17 : decode cJ6_bitCount_0f7a4 17 = .ok (.iushr, 1) := by decide +kernel
theorem dJ6_bitCount_0f7a4_18 : decode cJ6_bitCount_0f7a4 18 = .ok (.ldc_w 266, 3) := by decide +kernel
theorem dJ6_bitCount_0f7a4_21 : decode cJ6_bitCount_0f7a4 21 = .ok (.iand, 1) := by decide +kernel
theorem dJ6_bitCount_0f7a4_22 : decode cJ6_bitCount_0f7a4 22 = .ok (.iadd, 1) := by decide +kernel
theorem dJ6_bitCount_0f7a4_23 : decode cJ6_bitCount_0f7a4 23 = .ok (.istore_n 0, 1) := by decide +kernel
theorem dJ6_bitCount_0f7a4_24 : decode cJ6_bitCount_0f7a4 24 = .ok (.iload_n 0, 1) := by decide +kernel
theorem dJ6_bitCount_0f7a4_25 : decode cJ6_bitCount_0f7a4 25 = .ok (.iload_n 0, 1) := by decide +kernel
theorem dJ6_bitCount_0f7a4_26 : decode cJ6_bitCount_0f7a4 26 = .ok (.iconst 4, 1) := by decide +kernel
theorem dJ6_bitCount_0f7a4_27 : decode cJ6_bitCount_0f7a4 27 = .ok (.iushr, 1) := by decide +kernel
theorem dJ6_bitCount_0f7a4_28 : decode cJ6_bitCount_0f7a4 28 = .ok (.iadd, 1) := by decide +kernel
theorem dJ6_bitCount_0f7a4_29 : decode cJ6_bitCount_0f7a4 29 = .ok (.ldc_w 267, 3) := by decide +kernel
theorem dJ6_bitCount_0f7a4_32 : decode cJ6_bitCount_0f7a4 32 = .ok (.iand, 1) := by decide +kernel
theorem dJ6_bitCount_0f7a4_33 : decode cJ6_bitCount_0f7a4 33 = .ok (.istore_n 0, 1) := by decide +kernel
theorem dJ6_bitCount_0f7a4_34 : decode cJ6_bitCount_0f7a4 34 = .ok (.iload_n 0, 1) := by decide +kernel
theorem dJ6_bitCount_0f7a4_35 : decode cJ6_bitCount_0f7a4 35 = .ok (.iload_n 0, 1) := by decide +kernel
theorem dJ6_bitCount_0f7a4_36 : decode cJ6_bitCount_0f7a4 36 = .ok (.bipush 8, 2) := by decide +kernel
theorem dJ6_bitCount_0f7a4_38 : decode cJ6_bitCount_0f7a4 38 = .ok (.iushr, 1) := by decide +kernel
theorem dJ6_bitCount_0f7a4_39 : decode cJ6_bitCount_0f7a4 39 = .ok (.iadd, 1) := by decide +kernel
theorem dJ6_bitCount_0f7a4_40 : decode cJ6_bitCount_0f7a4 40 = .ok (.istore_n 0, 1) := by decide +kernel
theorem dJ6_bitCount_0f7a4_41 : decode cJ6_bitCount_0f7a4 41 = .ok (.iload_n 0, 1) := by decide +kernel
theorem dJ6_bitCount_0f7a4_42 : decode cJ6_bitCount_0f7a4 42 = .ok (.iload_n 0, 1) := by decide +kernel
theorem dJ6_bitCount_0f7a4_43 : decode cJ6_bitCount_0f7a4 43 = .ok (.bipush 16, 2) := by decide +kernel
theorem dJ6_bitCount_0f7a4_45 : decode cJ6_bitCount_0f7a4 45 = .ok (.iushr, 1) := by decide +kernel
theorem dJ6_bitCount_0f7a4_46 : decode cJ6_bitCount_0f7a4 46 = .ok (.iadd, 1) := by decide +kernel
theorem dJ6_bitCount_0f7a4_47 : decode cJ6_bitCount_0f7a4 47 = .ok (.istore_n 0, 1) := by decide +kernel
theorem dJ6_bitCount_0f7a4_48 : decode cJ6_bitCount_0f7a4 48 = .ok (.iload_n 0, 1) := by decide +kernel
theorem dJ6_bitCount_0f7a4_49 : decode cJ6_bitCount_0f7a4 49 = .ok (.bipush 63, 2) := by decide +kernel
theorem dJ6_bitCount_0f7a4_51 : decode cJ6_bitCount_0f7a4 51 = .ok (.iand, 1) := by decide +kernel
theorem dJ6_bitCount_0f7a4_52 : decode cJ6_bitCount_0f7a4 52 = .ok (.ireturn, 1) := by decide +kernel
theorem dJ9_max_7cf53_0 : decode cJ9_max_7cf53 0 = .ok (.iload_n 0, 1) := by decide +kernel
theorem dJ9_max_7cf53_1 : decode cJ9_max_7cf53 1 = .ok (.iload_n 1, 1) := by decide +kernel
theorem dJ9_max_7cf53_2 : decode cJ9_max_7cf53 2 = .ok (.if_icmp .lt 7, 3) := by decide +kernel
theorem dJ9_max_7cf53_5 : decode cJ9_max_7cf53 5 = .ok (.iload_n 0, 1) := by decide +kernel
theorem dJ9_max_7cf53_6 : decode cJ9_max_7cf53 6 = .ok (.goto 4, 3) := by decide +kernel
theorem dJ9_max_7cf53_9 : decode cJ9_max_7cf53 9 = .ok (.iload_n 1, 1) := by decide +kernel
theorem dJ9_max_7cf53_10 : decode cJ9_max_7cf53 10 = .ok (.ireturn, 1) := by decide +kernel
theorem dJ7_fill_53178_0 : decode cJ7_fill_53178 0 = .ok (.iconst 0, 1) := by decide +kernel
theorem dJ7_fill_53178_1 : decode cJ7_fill_53178 1 = .ok (.istore_n 2, 1) := by decide +kernel
theorem dJ7_fill_53178_2 : decode cJ7_fill_53178 2 = .ok (.aload_n 0, 1) := by decide +kernel
theorem dJ7_fill_53178_3 : decode cJ7_fill_53178 3 = .ok (.arraylength, 1) := by decide +kernel
theorem dJ7_fill_53178_4 : decode cJ7_fill_53178 4 = .ok (.istore_n 3, 1) := by decide +kernel
theorem dJ7_fill_53178_5 : decode cJ7_fill_53178 5 = .ok (.iload_n 2, 1) := by decide +kernel
theorem dJ7_fill_53178_6 : decode cJ7_fill_53178 6 = .ok (.iload_n 3, 1) := by decide +kernel
theorem dJ7_fill_53178_7 : decode cJ7_fill_53178 7 = .ok (.if_icmp .ge 13, 3) := by decide +kernel
theorem dJ7_fill_53178_10 : decode cJ7_fill_53178 10 = .ok (.aload_n 0, 1) := by decide +kernel
theorem dJ7_fill_53178_11 : decode cJ7_fill_53178 11 = .ok (.iload_n 2, 1) := by decide +kernel
theorem dJ7_fill_53178_12 : decode cJ7_fill_53178 12 = .ok (.iload_n 1, 1) := by decide +kernel
theorem dJ7_fill_53178_13 : decode cJ7_fill_53178 13 = .ok (.iastore, 1) := by decide +kernel
theorem dJ7_fill_53178_14 : decode cJ7_fill_53178 14 = .ok (.iinc 2 1, 3) := by decide +kernel
theorem dJ7_fill_53178_17 : decode cJ7_fill_53178 17 = .ok (.goto (-12), 3) := by decide +kernel
theorem dJ7_fill_53178_20 : decode cJ7_fill_53178 20 = .ok (.return_, 1) := by decide +kernel
