theorem d_Player_isClosed_0 : decode prog_3_method_7_code 0 = .ok (.iconst 0, 1) := by decide +kernel
theorem d_Player_isClosed_1 : decode prog_3_method_7_code 1 = .ok (.istore_n 1, 1) := by decide +kernel
theorem d_Player_isClosed_2 : decode prog_3_method_7_code 2 = .ok (.iload_n 1, 1) := by decide +kernel
theorem d_Player_isClosed_3 : decode prog_3_method_7_code 3 = .ok (.aload_n 0, 1) := by decide +kernel
theorem d_Player_isClosed_4 : decode prog_3_method_7_code 4 = .ok (.getfield 38, 3) := by decide +kernel
theorem d_Player_isClosed_7 : decode prog_3_method_7_code 7 = .ok (.if_icmp .ge 23, 3) := by decide +kernel
theorem d_Player_isClosed_10 : decode prog_3_method_7_code 10 = .ok (.aload_n 0, 1) := by decide +kernel
theorem d_Player_isClosed_11 : decode prog_3_method_7_code 11 = .ok (.getfield 15, 3) := by decide +kernel
theorem d_Player_isClosed_14 : decode prog_3_method_7_code 14 = .ok (.iload_n 1, 1) := by decide +kernel
theorem d_Player_isClosed_15 : decode prog_3_method_7_code 15 = .ok (.iaload, 1) := by decide +kernel
theorem d_Player_isClosed_16 : decode prog_3_method_7_code 16 = .ok (.iconst 4, 1) := by decide +kernel
theorem d_Player_isClosed_17 : decode prog_3_method_7_code 17 = .ok (.irem, 1) := by decide +kernel
theorem d_Player_isClosed_18 : decode prog_3_method_7_code 18 = .ok (.iconst 3, 1) := by decide +kernel
theorem d_Player_isClosed_19 : decode prog_3_method_7_code 19 = .ok (.if_icmp .eq 5, 3) := by decide +kernel
theorem d_Player_isClosed_22 : decode prog_3_method_7_code 22 = .ok (.iconst 0, 1) := by decide +kernel
theorem d_Player_isClosed_23 : decode prog_3_method_7_code 23 = .ok (.ireturn, 1) := by decide +kernel
theorem d_Player_isClosed_24 : decode prog_3_method_7_code 24 = .ok (.iinc 1 1, 3) := by decide +kernel
theorem d_Player_isClosed_27 : decode prog_3_method_7_code 27 = .ok (.goto (-25), 3) := by decide +kernel
theorem d_Player_isClosed_30 : decode prog_3_method_7_code 30 = .ok (.iconst 1, 1) := by decide +kernel
theorem d_Player_isClosed_31 : decode prog_3_method_7_code 31 = .ok (.ireturn, 1) := by decide +kernel
theorem d_Shape_countIn_0 : decode prog_4_method_3_code 0 = .ok (.iload_n 0, 1) := by decide +kernel
theorem d_Shape_countIn_1 : decode prog_4_method_3_code 1 = .ok (.iconst 4, 1) := by decide +kernel
theorem d_Shape_countIn_2 : decode prog_4_method_3_code 2 = .ok (.idiv, 1) := by decide +kernel
theorem d_Shape_countIn_3 : decode prog_4_method_3_code 3 = .ok (.istore_n 2, 1) := by decide +kernel
theorem d_Shape_countIn_4 : decode prog_4_method_3_code 4 = .ok (.iload_n 0, 1) := by decide +kernel
theorem d_Shape_countIn_5 : decode prog_4_method_3_code 5 = .ok (.iconst 4, 1) := by decide +kernel
theorem d_Shape_countIn_6 : decode prog_4_method_3_code 6 = .ok (.irem, 1) := by decide +kernel
theorem d_Shape_countIn_7 : decode prog_4_method_3_code 7 = .ok (.istore_n 3, 1) := by decide +kernel
theorem d_Shape_countIn_8 : decode prog_4_method_3_code 8 = .ok (.iload_n 3, 1) := by decide +kernel
theorem d_Shape_countIn_9 : decode prog_4_method_3_code 9 = .ok (.ifCond .ne 21, 3) := by decide +kernel
theorem d_Shape_countIn_12 : decode prog_4_method_3_code 12 = .ok (.iload_n 1, 1) := by decide +kernel
theorem d_Shape_countIn_13 : decode prog_4_method_3_code 13 = .ok (.iload_n 2, 1) := by decide +kernel
theorem d_Shape_countIn_14 : decode prog_4_method_3_code 14 = .ok (.if_icmp .lt 14, 3) := by decide +kernel
theorem d_Shape_countIn_17 : decode prog_4_method_3_code 17 = .ok (.iload_n 1, 1) := by decide +kernel
theorem d_Shape_countIn_18 : decode prog_4_method_3_code 18 = .ok (.iload_n 2, 1) := by decide +kernel
theorem d_Shape_countIn_19 : decode prog_4_method_3_code 19 = .ok (.iconst 2, 1) := by decide +kernel
theorem d_Shape_countIn_20 : decode prog_4_method_3_code 20 = .ok (.iadd, 1) := by decide +kernel
theorem d_Shape_countIn_21 : decode prog_4_method_3_code 21 = .ok (.if_icmp .gt 7, 3) := by decide +kernel
theorem d_Shape_countIn_24 : decode prog_4_method_3_code 24 = .ok (.iconst 1, 1) := by decide +kernel
theorem d_Shape_countIn_25 : decode prog_4_method_3_code 25 = .ok (.goto 4, 3) := by decide +kernel
theorem d_Shape_countIn_28 : decode prog_4_method_3_code 28 = .ok (.iconst 0, 1) := by decide +kernel
theorem d_Shape_countIn_29 : decode prog_4_method_3_code 29 = .ok (.ireturn, 1) := by decide +kernel
theorem d_Shape_countIn_30 : decode prog_4_method_3_code 30 = .ok (.iload_n 1, 1) := by decide +kernel
theorem d_Shape_countIn_31 : decode prog_4_method_3_code 31 = .ok (.iload_n 2, 1) := by decide +kernel
theorem d_Shape_countIn_32 : decode prog_4_method_3_code 32 = .ok (.if_icmp .eq 5, 3) := by decide +kernel
theorem d_Shape_countIn_35 : decode prog_4_method_3_code 35 = .ok (.iconst 0, 1) := by decide +kernel
theorem d_Shape_countIn_36 : decode prog_4_method_3_code 36 = .ok (.ireturn, 1) := by decide +kernel
theorem d_Shape_countIn_37 : decode prog_4_method_3_code 37 = .ok (.iload_n 3, 1) := by decide +kernel
theorem d_Shape_countIn_38 : decode prog_4_method_3_code 38 = .ok (.iconst 1, 1) := by decide +kernel
theorem d_Shape_countIn_39 : decode prog_4_method_3_code 39 = .ok (.if_icmp .ne 7, 3) := by decide +kernel
theorem d_Shape_countIn_42 : decode prog_4_method_3_code 42 = .ok (.iconst 3, 1) := by decide +kernel
theorem d_Shape_countIn_43 : decode prog_4_method_3_code 43 = .ok (.goto 4, 3) := by decide +kernel
theorem d_Shape_countIn_46 : decode prog_4_method_3_code 46 = .ok (.iconst 4, 1) := by decide +kernel
theorem d_Shape_countIn_47 : decode prog_4_method_3_code 47 = .ok (.ireturn, 1) := by decide +kernel
theorem d_Splitter_addSets_0 : decode prog_5_method_8_code 0 = .ok (.iconst 0, 1) := by decide +kernel
theorem d_Splitter_addSets_1 : decode prog_5_method_8_code 1 = .ok (.istore_n 3, 1) := by decide +kernel
theorem d_Splitter_addSets_2 : decode prog_5_method_8_code 2 = .ok (.iload_n 3, 1) := by decide +kernel
theorem d_Splitter_addSets_3 : decode prog_5_method_8_code 3 = .ok (.iload_n 2, 1) := by decide +kernel
theorem d_Splitter_addSets_4 : decode prog_5_method_8_code 4 = .ok (.if_icmp .ge 37, 3) := by decide +kernel
theorem d_Splitter_addSets_7 : decode prog_5_method_8_code 7 = .ok (.aload_n 0, 1) := by decide +kernel
theorem d_Splitter_addSets_8 : decode prog_5_method_8_code 8 = .ok (.getfield 21, 3) := by decide +kernel
theorem d_Splitter_addSets_11 : decode prog_5_method_8_code 11 = .ok (.iconst 4, 1) := by decide +kernel
theorem d_Splitter_addSets_12 : decode prog_5_method_8_code 12 = .ok (.if_icmp .ge 29, 3) := by decide +kernel
theorem d_Splitter_addSets_15 : decode prog_5_method_8_code 15 = .ok (.aload_n 0, 1) := by decide +kernel
theorem d_Splitter_addSets_16 : decode prog_5_method_8_code 16 = .ok (.getfield 15, 3) := by decide +kernel
theorem d_Splitter_addSets_19 : decode prog_5_method_8_code 19 = .ok (.aload_n 0, 1) := by decide +kernel
theorem d_Splitter_addSets_20 : decode prog_5_method_8_code 20 = .ok (.getfield 21, 3) := by decide +kernel
theorem d_Splitter_addSets_23 : decode prog_5_method_8_code 23 = .ok (.iload_n 1, 1) := by decide +kernel
theorem d_Splitter_addSets_24 : decode prog_5_method_8_code 24 = .ok (.iastore, 1) := by decide +kernel
theorem d_Splitter_addSets_25 : decode prog_5_method_8_code 25 = .ok (.aload_n 0, 1) := by decide +kernel
theorem d_Splitter_addSets_26 : decode prog_5_method_8_code 26 = .ok (.dup, 1) := by decide +kernel
theorem d_Splitter_addSets_27 : decode prog_5_method_8_code 27 = .ok (.getfield 21, 3) := by decide +kernel
theorem d_Splitter_addSets_30 : decode prog_5_method_8_code 30 = .ok (.iconst 1, 1) := by decide +kernel
theorem d_Splitter_addSets_31 : decode prog_5_method_8_code 31 = .ok (.iadd, 1) := by decide +kernel
theorem d_Splitter_addSets_32 : decode prog_5_method_8_code 32 = .ok (.putfield 21, 3) := by decide +kernel
theorem d_Splitter_addSets_35 : decode prog_5_method_8_code 35 = .ok (.iinc 3 1, 3) := by decide +kernel
theorem d_Splitter_addSets_38 : decode prog_5_method_8_code 38 = .ok (.goto (-36), 3) := by decide +kernel
theorem d_Splitter_addSets_41 : decode prog_5_method_8_code 41 = .ok (.return_, 1) := by decide +kernel
theorem d_Splitter_takeMelds_0 : decode prog_5_method_2_code 0 = .ok (.aload_n 0, 1) := by decide +kernel
theorem d_Splitter_takeMelds_1 : decode prog_5_method_2_code 1 = .ok (.iconst 0, 1) := by decide +kernel
theorem d_Splitter_takeMelds_2 : decode prog_5_method_2_code 2 = .ok (.putfield 21, 3) := by decide +kernel
theorem d_Splitter_takeMelds_5 : decode prog_5_method_2_code 5 = .ok (.iconst 0, 1) := by decide +kernel
theorem d_Splitter_takeMelds_6 : decode prog_5_method_2_code 6 = .ok (.istore_n 2, 1) := by decide +kernel
theorem d_Splitter_takeMelds_7 : decode prog_5_method_2_code 7 = .ok (.iload_n 2, 1) := by decide +kernel
theorem d_Splitter_takeMelds_8 : decode prog_5_method_2_code 8 = .ok (.aload_n 1, 1) := by decide +kernel
theorem d_Splitter_takeMelds_9 : decode prog_5_method_2_code 9 = .ok (.getfield 25, 3) := by decide +kernel
theorem d_Splitter_takeMelds_12 : decode prog_5_method_2_code 12 = .ok (.if_icmp .ge 20, 3) := by decide +kernel
theorem d_Splitter_takeMelds_15 : decode prog_5_method_2_code 15 = .ok (.aload_n 0, 1) := by decide +kernel
theorem d_Splitter_takeMelds_16 : decode prog_5_method_2_code 16 = .ok (.aload_n 1, 1) := by decide +kernel
theorem d_Splitter_takeMelds_17 : decode prog_5_method_2_code 17 = .ok (.getfield 30, 3) := by decide +kernel
theorem d_Splitter_takeMelds_20 : decode prog_5_method_2_code 20 = .ok (.iload_n 2, 1) := by decide +kernel
theorem d_Splitter_takeMelds_21 : decode prog_5_method_2_code 21 = .ok (.iaload, 1) := by decide +kernel
theorem d_Splitter_takeMelds_22 : decode prog_5_method_2_code 22 = .ok (.iconst 1, 1) := by decide +kernel
theorem d_Splitter_takeMelds_23 : decode prog_5_method_2_code 23 = .ok (.invokevirtual 33, 3) := by decide +kernel
theorem d_Splitter_takeMelds_26 : decode prog_5_method_2_code 26 = .ok (.iinc 2 1, 3) := by decide +kernel
theorem d_Splitter_takeMelds_29 : decode prog_5_method_2_code 29 = .ok (.goto (-22), 3) := by decide +kernel
theorem d_Splitter_takeMelds_32 : decode prog_5_method_2_code 32 = .ok (.return_, 1) := by decide +kernel
theorem d_Judge_lookAt_0 : decode prog_2_method_2_code 0 = .ok (.aload_n 0, 1) := by decide +kernel
theorem d_Judge_lookAt_1 : decode prog_2_method_2_code 1 = .ok (.iload_n 2, 1) := by decide +kernel
theorem d_Judge_lookAt_2 : decode prog_2_method_2_code 2 = .ok (.putfield 35, 3) := by decide +kernel
theorem d_Judge_lookAt_5 : decode prog_2_method_2_code 5 = .ok (.aload_n 0, 1) := by decide +kernel
theorem d_Judge_lookAt_6 : decode prog_2_method_2_code 6 = .ok (.iload_n 3, 1) := by decide +kernel
theorem d_Judge_lookAt_7 : decode prog_2_method_2_code 7 = .ok (.putfield 39, 3) := by decide +kernel
theorem d_Judge_lookAt_10 : decode prog_2_method_2_code 10 = .ok (.aload_n 0, 1) := by decide +kernel
theorem d_Judge_lookAt_11 : decode prog_2_method_2_code 11 = .ok (.aload_n 1, 1) := by decide +kernel
theorem d_Judge_lookAt_12 : decode prog_2_method_2_code 12 = .ok (.getfield 43, 3) := by decide +kernel
theorem d_Judge_lookAt_15 : decode prog_2_method_2_code 15 = .ok (.putfield 48, 3) := by decide +kernel
theorem d_Judge_lookAt_18 : decode prog_2_method_2_code 18 = .ok (.aload_n 0, 1) := by decide +kernel
theorem d_Judge_lookAt_19 : decode prog_2_method_2_code 19 = .ok (.aload_n 1, 1) := by decide +kernel
theorem d_Judge_lookAt_20 : decode prog_2_method_2_code 20 = .ok (.invokevirtual 49, 3) := by decide +kernel
theorem d_Judge_lookAt_23 : decode prog_2_method_2_code 23 = .ok (.putfield 53, 3) := by decide +kernel
theorem d_Judge_lookAt_26 : decode prog_2_method_2_code 26 = .ok (.aload_n 0, 1) := by decide +kernel
theorem d_Judge_lookAt_27 : decode prog_2_method_2_code 27 = .ok (.getfield 12, 3) := by decide +kernel
theorem d_Judge_lookAt_30 : decode prog_2_method_2_code 30 = .ok (.aload_n 1, 1) := by decide +kernel
theorem d_Judge_lookAt_31 : decode prog_2_method_2_code 31 = .ok (.invokevirtual 56, 3) := by decide +kernel
theorem d_Judge_lookAt_34 : decode prog_2_method_2_code 34 = .ok (.iconst 0, 1) := by decide +kernel
theorem d_Judge_lookAt_35 : decode prog_2_method_2_code 35 = .ok (.istore 4, 2) := by decide +kernel
theorem d_Judge_lookAt_37 : decode prog_2_method_2_code 37 = .ok (.iload 4, 2) := by decide +kernel
theorem d_Judge_lookAt_39 : decode prog_2_method_2_code 39 = .ok (.bipush 34, 2) := by decide +kernel
theorem d_Judge_lookAt_41 : decode prog_2_method_2_code 41 = .ok (.if_icmp .ge 90, 3) := by decide +kernel
theorem d_Judge_lookAt_44 : decode prog_2_method_2_code 44 = .ok (.aload_n 1, 1) := by decide +kernel
theorem d_Judge_lookAt_45 : decode prog_2_method_2_code 45 = .ok (.getfield 60, 3) := by decide +kernel
theorem d_Judge_lookAt_48 : decode prog_2_method_2_code 48 = .ok (.iload 4, 2) := by decide +kernel
theorem d_Judge_lookAt_50 : decode prog_2_method_2_code 50 = .ok (.iaload, 1) := by decide +kernel
theorem d_Judge_lookAt_51 : decode prog_2_method_2_code 51 = .ok (.iload 4, 2) := by decide +kernel
theorem d_Judge_lookAt_53 : decode prog_2_method_2_code 53 = .ok (.iload_n 2, 1) := by decide +kernel
theorem d_Judge_lookAt_54 : decode prog_2_method_2_code 54 = .ok (.if_icmp .ne 11, 3) := by decide +kernel
theorem d_Judge_lookAt_57 : decode prog_2_method_2_code 57 = .ok (.iload_n 3, 1) := by decide +kernel
theorem d_Judge_lookAt_58 : decode prog_2_method_2_code 58 = .ok (.ifCond .ne 7, 3) := by decide +kernel
theorem d_Judge_lookAt_61 : decode prog_2_method_2_code 61 = .ok (.iconst 1, 1) := by decide +kernel
theorem d_Judge_lookAt_62 : decode prog_2_method_2_code 62 = .ok (.goto 4, 3) := by decide +kernel
theorem d_Judge_lookAt_65 : decode prog_2_method_2_code 65 = .ok (.iconst 0, 1) := by decide +kernel
theorem d_Judge_lookAt_66 : decode prog_2_method_2_code 66 = .ok (.iadd, 1) := by decide +kernel
theorem d_Judge_lookAt_67 : decode prog_2_method_2_code 67 = .ok (.istore 5, 2) := by decide +kernel
theorem d_Judge_lookAt_69 : decode prog_2_method_2_code 69 = .ok (.aload_n 0, 1) := by decide +kernel
theorem d_Judge_lookAt_70 : decode prog_2_method_2_code 70 = .ok (.getfield 12, 3) := by decide +kernel
theorem d_Judge_lookAt_73 : decode prog_2_method_2_code 73 = .ok (.getfield 63, 3) := by decide +kernel
theorem d_Judge_lookAt_76 : decode prog_2_method_2_code 76 = .ok (.iload 4, 2) := by decide +kernel
theorem d_Judge_lookAt_78 : decode prog_2_method_2_code 78 = .ok (.iload 5, 2) := by decide +kernel
theorem d_Judge_lookAt_80 : decode prog_2_method_2_code 80 = .ok (.iastore, 1) := by decide +kernel
theorem d_Judge_lookAt_81 : decode prog_2_method_2_code 81 = .ok (.iconst 0, 1) := by decide +kernel
theorem d_Judge_lookAt_82 : decode prog_2_method_2_code 82 = .ok (.istore 6, 2) := by decide +kernel
theorem d_Judge_lookAt_84 : decode prog_2_method_2_code 84 = .ok (.iload 6, 2) := by decide +kernel
theorem d_Judge_lookAt_86 : decode prog_2_method_2_code 86 = .ok (.aload_n 1, 1) := by decide +kernel
theorem d_Judge_lookAt_87 : decode prog_2_method_2_code 87 = .ok (.getfield 43, 3) := by decide +kernel
theorem d_Judge_lookAt_90 : decode prog_2_method_2_code 90 = .ok (.if_icmp .ge 26, 3) := by decide +kernel
theorem d_Judge_lookAt_93 : decode prog_2_method_2_code 93 = .ok (.iload 5, 2) := by decide +kernel
theorem d_Judge_lookAt_95 : decode prog_2_method_2_code 95 = .ok (.aload_n 1, 1) := by decide +kernel
theorem d_Judge_lookAt_96 : decode prog_2_method_2_code 96 = .ok (.getfield 66, 3) := by decide +kernel
theorem d_Judge_lookAt_99 : decode prog_2_method_2_code 99 = .ok (.iload 6, 2) := by decide +kernel
theorem d_Judge_lookAt_101 : decode prog_2_method_2_code 101 = .ok (.iaload, 1) := by decide +kernel
theorem d_Judge_lookAt_102 : decode prog_2_method_2_code 102 = .ok (.iload 4, 2) := by decide +kernel
theorem d_Judge_lookAt_104 : decode prog_2_method_2_code 104 = .ok (.invokestatic 69, 3) := by decide +kernel
theorem d_Judge_lookAt_107 : decode prog_2_method_2_code 107 = .ok (.iadd, 1) := by decide +kernel
theorem d_Judge_lookAt_108 : decode prog_2_method_2_code 108 = .ok (.istore 5, 2) := by decide +kernel
theorem d_Judge_lookAt_110 : decode prog_2_method_2_code 110 = .ok (.iinc 6 1, 3) := by decide +kernel
theorem d_Judge_lookAt_113 : decode prog_2_method_2_code 113 = .ok (.goto (-29), 3) := by decide +kernel
theorem d_Judge_lookAt_116 : decode prog_2_method_2_code 116 = .ok (.aload_n 0, 1) := by decide +kernel
theorem d_Judge_lookAt_117 : decode prog_2_method_2_code 117 = .ok (.getfield 18, 3) := by decide +kernel
theorem d_Judge_lookAt_120 : decode prog_2_method_2_code 120 = .ok (.iload 4, 2) := by decide +kernel
theorem d_Judge_lookAt_122 : decode prog_2_method_2_code 122 = .ok (.iload 5, 2) := by decide +kernel
theorem d_Judge_lookAt_124 : decode prog_2_method_2_code 124 = .ok (.iastore, 1) := by decide +kernel
theorem d_Judge_lookAt_125 : decode prog_2_method_2_code 125 = .ok (.iinc 4 1, 3) := by decide +kernel
theorem d_Judge_lookAt_128 : decode prog_2_method_2_code 128 = .ok (.goto (-91), 3) := by decide +kernel
theorem d_Judge_lookAt_131 : decode prog_2_method_2_code 131 = .ok (.return_, 1) := by decide +kernel
theorem d_Judge_isLastThere_0 : decode prog_2_method_4_code 0 = .ok (.aload_n 0, 1) := by decide +kernel
theorem d_Judge_isLastThere_1 : decode prog_2_method_4_code 1 = .ok (.getfield 113, 3) := by decide +kernel
theorem d_Judge_isLastThere_4 : decode prog_2_method_4_code 4 = .ok (.iconst 4, 1) := by decide +kernel
theorem d_Judge_isLastThere_5 : decode prog_2_method_4_code 5 = .ok (.if_icmp .ge 30, 3) := by decide +kernel
theorem d_Judge_isLastThere_8 : decode prog_2_method_4_code 8 = .ok (.aload_n 0, 1) := by decide +kernel
theorem d_Judge_isLastThere_9 : decode prog_2_method_4_code 9 = .ok (.getfield 22, 3) := by decide +kernel
theorem d_Judge_isLastThere_12 : decode prog_2_method_4_code 12 = .ok (.aload_n 0, 1) := by decide +kernel
theorem d_Judge_isLastThere_13 : decode prog_2_method_4_code 13 = .ok (.getfield 113, 3) := by decide +kernel
theorem d_Judge_isLastThere_16 : decode prog_2_method_4_code 16 = .ok (.iaload, 1) := by decide +kernel
theorem d_Judge_isLastThere_17 : decode prog_2_method_4_code 17 = .ok (.aload_n 0, 1) := by decide +kernel
theorem d_Judge_isLastThere_18 : decode prog_2_method_4_code 18 = .ok (.getfield 35, 3) := by decide +kernel
theorem d_Judge_isLastThere_21 : decode prog_2_method_4_code 21 = .ok (.invokestatic 69, 3) := by decide +kernel
theorem d_Judge_isLastThere_24 : decode prog_2_method_4_code 24 = .ok (.ifCond .le 7, 3) := by decide +kernel
theorem d_Judge_isLastThere_27 : decode prog_2_method_4_code 27 = .ok (.iconst 1, 1) := by decide +kernel
theorem d_Judge_isLastThere_28 : decode prog_2_method_4_code 28 = .ok (.goto 23, 3) := by decide +kernel
theorem d_Judge_isLastThere_31 : decode prog_2_method_4_code 31 = .ok (.iconst 0, 1) := by decide +kernel
theorem d_Judge_isLastThere_32 : decode prog_2_method_4_code 32 = .ok (.goto 19, 3) := by decide +kernel
theorem d_Judge_isLastThere_35 : decode prog_2_method_4_code 35 = .ok (.aload_n 0, 1) := by decide +kernel
theorem d_Judge_isLastThere_36 : decode prog_2_method_4_code 36 = .ok (.getfield 110, 3) := by decide +kernel
theorem d_Judge_isLastThere_39 : decode prog_2_method_4_code 39 = .ok (.aload_n 0, 1) := by decide +kernel
theorem d_Judge_isLastThere_40 : decode prog_2_method_4_code 40 = .ok (.getfield 35, 3) := by decide +kernel
theorem d_Judge_isLastThere_43 : decode prog_2_method_4_code 43 = .ok (.if_icmp .ne 7, 3) := by decide +kernel
theorem d_Judge_isLastThere_46 : decode prog_2_method_4_code 46 = .ok (.iconst 1, 1) := by decide +kernel
theorem d_Judge_isLastThere_47 : decode prog_2_method_4_code 47 = .ok (.goto 4, 3) := by decide +kernel
theorem d_Judge_isLastThere_50 : decode prog_2_method_4_code 50 = .ok (.iconst 0, 1) := by decide +kernel
theorem d_Judge_isLastThere_51 : decode prog_2_method_4_code 51 = .ok (.ireturn, 1) := by decide +kernel
theorem d_Judge_baseOf_0 : decode prog_2_method_8_code 0 = .ok (.iload_n 0, 1) := by decide +kernel
theorem d_Judge_baseOf_1 : decode prog_2_method_8_code 1 = .ok (.bipush 13, 2) := by decide +kernel
theorem d_Judge_baseOf_3 : decode prog_2_method_8_code 3 = .ok (.if_icmp .lt 7, 3) := by decide +kernel
theorem d_Judge_baseOf_6 : decode prog_2_method_8_code 6 = .ok (.sipush 8000, 3) := by decide +kernel
theorem d_Judge_baseOf_9 : decode prog_2_method_8_code 9 = .ok (.ireturn, 1) := by decide +kernel
theorem d_Judge_baseOf_10 : decode prog_2_method_8_code 10 = .ok (.iload_n 0, 1) := by decide +kernel
theorem d_Judge_baseOf_11 : decode prog_2_method_8_code 11 = .ok (.bipush 11, 2) := by decide +kernel
theorem d_Judge_baseOf_13 : decode prog_2_method_8_code 13 = .ok (.if_icmp .lt 7, 3) := by decide +kernel
theorem d_Judge_baseOf_16 : decode prog_2_method_8_code 16 = .ok (.sipush 6000, 3) := by decide +kernel
theorem d_Judge_baseOf_19 : decode prog_2_method_8_code 19 = .ok (.ireturn, 1) := by decide +kernel
theorem d_Judge_baseOf_20 : decode prog_2_method_8_code 20 = .ok (.iload_n 0, 1) := by decide +kernel
theorem d_Judge_baseOf_21 : decode prog_2_method_8_code 21 = .ok (.bipush 8, 2) := by decide +kernel
theorem d_Judge_baseOf_23 : decode prog_2_method_8_code 23 = .ok (.if_icmp .lt 7, 3) := by decide +kernel
theorem d_Judge_baseOf_26 : decode prog_2_method_8_code 26 = .ok (.sipush 4000, 3) := by decide +kernel
theorem d_Judge_baseOf_29 : decode prog_2_method_8_code 29 = .ok (.ireturn, 1) := by decide +kernel
theorem d_Judge_baseOf_30 : decode prog_2_method_8_code 30 = .ok (.iload_n 0, 1) := by decide +kernel
theorem d_Judge_baseOf_31 : decode prog_2_method_8_code 31 = .ok (.bipush 6, 2) := by decide +kernel
theorem d_Judge_baseOf_33 : decode prog_2_method_8_code 33 = .ok (.if_icmp .lt 7, 3) := by decide +kernel
theorem d_Judge_baseOf_36 : decode prog_2_method_8_code 36 = .ok (.sipush 3000, 3) := by decide +kernel
theorem d_Judge_baseOf_39 : decode prog_2_method_8_code 39 = .ok (.ireturn, 1) := by decide +kernel
theorem d_Judge_baseOf_40 : decode prog_2_method_8_code 40 = .ok (.sipush 2000, 3) := by decide +kernel
theorem d_Judge_baseOf_43 : decode prog_2_method_8_code 43 = .ok (.iload_n 1, 1) := by decide +kernel
theorem d_Judge_baseOf_44 : decode prog_2_method_8_code 44 = .ok (.iconst 2, 1) := by decide +kernel
theorem d_Judge_baseOf_45 : decode prog_2_method_8_code 45 = .ok (.iload_n 0, 1) := by decide +kernel
theorem d_Judge_baseOf_46 : decode prog_2_method_8_code 46 = .ok (.iadd, 1) := by decide +kernel
theorem d_Judge_baseOf_47 : decode prog_2_method_8_code 47 = .ok (.ishl, 1) := by decide +kernel
theorem d_Judge_baseOf_48 : decode prog_2_method_8_code 48 = .ok (.invokestatic 179, 3) := by decide +kernel
theorem d_Judge_baseOf_51 : decode prog_2_method_8_code 51 = .ok (.ireturn, 1) := by decide +kernel
theorem d_Judge_countHan_0 : decode prog_2_method_7_code 0 = .ok (.aload_n 0, 1) := by decide +kernel
theorem d_Judge_countHan_1 : decode prog_2_method_7_code 1 = .ok (.getfield 170, 3) := by decide +kernel
theorem d_Judge_countHan_4 : decode prog_2_method_7_code 4 = .ok (.istore_n 3, 1) := by decide +kernel
theorem d_Judge_countHan_5 : decode prog_2_method_7_code 5 = .ok (.iconst 0, 1) := by decide +kernel
theorem d_Judge_countHan_6 : decode prog_2_method_7_code 6 = .ok (.istore 4, 2) := by decide +kernel
theorem d_Judge_countHan_8 : decode prog_2_method_7_code 8 = .ok (.iload 4, 2) := by decide +kernel
theorem d_Judge_countHan_10 : decode prog_2_method_7_code 10 = .ok (.bipush 30, 2) := by decide +kernel
theorem d_Judge_countHan_12 : decode prog_2_method_7_code 12 = .ok (.if_icmp .ge 45, 3) := by decide +kernel
theorem d_Judge_countHan_15 : decode prog_2_method_7_code 15 = .ok (.lload_n 1, 1) := by decide +kernel
theorem d_Judge_countHan_16 : decode prog_2_method_7_code 16 = .ok (.iload 4, 2) := by decide +kernel
theorem d_Judge_countHan_18 : decode prog_2_method_7_code 18 = .ok (.lshr, 1) := by decide +kernel
theorem d_Judge_countHan_19 : decode prog_2_method_7_code 19 = .ok (.lconst 1, 1) := by decide +kernel
theorem d_Judge_countHan_20 : decode prog_2_method_7_code 20 = .ok (.land, 1) := by decide +kernel
theorem d_Judge_countHan_21 : decode prog_2_method_7_code 21 = .ok (.lconst 0, 1) := by decide +kernel
theorem d_Judge_countHan_22 : decode prog_2_method_7_code 22 = .ok (.lcmp, 1) := by decide +kernel
theorem d_Judge_countHan_23 : decode prog_2_method_7_code 23 = .ok (.ifCond .eq 28, 3) := by decide +kernel
theorem d_Judge_countHan_26 : decode prog_2_method_7_code 26 = .ok (.iload_n 3, 1) := by decide +kernel
theorem d_Judge_countHan_27 : decode prog_2_method_7_code 27 = .ok (.aload_n 0, 1) := by decide +kernel
theorem d_Judge_countHan_28 : decode prog_2_method_7_code 28 = .ok (.getfield 53, 3) := by decide +kernel
theorem d_Judge_countHan_31 : decode prog_2_method_7_code 31 = .ok (.ifCond .eq 12, 3) := by decide +kernel
theorem d_Judge_countHan_34 : decode prog_2_method_7_code 34 = .ok (.getstatic 173, 3) := by decide +kernel
theorem d_Judge_countHan_37 : decode prog_2_method_7_code 37 = .ok (.iload 4, 2) := by decide +kernel
theorem d_Judge_countHan_39 : decode prog_2_method_7_code 39 = .ok (.iaload, 1) := by decide +kernel
theorem d_Judge_countHan_40 : decode prog_2_method_7_code 40 = .ok (.goto 9, 3) := by decide +kernel
theorem d_Judge_countHan_43 : decode prog_2_method_7_code 43 = .ok (.getstatic 176, 3) := by decide +kernel
theorem d_Judge_countHan_46 : decode prog_2_method_7_code 46 = .ok (.iload 4, 2) := by decide +kernel
theorem d_Judge_countHan_48 : decode prog_2_method_7_code 48 = .ok (.iaload, 1) := by decide +kernel
theorem d_Judge_countHan_49 : decode prog_2_method_7_code 49 = .ok (.iadd, 1) := by decide +kernel
theorem d_Judge_countHan_50 : decode prog_2_method_7_code 50 = .ok (.istore_n 3, 1) := by decide +kernel
theorem d_Judge_countHan_51 : decode prog_2_method_7_code 51 = .ok (.iinc 4 1, 3) := by decide +kernel
theorem d_Judge_countHan_54 : decode prog_2_method_7_code 54 = .ok (.goto (-46), 3) := by decide +kernel
theorem d_Judge_countHan_57 : decode prog_2_method_7_code 57 = .ok (.iload_n 3, 1) := by decide +kernel
theorem d_Judge_countHan_58 : decode prog_2_method_7_code 58 = .ok (.ireturn, 1) := by decide +kernel
theorem d_Worth_copy_0 : decode prog_7_method_2_code 0 = .ok (.aload_n 0, 1) := by decide +kernel
theorem d_Worth_copy_1 : decode prog_7_method_2_code 1 = .ok (.aload_n 1, 1) := by decide +kernel
theorem d_Worth_copy_2 : decode prog_7_method_2_code 2 = .ok (.getfield 7, 3) := by decide +kernel
theorem d_Worth_copy_5 : decode prog_7_method_2_code 5 = .ok (.putfield 7, 3) := by decide +kernel
theorem d_Worth_copy_8 : decode prog_7_method_2_code 8 = .ok (.aload_n 0, 1) := by decide +kernel
theorem d_Worth_copy_9 : decode prog_7_method_2_code 9 = .ok (.aload_n 1, 1) := by decide +kernel
theorem d_Worth_copy_10 : decode prog_7_method_2_code 10 = .ok (.getfield 13, 3) := by decide +kernel
theorem d_Worth_copy_13 : decode prog_7_method_2_code 13 = .ok (.putfield 13, 3) := by decide +kernel
theorem d_Worth_copy_16 : decode prog_7_method_2_code 16 = .ok (.aload_n 0, 1) := by decide +kernel
theorem d_Worth_copy_17 : decode prog_7_method_2_code 17 = .ok (.aload_n 1, 1) := by decide +kernel
theorem d_Worth_copy_18 : decode prog_7_method_2_code 18 = .ok (.getfield 16, 3) := by decide +kernel
theorem d_Worth_copy_21 : decode prog_7_method_2_code 21 = .ok (.putfield 16, 3) := by decide +kernel
theorem d_Worth_copy_24 : decode prog_7_method_2_code 24 = .ok (.aload_n 0, 1) := by decide +kernel
theorem d_Worth_copy_25 : decode prog_7_method_2_code 25 = .ok (.aload_n 1, 1) := by decide +kernel
theorem d_Worth_copy_26 : decode prog_7_method_2_code 26 = .ok (.getfield 19, 3) := by decide +kernel
theorem d_Worth_copy_29 : decode prog_7_method_2_code 29 = .ok (.putfield 19, 3) := by decide +kernel
theorem d_Worth_copy_32 : decode prog_7_method_2_code 32 = .ok (.aload_n 0, 1) := by decide +kernel
theorem d_Worth_copy_33 : decode prog_7_method_2_code 33 = .ok (.aload_n 1, 1) := by decide +kernel
theorem d_Worth_copy_34 : decode prog_7_method_2_code 34 = .ok (.getfield 22, 3) := by decide +kernel
theorem d_Worth_copy_37 : decode prog_7_method_2_code 37 = .ok (.putfield 22, 3) := by decide +kernel
theorem d_Worth_copy_40 : decode prog_7_method_2_code 40 = .ok (.return_, 1) := by decide +kernel
theorem d_Worth_isAbove_0 : decode prog_7_method_3_code 0 = .ok (.aload_n 0, 1) := by decide +kernel
theorem d_Worth_isAbove_1 : decode prog_7_method_3_code 1 = .ok (.getfield 16, 3) := by decide +kernel
theorem d_Worth_isAbove_4 : decode prog_7_method_3_code 4 = .ok (.aload_n 1, 1) := by decide +kernel
theorem d_Worth_isAbove_5 : decode prog_7_method_3_code 5 = .ok (.getfield 16, 3) := by decide +kernel
theorem d_Worth_isAbove_8 : decode prog_7_method_3_code 8 = .ok (.if_icmp .eq 20, 3) := by decide +kernel
theorem d_Worth_isAbove_11 : decode prog_7_method_3_code 11 = .ok (.aload_n 0, 1) := by decide +kernel
theorem d_Worth_isAbove_12 : decode prog_7_method_3_code 12 = .ok (.getfield 16, 3) := by decide +kernel
theorem d_Worth_isAbove_15 : decode prog_7_method_3_code 15 = .ok (.aload_n 1, 1) := by decide +kernel
theorem d_Worth_isAbove_16 : decode prog_7_method_3_code 16 = .ok (.getfield 16, 3) := by decide +kernel
theorem d_Worth_isAbove_19 : decode prog_7_method_3_code 19 = .ok (.if_icmp .le 7, 3) := by decide +kernel
theorem d_Worth_isAbove_22 : decode prog_7_method_3_code 22 = .ok (.iconst 1, 1) := by decide +kernel
theorem d_Worth_isAbove_23 : decode prog_7_method_3_code 23 = .ok (.goto 4, 3) := by decide +kernel
theorem d_Worth_isAbove_26 : decode prog_7_method_3_code 26 = .ok (.iconst 0, 1) := by decide +kernel
theorem d_Worth_isAbove_27 : decode prog_7_method_3_code 27 = .ok (.ireturn, 1) := by decide +kernel
theorem d_Worth_isAbove_28 : decode prog_7_method_3_code 28 = .ok (.aload_n 0, 1) := by decide +kernel
theorem d_Worth_isAbove_29 : decode prog_7_method_3_code 29 = .ok (.getfield 7, 3) := by decide +kernel
theorem d_Worth_isAbove_32 : decode prog_7_method_3_code 32 = .ok (.aload_n 1, 1) := by decide +kernel
theorem d_Worth_isAbove_33 : decode prog_7_method_3_code 33 = .ok (.getfield 7, 3) := by decide +kernel
theorem d_Worth_isAbove_36 : decode prog_7_method_3_code 36 = .ok (.if_icmp .eq 20, 3) := by decide +kernel
theorem d_Worth_isAbove_39 : decode prog_7_method_3_code 39 = .ok (.aload_n 0, 1) := by decide +kernel
theorem d_Worth_isAbove_40 : decode prog_7_method_3_code 40 = .ok (.getfield 7, 3) := by decide +kernel
theorem d_Worth_isAbove_43 : decode prog_7_method_3_code 43 = .ok (.aload_n 1, 1) := by decide +kernel
theorem d_Worth_isAbove_44 : decode prog_7_method_3_code 44 = .ok (.getfield 7, 3) := by decide +kernel
theorem d_Worth_isAbove_47 : decode prog_7_method_3_code 47 = .ok (.if_icmp .le 7, 3) := by decide +kernel
theorem d_Worth_isAbove_50 : decode prog_7_method_3_code 50 = .ok (.iconst 1, 1) := by decide +kernel
theorem d_Worth_isAbove_51 : decode prog_7_method_3_code 51 = .ok (.goto 4, 3) := by decide +kernel
theorem d_Worth_isAbove_54 : decode prog_7_method_3_code 54 = .ok (.iconst 0, 1) := by decide +kernel
theorem d_Worth_isAbove_55 : decode prog_7_method_3_code 55 = .ok (.ireturn, 1) := by decide +kernel
theorem d_Worth_isAbove_56 : decode prog_7_method_3_code 56 = .ok (.aload_n 0, 1) := by decide +kernel
theorem d_Worth_isAbove_57 : decode prog_7_method_3_code 57 = .ok (.getfield 13, 3) := by decide +kernel
theorem d_Worth_isAbove_60 : decode prog_7_method_3_code 60 = .ok (.aload_n 1, 1) := by decide +kernel
theorem d_Worth_isAbove_61 : decode prog_7_method_3_code 61 = .ok (.getfield 13, 3) := by decide +kernel
theorem d_Worth_isAbove_64 : decode prog_7_method_3_code 64 = .ok (.if_icmp .eq 20, 3) := by decide +kernel
theorem d_Worth_isAbove_67 : decode prog_7_method_3_code 67 = .ok (.aload_n 0, 1) := by decide +kernel
theorem d_Worth_isAbove_68 : decode prog_7_method_3_code 68 = .ok (.getfield 13, 3) := by decide +kernel
theorem d_Worth_isAbove_71 : decode prog_7_method_3_code 71 = .ok (.aload_n 1, 1) := by decide +kernel
theorem d_Worth_isAbove_72 : decode prog_7_method_3_code 72 = .ok (.getfield 13, 3) := by decide +kernel
theorem d_Worth_isAbove_75 : decode prog_7_method_3_code 75 = .ok (.if_icmp .le 7, 3) := by decide +kernel
theorem d_Worth_isAbove_78 : decode prog_7_method_3_code 78 = .ok (.iconst 1, 1) := by decide +kernel
theorem d_Worth_isAbove_79 : decode prog_7_method_3_code 79 = .ok (.goto 4, 3) := by decide +kernel
theorem d_Worth_isAbove_82 : decode prog_7_method_3_code 82 = .ok (.iconst 0, 1) := by decide +kernel
theorem d_Worth_isAbove_83 : decode prog_7_method_3_code 83 = .ok (.ireturn, 1) := by decide +kernel
theorem d_Worth_isAbove_84 : decode prog_7_method_3_code 84 = .ok (.aload_n 0, 1) := by decide +kernel
theorem d_Worth_isAbove_85 : decode prog_7_method_3_code 85 = .ok (.getfield 22, 3) := by decide +kernel
theorem d_Worth_isAbove_88 : decode prog_7_method_3_code 88 = .ok (.aload_n 1, 1) := by decide +kernel
theorem d_Worth_isAbove_89 : decode prog_7_method_3_code 89 = .ok (.getfield 22, 3) := by decide +kernel
theorem d_Worth_isAbove_92 : decode prog_7_method_3_code 92 = .ok (.lcmp, 1) := by decide +kernel
theorem d_Worth_isAbove_93 : decode prog_7_method_3_code 93 = .ok (.ifCond .le 7, 3) := by decide +kernel
theorem d_Worth_isAbove_96 : decode prog_7_method_3_code 96 = .ok (.iconst 1, 1) := by decide +kernel
theorem d_Worth_isAbove_97 : decode prog_7_method_3_code 97 = .ok (.goto 4, 3) := by decide +kernel
theorem d_Worth_isAbove_100 : decode prog_7_method_3_code 100 = .ok (.iconst 0, 1) := by decide +kernel
theorem d_Worth_isAbove_101 : decode prog_7_method_3_code 101 = .ok (.ireturn, 1) := by decide +kernel
theorem d_Judge_rate_0 : decode prog_2_method_6_code 0 = .ok (.lload_n 1, 1) := by decide +kernel
theorem d_Judge_rate_1 : decode prog_2_method_6_code 1 = .ok (.bipush 30, 2) := by decide +kernel
theorem d_Judge_rate_3 : decode prog_2_method_6_code 3 = .ok (.lshr, 1) := by decide +kernel
theorem d_Judge_rate_4 : decode prog_2_method_6_code 4 = .ok (.bipush 30, 2) := by decide +kernel
theorem d_Judge_rate_6 : decode prog_2_method_6_code 6 = .ok (.lshl, 1) := by decide +kernel
theorem d_Judge_rate_7 : decode prog_2_method_6_code 7 = .ok (.lstore 4, 2) := by decide +kernel
theorem d_Judge_rate_9 : decode prog_2_method_6_code 9 = .ok (.aload_n 0, 1) := by decide +kernel
theorem d_Judge_rate_10 : decode prog_2_method_6_code 10 = .ok (.getfield 28, 3) := by decide +kernel
theorem d_Judge_rate_13 : decode prog_2_method_6_code 13 = .ok (.lload 4, 2) := by decide +kernel
theorem d_Judge_rate_15 : decode prog_2_method_6_code 15 = .ok (.lconst 0, 1) := by decide +kernel
theorem d_Judge_rate_16 : decode prog_2_method_6_code 16 = .ok (.lcmp, 1) := by decide +kernel
theorem d_Judge_rate_17 : decode prog_2_method_6_code 17 = .ok (.ifCond .eq 8, 3) := by decide +kernel
theorem d_Judge_rate_20 : decode prog_2_method_6_code 20 = .ok (.lload 4, 2) := by decide +kernel
theorem d_Judge_rate_22 : decode prog_2_method_6_code 22 = .ok (.goto 4, 3) := by decide +kernel
theorem d_Judge_rate_25 : decode prog_2_method_6_code 25 = .ok (.lload_n 1, 1) := by decide +kernel
theorem d_Judge_rate_26 : decode prog_2_method_6_code 26 = .ok (.putfield 75, 3) := by decide +kernel
theorem d_Judge_rate_29 : decode prog_2_method_6_code 29 = .ok (.aload_n 0, 1) := by decide +kernel
theorem d_Judge_rate_30 : decode prog_2_method_6_code 30 = .ok (.getfield 28, 3) := by decide +kernel
theorem d_Judge_rate_33 : decode prog_2_method_6_code 33 = .ok (.lload 4, 2) := by decide +kernel
theorem d_Judge_rate_35 : decode prog_2_method_6_code 35 = .ok (.lconst 0, 1) := by decide +kernel
theorem d_Judge_rate_36 : decode prog_2_method_6_code 36 = .ok (.lcmp, 1) := by decide +kernel
theorem d_Judge_rate_37 : decode prog_2_method_6_code 37 = .ok (.ifCond .eq 8, 3) := by decide +kernel
theorem d_Judge_rate_40 : decode prog_2_method_6_code 40 = .ok (.bipush 13, 2) := by decide +kernel
theorem d_Judge_rate_42 : decode prog_2_method_6_code 42 = .ok (.goto 8, 3) := by decide +kernel
theorem d_Judge_rate_45 : decode prog_2_method_6_code 45 = .ok (.aload_n 0, 1) := by decide +kernel
theorem d_Judge_rate_46 : decode prog_2_method_6_code 46 = .ok (.lload_n 1, 1) := by decide +kernel
theorem d_Judge_rate_47 : decode prog_2_method_6_code 47 = .ok (.invokevirtual 146, 3) := by decide +kernel
theorem d_Judge_rate_50 : decode prog_2_method_6_code 50 = .ok (.putfield 150, 3) := by decide +kernel
theorem d_Judge_rate_53 : decode prog_2_method_6_code 53 = .ok (.aload_n 0, 1) := by decide +kernel
theorem d_Judge_rate_54 : decode prog_2_method_6_code 54 = .ok (.getfield 28, 3) := by decide +kernel
theorem d_Judge_rate_57 : decode prog_2_method_6_code 57 = .ok (.iload_n 3, 1) := by decide +kernel
theorem d_Judge_rate_58 : decode prog_2_method_6_code 58 = .ok (.putfield 153, 3) := by decide +kernel
theorem d_Judge_rate_61 : decode prog_2_method_6_code 61 = .ok (.aload_n 0, 1) := by decide +kernel
theorem d_Judge_rate_62 : decode prog_2_method_6_code 62 = .ok (.getfield 28, 3) := by decide +kernel
theorem d_Judge_rate_65 : decode prog_2_method_6_code 65 = .ok (.aload_n 0, 1) := by decide +kernel
theorem d_Judge_rate_66 : decode prog_2_method_6_code 66 = .ok (.getfield 28, 3) := by decide +kernel
theorem d_Judge_rate_69 : decode prog_2_method_6_code 69 = .ok (.getfield 150, 3) := by decide +kernel
theorem d_Judge_rate_72 : decode prog_2_method_6_code 72 = .ok (.iload_n 3, 1) := by decide +kernel
theorem d_Judge_rate_73 : decode prog_2_method_6_code 73 = .ok (.invokestatic 156, 3) := by decide +kernel
theorem d_Judge_rate_76 : decode prog_2_method_6_code 76 = .ok (.putfield 159, 3) := by decide +kernel
theorem d_Judge_rate_79 : decode prog_2_method_6_code 79 = .ok (.lload_n 1, 1) := by decide +kernel
theorem d_Judge_rate_80 : decode prog_2_method_6_code 80 = .ok (.lconst 0, 1) := by decide +kernel
theorem d_Judge_rate_81 : decode prog_2_method_6_code 81 = .ok (.lcmp, 1) := by decide +kernel
theorem d_Judge_rate_82 : decode prog_2_method_6_code 82 = .ok (.ifCond .eq 40, 3) := by decide +kernel
theorem d_Judge_rate_85 : decode prog_2_method_6_code 85 = .ok (.aload_n 0, 1) := by decide +kernel
theorem d_Judge_rate_86 : decode prog_2_method_6_code 86 = .ok (.getfield 32, 3) := by decide +kernel
theorem d_Judge_rate_89 : decode prog_2_method_6_code 89 = .ok (.getfield 75, 3) := by decide +kernel
theorem d_Judge_rate_92 : decode prog_2_method_6_code 92 = .ok (.lconst 0, 1) := by decide +kernel
theorem d_Judge_rate_93 : decode prog_2_method_6_code 93 = .ok (.lcmp, 1) := by decide +kernel
theorem d_Judge_rate_94 : decode prog_2_method_6_code 94 = .ok (.ifCond .eq 17, 3) := by decide +kernel
theorem d_Judge_rate_97 : decode prog_2_method_6_code 97 = .ok (.aload_n 0, 1) := by decide +kernel
theorem d_Judge_rate_98 : decode prog_2_method_6_code 98 = .ok (.getfield 28, 3) := by decide +kernel
theorem d_Judge_rate_101 : decode prog_2_method_6_code 101 = .ok (.aload_n 0, 1) := by decide +kernel
theorem d_Judge_rate_102 : decode prog_2_method_6_code 102 = .ok (.getfield 32, 3) := by decide +kernel
theorem d_Judge_rate_105 : decode prog_2_method_6_code 105 = .ok (.invokevirtual 162, 3) := by decide +kernel
theorem d_Judge_rate_108 : decode prog_2_method_6_code 108 = .ok (.ifCond .eq 14, 3) := by decide +kernel
theorem d_Judge_rate_111 : decode prog_2_method_6_code 111 = .ok (.aload_n 0, 1) := by decide +kernel
theorem d_Judge_rate_112 : decode prog_2_method_6_code 112 = .ok (.getfield 32, 3) := by decide +kernel
theorem d_Judge_rate_115 : decode prog_2_method_6_code 115 = .ok (.aload_n 0, 1) := by decide +kernel
theorem d_Judge_rate_116 : decode prog_2_method_6_code 116 = .ok (.getfield 28, 3) := by decide +kernel
theorem d_Judge_rate_119 : decode prog_2_method_6_code 119 = .ok (.invokevirtual 166, 3) := by decide +kernel
theorem d_Judge_rate_122 : decode prog_2_method_6_code 122 = .ok (.return_, 1) := by decide +kernel
theorem d_Judge_fuOfLast_0 : decode prog_2_method_26_code 0 = .ok (.aload_n 0, 1) := by decide +kernel
theorem d_Judge_fuOfLast_1 : decode prog_2_method_26_code 1 = .ok (.getfield 113, 3) := by decide +kernel
theorem d_Judge_fuOfLast_4 : decode prog_2_method_26_code 4 = .ok (.iconst 4, 1) := by decide +kernel
theorem d_Judge_fuOfLast_5 : decode prog_2_method_26_code 5 = .ok (.if_icmp .lt 5, 3) := by decide +kernel
theorem d_Judge_fuOfLast_8 : decode prog_2_method_26_code 8 = .ok (.iconst 2, 1) := by decide +kernel
theorem d_Judge_fuOfLast_9 : decode prog_2_method_26_code 9 = .ok (.ireturn, 1) := by decide +kernel
theorem d_Judge_fuOfLast_10 : decode prog_2_method_26_code 10 = .ok (.aload_n 0, 1) := by decide +kernel
theorem d_Judge_fuOfLast_11 : decode prog_2_method_26_code 11 = .ok (.getfield 22, 3) := by decide +kernel
theorem d_Judge_fuOfLast_14 : decode prog_2_method_26_code 14 = .ok (.aload_n 0, 1) := by decide +kernel
theorem d_Judge_fuOfLast_15 : decode prog_2_method_26_code 15 = .ok (.getfield 113, 3) := by decide +kernel
theorem d_Judge_fuOfLast_18 : decode prog_2_method_26_code 18 = .ok (.iaload, 1) := by decide +kernel
theorem d_Judge_fuOfLast_19 : decode prog_2_method_26_code 19 = .ok (.iconst 4, 1) := by decide +kernel
theorem d_Judge_fuOfLast_20 : decode prog_2_method_26_code 20 = .ok (.irem, 1) := by decide +kernel
theorem d_Judge_fuOfLast_21 : decode prog_2_method_26_code 21 = .ok (.ifCond .eq 5, 3) := by decide +kernel
theorem d_Judge_fuOfLast_24 : decode prog_2_method_26_code 24 = .ok (.iconst 0, 1) := by decide +kernel
theorem d_Judge_fuOfLast_25 : decode prog_2_method_26_code 25 = .ok (.ireturn, 1) := by decide +kernel
theorem d_Judge_fuOfLast_26 : decode prog_2_method_26_code 26 = .ok (.aload_n 0, 1) := by decide +kernel
theorem d_Judge_fuOfLast_27 : decode prog_2_method_26_code 27 = .ok (.getfield 22, 3) := by decide +kernel
theorem d_Judge_fuOfLast_30 : decode prog_2_method_26_code 30 = .ok (.aload_n 0, 1) := by decide +kernel
theorem d_Judge_fuOfLast_31 : decode prog_2_method_26_code 31 = .ok (.getfield 113, 3) := by decide +kernel
theorem d_Judge_fuOfLast_34 : decode prog_2_method_26_code 34 = .ok (.iaload, 1) := by decide +kernel
theorem d_Judge_fuOfLast_35 : decode prog_2_method_26_code 35 = .ok (.iconst 4, 1) := by decide +kernel
theorem d_Judge_fuOfLast_36 : decode prog_2_method_26_code 36 = .ok (.idiv, 1) := by decide +kernel
theorem d_Judge_fuOfLast_37 : decode prog_2_method_26_code 37 = .ok (.istore_n 1, 1) := by decide +kernel
theorem d_Judge_fuOfLast_38 : decode prog_2_method_26_code 38 = .ok (.aload_n 0, 1) := by decide +kernel
theorem d_Judge_fuOfLast_39 : decode prog_2_method_26_code 39 = .ok (.getfield 35, 3) := by decide +kernel
theorem d_Judge_fuOfLast_42 : decode prog_2_method_26_code 42 = .ok (.iload_n 1, 1) := by decide +kernel
theorem d_Judge_fuOfLast_43 : decode prog_2_method_26_code 43 = .ok (.iconst 1, 1) := by decide +kernel
theorem d_Judge_fuOfLast_44 : decode prog_2_method_26_code 44 = .ok (.iadd, 1) := by decide +kernel
theorem d_Judge_fuOfLast_45 : decode prog_2_method_26_code 45 = .ok (.if_icmp .eq 37, 3) := by decide +kernel
theorem d_Judge_fuOfLast_48 : decode prog_2_method_26_code 48 = .ok (.aload_n 0, 1) := by decide +kernel
theorem d_Judge_fuOfLast_49 : decode prog_2_method_26_code 49 = .ok (.getfield 35, 3) := by decide +kernel
theorem d_Judge_fuOfLast_52 : decode prog_2_method_26_code 52 = .ok (.iload_n 1, 1) := by decide +kernel
theorem d_Judge_fuOfLast_53 : decode prog_2_method_26_code 53 = .ok (.iconst 2, 1) := by decide +kernel
theorem d_Judge_fuOfLast_54 : decode prog_2_method_26_code 54 = .ok (.iadd, 1) := by decide +kernel
theorem d_Judge_fuOfLast_55 : decode prog_2_method_26_code 55 = .ok (.if_icmp .ne 10, 3) := by decide +kernel
theorem d_Judge_fuOfLast_58 : decode prog_2_method_26_code 58 = .ok (.iload_n 1, 1) := by decide +kernel
theorem d_Judge_fuOfLast_59 : decode prog_2_method_26_code 59 = .ok (.bipush 9, 2) := by decide +kernel
theorem d_Judge_fuOfLast_61 : decode prog_2_method_26_code 61 = .ok (.irem, 1) := by decide +kernel
theorem d_Judge_fuOfLast_62 : decode prog_2_method_26_code 62 = .ok (.ifCond .eq 20, 3) := by decide +kernel
theorem d_Judge_fuOfLast_65 : decode prog_2_method_26_code 65 = .ok (.aload_n 0, 1) := by decide +kernel
theorem d_Judge_fuOfLast_66 : decode prog_2_method_26_code 66 = .ok (.getfield 35, 3) := by decide +kernel
theorem d_Judge_fuOfLast_69 : decode prog_2_method_26_code 69 = .ok (.iload_n 1, 1) := by decide +kernel
theorem d_Judge_fuOfLast_70 : decode prog_2_method_26_code 70 = .ok (.if_icmp .ne 16, 3) := by decide +kernel
theorem d_Judge_fuOfLast_73 : decode prog_2_method_26_code 73 = .ok (.iload_n 1, 1) := by decide +kernel
theorem d_Judge_fuOfLast_74 : decode prog_2_method_26_code 74 = .ok (.bipush 9, 2) := by decide +kernel
theorem d_Judge_fuOfLast_76 : decode prog_2_method_26_code 76 = .ok (.irem, 1) := by decide +kernel
theorem d_Judge_fuOfLast_77 : decode prog_2_method_26_code 77 = .ok (.bipush 6, 2) := by decide +kernel
theorem d_Judge_fuOfLast_79 : decode prog_2_method_26_code 79 = .ok (.if_icmp .ne 7, 3) := by decide +kernel
theorem d_Judge_fuOfLast_82 : decode prog_2_method_26_code 82 = .ok (.iconst 1, 1) := by decide +kernel
theorem d_Judge_fuOfLast_83 : decode prog_2_method_26_code 83 = .ok (.goto 4, 3) := by decide +kernel
theorem d_Judge_fuOfLast_86 : decode prog_2_method_26_code 86 = .ok (.iconst 0, 1) := by decide +kernel
theorem d_Judge_fuOfLast_87 : decode prog_2_method_26_code 87 = .ok (.istore_n 2, 1) := by decide +kernel
theorem d_Judge_fuOfLast_88 : decode prog_2_method_26_code 88 = .ok (.iload_n 2, 1) := by decide +kernel
theorem d_Judge_fuOfLast_89 : decode prog_2_method_26_code 89 = .ok (.ifCond .eq 7, 3) := by decide +kernel
theorem d_Judge_fuOfLast_92 : decode prog_2_method_26_code 92 = .ok (.iconst 2, 1) := by decide +kernel
theorem d_Judge_fuOfLast_93 : decode prog_2_method_26_code 93 = .ok (.goto 4, 3) := by decide +kernel
theorem d_Judge_fuOfLast_96 : decode prog_2_method_26_code 96 = .ok (.iconst 0, 1) := by decide +kernel
theorem d_Judge_fuOfLast_97 : decode prog_2_method_26_code 97 = .ok (.ireturn, 1) := by decide +kernel
theorem d_Judge_has_0 : decode prog_2_method_10_code 0 = .ok (.lload_n 0, 1) := by decide +kernel
theorem d_Judge_has_1 : decode prog_2_method_10_code 1 = .ok (.iload_n 2, 1) := by decide +kernel
theorem d_Judge_has_2 : decode prog_2_method_10_code 2 = .ok (.lshr, 1) := by decide +kernel
theorem d_Judge_has_3 : decode prog_2_method_10_code 3 = .ok (.lconst 1, 1) := by decide +kernel
theorem d_Judge_has_4 : decode prog_2_method_10_code 4 = .ok (.land, 1) := by decide +kernel
theorem d_Judge_has_5 : decode prog_2_method_10_code 5 = .ok (.lconst 0, 1) := by decide +kernel
theorem d_Judge_has_6 : decode prog_2_method_10_code 6 = .ok (.lcmp, 1) := by decide +kernel
theorem d_Judge_has_7 : decode prog_2_method_10_code 7 = .ok (.ifCond .eq 7, 3) := by decide +kernel
theorem d_Judge_has_10 : decode prog_2_method_10_code 10 = .ok (.iconst 1, 1) := by decide +kernel
theorem d_Judge_has_11 : decode prog_2_method_10_code 11 = .ok (.goto 4, 3) := by decide +kernel
theorem d_Judge_has_14 : decode prog_2_method_10_code 14 = .ok (.iconst 0, 1) := by decide +kernel
theorem d_Judge_has_15 : decode prog_2_method_10_code 15 = .ok (.ireturn, 1) := by decide +kernel
theorem d_Judge_fuOfPair_0 : decode prog_2_method_25_code 0 = .ok (.ldc2_w 219, 3) := by decide +kernel
theorem d_Judge_fuOfPair_3 : decode prog_2_method_25_code 3 = .ok (.aload_n 0, 1) := by decide +kernel
theorem d_Judge_fuOfPair_4 : decode prog_2_method_25_code 4 = .ok (.getfield 110, 3) := by decide +kernel
theorem d_Judge_fuOfPair_7 : decode prog_2_method_25_code 7 = .ok (.invokestatic 215, 3) := by decide +kernel
theorem d_Judge_fuOfPair_10 : decode prog_2_method_25_code 10 = .ok (.ifCond .eq 7, 3) := by decide +kernel
theorem d_Judge_fuOfPair_13 : decode prog_2_method_25_code 13 = .ok (.iconst 2, 1) := by decide +kernel
theorem d_Judge_fuOfPair_14 : decode prog_2_method_25_code 14 = .ok (.goto 4, 3) := by decide +kernel
theorem d_Judge_fuOfPair_17 : decode prog_2_method_25_code 17 = .ok (.iconst 0, 1) := by decide +kernel
theorem d_Judge_fuOfPair_18 : decode prog_2_method_25_code 18 = .ok (.aload_n 0, 1) := by decide +kernel
theorem d_Judge_fuOfPair_19 : decode prog_2_method_25_code 19 = .ok (.getfield 110, 3) := by decide +kernel
theorem d_Judge_fuOfPair_22 : decode prog_2_method_25_code 22 = .ok (.aload_n 0, 1) := by decide +kernel
theorem d_Judge_fuOfPair_23 : decode prog_2_method_25_code 23 = .ok (.getfield 205, 3) := by decide +kernel
theorem d_Judge_fuOfPair_26 : decode prog_2_method_25_code 26 = .ok (.if_icmp .ne 7, 3) := by decide +kernel
theorem d_Judge_fuOfPair_29 : decode prog_2_method_25_code 29 = .ok (.iconst 2, 1) := by decide +kernel
theorem d_Judge_fuOfPair_30 : decode prog_2_method_25_code 30 = .ok (.goto 4, 3) := by decide +kernel
theorem d_Judge_fuOfPair_33 : decode prog_2_method_25_code 33 = .ok (.iconst 0, 1) := by decide +kernel
theorem d_Judge_fuOfPair_34 : decode prog_2_method_25_code 34 = .ok (.iadd, 1) := by decide +kernel
theorem d_Judge_fuOfPair_35 : decode prog_2_method_25_code 35 = .ok (.aload_n 0, 1) := by decide +kernel
theorem d_Judge_fuOfPair_36 : decode prog_2_method_25_code 36 = .ok (.getfield 110, 3) := by decide +kernel
theorem d_Judge_fuOfPair_39 : decode prog_2_method_25_code 39 = .ok (.aload_n 0, 1) := by decide +kernel
theorem d_Judge_fuOfPair_40 : decode prog_2_method_25_code 40 = .ok (.getfield 208, 3) := by decide +kernel
theorem d_Judge_fuOfPair_43 : decode prog_2_method_25_code 43 = .ok (.if_icmp .ne 7, 3) := by decide +kernel
theorem d_Judge_fuOfPair_46 : decode prog_2_method_25_code 46 = .ok (.iconst 2, 1) := by decide +kernel
theorem d_Judge_fuOfPair_47 : decode prog_2_method_25_code 47 = .ok (.goto 4, 3) := by decide +kernel
theorem d_Judge_fuOfPair_50 : decode prog_2_method_25_code 50 = .ok (.iconst 0, 1) := by decide +kernel
theorem d_Judge_fuOfPair_51 : decode prog_2_method_25_code 51 = .ok (.iadd, 1) := by decide +kernel
theorem d_Judge_fuOfPair_52 : decode prog_2_method_25_code 52 = .ok (.ireturn, 1) := by decide +kernel
theorem d_Judge_isSetClosed_0 : decode prog_2_method_20_code 0 = .ok (.iload_n 1, 1) := by decide +kernel
theorem d_Judge_isSetClosed_1 : decode prog_2_method_20_code 1 = .ok (.aload_n 0, 1) := by decide +kernel
theorem d_Judge_isSetClosed_2 : decode prog_2_method_20_code 2 = .ok (.getfield 48, 3) := by decide +kernel
theorem d_Judge_isSetClosed_5 : decode prog_2_method_20_code 5 = .ok (.if_icmp .ge 21, 3) := by decide +kernel
theorem d_Judge_isSetClosed_8 : decode prog_2_method_20_code 8 = .ok (.aload_n 0, 1) := by decide +kernel
theorem d_Judge_isSetClosed_9 : decode prog_2_method_20_code 9 = .ok (.getfield 22, 3) := by decide +kernel
theorem d_Judge_isSetClosed_12 : decode prog_2_method_20_code 12 = .ok (.iload_n 1, 1) := by decide +kernel
theorem d_Judge_isSetClosed_13 : decode prog_2_method_20_code 13 = .ok (.iaload, 1) := by decide +kernel
theorem d_Judge_isSetClosed_14 : decode prog_2_method_20_code 14 = .ok (.iconst 4, 1) := by decide +kernel
theorem d_Judge_isSetClosed_15 : decode prog_2_method_20_code 15 = .ok (.irem, 1) := by decide +kernel
theorem d_Judge_isSetClosed_16 : decode prog_2_method_20_code 16 = .ok (.iconst 3, 1) := by decide +kernel
theorem d_Judge_isSetClosed_17 : decode prog_2_method_20_code 17 = .ok (.if_icmp .ne 7, 3) := by decide +kernel
theorem d_Judge_isSetClosed_20 : decode prog_2_method_20_code 20 = .ok (.iconst 1, 1) := by decide +kernel
theorem d_Judge_isSetClosed_21 : decode prog_2_method_20_code 21 = .ok (.goto 4, 3) := by decide +kernel
theorem d_Judge_isSetClosed_24 : decode prog_2_method_20_code 24 = .ok (.iconst 0, 1) := by decide +kernel
theorem d_Judge_isSetClosed_25 : decode prog_2_method_20_code 25 = .ok (.ireturn, 1) := by decide +kernel
theorem d_Judge_isSetClosed_26 : decode prog_2_method_20_code 26 = .ok (.aload_n 0, 1) := by decide +kernel
theorem d_Judge_isSetClosed_27 : decode prog_2_method_20_code 27 = .ok (.getfield 39, 3) := by decide +kernel
theorem d_Judge_isSetClosed_30 : decode prog_2_method_20_code 30 = .ok (.ifCond .ne 11, 3) := by decide +kernel
theorem d_Judge_isSetClosed_33 : decode prog_2_method_20_code 33 = .ok (.aload_n 0, 1) := by decide +kernel
theorem d_Judge_isSetClosed_34 : decode prog_2_method_20_code 34 = .ok (.getfield 113, 3) := by decide +kernel
theorem d_Judge_isSetClosed_37 : decode prog_2_method_20_code 37 = .ok (.iload_n 1, 1) := by decide +kernel
theorem d_Judge_isSetClosed_38 : decode prog_2_method_20_code 38 = .ok (.if_icmp .eq 7, 3) := by decide +kernel
theorem d_Judge_isSetClosed_41 : decode prog_2_method_20_code 41 = .ok (.iconst 1, 1) := by decide +kernel
theorem d_Judge_isSetClosed_42 : decode prog_2_method_20_code 42 = .ok (.goto 4, 3) := by decide +kernel
theorem d_Judge_isSetClosed_45 : decode prog_2_method_20_code 45 = .ok (.iconst 0, 1) := by decide +kernel
theorem d_Judge_isSetClosed_46 : decode prog_2_method_20_code 46 = .ok (.ireturn, 1) := by decide +kernel
theorem d_Shape_isOuter_0 : decode prog_4_method_2_code 0 = .ok (.ldc2_w 11, 3) := by decide +kernel
theorem d_Shape_isOuter_3 : decode prog_4_method_2_code 3 = .ok (.iload_n 0, 1) := by decide +kernel
theorem d_Shape_isOuter_4 : decode prog_4_method_2_code 4 = .ok (.lshr, 1) := by decide +kernel
theorem d_Shape_isOuter_5 : decode prog_4_method_2_code 5 = .ok (.lconst 1, 1) := by decide +kernel
theorem d_Shape_isOuter_6 : decode prog_4_method_2_code 6 = .ok (.land, 1) := by decide +kernel
theorem d_Shape_isOuter_7 : decode prog_4_method_2_code 7 = .ok (.lconst 0, 1) := by decide +kernel
theorem d_Shape_isOuter_8 : decode prog_4_method_2_code 8 = .ok (.lcmp, 1) := by decide +kernel
theorem d_Shape_isOuter_9 : decode prog_4_method_2_code 9 = .ok (.ifCond .eq 7, 3) := by decide +kernel
theorem d_Shape_isOuter_12 : decode prog_4_method_2_code 12 = .ok (.iconst 1, 1) := by decide +kernel
theorem d_Shape_isOuter_13 : decode prog_4_method_2_code 13 = .ok (.goto 4, 3) := by decide +kernel
theorem d_Shape_isOuter_16 : decode prog_4_method_2_code 16 = .ok (.iconst 0, 1) := by decide +kernel
theorem d_Shape_isOuter_17 : decode prog_4_method_2_code 17 = .ok (.ireturn, 1) := by decide +kernel
theorem d_Judge_fuOfSet_0 : decode prog_2_method_27_code 0 = .ok (.aload_n 0, 1) := by decide +kernel
theorem d_Judge_fuOfSet_1 : decode prog_2_method_27_code 1 = .ok (.getfield 22, 3) := by decide +kernel
theorem d_Judge_fuOfSet_4 : decode prog_2_method_27_code 4 = .ok (.iload_n 1, 1) := by decide +kernel
theorem d_Judge_fuOfSet_5 : decode prog_2_method_27_code 5 = .ok (.iaload, 1) := by decide +kernel
theorem d_Judge_fuOfSet_6 : decode prog_2_method_27_code 6 = .ok (.iconst 4, 1) := by decide +kernel
theorem d_Judge_fuOfSet_7 : decode prog_2_method_27_code 7 = .ok (.irem, 1) := by decide +kernel
theorem d_Judge_fuOfSet_8 : decode prog_2_method_27_code 8 = .ok (.istore_n 2, 1) := by decide +kernel
theorem d_Judge_fuOfSet_9 : decode prog_2_method_27_code 9 = .ok (.iload_n 2, 1) := by decide +kernel
theorem d_Judge_fuOfSet_10 : decode prog_2_method_27_code 10 = .ok (.ifCond .ne 5, 3) := by decide +kernel
theorem d_Judge_fuOfSet_13 : decode prog_2_method_27_code 13 = .ok (.iconst 0, 1) := by decide +kernel
theorem d_Judge_fuOfSet_14 : decode prog_2_method_27_code 14 = .ok (.ireturn, 1) := by decide +kernel
theorem d_Judge_fuOfSet_15 : decode prog_2_method_27_code 15 = .ok (.aload_n 0, 1) := by decide +kernel
theorem d_Judge_fuOfSet_16 : decode prog_2_method_27_code 16 = .ok (.iload_n 1, 1) := by decide +kernel
theorem d_Judge_fuOfSet_17 : decode prog_2_method_27_code 17 = .ok (.invokevirtual 228, 3) := by decide +kernel
theorem d_Judge_fuOfSet_20 : decode prog_2_method_27_code 20 = .ok (.ifCond .eq 7, 3) := by decide +kernel
theorem d_Judge_fuOfSet_23 : decode prog_2_method_27_code 23 = .ok (.iconst 4, 1) := by decide +kernel
theorem d_Judge_fuOfSet_24 : decode prog_2_method_27_code 24 = .ok (.goto 4, 3) := by decide +kernel
theorem d_Judge_fuOfSet_27 : decode prog_2_method_27_code 27 = .ok (.iconst 2, 1) := by decide +kernel
theorem d_Judge_fuOfSet_28 : decode prog_2_method_27_code 28 = .ok (.istore_n 3, 1) := by decide +kernel
theorem d_Judge_fuOfSet_29 : decode prog_2_method_27_code 29 = .ok (.iload_n 3, 1) := by decide +kernel
theorem d_Judge_fuOfSet_30 : decode prog_2_method_27_code 30 = .ok (.aload_n 0, 1) := by decide +kernel
theorem d_Judge_fuOfSet_31 : decode prog_2_method_27_code 31 = .ok (.getfield 22, 3) := by decide +kernel
theorem d_Judge_fuOfSet_34 : decode prog_2_method_27_code 34 = .ok (.iload_n 1, 1) := by decide +kernel
theorem d_Judge_fuOfSet_35 : decode prog_2_method_27_code 35 = .ok (.iaload, 1) := by decide +kernel
theorem d_Judge_fuOfSet_36 : decode prog_2_method_27_code 36 = .ok (.iconst 4, 1) := by decide +kernel
theorem d_Judge_fuOfSet_37 : decode prog_2_method_27_code 37 = .ok (.idiv, 1) := by decide +kernel
theorem d_Judge_fuOfSet_38 : decode prog_2_method_27_code 38 = .ok (.invokestatic 211, 3) := by decide +kernel
theorem d_Judge_fuOfSet_41 : decode prog_2_method_27_code 41 = .ok (.ifCond .eq 7, 3) := by decide +kernel
theorem d_Judge_fuOfSet_44 : decode prog_2_method_27_code 44 = .ok (.iconst 2, 1) := by decide +kernel
theorem d_Judge_fuOfSet_45 : decode prog_2_method_27_code 45 = .ok (.goto 4, 3) := by decide +kernel
theorem d_Judge_fuOfSet_48 : decode prog_2_method_27_code 48 = .ok (.iconst 1, 1) := by decide +kernel
theorem d_Judge_fuOfSet_49 : decode prog_2_method_27_code 49 = .ok (.imul, 1) := by decide +kernel
theorem d_Judge_fuOfSet_50 : decode prog_2_method_27_code 50 = .ok (.istore_n 3, 1) := by decide +kernel
theorem d_Judge_fuOfSet_51 : decode prog_2_method_27_code 51 = .ok (.iload_n 2, 1) := by decide +kernel
theorem d_Judge_fuOfSet_52 : decode prog_2_method_27_code 52 = .ok (.iconst 1, 1) := by decide +kernel
theorem d_Judge_fuOfSet_53 : decode prog_2_method_27_code 53 = .ok (.if_icmp .ne 7, 3) := by decide +kernel
theorem d_Judge_fuOfSet_56 : decode prog_2_method_27_code 56 = .ok (.iload_n 3, 1) := by decide +kernel
theorem d_Judge_fuOfSet_57 : decode prog_2_method_27_code 57 = .ok (.goto 6, 3) := by decide +kernel
theorem d_Judge_fuOfSet_60 : decode prog_2_method_27_code 60 = .ok (.iconst 4, 1) := by decide +kernel
theorem d_Judge_fuOfSet_61 : decode prog_2_method_27_code 61 = .ok (.iload_n 3, 1) := by decide +kernel
theorem d_Judge_fuOfSet_62 : decode prog_2_method_27_code 62 = .ok (.imul, 1) := by decide +kernel
theorem d_Judge_fuOfSet_63 : decode prog_2_method_27_code 63 = .ok (.ireturn, 1) := by decide +kernel
theorem d_Judge_countFu_0 : decode prog_2_method_24_code 0 = .ok (.bipush 20, 2) := by decide +kernel
theorem d_Judge_countFu_2 : decode prog_2_method_24_code 2 = .ok (.aload_n 0, 1) := by decide +kernel
theorem d_Judge_countFu_3 : decode prog_2_method_24_code 3 = .ok (.invokevirtual 247, 3) := by decide +kernel
theorem d_Judge_countFu_6 : decode prog_2_method_24_code 6 = .ok (.iadd, 1) := by decide +kernel
theorem d_Judge_countFu_7 : decode prog_2_method_24_code 7 = .ok (.aload_n 0, 1) := by decide +kernel
theorem d_Judge_countFu_8 : decode prog_2_method_24_code 8 = .ok (.invokevirtual 250, 3) := by decide +kernel
theorem d_Judge_countFu_11 : decode prog_2_method_24_code 11 = .ok (.iadd, 1) := by decide +kernel
theorem d_Judge_countFu_12 : decode prog_2_method_24_code 12 = .ok (.istore_n 1, 1) := by decide +kernel
theorem d_Judge_countFu_13 : decode prog_2_method_24_code 13 = .ok (.aload_n 0, 1) := by decide +kernel
theorem d_Judge_countFu_14 : decode prog_2_method_24_code 14 = .ok (.getfield 39, 3) := by decide +kernel
theorem d_Judge_countFu_17 : decode prog_2_method_24_code 17 = .ok (.ifCond .eq 9, 3) := by decide +kernel
theorem d_Judge_countFu_20 : decode prog_2_method_24_code 20 = .ok (.iinc 1 2, 3) := by decide +kernel
theorem d_Judge_countFu_23 : decode prog_2_method_24_code 23 = .ok (.goto 13, 3) := by decide +kernel
theorem d_Judge_countFu_26 : decode prog_2_method_24_code 26 = .ok (.aload_n 0, 1) := by decide +kernel
theorem d_Judge_countFu_27 : decode prog_2_method_24_code 27 = .ok (.getfield 53, 3) := by decide +kernel
theorem d_Judge_countFu_30 : decode prog_2_method_24_code 30 = .ok (.ifCond .eq 6, 3) := by decide +kernel
theorem d_Judge_countFu_33 : decode prog_2_method_24_code 33 = .ok (.iinc 1 10, 3) := by decide +kernel
theorem d_Judge_countFu_36 : decode prog_2_method_24_code 36 = .ok (.iconst 0, 1) := by decide +kernel
theorem d_Judge_countFu_37 : decode prog_2_method_24_code 37 = .ok (.istore_n 2, 1) := by decide +kernel
theorem d_Judge_countFu_38 : decode prog_2_method_24_code 38 = .ok (.iload_n 2, 1) := by decide +kernel
theorem d_Judge_countFu_39 : decode prog_2_method_24_code 39 = .ok (.iconst 4, 1) := by decide +kernel
theorem d_Judge_countFu_40 : decode prog_2_method_24_code 40 = .ok (.if_icmp .ge 17, 3) := by decide +kernel
theorem d_Judge_countFu_43 : decode prog_2_method_24_code 43 = .ok (.iload_n 1, 1) := by decide +kernel
theorem d_Judge_countFu_44 : decode prog_2_method_24_code 44 = .ok (.aload_n 0, 1) := by decide +kernel
theorem d_Judge_countFu_45 : decode prog_2_method_24_code 45 = .ok (.iload_n 2, 1) := by decide +kernel
theorem d_Judge_countFu_46 : decode prog_2_method_24_code 46 = .ok (.invokevirtual 253, 3) := by decide +kernel
theorem d_Judge_countFu_49 : decode prog_2_method_24_code 49 = .ok (.iadd, 1) := by decide +kernel
theorem d_Judge_countFu_50 : decode prog_2_method_24_code 50 = .ok (.istore_n 1, 1) := by decide +kernel
theorem d_Judge_countFu_51 : decode prog_2_method_24_code 51 = .ok (.iinc 2 1, 3) := by decide +kernel
theorem d_Judge_countFu_54 : decode prog_2_method_24_code 54 = .ok (.goto (-16), 3) := by decide +kernel
theorem d_Judge_countFu_57 : decode prog_2_method_24_code 57 = .ok (.iload_n 1, 1) := by decide +kernel
theorem d_Judge_countFu_58 : decode prog_2_method_24_code 58 = .ok (.bipush 9, 2) := by decide +kernel
theorem d_Judge_countFu_60 : decode prog_2_method_24_code 60 = .ok (.iadd, 1) := by decide +kernel
theorem d_Judge_countFu_61 : decode prog_2_method_24_code 61 = .ok (.bipush 10, 2) := by decide +kernel
theorem d_Judge_countFu_63 : decode prog_2_method_24_code 63 = .ok (.idiv, 1) := by decide +kernel
theorem d_Judge_countFu_64 : decode prog_2_method_24_code 64 = .ok (.bipush 10, 2) := by decide +kernel
theorem d_Judge_countFu_66 : decode prog_2_method_24_code 66 = .ok (.imul, 1) := by decide +kernel
theorem d_Judge_countFu_67 : decode prog_2_method_24_code 67 = .ok (.istore_n 2, 1) := by decide +kernel
theorem d_Judge_countFu_68 : decode prog_2_method_24_code 68 = .ok (.iload_n 2, 1) := by decide +kernel
theorem d_Judge_countFu_69 : decode prog_2_method_24_code 69 = .ok (.bipush 20, 2) := by decide +kernel
theorem d_Judge_countFu_71 : decode prog_2_method_24_code 71 = .ok (.if_icmp .ne 15, 3) := by decide +kernel
theorem d_Judge_countFu_74 : decode prog_2_method_24_code 74 = .ok (.aload_n 0, 1) := by decide +kernel
theorem d_Judge_countFu_75 : decode prog_2_method_24_code 75 = .ok (.getfield 53, 3) := by decide +kernel
theorem d_Judge_countFu_78 : decode prog_2_method_24_code 78 = .ok (.ifCond .ne 8, 3) := by decide +kernel
theorem d_Judge_countFu_81 : decode prog_2_method_24_code 81 = .ok (.bipush 30, 2) := by decide +kernel
theorem d_Judge_countFu_83 : decode prog_2_method_24_code 83 = .ok (.goto 4, 3) := by decide +kernel
theorem d_Judge_countFu_86 : decode prog_2_method_24_code 86 = .ok (.iload_n 2, 1) := by decide +kernel
theorem d_Judge_countFu_87 : decode prog_2_method_24_code 87 = .ok (.ireturn, 1) := by decide +kernel
theorem d_Judge_kindsOfSets_0 : decode prog_2_method_11_code 0 = .ok (.lconst 0, 1) := by decide +kernel
theorem d_Judge_kindsOfSets_1 : decode prog_2_method_11_code 1 = .ok (.lstore_n 2, 1) := by decide +kernel
theorem d_Judge_kindsOfSets_2 : decode prog_2_method_11_code 2 = .ok (.iconst 0, 1) := by decide +kernel
theorem d_Judge_kindsOfSets_3 : decode prog_2_method_11_code 3 = .ok (.istore 4, 2) := by decide +kernel
theorem d_Judge_kindsOfSets_5 : decode prog_2_method_11_code 5 = .ok (.iload 4, 2) := by decide +kernel
theorem d_Judge_kindsOfSets_7 : decode prog_2_method_11_code 7 = .ok (.iconst 4, 1) := by decide +kernel
theorem d_Judge_kindsOfSets_8 : decode prog_2_method_11_code 8 = .ok (.if_icmp .ge 48, 3) := by decide +kernel
theorem d_Judge_kindsOfSets_11 : decode prog_2_method_11_code 11 = .ok (.aload_n 0, 1) := by decide +kernel
theorem d_Judge_kindsOfSets_12 : decode prog_2_method_11_code 12 = .ok (.getfield 22, 3) := by decide +kernel
theorem d_Judge_kindsOfSets_15 : decode prog_2_method_11_code 15 = .ok (.iload 4, 2) := by decide +kernel
theorem d_Judge_kindsOfSets_17 : decode prog_2_method_11_code 17 = .ok (.iaload, 1) := by decide +kernel
theorem d_Judge_kindsOfSets_18 : decode prog_2_method_11_code 18 = .ok (.iconst 4, 1) := by decide +kernel
theorem d_Judge_kindsOfSets_19 : decode prog_2_method_11_code 19 = .ok (.irem, 1) := by decide +kernel
theorem d_Judge_kindsOfSets_20 : decode prog_2_method_11_code 20 = .ok (.ifCond .ne 7, 3) := by decide +kernel
theorem d_Judge_kindsOfSets_23 : decode prog_2_method_11_code 23 = .ok (.iconst 1, 1) := by decide +kernel
theorem d_Judge_kindsOfSets_24 : decode prog_2_method_11_code 24 = .ok (.goto 4, 3) := by decide +kernel
theorem d_Judge_kindsOfSets_27 : decode prog_2_method_11_code 27 = .ok (.iconst 0, 1) := by decide +kernel
theorem d_Judge_kindsOfSets_28 : decode prog_2_method_11_code 28 = .ok (.istore 5, 2) := by decide +kernel
theorem d_Judge_kindsOfSets_30 : decode prog_2_method_11_code 30 = .ok (.iload 5, 2) := by decide +kernel
theorem d_Judge_kindsOfSets_32 : decode prog_2_method_11_code 32 = .ok (.iload_n 1, 1) := by decide +kernel
theorem d_Judge_kindsOfSets_33 : decode prog_2_method_11_code 33 = .ok (.if_icmp .ne 17, 3) := by decide +kernel
theorem d_Judge_kindsOfSets_36 : decode prog_2_method_11_code 36 = .ok (.lload_n 2, 1) := by decide +kernel
theorem d_Judge_kindsOfSets_37 : decode prog_2_method_11_code 37 = .ok (.lconst 1, 1) := by decide +kernel
theorem d_Judge_kindsOfSets_38 : decode prog_2_method_11_code 38 = .ok (.aload_n 0, 1) := by decide +kernel
theorem d_Judge_kindsOfSets_39 : decode prog_2_method_11_code 39 = .ok (.getfield 22, 3) := by decide +kernel
theorem d_Judge_kindsOfSets_42 : decode prog_2_method_11_code 42 = .ok (.iload 4, 2) := by decide +kernel
theorem d_Judge_kindsOfSets_44 : decode prog_2_method_11_code 44 = .ok (.iaload, 1) := by decide +kernel
theorem d_Judge_kindsOfSets_45 : decode prog_2_method_11_code 45 = .ok (.iconst 4, 1) := by decide +kernel
theorem d_Judge_kindsOfSets_46 : decode prog_2_method_11_code 46 = .ok (.idiv, 1) := by decide +kernel
theorem d_Judge_kindsOfSets_47 : decode prog_2_method_11_code 47 = .ok (.lshl, 1) := by decide +kernel
theorem d_Judge_kindsOfSets_48 : decode prog_2_method_11_code 48 = .ok (.lor, 1) := by decide +kernel
theorem d_Judge_kindsOfSets_49 : decode prog_2_method_11_code 49 = .ok (.lstore_n 2, 1) := by decide +kernel
theorem d_Judge_kindsOfSets_50 : decode prog_2_method_11_code 50 = .ok (.iinc 4 1, 3) := by decide +kernel
theorem d_Judge_kindsOfSets_53 : decode prog_2_method_11_code 53 = .ok (.goto (-48), 3) := by decide +kernel
theorem d_Judge_kindsOfSets_56 : decode prog_2_method_11_code 56 = .ok (.lload_n 2, 1) := by decide +kernel
theorem d_Judge_kindsOfSets_57 : decode prog_2_method_11_code 57 = .ok (.lreturn, 1) := by decide +kernel
theorem d_Judge_yakuOfEnds_0 : decode prog_2_method_17_code 0 = .ok (.aload_n 0, 1) := by decide +kernel
theorem d_Judge_yakuOfEnds_1 : decode prog_2_method_17_code 1 = .ok (.getfield 110, 3) := by decide +kernel
theorem d_Judge_yakuOfEnds_4 : decode prog_2_method_17_code 4 = .ok (.bipush 27, 2) := by decide +kernel
theorem d_Judge_yakuOfEnds_6 : decode prog_2_method_17_code 6 = .ok (.if_icmp .lt 7, 3) := by decide +kernel
theorem d_Judge_yakuOfEnds_9 : decode prog_2_method_17_code 9 = .ok (.iconst 1, 1) := by decide +kernel
theorem d_Judge_yakuOfEnds_10 : decode prog_2_method_17_code 10 = .ok (.goto 4, 3) := by decide +kernel
theorem d_Judge_yakuOfEnds_13 : decode prog_2_method_17_code 13 = .ok (.iconst 0, 1) := by decide +kernel
theorem d_Judge_yakuOfEnds_14 : decode prog_2_method_17_code 14 = .ok (.istore_n 3, 1) := by decide +kernel
theorem d_Judge_yakuOfEnds_15 : decode prog_2_method_17_code 15 = .ok (.lload_n 1, 1) := by decide +kernel
theorem d_Judge_yakuOfEnds_16 : decode prog_2_method_17_code 16 = .ok (.lconst 0, 1) := by decide +kernel
theorem d_Judge_yakuOfEnds_17 : decode prog_2_method_17_code 17 = .ok (.lcmp, 1) := by decide +kernel
theorem d_Judge_yakuOfEnds_18 : decode prog_2_method_17_code 18 = .ok (.ifCond .eq 13, 3) := by decide +kernel
theorem d_Judge_yakuOfEnds_21 : decode prog_2_method_17_code 21 = .ok (.aload_n 0, 1) := by decide +kernel
theorem d_Judge_yakuOfEnds_22 : decode prog_2_method_17_code 22 = .ok (.getfield 110, 3) := by decide +kernel
theorem d_Judge_yakuOfEnds_25 : decode prog_2_method_17_code 25 = .ok (.invokestatic 211, 3) := by decide +kernel
theorem d_Judge_yakuOfEnds_28 : decode prog_2_method_17_code 28 = .ok (.ifCond .ne 5, 3) := by decide +kernel
theorem d_Judge_yakuOfEnds_31 : decode prog_2_method_17_code 31 = .ok (.lconst 0, 1) := by decide +kernel
theorem d_Judge_yakuOfEnds_32 : decode prog_2_method_17_code 32 = .ok (.lreturn, 1) := by decide +kernel
theorem d_Judge_yakuOfEnds_33 : decode prog_2_method_17_code 33 = .ok (.iconst 0, 1) := by decide +kernel
theorem d_Judge_yakuOfEnds_34 : decode prog_2_method_17_code 34 = .ok (.istore 4, 2) := by decide +kernel
theorem d_Judge_yakuOfEnds_36 : decode prog_2_method_17_code 36 = .ok (.iload 4, 2) := by decide +kernel
theorem d_Judge_yakuOfEnds_38 : decode prog_2_method_17_code 38 = .ok (.iconst 4, 1) := by decide +kernel
theorem d_Judge_yakuOfEnds_39 : decode prog_2_method_17_code 39 = .ok (.if_icmp .ge 81, 3) := by decide +kernel
theorem d_Judge_yakuOfEnds_42 : decode prog_2_method_17_code 42 = .ok (.aload_n 0, 1) := by decide +kernel
theorem d_Judge_yakuOfEnds_43 : decode prog_2_method_17_code 43 = .ok (.getfield 22, 3) := by decide +kernel
theorem d_Judge_yakuOfEnds_46 : decode prog_2_method_17_code 46 = .ok (.iload 4, 2) := by decide +kernel
theorem d_Judge_yakuOfEnds_48 : decode prog_2_method_17_code 48 = .ok (.iaload, 1) := by decide +kernel
theorem d_Judge_yakuOfEnds_49 : decode prog_2_method_17_code 49 = .ok (.iconst 4, 1) := by decide +kernel
theorem d_Judge_yakuOfEnds_50 : decode prog_2_method_17_code 50 = .ok (.idiv, 1) := by decide +kernel
theorem d_Judge_yakuOfEnds_51 : decode prog_2_method_17_code 51 = .ok (.istore 5, 2) := by decide +kernel
theorem d_Judge_yakuOfEnds_53 : decode prog_2_method_17_code 53 = .ok (.aload_n 0, 1) := by decide +kernel
theorem d_Judge_yakuOfEnds_54 : decode prog_2_method_17_code 54 = .ok (.getfield 22, 3) := by decide +kernel
theorem d_Judge_yakuOfEnds_57 : decode prog_2_method_17_code 57 = .ok (.iload 4, 2) := by decide +kernel
theorem d_Judge_yakuOfEnds_59 : decode prog_2_method_17_code 59 = .ok (.iaload, 1) := by decide +kernel
theorem d_Judge_yakuOfEnds_60 : decode prog_2_method_17_code 60 = .ok (.iconst 4, 1) := by decide +kernel
theorem d_Judge_yakuOfEnds_61 : decode prog_2_method_17_code 61 = .ok (.irem, 1) := by decide +kernel
theorem d_Judge_yakuOfEnds_62 : decode prog_2_method_17_code 62 = .ok (.ifCond .ne 17, 3) := by decide +kernel
theorem d_Judge_yakuOfEnds_65 : decode prog_2_method_17_code 65 = .ok (.iload 5, 2) := by decide +kernel
theorem d_Judge_yakuOfEnds_67 : decode prog_2_method_17_code 67 = .ok (.bipush 9, 2) := by decide +kernel
theorem d_Judge_yakuOfEnds_69 : decode prog_2_method_17_code 69 = .ok (.irem, 1) := by decide +kernel
theorem d_Judge_yakuOfEnds_70 : decode prog_2_method_17_code 70 = .ok (.bipush 6, 2) := by decide +kernel
theorem d_Judge_yakuOfEnds_72 : decode prog_2_method_17_code 72 = .ok (.if_icmp .ne 7, 3) := by decide +kernel
theorem d_Judge_yakuOfEnds_75 : decode prog_2_method_17_code 75 = .ok (.iconst 1, 1) := by decide +kernel
theorem d_Judge_yakuOfEnds_76 : decode prog_2_method_17_code 76 = .ok (.goto 4, 3) := by decide +kernel
theorem d_Judge_yakuOfEnds_79 : decode prog_2_method_17_code 79 = .ok (.iconst 0, 1) := by decide +kernel
theorem d_Judge_yakuOfEnds_80 : decode prog_2_method_17_code 80 = .ok (.istore 6, 2) := by decide +kernel
theorem d_Judge_yakuOfEnds_82 : decode prog_2_method_17_code 82 = .ok (.iload 5, 2) := by decide +kernel
theorem d_Judge_yakuOfEnds_84 : decode prog_2_method_17_code 84 = .ok (.invokestatic 211, 3) := by decide +kernel
theorem d_Judge_yakuOfEnds_87 : decode prog_2_method_17_code 87 = .ok (.ifCond .ne 10, 3) := by decide +kernel
theorem d_Judge_yakuOfEnds_90 : decode prog_2_method_17_code 90 = .ok (.iload 6, 2) := by decide +kernel
theorem d_Judge_yakuOfEnds_92 : decode prog_2_method_17_code 92 = .ok (.ifCond .ne 5, 3) := by decide +kernel
theorem d_Judge_yakuOfEnds_95 : decode prog_2_method_17_code 95 = .ok (.lconst 0, 1) := by decide +kernel
theorem d_Judge_yakuOfEnds_96 : decode prog_2_method_17_code 96 = .ok (.lreturn, 1) := by decide +kernel
theorem d_Judge_yakuOfEnds_97 : decode prog_2_method_17_code 97 = .ok (.iload_n 3, 1) := by decide +kernel
theorem d_Judge_yakuOfEnds_98 : decode prog_2_method_17_code 98 = .ok (.ifCond .ne 10, 3) := by decide +kernel
theorem d_Judge_yakuOfEnds_101 : decode prog_2_method_17_code 101 = .ok (.iload 5, 2) := by decide +kernel
theorem d_Judge_yakuOfEnds_103 : decode prog_2_method_17_code 103 = .ok (.bipush 27, 2) := by decide +kernel
theorem d_Judge_yakuOfEnds_105 : decode prog_2_method_17_code 105 = .ok (.if_icmp .lt 7, 3) := by decide +kernel
theorem d_Judge_yakuOfEnds_108 : decode prog_2_method_17_code 108 = .ok (.iconst 1, 1) := by decide +kernel
theorem d_Judge_yakuOfEnds_109 : decode prog_2_method_17_code 109 = .ok (.goto 4, 3) := by decide +kernel
theorem d_Judge_yakuOfEnds_112 : decode prog_2_method_17_code 112 = .ok (.iconst 0, 1) := by decide +kernel
theorem d_Judge_yakuOfEnds_113 : decode prog_2_method_17_code 113 = .ok (.istore_n 3, 1) := by decide +kernel
theorem d_Judge_yakuOfEnds_114 : decode prog_2_method_17_code 114 = .ok (.iinc 4 1, 3) := by decide +kernel
theorem d_Judge_yakuOfEnds_117 : decode prog_2_method_17_code 117 = .ok (.goto (-81), 3) := by decide +kernel
theorem d_Judge_yakuOfEnds_120 : decode prog_2_method_17_code 120 = .ok (.lconst 1, 1) := by decide +kernel
theorem d_Judge_yakuOfEnds_121 : decode prog_2_method_17_code 121 = .ok (.iload_n 3, 1) := by decide +kernel
theorem d_Judge_yakuOfEnds_122 : decode prog_2_method_17_code 122 = .ok (.ifCond .eq 8, 3) := by decide +kernel
theorem d_Judge_yakuOfEnds_125 : decode prog_2_method_17_code 125 = .ok (.bipush 17, 2) := by decide +kernel
theorem d_Judge_yakuOfEnds_127 : decode prog_2_method_17_code 127 = .ok (.goto 5, 3) := by decide +kernel
theorem d_Judge_yakuOfEnds_130 : decode prog_2_method_17_code 130 = .ok (.bipush 18, 2) := by decide +kernel
theorem d_Judge_yakuOfEnds_132 : decode prog_2_method_17_code 132 = .ok (.lshl, 1) := by decide +kernel
theorem d_Judge_yakuOfEnds_133 : decode prog_2_method_17_code 133 = .ok (.lreturn, 1) := by decide +kernel
theorem d_Judge_bitIf_0 : decode prog_2_method_9_code 0 = .ok (.iload_n 0, 1) := by decide +kernel
theorem d_Judge_bitIf_1 : decode prog_2_method_9_code 1 = .ok (.ifCond .eq 9, 3) := by decide +kernel
theorem d_Judge_bitIf_4 : decode prog_2_method_9_code 4 = .ok (.lconst 1, 1) := by decide +kernel
theorem d_Judge_bitIf_5 : decode prog_2_method_9_code 5 = .ok (.iload_n 1, 1) := by decide +kernel
theorem d_Judge_bitIf_6 : decode prog_2_method_9_code 6 = .ok (.lshl, 1) := by decide +kernel
theorem d_Judge_bitIf_7 : decode prog_2_method_9_code 7 = .ok (.goto 4, 3) := by decide +kernel
theorem d_Judge_bitIf_10 : decode prog_2_method_9_code 10 = .ok (.lconst 0, 1) := by decide +kernel
theorem d_Judge_bitIf_11 : decode prog_2_method_9_code 11 = .ok (.lreturn, 1) := by decide +kernel
theorem d_Judge_countPairsOfRuns_0 : decode prog_2_method_16_code 0 = .ok (.iconst 0, 1) := by decide +kernel
theorem d_Judge_countPairsOfRuns_1 : decode prog_2_method_16_code 1 = .ok (.istore_n 1, 1) := by decide +kernel
theorem d_Judge_countPairsOfRuns_2 : decode prog_2_method_16_code 2 = .ok (.iconst 0, 1) := by decide +kernel
theorem d_Judge_countPairsOfRuns_3 : decode prog_2_method_16_code 3 = .ok (.istore_n 2, 1) := by decide +kernel
theorem d_Judge_countPairsOfRuns_4 : decode prog_2_method_16_code 4 = .ok (.iload_n 2, 1) := by decide +kernel
theorem d_Judge_countPairsOfRuns_5 : decode prog_2_method_16_code 5 = .ok (.iconst 4, 1) := by decide +kernel
theorem d_Judge_countPairsOfRuns_6 : decode prog_2_method_16_code 6 = .ok (.if_icmp .ge 75, 3) := by decide +kernel
theorem d_Judge_countPairsOfRuns_9 : decode prog_2_method_16_code 9 = .ok (.iconst 0, 1) := by decide +kernel
theorem d_Judge_countPairsOfRuns_10 : decode prog_2_method_16_code 10 = .ok (.istore_n 3, 1) := by decide +kernel
theorem d_Judge_countPairsOfRuns_11 : decode prog_2_method_16_code 11 = .ok (.iconst 0, 1) := by decide +kernel
theorem d_Judge_countPairsOfRuns_12 : decode prog_2_method_16_code 12 = .ok (.istore 4, 2) := by decide +kernel
theorem d_Judge_countPairsOfRuns_14 : decode prog_2_method_16_code 14 = .ok (.iload 4, 2) := by decide +kernel
theorem d_Judge_countPairsOfRuns_16 : decode prog_2_method_16_code 16 = .ok (.iload_n 2, 1) := by decide +kernel
theorem d_Judge_countPairsOfRuns_17 : decode prog_2_method_16_code 17 = .ok (.if_icmp .gt 33, 3) := by decide +kernel
theorem d_Judge_countPairsOfRuns_20 : decode prog_2_method_16_code 20 = .ok (.iload_n 3, 1) := by decide +kernel
theorem d_Judge_countPairsOfRuns_21 : decode prog_2_method_16_code 21 = .ok (.aload_n 0, 1) := by decide +kernel
theorem d_Judge_countPairsOfRuns_22 : decode prog_2_method_16_code 22 = .ok (.getfield 22, 3) := by decide +kernel
theorem d_Judge_countPairsOfRuns_25 : decode prog_2_method_16_code 25 = .ok (.iload 4, 2) := by decide +kernel
theorem d_Judge_countPairsOfRuns_27 : decode prog_2_method_16_code 27 = .ok (.iaload, 1) := by decide +kernel
theorem d_Judge_countPairsOfRuns_28 : decode prog_2_method_16_code 28 = .ok (.aload_n 0, 1) := by decide +kernel
theorem d_Judge_countPairsOfRuns_29 : decode prog_2_method_16_code 29 = .ok (.getfield 22, 3) := by decide +kernel
theorem d_Judge_countPairsOfRuns_32 : decode prog_2_method_16_code 32 = .ok (.iload_n 2, 1) := by decide +kernel
theorem d_Judge_countPairsOfRuns_33 : decode prog_2_method_16_code 33 = .ok (.iaload, 1) := by decide +kernel
theorem d_Judge_countPairsOfRuns_34 : decode prog_2_method_16_code 34 = .ok (.if_icmp .ne 7, 3) := by decide +kernel
theorem d_Judge_countPairsOfRuns_37 : decode prog_2_method_16_code 37 = .ok (.iconst 1, 1) := by decide +kernel
theorem d_Judge_countPairsOfRuns_38 : decode prog_2_method_16_code 38 = .ok (.goto 4, 3) := by decide +kernel
theorem d_Judge_countPairsOfRuns_41 : decode prog_2_method_16_code 41 = .ok (.iconst 0, 1) := by decide +kernel
theorem d_Judge_countPairsOfRuns_42 : decode prog_2_method_16_code 42 = .ok (.iadd, 1) := by decide +kernel
theorem d_Judge_countPairsOfRuns_43 : decode prog_2_method_16_code 43 = .ok (.istore_n 3, 1) := by decide +kernel
theorem d_Judge_countPairsOfRuns_44 : decode prog_2_method_16_code 44 = .ok (.iinc 4 1, 3) := by decide +kernel
theorem d_Judge_countPairsOfRuns_47 : decode prog_2_method_16_code 47 = .ok (.goto (-33), 3) := by decide +kernel
theorem d_Judge_countPairsOfRuns_50 : decode prog_2_method_16_code 50 = .ok (.iload_n 1, 1) := by decide +kernel
theorem d_Judge_countPairsOfRuns_51 : decode prog_2_method_16_code 51 = .ok (.aload_n 0, 1) := by decide +kernel
theorem d_Judge_countPairsOfRuns_52 : decode prog_2_method_16_code 52 = .ok (.getfield 22, 3) := by decide +kernel
theorem d_Judge_countPairsOfRuns_55 : decode prog_2_method_16_code 55 = .ok (.iload_n 2, 1) := by decide +kernel
theorem d_Judge_countPairsOfRuns_56 : decode prog_2_method_16_code 56 = .ok (.iaload, 1) := by decide +kernel
theorem d_Judge_countPairsOfRuns_57 : decode prog_2_method_16_code 57 = .ok (.iconst 4, 1) := by decide +kernel
theorem d_Judge_countPairsOfRuns_58 : decode prog_2_method_16_code 58 = .ok (.irem, 1) := by decide +kernel
theorem d_Judge_countPairsOfRuns_59 : decode prog_2_method_16_code 59 = .ok (.ifCond .ne 13, 3) := by decide +kernel
theorem d_Judge_countPairsOfRuns_62 : decode prog_2_method_16_code 62 = .ok (.iload_n 3, 1) := by decide +kernel
theorem d_Judge_countPairsOfRuns_63 : decode prog_2_method_16_code 63 = .ok (.iconst 2, 1) := by decide +kernel
theorem d_Judge_countPairsOfRuns_64 : decode prog_2_method_16_code 64 = .ok (.irem, 1) := by decide +kernel
theorem d_Judge_countPairsOfRuns_65 : decode prog_2_method_16_code 65 = .ok (.ifCond .ne 7, 3) := by decide +kernel
theorem d_Judge_countPairsOfRuns_68 : decode prog_2_method_16_code 68 = .ok (.iconst 1, 1) := by decide +kernel
theorem d_Judge_countPairsOfRuns_69 : decode prog_2_method_16_code 69 = .ok (.goto 4, 3) := by decide +kernel
theorem d_Judge_countPairsOfRuns_72 : decode prog_2_method_16_code 72 = .ok (.iconst 0, 1) := by decide +kernel
theorem d_Judge_countPairsOfRuns_73 : decode prog_2_method_16_code 73 = .ok (.iadd, 1) := by decide +kernel
theorem d_Judge_countPairsOfRuns_74 : decode prog_2_method_16_code 74 = .ok (.istore_n 1, 1) := by decide +kernel
theorem d_Judge_countPairsOfRuns_75 : decode prog_2_method_16_code 75 = .ok (.iinc 2 1, 3) := by decide +kernel
theorem d_Judge_countPairsOfRuns_78 : decode prog_2_method_16_code 78 = .ok (.goto (-74), 3) := by decide +kernel
theorem d_Judge_countPairsOfRuns_81 : decode prog_2_method_16_code 81 = .ok (.iload_n 1, 1) := by decide +kernel
theorem d_Judge_countPairsOfRuns_82 : decode prog_2_method_16_code 82 = .ok (.ireturn, 1) := by decide +kernel
theorem d_Judge_hasStraight_0 : decode prog_2_method_13_code 0 = .ok (.lload_n 0, 1) := by decide +kernel
theorem d_Judge_hasStraight_1 : decode prog_2_method_13_code 1 = .ok (.ldc2_w 186, 3) := by decide +kernel
theorem d_Judge_hasStraight_4 : decode prog_2_method_13_code 4 = .ok (.land, 1) := by decide +kernel
theorem d_Judge_hasStraight_5 : decode prog_2_method_13_code 5 = .ok (.ldc2_w 186, 3) := by decide +kernel
theorem d_Judge_hasStraight_8 : decode prog_2_method_13_code 8 = .ok (.lcmp, 1) := by decide +kernel
theorem d_Judge_hasStraight_9 : decode prog_2_method_13_code 9 = .ok (.ifCond .eq 33, 3) := by decide +kernel
theorem d_Judge_hasStraight_12 : decode prog_2_method_13_code 12 = .ok (.lload_n 0, 1) := by decide +kernel
theorem d_Judge_hasStraight_13 : decode prog_2_method_13_code 13 = .ok (.bipush 9, 2) := by decide +kernel
theorem d_Judge_hasStraight_15 : decode prog_2_method_13_code 15 = .ok (.lshr, 1) := by decide +kernel
theorem d_Judge_hasStraight_16 : decode prog_2_method_13_code 16 = .ok (.ldc2_w 186, 3) := by decide +kernel
theorem d_Judge_hasStraight_19 : decode prog_2_method_13_code 19 = .ok (.land, 1) := by decide +kernel
theorem d_Judge_hasStraight_20 : decode prog_2_method_13_code 20 = .ok (.ldc2_w 186, 3) := by decide +kernel
theorem d_Judge_hasStraight_23 : decode prog_2_method_13_code 23 = .ok (.lcmp, 1) := by decide +kernel
theorem d_Judge_hasStraight_24 : decode prog_2_method_13_code 24 = .ok (.ifCond .eq 18, 3) := by decide +kernel
theorem d_Judge_hasStraight_27 : decode prog_2_method_13_code 27 = .ok (.lload_n 0, 1) := by decide +kernel
theorem d_Judge_hasStraight_28 : decode prog_2_method_13_code 28 = .ok (.bipush 18, 2) := by decide +kernel
theorem d_Judge_hasStraight_30 : decode prog_2_method_13_code 30 = .ok (.lshr, 1) := by decide +kernel
theorem d_Judge_hasStraight_31 : decode prog_2_method_13_code 31 = .ok (.ldc2_w 186, 3) := by decide +kernel
theorem d_Judge_hasStraight_34 : decode prog_2_method_13_code 34 = .ok (.land, 1) := by decide +kernel
theorem d_Judge_hasStraight_35 : decode prog_2_method_13_code 35 = .ok (.ldc2_w 186, 3) := by decide +kernel
theorem d_Judge_hasStraight_38 : decode prog_2_method_13_code 38 = .ok (.lcmp, 1) := by decide +kernel
theorem d_Judge_hasStraight_39 : decode prog_2_method_13_code 39 = .ok (.ifCond .ne 7, 3) := by decide +kernel
theorem d_Judge_hasStraight_42 : decode prog_2_method_13_code 42 = .ok (.iconst 1, 1) := by decide +kernel
theorem d_Judge_hasStraight_43 : decode prog_2_method_13_code 43 = .ok (.goto 4, 3) := by decide +kernel
theorem d_Judge_hasStraight_46 : decode prog_2_method_13_code 46 = .ok (.iconst 0, 1) := by decide +kernel
theorem d_Judge_hasStraight_47 : decode prog_2_method_13_code 47 = .ok (.ireturn, 1) := by decide +kernel
theorem d_Judge_inAllSuits_0 : decode prog_2_method_12_code 0 = .ok (.lload_n 0, 1) := by decide +kernel
theorem d_Judge_inAllSuits_1 : decode prog_2_method_12_code 1 = .ok (.lload_n 0, 1) := by decide +kernel
theorem d_Judge_inAllSuits_2 : decode prog_2_method_12_code 2 = .ok (.bipush 9, 2) := by decide +kernel
theorem d_Judge_inAllSuits_4 : decode prog_2_method_12_code 4 = .ok (.lshr, 1) := by decide +kernel
theorem d_Judge_inAllSuits_5 : decode prog_2_method_12_code 5 = .ok (.land, 1) := by decide +kernel
theorem d_Judge_inAllSuits_6 : decode prog_2_method_12_code 6 = .ok (.lload_n 0, 1) := by decide +kernel
theorem d_Judge_inAllSuits_7 : decode prog_2_method_12_code 7 = .ok (.bipush 18, 2) := by decide +kernel
theorem d_Judge_inAllSuits_9 : decode prog_2_method_12_code 9 = .ok (.lshr, 1) := by decide +kernel
theorem d_Judge_inAllSuits_10 : decode prog_2_method_12_code 10 = .ok (.land, 1) := by decide +kernel
theorem d_Judge_inAllSuits_11 : decode prog_2_method_12_code 11 = .ok (.ldc2_w 184, 3) := by decide +kernel
theorem d_Judge_inAllSuits_14 : decode prog_2_method_12_code 14 = .ok (.land, 1) := by decide +kernel
theorem d_Judge_inAllSuits_15 : decode prog_2_method_12_code 15 = .ok (.lreturn, 1) := by decide +kernel
theorem d_Judge_isFlat_0 : decode prog_2_method_15_code 0 = .ok (.iconst 0, 1) := by decide +kernel
theorem d_Judge_isFlat_1 : decode prog_2_method_15_code 1 = .ok (.istore_n 1, 1) := by decide +kernel
theorem d_Judge_isFlat_2 : decode prog_2_method_15_code 2 = .ok (.iload_n 1, 1) := by decide +kernel
theorem d_Judge_isFlat_3 : decode prog_2_method_15_code 3 = .ok (.iconst 4, 1) := by decide +kernel
theorem d_Judge_isFlat_4 : decode prog_2_method_15_code 4 = .ok (.if_icmp .ge 22, 3) := by decide +kernel
theorem d_Judge_isFlat_7 : decode prog_2_method_15_code 7 = .ok (.aload_n 0, 1) := by decide +kernel
theorem d_Judge_isFlat_8 : decode prog_2_method_15_code 8 = .ok (.getfield 22, 3) := by decide +kernel
theorem d_Judge_isFlat_11 : decode prog_2_method_15_code 11 = .ok (.iload_n 1, 1) := by decide +kernel
theorem d_Judge_isFlat_12 : decode prog_2_method_15_code 12 = .ok (.iaload, 1) := by decide +kernel
theorem d_Judge_isFlat_13 : decode prog_2_method_15_code 13 = .ok (.iconst 4, 1) := by decide +kernel
theorem d_Judge_isFlat_14 : decode prog_2_method_15_code 14 = .ok (.irem, 1) := by decide +kernel
theorem d_Judge_isFlat_15 : decode prog_2_method_15_code 15 = .ok (.ifCond .eq 5, 3) := by decide +kernel
theorem d_Judge_isFlat_18 : decode prog_2_method_15_code 18 = .ok (.iconst 0, 1) := by decide +kernel
theorem d_Judge_isFlat_19 : decode prog_2_method_15_code 19 = .ok (.ireturn, 1) := by decide +kernel
theorem d_Judge_isFlat_20 : decode prog_2_method_15_code 20 = .ok (.iinc 1 1, 3) := by decide +kernel
theorem d_Judge_isFlat_23 : decode prog_2_method_15_code 23 = .ok (.goto (-21), 3) := by decide +kernel
theorem d_Judge_isFlat_26 : decode prog_2_method_15_code 26 = .ok (.aload_n 0, 1) := by decide +kernel
theorem d_Judge_isFlat_27 : decode prog_2_method_15_code 27 = .ok (.getfield 110, 3) := by decide +kernel
theorem d_Judge_isFlat_30 : decode prog_2_method_15_code 30 = .ok (.bipush 31, 2) := by decide +kernel
theorem d_Judge_isFlat_32 : decode prog_2_method_15_code 32 = .ok (.if_icmp .ge 33, 3) := by decide +kernel
theorem d_Judge_isFlat_35 : decode prog_2_method_15_code 35 = .ok (.aload_n 0, 1) := by decide +kernel
theorem d_Judge_isFlat_36 : decode prog_2_method_15_code 36 = .ok (.getfield 110, 3) := by decide +kernel
theorem d_Judge_isFlat_39 : decode prog_2_method_15_code 39 = .ok (.aload_n 0, 1) := by decide +kernel
theorem d_Judge_isFlat_40 : decode prog_2_method_15_code 40 = .ok (.getfield 205, 3) := by decide +kernel
theorem d_Judge_isFlat_43 : decode prog_2_method_15_code 43 = .ok (.if_icmp .eq 22, 3) := by decide +kernel
theorem d_Judge_isFlat_46 : decode prog_2_method_15_code 46 = .ok (.aload_n 0, 1) := by decide +kernel
theorem d_Judge_isFlat_47 : decode prog_2_method_15_code 47 = .ok (.getfield 110, 3) := by decide +kernel
theorem d_Judge_isFlat_50 : decode prog_2_method_15_code 50 = .ok (.aload_n 0, 1) := by decide +kernel
theorem d_Judge_isFlat_51 : decode prog_2_method_15_code 51 = .ok (.getfield 208, 3) := by decide +kernel
theorem d_Judge_isFlat_54 : decode prog_2_method_15_code 54 = .ok (.if_icmp .eq 11, 3) := by decide +kernel
theorem d_Judge_isFlat_57 : decode prog_2_method_15_code 57 = .ok (.aload_n 0, 1) := by decide +kernel
theorem d_Judge_isFlat_58 : decode prog_2_method_15_code 58 = .ok (.getfield 113, 3) := by decide +kernel
theorem d_Judge_isFlat_61 : decode prog_2_method_15_code 61 = .ok (.iconst 4, 1) := by decide +kernel
theorem d_Judge_isFlat_62 : decode prog_2_method_15_code 62 = .ok (.if_icmp .lt 5, 3) := by decide +kernel
theorem d_Judge_isFlat_65 : decode prog_2_method_15_code 65 = .ok (.iconst 0, 1) := by decide +kernel
theorem d_Judge_isFlat_66 : decode prog_2_method_15_code 66 = .ok (.ireturn, 1) := by decide +kernel
theorem d_Judge_isFlat_67 : decode prog_2_method_15_code 67 = .ok (.aload_n 0, 1) := by decide +kernel
theorem d_Judge_isFlat_68 : decode prog_2_method_15_code 68 = .ok (.getfield 22, 3) := by decide +kernel
theorem d_Judge_isFlat_71 : decode prog_2_method_15_code 71 = .ok (.aload_n 0, 1) := by decide +kernel
theorem d_Judge_isFlat_72 : decode prog_2_method_15_code 72 = .ok (.getfield 113, 3) := by decide +kernel
theorem d_Judge_isFlat_75 : decode prog_2_method_15_code 75 = .ok (.iaload, 1) := by decide +kernel
theorem d_Judge_isFlat_76 : decode prog_2_method_15_code 76 = .ok (.iconst 4, 1) := by decide +kernel
theorem d_Judge_isFlat_77 : decode prog_2_method_15_code 77 = .ok (.idiv, 1) := by decide +kernel
theorem d_Judge_isFlat_78 : decode prog_2_method_15_code 78 = .ok (.istore_n 1, 1) := by decide +kernel
theorem d_Judge_isFlat_79 : decode prog_2_method_15_code 79 = .ok (.iload_n 1, 1) := by decide +kernel
theorem d_Judge_isFlat_80 : decode prog_2_method_15_code 80 = .ok (.bipush 9, 2) := by decide +kernel
theorem d_Judge_isFlat_82 : decode prog_2_method_15_code 82 = .ok (.irem, 1) := by decide +kernel
theorem d_Judge_isFlat_83 : decode prog_2_method_15_code 83 = .ok (.iconst 1, 1) := by decide +kernel
theorem d_Judge_isFlat_84 : decode prog_2_method_15_code 84 = .ok (.iadd, 1) := by decide +kernel
theorem d_Judge_isFlat_85 : decode prog_2_method_15_code 85 = .ok (.istore_n 2, 1) := by decide +kernel
theorem d_Judge_isFlat_86 : decode prog_2_method_15_code 86 = .ok (.aload_n 0, 1) := by decide +kernel
theorem d_Judge_isFlat_87 : decode prog_2_method_15_code 87 = .ok (.getfield 35, 3) := by decide +kernel
theorem d_Judge_isFlat_90 : decode prog_2_method_15_code 90 = .ok (.iload_n 1, 1) := by decide +kernel
theorem d_Judge_isFlat_91 : decode prog_2_method_15_code 91 = .ok (.if_icmp .ne 9, 3) := by decide +kernel
theorem d_Judge_isFlat_94 : decode prog_2_method_15_code 94 = .ok (.iload_n 2, 1) := by decide +kernel
theorem d_Judge_isFlat_95 : decode prog_2_method_15_code 95 = .ok (.bipush 7, 2) := by decide +kernel
theorem d_Judge_isFlat_97 : decode prog_2_method_15_code 97 = .ok (.if_icmp .lt 18, 3) := by decide +kernel
theorem d_Judge_isFlat_100 : decode prog_2_method_15_code 100 = .ok (.aload_n 0, 1) := by decide +kernel
theorem d_Judge_isFlat_101 : decode prog_2_method_15_code 101 = .ok (.getfield 35, 3) := by decide +kernel
theorem d_Judge_isFlat_104 : decode prog_2_method_15_code 104 = .ok (.iload_n 1, 1) := by decide +kernel
theorem d_Judge_isFlat_105 : decode prog_2_method_15_code 105 = .ok (.iconst 2, 1) := by decide +kernel
theorem d_Judge_isFlat_106 : decode prog_2_method_15_code 106 = .ok (.iadd, 1) := by decide +kernel
theorem d_Judge_isFlat_107 : decode prog_2_method_15_code 107 = .ok (.if_icmp .ne 12, 3) := by decide +kernel
theorem d_Judge_isFlat_110 : decode prog_2_method_15_code 110 = .ok (.iload_n 2, 1) := by decide +kernel
theorem d_Judge_isFlat_111 : decode prog_2_method_15_code 111 = .ok (.iconst 1, 1) := by decide +kernel
theorem d_Judge_isFlat_112 : decode prog_2_method_15_code 112 = .ok (.if_icmp .le 7, 3) := by decide +kernel
theorem d_Judge_isFlat_115 : decode prog_2_method_15_code 115 = .ok (.iconst 1, 1) := by decide +kernel
theorem d_Judge_isFlat_116 : decode prog_2_method_15_code 116 = .ok (.goto 4, 3) := by decide +kernel
theorem d_Judge_isFlat_119 : decode prog_2_method_15_code 119 = .ok (.iconst 0, 1) := by decide +kernel
theorem d_Judge_isFlat_120 : decode prog_2_method_15_code 120 = .ok (.ireturn, 1) := by decide +kernel
theorem d_Judge_yakuOfRuns_0 : decode prog_2_method_14_code 0 = .ok (.lload_n 1, 1) := by decide +kernel
theorem d_Judge_yakuOfRuns_1 : decode prog_2_method_14_code 1 = .ok (.invokestatic 188, 3) := by decide +kernel
theorem d_Judge_yakuOfRuns_4 : decode prog_2_method_14_code 4 = .ok (.lconst 0, 1) := by decide +kernel
theorem d_Judge_yakuOfRuns_5 : decode prog_2_method_14_code 5 = .ok (.lcmp, 1) := by decide +kernel
theorem d_Judge_yakuOfRuns_6 : decode prog_2_method_14_code 6 = .ok (.ifCond .eq 7, 3) := by decide +kernel
theorem d_Judge_yakuOfRuns_9 : decode prog_2_method_14_code 9 = .ok (.iconst 1, 1) := by decide +kernel
theorem d_Judge_yakuOfRuns_10 : decode prog_2_method_14_code 10 = .ok (.goto 4, 3) := by decide +kernel
theorem d_Judge_yakuOfRuns_13 : decode prog_2_method_14_code 13 = .ok (.iconst 0, 1) := by decide +kernel
theorem d_Judge_yakuOfRuns_14 : decode prog_2_method_14_code 14 = .ok (.bipush 15, 2) := by decide +kernel
theorem d_Judge_yakuOfRuns_16 : decode prog_2_method_14_code 16 = .ok (.invokestatic 191, 3) := by decide +kernel
theorem d_Judge_yakuOfRuns_19 : decode prog_2_method_14_code 19 = .ok (.lload_n 1, 1) := by decide +kernel
theorem d_Judge_yakuOfRuns_20 : decode prog_2_method_14_code 20 = .ok (.invokestatic 195, 3) := by decide +kernel
theorem d_Judge_yakuOfRuns_23 : decode prog_2_method_14_code 23 = .ok (.bipush 16, 2) := by decide +kernel
theorem d_Judge_yakuOfRuns_25 : decode prog_2_method_14_code 25 = .ok (.invokestatic 191, 3) := by decide +kernel
theorem d_Judge_yakuOfRuns_28 : decode prog_2_method_14_code 28 = .ok (.lor, 1) := by decide +kernel
theorem d_Judge_yakuOfRuns_29 : decode prog_2_method_14_code 29 = .ok (.lstore_n 3, 1) := by decide +kernel
theorem d_Judge_yakuOfRuns_30 : decode prog_2_method_14_code 30 = .ok (.aload_n 0, 1) := by decide +kernel
theorem d_Judge_yakuOfRuns_31 : decode prog_2_method_14_code 31 = .ok (.getfield 53, 3) := by decide +kernel
theorem d_Judge_yakuOfRuns_34 : decode prog_2_method_14_code 34 = .ok (.ifCond .eq 55, 3) := by decide +kernel
theorem d_Judge_yakuOfRuns_37 : decode prog_2_method_14_code 37 = .ok (.aload_n 0, 1) := by decide +kernel
theorem d_Judge_yakuOfRuns_38 : decode prog_2_method_14_code 38 = .ok (.invokevirtual 199, 3) := by decide +kernel
theorem d_Judge_yakuOfRuns_41 : decode prog_2_method_14_code 41 = .ok (.istore 5, 2) := by decide +kernel
theorem d_Judge_yakuOfRuns_43 : decode prog_2_method_14_code 43 = .ok (.lload_n 3, 1) := by decide +kernel
theorem d_Judge_yakuOfRuns_44 : decode prog_2_method_14_code 44 = .ok (.aload_n 0, 1) := by decide +kernel
theorem d_Judge_yakuOfRuns_45 : decode prog_2_method_14_code 45 = .ok (.invokevirtual 202, 3) := by decide +kernel
theorem d_Judge_yakuOfRuns_48 : decode prog_2_method_14_code 48 = .ok (.bipush 8, 2) := by decide +kernel
theorem d_Judge_yakuOfRuns_50 : decode prog_2_method_14_code 50 = .ok (.invokestatic 191, 3) := by decide +kernel
theorem d_Judge_yakuOfRuns_53 : decode prog_2_method_14_code 53 = .ok (.iload 5, 2) := by decide +kernel
theorem d_Judge_yakuOfRuns_55 : decode prog_2_method_14_code 55 = .ok (.iconst 1, 1) := by decide +kernel
theorem d_Judge_yakuOfRuns_56 : decode prog_2_method_14_code 56 = .ok (.if_icmp .ne 7, 3) := by decide +kernel
theorem d_Judge_yakuOfRuns_59 : decode prog_2_method_14_code 59 = .ok (.iconst 1, 1) := by decide +kernel
theorem d_Judge_yakuOfRuns_60 : decode prog_2_method_14_code 60 = .ok (.goto 4, 3) := by decide +kernel
theorem d_Judge_yakuOfRuns_63 : decode prog_2_method_14_code 63 = .ok (.iconst 0, 1) := by decide +kernel
theorem d_Judge_yakuOfRuns_64 : decode prog_2_method_14_code 64 = .ok (.bipush 9, 2) := by decide +kernel
theorem d_Judge_yakuOfRuns_66 : decode prog_2_method_14_code 66 = .ok (.invokestatic 191, 3) := by decide +kernel
theorem d_Judge_yakuOfRuns_69 : decode prog_2_method_14_code 69 = .ok (.lor, 1) := by decide +kernel
theorem d_Judge_yakuOfRuns_70 : decode prog_2_method_14_code 70 = .ok (.iload 5, 2) := by decide +kernel
theorem d_Judge_yakuOfRuns_72 : decode prog_2_method_14_code 72 = .ok (.iconst 2, 1) := by decide +kernel
theorem d_Judge_yakuOfRuns_73 : decode prog_2_method_14_code 73 = .ok (.if_icmp .ne 7, 3) := by decide +kernel
theorem d_Judge_yakuOfRuns_76 : decode prog_2_method_14_code 76 = .ok (.iconst 1, 1) := by decide +kernel
theorem d_Judge_yakuOfRuns_77 : decode prog_2_method_14_code 77 = .ok (.goto 4, 3) := by decide +kernel
theorem d_Judge_yakuOfRuns_80 : decode prog_2_method_14_code 80 = .ok (.iconst 0, 1) := by decide +kernel
theorem d_Judge_yakuOfRuns_81 : decode prog_2_method_14_code 81 = .ok (.bipush 27, 2) := by decide +kernel
theorem d_Judge_yakuOfRuns_83 : decode prog_2_method_14_code 83 = .ok (.invokestatic 191, 3) := by decide +kernel
theorem d_Judge_yakuOfRuns_86 : decode prog_2_method_14_code 86 = .ok (.lor, 1) := by decide +kernel
theorem d_Judge_yakuOfRuns_87 : decode prog_2_method_14_code 87 = .ok (.lor, 1) := by decide +kernel
theorem d_Judge_yakuOfRuns_88 : decode prog_2_method_14_code 88 = .ok (.lstore_n 3, 1) := by decide +kernel
theorem d_Judge_yakuOfRuns_89 : decode prog_2_method_14_code 89 = .ok (.lload_n 3, 1) := by decide +kernel
theorem d_Judge_yakuOfRuns_90 : decode prog_2_method_14_code 90 = .ok (.lreturn, 1) := by decide +kernel
theorem d_Judge_yakuOfTripletSorts_0 : decode prog_2_method_19_code 0 = .ok (.iconst 0, 1) := by decide +kernel
theorem d_Judge_yakuOfTripletSorts_1 : decode prog_2_method_19_code 1 = .ok (.istore_n 1, 1) := by decide +kernel
theorem d_Judge_yakuOfTripletSorts_2 : decode prog_2_method_19_code 2 = .ok (.iconst 0, 1) := by decide +kernel
theorem d_Judge_yakuOfTripletSorts_3 : decode prog_2_method_19_code 3 = .ok (.istore_n 2, 1) := by decide +kernel
theorem d_Judge_yakuOfTripletSorts_4 : decode prog_2_method_19_code 4 = .ok (.iconst 0, 1) := by decide +kernel
theorem d_Judge_yakuOfTripletSorts_5 : decode prog_2_method_19_code 5 = .ok (.istore_n 3, 1) := by decide +kernel
theorem d_Judge_yakuOfTripletSorts_6 : decode prog_2_method_19_code 6 = .ok (.iconst 0, 1) := by decide +kernel
theorem d_Judge_yakuOfTripletSorts_7 : decode prog_2_method_19_code 7 = .ok (.istore 4, 2) := by decide +kernel
theorem d_Judge_yakuOfTripletSorts_9 : decode prog_2_method_19_code 9 = .ok (.iload 4, 2) := by decide +kernel
theorem d_Judge_yakuOfTripletSorts_11 : decode prog_2_method_19_code 11 = .ok (.iconst 4, 1) := by decide +kernel
theorem d_Judge_yakuOfTripletSorts_12 : decode prog_2_method_19_code 12 = .ok (.if_icmp .ge 59, 3) := by decide +kernel
theorem d_Judge_yakuOfTripletSorts_15 : decode prog_2_method_19_code 15 = .ok (.aload_n 0, 1) := by decide +kernel
theorem d_Judge_yakuOfTripletSorts_16 : decode prog_2_method_19_code 16 = .ok (.getfield 22, 3) := by decide +kernel
theorem d_Judge_yakuOfTripletSorts_19 : decode prog_2_method_19_code 19 = .ok (.iload 4, 2) := by decide +kernel
theorem d_Judge_yakuOfTripletSorts_21 : decode prog_2_method_19_code 21 = .ok (.iaload, 1) := by decide +kernel
theorem d_Judge_yakuOfTripletSorts_22 : decode prog_2_method_19_code 22 = .ok (.iconst 4, 1) := by decide +kernel
theorem d_Judge_yakuOfTripletSorts_23 : decode prog_2_method_19_code 23 = .ok (.irem, 1) := by decide +kernel
theorem d_Judge_yakuOfTripletSorts_24 : decode prog_2_method_19_code 24 = .ok (.istore 5, 2) := by decide +kernel
theorem d_Judge_yakuOfTripletSorts_26 : decode prog_2_method_19_code 26 = .ok (.iload 5, 2) := by decide +kernel
theorem d_Judge_yakuOfTripletSorts_28 : decode prog_2_method_19_code 28 = .ok (.ifCond .eq 37, 3) := by decide +kernel
theorem d_Judge_yakuOfTripletSorts_31 : decode prog_2_method_19_code 31 = .ok (.iinc 1 1, 3) := by decide +kernel
theorem d_Judge_yakuOfTripletSorts_34 : decode prog_2_method_19_code 34 = .ok (.iload_n 2, 1) := by decide +kernel
theorem d_Judge_yakuOfTripletSorts_35 : decode prog_2_method_19_code 35 = .ok (.aload_n 0, 1) := by decide +kernel
theorem d_Judge_yakuOfTripletSorts_36 : decode prog_2_method_19_code 36 = .ok (.iload 4, 2) := by decide +kernel
theorem d_Judge_yakuOfTripletSorts_38 : decode prog_2_method_19_code 38 = .ok (.invokevirtual 228, 3) := by decide +kernel
theorem d_Judge_yakuOfTripletSorts_41 : decode prog_2_method_19_code 41 = .ok (.ifCond .eq 7, 3) := by decide +kernel
theorem d_Judge_yakuOfTripletSorts_44 : decode prog_2_method_19_code 44 = .ok (.iconst 1, 1) := by decide +kernel
theorem d_Judge_yakuOfTripletSorts_45 : decode prog_2_method_19_code 45 = .ok (.goto 4, 3) := by decide +kernel
theorem d_Judge_yakuOfTripletSorts_48 : decode prog_2_method_19_code 48 = .ok (.iconst 0, 1) := by decide +kernel
theorem d_Judge_yakuOfTripletSorts_49 : decode prog_2_method_19_code 49 = .ok (.iadd, 1) := by decide +kernel
theorem d_Judge_yakuOfTripletSorts_50 : decode prog_2_method_19_code 50 = .ok (.istore_n 2, 1) := by decide +kernel
theorem d_Judge_yakuOfTripletSorts_51 : decode prog_2_method_19_code 51 = .ok (.iload_n 3, 1) := by decide +kernel
theorem d_Judge_yakuOfTripletSorts_52 : decode prog_2_method_19_code 52 = .ok (.iload 5, 2) := by decide +kernel
theorem d_Judge_yakuOfTripletSorts_54 : decode prog_2_method_19_code 54 = .ok (.iconst 1, 1) := by decide +kernel
theorem d_Judge_yakuOfTripletSorts_55 : decode prog_2_method_19_code 55 = .ok (.if_icmp .ne 7, 3) := by decide +kernel
theorem d_Judge_yakuOfTripletSorts_58 : decode prog_2_method_19_code 58 = .ok (.iconst 0, 1) := by decide +kernel
theorem d_Judge_yakuOfTripletSorts_59 : decode prog_2_method_19_code 59 = .ok (.goto 4, 3) := by decide +kernel
theorem d_Judge_yakuOfTripletSorts_62 : decode prog_2_method_19_code 62 = .ok (.iconst 1, 1) := by decide +kernel
theorem d_Judge_yakuOfTripletSorts_63 : decode prog_2_method_19_code 63 = .ok (.iadd, 1) := by decide +kernel
theorem d_Judge_yakuOfTripletSorts_64 : decode prog_2_method_19_code 64 = .ok (.istore_n 3, 1) := by decide +kernel
theorem d_Judge_yakuOfTripletSorts_65 : decode prog_2_method_19_code 65 = .ok (.iinc 4 1, 3) := by decide +kernel
theorem d_Judge_yakuOfTripletSorts_68 : decode prog_2_method_19_code 68 = .ok (.goto (-59), 3) := by decide +kernel
theorem d_Judge_yakuOfTripletSorts_71 : decode prog_2_method_19_code 71 = .ok (.iload_n 1, 1) := by decide +kernel
theorem d_Judge_yakuOfTripletSorts_72 : decode prog_2_method_19_code 72 = .ok (.iconst 4, 1) := by decide +kernel
theorem d_Judge_yakuOfTripletSorts_73 : decode prog_2_method_19_code 73 = .ok (.if_icmp .ne 7, 3) := by decide +kernel
theorem d_Judge_yakuOfTripletSorts_76 : decode prog_2_method_19_code 76 = .ok (.iconst 1, 1) := by decide +kernel
theorem d_Judge_yakuOfTripletSorts_77 : decode prog_2_method_19_code 77 = .ok (.goto 4, 3) := by decide +kernel
theorem d_Judge_yakuOfTripletSorts_80 : decode prog_2_method_19_code 80 = .ok (.iconst 0, 1) := by decide +kernel
theorem d_Judge_yakuOfTripletSorts_81 : decode prog_2_method_19_code 81 = .ok (.bipush 19, 2) := by decide +kernel
theorem d_Judge_yakuOfTripletSorts_83 : decode prog_2_method_19_code 83 = .ok (.invokestatic 191, 3) := by decide +kernel
theorem d_Judge_yakuOfTripletSorts_86 : decode prog_2_method_19_code 86 = .ok (.iload_n 2, 1) := by decide +kernel
theorem d_Judge_yakuOfTripletSorts_87 : decode prog_2_method_19_code 87 = .ok (.iconst 3, 1) := by decide +kernel
theorem d_Judge_yakuOfTripletSorts_88 : decode prog_2_method_19_code 88 = .ok (.if_icmp .ne 7, 3) := by decide +kernel
theorem d_Judge_yakuOfTripletSorts_91 : decode prog_2_method_19_code 91 = .ok (.iconst 1, 1) := by decide +kernel
theorem d_Judge_yakuOfTripletSorts_92 : decode prog_2_method_19_code 92 = .ok (.goto 4, 3) := by decide +kernel
theorem d_Judge_yakuOfTripletSorts_95 : decode prog_2_method_19_code 95 = .ok (.iconst 0, 1) := by decide +kernel
theorem d_Judge_yakuOfTripletSorts_96 : decode prog_2_method_19_code 96 = .ok (.bipush 20, 2) := by decide +kernel
theorem d_Judge_yakuOfTripletSorts_98 : decode prog_2_method_19_code 98 = .ok (.invokestatic 191, 3) := by decide +kernel
theorem d_Judge_yakuOfTripletSorts_101 : decode prog_2_method_19_code 101 = .ok (.lor, 1) := by decide +kernel
theorem d_Judge_yakuOfTripletSorts_102 : decode prog_2_method_19_code 102 = .ok (.iload_n 3, 1) := by decide +kernel
theorem d_Judge_yakuOfTripletSorts_103 : decode prog_2_method_19_code 103 = .ok (.iconst 3, 1) := by decide +kernel
