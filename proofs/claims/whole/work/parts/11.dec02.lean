theorem d_Player_hasRestOfRun_38 : decode prog_3_method_8_code 38 = .ok (.iadd, 1) := by decide +kernel
theorem d_Player_hasRestOfRun_39 : decode prog_3_method_8_code 39 = .ok (.if_icmp .gt 25, 3) := by decide +kernel
theorem d_Player_hasRestOfRun_42 : decode prog_3_method_8_code 42 = .ok (.iload_n 3, 1) := by decide +kernel
theorem d_Player_hasRestOfRun_43 : decode prog_3_method_8_code 43 = .ok (.iload_n 2, 1) := by decide +kernel
theorem d_Player_hasRestOfRun_44 : decode prog_3_method_8_code 44 = .ok (.if_icmp .eq 14, 3) := by decide +kernel
theorem d_Player_hasRestOfRun_47 : decode prog_3_method_8_code 47 = .ok (.aload_n 0, 1) := by decide +kernel
theorem d_Player_hasRestOfRun_48 : decode prog_3_method_8_code 48 = .ok (.getfield 9, 3) := by decide +kernel
theorem d_Player_hasRestOfRun_51 : decode prog_3_method_8_code 51 = .ok (.iload_n 3, 1) := by decide +kernel
theorem d_Player_hasRestOfRun_52 : decode prog_3_method_8_code 52 = .ok (.iaload, 1) := by decide +kernel
theorem d_Player_hasRestOfRun_53 : decode prog_3_method_8_code 53 = .ok (.ifCond .ne 5, 3) := by decide +kernel
theorem d_Player_hasRestOfRun_56 : decode prog_3_method_8_code 56 = .ok (.iconst 0, 1) := by decide +kernel
theorem d_Player_hasRestOfRun_57 : decode prog_3_method_8_code 57 = .ok (.ireturn, 1) := by decide +kernel
theorem d_Player_hasRestOfRun_58 : decode prog_3_method_8_code 58 = .ok (.iinc 3 1, 3) := by decide +kernel
theorem d_Player_hasRestOfRun_61 : decode prog_3_method_8_code 61 = .ok (.goto (-26), 3) := by decide +kernel
theorem d_Player_hasRestOfRun_64 : decode prog_3_method_8_code 64 = .ok (.iconst 1, 1) := by decide +kernel
theorem d_Player_hasRestOfRun_65 : decode prog_3_method_8_code 65 = .ok (.ireturn, 1) := by decide +kernel
theorem d_Player_giveRestOfRun_0 : decode prog_3_method_9_code 0 = .ok (.aload_n 0, 1) := by decide +kernel
theorem d_Player_giveRestOfRun_1 : decode prog_3_method_9_code 1 = .ok (.iload_n 1, 1) := by decide +kernel
theorem d_Player_giveRestOfRun_2 : decode prog_3_method_9_code 2 = .ok (.iload_n 2, 1) := by decide +kernel
theorem d_Player_giveRestOfRun_3 : decode prog_3_method_9_code 3 = .ok (.invokevirtual 58, 3) := by decide +kernel
theorem d_Player_giveRestOfRun_6 : decode prog_3_method_9_code 6 = .ok (.ifCond .eq 33, 3) := by decide +kernel
theorem d_Player_giveRestOfRun_9 : decode prog_3_method_9_code 9 = .ok (.iload_n 1, 1) := by decide +kernel
theorem d_Player_giveRestOfRun_10 : decode prog_3_method_9_code 10 = .ok (.istore_n 3, 1) := by decide +kernel
theorem d_Player_giveRestOfRun_11 : decode prog_3_method_9_code 11 = .ok (.iload_n 3, 1) := by decide +kernel
theorem d_Player_giveRestOfRun_12 : decode prog_3_method_9_code 12 = .ok (.iload_n 1, 1) := by decide +kernel
theorem d_Player_giveRestOfRun_13 : decode prog_3_method_9_code 13 = .ok (.iconst 2, 1) := by decide +kernel
theorem d_Player_giveRestOfRun_14 : decode prog_3_method_9_code 14 = .ok (.iadd, 1) := by decide +kernel
theorem d_Player_giveRestOfRun_15 : decode prog_3_method_9_code 15 = .ok (.if_icmp .gt 24, 3) := by decide +kernel
theorem d_Player_giveRestOfRun_18 : decode prog_3_method_9_code 18 = .ok (.iload_n 3, 1) := by decide +kernel
theorem d_Player_giveRestOfRun_19 : decode prog_3_method_9_code 19 = .ok (.iload_n 2, 1) := by decide +kernel
theorem d_Player_giveRestOfRun_20 : decode prog_3_method_9_code 20 = .ok (.if_icmp .eq 13, 3) := by decide +kernel
theorem d_Player_giveRestOfRun_23 : decode prog_3_method_9_code 23 = .ok (.aload_n 0, 1) := by decide +kernel
theorem d_Player_giveRestOfRun_24 : decode prog_3_method_9_code 24 = .ok (.getfield 9, 3) := by decide +kernel
theorem d_Player_giveRestOfRun_27 : decode prog_3_method_9_code 27 = .ok (.iload_n 3, 1) := by decide +kernel
theorem d_Player_giveRestOfRun_28 : decode prog_3_method_9_code 28 = .ok (.dup2, 1) := by decide +kernel
theorem d_Player_giveRestOfRun_29 : decode prog_3_method_9_code 29 = .ok (.iaload, 1) := by decide +kernel
theorem d_Player_giveRestOfRun_30 : decode prog_3_method_9_code 30 = .ok (.iconst 1, 1) := by decide +kernel
theorem d_Player_giveRestOfRun_31 : decode prog_3_method_9_code 31 = .ok (.isub, 1) := by decide +kernel
theorem d_Player_giveRestOfRun_32 : decode prog_3_method_9_code 32 = .ok (.iastore, 1) := by decide +kernel
theorem d_Player_giveRestOfRun_33 : decode prog_3_method_9_code 33 = .ok (.iinc 3 1, 3) := by decide +kernel
theorem d_Player_giveRestOfRun_36 : decode prog_3_method_9_code 36 = .ok (.goto (-25), 3) := by decide +kernel
theorem d_Player_giveRestOfRun_39 : decode prog_3_method_9_code 39 = .ok (.return_, 1) := by decide +kernel
theorem d_Player_forgetMissed_0 : decode prog_3_method_10_code 0 = .ok (.aload_n 0, 1) := by decide +kernel
theorem d_Player_forgetMissed_1 : decode prog_3_method_10_code 1 = .ok (.getfield 48, 3) := by decide +kernel
theorem d_Player_forgetMissed_4 : decode prog_3_method_10_code 4 = .ok (.ifCond .ne 8, 3) := by decide +kernel
theorem d_Player_forgetMissed_7 : decode prog_3_method_10_code 7 = .ok (.aload_n 0, 1) := by decide +kernel
theorem d_Player_forgetMissed_8 : decode prog_3_method_10_code 8 = .ok (.iconst 0, 1) := by decide +kernel
theorem d_Player_forgetMissed_9 : decode prog_3_method_10_code 9 = .ok (.putfield 55, 3) := by decide +kernel
theorem d_Player_forgetMissed_12 : decode prog_3_method_10_code 12 = .ok (.return_, 1) := by decide +kernel
theorem d_Player_countOwned_0 : decode prog_3_method_15_code 0 = .ok (.aload_n 0, 1) := by decide +kernel
theorem d_Player_countOwned_1 : decode prog_3_method_15_code 1 = .ok (.getfield 9, 3) := by decide +kernel
theorem d_Player_countOwned_4 : decode prog_3_method_15_code 4 = .ok (.iload_n 1, 1) := by decide +kernel
theorem d_Player_countOwned_5 : decode prog_3_method_15_code 5 = .ok (.iaload, 1) := by decide +kernel
theorem d_Player_countOwned_6 : decode prog_3_method_15_code 6 = .ok (.istore_n 2, 1) := by decide +kernel
theorem d_Player_countOwned_7 : decode prog_3_method_15_code 7 = .ok (.iconst 0, 1) := by decide +kernel
theorem d_Player_countOwned_8 : decode prog_3_method_15_code 8 = .ok (.istore_n 3, 1) := by decide +kernel
theorem d_Player_countOwned_9 : decode prog_3_method_15_code 9 = .ok (.iload_n 3, 1) := by decide +kernel
theorem d_Player_countOwned_10 : decode prog_3_method_15_code 10 = .ok (.aload_n 0, 1) := by decide +kernel
theorem d_Player_countOwned_11 : decode prog_3_method_15_code 11 = .ok (.getfield 38, 3) := by decide +kernel
theorem d_Player_countOwned_14 : decode prog_3_method_15_code 14 = .ok (.if_icmp .ge 22, 3) := by decide +kernel
theorem d_Player_countOwned_17 : decode prog_3_method_15_code 17 = .ok (.iload_n 2, 1) := by decide +kernel
theorem d_Player_countOwned_18 : decode prog_3_method_15_code 18 = .ok (.aload_n 0, 1) := by decide +kernel
theorem d_Player_countOwned_19 : decode prog_3_method_15_code 19 = .ok (.getfield 15, 3) := by decide +kernel
theorem d_Player_countOwned_22 : decode prog_3_method_15_code 22 = .ok (.iload_n 3, 1) := by decide +kernel
theorem d_Player_countOwned_23 : decode prog_3_method_15_code 23 = .ok (.iaload, 1) := by decide +kernel
theorem d_Player_countOwned_24 : decode prog_3_method_15_code 24 = .ok (.iload_n 1, 1) := by decide +kernel
theorem d_Player_countOwned_25 : decode prog_3_method_15_code 25 = .ok (.invokestatic 84, 3) := by decide +kernel
theorem d_Player_countOwned_28 : decode prog_3_method_15_code 28 = .ok (.iadd, 1) := by decide +kernel
theorem d_Player_countOwned_29 : decode prog_3_method_15_code 29 = .ok (.istore_n 2, 1) := by decide +kernel
theorem d_Player_countOwned_30 : decode prog_3_method_15_code 30 = .ok (.iinc 3 1, 3) := by decide +kernel
theorem d_Player_countOwned_33 : decode prog_3_method_15_code 33 = .ok (.goto (-24), 3) := by decide +kernel
theorem d_Player_countOwned_36 : decode prog_3_method_15_code 36 = .ok (.iload_n 2, 1) := by decide +kernel
theorem d_Player_countOwned_37 : decode prog_3_method_15_code 37 = .ok (.ireturn, 1) := by decide +kernel
theorem d_Shape_isSetsBut_0 : decode prog_4_method_7_code 0 = .ok (.iconst 0, 1) := by decide +kernel
theorem d_Shape_isSetsBut_1 : decode prog_4_method_7_code 1 = .ok (.istore_n 2, 1) := by decide +kernel
theorem d_Shape_isSetsBut_2 : decode prog_4_method_7_code 2 = .ok (.iconst 0, 1) := by decide +kernel
theorem d_Shape_isSetsBut_3 : decode prog_4_method_7_code 3 = .ok (.istore_n 3, 1) := by decide +kernel
theorem d_Shape_isSetsBut_4 : decode prog_4_method_7_code 4 = .ok (.iconst 0, 1) := by decide +kernel
theorem d_Shape_isSetsBut_5 : decode prog_4_method_7_code 5 = .ok (.istore 4, 2) := by decide +kernel
theorem d_Shape_isSetsBut_7 : decode prog_4_method_7_code 7 = .ok (.iload 4, 2) := by decide +kernel
theorem d_Shape_isSetsBut_9 : decode prog_4_method_7_code 9 = .ok (.bipush 34, 2) := by decide +kernel
theorem d_Shape_isSetsBut_11 : decode prog_4_method_7_code 11 = .ok (.if_icmp .ge 71, 3) := by decide +kernel
theorem d_Shape_isSetsBut_14 : decode prog_4_method_7_code 14 = .ok (.iload 4, 2) := by decide +kernel
theorem d_Shape_isSetsBut_16 : decode prog_4_method_7_code 16 = .ok (.bipush 27, 2) := by decide +kernel
theorem d_Shape_isSetsBut_18 : decode prog_4_method_7_code 18 = .ok (.if_icmp .ge 11, 3) := by decide +kernel
theorem d_Shape_isSetsBut_21 : decode prog_4_method_7_code 21 = .ok (.iload 4, 2) := by decide +kernel
theorem d_Shape_isSetsBut_23 : decode prog_4_method_7_code 23 = .ok (.bipush 9, 2) := by decide +kernel
theorem d_Shape_isSetsBut_25 : decode prog_4_method_7_code 25 = .ok (.irem, 1) := by decide +kernel
theorem d_Shape_isSetsBut_26 : decode prog_4_method_7_code 26 = .ok (.ifCond .ne 9, 3) := by decide +kernel
theorem d_Shape_isSetsBut_29 : decode prog_4_method_7_code 29 = .ok (.iload_n 2, 1) := by decide +kernel
theorem d_Shape_isSetsBut_30 : decode prog_4_method_7_code 30 = .ok (.ifCond .eq 5, 3) := by decide +kernel
theorem d_Shape_isSetsBut_33 : decode prog_4_method_7_code 33 = .ok (.iconst 0, 1) := by decide +kernel
theorem d_Shape_isSetsBut_34 : decode prog_4_method_7_code 34 = .ok (.ireturn, 1) := by decide +kernel
theorem d_Shape_isSetsBut_35 : decode prog_4_method_7_code 35 = .ok (.aload_n 0, 1) := by decide +kernel
theorem d_Shape_isSetsBut_36 : decode prog_4_method_7_code 36 = .ok (.iload 4, 2) := by decide +kernel
theorem d_Shape_isSetsBut_38 : decode prog_4_method_7_code 38 = .ok (.iaload, 1) := by decide +kernel
theorem d_Shape_isSetsBut_39 : decode prog_4_method_7_code 39 = .ok (.iload_n 2, 1) := by decide +kernel
theorem d_Shape_isSetsBut_40 : decode prog_4_method_7_code 40 = .ok (.isub, 1) := by decide +kernel
theorem d_Shape_isSetsBut_41 : decode prog_4_method_7_code 41 = .ok (.iload 4, 2) := by decide +kernel
theorem d_Shape_isSetsBut_43 : decode prog_4_method_7_code 43 = .ok (.iload_n 1, 1) := by decide +kernel
theorem d_Shape_isSetsBut_44 : decode prog_4_method_7_code 44 = .ok (.if_icmp .ne 7, 3) := by decide +kernel
theorem d_Shape_isSetsBut_47 : decode prog_4_method_7_code 47 = .ok (.iconst 2, 1) := by decide +kernel
theorem d_Shape_isSetsBut_48 : decode prog_4_method_7_code 48 = .ok (.goto 4, 3) := by decide +kernel
theorem d_Shape_isSetsBut_51 : decode prog_4_method_7_code 51 = .ok (.iconst 0, 1) := by decide +kernel
theorem d_Shape_isSetsBut_52 : decode prog_4_method_7_code 52 = .ok (.isub, 1) := by decide +kernel
theorem d_Shape_isSetsBut_53 : decode prog_4_method_7_code 53 = .ok (.istore 5, 2) := by decide +kernel
theorem d_Shape_isSetsBut_55 : decode prog_4_method_7_code 55 = .ok (.iload 5, 2) := by decide +kernel
theorem d_Shape_isSetsBut_57 : decode prog_4_method_7_code 57 = .ok (.ifCond .ge 5, 3) := by decide +kernel
theorem d_Shape_isSetsBut_60 : decode prog_4_method_7_code 60 = .ok (.iconst 0, 1) := by decide +kernel
theorem d_Shape_isSetsBut_61 : decode prog_4_method_7_code 61 = .ok (.ireturn, 1) := by decide +kernel
theorem d_Shape_isSetsBut_62 : decode prog_4_method_7_code 62 = .ok (.iload 5, 2) := by decide +kernel
theorem d_Shape_isSetsBut_64 : decode prog_4_method_7_code 64 = .ok (.iconst 3, 1) := by decide +kernel
theorem d_Shape_isSetsBut_65 : decode prog_4_method_7_code 65 = .ok (.irem, 1) := by decide +kernel
theorem d_Shape_isSetsBut_66 : decode prog_4_method_7_code 66 = .ok (.istore 6, 2) := by decide +kernel
theorem d_Shape_isSetsBut_68 : decode prog_4_method_7_code 68 = .ok (.iload_n 3, 1) := by decide +kernel
theorem d_Shape_isSetsBut_69 : decode prog_4_method_7_code 69 = .ok (.iload 6, 2) := by decide +kernel
theorem d_Shape_isSetsBut_71 : decode prog_4_method_7_code 71 = .ok (.iadd, 1) := by decide +kernel
theorem d_Shape_isSetsBut_72 : decode prog_4_method_7_code 72 = .ok (.istore_n 2, 1) := by decide +kernel
theorem d_Shape_isSetsBut_73 : decode prog_4_method_7_code 73 = .ok (.iload 6, 2) := by decide +kernel
theorem d_Shape_isSetsBut_75 : decode prog_4_method_7_code 75 = .ok (.istore_n 3, 1) := by decide +kernel
theorem d_Shape_isSetsBut_76 : decode prog_4_method_7_code 76 = .ok (.iinc 4 1, 3) := by decide +kernel
theorem d_Shape_isSetsBut_79 : decode prog_4_method_7_code 79 = .ok (.goto (-72), 3) := by decide +kernel
theorem d_Shape_isSetsBut_82 : decode prog_4_method_7_code 82 = .ok (.iload_n 2, 1) := by decide +kernel
theorem d_Shape_isSetsBut_83 : decode prog_4_method_7_code 83 = .ok (.ifCond .ne 7, 3) := by decide +kernel
theorem d_Shape_isSetsBut_86 : decode prog_4_method_7_code 86 = .ok (.iconst 1, 1) := by decide +kernel
theorem d_Shape_isSetsBut_87 : decode prog_4_method_7_code 87 = .ok (.goto 4, 3) := by decide +kernel
theorem d_Shape_isSetsBut_90 : decode prog_4_method_7_code 90 = .ok (.iconst 0, 1) := by decide +kernel
theorem d_Shape_isSetsBut_91 : decode prog_4_method_7_code 91 = .ok (.ireturn, 1) := by decide +kernel
theorem d_Shape_isComplete_0 : decode prog_4_method_4_code 0 = .ok (.iload_n 1, 1) := by decide +kernel
theorem d_Shape_isComplete_1 : decode prog_4_method_4_code 1 = .ok (.ifCond .ne 19, 3) := by decide +kernel
theorem d_Shape_isComplete_4 : decode prog_4_method_4_code 4 = .ok (.aload_n 0, 1) := by decide +kernel
theorem d_Shape_isComplete_5 : decode prog_4_method_4_code 5 = .ok (.invokestatic 13, 3) := by decide +kernel
theorem d_Shape_isComplete_8 : decode prog_4_method_4_code 8 = .ok (.ifCond .ne 10, 3) := by decide +kernel
theorem d_Shape_isComplete_11 : decode prog_4_method_4_code 11 = .ok (.aload_n 0, 1) := by decide +kernel
theorem d_Shape_isComplete_12 : decode prog_4_method_4_code 12 = .ok (.invokestatic 17, 3) := by decide +kernel
theorem d_Shape_isComplete_15 : decode prog_4_method_4_code 15 = .ok (.ifCond .eq 5, 3) := by decide +kernel
theorem d_Shape_isComplete_18 : decode prog_4_method_4_code 18 = .ok (.iconst 1, 1) := by decide +kernel
theorem d_Shape_isComplete_19 : decode prog_4_method_4_code 19 = .ok (.ireturn, 1) := by decide +kernel
theorem d_Shape_isComplete_20 : decode prog_4_method_4_code 20 = .ok (.iconst 0, 1) := by decide +kernel
theorem d_Shape_isComplete_21 : decode prog_4_method_4_code 21 = .ok (.istore_n 2, 1) := by decide +kernel
theorem d_Shape_isComplete_22 : decode prog_4_method_4_code 22 = .ok (.iload_n 2, 1) := by decide +kernel
theorem d_Shape_isComplete_23 : decode prog_4_method_4_code 23 = .ok (.bipush 34, 2) := by decide +kernel
theorem d_Shape_isComplete_25 : decode prog_4_method_4_code 25 = .ok (.if_icmp .ge 26, 3) := by decide +kernel
theorem d_Shape_isComplete_28 : decode prog_4_method_4_code 28 = .ok (.aload_n 0, 1) := by decide +kernel
theorem d_Shape_isComplete_29 : decode prog_4_method_4_code 29 = .ok (.iload_n 2, 1) := by decide +kernel
theorem d_Shape_isComplete_30 : decode prog_4_method_4_code 30 = .ok (.iaload, 1) := by decide +kernel
theorem d_Shape_isComplete_31 : decode prog_4_method_4_code 31 = .ok (.iconst 2, 1) := by decide +kernel
theorem d_Shape_isComplete_32 : decode prog_4_method_4_code 32 = .ok (.if_icmp .lt 13, 3) := by decide +kernel
theorem d_Shape_isComplete_35 : decode prog_4_method_4_code 35 = .ok (.aload_n 0, 1) := by decide +kernel
theorem d_Shape_isComplete_36 : decode prog_4_method_4_code 36 = .ok (.iload_n 2, 1) := by decide +kernel
theorem d_Shape_isComplete_37 : decode prog_4_method_4_code 37 = .ok (.invokestatic 20, 3) := by decide +kernel
theorem d_Shape_isComplete_40 : decode prog_4_method_4_code 40 = .ok (.ifCond .eq 5, 3) := by decide +kernel
theorem d_Shape_isComplete_43 : decode prog_4_method_4_code 43 = .ok (.iconst 1, 1) := by decide +kernel
theorem d_Shape_isComplete_44 : decode prog_4_method_4_code 44 = .ok (.ireturn, 1) := by decide +kernel
theorem d_Shape_isComplete_45 : decode prog_4_method_4_code 45 = .ok (.iinc 2 1, 3) := by decide +kernel
theorem d_Shape_isComplete_48 : decode prog_4_method_4_code 48 = .ok (.goto (-26), 3) := by decide +kernel
theorem d_Shape_isComplete_51 : decode prog_4_method_4_code 51 = .ok (.iconst 0, 1) := by decide +kernel
theorem d_Shape_isComplete_52 : decode prog_4_method_4_code 52 = .ok (.ireturn, 1) := by decide +kernel
theorem d_Player_isWait_0 : decode prog_3_method_14_code 0 = .ok (.aload_n 0, 1) := by decide +kernel
theorem d_Player_isWait_1 : decode prog_3_method_14_code 1 = .ok (.iload_n 1, 1) := by decide +kernel
theorem d_Player_isWait_2 : decode prog_3_method_14_code 2 = .ok (.invokevirtual 74, 3) := by decide +kernel
theorem d_Player_isWait_5 : decode prog_3_method_14_code 5 = .ok (.iconst 4, 1) := by decide +kernel
theorem d_Player_isWait_6 : decode prog_3_method_14_code 6 = .ok (.if_icmp .lt 5, 3) := by decide +kernel
theorem d_Player_isWait_9 : decode prog_3_method_14_code 9 = .ok (.iconst 0, 1) := by decide +kernel
theorem d_Player_isWait_10 : decode prog_3_method_14_code 10 = .ok (.ireturn, 1) := by decide +kernel
theorem d_Player_isWait_11 : decode prog_3_method_14_code 11 = .ok (.aload_n 0, 1) := by decide +kernel
theorem d_Player_isWait_12 : decode prog_3_method_14_code 12 = .ok (.getfield 9, 3) := by decide +kernel
theorem d_Player_isWait_15 : decode prog_3_method_14_code 15 = .ok (.iload_n 1, 1) := by decide +kernel
theorem d_Player_isWait_16 : decode prog_3_method_14_code 16 = .ok (.dup2, 1) := by decide +kernel
theorem d_Player_isWait_17 : decode prog_3_method_14_code 17 = .ok (.iaload, 1) := by decide +kernel
theorem d_Player_isWait_18 : decode prog_3_method_14_code 18 = .ok (.iconst 1, 1) := by decide +kernel
theorem d_Player_isWait_19 : decode prog_3_method_14_code 19 = .ok (.iadd, 1) := by decide +kernel
theorem d_Player_isWait_20 : decode prog_3_method_14_code 20 = .ok (.iastore, 1) := by decide +kernel
theorem d_Player_isWait_21 : decode prog_3_method_14_code 21 = .ok (.aload_n 0, 1) := by decide +kernel
theorem d_Player_isWait_22 : decode prog_3_method_14_code 22 = .ok (.getfield 9, 3) := by decide +kernel
theorem d_Player_isWait_25 : decode prog_3_method_14_code 25 = .ok (.aload_n 0, 1) := by decide +kernel
theorem d_Player_isWait_26 : decode prog_3_method_14_code 26 = .ok (.getfield 38, 3) := by decide +kernel
theorem d_Player_isWait_29 : decode prog_3_method_14_code 29 = .ok (.invokestatic 78, 3) := by decide +kernel
theorem d_Player_isWait_32 : decode prog_3_method_14_code 32 = .ok (.istore_n 2, 1) := by decide +kernel
theorem d_Player_isWait_33 : decode prog_3_method_14_code 33 = .ok (.aload_n 0, 1) := by decide +kernel
theorem d_Player_isWait_34 : decode prog_3_method_14_code 34 = .ok (.getfield 9, 3) := by decide +kernel
theorem d_Player_isWait_37 : decode prog_3_method_14_code 37 = .ok (.iload_n 1, 1) := by decide +kernel
theorem d_Player_isWait_38 : decode prog_3_method_14_code 38 = .ok (.dup2, 1) := by decide +kernel
theorem d_Player_isWait_39 : decode prog_3_method_14_code 39 = .ok (.iaload, 1) := by decide +kernel
theorem d_Player_isWait_40 : decode prog_3_method_14_code 40 = .ok (.iconst 1, 1) := by decide +kernel
theorem d_Player_isWait_41 : decode prog_3_method_14_code 41 = .ok (.isub, 1) := by decide +kernel
theorem d_Player_isWait_42 : decode prog_3_method_14_code 42 = .ok (.iastore, 1) := by decide +kernel
theorem d_Player_isWait_43 : decode prog_3_method_14_code 43 = .ok (.iload_n 2, 1) := by decide +kernel
theorem d_Player_isWait_44 : decode prog_3_method_14_code 44 = .ok (.ireturn, 1) := by decide +kernel
theorem d_Player_lacksOne_0 : decode prog_3_method_13_code 0 = .ok (.iconst 3, 1) := by decide +kernel
theorem d_Player_lacksOne_1 : decode prog_3_method_13_code 1 = .ok (.aload_n 0, 1) := by decide +kernel
theorem d_Player_lacksOne_2 : decode prog_3_method_13_code 2 = .ok (.getfield 38, 3) := by decide +kernel
theorem d_Player_lacksOne_5 : decode prog_3_method_13_code 5 = .ok (.imul, 1) := by decide +kernel
theorem d_Player_lacksOne_6 : decode prog_3_method_13_code 6 = .ok (.istore_n 1, 1) := by decide +kernel
theorem d_Player_lacksOne_7 : decode prog_3_method_13_code 7 = .ok (.iconst 0, 1) := by decide +kernel
theorem d_Player_lacksOne_8 : decode prog_3_method_13_code 8 = .ok (.istore_n 2, 1) := by decide +kernel
theorem d_Player_lacksOne_9 : decode prog_3_method_13_code 9 = .ok (.iload_n 2, 1) := by decide +kernel
theorem d_Player_lacksOne_10 : decode prog_3_method_13_code 10 = .ok (.bipush 34, 2) := by decide +kernel
theorem d_Player_lacksOne_12 : decode prog_3_method_13_code 12 = .ok (.if_icmp .ge 18, 3) := by decide +kernel
theorem d_Player_lacksOne_15 : decode prog_3_method_13_code 15 = .ok (.iload_n 1, 1) := by decide +kernel
theorem d_Player_lacksOne_16 : decode prog_3_method_13_code 16 = .ok (.aload_n 0, 1) := by decide +kernel
theorem d_Player_lacksOne_17 : decode prog_3_method_13_code 17 = .ok (.getfield 9, 3) := by decide +kernel
theorem d_Player_lacksOne_20 : decode prog_3_method_13_code 20 = .ok (.iload_n 2, 1) := by decide +kernel
theorem d_Player_lacksOne_21 : decode prog_3_method_13_code 21 = .ok (.iaload, 1) := by decide +kernel
theorem d_Player_lacksOne_22 : decode prog_3_method_13_code 22 = .ok (.iadd, 1) := by decide +kernel
theorem d_Player_lacksOne_23 : decode prog_3_method_13_code 23 = .ok (.istore_n 1, 1) := by decide +kernel
theorem d_Player_lacksOne_24 : decode prog_3_method_13_code 24 = .ok (.iinc 2 1, 3) := by decide +kernel
theorem d_Player_lacksOne_27 : decode prog_3_method_13_code 27 = .ok (.goto (-18), 3) := by decide +kernel
theorem d_Player_lacksOne_30 : decode prog_3_method_13_code 30 = .ok (.iload_n 1, 1) := by decide +kernel
theorem d_Player_lacksOne_31 : decode prog_3_method_13_code 31 = .ok (.bipush 13, 2) := by decide +kernel
theorem d_Player_lacksOne_33 : decode prog_3_method_13_code 33 = .ok (.if_icmp .ne 7, 3) := by decide +kernel
theorem d_Player_lacksOne_36 : decode prog_3_method_13_code 36 = .ok (.iconst 1, 1) := by decide +kernel
theorem d_Player_lacksOne_37 : decode prog_3_method_13_code 37 = .ok (.goto 4, 3) := by decide +kernel
theorem d_Player_lacksOne_40 : decode prog_3_method_13_code 40 = .ok (.iconst 0, 1) := by decide +kernel
theorem d_Player_lacksOne_41 : decode prog_3_method_13_code 41 = .ok (.ireturn, 1) := by decide +kernel
theorem d_Player_findWaits_0 : decode prog_3_method_12_code 0 = .ok (.lconst 0, 1) := by decide +kernel
theorem d_Player_findWaits_1 : decode prog_3_method_12_code 1 = .ok (.lstore_n 1, 1) := by decide +kernel
theorem d_Player_findWaits_2 : decode prog_3_method_12_code 2 = .ok (.aload_n 0, 1) := by decide +kernel
theorem d_Player_findWaits_3 : decode prog_3_method_12_code 3 = .ok (.invokevirtual 66, 3) := by decide +kernel
theorem d_Player_findWaits_6 : decode prog_3_method_12_code 6 = .ok (.ifCond .eq 31, 3) := by decide +kernel
theorem d_Player_findWaits_9 : decode prog_3_method_12_code 9 = .ok (.iconst 0, 1) := by decide +kernel
theorem d_Player_findWaits_10 : decode prog_3_method_12_code 10 = .ok (.istore_n 3, 1) := by decide +kernel
theorem d_Player_findWaits_11 : decode prog_3_method_12_code 11 = .ok (.iload_n 3, 1) := by decide +kernel
theorem d_Player_findWaits_12 : decode prog_3_method_12_code 12 = .ok (.bipush 34, 2) := by decide +kernel
theorem d_Player_findWaits_14 : decode prog_3_method_12_code 14 = .ok (.if_icmp .ge 23, 3) := by decide +kernel
theorem d_Player_findWaits_17 : decode prog_3_method_12_code 17 = .ok (.aload_n 0, 1) := by decide +kernel
theorem d_Player_findWaits_18 : decode prog_3_method_12_code 18 = .ok (.iload_n 3, 1) := by decide +kernel
theorem d_Player_findWaits_19 : decode prog_3_method_12_code 19 = .ok (.invokevirtual 70, 3) := by decide +kernel
theorem d_Player_findWaits_22 : decode prog_3_method_12_code 22 = .ok (.ifCond .eq 9, 3) := by decide +kernel
theorem d_Player_findWaits_25 : decode prog_3_method_12_code 25 = .ok (.lload_n 1, 1) := by decide +kernel
theorem d_Player_findWaits_26 : decode prog_3_method_12_code 26 = .ok (.lconst 1, 1) := by decide +kernel
theorem d_Player_findWaits_27 : decode prog_3_method_12_code 27 = .ok (.iload_n 3, 1) := by decide +kernel
theorem d_Player_findWaits_28 : decode prog_3_method_12_code 28 = .ok (.lshl, 1) := by decide +kernel
theorem d_Player_findWaits_29 : decode prog_3_method_12_code 29 = .ok (.lor, 1) := by decide +kernel
theorem d_Player_findWaits_30 : decode prog_3_method_12_code 30 = .ok (.lstore_n 1, 1) := by decide +kernel
theorem d_Player_findWaits_31 : decode prog_3_method_12_code 31 = .ok (.iinc 3 1, 3) := by decide +kernel
theorem d_Player_findWaits_34 : decode prog_3_method_12_code 34 = .ok (.goto (-23), 3) := by decide +kernel
theorem d_Player_findWaits_37 : decode prog_3_method_12_code 37 = .ok (.lload_n 1, 1) := by decide +kernel
theorem d_Player_findWaits_38 : decode prog_3_method_12_code 38 = .ok (.lreturn, 1) := by decide +kernel
theorem d_Player_isFuriten_0 : decode prog_3_method_11_code 0 = .ok (.aload_n 0, 1) := by decide +kernel
theorem d_Player_isFuriten_1 : decode prog_3_method_11_code 1 = .ok (.getfield 55, 3) := by decide +kernel
theorem d_Player_isFuriten_4 : decode prog_3_method_11_code 4 = .ok (.ifCond .ne 17, 3) := by decide +kernel
theorem d_Player_isFuriten_7 : decode prog_3_method_11_code 7 = .ok (.aload_n 0, 1) := by decide +kernel
theorem d_Player_isFuriten_8 : decode prog_3_method_11_code 8 = .ok (.invokevirtual 62, 3) := by decide +kernel
theorem d_Player_isFuriten_11 : decode prog_3_method_11_code 11 = .ok (.aload_n 0, 1) := by decide +kernel
theorem d_Player_isFuriten_12 : decode prog_3_method_11_code 12 = .ok (.getfield 44, 3) := by decide +kernel
theorem d_Player_isFuriten_15 : decode prog_3_method_11_code 15 = .ok (.land, 1) := by decide +kernel
theorem d_Player_isFuriten_16 : decode prog_3_method_11_code 16 = .ok (.lconst 0, 1) := by decide +kernel
theorem d_Player_isFuriten_17 : decode prog_3_method_11_code 17 = .ok (.lcmp, 1) := by decide +kernel
theorem d_Player_isFuriten_18 : decode prog_3_method_11_code 18 = .ok (.ifCond .eq 7, 3) := by decide +kernel
theorem d_Player_isFuriten_21 : decode prog_3_method_11_code 21 = .ok (.iconst 1, 1) := by decide +kernel
theorem d_Player_isFuriten_22 : decode prog_3_method_11_code 22 = .ok (.goto 4, 3) := by decide +kernel
theorem d_Player_isFuriten_25 : decode prog_3_method_11_code 25 = .ok (.iconst 0, 1) := by decide +kernel
theorem d_Player_isFuriten_26 : decode prog_3_method_11_code 26 = .ok (.ireturn, 1) := by decide +kernel
theorem d_Wall_isPlace_0 : decode prog_6_method_5_code 0 = .ok (.iload_n 0, 1) := by decide +kernel
theorem d_Wall_isPlace_1 : decode prog_6_method_5_code 1 = .ok (.ifCond .lt 14, 3) := by decide +kernel
theorem d_Wall_isPlace_4 : decode prog_6_method_5_code 4 = .ok (.iload_n 0, 1) := by decide +kernel
theorem d_Wall_isPlace_5 : decode prog_6_method_5_code 5 = .ok (.sipush 136, 3) := by decide +kernel
theorem d_Wall_isPlace_8 : decode prog_6_method_5_code 8 = .ok (.if_icmp .ge 7, 3) := by decide +kernel
theorem d_Wall_isPlace_11 : decode prog_6_method_5_code 11 = .ok (.iconst 1, 1) := by decide +kernel
theorem d_Wall_isPlace_12 : decode prog_6_method_5_code 12 = .ok (.goto 4, 3) := by decide +kernel
theorem d_Wall_isPlace_15 : decode prog_6_method_5_code 15 = .ok (.iconst 0, 1) := by decide +kernel
theorem d_Wall_isPlace_16 : decode prog_6_method_5_code 16 = .ok (.ireturn, 1) := by decide +kernel
theorem d_Wall_exchange_0 : decode prog_6_method_4_code 0 = .ok (.iload_n 1, 1) := by decide +kernel
theorem d_Wall_exchange_1 : decode prog_6_method_4_code 1 = .ok (.invokestatic 34, 3) := by decide +kernel
theorem d_Wall_exchange_4 : decode prog_6_method_4_code 4 = .ok (.ifCond .eq 36, 3) := by decide +kernel
theorem d_Wall_exchange_7 : decode prog_6_method_4_code 7 = .ok (.iload_n 2, 1) := by decide +kernel
theorem d_Wall_exchange_8 : decode prog_6_method_4_code 8 = .ok (.invokestatic 34, 3) := by decide +kernel
theorem d_Wall_exchange_11 : decode prog_6_method_4_code 11 = .ok (.ifCond .eq 29, 3) := by decide +kernel
theorem d_Wall_exchange_14 : decode prog_6_method_4_code 14 = .ok (.aload_n 0, 1) := by decide +kernel
theorem d_Wall_exchange_15 : decode prog_6_method_4_code 15 = .ok (.getfield 11, 3) := by decide +kernel
theorem d_Wall_exchange_18 : decode prog_6_method_4_code 18 = .ok (.iload_n 1, 1) := by decide +kernel
theorem d_Wall_exchange_19 : decode prog_6_method_4_code 19 = .ok (.iaload, 1) := by decide +kernel
theorem d_Wall_exchange_20 : decode prog_6_method_4_code 20 = .ok (.istore_n 3, 1) := by decide +kernel
theorem d_Wall_exchange_21 : decode prog_6_method_4_code 21 = .ok (.aload_n 0, 1) := by decide +kernel
theorem d_Wall_exchange_22 : decode prog_6_method_4_code 22 = .ok (.getfield 11, 3) := by decide +kernel
theorem d_Wall_exchange_25 : decode prog_6_method_4_code 25 = .ok (.iload_n 1, 1) := by decide +kernel
theorem d_Wall_exchange_26 : decode prog_6_method_4_code 26 = .ok (.aload_n 0, 1) := by decide +kernel
theorem d_Wall_exchange_27 : decode prog_6_method_4_code 27 = .ok (.getfield 11, 3) := by decide +kernel
theorem d_Wall_exchange_30 : decode prog_6_method_4_code 30 = .ok (.iload_n 2, 1) := by decide +kernel
theorem d_Wall_exchange_31 : decode prog_6_method_4_code 31 = .ok (.iaload, 1) := by decide +kernel
theorem d_Wall_exchange_32 : decode prog_6_method_4_code 32 = .ok (.iastore, 1) := by decide +kernel
theorem d_Wall_exchange_33 : decode prog_6_method_4_code 33 = .ok (.aload_n 0, 1) := by decide +kernel
theorem d_Wall_exchange_34 : decode prog_6_method_4_code 34 = .ok (.getfield 11, 3) := by decide +kernel
theorem d_Wall_exchange_37 : decode prog_6_method_4_code 37 = .ok (.iload_n 2, 1) := by decide +kernel
theorem d_Wall_exchange_38 : decode prog_6_method_4_code 38 = .ok (.iload_n 3, 1) := by decide +kernel
theorem d_Wall_exchange_39 : decode prog_6_method_4_code 39 = .ok (.iastore, 1) := by decide +kernel
theorem d_Wall_exchange_40 : decode prog_6_method_4_code 40 = .ok (.return_, 1) := by decide +kernel
theorem d_Wall_pick_0 : decode prog_6_method_3_code 0 = .ok (.aload_n 0, 1) := by decide +kernel
theorem d_Wall_pick_1 : decode prog_6_method_3_code 1 = .ok (.aload_n 0, 1) := by decide +kernel
theorem d_Wall_pick_2 : decode prog_6_method_3_code 2 = .ok (.getfield 19, 3) := by decide +kernel
theorem d_Wall_pick_5 : decode prog_6_method_3_code 5 = .ok (.aload_n 0, 1) := by decide +kernel
theorem d_Wall_pick_6 : decode prog_6_method_3_code 6 = .ok (.getfield 19, 3) := by decide +kernel
theorem d_Wall_pick_9 : decode prog_6_method_3_code 9 = .ok (.bipush 13, 2) := by decide +kernel
theorem d_Wall_pick_11 : decode prog_6_method_3_code 11 = .ok (.ishl, 1) := by decide +kernel
theorem d_Wall_pick_12 : decode prog_6_method_3_code 12 = .ok (.ixor, 1) := by decide +kernel
theorem d_Wall_pick_13 : decode prog_6_method_3_code 13 = .ok (.putfield 19, 3) := by decide +kernel
theorem d_Wall_pick_16 : decode prog_6_method_3_code 16 = .ok (.aload_n 0, 1) := by decide +kernel
theorem d_Wall_pick_17 : decode prog_6_method_3_code 17 = .ok (.aload_n 0, 1) := by decide +kernel
theorem d_Wall_pick_18 : decode prog_6_method_3_code 18 = .ok (.getfield 19, 3) := by decide +kernel
theorem d_Wall_pick_21 : decode prog_6_method_3_code 21 = .ok (.aload_n 0, 1) := by decide +kernel
theorem d_Wall_pick_22 : decode prog_6_method_3_code 22 = .ok (.getfield 19, 3) := by decide +kernel
theorem d_Wall_pick_25 : decode prog_6_method_3_code 25 = .ok (.bipush 17, 2) := by decide +kernel
theorem d_Wall_pick_27 : decode prog_6_method_3_code 27 = .ok (.iushr, 1) := by decide +kernel
theorem d_Wall_pick_28 : decode prog_6_method_3_code 28 = .ok (.ixor, 1) := by decide +kernel
theorem d_Wall_pick_29 : decode prog_6_method_3_code 29 = .ok (.putfield 19, 3) := by decide +kernel
theorem d_Wall_pick_32 : decode prog_6_method_3_code 32 = .ok (.aload_n 0, 1) := by decide +kernel
theorem d_Wall_pick_33 : decode prog_6_method_3_code 33 = .ok (.aload_n 0, 1) := by decide +kernel
theorem d_Wall_pick_34 : decode prog_6_method_3_code 34 = .ok (.getfield 19, 3) := by decide +kernel
theorem d_Wall_pick_37 : decode prog_6_method_3_code 37 = .ok (.aload_n 0, 1) := by decide +kernel
theorem d_Wall_pick_38 : decode prog_6_method_3_code 38 = .ok (.getfield 19, 3) := by decide +kernel
theorem d_Wall_pick_41 : decode prog_6_method_3_code 41 = .ok (.iconst 5, 1) := by decide +kernel
theorem d_Wall_pick_42 : decode prog_6_method_3_code 42 = .ok (.ishl, 1) := by decide +kernel
theorem d_Wall_pick_43 : decode prog_6_method_3_code 43 = .ok (.ixor, 1) := by decide +kernel
theorem d_Wall_pick_44 : decode prog_6_method_3_code 44 = .ok (.putfield 19, 3) := by decide +kernel
theorem d_Wall_pick_47 : decode prog_6_method_3_code 47 = .ok (.iload_n 1, 1) := by decide +kernel
theorem d_Wall_pick_48 : decode prog_6_method_3_code 48 = .ok (.ifCond .le 15, 3) := by decide +kernel
theorem d_Wall_pick_51 : decode prog_6_method_3_code 51 = .ok (.aload_n 0, 1) := by decide +kernel
theorem d_Wall_pick_52 : decode prog_6_method_3_code 52 = .ok (.getfield 19, 3) := by decide +kernel
theorem d_Wall_pick_55 : decode prog_6_method_3_code 55 = .ok (.ldc 33, 2) := by decide +kernel
theorem d_Wall_pick_57 : decode prog_6_method_3_code 57 = .ok (.iand, 1) := by decide +kernel
theorem d_Wall_pick_58 : decode prog_6_method_3_code 58 = .ok (.iload_n 1, 1) := by decide +kernel
theorem d_Wall_pick_59 : decode prog_6_method_3_code 59 = .ok (.irem, 1) := by decide +kernel
theorem d_Wall_pick_60 : decode prog_6_method_3_code 60 = .ok (.goto 4, 3) := by decide +kernel
theorem d_Wall_pick_63 : decode prog_6_method_3_code 63 = .ok (.iconst 0, 1) := by decide +kernel
theorem d_Wall_pick_64 : decode prog_6_method_3_code 64 = .ok (.ireturn, 1) := by decide +kernel
theorem d_Wall_shuffle_0 : decode prog_6_method_2_code 0 = .ok (.iconst 0, 1) := by decide +kernel
theorem d_Wall_shuffle_1 : decode prog_6_method_2_code 1 = .ok (.istore_n 1, 1) := by decide +kernel
theorem d_Wall_shuffle_2 : decode prog_6_method_2_code 2 = .ok (.iload_n 1, 1) := by decide +kernel
theorem d_Wall_shuffle_3 : decode prog_6_method_2_code 3 = .ok (.sipush 136, 3) := by decide +kernel
theorem d_Wall_shuffle_6 : decode prog_6_method_2_code 6 = .ok (.if_icmp .ge 18, 3) := by decide +kernel
theorem d_Wall_shuffle_9 : decode prog_6_method_2_code 9 = .ok (.aload_n 0, 1) := by decide +kernel
theorem d_Wall_shuffle_10 : decode prog_6_method_2_code 10 = .ok (.getfield 11, 3) := by decide +kernel
theorem d_Wall_shuffle_13 : decode prog_6_method_2_code 13 = .ok (.iload_n 1, 1) := by decide +kernel
theorem d_Wall_shuffle_14 : decode prog_6_method_2_code 14 = .ok (.iload_n 1, 1) := by decide +kernel
theorem d_Wall_shuffle_15 : decode prog_6_method_2_code 15 = .ok (.iconst 4, 1) := by decide +kernel
theorem d_Wall_shuffle_16 : decode prog_6_method_2_code 16 = .ok (.idiv, 1) := by decide +kernel
theorem d_Wall_shuffle_17 : decode prog_6_method_2_code 17 = .ok (.iastore, 1) := by decide +kernel
theorem d_Wall_shuffle_18 : decode prog_6_method_2_code 18 = .ok (.iinc 1 1, 3) := by decide +kernel
theorem d_Wall_shuffle_21 : decode prog_6_method_2_code 21 = .ok (.goto (-19), 3) := by decide +kernel
theorem d_Wall_shuffle_24 : decode prog_6_method_2_code 24 = .ok (.sipush 135, 3) := by decide +kernel
theorem d_Wall_shuffle_27 : decode prog_6_method_2_code 27 = .ok (.istore_n 1, 1) := by decide +kernel
theorem d_Wall_shuffle_28 : decode prog_6_method_2_code 28 = .ok (.iload_n 1, 1) := by decide +kernel
theorem d_Wall_shuffle_29 : decode prog_6_method_2_code 29 = .ok (.iconst 1, 1) := by decide +kernel
theorem d_Wall_shuffle_30 : decode prog_6_method_2_code 30 = .ok (.if_icmp .lt 21, 3) := by decide +kernel
theorem d_Wall_shuffle_33 : decode prog_6_method_2_code 33 = .ok (.aload_n 0, 1) := by decide +kernel
theorem d_Wall_shuffle_34 : decode prog_6_method_2_code 34 = .ok (.iload_n 1, 1) := by decide +kernel
theorem d_Wall_shuffle_35 : decode prog_6_method_2_code 35 = .ok (.aload_n 0, 1) := by decide +kernel
theorem d_Wall_shuffle_36 : decode prog_6_method_2_code 36 = .ok (.iload_n 1, 1) := by decide +kernel
theorem d_Wall_shuffle_37 : decode prog_6_method_2_code 37 = .ok (.iconst 1, 1) := by decide +kernel
theorem d_Wall_shuffle_38 : decode prog_6_method_2_code 38 = .ok (.iadd, 1) := by decide +kernel
theorem d_Wall_shuffle_39 : decode prog_6_method_2_code 39 = .ok (.invokevirtual 22, 3) := by decide +kernel
theorem d_Wall_shuffle_42 : decode prog_6_method_2_code 42 = .ok (.invokevirtual 26, 3) := by decide +kernel
theorem d_Wall_shuffle_45 : decode prog_6_method_2_code 45 = .ok (.iinc 1 (-1), 3) := by decide +kernel
theorem d_Wall_shuffle_48 : decode prog_6_method_2_code 48 = .ok (.goto (-20), 3) := by decide +kernel
theorem d_Wall_shuffle_51 : decode prog_6_method_2_code 51 = .ok (.aload_n 0, 1) := by decide +kernel
theorem d_Wall_shuffle_52 : decode prog_6_method_2_code 52 = .ok (.bipush 52, 2) := by decide +kernel
theorem d_Wall_shuffle_54 : decode prog_6_method_2_code 54 = .ok (.putfield 15, 3) := by decide +kernel
theorem d_Wall_shuffle_57 : decode prog_6_method_2_code 57 = .ok (.aload_n 0, 1) := by decide +kernel
theorem d_Wall_shuffle_58 : decode prog_6_method_2_code 58 = .ok (.iconst 0, 1) := by decide +kernel
theorem d_Wall_shuffle_59 : decode prog_6_method_2_code 59 = .ok (.putfield 30, 3) := by decide +kernel
theorem d_Wall_shuffle_62 : decode prog_6_method_2_code 62 = .ok (.return_, 1) := by decide +kernel
theorem d_Table_isKind_0 : decode prog_1_method_24_code 0 = .ok (.iload_n 0, 1) := by decide +kernel
theorem d_Table_isKind_1 : decode prog_1_method_24_code 1 = .ok (.ifCond .lt 13, 3) := by decide +kernel
theorem d_Table_isKind_4 : decode prog_1_method_24_code 4 = .ok (.iload_n 0, 1) := by decide +kernel
theorem d_Table_isKind_5 : decode prog_1_method_24_code 5 = .ok (.bipush 34, 2) := by decide +kernel
theorem d_Table_isKind_7 : decode prog_1_method_24_code 7 = .ok (.if_icmp .ge 7, 3) := by decide +kernel
theorem d_Table_isKind_10 : decode prog_1_method_24_code 10 = .ok (.iconst 1, 1) := by decide +kernel
theorem d_Table_isKind_11 : decode prog_1_method_24_code 11 = .ok (.goto 4, 3) := by decide +kernel
theorem d_Table_isKind_14 : decode prog_1_method_24_code 14 = .ok (.iconst 0, 1) := by decide +kernel
theorem d_Table_isKind_15 : decode prog_1_method_24_code 15 = .ok (.ireturn, 1) := by decide +kernel
theorem d_Wall_bringTo_0 : decode prog_6_method_6_code 0 = .ok (.iload_n 1, 1) := by decide +kernel
theorem d_Wall_bringTo_1 : decode prog_6_method_6_code 1 = .ok (.invokestatic 34, 3) := by decide +kernel
theorem d_Wall_bringTo_4 : decode prog_6_method_6_code 4 = .ok (.ifCond .eq 10, 3) := by decide +kernel
theorem d_Wall_bringTo_7 : decode prog_6_method_6_code 7 = .ok (.iload_n 2, 1) := by decide +kernel
theorem d_Wall_bringTo_8 : decode prog_6_method_6_code 8 = .ok (.invokestatic 38, 3) := by decide +kernel
theorem d_Wall_bringTo_11 : decode prog_6_method_6_code 11 = .ok (.ifCond .ne 5, 3) := by decide +kernel
theorem d_Wall_bringTo_14 : decode prog_6_method_6_code 14 = .ok (.iconst 0, 1) := by decide +kernel
theorem d_Wall_bringTo_15 : decode prog_6_method_6_code 15 = .ok (.ireturn, 1) := by decide +kernel
theorem d_Wall_bringTo_16 : decode prog_6_method_6_code 16 = .ok (.iload_n 1, 1) := by decide +kernel
theorem d_Wall_bringTo_17 : decode prog_6_method_6_code 17 = .ok (.istore_n 3, 1) := by decide +kernel
theorem d_Wall_bringTo_18 : decode prog_6_method_6_code 18 = .ok (.iload_n 3, 1) := by decide +kernel
theorem d_Wall_bringTo_19 : decode prog_6_method_6_code 19 = .ok (.sipush 136, 3) := by decide +kernel
theorem d_Wall_bringTo_22 : decode prog_6_method_6_code 22 = .ok (.if_icmp .ge 27, 3) := by decide +kernel
theorem d_Wall_bringTo_25 : decode prog_6_method_6_code 25 = .ok (.aload_n 0, 1) := by decide +kernel
theorem d_Wall_bringTo_26 : decode prog_6_method_6_code 26 = .ok (.getfield 11, 3) := by decide +kernel
theorem d_Wall_bringTo_29 : decode prog_6_method_6_code 29 = .ok (.iload_n 3, 1) := by decide +kernel
theorem d_Wall_bringTo_30 : decode prog_6_method_6_code 30 = .ok (.iaload, 1) := by decide +kernel
theorem d_Wall_bringTo_31 : decode prog_6_method_6_code 31 = .ok (.iload_n 2, 1) := by decide +kernel
theorem d_Wall_bringTo_32 : decode prog_6_method_6_code 32 = .ok (.if_icmp .ne 11, 3) := by decide +kernel
theorem d_Wall_bringTo_35 : decode prog_6_method_6_code 35 = .ok (.aload_n 0, 1) := by decide +kernel
theorem d_Wall_bringTo_36 : decode prog_6_method_6_code 36 = .ok (.iload_n 1, 1) := by decide +kernel
theorem d_Wall_bringTo_37 : decode prog_6_method_6_code 37 = .ok (.iload_n 3, 1) := by decide +kernel
theorem d_Wall_bringTo_38 : decode prog_6_method_6_code 38 = .ok (.invokevirtual 26, 3) := by decide +kernel
theorem d_Wall_bringTo_41 : decode prog_6_method_6_code 41 = .ok (.iconst 1, 1) := by decide +kernel
theorem d_Wall_bringTo_42 : decode prog_6_method_6_code 42 = .ok (.ireturn, 1) := by decide +kernel
theorem d_Wall_bringTo_43 : decode prog_6_method_6_code 43 = .ok (.iinc 3 1, 3) := by decide +kernel
theorem d_Wall_bringTo_46 : decode prog_6_method_6_code 46 = .ok (.goto (-28), 3) := by decide +kernel
theorem d_Wall_bringTo_49 : decode prog_6_method_6_code 49 = .ok (.iconst 0, 1) := by decide +kernel
theorem d_Wall_bringTo_50 : decode prog_6_method_6_code 50 = .ok (.ireturn, 1) := by decide +kernel
theorem d_Wall_dealTo_0 : decode prog_6_method_7_code 0 = .ok (.iconst 0, 1) := by decide +kernel
theorem d_Wall_dealTo_1 : decode prog_6_method_7_code 1 = .ok (.istore_n 3, 1) := by decide +kernel
theorem d_Wall_dealTo_2 : decode prog_6_method_7_code 2 = .ok (.iload_n 3, 1) := by decide +kernel
theorem d_Wall_dealTo_3 : decode prog_6_method_7_code 3 = .ok (.bipush 13, 2) := by decide +kernel
theorem d_Wall_dealTo_5 : decode prog_6_method_7_code 5 = .ok (.if_icmp .ge 38, 3) := by decide +kernel
theorem d_Wall_dealTo_8 : decode prog_6_method_7_code 8 = .ok (.bipush 13, 2) := by decide +kernel
theorem d_Wall_dealTo_10 : decode prog_6_method_7_code 10 = .ok (.iload_n 2, 1) := by decide +kernel
theorem d_Wall_dealTo_11 : decode prog_6_method_7_code 11 = .ok (.imul, 1) := by decide +kernel
theorem d_Wall_dealTo_12 : decode prog_6_method_7_code 12 = .ok (.iload_n 3, 1) := by decide +kernel
theorem d_Wall_dealTo_13 : decode prog_6_method_7_code 13 = .ok (.iadd, 1) := by decide +kernel
theorem d_Wall_dealTo_14 : decode prog_6_method_7_code 14 = .ok (.istore 4, 2) := by decide +kernel
theorem d_Wall_dealTo_16 : decode prog_6_method_7_code 16 = .ok (.iload 4, 2) := by decide +kernel
theorem d_Wall_dealTo_18 : decode prog_6_method_7_code 18 = .ok (.invokestatic 34, 3) := by decide +kernel
theorem d_Wall_dealTo_21 : decode prog_6_method_7_code 21 = .ok (.ifCond .eq 16, 3) := by decide +kernel
theorem d_Wall_dealTo_24 : decode prog_6_method_7_code 24 = .ok (.aload_n 1, 1) := by decide +kernel
theorem d_Wall_dealTo_25 : decode prog_6_method_7_code 25 = .ok (.aload_n 0, 1) := by decide +kernel
theorem d_Wall_dealTo_26 : decode prog_6_method_7_code 26 = .ok (.getfield 11, 3) := by decide +kernel
theorem d_Wall_dealTo_29 : decode prog_6_method_7_code 29 = .ok (.iload 4, 2) := by decide +kernel
theorem d_Wall_dealTo_31 : decode prog_6_method_7_code 31 = .ok (.iaload, 1) := by decide +kernel
theorem d_Wall_dealTo_32 : decode prog_6_method_7_code 32 = .ok (.dup2, 1) := by decide +kernel
theorem d_Wall_dealTo_33 : decode prog_6_method_7_code 33 = .ok (.iaload, 1) := by decide +kernel
theorem d_Wall_dealTo_34 : decode prog_6_method_7_code 34 = .ok (.iconst 1, 1) := by decide +kernel
theorem d_Wall_dealTo_35 : decode prog_6_method_7_code 35 = .ok (.iadd, 1) := by decide +kernel
theorem d_Wall_dealTo_36 : decode prog_6_method_7_code 36 = .ok (.iastore, 1) := by decide +kernel
theorem d_Wall_dealTo_37 : decode prog_6_method_7_code 37 = .ok (.iinc 3 1, 3) := by decide +kernel
theorem d_Wall_dealTo_40 : decode prog_6_method_7_code 40 = .ok (.goto (-38), 3) := by decide +kernel
theorem d_Wall_dealTo_43 : decode prog_6_method_7_code 43 = .ok (.return_, 1) := by decide +kernel
theorem d_Wall_countLeft_0 : decode prog_6_method_8_code 0 = .ok (.iconst 0, 1) := by decide +kernel
theorem d_Wall_countLeft_1 : decode prog_6_method_8_code 1 = .ok (.bipush 122, 2) := by decide +kernel
theorem d_Wall_countLeft_3 : decode prog_6_method_8_code 3 = .ok (.aload_n 0, 1) := by decide +kernel
theorem d_Wall_countLeft_4 : decode prog_6_method_8_code 4 = .ok (.getfield 30, 3) := by decide +kernel
theorem d_Wall_countLeft_7 : decode prog_6_method_8_code 7 = .ok (.isub, 1) := by decide +kernel
theorem d_Wall_countLeft_8 : decode prog_6_method_8_code 8 = .ok (.aload_n 0, 1) := by decide +kernel
theorem d_Wall_countLeft_9 : decode prog_6_method_8_code 9 = .ok (.getfield 15, 3) := by decide +kernel
theorem d_Wall_countLeft_12 : decode prog_6_method_8_code 12 = .ok (.isub, 1) := by decide +kernel
theorem d_Wall_countLeft_13 : decode prog_6_method_8_code 13 = .ok (.invokestatic 41, 3) := by decide +kernel
theorem d_Wall_countLeft_16 : decode prog_6_method_8_code 16 = .ok (.ireturn, 1) := by decide +kernel
theorem d_Wall_drawTile_0 : decode prog_6_method_9_code 0 = .ok (.aload_n 0, 1) := by decide +kernel
theorem d_Wall_drawTile_1 : decode prog_6_method_9_code 1 = .ok (.getfield 15, 3) := by decide +kernel
theorem d_Wall_drawTile_4 : decode prog_6_method_9_code 4 = .ok (.invokestatic 34, 3) := by decide +kernel
theorem d_Wall_drawTile_7 : decode prog_6_method_9_code 7 = .ok (.ifCond .eq 15, 3) := by decide +kernel
theorem d_Wall_drawTile_10 : decode prog_6_method_9_code 10 = .ok (.aload_n 0, 1) := by decide +kernel
theorem d_Wall_drawTile_11 : decode prog_6_method_9_code 11 = .ok (.getfield 11, 3) := by decide +kernel
theorem d_Wall_drawTile_14 : decode prog_6_method_9_code 14 = .ok (.aload_n 0, 1) := by decide +kernel
theorem d_Wall_drawTile_15 : decode prog_6_method_9_code 15 = .ok (.getfield 15, 3) := by decide +kernel
theorem d_Wall_drawTile_18 : decode prog_6_method_9_code 18 = .ok (.iaload, 1) := by decide +kernel
theorem d_Wall_drawTile_19 : decode prog_6_method_9_code 19 = .ok (.goto 4, 3) := by decide +kernel
theorem d_Wall_drawTile_22 : decode prog_6_method_9_code 22 = .ok (.iconst 0, 1) := by decide +kernel
theorem d_Wall_drawTile_23 : decode prog_6_method_9_code 23 = .ok (.istore_n 1, 1) := by decide +kernel
theorem d_Wall_drawTile_24 : decode prog_6_method_9_code 24 = .ok (.aload_n 0, 1) := by decide +kernel
theorem d_Wall_drawTile_25 : decode prog_6_method_9_code 25 = .ok (.dup, 1) := by decide +kernel
theorem d_Wall_drawTile_26 : decode prog_6_method_9_code 26 = .ok (.getfield 15, 3) := by decide +kernel
theorem d_Wall_drawTile_29 : decode prog_6_method_9_code 29 = .ok (.iconst 1, 1) := by decide +kernel
theorem d_Wall_drawTile_30 : decode prog_6_method_9_code 30 = .ok (.iadd, 1) := by decide +kernel
theorem d_Wall_drawTile_31 : decode prog_6_method_9_code 31 = .ok (.putfield 15, 3) := by decide +kernel
theorem d_Wall_drawTile_34 : decode prog_6_method_9_code 34 = .ok (.iload_n 1, 1) := by decide +kernel
theorem d_Wall_drawTile_35 : decode prog_6_method_9_code 35 = .ok (.ireturn, 1) := by decide +kernel
theorem d_Wall_drawReplacement_0 : decode prog_6_method_10_code 0 = .ok (.sipush 135, 3) := by decide +kernel
theorem d_Wall_drawReplacement_3 : decode prog_6_method_10_code 3 = .ok (.aload_n 0, 1) := by decide +kernel
theorem d_Wall_drawReplacement_4 : decode prog_6_method_10_code 4 = .ok (.getfield 30, 3) := by decide +kernel
theorem d_Wall_drawReplacement_7 : decode prog_6_method_10_code 7 = .ok (.isub, 1) := by decide +kernel
theorem d_Wall_drawReplacement_8 : decode prog_6_method_10_code 8 = .ok (.istore_n 1, 1) := by decide +kernel
theorem d_Wall_drawReplacement_9 : decode prog_6_method_10_code 9 = .ok (.aload_n 0, 1) := by decide +kernel
theorem d_Wall_drawReplacement_10 : decode prog_6_method_10_code 10 = .ok (.dup, 1) := by decide +kernel
theorem d_Wall_drawReplacement_11 : decode prog_6_method_10_code 11 = .ok (.getfield 30, 3) := by decide +kernel
theorem d_Wall_drawReplacement_14 : decode prog_6_method_10_code 14 = .ok (.iconst 1, 1) := by decide +kernel
theorem d_Wall_drawReplacement_15 : decode prog_6_method_10_code 15 = .ok (.iadd, 1) := by decide +kernel
theorem d_Wall_drawReplacement_16 : decode prog_6_method_10_code 16 = .ok (.putfield 30, 3) := by decide +kernel
theorem d_Wall_drawReplacement_19 : decode prog_6_method_10_code 19 = .ok (.iload_n 1, 1) := by decide +kernel
theorem d_Wall_drawReplacement_20 : decode prog_6_method_10_code 20 = .ok (.invokestatic 34, 3) := by decide +kernel
theorem d_Wall_drawReplacement_23 : decode prog_6_method_10_code 23 = .ok (.ifCond .eq 12, 3) := by decide +kernel
theorem d_Wall_drawReplacement_26 : decode prog_6_method_10_code 26 = .ok (.aload_n 0, 1) := by decide +kernel
theorem d_Wall_drawReplacement_27 : decode prog_6_method_10_code 27 = .ok (.getfield 11, 3) := by decide +kernel
theorem d_Wall_drawReplacement_30 : decode prog_6_method_10_code 30 = .ok (.iload_n 1, 1) := by decide +kernel
theorem d_Wall_drawReplacement_31 : decode prog_6_method_10_code 31 = .ok (.iaload, 1) := by decide +kernel
theorem d_Wall_drawReplacement_32 : decode prog_6_method_10_code 32 = .ok (.goto 4, 3) := by decide +kernel
theorem d_Wall_drawReplacement_35 : decode prog_6_method_10_code 35 = .ok (.iconst 0, 1) := by decide +kernel
theorem d_Wall_drawReplacement_36 : decode prog_6_method_10_code 36 = .ok (.ireturn, 1) := by decide +kernel
theorem d_Wall_kindBehind_0 : decode prog_6_method_12_code 0 = .ok (.iload_n 0, 1) := by decide +kernel
theorem d_Wall_kindBehind_1 : decode prog_6_method_12_code 1 = .ok (.bipush 27, 2) := by decide +kernel
theorem d_Wall_kindBehind_3 : decode prog_6_method_12_code 3 = .ok (.if_icmp .ge 23, 3) := by decide +kernel
theorem d_Wall_kindBehind_6 : decode prog_6_method_12_code 6 = .ok (.iload_n 0, 1) := by decide +kernel
theorem d_Wall_kindBehind_7 : decode prog_6_method_12_code 7 = .ok (.bipush 9, 2) := by decide +kernel
theorem d_Wall_kindBehind_9 : decode prog_6_method_12_code 9 = .ok (.irem, 1) := by decide +kernel
theorem d_Wall_kindBehind_10 : decode prog_6_method_12_code 10 = .ok (.bipush 8, 2) := by decide +kernel
theorem d_Wall_kindBehind_12 : decode prog_6_method_12_code 12 = .ok (.if_icmp .ne 10, 3) := by decide +kernel
theorem d_Wall_kindBehind_15 : decode prog_6_method_12_code 15 = .ok (.iload_n 0, 1) := by decide +kernel
theorem d_Wall_kindBehind_16 : decode prog_6_method_12_code 16 = .ok (.bipush 8, 2) := by decide +kernel
theorem d_Wall_kindBehind_18 : decode prog_6_method_12_code 18 = .ok (.isub, 1) := by decide +kernel
theorem d_Wall_kindBehind_19 : decode prog_6_method_12_code 19 = .ok (.goto 6, 3) := by decide +kernel
theorem d_Wall_kindBehind_22 : decode prog_6_method_12_code 22 = .ok (.iload_n 0, 1) := by decide +kernel
theorem d_Wall_kindBehind_23 : decode prog_6_method_12_code 23 = .ok (.iconst 1, 1) := by decide +kernel
theorem d_Wall_kindBehind_24 : decode prog_6_method_12_code 24 = .ok (.iadd, 1) := by decide +kernel
theorem d_Wall_kindBehind_25 : decode prog_6_method_12_code 25 = .ok (.ireturn, 1) := by decide +kernel
theorem d_Wall_kindBehind_26 : decode prog_6_method_12_code 26 = .ok (.iload_n 0, 1) := by decide +kernel
theorem d_Wall_kindBehind_27 : decode prog_6_method_12_code 27 = .ok (.bipush 31, 2) := by decide +kernel
theorem d_Wall_kindBehind_29 : decode prog_6_method_12_code 29 = .ok (.if_icmp .ge 18, 3) := by decide +kernel
theorem d_Wall_kindBehind_32 : decode prog_6_method_12_code 32 = .ok (.iload_n 0, 1) := by decide +kernel
theorem d_Wall_kindBehind_33 : decode prog_6_method_12_code 33 = .ok (.bipush 30, 2) := by decide +kernel
theorem d_Wall_kindBehind_35 : decode prog_6_method_12_code 35 = .ok (.if_icmp .ne 8, 3) := by decide +kernel
theorem d_Wall_kindBehind_38 : decode prog_6_method_12_code 38 = .ok (.bipush 27, 2) := by decide +kernel
theorem d_Wall_kindBehind_40 : decode prog_6_method_12_code 40 = .ok (.goto 6, 3) := by decide +kernel
theorem d_Wall_kindBehind_43 : decode prog_6_method_12_code 43 = .ok (.iload_n 0, 1) := by decide +kernel
theorem d_Wall_kindBehind_44 : decode prog_6_method_12_code 44 = .ok (.iconst 1, 1) := by decide +kernel
theorem d_Wall_kindBehind_45 : decode prog_6_method_12_code 45 = .ok (.iadd, 1) := by decide +kernel
theorem d_Wall_kindBehind_46 : decode prog_6_method_12_code 46 = .ok (.ireturn, 1) := by decide +kernel
theorem d_Wall_kindBehind_47 : decode prog_6_method_12_code 47 = .ok (.iload_n 0, 1) := by decide +kernel
theorem d_Wall_kindBehind_48 : decode prog_6_method_12_code 48 = .ok (.bipush 33, 2) := by decide +kernel
theorem d_Wall_kindBehind_50 : decode prog_6_method_12_code 50 = .ok (.if_icmp .ne 8, 3) := by decide +kernel
theorem d_Wall_kindBehind_53 : decode prog_6_method_12_code 53 = .ok (.bipush 31, 2) := by decide +kernel
theorem d_Wall_kindBehind_55 : decode prog_6_method_12_code 55 = .ok (.goto 6, 3) := by decide +kernel
theorem d_Wall_kindBehind_58 : decode prog_6_method_12_code 58 = .ok (.iload_n 0, 1) := by decide +kernel
theorem d_Wall_kindBehind_59 : decode prog_6_method_12_code 59 = .ok (.iconst 1, 1) := by decide +kernel
theorem d_Wall_kindBehind_60 : decode prog_6_method_12_code 60 = .ok (.iadd, 1) := by decide +kernel
theorem d_Wall_kindBehind_61 : decode prog_6_method_12_code 61 = .ok (.ireturn, 1) := by decide +kernel
theorem d_Wall_countDora_0 : decode prog_6_method_11_code 0 = .ok (.iconst 0, 1) := by decide +kernel
theorem d_Wall_countDora_1 : decode prog_6_method_11_code 1 = .ok (.istore_n 3, 1) := by decide +kernel
theorem d_Wall_countDora_2 : decode prog_6_method_11_code 2 = .ok (.iconst 0, 1) := by decide +kernel
theorem d_Wall_countDora_3 : decode prog_6_method_11_code 3 = .ok (.istore 4, 2) := by decide +kernel
theorem d_Wall_countDora_5 : decode prog_6_method_11_code 5 = .ok (.iload 4, 2) := by decide +kernel
theorem d_Wall_countDora_7 : decode prog_6_method_11_code 7 = .ok (.aload_n 0, 1) := by decide +kernel
theorem d_Wall_countDora_8 : decode prog_6_method_11_code 8 = .ok (.getfield 30, 3) := by decide +kernel
theorem d_Wall_countDora_11 : decode prog_6_method_11_code 11 = .ok (.if_icmp .gt 61, 3) := by decide +kernel
theorem d_Wall_countDora_14 : decode prog_6_method_11_code 14 = .ok (.iload 4, 2) := by decide +kernel
theorem d_Wall_countDora_16 : decode prog_6_method_11_code 16 = .ok (.iconst 4, 1) := by decide +kernel
theorem d_Wall_countDora_17 : decode prog_6_method_11_code 17 = .ok (.if_icmp .gt 55, 3) := by decide +kernel
theorem d_Wall_countDora_20 : decode prog_6_method_11_code 20 = .ok (.iload_n 3, 1) := by decide +kernel
theorem d_Wall_countDora_21 : decode prog_6_method_11_code 21 = .ok (.aload_n 1, 1) := by decide +kernel
theorem d_Wall_countDora_22 : decode prog_6_method_11_code 22 = .ok (.aload_n 0, 1) := by decide +kernel
theorem d_Wall_countDora_23 : decode prog_6_method_11_code 23 = .ok (.getfield 11, 3) := by decide +kernel
theorem d_Wall_countDora_26 : decode prog_6_method_11_code 26 = .ok (.sipush 131, 3) := by decide +kernel
theorem d_Wall_countDora_29 : decode prog_6_method_11_code 29 = .ok (.iconst 2, 1) := by decide +kernel
theorem d_Wall_countDora_30 : decode prog_6_method_11_code 30 = .ok (.iload 4, 2) := by decide +kernel
theorem d_Wall_countDora_32 : decode prog_6_method_11_code 32 = .ok (.imul, 1) := by decide +kernel
theorem d_Wall_countDora_33 : decode prog_6_method_11_code 33 = .ok (.isub, 1) := by decide +kernel
theorem d_Wall_countDora_34 : decode prog_6_method_11_code 34 = .ok (.iaload, 1) := by decide +kernel
theorem d_Wall_countDora_35 : decode prog_6_method_11_code 35 = .ok (.invokestatic 47, 3) := by decide +kernel
theorem d_Wall_countDora_38 : decode prog_6_method_11_code 38 = .ok (.iaload, 1) := by decide +kernel
theorem d_Wall_countDora_39 : decode prog_6_method_11_code 39 = .ok (.iadd, 1) := by decide +kernel
theorem d_Wall_countDora_40 : decode prog_6_method_11_code 40 = .ok (.istore_n 3, 1) := by decide +kernel
theorem d_Wall_countDora_41 : decode prog_6_method_11_code 41 = .ok (.iload_n 2, 1) := by decide +kernel
theorem d_Wall_countDora_42 : decode prog_6_method_11_code 42 = .ok (.ifCond .eq 24, 3) := by decide +kernel
theorem d_Wall_countDora_45 : decode prog_6_method_11_code 45 = .ok (.iload_n 3, 1) := by decide +kernel
theorem d_Wall_countDora_46 : decode prog_6_method_11_code 46 = .ok (.aload_n 1, 1) := by decide +kernel
theorem d_Wall_countDora_47 : decode prog_6_method_11_code 47 = .ok (.aload_n 0, 1) := by decide +kernel
theorem d_Wall_countDora_48 : decode prog_6_method_11_code 48 = .ok (.getfield 11, 3) := by decide +kernel
theorem d_Wall_countDora_51 : decode prog_6_method_11_code 51 = .ok (.sipush 130, 3) := by decide +kernel
theorem d_Wall_countDora_54 : decode prog_6_method_11_code 54 = .ok (.iconst 2, 1) := by decide +kernel
theorem d_Wall_countDora_55 : decode prog_6_method_11_code 55 = .ok (.iload 4, 2) := by decide +kernel
theorem d_Wall_countDora_57 : decode prog_6_method_11_code 57 = .ok (.imul, 1) := by decide +kernel
theorem d_Wall_countDora_58 : decode prog_6_method_11_code 58 = .ok (.isub, 1) := by decide +kernel
theorem d_Wall_countDora_59 : decode prog_6_method_11_code 59 = .ok (.iaload, 1) := by decide +kernel
theorem d_Wall_countDora_60 : decode prog_6_method_11_code 60 = .ok (.invokestatic 47, 3) := by decide +kernel
theorem d_Wall_countDora_63 : decode prog_6_method_11_code 63 = .ok (.iaload, 1) := by decide +kernel
theorem d_Wall_countDora_64 : decode prog_6_method_11_code 64 = .ok (.iadd, 1) := by decide +kernel
theorem d_Wall_countDora_65 : decode prog_6_method_11_code 65 = .ok (.istore_n 3, 1) := by decide +kernel
theorem d_Wall_countDora_66 : decode prog_6_method_11_code 66 = .ok (.iinc 4 1, 3) := by decide +kernel
theorem d_Wall_countDora_69 : decode prog_6_method_11_code 69 = .ok (.goto (-64), 3) := by decide +kernel
theorem d_Wall_countDora_72 : decode prog_6_method_11_code 72 = .ok (.iload_n 3, 1) := by decide +kernel
theorem d_Wall_countDora_73 : decode prog_6_method_11_code 73 = .ok (.ireturn, 1) := by decide +kernel
theorem d_Table_arrange_0 : decode prog_1_method_2_code 0 = .ok (.aload_n 0, 1) := by decide +kernel
theorem d_Table_arrange_1 : decode prog_1_method_2_code 1 = .ok (.getfield 22, 3) := by decide +kernel
theorem d_Table_arrange_4 : decode prog_1_method_2_code 4 = .ok (.ifCond .ne 19, 3) := by decide +kernel
theorem d_Table_arrange_7 : decode prog_1_method_2_code 7 = .ok (.aload_n 0, 1) := by decide +kernel
theorem d_Table_arrange_8 : decode prog_1_method_2_code 8 = .ok (.getfield 34, 3) := by decide +kernel
theorem d_Table_arrange_11 : decode prog_1_method_2_code 11 = .ok (.iload_n 1, 1) := by decide +kernel
theorem d_Table_arrange_12 : decode prog_1_method_2_code 12 = .ok (.iload_n 2, 1) := by decide +kernel
theorem d_Table_arrange_13 : decode prog_1_method_2_code 13 = .ok (.invokevirtual 42, 3) := by decide +kernel
theorem d_Table_arrange_16 : decode prog_1_method_2_code 16 = .ok (.ifCond .eq 7, 3) := by decide +kernel
theorem d_Table_arrange_19 : decode prog_1_method_2_code 19 = .ok (.iconst 1, 1) := by decide +kernel
theorem d_Table_arrange_20 : decode prog_1_method_2_code 20 = .ok (.goto 4, 3) := by decide +kernel
theorem d_Table_arrange_23 : decode prog_1_method_2_code 23 = .ok (.iconst 0, 1) := by decide +kernel
theorem d_Table_arrange_24 : decode prog_1_method_2_code 24 = .ok (.ireturn, 1) := by decide +kernel
theorem d_Table_giveDrawn_0 : decode prog_1_method_43_code 0 = .ok (.aload_n 0, 1) := by decide +kernel
theorem d_Table_giveDrawn_1 : decode prog_1_method_43_code 1 = .ok (.iload_n 1, 1) := by decide +kernel
theorem d_Table_giveDrawn_2 : decode prog_1_method_43_code 2 = .ok (.putfield 26, 3) := by decide +kernel
theorem d_Table_giveDrawn_5 : decode prog_1_method_43_code 5 = .ok (.aload_n 0, 1) := by decide +kernel
theorem d_Table_giveDrawn_6 : decode prog_1_method_43_code 6 = .ok (.getfield 11, 3) := by decide +kernel
theorem d_Table_giveDrawn_9 : decode prog_1_method_43_code 9 = .ok (.aload_n 0, 1) := by decide +kernel
theorem d_Table_giveDrawn_10 : decode prog_1_method_43_code 10 = .ok (.getfield 71, 3) := by decide +kernel
theorem d_Table_giveDrawn_13 : decode prog_1_method_43_code 13 = .ok (.aaload, 1) := by decide +kernel
theorem d_Table_giveDrawn_14 : decode prog_1_method_43_code 14 = .ok (.getfield 52, 3) := by decide +kernel
theorem d_Table_giveDrawn_17 : decode prog_1_method_43_code 17 = .ok (.iload_n 1, 1) := by decide +kernel
theorem d_Table_giveDrawn_18 : decode prog_1_method_43_code 18 = .ok (.dup2, 1) := by decide +kernel
theorem d_Table_giveDrawn_19 : decode prog_1_method_43_code 19 = .ok (.iaload, 1) := by decide +kernel
theorem d_Table_giveDrawn_20 : decode prog_1_method_43_code 20 = .ok (.iconst 1, 1) := by decide +kernel
theorem d_Table_giveDrawn_21 : decode prog_1_method_43_code 21 = .ok (.iadd, 1) := by decide +kernel
theorem d_Table_giveDrawn_22 : decode prog_1_method_43_code 22 = .ok (.iastore, 1) := by decide +kernel
theorem d_Table_giveDrawn_23 : decode prog_1_method_43_code 23 = .ok (.aload_n 0, 1) := by decide +kernel
theorem d_Table_giveDrawn_24 : decode prog_1_method_43_code 24 = .ok (.getfield 11, 3) := by decide +kernel
theorem d_Table_giveDrawn_27 : decode prog_1_method_43_code 27 = .ok (.aload_n 0, 1) := by decide +kernel
theorem d_Table_giveDrawn_28 : decode prog_1_method_43_code 28 = .ok (.getfield 71, 3) := by decide +kernel
theorem d_Table_giveDrawn_31 : decode prog_1_method_43_code 31 = .ok (.aaload, 1) := by decide +kernel
theorem d_Table_giveDrawn_32 : decode prog_1_method_43_code 32 = .ok (.invokevirtual 266, 3) := by decide +kernel
theorem d_Table_giveDrawn_35 : decode prog_1_method_43_code 35 = .ok (.aload_n 0, 1) := by decide +kernel
theorem d_Table_giveDrawn_36 : decode prog_1_method_43_code 36 = .ok (.iconst 1, 1) := by decide +kernel
theorem d_Table_giveDrawn_37 : decode prog_1_method_43_code 37 = .ok (.putfield 22, 3) := by decide +kernel
theorem d_Table_giveDrawn_40 : decode prog_1_method_43_code 40 = .ok (.return_, 1) := by decide +kernel
theorem d_Table_drawFor_0 : decode prog_1_method_42_code 0 = .ok (.aload_n 0, 1) := by decide +kernel
theorem d_Table_drawFor_1 : decode prog_1_method_42_code 1 = .ok (.iload_n 1, 1) := by decide +kernel
theorem d_Table_drawFor_2 : decode prog_1_method_42_code 2 = .ok (.putfield 71, 3) := by decide +kernel
theorem d_Table_drawFor_5 : decode prog_1_method_42_code 5 = .ok (.aload_n 0, 1) := by decide +kernel
theorem d_Table_drawFor_6 : decode prog_1_method_42_code 6 = .ok (.aload_n 0, 1) := by decide +kernel
theorem d_Table_drawFor_7 : decode prog_1_method_42_code 7 = .ok (.getfield 34, 3) := by decide +kernel
theorem d_Table_drawFor_10 : decode prog_1_method_42_code 10 = .ok (.invokevirtual 284, 3) := by decide +kernel
theorem d_Table_drawFor_13 : decode prog_1_method_42_code 13 = .ok (.invokevirtual 278, 3) := by decide +kernel
theorem d_Table_drawFor_16 : decode prog_1_method_42_code 16 = .ok (.aload_n 0, 1) := by decide +kernel
theorem d_Table_drawFor_17 : decode prog_1_method_42_code 17 = .ok (.iconst 0, 1) := by decide +kernel
theorem d_Table_drawFor_18 : decode prog_1_method_42_code 18 = .ok (.putfield 281, 3) := by decide +kernel
theorem d_Table_drawFor_21 : decode prog_1_method_42_code 21 = .ok (.return_, 1) := by decide +kernel
theorem d_Table_deal_0 : decode prog_1_method_3_code 0 = .ok (.aload_n 0, 1) := by decide +kernel
theorem d_Table_deal_1 : decode prog_1_method_3_code 1 = .ok (.getfield 22, 3) := by decide +kernel
theorem d_Table_deal_4 : decode prog_1_method_3_code 4 = .ok (.ifCond .eq 5, 3) := by decide +kernel
theorem d_Table_deal_7 : decode prog_1_method_3_code 7 = .ok (.iconst 0, 1) := by decide +kernel
theorem d_Table_deal_8 : decode prog_1_method_3_code 8 = .ok (.ireturn, 1) := by decide +kernel
theorem d_Table_deal_9 : decode prog_1_method_3_code 9 = .ok (.iconst 0, 1) := by decide +kernel
theorem d_Table_deal_10 : decode prog_1_method_3_code 10 = .ok (.istore_n 1, 1) := by decide +kernel
theorem d_Table_deal_11 : decode prog_1_method_3_code 11 = .ok (.iload_n 1, 1) := by decide +kernel
theorem d_Table_deal_12 : decode prog_1_method_3_code 12 = .ok (.iconst 4, 1) := by decide +kernel
theorem d_Table_deal_13 : decode prog_1_method_3_code 13 = .ok (.if_icmp .ge 39, 3) := by decide +kernel
theorem d_Table_deal_16 : decode prog_1_method_3_code 16 = .ok (.aload_n 0, 1) := by decide +kernel
theorem d_Table_deal_17 : decode prog_1_method_3_code 17 = .ok (.getfield 11, 3) := by decide +kernel
theorem d_Table_deal_20 : decode prog_1_method_3_code 20 = .ok (.aload_n 0, 1) := by decide +kernel
theorem d_Table_deal_21 : decode prog_1_method_3_code 21 = .ok (.getfield 46, 3) := by decide +kernel
theorem d_Table_deal_24 : decode prog_1_method_3_code 24 = .ok (.iload_n 1, 1) := by decide +kernel
theorem d_Table_deal_25 : decode prog_1_method_3_code 25 = .ok (.iadd, 1) := by decide +kernel
theorem d_Table_deal_26 : decode prog_1_method_3_code 26 = .ok (.iconst 4, 1) := by decide +kernel
theorem d_Table_deal_27 : decode prog_1_method_3_code 27 = .ok (.irem, 1) := by decide +kernel
theorem d_Table_deal_28 : decode prog_1_method_3_code 28 = .ok (.aaload, 1) := by decide +kernel
theorem d_Table_deal_29 : decode prog_1_method_3_code 29 = .ok (.astore_n 2, 1) := by decide +kernel
theorem d_Table_deal_30 : decode prog_1_method_3_code 30 = .ok (.aload_n 2, 1) := by decide +kernel
theorem d_Table_deal_31 : decode prog_1_method_3_code 31 = .ok (.invokevirtual 49, 3) := by decide +kernel
theorem d_Table_deal_34 : decode prog_1_method_3_code 34 = .ok (.aload_n 0, 1) := by decide +kernel
theorem d_Table_deal_35 : decode prog_1_method_3_code 35 = .ok (.getfield 34, 3) := by decide +kernel
theorem d_Table_deal_38 : decode prog_1_method_3_code 38 = .ok (.aload_n 2, 1) := by decide +kernel
theorem d_Table_deal_39 : decode prog_1_method_3_code 39 = .ok (.getfield 52, 3) := by decide +kernel
theorem d_Table_deal_42 : decode prog_1_method_3_code 42 = .ok (.iload_n 1, 1) := by decide +kernel
theorem d_Table_deal_43 : decode prog_1_method_3_code 43 = .ok (.invokevirtual 56, 3) := by decide +kernel
theorem d_Table_deal_46 : decode prog_1_method_3_code 46 = .ok (.iinc 1 1, 3) := by decide +kernel
theorem d_Table_deal_49 : decode prog_1_method_3_code 49 = .ok (.goto (-38), 3) := by decide +kernel
theorem d_Table_deal_52 : decode prog_1_method_3_code 52 = .ok (.aload_n 0, 1) := by decide +kernel
theorem d_Table_deal_53 : decode prog_1_method_3_code 53 = .ok (.iconst 0, 1) := by decide +kernel
theorem d_Table_deal_54 : decode prog_1_method_3_code 54 = .ok (.putfield 60, 3) := by decide +kernel
theorem d_Table_deal_57 : decode prog_1_method_3_code 57 = .ok (.aload_n 0, 1) := by decide +kernel
theorem d_Table_deal_58 : decode prog_1_method_3_code 58 = .ok (.aload_n 0, 1) := by decide +kernel
theorem d_Table_deal_59 : decode prog_1_method_3_code 59 = .ok (.getfield 46, 3) := by decide +kernel
theorem d_Table_deal_62 : decode prog_1_method_3_code 62 = .ok (.invokevirtual 64, 3) := by decide +kernel
theorem d_Table_deal_65 : decode prog_1_method_3_code 65 = .ok (.iconst 1, 1) := by decide +kernel
theorem d_Table_deal_66 : decode prog_1_method_3_code 66 = .ok (.ireturn, 1) := by decide +kernel
theorem d_Table_mayRiichi_0 : decode prog_1_method_27_code 0 = .ok (.aload_n 1, 1) := by decide +kernel
theorem d_Table_mayRiichi_1 : decode prog_1_method_27_code 1 = .ok (.getfield 74, 3) := by decide +kernel
theorem d_Table_mayRiichi_4 : decode prog_1_method_27_code 4 = .ok (.ifCond .ne 39, 3) := by decide +kernel
theorem d_Table_mayRiichi_7 : decode prog_1_method_27_code 7 = .ok (.aload_n 1, 1) := by decide +kernel
theorem d_Table_mayRiichi_8 : decode prog_1_method_27_code 8 = .ok (.invokevirtual 223, 3) := by decide +kernel
theorem d_Table_mayRiichi_11 : decode prog_1_method_27_code 11 = .ok (.ifCond .eq 32, 3) := by decide +kernel
theorem d_Table_mayRiichi_14 : decode prog_1_method_27_code 14 = .ok (.aload_n 1, 1) := by decide +kernel
theorem d_Table_mayRiichi_15 : decode prog_1_method_27_code 15 = .ok (.getfield 156, 3) := by decide +kernel
theorem d_Table_mayRiichi_18 : decode prog_1_method_27_code 18 = .ok (.sipush 1000, 3) := by decide +kernel
theorem d_Table_mayRiichi_21 : decode prog_1_method_27_code 21 = .ok (.if_icmp .lt 22, 3) := by decide +kernel
theorem d_Table_mayRiichi_24 : decode prog_1_method_27_code 24 = .ok (.aload_n 0, 1) := by decide +kernel
theorem d_Table_mayRiichi_25 : decode prog_1_method_27_code 25 = .ok (.getfield 34, 3) := by decide +kernel
theorem d_Table_mayRiichi_28 : decode prog_1_method_27_code 28 = .ok (.invokevirtual 106, 3) := by decide +kernel
theorem d_Table_mayRiichi_31 : decode prog_1_method_27_code 31 = .ok (.iconst 4, 1) := by decide +kernel
theorem d_Table_mayRiichi_32 : decode prog_1_method_27_code 32 = .ok (.if_icmp .lt 11, 3) := by decide +kernel
theorem d_Table_mayRiichi_35 : decode prog_1_method_27_code 35 = .ok (.aload_n 0, 1) := by decide +kernel
theorem d_Table_mayRiichi_36 : decode prog_1_method_27_code 36 = .ok (.getfield 26, 3) := by decide +kernel
theorem d_Table_mayRiichi_39 : decode prog_1_method_27_code 39 = .ok (.iconst (-1), 1) := by decide +kernel
theorem d_Table_mayRiichi_40 : decode prog_1_method_27_code 40 = .ok (.if_icmp .ne 5, 3) := by decide +kernel
theorem d_Table_mayRiichi_43 : decode prog_1_method_27_code 43 = .ok (.iconst 0, 1) := by decide +kernel
theorem d_Table_mayRiichi_44 : decode prog_1_method_27_code 44 = .ok (.ireturn, 1) := by decide +kernel
theorem d_Table_mayRiichi_45 : decode prog_1_method_27_code 45 = .ok (.aload_n 1, 1) := by decide +kernel
theorem d_Table_mayRiichi_46 : decode prog_1_method_27_code 46 = .ok (.getfield 52, 3) := by decide +kernel
theorem d_Table_mayRiichi_49 : decode prog_1_method_27_code 49 = .ok (.iload_n 2, 1) := by decide +kernel
theorem d_Table_mayRiichi_50 : decode prog_1_method_27_code 50 = .ok (.dup2, 1) := by decide +kernel
theorem d_Table_mayRiichi_51 : decode prog_1_method_27_code 51 = .ok (.iaload, 1) := by decide +kernel
theorem d_Table_mayRiichi_52 : decode prog_1_method_27_code 52 = .ok (.iconst 1, 1) := by decide +kernel
theorem d_Table_mayRiichi_53 : decode prog_1_method_27_code 53 = .ok (.isub, 1) := by decide +kernel
theorem d_Table_mayRiichi_54 : decode prog_1_method_27_code 54 = .ok (.iastore, 1) := by decide +kernel
theorem d_Table_mayRiichi_55 : decode prog_1_method_27_code 55 = .ok (.aload_n 1, 1) := by decide +kernel
theorem d_Table_mayRiichi_56 : decode prog_1_method_27_code 56 = .ok (.invokevirtual 200, 3) := by decide +kernel
theorem d_Table_mayRiichi_59 : decode prog_1_method_27_code 59 = .ok (.lconst 0, 1) := by decide +kernel
theorem d_Table_mayRiichi_60 : decode prog_1_method_27_code 60 = .ok (.lcmp, 1) := by decide +kernel
theorem d_Table_mayRiichi_61 : decode prog_1_method_27_code 61 = .ok (.ifCond .eq 7, 3) := by decide +kernel
theorem d_Table_mayRiichi_64 : decode prog_1_method_27_code 64 = .ok (.iconst 1, 1) := by decide +kernel
theorem d_Table_mayRiichi_65 : decode prog_1_method_27_code 65 = .ok (.goto 4, 3) := by decide +kernel
theorem d_Table_mayRiichi_68 : decode prog_1_method_27_code 68 = .ok (.iconst 0, 1) := by decide +kernel
theorem d_Table_mayRiichi_69 : decode prog_1_method_27_code 69 = .ok (.istore_n 3, 1) := by decide +kernel
theorem d_Table_mayRiichi_70 : decode prog_1_method_27_code 70 = .ok (.aload_n 1, 1) := by decide +kernel
theorem d_Table_mayRiichi_71 : decode prog_1_method_27_code 71 = .ok (.getfield 52, 3) := by decide +kernel
theorem d_Table_mayRiichi_74 : decode prog_1_method_27_code 74 = .ok (.iload_n 2, 1) := by decide +kernel
theorem d_Table_mayRiichi_75 : decode prog_1_method_27_code 75 = .ok (.dup2, 1) := by decide +kernel
theorem d_Table_mayRiichi_76 : decode prog_1_method_27_code 76 = .ok (.iaload, 1) := by decide +kernel
theorem d_Table_mayRiichi_77 : decode prog_1_method_27_code 77 = .ok (.iconst 1, 1) := by decide +kernel
theorem d_Table_mayRiichi_78 : decode prog_1_method_27_code 78 = .ok (.iadd, 1) := by decide +kernel
theorem d_Table_mayRiichi_79 : decode prog_1_method_27_code 79 = .ok (.iastore, 1) := by decide +kernel
theorem d_Table_mayRiichi_80 : decode prog_1_method_27_code 80 = .ok (.iload_n 3, 1) := by decide +kernel
theorem d_Table_mayRiichi_81 : decode prog_1_method_27_code 81 = .ok (.ireturn, 1) := by decide +kernel
theorem d_Table_findTakes_0 : decode prog_1_method_31_code 0 = .ok (.aload_n 0, 1) := by decide +kernel
theorem d_Table_findTakes_1 : decode prog_1_method_31_code 1 = .ok (.getfield 11, 3) := by decide +kernel
theorem d_Table_findTakes_4 : decode prog_1_method_31_code 4 = .ok (.iload_n 1, 1) := by decide +kernel
theorem d_Table_findTakes_5 : decode prog_1_method_31_code 5 = .ok (.aaload, 1) := by decide +kernel
theorem d_Table_findTakes_6 : decode prog_1_method_31_code 6 = .ok (.astore_n 2, 1) := by decide +kernel
theorem d_Table_findTakes_7 : decode prog_1_method_31_code 7 = .ok (.aload_n 0, 1) := by decide +kernel
theorem d_Table_findTakes_8 : decode prog_1_method_31_code 8 = .ok (.getfield 93, 3) := by decide +kernel
theorem d_Table_findTakes_11 : decode prog_1_method_31_code 11 = .ok (.ifCond .ne 21, 3) := by decide +kernel
theorem d_Table_findTakes_14 : decode prog_1_method_31_code 14 = .ok (.aload_n 2, 1) := by decide +kernel
theorem d_Table_findTakes_15 : decode prog_1_method_31_code 15 = .ok (.getfield 74, 3) := by decide +kernel
theorem d_Table_findTakes_18 : decode prog_1_method_31_code 18 = .ok (.ifCond .ne 14, 3) := by decide +kernel
theorem d_Table_findTakes_21 : decode prog_1_method_31_code 21 = .ok (.aload_n 0, 1) := by decide +kernel
theorem d_Table_findTakes_22 : decode prog_1_method_31_code 22 = .ok (.getfield 34, 3) := by decide +kernel
theorem d_Table_findTakes_25 : decode prog_1_method_31_code 25 = .ok (.invokevirtual 106, 3) := by decide +kernel
theorem d_Table_findTakes_28 : decode prog_1_method_31_code 28 = .ok (.iconst 1, 1) := by decide +kernel
theorem d_Table_findTakes_29 : decode prog_1_method_31_code 29 = .ok (.if_icmp .ge 5, 3) := by decide +kernel
theorem d_Table_findTakes_32 : decode prog_1_method_31_code 32 = .ok (.iconst 0, 1) := by decide +kernel
theorem d_Table_findTakes_33 : decode prog_1_method_31_code 33 = .ok (.ireturn, 1) := by decide +kernel
theorem d_Table_findTakes_34 : decode prog_1_method_31_code 34 = .ok (.iconst 0, 1) := by decide +kernel
theorem d_Table_findTakes_35 : decode prog_1_method_31_code 35 = .ok (.istore_n 3, 1) := by decide +kernel
theorem d_Table_findTakes_36 : decode prog_1_method_31_code 36 = .ok (.aload_n 2, 1) := by decide +kernel
theorem d_Table_findTakes_37 : decode prog_1_method_31_code 37 = .ok (.getfield 52, 3) := by decide +kernel
theorem d_Table_findTakes_40 : decode prog_1_method_31_code 40 = .ok (.aload_n 0, 1) := by decide +kernel
theorem d_Table_findTakes_41 : decode prog_1_method_31_code 41 = .ok (.getfield 26, 3) := by decide +kernel
theorem d_Table_findTakes_44 : decode prog_1_method_31_code 44 = .ok (.iaload, 1) := by decide +kernel
theorem d_Table_findTakes_45 : decode prog_1_method_31_code 45 = .ok (.iconst 2, 1) := by decide +kernel
theorem d_Table_findTakes_46 : decode prog_1_method_31_code 46 = .ok (.if_icmp .lt 7, 3) := by decide +kernel
theorem d_Table_findTakes_49 : decode prog_1_method_31_code 49 = .ok (.iload_n 3, 1) := by decide +kernel
theorem d_Table_findTakes_50 : decode prog_1_method_31_code 50 = .ok (.iconst 4, 1) := by decide +kernel
theorem d_Table_findTakes_51 : decode prog_1_method_31_code 51 = .ok (.ior, 1) := by decide +kernel
theorem d_Table_findTakes_52 : decode prog_1_method_31_code 52 = .ok (.istore_n 3, 1) := by decide +kernel
theorem d_Table_findTakes_53 : decode prog_1_method_31_code 53 = .ok (.aload_n 2, 1) := by decide +kernel
theorem d_Table_findTakes_54 : decode prog_1_method_31_code 54 = .ok (.getfield 52, 3) := by decide +kernel
theorem d_Table_findTakes_57 : decode prog_1_method_31_code 57 = .ok (.aload_n 0, 1) := by decide +kernel
theorem d_Table_findTakes_58 : decode prog_1_method_31_code 58 = .ok (.getfield 26, 3) := by decide +kernel
theorem d_Table_findTakes_61 : decode prog_1_method_31_code 61 = .ok (.iaload, 1) := by decide +kernel
theorem d_Table_findTakes_62 : decode prog_1_method_31_code 62 = .ok (.iconst 3, 1) := by decide +kernel
theorem d_Table_findTakes_63 : decode prog_1_method_31_code 63 = .ok (.if_icmp .lt 19, 3) := by decide +kernel
theorem d_Table_findTakes_66 : decode prog_1_method_31_code 66 = .ok (.aload_n 0, 1) := by decide +kernel
theorem d_Table_findTakes_67 : decode prog_1_method_31_code 67 = .ok (.getfield 34, 3) := by decide +kernel
theorem d_Table_findTakes_70 : decode prog_1_method_31_code 70 = .ok (.getfield 103, 3) := by decide +kernel
theorem d_Table_findTakes_73 : decode prog_1_method_31_code 73 = .ok (.iconst 4, 1) := by decide +kernel
theorem d_Table_findTakes_74 : decode prog_1_method_31_code 74 = .ok (.if_icmp .ge 8, 3) := by decide +kernel
theorem d_Table_findTakes_77 : decode prog_1_method_31_code 77 = .ok (.iload_n 3, 1) := by decide +kernel
theorem d_Table_findTakes_78 : decode prog_1_method_31_code 78 = .ok (.bipush 8, 2) := by decide +kernel
theorem d_Table_findTakes_80 : decode prog_1_method_31_code 80 = .ok (.ior, 1) := by decide +kernel
theorem d_Table_findTakes_81 : decode prog_1_method_31_code 81 = .ok (.istore_n 3, 1) := by decide +kernel
theorem d_Table_findTakes_82 : decode prog_1_method_31_code 82 = .ok (.iload_n 1, 1) := by decide +kernel
theorem d_Table_findTakes_83 : decode prog_1_method_31_code 83 = .ok (.aload_n 0, 1) := by decide +kernel
theorem d_Table_findTakes_84 : decode prog_1_method_31_code 84 = .ok (.getfield 71, 3) := by decide +kernel
theorem d_Table_findTakes_87 : decode prog_1_method_31_code 87 = .ok (.iconst 1, 1) := by decide +kernel
theorem d_Table_findTakes_88 : decode prog_1_method_31_code 88 = .ok (.iadd, 1) := by decide +kernel
theorem d_Table_findTakes_89 : decode prog_1_method_31_code 89 = .ok (.iconst 4, 1) := by decide +kernel
theorem d_Table_findTakes_90 : decode prog_1_method_31_code 90 = .ok (.irem, 1) := by decide +kernel
theorem d_Table_findTakes_91 : decode prog_1_method_31_code 91 = .ok (.if_icmp .ne 43, 3) := by decide +kernel
theorem d_Table_findTakes_94 : decode prog_1_method_31_code 94 = .ok (.aload_n 0, 1) := by decide +kernel
theorem d_Table_findTakes_95 : decode prog_1_method_31_code 95 = .ok (.getfield 26, 3) := by decide +kernel
theorem d_Table_findTakes_98 : decode prog_1_method_31_code 98 = .ok (.iconst 2, 1) := by decide +kernel
theorem d_Table_findTakes_99 : decode prog_1_method_31_code 99 = .ok (.isub, 1) := by decide +kernel
theorem d_Table_findTakes_100 : decode prog_1_method_31_code 100 = .ok (.istore 4, 2) := by decide +kernel
theorem d_Table_findTakes_102 : decode prog_1_method_31_code 102 = .ok (.iload 4, 2) := by decide +kernel
theorem d_Table_findTakes_104 : decode prog_1_method_31_code 104 = .ok (.aload_n 0, 1) := by decide +kernel
theorem d_Table_findTakes_105 : decode prog_1_method_31_code 105 = .ok (.getfield 26, 3) := by decide +kernel
theorem d_Table_findTakes_108 : decode prog_1_method_31_code 108 = .ok (.if_icmp .gt 26, 3) := by decide +kernel
theorem d_Table_findTakes_111 : decode prog_1_method_31_code 111 = .ok (.aload_n 2, 1) := by decide +kernel
theorem d_Table_findTakes_112 : decode prog_1_method_31_code 112 = .ok (.iload 4, 2) := by decide +kernel
theorem d_Table_findTakes_114 : decode prog_1_method_31_code 114 = .ok (.aload_n 0, 1) := by decide +kernel
theorem d_Table_findTakes_115 : decode prog_1_method_31_code 115 = .ok (.getfield 26, 3) := by decide +kernel
theorem d_Table_findTakes_118 : decode prog_1_method_31_code 118 = .ok (.invokevirtual 235, 3) := by decide +kernel
theorem d_Table_findTakes_121 : decode prog_1_method_31_code 121 = .ok (.ifCond .eq 7, 3) := by decide +kernel
theorem d_Table_findTakes_124 : decode prog_1_method_31_code 124 = .ok (.iload_n 3, 1) := by decide +kernel
theorem d_Table_findTakes_125 : decode prog_1_method_31_code 125 = .ok (.iconst 2, 1) := by decide +kernel
theorem d_Table_findTakes_126 : decode prog_1_method_31_code 126 = .ok (.ior, 1) := by decide +kernel
theorem d_Table_findTakes_127 : decode prog_1_method_31_code 127 = .ok (.istore_n 3, 1) := by decide +kernel
theorem d_Table_findTakes_128 : decode prog_1_method_31_code 128 = .ok (.iinc 4 1, 3) := by decide +kernel
theorem d_Table_findTakes_131 : decode prog_1_method_31_code 131 = .ok (.goto (-29), 3) := by decide +kernel
theorem d_Table_findTakes_134 : decode prog_1_method_31_code 134 = .ok (.iload_n 3, 1) := by decide +kernel
theorem d_Table_findTakes_135 : decode prog_1_method_31_code 135 = .ok (.ireturn, 1) := by decide +kernel
theorem d_Table_isAnswerMissing_0 : decode prog_1_method_29_code 0 = .ok (.iconst 0, 1) := by decide +kernel
theorem d_Table_isAnswerMissing_1 : decode prog_1_method_29_code 1 = .ok (.istore_n 1, 1) := by decide +kernel
theorem d_Table_isAnswerMissing_2 : decode prog_1_method_29_code 2 = .ok (.iload_n 1, 1) := by decide +kernel
theorem d_Table_isAnswerMissing_3 : decode prog_1_method_29_code 3 = .ok (.iconst 4, 1) := by decide +kernel
theorem d_Table_isAnswerMissing_4 : decode prog_1_method_29_code 4 = .ok (.if_icmp .ge 23, 3) := by decide +kernel
theorem d_Table_isAnswerMissing_7 : decode prog_1_method_29_code 7 = .ok (.aload_n 0, 1) := by decide +kernel
theorem d_Table_isAnswerMissing_8 : decode prog_1_method_29_code 8 = .ok (.getfield 11, 3) := by decide +kernel
theorem d_Table_isAnswerMissing_11 : decode prog_1_method_29_code 11 = .ok (.iload_n 1, 1) := by decide +kernel
theorem d_Table_isAnswerMissing_12 : decode prog_1_method_29_code 12 = .ok (.aaload, 1) := by decide +kernel
theorem d_Table_isAnswerMissing_13 : decode prog_1_method_29_code 13 = .ok (.getfield 172, 3) := by decide +kernel
theorem d_Table_isAnswerMissing_16 : decode prog_1_method_29_code 16 = .ok (.ifCond .eq 5, 3) := by decide +kernel
theorem d_Table_isAnswerMissing_19 : decode prog_1_method_29_code 19 = .ok (.iconst 1, 1) := by decide +kernel
theorem d_Table_isAnswerMissing_20 : decode prog_1_method_29_code 20 = .ok (.ireturn, 1) := by decide +kernel
theorem d_Table_isAnswerMissing_21 : decode prog_1_method_29_code 21 = .ok (.iinc 1 1, 3) := by decide +kernel
theorem d_Table_isAnswerMissing_24 : decode prog_1_method_29_code 24 = .ok (.goto (-22), 3) := by decide +kernel
theorem d_Table_isAnswerMissing_27 : decode prog_1_method_29_code 27 = .ok (.iconst 0, 1) := by decide +kernel
theorem d_Table_isAnswerMissing_28 : decode prog_1_method_29_code 28 = .ok (.ireturn, 1) := by decide +kernel
theorem d_Table_yakuOfDraw_0 : decode prog_1_method_46_code 0 = .ok (.aload_n 0, 1) := by decide +kernel
theorem d_Table_yakuOfDraw_1 : decode prog_1_method_46_code 1 = .ok (.getfield 11, 3) := by decide +kernel
theorem d_Table_yakuOfDraw_4 : decode prog_1_method_46_code 4 = .ok (.iload_n 1, 1) := by decide +kernel
theorem d_Table_yakuOfDraw_5 : decode prog_1_method_46_code 5 = .ok (.aaload, 1) := by decide +kernel
theorem d_Table_yakuOfDraw_6 : decode prog_1_method_46_code 6 = .ok (.getfield 81, 3) := by decide +kernel
theorem d_Table_yakuOfDraw_9 : decode prog_1_method_46_code 9 = .ok (.ifCond .ne 14, 3) := by decide +kernel
theorem d_Table_yakuOfDraw_12 : decode prog_1_method_46_code 12 = .ok (.aload_n 0, 1) := by decide +kernel
theorem d_Table_yakuOfDraw_13 : decode prog_1_method_46_code 13 = .ok (.getfield 60, 3) := by decide +kernel
theorem d_Table_yakuOfDraw_16 : decode prog_1_method_46_code 16 = .ok (.ifCond .ne 7, 3) := by decide +kernel
theorem d_Table_yakuOfDraw_19 : decode prog_1_method_46_code 19 = .ok (.iconst 1, 1) := by decide +kernel
theorem d_Table_yakuOfDraw_20 : decode prog_1_method_46_code 20 = .ok (.goto 4, 3) := by decide +kernel
theorem d_Table_yakuOfDraw_23 : decode prog_1_method_46_code 23 = .ok (.iconst 0, 1) := by decide +kernel
theorem d_Table_yakuOfDraw_24 : decode prog_1_method_46_code 24 = .ok (.istore_n 2, 1) := by decide +kernel
theorem d_Table_yakuOfDraw_25 : decode prog_1_method_46_code 25 = .ok (.aload_n 0, 1) := by decide +kernel
theorem d_Table_yakuOfDraw_26 : decode prog_1_method_46_code 26 = .ok (.getfield 11, 3) := by decide +kernel
theorem d_Table_yakuOfDraw_29 : decode prog_1_method_46_code 29 = .ok (.iload_n 1, 1) := by decide +kernel
theorem d_Table_yakuOfDraw_30 : decode prog_1_method_46_code 30 = .ok (.aaload, 1) := by decide +kernel
theorem d_Table_yakuOfDraw_31 : decode prog_1_method_46_code 31 = .ok (.invokevirtual 223, 3) := by decide +kernel
theorem d_Table_yakuOfDraw_34 : decode prog_1_method_46_code 34 = .ok (.iconst 3, 1) := by decide +kernel
theorem d_Table_yakuOfDraw_35 : decode prog_1_method_46_code 35 = .ok (.invokestatic 321, 3) := by decide +kernel
theorem d_Table_yakuOfDraw_38 : decode prog_1_method_46_code 38 = .ok (.aload_n 0, 1) := by decide +kernel
theorem d_Table_yakuOfDraw_39 : decode prog_1_method_46_code 39 = .ok (.getfield 281, 3) := by decide +kernel
theorem d_Table_yakuOfDraw_42 : decode prog_1_method_46_code 42 = .ok (.iconst 4, 1) := by decide +kernel
theorem d_Table_yakuOfDraw_43 : decode prog_1_method_46_code 43 = .ok (.invokestatic 321, 3) := by decide +kernel
theorem d_Table_yakuOfDraw_46 : decode prog_1_method_46_code 46 = .ok (.lor, 1) := by decide +kernel
theorem d_Table_yakuOfDraw_47 : decode prog_1_method_46_code 47 = .ok (.aload_n 0, 1) := by decide +kernel
theorem d_Table_yakuOfDraw_48 : decode prog_1_method_46_code 48 = .ok (.getfield 281, 3) := by decide +kernel
theorem d_Table_yakuOfDraw_51 : decode prog_1_method_46_code 51 = .ok (.ifCond .ne 17, 3) := by decide +kernel
theorem d_Table_yakuOfDraw_54 : decode prog_1_method_46_code 54 = .ok (.aload_n 0, 1) := by decide +kernel
theorem d_Table_yakuOfDraw_55 : decode prog_1_method_46_code 55 = .ok (.getfield 34, 3) := by decide +kernel
theorem d_Table_yakuOfDraw_58 : decode prog_1_method_46_code 58 = .ok (.invokevirtual 106, 3) := by decide +kernel
theorem d_Table_yakuOfDraw_61 : decode prog_1_method_46_code 61 = .ok (.ifCond .ne 7, 3) := by decide +kernel
theorem d_Table_yakuOfDraw_64 : decode prog_1_method_46_code 64 = .ok (.iconst 1, 1) := by decide +kernel
theorem d_Table_yakuOfDraw_65 : decode prog_1_method_46_code 65 = .ok (.goto 4, 3) := by decide +kernel
theorem d_Table_yakuOfDraw_68 : decode prog_1_method_46_code 68 = .ok (.iconst 0, 1) := by decide +kernel
theorem d_Table_yakuOfDraw_69 : decode prog_1_method_46_code 69 = .ok (.bipush 6, 2) := by decide +kernel
theorem d_Table_yakuOfDraw_71 : decode prog_1_method_46_code 71 = .ok (.invokestatic 321, 3) := by decide +kernel
theorem d_Table_yakuOfDraw_74 : decode prog_1_method_46_code 74 = .ok (.lor, 1) := by decide +kernel
theorem d_Table_yakuOfDraw_75 : decode prog_1_method_46_code 75 = .ok (.iload_n 2, 1) := by decide +kernel
theorem d_Table_yakuOfDraw_76 : decode prog_1_method_46_code 76 = .ok (.ifCond .eq 15, 3) := by decide +kernel
theorem d_Table_yakuOfDraw_79 : decode prog_1_method_46_code 79 = .ok (.iload_n 1, 1) := by decide +kernel
theorem d_Table_yakuOfDraw_80 : decode prog_1_method_46_code 80 = .ok (.aload_n 0, 1) := by decide +kernel
theorem d_Table_yakuOfDraw_81 : decode prog_1_method_46_code 81 = .ok (.getfield 46, 3) := by decide +kernel
theorem d_Table_yakuOfDraw_84 : decode prog_1_method_46_code 84 = .ok (.if_icmp .ne 7, 3) := by decide +kernel
theorem d_Table_yakuOfDraw_87 : decode prog_1_method_46_code 87 = .ok (.iconst 1, 1) := by decide +kernel
theorem d_Table_yakuOfDraw_88 : decode prog_1_method_46_code 88 = .ok (.goto 4, 3) := by decide +kernel
theorem d_Table_yakuOfDraw_91 : decode prog_1_method_46_code 91 = .ok (.iconst 0, 1) := by decide +kernel
theorem d_Table_yakuOfDraw_92 : decode prog_1_method_46_code 92 = .ok (.bipush 40, 2) := by decide +kernel
theorem d_Table_yakuOfDraw_94 : decode prog_1_method_46_code 94 = .ok (.invokestatic 321, 3) := by decide +kernel
theorem d_Table_yakuOfDraw_97 : decode prog_1_method_46_code 97 = .ok (.lor, 1) := by decide +kernel
theorem d_Table_yakuOfDraw_98 : decode prog_1_method_46_code 98 = .ok (.iload_n 2, 1) := by decide +kernel
theorem d_Table_yakuOfDraw_99 : decode prog_1_method_46_code 99 = .ok (.ifCond .eq 15, 3) := by decide +kernel
theorem d_Table_yakuOfDraw_102 : decode prog_1_method_46_code 102 = .ok (.iload_n 1, 1) := by decide +kernel
theorem d_Table_yakuOfDraw_103 : decode prog_1_method_46_code 103 = .ok (.aload_n 0, 1) := by decide +kernel
theorem d_Table_yakuOfDraw_104 : decode prog_1_method_46_code 104 = .ok (.getfield 46, 3) := by decide +kernel
theorem d_Table_yakuOfDraw_107 : decode prog_1_method_46_code 107 = .ok (.if_icmp .eq 7, 3) := by decide +kernel
theorem d_Table_yakuOfDraw_110 : decode prog_1_method_46_code 110 = .ok (.iconst 1, 1) := by decide +kernel
theorem d_Table_yakuOfDraw_111 : decode prog_1_method_46_code 111 = .ok (.goto 4, 3) := by decide +kernel
theorem d_Table_yakuOfDraw_114 : decode prog_1_method_46_code 114 = .ok (.iconst 0, 1) := by decide +kernel
theorem d_Table_yakuOfDraw_115 : decode prog_1_method_46_code 115 = .ok (.bipush 41, 2) := by decide +kernel
theorem d_Table_yakuOfDraw_117 : decode prog_1_method_46_code 117 = .ok (.invokestatic 321, 3) := by decide +kernel
theorem d_Table_yakuOfDraw_120 : decode prog_1_method_46_code 120 = .ok (.lor, 1) := by decide +kernel
theorem d_Table_yakuOfDraw_121 : decode prog_1_method_46_code 121 = .ok (.lreturn, 1) := by decide +kernel
theorem d_Table_yakuOfRiichi_0 : decode prog_1_method_45_code 0 = .ok (.aload_n 0, 1) := by decide +kernel
theorem d_Table_yakuOfRiichi_1 : decode prog_1_method_45_code 1 = .ok (.getfield 74, 3) := by decide +kernel
theorem d_Table_yakuOfRiichi_4 : decode prog_1_method_45_code 4 = .ok (.iconst 1, 1) := by decide +kernel
theorem d_Table_yakuOfRiichi_5 : decode prog_1_method_45_code 5 = .ok (.if_icmp .ne 7, 3) := by decide +kernel
theorem d_Table_yakuOfRiichi_8 : decode prog_1_method_45_code 8 = .ok (.iconst 1, 1) := by decide +kernel
theorem d_Table_yakuOfRiichi_9 : decode prog_1_method_45_code 9 = .ok (.goto 4, 3) := by decide +kernel
theorem d_Table_yakuOfRiichi_12 : decode prog_1_method_45_code 12 = .ok (.iconst 0, 1) := by decide +kernel
theorem d_Table_yakuOfRiichi_13 : decode prog_1_method_45_code 13 = .ok (.iconst 0, 1) := by decide +kernel
theorem d_Table_yakuOfRiichi_14 : decode prog_1_method_45_code 14 = .ok (.invokestatic 321, 3) := by decide +kernel
theorem d_Table_yakuOfRiichi_17 : decode prog_1_method_45_code 17 = .ok (.aload_n 0, 1) := by decide +kernel
theorem d_Table_yakuOfRiichi_18 : decode prog_1_method_45_code 18 = .ok (.getfield 74, 3) := by decide +kernel
theorem d_Table_yakuOfRiichi_21 : decode prog_1_method_45_code 21 = .ok (.iconst 2, 1) := by decide +kernel
theorem d_Table_yakuOfRiichi_22 : decode prog_1_method_45_code 22 = .ok (.if_icmp .ne 7, 3) := by decide +kernel
theorem d_Table_yakuOfRiichi_25 : decode prog_1_method_45_code 25 = .ok (.iconst 1, 1) := by decide +kernel
theorem d_Table_yakuOfRiichi_26 : decode prog_1_method_45_code 26 = .ok (.goto 4, 3) := by decide +kernel
theorem d_Table_yakuOfRiichi_29 : decode prog_1_method_45_code 29 = .ok (.iconst 0, 1) := by decide +kernel
theorem d_Table_yakuOfRiichi_30 : decode prog_1_method_45_code 30 = .ok (.iconst 1, 1) := by decide +kernel
theorem d_Table_yakuOfRiichi_31 : decode prog_1_method_45_code 31 = .ok (.invokestatic 321, 3) := by decide +kernel
theorem d_Table_yakuOfRiichi_34 : decode prog_1_method_45_code 34 = .ok (.lor, 1) := by decide +kernel
theorem d_Table_yakuOfRiichi_35 : decode prog_1_method_45_code 35 = .ok (.aload_n 0, 1) := by decide +kernel
theorem d_Table_yakuOfRiichi_36 : decode prog_1_method_45_code 36 = .ok (.getfield 74, 3) := by decide +kernel
theorem d_Table_yakuOfRiichi_39 : decode prog_1_method_45_code 39 = .ok (.ifCond .eq 14, 3) := by decide +kernel
theorem d_Table_yakuOfRiichi_42 : decode prog_1_method_45_code 42 = .ok (.aload_n 0, 1) := by decide +kernel
theorem d_Table_yakuOfRiichi_43 : decode prog_1_method_45_code 43 = .ok (.getfield 87, 3) := by decide +kernel
theorem d_Table_yakuOfRiichi_46 : decode prog_1_method_45_code 46 = .ok (.ifCond .eq 7, 3) := by decide +kernel
theorem d_Table_yakuOfRiichi_49 : decode prog_1_method_45_code 49 = .ok (.iconst 1, 1) := by decide +kernel
theorem d_Table_yakuOfRiichi_50 : decode prog_1_method_45_code 50 = .ok (.goto 4, 3) := by decide +kernel
theorem d_Table_yakuOfRiichi_53 : decode prog_1_method_45_code 53 = .ok (.iconst 0, 1) := by decide +kernel
theorem d_Table_yakuOfRiichi_54 : decode prog_1_method_45_code 54 = .ok (.iconst 2, 1) := by decide +kernel
theorem d_Table_yakuOfRiichi_55 : decode prog_1_method_45_code 55 = .ok (.invokestatic 321, 3) := by decide +kernel
theorem d_Table_yakuOfRiichi_58 : decode prog_1_method_45_code 58 = .ok (.lor, 1) := by decide +kernel
theorem d_Table_yakuOfRiichi_59 : decode prog_1_method_45_code 59 = .ok (.lreturn, 1) := by decide +kernel
theorem d_Table_yakuOfTile_0 : decode prog_1_method_47_code 0 = .ok (.aload_n 0, 1) := by decide +kernel
theorem d_Table_yakuOfTile_1 : decode prog_1_method_47_code 1 = .ok (.getfield 93, 3) := by decide +kernel
theorem d_Table_yakuOfTile_4 : decode prog_1_method_47_code 4 = .ok (.iconst 5, 1) := by decide +kernel
theorem d_Table_yakuOfTile_5 : decode prog_1_method_47_code 5 = .ok (.invokestatic 321, 3) := by decide +kernel
theorem d_Table_yakuOfTile_8 : decode prog_1_method_47_code 8 = .ok (.aload_n 0, 1) := by decide +kernel
theorem d_Table_yakuOfTile_9 : decode prog_1_method_47_code 9 = .ok (.getfield 93, 3) := by decide +kernel
theorem d_Table_yakuOfTile_12 : decode prog_1_method_47_code 12 = .ok (.ifCond .ne 17, 3) := by decide +kernel
theorem d_Table_yakuOfTile_15 : decode prog_1_method_47_code 15 = .ok (.aload_n 0, 1) := by decide +kernel
theorem d_Table_yakuOfTile_16 : decode prog_1_method_47_code 16 = .ok (.getfield 34, 3) := by decide +kernel
theorem d_Table_yakuOfTile_19 : decode prog_1_method_47_code 19 = .ok (.invokevirtual 106, 3) := by decide +kernel
theorem d_Table_yakuOfTile_22 : decode prog_1_method_47_code 22 = .ok (.ifCond .ne 7, 3) := by decide +kernel
theorem d_Table_yakuOfTile_25 : decode prog_1_method_47_code 25 = .ok (.iconst 1, 1) := by decide +kernel
theorem d_Table_yakuOfTile_26 : decode prog_1_method_47_code 26 = .ok (.goto 4, 3) := by decide +kernel
theorem d_Table_yakuOfTile_29 : decode prog_1_method_47_code 29 = .ok (.iconst 0, 1) := by decide +kernel
theorem d_Table_yakuOfTile_30 : decode prog_1_method_47_code 30 = .ok (.bipush 7, 2) := by decide +kernel
theorem d_Table_yakuOfTile_32 : decode prog_1_method_47_code 32 = .ok (.invokestatic 321, 3) := by decide +kernel
theorem d_Table_yakuOfTile_35 : decode prog_1_method_47_code 35 = .ok (.lor, 1) := by decide +kernel
theorem d_Table_yakuOfTile_36 : decode prog_1_method_47_code 36 = .ok (.lreturn, 1) := by decide +kernel
theorem d_Table_showHand_0 : decode prog_1_method_44_code 0 = .ok (.aload_n 0, 1) := by decide +kernel
theorem d_Table_showHand_1 : decode prog_1_method_44_code 1 = .ok (.getfield 11, 3) := by decide +kernel
theorem d_Table_showHand_4 : decode prog_1_method_44_code 4 = .ok (.iload_n 1, 1) := by decide +kernel
theorem d_Table_showHand_5 : decode prog_1_method_44_code 5 = .ok (.aaload, 1) := by decide +kernel
theorem d_Table_showHand_6 : decode prog_1_method_44_code 6 = .ok (.astore_n 3, 1) := by decide +kernel
theorem d_Table_showHand_7 : decode prog_1_method_44_code 7 = .ok (.aload_n 0, 1) := by decide +kernel
theorem d_Table_showHand_8 : decode prog_1_method_44_code 8 = .ok (.getfield 18, 3) := by decide +kernel
theorem d_Table_showHand_11 : decode prog_1_method_44_code 11 = .ok (.aload_n 3, 1) := by decide +kernel
theorem d_Table_showHand_12 : decode prog_1_method_44_code 12 = .ok (.aload_n 0, 1) := by decide +kernel
theorem d_Table_showHand_13 : decode prog_1_method_44_code 13 = .ok (.getfield 26, 3) := by decide +kernel
theorem d_Table_showHand_16 : decode prog_1_method_44_code 16 = .ok (.iload_n 2, 1) := by decide +kernel
theorem d_Table_showHand_17 : decode prog_1_method_44_code 17 = .ok (.invokevirtual 287, 3) := by decide +kernel
theorem d_Table_showHand_20 : decode prog_1_method_44_code 20 = .ok (.aload_n 0, 1) := by decide +kernel
theorem d_Table_showHand_21 : decode prog_1_method_44_code 21 = .ok (.getfield 18, 3) := by decide +kernel
theorem d_Table_showHand_24 : decode prog_1_method_44_code 24 = .ok (.bipush 27, 2) := by decide +kernel
theorem d_Table_showHand_26 : decode prog_1_method_44_code 26 = .ok (.iload_n 1, 1) := by decide +kernel
theorem d_Table_showHand_27 : decode prog_1_method_44_code 27 = .ok (.iconst 4, 1) := by decide +kernel
theorem d_Table_showHand_28 : decode prog_1_method_44_code 28 = .ok (.iadd, 1) := by decide +kernel
theorem d_Table_showHand_29 : decode prog_1_method_44_code 29 = .ok (.aload_n 0, 1) := by decide +kernel
theorem d_Table_showHand_30 : decode prog_1_method_44_code 30 = .ok (.getfield 46, 3) := by decide +kernel
theorem d_Table_showHand_33 : decode prog_1_method_44_code 33 = .ok (.isub, 1) := by decide +kernel
theorem d_Table_showHand_34 : decode prog_1_method_44_code 34 = .ok (.iconst 4, 1) := by decide +kernel
theorem d_Table_showHand_35 : decode prog_1_method_44_code 35 = .ok (.irem, 1) := by decide +kernel
theorem d_Table_showHand_36 : decode prog_1_method_44_code 36 = .ok (.iadd, 1) := by decide +kernel
theorem d_Table_showHand_37 : decode prog_1_method_44_code 37 = .ok (.putfield 291, 3) := by decide +kernel
theorem d_Table_showHand_40 : decode prog_1_method_44_code 40 = .ok (.aload_n 0, 1) := by decide +kernel
theorem d_Table_showHand_41 : decode prog_1_method_44_code 41 = .ok (.getfield 18, 3) := by decide +kernel
theorem d_Table_showHand_44 : decode prog_1_method_44_code 44 = .ok (.bipush 27, 2) := by decide +kernel
theorem d_Table_showHand_46 : decode prog_1_method_44_code 46 = .ok (.aload_n 0, 1) := by decide +kernel
theorem d_Table_showHand_47 : decode prog_1_method_44_code 47 = .ok (.getfield 207, 3) := by decide +kernel
theorem d_Table_showHand_50 : decode prog_1_method_44_code 50 = .ok (.iadd, 1) := by decide +kernel
theorem d_Table_showHand_51 : decode prog_1_method_44_code 51 = .ok (.putfield 294, 3) := by decide +kernel
theorem d_Table_showHand_54 : decode prog_1_method_44_code 54 = .ok (.aload_n 0, 1) := by decide +kernel
theorem d_Table_showHand_55 : decode prog_1_method_44_code 55 = .ok (.getfield 18, 3) := by decide +kernel
theorem d_Table_showHand_58 : decode prog_1_method_44_code 58 = .ok (.aload_n 3, 1) := by decide +kernel
theorem d_Table_showHand_59 : decode prog_1_method_44_code 59 = .ok (.invokestatic 297, 3) := by decide +kernel
theorem d_Table_showHand_62 : decode prog_1_method_44_code 62 = .ok (.iload_n 2, 1) := by decide +kernel
theorem d_Table_showHand_63 : decode prog_1_method_44_code 63 = .ok (.ifCond .eq 11, 3) := by decide +kernel
theorem d_Table_showHand_66 : decode prog_1_method_44_code 66 = .ok (.aload_n 0, 1) := by decide +kernel
theorem d_Table_showHand_67 : decode prog_1_method_44_code 67 = .ok (.iload_n 1, 1) := by decide +kernel
theorem d_Table_showHand_68 : decode prog_1_method_44_code 68 = .ok (.invokevirtual 301, 3) := by decide +kernel
theorem d_Table_showHand_71 : decode prog_1_method_44_code 71 = .ok (.goto 7, 3) := by decide +kernel
theorem d_Table_showHand_74 : decode prog_1_method_44_code 74 = .ok (.aload_n 0, 1) := by decide +kernel
theorem d_Table_showHand_75 : decode prog_1_method_44_code 75 = .ok (.invokevirtual 305, 3) := by decide +kernel
theorem d_Table_showHand_78 : decode prog_1_method_44_code 78 = .ok (.lor, 1) := by decide +kernel
theorem d_Table_showHand_79 : decode prog_1_method_44_code 79 = .ok (.putfield 308, 3) := by decide +kernel
theorem d_Table_showHand_82 : decode prog_1_method_44_code 82 = .ok (.aload_n 0, 1) := by decide +kernel
theorem d_Table_showHand_83 : decode prog_1_method_44_code 83 = .ok (.getfield 18, 3) := by decide +kernel
theorem d_Table_showHand_86 : decode prog_1_method_44_code 86 = .ok (.aload_n 0, 1) := by decide +kernel
theorem d_Table_showHand_87 : decode prog_1_method_44_code 87 = .ok (.getfield 34, 3) := by decide +kernel
theorem d_Table_showHand_90 : decode prog_1_method_44_code 90 = .ok (.aload_n 0, 1) := by decide +kernel
theorem d_Table_showHand_91 : decode prog_1_method_44_code 91 = .ok (.getfield 18, 3) := by decide +kernel
theorem d_Table_showHand_94 : decode prog_1_method_44_code 94 = .ok (.getfield 311, 3) := by decide +kernel
theorem d_Table_showHand_97 : decode prog_1_method_44_code 97 = .ok (.aload_n 3, 1) := by decide +kernel
theorem d_Table_showHand_98 : decode prog_1_method_44_code 98 = .ok (.getfield 74, 3) := by decide +kernel
theorem d_Table_showHand_101 : decode prog_1_method_44_code 101 = .ok (.ifCond .eq 7, 3) := by decide +kernel
theorem d_Table_showHand_104 : decode prog_1_method_44_code 104 = .ok (.iconst 1, 1) := by decide +kernel
theorem d_Table_showHand_105 : decode prog_1_method_44_code 105 = .ok (.goto 4, 3) := by decide +kernel
theorem d_Table_showHand_108 : decode prog_1_method_44_code 108 = .ok (.iconst 0, 1) := by decide +kernel
theorem d_Table_showHand_109 : decode prog_1_method_44_code 109 = .ok (.invokevirtual 314, 3) := by decide +kernel
theorem d_Table_showHand_112 : decode prog_1_method_44_code 112 = .ok (.putfield 318, 3) := by decide +kernel
theorem d_Table_showHand_115 : decode prog_1_method_44_code 115 = .ok (.return_, 1) := by decide +kernel
theorem d_Table_mayWin_0 : decode prog_1_method_30_code 0 = .ok (.aload_n 0, 1) := by decide +kernel
theorem d_Table_mayWin_1 : decode prog_1_method_30_code 1 = .ok (.getfield 11, 3) := by decide +kernel
theorem d_Table_mayWin_4 : decode prog_1_method_30_code 4 = .ok (.iload_n 1, 1) := by decide +kernel
theorem d_Table_mayWin_5 : decode prog_1_method_30_code 5 = .ok (.aaload, 1) := by decide +kernel
theorem d_Table_mayWin_6 : decode prog_1_method_30_code 6 = .ok (.aload_n 0, 1) := by decide +kernel
theorem d_Table_mayWin_7 : decode prog_1_method_30_code 7 = .ok (.getfield 26, 3) := by decide +kernel
theorem d_Table_mayWin_10 : decode prog_1_method_30_code 10 = .ok (.invokevirtual 232, 3) := by decide +kernel
theorem d_Table_mayWin_13 : decode prog_1_method_30_code 13 = .ok (.ifCond .eq 15, 3) := by decide +kernel
theorem d_Table_mayWin_16 : decode prog_1_method_30_code 16 = .ok (.aload_n 0, 1) := by decide +kernel
theorem d_Table_mayWin_17 : decode prog_1_method_30_code 17 = .ok (.getfield 11, 3) := by decide +kernel
theorem d_Table_mayWin_20 : decode prog_1_method_30_code 20 = .ok (.iload_n 1, 1) := by decide +kernel
theorem d_Table_mayWin_21 : decode prog_1_method_30_code 21 = .ok (.aaload, 1) := by decide +kernel
theorem d_Table_mayWin_22 : decode prog_1_method_30_code 22 = .ok (.invokevirtual 204, 3) := by decide +kernel
theorem d_Table_mayWin_25 : decode prog_1_method_30_code 25 = .ok (.ifCond .eq 5, 3) := by decide +kernel
theorem d_Table_mayWin_28 : decode prog_1_method_30_code 28 = .ok (.iconst 0, 1) := by decide +kernel
theorem d_Table_mayWin_29 : decode prog_1_method_30_code 29 = .ok (.ireturn, 1) := by decide +kernel
theorem d_Table_mayWin_30 : decode prog_1_method_30_code 30 = .ok (.aload_n 0, 1) := by decide +kernel
theorem d_Table_mayWin_31 : decode prog_1_method_30_code 31 = .ok (.iload_n 1, 1) := by decide +kernel
theorem d_Table_mayWin_32 : decode prog_1_method_30_code 32 = .ok (.iconst 0, 1) := by decide +kernel
theorem d_Table_mayWin_33 : decode prog_1_method_30_code 33 = .ok (.invokevirtual 123, 3) := by decide +kernel
theorem d_Table_mayWin_36 : decode prog_1_method_30_code 36 = .ok (.aload_n 0, 1) := by decide +kernel
theorem d_Table_mayWin_37 : decode prog_1_method_30_code 37 = .ok (.getfield 18, 3) := by decide +kernel
theorem d_Table_mayWin_40 : decode prog_1_method_30_code 40 = .ok (.invokevirtual 127, 3) := by decide +kernel
theorem d_Table_mayWin_43 : decode prog_1_method_30_code 43 = .ok (.ireturn, 1) := by decide +kernel
theorem d_Table_offerClaims_0 : decode prog_1_method_28_code 0 = .ok (.iconst 0, 1) := by decide +kernel
theorem d_Table_offerClaims_1 : decode prog_1_method_28_code 1 = .ok (.istore_n 1, 1) := by decide +kernel
theorem d_Table_offerClaims_2 : decode prog_1_method_28_code 2 = .ok (.iload_n 1, 1) := by decide +kernel
theorem d_Table_offerClaims_3 : decode prog_1_method_28_code 3 = .ok (.iconst 4, 1) := by decide +kernel
theorem d_Table_offerClaims_4 : decode prog_1_method_28_code 4 = .ok (.if_icmp .ge 57, 3) := by decide +kernel
theorem d_Table_offerClaims_7 : decode prog_1_method_28_code 7 = .ok (.aload_n 0, 1) := by decide +kernel
theorem d_Table_offerClaims_8 : decode prog_1_method_28_code 8 = .ok (.getfield 11, 3) := by decide +kernel
theorem d_Table_offerClaims_11 : decode prog_1_method_28_code 11 = .ok (.iload_n 1, 1) := by decide +kernel
theorem d_Table_offerClaims_12 : decode prog_1_method_28_code 12 = .ok (.aaload, 1) := by decide +kernel
