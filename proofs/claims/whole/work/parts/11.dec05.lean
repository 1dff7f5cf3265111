theorem d_Model_drawnOut_15 : decode prog_9_method_68_code 15 = .ok (.lcmp, 1) := by decide +kernel
theorem d_Model_drawnOut_16 : decode prog_9_method_68_code 16 = .ok (.ifCond .eq 9, 3) := by decide +kernel
theorem d_Model_drawnOut_19 : decode prog_9_method_68_code 19 = .ok (.iload_n 1, 1) := by decide +kernel
theorem d_Model_drawnOut_20 : decode prog_9_method_68_code 20 = .ok (.iconst 1, 1) := by decide +kernel
theorem d_Model_drawnOut_21 : decode prog_9_method_68_code 21 = .ok (.iadd, 1) := by decide +kernel
theorem d_Model_drawnOut_22 : decode prog_9_method_68_code 22 = .ok (.goto 4, 3) := by decide +kernel
theorem d_Model_drawnOut_25 : decode prog_9_method_68_code 25 = .ok (.iload_n 1, 1) := by decide +kernel
theorem d_Model_drawnOut_26 : decode prog_9_method_68_code 26 = .ok (.istore_n 1, 1) := by decide +kernel
theorem d_Model_drawnOut_27 : decode prog_9_method_68_code 27 = .ok (.iinc 2 1, 3) := by decide +kernel
theorem d_Model_drawnOut_30 : decode prog_9_method_68_code 30 = .ok (.goto (-26), 3) := by decide +kernel
theorem d_Model_drawnOut_33 : decode prog_9_method_68_code 33 = .ok (.iconst 0, 1) := by decide +kernel
theorem d_Model_drawnOut_34 : decode prog_9_method_68_code 34 = .ok (.istore_n 2, 1) := by decide +kernel
theorem d_Model_drawnOut_35 : decode prog_9_method_68_code 35 = .ok (.iload_n 2, 1) := by decide +kernel
theorem d_Model_drawnOut_36 : decode prog_9_method_68_code 36 = .ok (.iconst 4, 1) := by decide +kernel
theorem d_Model_drawnOut_37 : decode prog_9_method_68_code 37 = .ok (.if_icmp .ge 49, 3) := by decide +kernel
theorem d_Model_drawnOut_40 : decode prog_9_method_68_code 40 = .ok (.iload_n 1, 1) := by decide +kernel
theorem d_Model_drawnOut_41 : decode prog_9_method_68_code 41 = .ok (.iconst 4, 1) := by decide +kernel
theorem d_Model_drawnOut_42 : decode prog_9_method_68_code 42 = .ok (.irem, 1) := by decide +kernel
theorem d_Model_drawnOut_43 : decode prog_9_method_68_code 43 = .ok (.ifCond .eq 43, 3) := by decide +kernel
theorem d_Model_drawnOut_46 : decode prog_9_method_68_code 46 = .ok (.aload_n 0, 1) := by decide +kernel
theorem d_Model_drawnOut_47 : decode prog_9_method_68_code 47 = .ok (.getfield 13, 3) := by decide +kernel
theorem d_Model_drawnOut_50 : decode prog_9_method_68_code 50 = .ok (.iload_n 2, 1) := by decide +kernel
theorem d_Model_drawnOut_51 : decode prog_9_method_68_code 51 = .ok (.dup2, 1) := by decide +kernel
theorem d_Model_drawnOut_52 : decode prog_9_method_68_code 52 = .ok (.iaload, 1) := by decide +kernel
theorem d_Model_drawnOut_53 : decode prog_9_method_68_code 53 = .ok (.aload_n 0, 1) := by decide +kernel
theorem d_Model_drawnOut_54 : decode prog_9_method_68_code 54 = .ok (.iload_n 2, 1) := by decide +kernel
theorem d_Model_drawnOut_55 : decode prog_9_method_68_code 55 = .ok (.invokevirtual 177, 3) := by decide +kernel
theorem d_Model_drawnOut_58 : decode prog_9_method_68_code 58 = .ok (.lconst 0, 1) := by decide +kernel
theorem d_Model_drawnOut_59 : decode prog_9_method_68_code 59 = .ok (.lcmp, 1) := by decide +kernel
theorem d_Model_drawnOut_60 : decode prog_9_method_68_code 60 = .ok (.ifCond .eq 11, 3) := by decide +kernel
theorem d_Model_drawnOut_63 : decode prog_9_method_68_code 63 = .ok (.sipush 3000, 3) := by decide +kernel
theorem d_Model_drawnOut_66 : decode prog_9_method_68_code 66 = .ok (.iload_n 1, 1) := by decide +kernel
theorem d_Model_drawnOut_67 : decode prog_9_method_68_code 67 = .ok (.idiv, 1) := by decide +kernel
theorem d_Model_drawnOut_68 : decode prog_9_method_68_code 68 = .ok (.goto 10, 3) := by decide +kernel
theorem d_Model_drawnOut_71 : decode prog_9_method_68_code 71 = .ok (.sipush (-3000), 3) := by decide +kernel
theorem d_Model_drawnOut_74 : decode prog_9_method_68_code 74 = .ok (.iconst 4, 1) := by decide +kernel
theorem d_Model_drawnOut_75 : decode prog_9_method_68_code 75 = .ok (.iload_n 1, 1) := by decide +kernel
theorem d_Model_drawnOut_76 : decode prog_9_method_68_code 76 = .ok (.isub, 1) := by decide +kernel
theorem d_Model_drawnOut_77 : decode prog_9_method_68_code 77 = .ok (.idiv, 1) := by decide +kernel
theorem d_Model_drawnOut_78 : decode prog_9_method_68_code 78 = .ok (.iadd, 1) := by decide +kernel
theorem d_Model_drawnOut_79 : decode prog_9_method_68_code 79 = .ok (.iastore, 1) := by decide +kernel
theorem d_Model_drawnOut_80 : decode prog_9_method_68_code 80 = .ok (.iinc 2 1, 3) := by decide +kernel
theorem d_Model_drawnOut_83 : decode prog_9_method_68_code 83 = .ok (.goto (-48), 3) := by decide +kernel
theorem d_Model_drawnOut_86 : decode prog_9_method_68_code 86 = .ok (.aload_n 0, 1) := by decide +kernel
theorem d_Model_drawnOut_87 : decode prog_9_method_68_code 87 = .ok (.aload_n 0, 1) := by decide +kernel
theorem d_Model_drawnOut_88 : decode prog_9_method_68_code 88 = .ok (.aload_n 0, 1) := by decide +kernel
theorem d_Model_drawnOut_89 : decode prog_9_method_68_code 89 = .ok (.getfield 96, 3) := by decide +kernel
theorem d_Model_drawnOut_92 : decode prog_9_method_68_code 92 = .ok (.invokevirtual 177, 3) := by decide +kernel
theorem d_Model_drawnOut_95 : decode prog_9_method_68_code 95 = .ok (.lconst 0, 1) := by decide +kernel
theorem d_Model_drawnOut_96 : decode prog_9_method_68_code 96 = .ok (.lcmp, 1) := by decide +kernel
theorem d_Model_drawnOut_97 : decode prog_9_method_68_code 97 = .ok (.ifCond .eq 7, 3) := by decide +kernel
theorem d_Model_drawnOut_100 : decode prog_9_method_68_code 100 = .ok (.iconst 1, 1) := by decide +kernel
theorem d_Model_drawnOut_101 : decode prog_9_method_68_code 101 = .ok (.goto 4, 3) := by decide +kernel
theorem d_Model_drawnOut_104 : decode prog_9_method_68_code 104 = .ok (.iconst 0, 1) := by decide +kernel
theorem d_Model_drawnOut_105 : decode prog_9_method_68_code 105 = .ok (.iconst 1, 1) := by decide +kernel
theorem d_Model_drawnOut_106 : decode prog_9_method_68_code 106 = .ok (.invokevirtual 371, 3) := by decide +kernel
theorem d_Model_drawnOut_109 : decode prog_9_method_68_code 109 = .ok (.return_, 1) := by decide +kernel
theorem d_Model_left_0 : decode prog_9_method_6_code 0 = .ok (.bipush 122, 2) := by decide +kernel
theorem d_Model_left_2 : decode prog_9_method_6_code 2 = .ok (.aload_n 0, 1) := by decide +kernel
theorem d_Model_left_3 : decode prog_9_method_6_code 3 = .ok (.getfield 93, 3) := by decide +kernel
theorem d_Model_left_6 : decode prog_9_method_6_code 6 = .ok (.isub, 1) := by decide +kernel
theorem d_Model_left_7 : decode prog_9_method_6_code 7 = .ok (.aload_n 0, 1) := by decide +kernel
theorem d_Model_left_8 : decode prog_9_method_6_code 8 = .ok (.getfield 99, 3) := by decide +kernel
theorem d_Model_left_11 : decode prog_9_method_6_code 11 = .ok (.isub, 1) := by decide +kernel
theorem d_Model_left_12 : decode prog_9_method_6_code 12 = .ok (.ireturn, 1) := by decide +kernel
theorem d_Model_take_0 : decode prog_9_method_7_code 0 = .ok (.aload_n 0, 1) := by decide +kernel
theorem d_Model_take_1 : decode prog_9_method_7_code 1 = .ok (.getfield 16, 3) := by decide +kernel
theorem d_Model_take_4 : decode prog_9_method_7_code 4 = .ok (.bipush 34, 2) := by decide +kernel
theorem d_Model_take_6 : decode prog_9_method_7_code 6 = .ok (.iload_n 1, 1) := by decide +kernel
theorem d_Model_take_7 : decode prog_9_method_7_code 7 = .ok (.imul, 1) := by decide +kernel
theorem d_Model_take_8 : decode prog_9_method_7_code 8 = .ok (.iload_n 2, 1) := by decide +kernel
theorem d_Model_take_9 : decode prog_9_method_7_code 9 = .ok (.iadd, 1) := by decide +kernel
theorem d_Model_take_10 : decode prog_9_method_7_code 10 = .ok (.dup2, 1) := by decide +kernel
theorem d_Model_take_11 : decode prog_9_method_7_code 11 = .ok (.iaload, 1) := by decide +kernel
theorem d_Model_take_12 : decode prog_9_method_7_code 12 = .ok (.iconst 1, 1) := by decide +kernel
theorem d_Model_take_13 : decode prog_9_method_7_code 13 = .ok (.iadd, 1) := by decide +kernel
theorem d_Model_take_14 : decode prog_9_method_7_code 14 = .ok (.iastore, 1) := by decide +kernel
theorem d_Model_take_15 : decode prog_9_method_7_code 15 = .ok (.aload_n 0, 1) := by decide +kernel
theorem d_Model_take_16 : decode prog_9_method_7_code 16 = .ok (.iload_n 1, 1) := by decide +kernel
theorem d_Model_take_17 : decode prog_9_method_7_code 17 = .ok (.putfield 113, 3) := by decide +kernel
theorem d_Model_take_20 : decode prog_9_method_7_code 20 = .ok (.aload_n 0, 1) := by decide +kernel
theorem d_Model_take_21 : decode prog_9_method_7_code 21 = .ok (.iconst 1, 1) := by decide +kernel
theorem d_Model_take_22 : decode prog_9_method_7_code 22 = .ok (.putfield 90, 3) := by decide +kernel
theorem d_Model_take_25 : decode prog_9_method_7_code 25 = .ok (.aload_n 0, 1) := by decide +kernel
theorem d_Model_take_26 : decode prog_9_method_7_code 26 = .ok (.iload_n 2, 1) := by decide +kernel
theorem d_Model_take_27 : decode prog_9_method_7_code 27 = .ok (.putfield 116, 3) := by decide +kernel
theorem d_Model_take_30 : decode prog_9_method_7_code 30 = .ok (.aload_n 0, 1) := by decide +kernel
theorem d_Model_take_31 : decode prog_9_method_7_code 31 = .ok (.iload_n 3, 1) := by decide +kernel
theorem d_Model_take_32 : decode prog_9_method_7_code 32 = .ok (.putfield 119, 3) := by decide +kernel
theorem d_Model_take_35 : decode prog_9_method_7_code 35 = .ok (.aload_n 0, 1) := by decide +kernel
theorem d_Model_take_36 : decode prog_9_method_7_code 36 = .ok (.getfield 41, 3) := by decide +kernel
theorem d_Model_take_39 : decode prog_9_method_7_code 39 = .ok (.iload_n 1, 1) := by decide +kernel
theorem d_Model_take_40 : decode prog_9_method_7_code 40 = .ok (.aload_n 0, 1) := by decide +kernel
theorem d_Model_take_41 : decode prog_9_method_7_code 41 = .ok (.getfield 41, 3) := by decide +kernel
theorem d_Model_take_44 : decode prog_9_method_7_code 44 = .ok (.iload_n 1, 1) := by decide +kernel
theorem d_Model_take_45 : decode prog_9_method_7_code 45 = .ok (.baload, 1) := by decide +kernel
theorem d_Model_take_46 : decode prog_9_method_7_code 46 = .ok (.ifCond .eq 16, 3) := by decide +kernel
theorem d_Model_take_49 : decode prog_9_method_7_code 49 = .ok (.aload_n 0, 1) := by decide +kernel
theorem d_Model_take_50 : decode prog_9_method_7_code 50 = .ok (.getfield 34, 3) := by decide +kernel
theorem d_Model_take_53 : decode prog_9_method_7_code 53 = .ok (.iload_n 1, 1) := by decide +kernel
theorem d_Model_take_54 : decode prog_9_method_7_code 54 = .ok (.iaload, 1) := by decide +kernel
theorem d_Model_take_55 : decode prog_9_method_7_code 55 = .ok (.ifCond .le 7, 3) := by decide +kernel
theorem d_Model_take_58 : decode prog_9_method_7_code 58 = .ok (.iconst 1, 1) := by decide +kernel
theorem d_Model_take_59 : decode prog_9_method_7_code 59 = .ok (.goto 4, 3) := by decide +kernel
theorem d_Model_take_62 : decode prog_9_method_7_code 62 = .ok (.iconst 0, 1) := by decide +kernel
theorem d_Model_take_63 : decode prog_9_method_7_code 63 = .ok (.bastore, 1) := by decide +kernel
theorem d_Model_take_64 : decode prog_9_method_7_code 64 = .ok (.return_, 1) := by decide +kernel
theorem d_Model_drawFor_0 : decode prog_9_method_8_code 0 = .ok (.aload_n 0, 1) := by decide +kernel
theorem d_Model_drawFor_1 : decode prog_9_method_8_code 1 = .ok (.invokevirtual 122, 3) := by decide +kernel
theorem d_Model_drawFor_4 : decode prog_9_method_8_code 4 = .ok (.ifCond .ne 10, 3) := by decide +kernel
theorem d_Model_drawFor_7 : decode prog_9_method_8_code 7 = .ok (.aload_n 0, 1) := by decide +kernel
theorem d_Model_drawFor_8 : decode prog_9_method_8_code 8 = .ok (.invokevirtual 126, 3) := by decide +kernel
theorem d_Model_drawFor_11 : decode prog_9_method_8_code 11 = .ok (.goto 30, 3) := by decide +kernel
theorem d_Model_drawFor_14 : decode prog_9_method_8_code 14 = .ok (.aload_n 0, 1) := by decide +kernel
theorem d_Model_drawFor_15 : decode prog_9_method_8_code 15 = .ok (.dup, 1) := by decide +kernel
theorem d_Model_drawFor_16 : decode prog_9_method_8_code 16 = .ok (.getfield 99, 3) := by decide +kernel
theorem d_Model_drawFor_19 : decode prog_9_method_8_code 19 = .ok (.iconst 1, 1) := by decide +kernel
theorem d_Model_drawFor_20 : decode prog_9_method_8_code 20 = .ok (.iadd, 1) := by decide +kernel
theorem d_Model_drawFor_21 : decode prog_9_method_8_code 21 = .ok (.putfield 99, 3) := by decide +kernel
theorem d_Model_drawFor_24 : decode prog_9_method_8_code 24 = .ok (.aload_n 0, 1) := by decide +kernel
theorem d_Model_drawFor_25 : decode prog_9_method_8_code 25 = .ok (.iload_n 1, 1) := by decide +kernel
theorem d_Model_drawFor_26 : decode prog_9_method_8_code 26 = .ok (.aload_n 0, 1) := by decide +kernel
theorem d_Model_drawFor_27 : decode prog_9_method_8_code 27 = .ok (.getfield 7, 3) := by decide +kernel
theorem d_Model_drawFor_30 : decode prog_9_method_8_code 30 = .ok (.aload_n 0, 1) := by decide +kernel
theorem d_Model_drawFor_31 : decode prog_9_method_8_code 31 = .ok (.getfield 99, 3) := by decide +kernel
theorem d_Model_drawFor_34 : decode prog_9_method_8_code 34 = .ok (.iconst 1, 1) := by decide +kernel
theorem d_Model_drawFor_35 : decode prog_9_method_8_code 35 = .ok (.isub, 1) := by decide +kernel
theorem d_Model_drawFor_36 : decode prog_9_method_8_code 36 = .ok (.iaload, 1) := by decide +kernel
theorem d_Model_drawFor_37 : decode prog_9_method_8_code 37 = .ok (.iconst 0, 1) := by decide +kernel
theorem d_Model_drawFor_38 : decode prog_9_method_8_code 38 = .ok (.invokevirtual 129, 3) := by decide +kernel
theorem d_Model_drawFor_41 : decode prog_9_method_8_code 41 = .ok (.return_, 1) := by decide +kernel
theorem d_Model_deal_0 : decode prog_9_method_5_code 0 = .ok (.aload_n 0, 1) := by decide +kernel
theorem d_Model_deal_1 : decode prog_9_method_5_code 1 = .ok (.getfield 90, 3) := by decide +kernel
theorem d_Model_deal_4 : decode prog_9_method_5_code 4 = .ok (.ifCond .eq 5, 3) := by decide +kernel
theorem d_Model_deal_7 : decode prog_9_method_5_code 7 = .ok (.iconst 0, 1) := by decide +kernel
theorem d_Model_deal_8 : decode prog_9_method_5_code 8 = .ok (.ireturn, 1) := by decide +kernel
theorem d_Model_deal_9 : decode prog_9_method_5_code 9 = .ok (.iconst 0, 1) := by decide +kernel
theorem d_Model_deal_10 : decode prog_9_method_5_code 10 = .ok (.istore_n 1, 1) := by decide +kernel
theorem d_Model_deal_11 : decode prog_9_method_5_code 11 = .ok (.iload_n 1, 1) := by decide +kernel
theorem d_Model_deal_12 : decode prog_9_method_5_code 12 = .ok (.sipush 136, 3) := by decide +kernel
theorem d_Model_deal_15 : decode prog_9_method_5_code 15 = .ok (.if_icmp .ge 16, 3) := by decide +kernel
theorem d_Model_deal_18 : decode prog_9_method_5_code 18 = .ok (.aload_n 0, 1) := by decide +kernel
theorem d_Model_deal_19 : decode prog_9_method_5_code 19 = .ok (.getfield 16, 3) := by decide +kernel
theorem d_Model_deal_22 : decode prog_9_method_5_code 22 = .ok (.iload_n 1, 1) := by decide +kernel
theorem d_Model_deal_23 : decode prog_9_method_5_code 23 = .ok (.iconst 0, 1) := by decide +kernel
theorem d_Model_deal_24 : decode prog_9_method_5_code 24 = .ok (.iastore, 1) := by decide +kernel
theorem d_Model_deal_25 : decode prog_9_method_5_code 25 = .ok (.iinc 1 1, 3) := by decide +kernel
theorem d_Model_deal_28 : decode prog_9_method_5_code 28 = .ok (.goto (-17), 3) := by decide +kernel
theorem d_Model_deal_31 : decode prog_9_method_5_code 31 = .ok (.iconst 0, 1) := by decide +kernel
theorem d_Model_deal_32 : decode prog_9_method_5_code 32 = .ok (.istore_n 1, 1) := by decide +kernel
theorem d_Model_deal_33 : decode prog_9_method_5_code 33 = .ok (.iload_n 1, 1) := by decide +kernel
theorem d_Model_deal_34 : decode prog_9_method_5_code 34 = .ok (.iconst 4, 1) := by decide +kernel
theorem d_Model_deal_35 : decode prog_9_method_5_code 35 = .ok (.if_icmp .ge 51, 3) := by decide +kernel
theorem d_Model_deal_38 : decode prog_9_method_5_code 38 = .ok (.aload_n 0, 1) := by decide +kernel
theorem d_Model_deal_39 : decode prog_9_method_5_code 39 = .ok (.getfield 19, 3) := by decide +kernel
theorem d_Model_deal_42 : decode prog_9_method_5_code 42 = .ok (.iload_n 1, 1) := by decide +kernel
theorem d_Model_deal_43 : decode prog_9_method_5_code 43 = .ok (.iconst 0, 1) := by decide +kernel
theorem d_Model_deal_44 : decode prog_9_method_5_code 44 = .ok (.iastore, 1) := by decide +kernel
theorem d_Model_deal_45 : decode prog_9_method_5_code 45 = .ok (.aload_n 0, 1) := by decide +kernel
theorem d_Model_deal_46 : decode prog_9_method_5_code 46 = .ok (.getfield 28, 3) := by decide +kernel
theorem d_Model_deal_49 : decode prog_9_method_5_code 49 = .ok (.iload_n 1, 1) := by decide +kernel
theorem d_Model_deal_50 : decode prog_9_method_5_code 50 = .ok (.iconst 0, 1) := by decide +kernel
theorem d_Model_deal_51 : decode prog_9_method_5_code 51 = .ok (.iastore, 1) := by decide +kernel
theorem d_Model_deal_52 : decode prog_9_method_5_code 52 = .ok (.aload_n 0, 1) := by decide +kernel
theorem d_Model_deal_53 : decode prog_9_method_5_code 53 = .ok (.getfield 34, 3) := by decide +kernel
theorem d_Model_deal_56 : decode prog_9_method_5_code 56 = .ok (.iload_n 1, 1) := by decide +kernel
theorem d_Model_deal_57 : decode prog_9_method_5_code 57 = .ok (.iconst 0, 1) := by decide +kernel
theorem d_Model_deal_58 : decode prog_9_method_5_code 58 = .ok (.iastore, 1) := by decide +kernel
theorem d_Model_deal_59 : decode prog_9_method_5_code 59 = .ok (.aload_n 0, 1) := by decide +kernel
theorem d_Model_deal_60 : decode prog_9_method_5_code 60 = .ok (.getfield 37, 3) := by decide +kernel
theorem d_Model_deal_63 : decode prog_9_method_5_code 63 = .ok (.iload_n 1, 1) := by decide +kernel
theorem d_Model_deal_64 : decode prog_9_method_5_code 64 = .ok (.iconst 0, 1) := by decide +kernel
theorem d_Model_deal_65 : decode prog_9_method_5_code 65 = .ok (.bastore, 1) := by decide +kernel
theorem d_Model_deal_66 : decode prog_9_method_5_code 66 = .ok (.aload_n 0, 1) := by decide +kernel
theorem d_Model_deal_67 : decode prog_9_method_5_code 67 = .ok (.getfield 41, 3) := by decide +kernel
theorem d_Model_deal_70 : decode prog_9_method_5_code 70 = .ok (.iload_n 1, 1) := by decide +kernel
theorem d_Model_deal_71 : decode prog_9_method_5_code 71 = .ok (.iconst 0, 1) := by decide +kernel
theorem d_Model_deal_72 : decode prog_9_method_5_code 72 = .ok (.bastore, 1) := by decide +kernel
theorem d_Model_deal_73 : decode prog_9_method_5_code 73 = .ok (.aload_n 0, 1) := by decide +kernel
theorem d_Model_deal_74 : decode prog_9_method_5_code 74 = .ok (.getfield 44, 3) := by decide +kernel
theorem d_Model_deal_77 : decode prog_9_method_5_code 77 = .ok (.iload_n 1, 1) := by decide +kernel
theorem d_Model_deal_78 : decode prog_9_method_5_code 78 = .ok (.iconst 0, 1) := by decide +kernel
theorem d_Model_deal_79 : decode prog_9_method_5_code 79 = .ok (.iastore, 1) := by decide +kernel
theorem d_Model_deal_80 : decode prog_9_method_5_code 80 = .ok (.iinc 1 1, 3) := by decide +kernel
theorem d_Model_deal_83 : decode prog_9_method_5_code 83 = .ok (.goto (-50), 3) := by decide +kernel
theorem d_Model_deal_86 : decode prog_9_method_5_code 86 = .ok (.iconst 0, 1) := by decide +kernel
theorem d_Model_deal_87 : decode prog_9_method_5_code 87 = .ok (.istore_n 1, 1) := by decide +kernel
theorem d_Model_deal_88 : decode prog_9_method_5_code 88 = .ok (.iload_n 1, 1) := by decide +kernel
theorem d_Model_deal_89 : decode prog_9_method_5_code 89 = .ok (.bipush 52, 2) := by decide +kernel
theorem d_Model_deal_91 : decode prog_9_method_5_code 91 = .ok (.if_icmp .ge 39, 3) := by decide +kernel
theorem d_Model_deal_94 : decode prog_9_method_5_code 94 = .ok (.aload_n 0, 1) := by decide +kernel
theorem d_Model_deal_95 : decode prog_9_method_5_code 95 = .ok (.getfield 16, 3) := by decide +kernel
theorem d_Model_deal_98 : decode prog_9_method_5_code 98 = .ok (.bipush 34, 2) := by decide +kernel
theorem d_Model_deal_100 : decode prog_9_method_5_code 100 = .ok (.aload_n 0, 1) := by decide +kernel
theorem d_Model_deal_101 : decode prog_9_method_5_code 101 = .ok (.getfield 96, 3) := by decide +kernel
theorem d_Model_deal_104 : decode prog_9_method_5_code 104 = .ok (.iload_n 1, 1) := by decide +kernel
theorem d_Model_deal_105 : decode prog_9_method_5_code 105 = .ok (.bipush 13, 2) := by decide +kernel
theorem d_Model_deal_107 : decode prog_9_method_5_code 107 = .ok (.idiv, 1) := by decide +kernel
theorem d_Model_deal_108 : decode prog_9_method_5_code 108 = .ok (.iadd, 1) := by decide +kernel
theorem d_Model_deal_109 : decode prog_9_method_5_code 109 = .ok (.iconst 4, 1) := by decide +kernel
theorem d_Model_deal_110 : decode prog_9_method_5_code 110 = .ok (.irem, 1) := by decide +kernel
theorem d_Model_deal_111 : decode prog_9_method_5_code 111 = .ok (.imul, 1) := by decide +kernel
theorem d_Model_deal_112 : decode prog_9_method_5_code 112 = .ok (.aload_n 0, 1) := by decide +kernel
theorem d_Model_deal_113 : decode prog_9_method_5_code 113 = .ok (.getfield 7, 3) := by decide +kernel
theorem d_Model_deal_116 : decode prog_9_method_5_code 116 = .ok (.iload_n 1, 1) := by decide +kernel
theorem d_Model_deal_117 : decode prog_9_method_5_code 117 = .ok (.iaload, 1) := by decide +kernel
theorem d_Model_deal_118 : decode prog_9_method_5_code 118 = .ok (.iadd, 1) := by decide +kernel
theorem d_Model_deal_119 : decode prog_9_method_5_code 119 = .ok (.dup2, 1) := by decide +kernel
theorem d_Model_deal_120 : decode prog_9_method_5_code 120 = .ok (.iaload, 1) := by decide +kernel
theorem d_Model_deal_121 : decode prog_9_method_5_code 121 = .ok (.iconst 1, 1) := by decide +kernel
theorem d_Model_deal_122 : decode prog_9_method_5_code 122 = .ok (.iadd, 1) := by decide +kernel
theorem d_Model_deal_123 : decode prog_9_method_5_code 123 = .ok (.iastore, 1) := by decide +kernel
theorem d_Model_deal_124 : decode prog_9_method_5_code 124 = .ok (.iinc 1 1, 3) := by decide +kernel
theorem d_Model_deal_127 : decode prog_9_method_5_code 127 = .ok (.goto (-39), 3) := by decide +kernel
theorem d_Model_deal_130 : decode prog_9_method_5_code 130 = .ok (.aload_n 0, 1) := by decide +kernel
theorem d_Model_deal_131 : decode prog_9_method_5_code 131 = .ok (.bipush 52, 2) := by decide +kernel
theorem d_Model_deal_133 : decode prog_9_method_5_code 133 = .ok (.putfield 99, 3) := by decide +kernel
theorem d_Model_deal_136 : decode prog_9_method_5_code 136 = .ok (.aload_n 0, 1) := by decide +kernel
theorem d_Model_deal_137 : decode prog_9_method_5_code 137 = .ok (.iconst 0, 1) := by decide +kernel
theorem d_Model_deal_138 : decode prog_9_method_5_code 138 = .ok (.putfield 93, 3) := by decide +kernel
theorem d_Model_deal_141 : decode prog_9_method_5_code 141 = .ok (.aload_n 0, 1) := by decide +kernel
theorem d_Model_deal_142 : decode prog_9_method_5_code 142 = .ok (.iconst 0, 1) := by decide +kernel
theorem d_Model_deal_143 : decode prog_9_method_5_code 143 = .ok (.putfield 102, 3) := by decide +kernel
theorem d_Model_deal_146 : decode prog_9_method_5_code 146 = .ok (.aload_n 0, 1) := by decide +kernel
theorem d_Model_deal_147 : decode prog_9_method_5_code 147 = .ok (.iconst (-1), 1) := by decide +kernel
theorem d_Model_deal_148 : decode prog_9_method_5_code 148 = .ok (.putfield 106, 3) := by decide +kernel
theorem d_Model_deal_151 : decode prog_9_method_5_code 151 = .ok (.aload_n 0, 1) := by decide +kernel
theorem d_Model_deal_152 : decode prog_9_method_5_code 152 = .ok (.aload_n 0, 1) := by decide +kernel
theorem d_Model_deal_153 : decode prog_9_method_5_code 153 = .ok (.getfield 96, 3) := by decide +kernel
theorem d_Model_deal_156 : decode prog_9_method_5_code 156 = .ok (.invokevirtual 109, 3) := by decide +kernel
theorem d_Model_deal_159 : decode prog_9_method_5_code 159 = .ok (.iconst 1, 1) := by decide +kernel
theorem d_Model_deal_160 : decode prog_9_method_5_code 160 = .ok (.ireturn, 1) := by decide +kernel
theorem d_Model_ownWait_0 : decode prog_9_method_20_code 0 = .ok (.aload_n 0, 1) := by decide +kernel
theorem d_Model_ownWait_1 : decode prog_9_method_20_code 1 = .ok (.iload_n 1, 1) := by decide +kernel
theorem d_Model_ownWait_2 : decode prog_9_method_20_code 2 = .ok (.invokevirtual 177, 3) := by decide +kernel
theorem d_Model_ownWait_5 : decode prog_9_method_20_code 5 = .ok (.lstore_n 2, 1) := by decide +kernel
theorem d_Model_ownWait_6 : decode prog_9_method_20_code 6 = .ok (.iconst 0, 1) := by decide +kernel
theorem d_Model_ownWait_7 : decode prog_9_method_20_code 7 = .ok (.istore 4, 2) := by decide +kernel
theorem d_Model_ownWait_9 : decode prog_9_method_20_code 9 = .ok (.iconst 0, 1) := by decide +kernel
theorem d_Model_ownWait_10 : decode prog_9_method_20_code 10 = .ok (.istore 5, 2) := by decide +kernel
theorem d_Model_ownWait_12 : decode prog_9_method_20_code 12 = .ok (.iload 5, 2) := by decide +kernel
theorem d_Model_ownWait_14 : decode prog_9_method_20_code 14 = .ok (.aload_n 0, 1) := by decide +kernel
theorem d_Model_ownWait_15 : decode prog_9_method_20_code 15 = .ok (.getfield 28, 3) := by decide +kernel
theorem d_Model_ownWait_18 : decode prog_9_method_20_code 18 = .ok (.iload_n 1, 1) := by decide +kernel
theorem d_Model_ownWait_19 : decode prog_9_method_20_code 19 = .ok (.iaload, 1) := by decide +kernel
theorem d_Model_ownWait_20 : decode prog_9_method_20_code 20 = .ok (.if_icmp .ge 42, 3) := by decide +kernel
theorem d_Model_ownWait_23 : decode prog_9_method_20_code 23 = .ok (.iload 4, 2) := by decide +kernel
theorem d_Model_ownWait_25 : decode prog_9_method_20_code 25 = .ok (.ifCond .ne 24, 3) := by decide +kernel
theorem d_Model_ownWait_28 : decode prog_9_method_20_code 28 = .ok (.lload_n 2, 1) := by decide +kernel
theorem d_Model_ownWait_29 : decode prog_9_method_20_code 29 = .ok (.aload_n 0, 1) := by decide +kernel
theorem d_Model_ownWait_30 : decode prog_9_method_20_code 30 = .ok (.getfield 31, 3) := by decide +kernel
theorem d_Model_ownWait_33 : decode prog_9_method_20_code 33 = .ok (.bipush 100, 2) := by decide +kernel
theorem d_Model_ownWait_35 : decode prog_9_method_20_code 35 = .ok (.iload_n 1, 1) := by decide +kernel
theorem d_Model_ownWait_36 : decode prog_9_method_20_code 36 = .ok (.imul, 1) := by decide +kernel
theorem d_Model_ownWait_37 : decode prog_9_method_20_code 37 = .ok (.iload 5, 2) := by decide +kernel
theorem d_Model_ownWait_39 : decode prog_9_method_20_code 39 = .ok (.iadd, 1) := by decide +kernel
theorem d_Model_ownWait_40 : decode prog_9_method_20_code 40 = .ok (.iaload, 1) := by decide +kernel
theorem d_Model_ownWait_41 : decode prog_9_method_20_code 41 = .ok (.lshr, 1) := by decide +kernel
theorem d_Model_ownWait_42 : decode prog_9_method_20_code 42 = .ok (.lconst 1, 1) := by decide +kernel
theorem d_Model_ownWait_43 : decode prog_9_method_20_code 43 = .ok (.land, 1) := by decide +kernel
theorem d_Model_ownWait_44 : decode prog_9_method_20_code 44 = .ok (.lconst 1, 1) := by decide +kernel
theorem d_Model_ownWait_45 : decode prog_9_method_20_code 45 = .ok (.lcmp, 1) := by decide +kernel
theorem d_Model_ownWait_46 : decode prog_9_method_20_code 46 = .ok (.ifCond .ne 7, 3) := by decide +kernel
theorem d_Model_ownWait_49 : decode prog_9_method_20_code 49 = .ok (.iconst 1, 1) := by decide +kernel
theorem d_Model_ownWait_50 : decode prog_9_method_20_code 50 = .ok (.goto 4, 3) := by decide +kernel
theorem d_Model_ownWait_53 : decode prog_9_method_20_code 53 = .ok (.iconst 0, 1) := by decide +kernel
theorem d_Model_ownWait_54 : decode prog_9_method_20_code 54 = .ok (.istore 4, 2) := by decide +kernel
theorem d_Model_ownWait_56 : decode prog_9_method_20_code 56 = .ok (.iinc 5 1, 3) := by decide +kernel
theorem d_Model_ownWait_59 : decode prog_9_method_20_code 59 = .ok (.goto (-47), 3) := by decide +kernel
theorem d_Model_ownWait_62 : decode prog_9_method_20_code 62 = .ok (.iload 4, 2) := by decide +kernel
theorem d_Model_ownWait_64 : decode prog_9_method_20_code 64 = .ok (.ireturn, 1) := by decide +kernel
theorem d_Model_isFuriten_0 : decode prog_9_method_21_code 0 = .ok (.aload_n 0, 1) := by decide +kernel
theorem d_Model_isFuriten_1 : decode prog_9_method_21_code 1 = .ok (.getfield 41, 3) := by decide +kernel
theorem d_Model_isFuriten_4 : decode prog_9_method_21_code 4 = .ok (.iload_n 1, 1) := by decide +kernel
theorem d_Model_isFuriten_5 : decode prog_9_method_21_code 5 = .ok (.baload, 1) := by decide +kernel
theorem d_Model_isFuriten_6 : decode prog_9_method_21_code 6 = .ok (.ifCond .ne 11, 3) := by decide +kernel
theorem d_Model_isFuriten_9 : decode prog_9_method_21_code 9 = .ok (.aload_n 0, 1) := by decide +kernel
theorem d_Model_isFuriten_10 : decode prog_9_method_21_code 10 = .ok (.iload_n 1, 1) := by decide +kernel
theorem d_Model_isFuriten_11 : decode prog_9_method_21_code 11 = .ok (.invokevirtual 181, 3) := by decide +kernel
theorem d_Model_isFuriten_14 : decode prog_9_method_21_code 14 = .ok (.ifCond .eq 7, 3) := by decide +kernel
theorem d_Model_isFuriten_17 : decode prog_9_method_21_code 17 = .ok (.iconst 1, 1) := by decide +kernel
theorem d_Model_isFuriten_18 : decode prog_9_method_21_code 18 = .ok (.goto 4, 3) := by decide +kernel
theorem d_Model_isFuriten_21 : decode prog_9_method_21_code 21 = .ok (.iconst 0, 1) := by decide +kernel
theorem d_Model_isFuriten_22 : decode prog_9_method_21_code 22 = .ok (.ireturn, 1) := by decide +kernel
theorem d_Model_isClosed_0 : decode prog_9_method_22_code 0 = .ok (.iconst 1, 1) := by decide +kernel
theorem d_Model_isClosed_1 : decode prog_9_method_22_code 1 = .ok (.istore_n 2, 1) := by decide +kernel
theorem d_Model_isClosed_2 : decode prog_9_method_22_code 2 = .ok (.iconst 4, 1) := by decide +kernel
theorem d_Model_isClosed_3 : decode prog_9_method_22_code 3 = .ok (.iload_n 1, 1) := by decide +kernel
theorem d_Model_isClosed_4 : decode prog_9_method_22_code 4 = .ok (.imul, 1) := by decide +kernel
theorem d_Model_isClosed_5 : decode prog_9_method_22_code 5 = .ok (.istore_n 3, 1) := by decide +kernel
theorem d_Model_isClosed_6 : decode prog_9_method_22_code 6 = .ok (.iload_n 3, 1) := by decide +kernel
theorem d_Model_isClosed_7 : decode prog_9_method_22_code 7 = .ok (.iconst 4, 1) := by decide +kernel
theorem d_Model_isClosed_8 : decode prog_9_method_22_code 8 = .ok (.iload_n 1, 1) := by decide +kernel
theorem d_Model_isClosed_9 : decode prog_9_method_22_code 9 = .ok (.imul, 1) := by decide +kernel
theorem d_Model_isClosed_10 : decode prog_9_method_22_code 10 = .ok (.aload_n 0, 1) := by decide +kernel
theorem d_Model_isClosed_11 : decode prog_9_method_22_code 11 = .ok (.getfield 19, 3) := by decide +kernel
theorem d_Model_isClosed_14 : decode prog_9_method_22_code 14 = .ok (.iload_n 1, 1) := by decide +kernel
theorem d_Model_isClosed_15 : decode prog_9_method_22_code 15 = .ok (.iaload, 1) := by decide +kernel
theorem d_Model_isClosed_16 : decode prog_9_method_22_code 16 = .ok (.iadd, 1) := by decide +kernel
theorem d_Model_isClosed_17 : decode prog_9_method_22_code 17 = .ok (.if_icmp .ge 29, 3) := by decide +kernel
theorem d_Model_isClosed_20 : decode prog_9_method_22_code 20 = .ok (.iload_n 2, 1) := by decide +kernel
theorem d_Model_isClosed_21 : decode prog_9_method_22_code 21 = .ok (.ifCond .eq 17, 3) := by decide +kernel
theorem d_Model_isClosed_24 : decode prog_9_method_22_code 24 = .ok (.aload_n 0, 1) := by decide +kernel
theorem d_Model_isClosed_25 : decode prog_9_method_22_code 25 = .ok (.getfield 25, 3) := by decide +kernel
theorem d_Model_isClosed_28 : decode prog_9_method_22_code 28 = .ok (.iload_n 3, 1) := by decide +kernel
theorem d_Model_isClosed_29 : decode prog_9_method_22_code 29 = .ok (.iaload, 1) := by decide +kernel
theorem d_Model_isClosed_30 : decode prog_9_method_22_code 30 = .ok (.iconst 3, 1) := by decide +kernel
theorem d_Model_isClosed_31 : decode prog_9_method_22_code 31 = .ok (.if_icmp .ne 7, 3) := by decide +kernel
theorem d_Model_isClosed_34 : decode prog_9_method_22_code 34 = .ok (.iconst 1, 1) := by decide +kernel
theorem d_Model_isClosed_35 : decode prog_9_method_22_code 35 = .ok (.goto 4, 3) := by decide +kernel
theorem d_Model_isClosed_38 : decode prog_9_method_22_code 38 = .ok (.iconst 0, 1) := by decide +kernel
theorem d_Model_isClosed_39 : decode prog_9_method_22_code 39 = .ok (.istore_n 2, 1) := by decide +kernel
theorem d_Model_isClosed_40 : decode prog_9_method_22_code 40 = .ok (.iinc 3 1, 3) := by decide +kernel
theorem d_Model_isClosed_43 : decode prog_9_method_22_code 43 = .ok (.goto (-37), 3) := by decide +kernel
theorem d_Model_isClosed_46 : decode prog_9_method_22_code 46 = .ok (.iload_n 2, 1) := by decide +kernel
theorem d_Model_isClosed_47 : decode prog_9_method_22_code 47 = .ok (.ireturn, 1) := by decide +kernel
theorem d_Model_han_0 : decode prog_9_method_23_code 0 = .ok (.iload_n 0, 1) := by decide +kernel
theorem d_Model_han_1 : decode prog_9_method_23_code 1 = .ok (.bipush 15, 2) := by decide +kernel
theorem d_Model_han_3 : decode prog_9_method_23_code 3 = .ok (.if_icmp .lt 9, 3) := by decide +kernel
theorem d_Model_han_6 : decode prog_9_method_23_code 6 = .ok (.iload_n 0, 1) := by decide +kernel
theorem d_Model_han_7 : decode prog_9_method_23_code 7 = .ok (.bipush 24, 2) := by decide +kernel
theorem d_Model_han_9 : decode prog_9_method_23_code 9 = .ok (.if_icmp .ne 14, 3) := by decide +kernel
theorem d_Model_han_12 : decode prog_9_method_23_code 12 = .ok (.iload_n 0, 1) := by decide +kernel
theorem d_Model_han_13 : decode prog_9_method_23_code 13 = .ok (.iconst 1, 1) := by decide +kernel
theorem d_Model_han_14 : decode prog_9_method_23_code 14 = .ok (.if_icmp .ne 7, 3) := by decide +kernel
theorem d_Model_han_17 : decode prog_9_method_23_code 17 = .ok (.iconst 2, 1) := by decide +kernel
theorem d_Model_han_18 : decode prog_9_method_23_code 18 = .ok (.goto 4, 3) := by decide +kernel
theorem d_Model_han_21 : decode prog_9_method_23_code 21 = .ok (.iconst 1, 1) := by decide +kernel
theorem d_Model_han_22 : decode prog_9_method_23_code 22 = .ok (.ireturn, 1) := by decide +kernel
theorem d_Model_han_23 : decode prog_9_method_23_code 23 = .ok (.iload_n 0, 1) := by decide +kernel
theorem d_Model_han_24 : decode prog_9_method_23_code 24 = .ok (.bipush 17, 2) := by decide +kernel
theorem d_Model_han_26 : decode prog_9_method_23_code 26 = .ok (.if_icmp .gt 13, 3) := by decide +kernel
theorem d_Model_han_29 : decode prog_9_method_23_code 29 = .ok (.iload_n 1, 1) := by decide +kernel
theorem d_Model_han_30 : decode prog_9_method_23_code 30 = .ok (.ifCond .eq 7, 3) := by decide +kernel
theorem d_Model_han_33 : decode prog_9_method_23_code 33 = .ok (.iconst 2, 1) := by decide +kernel
theorem d_Model_han_34 : decode prog_9_method_23_code 34 = .ok (.goto 4, 3) := by decide +kernel
theorem d_Model_han_37 : decode prog_9_method_23_code 37 = .ok (.iconst 1, 1) := by decide +kernel
theorem d_Model_han_38 : decode prog_9_method_23_code 38 = .ok (.ireturn, 1) := by decide +kernel
theorem d_Model_han_39 : decode prog_9_method_23_code 39 = .ok (.iload_n 0, 1) := by decide +kernel
theorem d_Model_han_40 : decode prog_9_method_23_code 40 = .ok (.bipush 18, 2) := by decide +kernel
theorem d_Model_han_42 : decode prog_9_method_23_code 42 = .ok (.if_icmp .eq 9, 3) := by decide +kernel
theorem d_Model_han_45 : decode prog_9_method_23_code 45 = .ok (.iload_n 0, 1) := by decide +kernel
theorem d_Model_han_46 : decode prog_9_method_23_code 46 = .ok (.bipush 28, 2) := by decide +kernel
theorem d_Model_han_48 : decode prog_9_method_23_code 48 = .ok (.if_icmp .ne 13, 3) := by decide +kernel
theorem d_Model_han_51 : decode prog_9_method_23_code 51 = .ok (.iload_n 1, 1) := by decide +kernel
theorem d_Model_han_52 : decode prog_9_method_23_code 52 = .ok (.ifCond .eq 7, 3) := by decide +kernel
theorem d_Model_han_55 : decode prog_9_method_23_code 55 = .ok (.iconst 3, 1) := by decide +kernel
theorem d_Model_han_56 : decode prog_9_method_23_code 56 = .ok (.goto 4, 3) := by decide +kernel
theorem d_Model_han_59 : decode prog_9_method_23_code 59 = .ok (.iconst 2, 1) := by decide +kernel
theorem d_Model_han_60 : decode prog_9_method_23_code 60 = .ok (.ireturn, 1) := by decide +kernel
theorem d_Model_han_61 : decode prog_9_method_23_code 61 = .ok (.iload_n 0, 1) := by decide +kernel
theorem d_Model_han_62 : decode prog_9_method_23_code 62 = .ok (.bipush 29, 2) := by decide +kernel
theorem d_Model_han_64 : decode prog_9_method_23_code 64 = .ok (.if_icmp .ne 14, 3) := by decide +kernel
theorem d_Model_han_67 : decode prog_9_method_23_code 67 = .ok (.iload_n 1, 1) := by decide +kernel
theorem d_Model_han_68 : decode prog_9_method_23_code 68 = .ok (.ifCond .eq 8, 3) := by decide +kernel
theorem d_Model_han_71 : decode prog_9_method_23_code 71 = .ok (.bipush 6, 2) := by decide +kernel
theorem d_Model_han_73 : decode prog_9_method_23_code 73 = .ok (.goto 4, 3) := by decide +kernel
theorem d_Model_han_76 : decode prog_9_method_23_code 76 = .ok (.iconst 5, 1) := by decide +kernel
theorem d_Model_han_77 : decode prog_9_method_23_code 77 = .ok (.ireturn, 1) := by decide +kernel
theorem d_Model_han_78 : decode prog_9_method_23_code 78 = .ok (.iload_n 0, 1) := by decide +kernel
theorem d_Model_han_79 : decode prog_9_method_23_code 79 = .ok (.bipush 27, 2) := by decide +kernel
theorem d_Model_han_81 : decode prog_9_method_23_code 81 = .ok (.if_icmp .ne 7, 3) := by decide +kernel
theorem d_Model_han_84 : decode prog_9_method_23_code 84 = .ok (.iconst 3, 1) := by decide +kernel
theorem d_Model_han_85 : decode prog_9_method_23_code 85 = .ok (.goto 4, 3) := by decide +kernel
theorem d_Model_han_88 : decode prog_9_method_23_code 88 = .ok (.iconst 2, 1) := by decide +kernel
theorem d_Model_han_89 : decode prog_9_method_23_code 89 = .ok (.ireturn, 1) := by decide +kernel
theorem d_Model_baseOf_0 : decode prog_9_method_24_code 0 = .ok (.iload_n 0, 1) := by decide +kernel
theorem d_Model_baseOf_1 : decode prog_9_method_24_code 1 = .ok (.iconst 5, 1) := by decide +kernel
theorem d_Model_baseOf_2 : decode prog_9_method_24_code 2 = .ok (.if_icmp .lt 55, 3) := by decide +kernel
theorem d_Model_baseOf_5 : decode prog_9_method_24_code 5 = .ok (.iload_n 0, 1) := by decide +kernel
theorem d_Model_baseOf_6 : decode prog_9_method_24_code 6 = .ok (.bipush 13, 2) := by decide +kernel
theorem d_Model_baseOf_8 : decode prog_9_method_24_code 8 = .ok (.if_icmp .lt 9, 3) := by decide +kernel
theorem d_Model_baseOf_11 : decode prog_9_method_24_code 11 = .ok (.sipush 8000, 3) := by decide +kernel
theorem d_Model_baseOf_14 : decode prog_9_method_24_code 14 = .ok (.goto 42, 3) := by decide +kernel
theorem d_Model_baseOf_17 : decode prog_9_method_24_code 17 = .ok (.iload_n 0, 1) := by decide +kernel
theorem d_Model_baseOf_18 : decode prog_9_method_24_code 18 = .ok (.bipush 11, 2) := by decide +kernel
theorem d_Model_baseOf_20 : decode prog_9_method_24_code 20 = .ok (.if_icmp .lt 9, 3) := by decide +kernel
theorem d_Model_baseOf_23 : decode prog_9_method_24_code 23 = .ok (.sipush 6000, 3) := by decide +kernel
theorem d_Model_baseOf_26 : decode prog_9_method_24_code 26 = .ok (.goto 30, 3) := by decide +kernel
theorem d_Model_baseOf_29 : decode prog_9_method_24_code 29 = .ok (.iload_n 0, 1) := by decide +kernel
theorem d_Model_baseOf_30 : decode prog_9_method_24_code 30 = .ok (.bipush 8, 2) := by decide +kernel
theorem d_Model_baseOf_32 : decode prog_9_method_24_code 32 = .ok (.if_icmp .lt 9, 3) := by decide +kernel
theorem d_Model_baseOf_35 : decode prog_9_method_24_code 35 = .ok (.sipush 4000, 3) := by decide +kernel
theorem d_Model_baseOf_38 : decode prog_9_method_24_code 38 = .ok (.goto 18, 3) := by decide +kernel
theorem d_Model_baseOf_41 : decode prog_9_method_24_code 41 = .ok (.iload_n 0, 1) := by decide +kernel
theorem d_Model_baseOf_42 : decode prog_9_method_24_code 42 = .ok (.bipush 6, 2) := by decide +kernel
theorem d_Model_baseOf_44 : decode prog_9_method_24_code 44 = .ok (.if_icmp .lt 9, 3) := by decide +kernel
theorem d_Model_baseOf_47 : decode prog_9_method_24_code 47 = .ok (.sipush 3000, 3) := by decide +kernel
theorem d_Model_baseOf_50 : decode prog_9_method_24_code 50 = .ok (.goto 6, 3) := by decide +kernel
theorem d_Model_baseOf_53 : decode prog_9_method_24_code 53 = .ok (.sipush 2000, 3) := by decide +kernel
theorem d_Model_baseOf_56 : decode prog_9_method_24_code 56 = .ok (.ireturn, 1) := by decide +kernel
theorem d_Model_baseOf_57 : decode prog_9_method_24_code 57 = .ok (.iload_n 1, 1) := by decide +kernel
theorem d_Model_baseOf_58 : decode prog_9_method_24_code 58 = .ok (.iconst 2, 1) := by decide +kernel
theorem d_Model_baseOf_59 : decode prog_9_method_24_code 59 = .ok (.iload_n 0, 1) := by decide +kernel
theorem d_Model_baseOf_60 : decode prog_9_method_24_code 60 = .ok (.iadd, 1) := by decide +kernel
theorem d_Model_baseOf_61 : decode prog_9_method_24_code 61 = .ok (.ishl, 1) := by decide +kernel
theorem d_Model_baseOf_62 : decode prog_9_method_24_code 62 = .ok (.istore_n 2, 1) := by decide +kernel
theorem d_Model_baseOf_63 : decode prog_9_method_24_code 63 = .ok (.iload_n 2, 1) := by decide +kernel
theorem d_Model_baseOf_64 : decode prog_9_method_24_code 64 = .ok (.sipush 2000, 3) := by decide +kernel
theorem d_Model_baseOf_67 : decode prog_9_method_24_code 67 = .ok (.if_icmp .le 9, 3) := by decide +kernel
theorem d_Model_baseOf_70 : decode prog_9_method_24_code 70 = .ok (.sipush 2000, 3) := by decide +kernel
theorem d_Model_baseOf_73 : decode prog_9_method_24_code 73 = .ok (.goto 4, 3) := by decide +kernel
theorem d_Model_baseOf_76 : decode prog_9_method_24_code 76 = .ok (.iload_n 2, 1) := by decide +kernel
theorem d_Model_baseOf_77 : decode prog_9_method_24_code 77 = .ok (.ireturn, 1) := by decide +kernel
theorem d_Model_seatWind_0 : decode prog_9_method_25_code 0 = .ok (.bipush 27, 2) := by decide +kernel
theorem d_Model_seatWind_2 : decode prog_9_method_25_code 2 = .ok (.aload_n 0, 1) := by decide +kernel
theorem d_Model_seatWind_3 : decode prog_9_method_25_code 3 = .ok (.getfield 184, 3) := by decide +kernel
theorem d_Model_seatWind_6 : decode prog_9_method_25_code 6 = .ok (.aload_n 0, 1) := by decide +kernel
theorem d_Model_seatWind_7 : decode prog_9_method_25_code 7 = .ok (.getfield 96, 3) := by decide +kernel
theorem d_Model_seatWind_10 : decode prog_9_method_25_code 10 = .ok (.isub, 1) := by decide +kernel
theorem d_Model_seatWind_11 : decode prog_9_method_25_code 11 = .ok (.iconst 4, 1) := by decide +kernel
theorem d_Model_seatWind_12 : decode prog_9_method_25_code 12 = .ok (.iadd, 1) := by decide +kernel
theorem d_Model_seatWind_13 : decode prog_9_method_25_code 13 = .ok (.iconst 4, 1) := by decide +kernel
theorem d_Model_seatWind_14 : decode prog_9_method_25_code 14 = .ok (.irem, 1) := by decide +kernel
theorem d_Model_seatWind_15 : decode prog_9_method_25_code 15 = .ok (.iadd, 1) := by decide +kernel
theorem d_Model_seatWind_16 : decode prog_9_method_25_code 16 = .ok (.ireturn, 1) := by decide +kernel
theorem d_Model_bit_0 : decode prog_9_method_26_code 0 = .ok (.iload_n 1, 1) := by decide +kernel
theorem d_Model_bit_1 : decode prog_9_method_26_code 1 = .ok (.ifCond .eq 9, 3) := by decide +kernel
theorem d_Model_bit_4 : decode prog_9_method_26_code 4 = .ok (.lconst 1, 1) := by decide +kernel
theorem d_Model_bit_5 : decode prog_9_method_26_code 5 = .ok (.iload_n 2, 1) := by decide +kernel
theorem d_Model_bit_6 : decode prog_9_method_26_code 6 = .ok (.lshl, 1) := by decide +kernel
theorem d_Model_bit_7 : decode prog_9_method_26_code 7 = .ok (.goto 4, 3) := by decide +kernel
theorem d_Model_bit_10 : decode prog_9_method_26_code 10 = .ok (.lconst 0, 1) := by decide +kernel
theorem d_Model_bit_11 : decode prog_9_method_26_code 11 = .ok (.lreturn, 1) := by decide +kernel
theorem d_Model_happened_0 : decode prog_9_method_27_code 0 = .ok (.aload_n 0, 1) := by decide +kernel
theorem d_Model_happened_1 : decode prog_9_method_27_code 1 = .ok (.getfield 184, 3) := by decide +kernel
theorem d_Model_happened_4 : decode prog_9_method_27_code 4 = .ok (.istore_n 1, 1) := by decide +kernel
theorem d_Model_happened_5 : decode prog_9_method_27_code 5 = .ok (.aload_n 0, 1) := by decide +kernel
theorem d_Model_happened_6 : decode prog_9_method_27_code 6 = .ok (.aload_n 0, 1) := by decide +kernel
theorem d_Model_happened_7 : decode prog_9_method_27_code 7 = .ok (.getfield 34, 3) := by decide +kernel
theorem d_Model_happened_10 : decode prog_9_method_27_code 10 = .ok (.iload_n 1, 1) := by decide +kernel
theorem d_Model_happened_11 : decode prog_9_method_27_code 11 = .ok (.iaload, 1) := by decide +kernel
theorem d_Model_happened_12 : decode prog_9_method_27_code 12 = .ok (.iconst 1, 1) := by decide +kernel
theorem d_Model_happened_13 : decode prog_9_method_27_code 13 = .ok (.if_icmp .ne 7, 3) := by decide +kernel
theorem d_Model_happened_16 : decode prog_9_method_27_code 16 = .ok (.iconst 1, 1) := by decide +kernel
theorem d_Model_happened_17 : decode prog_9_method_27_code 17 = .ok (.goto 4, 3) := by decide +kernel
theorem d_Model_happened_20 : decode prog_9_method_27_code 20 = .ok (.iconst 0, 1) := by decide +kernel
theorem d_Model_happened_21 : decode prog_9_method_27_code 21 = .ok (.iconst 0, 1) := by decide +kernel
theorem d_Model_happened_22 : decode prog_9_method_27_code 22 = .ok (.invokevirtual 187, 3) := by decide +kernel
theorem d_Model_happened_25 : decode prog_9_method_27_code 25 = .ok (.aload_n 0, 1) := by decide +kernel
theorem d_Model_happened_26 : decode prog_9_method_27_code 26 = .ok (.aload_n 0, 1) := by decide +kernel
theorem d_Model_happened_27 : decode prog_9_method_27_code 27 = .ok (.getfield 34, 3) := by decide +kernel
theorem d_Model_happened_30 : decode prog_9_method_27_code 30 = .ok (.iload_n 1, 1) := by decide +kernel
theorem d_Model_happened_31 : decode prog_9_method_27_code 31 = .ok (.iaload, 1) := by decide +kernel
theorem d_Model_happened_32 : decode prog_9_method_27_code 32 = .ok (.iconst 2, 1) := by decide +kernel
theorem d_Model_happened_33 : decode prog_9_method_27_code 33 = .ok (.if_icmp .ne 7, 3) := by decide +kernel
theorem d_Model_happened_36 : decode prog_9_method_27_code 36 = .ok (.iconst 1, 1) := by decide +kernel
theorem d_Model_happened_37 : decode prog_9_method_27_code 37 = .ok (.goto 4, 3) := by decide +kernel
theorem d_Model_happened_40 : decode prog_9_method_27_code 40 = .ok (.iconst 0, 1) := by decide +kernel
theorem d_Model_happened_41 : decode prog_9_method_27_code 41 = .ok (.iconst 1, 1) := by decide +kernel
theorem d_Model_happened_42 : decode prog_9_method_27_code 42 = .ok (.invokevirtual 187, 3) := by decide +kernel
theorem d_Model_happened_45 : decode prog_9_method_27_code 45 = .ok (.lor, 1) := by decide +kernel
theorem d_Model_happened_46 : decode prog_9_method_27_code 46 = .ok (.aload_n 0, 1) := by decide +kernel
theorem d_Model_happened_47 : decode prog_9_method_27_code 47 = .ok (.aload_n 0, 1) := by decide +kernel
theorem d_Model_happened_48 : decode prog_9_method_27_code 48 = .ok (.getfield 37, 3) := by decide +kernel
theorem d_Model_happened_51 : decode prog_9_method_27_code 51 = .ok (.iload_n 1, 1) := by decide +kernel
theorem d_Model_happened_52 : decode prog_9_method_27_code 52 = .ok (.baload, 1) := by decide +kernel
theorem d_Model_happened_53 : decode prog_9_method_27_code 53 = .ok (.iconst 2, 1) := by decide +kernel
theorem d_Model_happened_54 : decode prog_9_method_27_code 54 = .ok (.invokevirtual 187, 3) := by decide +kernel
theorem d_Model_happened_57 : decode prog_9_method_27_code 57 = .ok (.lor, 1) := by decide +kernel
theorem d_Model_happened_58 : decode prog_9_method_27_code 58 = .ok (.aload_n 0, 1) := by decide +kernel
theorem d_Model_happened_59 : decode prog_9_method_27_code 59 = .ok (.aload_n 0, 1) := by decide +kernel
theorem d_Model_happened_60 : decode prog_9_method_27_code 60 = .ok (.getfield 191, 3) := by decide +kernel
theorem d_Model_happened_63 : decode prog_9_method_27_code 63 = .ok (.ifCond .eq 15, 3) := by decide +kernel
theorem d_Model_happened_66 : decode prog_9_method_27_code 66 = .ok (.aload_n 0, 1) := by decide +kernel
theorem d_Model_happened_67 : decode prog_9_method_27_code 67 = .ok (.iload_n 1, 1) := by decide +kernel
theorem d_Model_happened_68 : decode prog_9_method_27_code 68 = .ok (.invokevirtual 194, 3) := by decide +kernel
theorem d_Model_happened_71 : decode prog_9_method_27_code 71 = .ok (.ifCond .eq 7, 3) := by decide +kernel
theorem d_Model_happened_74 : decode prog_9_method_27_code 74 = .ok (.iconst 1, 1) := by decide +kernel
theorem d_Model_happened_75 : decode prog_9_method_27_code 75 = .ok (.goto 4, 3) := by decide +kernel
theorem d_Model_happened_78 : decode prog_9_method_27_code 78 = .ok (.iconst 0, 1) := by decide +kernel
theorem d_Model_happened_79 : decode prog_9_method_27_code 79 = .ok (.iconst 3, 1) := by decide +kernel
theorem d_Model_happened_80 : decode prog_9_method_27_code 80 = .ok (.invokevirtual 187, 3) := by decide +kernel
theorem d_Model_happened_83 : decode prog_9_method_27_code 83 = .ok (.lor, 1) := by decide +kernel
theorem d_Model_happened_84 : decode prog_9_method_27_code 84 = .ok (.aload_n 0, 1) := by decide +kernel
theorem d_Model_happened_85 : decode prog_9_method_27_code 85 = .ok (.aload_n 0, 1) := by decide +kernel
theorem d_Model_happened_86 : decode prog_9_method_27_code 86 = .ok (.getfield 191, 3) := by decide +kernel
theorem d_Model_happened_89 : decode prog_9_method_27_code 89 = .ok (.ifCond .eq 14, 3) := by decide +kernel
theorem d_Model_happened_92 : decode prog_9_method_27_code 92 = .ok (.aload_n 0, 1) := by decide +kernel
theorem d_Model_happened_93 : decode prog_9_method_27_code 93 = .ok (.getfield 119, 3) := by decide +kernel
theorem d_Model_happened_96 : decode prog_9_method_27_code 96 = .ok (.ifCond .eq 7, 3) := by decide +kernel
theorem d_Model_happened_99 : decode prog_9_method_27_code 99 = .ok (.iconst 1, 1) := by decide +kernel
theorem d_Model_happened_100 : decode prog_9_method_27_code 100 = .ok (.goto 4, 3) := by decide +kernel
theorem d_Model_happened_103 : decode prog_9_method_27_code 103 = .ok (.iconst 0, 1) := by decide +kernel
theorem d_Model_happened_104 : decode prog_9_method_27_code 104 = .ok (.iconst 4, 1) := by decide +kernel
theorem d_Model_happened_105 : decode prog_9_method_27_code 105 = .ok (.invokevirtual 187, 3) := by decide +kernel
theorem d_Model_happened_108 : decode prog_9_method_27_code 108 = .ok (.lor, 1) := by decide +kernel
theorem d_Model_happened_109 : decode prog_9_method_27_code 109 = .ok (.aload_n 0, 1) := by decide +kernel
theorem d_Model_happened_110 : decode prog_9_method_27_code 110 = .ok (.aload_n 0, 1) := by decide +kernel
theorem d_Model_happened_111 : decode prog_9_method_27_code 111 = .ok (.getfield 197, 3) := by decide +kernel
theorem d_Model_happened_114 : decode prog_9_method_27_code 114 = .ok (.iconst 5, 1) := by decide +kernel
theorem d_Model_happened_115 : decode prog_9_method_27_code 115 = .ok (.invokevirtual 187, 3) := by decide +kernel
theorem d_Model_happened_118 : decode prog_9_method_27_code 118 = .ok (.lor, 1) := by decide +kernel
theorem d_Model_happened_119 : decode prog_9_method_27_code 119 = .ok (.lstore_n 2, 1) := by decide +kernel
theorem d_Model_happened_120 : decode prog_9_method_27_code 120 = .ok (.lload_n 2, 1) := by decide +kernel
theorem d_Model_happened_121 : decode prog_9_method_27_code 121 = .ok (.aload_n 0, 1) := by decide +kernel
theorem d_Model_happened_122 : decode prog_9_method_27_code 122 = .ok (.aload_n 0, 1) := by decide +kernel
theorem d_Model_happened_123 : decode prog_9_method_27_code 123 = .ok (.getfield 191, 3) := by decide +kernel
theorem d_Model_happened_126 : decode prog_9_method_27_code 126 = .ok (.ifCond .eq 21, 3) := by decide +kernel
theorem d_Model_happened_129 : decode prog_9_method_27_code 129 = .ok (.aload_n 0, 1) := by decide +kernel
theorem d_Model_happened_130 : decode prog_9_method_27_code 130 = .ok (.getfield 119, 3) := by decide +kernel
theorem d_Model_happened_133 : decode prog_9_method_27_code 133 = .ok (.ifCond .ne 14, 3) := by decide +kernel
theorem d_Model_happened_136 : decode prog_9_method_27_code 136 = .ok (.aload_n 0, 1) := by decide +kernel
theorem d_Model_happened_137 : decode prog_9_method_27_code 137 = .ok (.invokevirtual 122, 3) := by decide +kernel
theorem d_Model_happened_140 : decode prog_9_method_27_code 140 = .ok (.ifCond .ne 7, 3) := by decide +kernel
theorem d_Model_happened_143 : decode prog_9_method_27_code 143 = .ok (.iconst 1, 1) := by decide +kernel
theorem d_Model_happened_144 : decode prog_9_method_27_code 144 = .ok (.goto 4, 3) := by decide +kernel
theorem d_Model_happened_147 : decode prog_9_method_27_code 147 = .ok (.iconst 0, 1) := by decide +kernel
theorem d_Model_happened_148 : decode prog_9_method_27_code 148 = .ok (.bipush 6, 2) := by decide +kernel
theorem d_Model_happened_150 : decode prog_9_method_27_code 150 = .ok (.invokevirtual 187, 3) := by decide +kernel
theorem d_Model_happened_153 : decode prog_9_method_27_code 153 = .ok (.lor, 1) := by decide +kernel
theorem d_Model_happened_154 : decode prog_9_method_27_code 154 = .ok (.aload_n 0, 1) := by decide +kernel
theorem d_Model_happened_155 : decode prog_9_method_27_code 155 = .ok (.aload_n 0, 1) := by decide +kernel
theorem d_Model_happened_156 : decode prog_9_method_27_code 156 = .ok (.getfield 191, 3) := by decide +kernel
theorem d_Model_happened_159 : decode prog_9_method_27_code 159 = .ok (.ifCond .ne 21, 3) := by decide +kernel
theorem d_Model_happened_162 : decode prog_9_method_27_code 162 = .ok (.aload_n 0, 1) := by decide +kernel
theorem d_Model_happened_163 : decode prog_9_method_27_code 163 = .ok (.getfield 197, 3) := by decide +kernel
theorem d_Model_happened_166 : decode prog_9_method_27_code 166 = .ok (.ifCond .ne 14, 3) := by decide +kernel
theorem d_Model_happened_169 : decode prog_9_method_27_code 169 = .ok (.aload_n 0, 1) := by decide +kernel
theorem d_Model_happened_170 : decode prog_9_method_27_code 170 = .ok (.invokevirtual 122, 3) := by decide +kernel
theorem d_Model_happened_173 : decode prog_9_method_27_code 173 = .ok (.ifCond .ne 7, 3) := by decide +kernel
theorem d_Model_happened_176 : decode prog_9_method_27_code 176 = .ok (.iconst 1, 1) := by decide +kernel
theorem d_Model_happened_177 : decode prog_9_method_27_code 177 = .ok (.goto 4, 3) := by decide +kernel
theorem d_Model_happened_180 : decode prog_9_method_27_code 180 = .ok (.iconst 0, 1) := by decide +kernel
theorem d_Model_happened_181 : decode prog_9_method_27_code 181 = .ok (.bipush 7, 2) := by decide +kernel
theorem d_Model_happened_183 : decode prog_9_method_27_code 183 = .ok (.invokevirtual 187, 3) := by decide +kernel
theorem d_Model_happened_186 : decode prog_9_method_27_code 186 = .ok (.lor, 1) := by decide +kernel
theorem d_Model_happened_187 : decode prog_9_method_27_code 187 = .ok (.lstore_n 2, 1) := by decide +kernel
theorem d_Model_happened_188 : decode prog_9_method_27_code 188 = .ok (.aload_n 0, 1) := by decide +kernel
theorem d_Model_happened_189 : decode prog_9_method_27_code 189 = .ok (.getfield 191, 3) := by decide +kernel
theorem d_Model_happened_192 : decode prog_9_method_27_code 192 = .ok (.ifCond .eq 23, 3) := by decide +kernel
theorem d_Model_happened_195 : decode prog_9_method_27_code 195 = .ok (.aload_n 0, 1) := by decide +kernel
theorem d_Model_happened_196 : decode prog_9_method_27_code 196 = .ok (.getfield 28, 3) := by decide +kernel
theorem d_Model_happened_199 : decode prog_9_method_27_code 199 = .ok (.iload_n 1, 1) := by decide +kernel
theorem d_Model_happened_200 : decode prog_9_method_27_code 200 = .ok (.iaload, 1) := by decide +kernel
theorem d_Model_happened_201 : decode prog_9_method_27_code 201 = .ok (.ifCond .ne 14, 3) := by decide +kernel
theorem d_Model_happened_204 : decode prog_9_method_27_code 204 = .ok (.aload_n 0, 1) := by decide +kernel
theorem d_Model_happened_205 : decode prog_9_method_27_code 205 = .ok (.getfield 102, 3) := by decide +kernel
theorem d_Model_happened_208 : decode prog_9_method_27_code 208 = .ok (.ifCond .ne 7, 3) := by decide +kernel
theorem d_Model_happened_211 : decode prog_9_method_27_code 211 = .ok (.iconst 1, 1) := by decide +kernel
theorem d_Model_happened_212 : decode prog_9_method_27_code 212 = .ok (.goto 4, 3) := by decide +kernel
theorem d_Model_happened_215 : decode prog_9_method_27_code 215 = .ok (.iconst 0, 1) := by decide +kernel
theorem d_Model_happened_216 : decode prog_9_method_27_code 216 = .ok (.istore 4, 2) := by decide +kernel
theorem d_Model_happened_218 : decode prog_9_method_27_code 218 = .ok (.lload_n 2, 1) := by decide +kernel
theorem d_Model_happened_219 : decode prog_9_method_27_code 219 = .ok (.aload_n 0, 1) := by decide +kernel
theorem d_Model_happened_220 : decode prog_9_method_27_code 220 = .ok (.iload 4, 2) := by decide +kernel
theorem d_Model_happened_222 : decode prog_9_method_27_code 222 = .ok (.ifCond .eq 15, 3) := by decide +kernel
theorem d_Model_happened_225 : decode prog_9_method_27_code 225 = .ok (.iload_n 1, 1) := by decide +kernel
theorem d_Model_happened_226 : decode prog_9_method_27_code 226 = .ok (.aload_n 0, 1) := by decide +kernel
theorem d_Model_happened_227 : decode prog_9_method_27_code 227 = .ok (.getfield 96, 3) := by decide +kernel
theorem d_Model_happened_230 : decode prog_9_method_27_code 230 = .ok (.if_icmp .ne 7, 3) := by decide +kernel
theorem d_Model_happened_233 : decode prog_9_method_27_code 233 = .ok (.iconst 1, 1) := by decide +kernel
theorem d_Model_happened_234 : decode prog_9_method_27_code 234 = .ok (.goto 4, 3) := by decide +kernel
theorem d_Model_happened_237 : decode prog_9_method_27_code 237 = .ok (.iconst 0, 1) := by decide +kernel
theorem d_Model_happened_238 : decode prog_9_method_27_code 238 = .ok (.bipush 40, 2) := by decide +kernel
theorem d_Model_happened_240 : decode prog_9_method_27_code 240 = .ok (.invokevirtual 187, 3) := by decide +kernel
theorem d_Model_happened_243 : decode prog_9_method_27_code 243 = .ok (.lor, 1) := by decide +kernel
theorem d_Model_happened_244 : decode prog_9_method_27_code 244 = .ok (.aload_n 0, 1) := by decide +kernel
theorem d_Model_happened_245 : decode prog_9_method_27_code 245 = .ok (.iload 4, 2) := by decide +kernel
theorem d_Model_happened_247 : decode prog_9_method_27_code 247 = .ok (.ifCond .eq 15, 3) := by decide +kernel
theorem d_Model_happened_250 : decode prog_9_method_27_code 250 = .ok (.iload_n 1, 1) := by decide +kernel
theorem d_Model_happened_251 : decode prog_9_method_27_code 251 = .ok (.aload_n 0, 1) := by decide +kernel
theorem d_Model_happened_252 : decode prog_9_method_27_code 252 = .ok (.getfield 96, 3) := by decide +kernel
theorem d_Model_happened_255 : decode prog_9_method_27_code 255 = .ok (.if_icmp .eq 7, 3) := by decide +kernel
theorem d_Model_happened_258 : decode prog_9_method_27_code 258 = .ok (.iconst 1, 1) := by decide +kernel
theorem d_Model_happened_259 : decode prog_9_method_27_code 259 = .ok (.goto 4, 3) := by decide +kernel
theorem d_Model_happened_262 : decode prog_9_method_27_code 262 = .ok (.iconst 0, 1) := by decide +kernel
theorem d_Model_happened_263 : decode prog_9_method_27_code 263 = .ok (.bipush 41, 2) := by decide +kernel
theorem d_Model_happened_265 : decode prog_9_method_27_code 265 = .ok (.invokevirtual 187, 3) := by decide +kernel
theorem d_Model_happened_268 : decode prog_9_method_27_code 268 = .ok (.lor, 1) := by decide +kernel
theorem d_Model_happened_269 : decode prog_9_method_27_code 269 = .ok (.lreturn, 1) := by decide +kernel
theorem d_Model_suits_0 : decode prog_9_method_28_code 0 = .ok (.iconst 0, 1) := by decide +kernel
theorem d_Model_suits_1 : decode prog_9_method_28_code 1 = .ok (.istore_n 1, 1) := by decide +kernel
theorem d_Model_suits_2 : decode prog_9_method_28_code 2 = .ok (.iconst 0, 1) := by decide +kernel
theorem d_Model_suits_3 : decode prog_9_method_28_code 3 = .ok (.istore_n 2, 1) := by decide +kernel
theorem d_Model_suits_4 : decode prog_9_method_28_code 4 = .ok (.iload_n 2, 1) := by decide +kernel
theorem d_Model_suits_5 : decode prog_9_method_28_code 5 = .ok (.bipush 27, 2) := by decide +kernel
theorem d_Model_suits_7 : decode prog_9_method_28_code 7 = .ok (.if_icmp .ge 31, 3) := by decide +kernel
theorem d_Model_suits_10 : decode prog_9_method_28_code 10 = .ok (.aload_n 0, 1) := by decide +kernel
theorem d_Model_suits_11 : decode prog_9_method_28_code 11 = .ok (.getfield 63, 3) := by decide +kernel
theorem d_Model_suits_14 : decode prog_9_method_28_code 14 = .ok (.iload_n 2, 1) := by decide +kernel
theorem d_Model_suits_15 : decode prog_9_method_28_code 15 = .ok (.iaload, 1) := by decide +kernel
theorem d_Model_suits_16 : decode prog_9_method_28_code 16 = .ok (.ifCond .le 14, 3) := by decide +kernel
theorem d_Model_suits_19 : decode prog_9_method_28_code 19 = .ok (.iload_n 1, 1) := by decide +kernel
theorem d_Model_suits_20 : decode prog_9_method_28_code 20 = .ok (.iconst 1, 1) := by decide +kernel
theorem d_Model_suits_21 : decode prog_9_method_28_code 21 = .ok (.iload_n 2, 1) := by decide +kernel
theorem d_Model_suits_22 : decode prog_9_method_28_code 22 = .ok (.bipush 9, 2) := by decide +kernel
theorem d_Model_suits_24 : decode prog_9_method_28_code 24 = .ok (.idiv, 1) := by decide +kernel
theorem d_Model_suits_25 : decode prog_9_method_28_code 25 = .ok (.ishl, 1) := by decide +kernel
theorem d_Model_suits_26 : decode prog_9_method_28_code 26 = .ok (.ior, 1) := by decide +kernel
theorem d_Model_suits_27 : decode prog_9_method_28_code 27 = .ok (.goto 4, 3) := by decide +kernel
theorem d_Model_suits_30 : decode prog_9_method_28_code 30 = .ok (.iload_n 1, 1) := by decide +kernel
theorem d_Model_suits_31 : decode prog_9_method_28_code 31 = .ok (.istore_n 1, 1) := by decide +kernel
theorem d_Model_suits_32 : decode prog_9_method_28_code 32 = .ok (.iinc 2 1, 3) := by decide +kernel
theorem d_Model_suits_35 : decode prog_9_method_28_code 35 = .ok (.goto (-31), 3) := by decide +kernel
theorem d_Model_suits_38 : decode prog_9_method_28_code 38 = .ok (.iload_n 1, 1) := by decide +kernel
theorem d_Model_suits_39 : decode prog_9_method_28_code 39 = .ok (.ireturn, 1) := by decide +kernel
theorem d_Model_nineGates_0 : decode prog_9_method_30_code 0 = .ok (.aload_n 0, 1) := by decide +kernel
theorem d_Model_nineGates_1 : decode prog_9_method_30_code 1 = .ok (.getfield 19, 3) := by decide +kernel
theorem d_Model_nineGates_4 : decode prog_9_method_30_code 4 = .ok (.aload_n 0, 1) := by decide +kernel
theorem d_Model_nineGates_5 : decode prog_9_method_30_code 5 = .ok (.getfield 184, 3) := by decide +kernel
theorem d_Model_nineGates_8 : decode prog_9_method_30_code 8 = .ok (.iaload, 1) := by decide +kernel
theorem d_Model_nineGates_9 : decode prog_9_method_30_code 9 = .ok (.ifCond .ne 7, 3) := by decide +kernel
theorem d_Model_nineGates_12 : decode prog_9_method_30_code 12 = .ok (.iconst 1, 1) := by decide +kernel
theorem d_Model_nineGates_13 : decode prog_9_method_30_code 13 = .ok (.goto 4, 3) := by decide +kernel
theorem d_Model_nineGates_16 : decode prog_9_method_30_code 16 = .ok (.iconst 0, 1) := by decide +kernel
theorem d_Model_nineGates_17 : decode prog_9_method_30_code 17 = .ok (.istore_n 1, 1) := by decide +kernel
theorem d_Model_nineGates_18 : decode prog_9_method_30_code 18 = .ok (.aload_n 0, 1) := by decide +kernel
theorem d_Model_nineGates_19 : decode prog_9_method_30_code 19 = .ok (.getfield 63, 3) := by decide +kernel
theorem d_Model_nineGates_22 : decode prog_9_method_30_code 22 = .ok (.iconst 0, 1) := by decide +kernel
theorem d_Model_nineGates_23 : decode prog_9_method_30_code 23 = .ok (.iaload, 1) := by decide +kernel
theorem d_Model_nineGates_24 : decode prog_9_method_30_code 24 = .ok (.aload_n 0, 1) := by decide +kernel
theorem d_Model_nineGates_25 : decode prog_9_method_30_code 25 = .ok (.getfield 63, 3) := by decide +kernel
theorem d_Model_nineGates_28 : decode prog_9_method_30_code 28 = .ok (.bipush 8, 2) := by decide +kernel
theorem d_Model_nineGates_30 : decode prog_9_method_30_code 30 = .ok (.iaload, 1) := by decide +kernel
theorem d_Model_nineGates_31 : decode prog_9_method_30_code 31 = .ok (.iadd, 1) := by decide +kernel
theorem d_Model_nineGates_32 : decode prog_9_method_30_code 32 = .ok (.ifCond .le 7, 3) := by decide +kernel
theorem d_Model_nineGates_35 : decode prog_9_method_30_code 35 = .ok (.iconst 0, 1) := by decide +kernel
theorem d_Model_nineGates_36 : decode prog_9_method_30_code 36 = .ok (.goto 28, 3) := by decide +kernel
theorem d_Model_nineGates_39 : decode prog_9_method_30_code 39 = .ok (.aload_n 0, 1) := by decide +kernel
theorem d_Model_nineGates_40 : decode prog_9_method_30_code 40 = .ok (.getfield 63, 3) := by decide +kernel
theorem d_Model_nineGates_43 : decode prog_9_method_30_code 43 = .ok (.bipush 9, 2) := by decide +kernel
theorem d_Model_nineGates_45 : decode prog_9_method_30_code 45 = .ok (.iaload, 1) := by decide +kernel
theorem d_Model_nineGates_46 : decode prog_9_method_30_code 46 = .ok (.aload_n 0, 1) := by decide +kernel
theorem d_Model_nineGates_47 : decode prog_9_method_30_code 47 = .ok (.getfield 63, 3) := by decide +kernel
theorem d_Model_nineGates_50 : decode prog_9_method_30_code 50 = .ok (.bipush 17, 2) := by decide +kernel
theorem d_Model_nineGates_52 : decode prog_9_method_30_code 52 = .ok (.iaload, 1) := by decide +kernel
theorem d_Model_nineGates_53 : decode prog_9_method_30_code 53 = .ok (.iadd, 1) := by decide +kernel
theorem d_Model_nineGates_54 : decode prog_9_method_30_code 54 = .ok (.ifCond .le 8, 3) := by decide +kernel
theorem d_Model_nineGates_57 : decode prog_9_method_30_code 57 = .ok (.bipush 9, 2) := by decide +kernel
theorem d_Model_nineGates_59 : decode prog_9_method_30_code 59 = .ok (.goto 5, 3) := by decide +kernel
theorem d_Model_nineGates_62 : decode prog_9_method_30_code 62 = .ok (.bipush 18, 2) := by decide +kernel
theorem d_Model_nineGates_64 : decode prog_9_method_30_code 64 = .ok (.istore_n 2, 1) := by decide +kernel
theorem d_Model_nineGates_65 : decode prog_9_method_30_code 65 = .ok (.iconst 0, 1) := by decide +kernel
theorem d_Model_nineGates_66 : decode prog_9_method_30_code 66 = .ok (.istore_n 3, 1) := by decide +kernel
theorem d_Model_nineGates_67 : decode prog_9_method_30_code 67 = .ok (.iload_n 3, 1) := by decide +kernel
theorem d_Model_nineGates_68 : decode prog_9_method_30_code 68 = .ok (.bipush 9, 2) := by decide +kernel
theorem d_Model_nineGates_70 : decode prog_9_method_30_code 70 = .ok (.if_icmp .ge 45, 3) := by decide +kernel
theorem d_Model_nineGates_73 : decode prog_9_method_30_code 73 = .ok (.iload_n 1, 1) := by decide +kernel
theorem d_Model_nineGates_74 : decode prog_9_method_30_code 74 = .ok (.ifCond .eq 33, 3) := by decide +kernel
theorem d_Model_nineGates_77 : decode prog_9_method_30_code 77 = .ok (.aload_n 0, 1) := by decide +kernel
theorem d_Model_nineGates_78 : decode prog_9_method_30_code 78 = .ok (.getfield 63, 3) := by decide +kernel
theorem d_Model_nineGates_81 : decode prog_9_method_30_code 81 = .ok (.iload_n 2, 1) := by decide +kernel
theorem d_Model_nineGates_82 : decode prog_9_method_30_code 82 = .ok (.iload_n 3, 1) := by decide +kernel
theorem d_Model_nineGates_83 : decode prog_9_method_30_code 83 = .ok (.iadd, 1) := by decide +kernel
theorem d_Model_nineGates_84 : decode prog_9_method_30_code 84 = .ok (.iaload, 1) := by decide +kernel
theorem d_Model_nineGates_85 : decode prog_9_method_30_code 85 = .ok (.iload_n 3, 1) := by decide +kernel
theorem d_Model_nineGates_86 : decode prog_9_method_30_code 86 = .ok (.ifCond .eq 9, 3) := by decide +kernel
theorem d_Model_nineGates_89 : decode prog_9_method_30_code 89 = .ok (.iload_n 3, 1) := by decide +kernel
theorem d_Model_nineGates_90 : decode prog_9_method_30_code 90 = .ok (.bipush 8, 2) := by decide +kernel
theorem d_Model_nineGates_92 : decode prog_9_method_30_code 92 = .ok (.if_icmp .ne 7, 3) := by decide +kernel
theorem d_Model_nineGates_95 : decode prog_9_method_30_code 95 = .ok (.iconst 3, 1) := by decide +kernel
theorem d_Model_nineGates_96 : decode prog_9_method_30_code 96 = .ok (.goto 4, 3) := by decide +kernel
theorem d_Model_nineGates_99 : decode prog_9_method_30_code 99 = .ok (.iconst 1, 1) := by decide +kernel
theorem d_Model_nineGates_100 : decode prog_9_method_30_code 100 = .ok (.if_icmp .lt 7, 3) := by decide +kernel
theorem d_Model_nineGates_103 : decode prog_9_method_30_code 103 = .ok (.iconst 1, 1) := by decide +kernel
theorem d_Model_nineGates_104 : decode prog_9_method_30_code 104 = .ok (.goto 4, 3) := by decide +kernel
theorem d_Model_nineGates_107 : decode prog_9_method_30_code 107 = .ok (.iconst 0, 1) := by decide +kernel
theorem d_Model_nineGates_108 : decode prog_9_method_30_code 108 = .ok (.istore_n 1, 1) := by decide +kernel
theorem d_Model_nineGates_109 : decode prog_9_method_30_code 109 = .ok (.iinc 3 1, 3) := by decide +kernel
theorem d_Model_nineGates_112 : decode prog_9_method_30_code 112 = .ok (.goto (-45), 3) := by decide +kernel
theorem d_Model_nineGates_115 : decode prog_9_method_30_code 115 = .ok (.iload_n 1, 1) := by decide +kernel
theorem d_Model_nineGates_116 : decode prog_9_method_30_code 116 = .ok (.ireturn, 1) := by decide +kernel
theorem d_Model_ofTiles_0 : decode prog_9_method_29_code 0 = .ok (.iconst 0, 1) := by decide +kernel
theorem d_Model_ofTiles_1 : decode prog_9_method_29_code 1 = .ok (.istore_n 1, 1) := by decide +kernel
theorem d_Model_ofTiles_2 : decode prog_9_method_29_code 2 = .ok (.iconst 0, 1) := by decide +kernel
theorem d_Model_ofTiles_3 : decode prog_9_method_29_code 3 = .ok (.istore_n 2, 1) := by decide +kernel
theorem d_Model_ofTiles_4 : decode prog_9_method_29_code 4 = .ok (.iconst 0, 1) := by decide +kernel
theorem d_Model_ofTiles_5 : decode prog_9_method_29_code 5 = .ok (.istore_n 3, 1) := by decide +kernel
theorem d_Model_ofTiles_6 : decode prog_9_method_29_code 6 = .ok (.iconst 1, 1) := by decide +kernel
theorem d_Model_ofTiles_7 : decode prog_9_method_29_code 7 = .ok (.istore 4, 2) := by decide +kernel
theorem d_Model_ofTiles_9 : decode prog_9_method_29_code 9 = .ok (.iconst 0, 1) := by decide +kernel
theorem d_Model_ofTiles_10 : decode prog_9_method_29_code 10 = .ok (.istore 5, 2) := by decide +kernel
theorem d_Model_ofTiles_12 : decode prog_9_method_29_code 12 = .ok (.iload 5, 2) := by decide +kernel
theorem d_Model_ofTiles_14 : decode prog_9_method_29_code 14 = .ok (.bipush 34, 2) := by decide +kernel
theorem d_Model_ofTiles_16 : decode prog_9_method_29_code 16 = .ok (.if_icmp .ge 150, 3) := by decide +kernel
theorem d_Model_ofTiles_19 : decode prog_9_method_29_code 19 = .ok (.iload_n 1, 1) := by decide +kernel
theorem d_Model_ofTiles_20 : decode prog_9_method_29_code 20 = .ok (.iload 5, 2) := by decide +kernel
theorem d_Model_ofTiles_22 : decode prog_9_method_29_code 22 = .ok (.bipush 27, 2) := by decide +kernel
theorem d_Model_ofTiles_24 : decode prog_9_method_29_code 24 = .ok (.if_icmp .lt 13, 3) := by decide +kernel
theorem d_Model_ofTiles_27 : decode prog_9_method_29_code 27 = .ok (.aload_n 0, 1) := by decide +kernel
theorem d_Model_ofTiles_28 : decode prog_9_method_29_code 28 = .ok (.getfield 63, 3) := by decide +kernel
theorem d_Model_ofTiles_31 : decode prog_9_method_29_code 31 = .ok (.iload 5, 2) := by decide +kernel
theorem d_Model_ofTiles_33 : decode prog_9_method_29_code 33 = .ok (.iaload, 1) := by decide +kernel
theorem d_Model_ofTiles_34 : decode prog_9_method_29_code 34 = .ok (.goto 4, 3) := by decide +kernel
theorem d_Model_ofTiles_37 : decode prog_9_method_29_code 37 = .ok (.iconst 0, 1) := by decide +kernel
theorem d_Model_ofTiles_38 : decode prog_9_method_29_code 38 = .ok (.iadd, 1) := by decide +kernel
theorem d_Model_ofTiles_39 : decode prog_9_method_29_code 39 = .ok (.istore_n 1, 1) := by decide +kernel
theorem d_Model_ofTiles_40 : decode prog_9_method_29_code 40 = .ok (.iload_n 3, 1) := by decide +kernel
theorem d_Model_ofTiles_41 : decode prog_9_method_29_code 41 = .ok (.iload 5, 2) := by decide +kernel
theorem d_Model_ofTiles_43 : decode prog_9_method_29_code 43 = .ok (.invokestatic 133, 3) := by decide +kernel
theorem d_Model_ofTiles_46 : decode prog_9_method_29_code 46 = .ok (.ifCond .eq 13, 3) := by decide +kernel
theorem d_Model_ofTiles_49 : decode prog_9_method_29_code 49 = .ok (.aload_n 0, 1) := by decide +kernel
theorem d_Model_ofTiles_50 : decode prog_9_method_29_code 50 = .ok (.getfield 63, 3) := by decide +kernel
theorem d_Model_ofTiles_53 : decode prog_9_method_29_code 53 = .ok (.iload 5, 2) := by decide +kernel
theorem d_Model_ofTiles_55 : decode prog_9_method_29_code 55 = .ok (.iaload, 1) := by decide +kernel
theorem d_Model_ofTiles_56 : decode prog_9_method_29_code 56 = .ok (.goto 4, 3) := by decide +kernel
theorem d_Model_ofTiles_59 : decode prog_9_method_29_code 59 = .ok (.iconst 0, 1) := by decide +kernel
theorem d_Model_ofTiles_60 : decode prog_9_method_29_code 60 = .ok (.iadd, 1) := by decide +kernel
theorem d_Model_ofTiles_61 : decode prog_9_method_29_code 61 = .ok (.istore_n 3, 1) := by decide +kernel
theorem d_Model_ofTiles_62 : decode prog_9_method_29_code 62 = .ok (.iload_n 2, 1) := by decide +kernel
theorem d_Model_ofTiles_63 : decode prog_9_method_29_code 63 = .ok (.iload 5, 2) := by decide +kernel
theorem d_Model_ofTiles_65 : decode prog_9_method_29_code 65 = .ok (.invokestatic 133, 3) := by decide +kernel
theorem d_Model_ofTiles_68 : decode prog_9_method_29_code 68 = .ok (.ifCond .eq 7, 3) := by decide +kernel
theorem d_Model_ofTiles_71 : decode prog_9_method_29_code 71 = .ok (.iconst 0, 1) := by decide +kernel
theorem d_Model_ofTiles_72 : decode prog_9_method_29_code 72 = .ok (.goto 10, 3) := by decide +kernel
theorem d_Model_ofTiles_75 : decode prog_9_method_29_code 75 = .ok (.aload_n 0, 1) := by decide +kernel
theorem d_Model_ofTiles_76 : decode prog_9_method_29_code 76 = .ok (.getfield 63, 3) := by decide +kernel
theorem d_Model_ofTiles_79 : decode prog_9_method_29_code 79 = .ok (.iload 5, 2) := by decide +kernel
theorem d_Model_ofTiles_81 : decode prog_9_method_29_code 81 = .ok (.iaload, 1) := by decide +kernel
theorem d_Model_ofTiles_82 : decode prog_9_method_29_code 82 = .ok (.iadd, 1) := by decide +kernel
theorem d_Model_ofTiles_83 : decode prog_9_method_29_code 83 = .ok (.istore_n 2, 1) := by decide +kernel
theorem d_Model_ofTiles_84 : decode prog_9_method_29_code 84 = .ok (.iload 5, 2) := by decide +kernel
theorem d_Model_ofTiles_86 : decode prog_9_method_29_code 86 = .ok (.bipush 19, 2) := by decide +kernel
theorem d_Model_ofTiles_88 : decode prog_9_method_29_code 88 = .ok (.if_icmp .eq 38, 3) := by decide +kernel
theorem d_Model_ofTiles_91 : decode prog_9_method_29_code 91 = .ok (.iload 5, 2) := by decide +kernel
theorem d_Model_ofTiles_93 : decode prog_9_method_29_code 93 = .ok (.bipush 20, 2) := by decide +kernel
theorem d_Model_ofTiles_95 : decode prog_9_method_29_code 95 = .ok (.if_icmp .eq 31, 3) := by decide +kernel
theorem d_Model_ofTiles_98 : decode prog_9_method_29_code 98 = .ok (.iload 5, 2) := by decide +kernel
theorem d_Model_ofTiles_100 : decode prog_9_method_29_code 100 = .ok (.bipush 21, 2) := by decide +kernel
theorem d_Model_ofTiles_102 : decode prog_9_method_29_code 102 = .ok (.if_icmp .eq 24, 3) := by decide +kernel
theorem d_Model_ofTiles_105 : decode prog_9_method_29_code 105 = .ok (.iload 5, 2) := by decide +kernel
theorem d_Model_ofTiles_107 : decode prog_9_method_29_code 107 = .ok (.bipush 23, 2) := by decide +kernel
theorem d_Model_ofTiles_109 : decode prog_9_method_29_code 109 = .ok (.if_icmp .eq 17, 3) := by decide +kernel
theorem d_Model_ofTiles_112 : decode prog_9_method_29_code 112 = .ok (.iload 5, 2) := by decide +kernel
theorem d_Model_ofTiles_114 : decode prog_9_method_29_code 114 = .ok (.bipush 25, 2) := by decide +kernel
theorem d_Model_ofTiles_116 : decode prog_9_method_29_code 116 = .ok (.if_icmp .eq 10, 3) := by decide +kernel
theorem d_Model_ofTiles_119 : decode prog_9_method_29_code 119 = .ok (.iload 5, 2) := by decide +kernel
theorem d_Model_ofTiles_121 : decode prog_9_method_29_code 121 = .ok (.bipush 32, 2) := by decide +kernel
theorem d_Model_ofTiles_123 : decode prog_9_method_29_code 123 = .ok (.if_icmp .ne 7, 3) := by decide +kernel
theorem d_Model_ofTiles_126 : decode prog_9_method_29_code 126 = .ok (.iconst 1, 1) := by decide +kernel
theorem d_Model_ofTiles_127 : decode prog_9_method_29_code 127 = .ok (.goto 4, 3) := by decide +kernel
theorem d_Model_ofTiles_130 : decode prog_9_method_29_code 130 = .ok (.iconst 0, 1) := by decide +kernel
theorem d_Model_ofTiles_131 : decode prog_9_method_29_code 131 = .ok (.istore 6, 2) := by decide +kernel
theorem d_Model_ofTiles_133 : decode prog_9_method_29_code 133 = .ok (.iload 4, 2) := by decide +kernel
theorem d_Model_ofTiles_135 : decode prog_9_method_29_code 135 = .ok (.ifCond .eq 22, 3) := by decide +kernel
theorem d_Model_ofTiles_138 : decode prog_9_method_29_code 138 = .ok (.aload_n 0, 1) := by decide +kernel
theorem d_Model_ofTiles_139 : decode prog_9_method_29_code 139 = .ok (.getfield 63, 3) := by decide +kernel
theorem d_Model_ofTiles_142 : decode prog_9_method_29_code 142 = .ok (.iload 5, 2) := by decide +kernel
theorem d_Model_ofTiles_144 : decode prog_9_method_29_code 144 = .ok (.iaload, 1) := by decide +kernel
theorem d_Model_ofTiles_145 : decode prog_9_method_29_code 145 = .ok (.ifCond .eq 8, 3) := by decide +kernel
theorem d_Model_ofTiles_148 : decode prog_9_method_29_code 148 = .ok (.iload 6, 2) := by decide +kernel
theorem d_Model_ofTiles_150 : decode prog_9_method_29_code 150 = .ok (.ifCond .eq 7, 3) := by decide +kernel
theorem d_Model_ofTiles_153 : decode prog_9_method_29_code 153 = .ok (.iconst 1, 1) := by decide +kernel
theorem d_Model_ofTiles_154 : decode prog_9_method_29_code 154 = .ok (.goto 4, 3) := by decide +kernel
theorem d_Model_ofTiles_157 : decode prog_9_method_29_code 157 = .ok (.iconst 0, 1) := by decide +kernel
theorem d_Model_ofTiles_158 : decode prog_9_method_29_code 158 = .ok (.istore 4, 2) := by decide +kernel
theorem d_Model_ofTiles_160 : decode prog_9_method_29_code 160 = .ok (.iinc 5 1, 3) := by decide +kernel
theorem d_Model_ofTiles_163 : decode prog_9_method_29_code 163 = .ok (.goto (-151), 3) := by decide +kernel
theorem d_Model_ofTiles_166 : decode prog_9_method_29_code 166 = .ok (.aload_n 0, 1) := by decide +kernel
theorem d_Model_ofTiles_167 : decode prog_9_method_29_code 167 = .ok (.invokevirtual 200, 3) := by decide +kernel
theorem d_Model_ofTiles_170 : decode prog_9_method_29_code 170 = .ok (.istore 5, 2) := by decide +kernel
theorem d_Model_ofTiles_172 : decode prog_9_method_29_code 172 = .ok (.iload 5, 2) := by decide +kernel
theorem d_Model_ofTiles_174 : decode prog_9_method_29_code 174 = .ok (.iconst 1, 1) := by decide +kernel
theorem d_Model_ofTiles_175 : decode prog_9_method_29_code 175 = .ok (.if_icmp .eq 15, 3) := by decide +kernel
theorem d_Model_ofTiles_178 : decode prog_9_method_29_code 178 = .ok (.iload 5, 2) := by decide +kernel
theorem d_Model_ofTiles_180 : decode prog_9_method_29_code 180 = .ok (.iconst 2, 1) := by decide +kernel
theorem d_Model_ofTiles_181 : decode prog_9_method_29_code 181 = .ok (.if_icmp .eq 9, 3) := by decide +kernel
theorem d_Model_ofTiles_184 : decode prog_9_method_29_code 184 = .ok (.iload 5, 2) := by decide +kernel
theorem d_Model_ofTiles_186 : decode prog_9_method_29_code 186 = .ok (.iconst 4, 1) := by decide +kernel
theorem d_Model_ofTiles_187 : decode prog_9_method_29_code 187 = .ok (.if_icmp .ne 7, 3) := by decide +kernel
theorem d_Model_ofTiles_190 : decode prog_9_method_29_code 190 = .ok (.iconst 1, 1) := by decide +kernel
theorem d_Model_ofTiles_191 : decode prog_9_method_29_code 191 = .ok (.goto 4, 3) := by decide +kernel
theorem d_Model_ofTiles_194 : decode prog_9_method_29_code 194 = .ok (.iconst 0, 1) := by decide +kernel
theorem d_Model_ofTiles_195 : decode prog_9_method_29_code 195 = .ok (.istore 6, 2) := by decide +kernel
theorem d_Model_ofTiles_197 : decode prog_9_method_29_code 197 = .ok (.aload_n 0, 1) := by decide +kernel
theorem d_Model_ofTiles_198 : decode prog_9_method_29_code 198 = .ok (.iload_n 3, 1) := by decide +kernel
theorem d_Model_ofTiles_199 : decode prog_9_method_29_code 199 = .ok (.ifCond .ne 7, 3) := by decide +kernel
theorem d_Model_ofTiles_202 : decode prog_9_method_29_code 202 = .ok (.iconst 1, 1) := by decide +kernel
theorem d_Model_ofTiles_203 : decode prog_9_method_29_code 203 = .ok (.goto 4, 3) := by decide +kernel
theorem d_Model_ofTiles_206 : decode prog_9_method_29_code 206 = .ok (.iconst 0, 1) := by decide +kernel
theorem d_Model_ofTiles_207 : decode prog_9_method_29_code 207 = .ok (.bipush 24, 2) := by decide +kernel
theorem d_Model_ofTiles_209 : decode prog_9_method_29_code 209 = .ok (.invokevirtual 187, 3) := by decide +kernel
theorem d_Model_ofTiles_212 : decode prog_9_method_29_code 212 = .ok (.aload_n 0, 1) := by decide +kernel
theorem d_Model_ofTiles_213 : decode prog_9_method_29_code 213 = .ok (.iload_n 2, 1) := by decide +kernel
theorem d_Model_ofTiles_214 : decode prog_9_method_29_code 214 = .ok (.ifCond .ne 7, 3) := by decide +kernel
theorem d_Model_ofTiles_217 : decode prog_9_method_29_code 217 = .ok (.iconst 1, 1) := by decide +kernel
theorem d_Model_ofTiles_218 : decode prog_9_method_29_code 218 = .ok (.goto 4, 3) := by decide +kernel
theorem d_Model_ofTiles_221 : decode prog_9_method_29_code 221 = .ok (.iconst 0, 1) := by decide +kernel
theorem d_Model_ofTiles_222 : decode prog_9_method_29_code 222 = .ok (.bipush 25, 2) := by decide +kernel
theorem d_Model_ofTiles_224 : decode prog_9_method_29_code 224 = .ok (.invokevirtual 187, 3) := by decide +kernel
theorem d_Model_ofTiles_227 : decode prog_9_method_29_code 227 = .ok (.lor, 1) := by decide +kernel
theorem d_Model_ofTiles_228 : decode prog_9_method_29_code 228 = .ok (.aload_n 0, 1) := by decide +kernel
theorem d_Model_ofTiles_229 : decode prog_9_method_29_code 229 = .ok (.iload 6, 2) := by decide +kernel
theorem d_Model_ofTiles_231 : decode prog_9_method_29_code 231 = .ok (.ifCond .eq 11, 3) := by decide +kernel
theorem d_Model_ofTiles_234 : decode prog_9_method_29_code 234 = .ok (.iload_n 1, 1) := by decide +kernel
theorem d_Model_ofTiles_235 : decode prog_9_method_29_code 235 = .ok (.ifCond .le 7, 3) := by decide +kernel
theorem d_Model_ofTiles_238 : decode prog_9_method_29_code 238 = .ok (.iconst 1, 1) := by decide +kernel
theorem d_Model_ofTiles_239 : decode prog_9_method_29_code 239 = .ok (.goto 4, 3) := by decide +kernel
theorem d_Model_ofTiles_242 : decode prog_9_method_29_code 242 = .ok (.iconst 0, 1) := by decide +kernel
theorem d_Model_ofTiles_243 : decode prog_9_method_29_code 243 = .ok (.bipush 28, 2) := by decide +kernel
theorem d_Model_ofTiles_245 : decode prog_9_method_29_code 245 = .ok (.invokevirtual 187, 3) := by decide +kernel
theorem d_Model_ofTiles_248 : decode prog_9_method_29_code 248 = .ok (.lor, 1) := by decide +kernel
theorem d_Model_ofTiles_249 : decode prog_9_method_29_code 249 = .ok (.aload_n 0, 1) := by decide +kernel
theorem d_Model_ofTiles_250 : decode prog_9_method_29_code 250 = .ok (.iload 6, 2) := by decide +kernel
theorem d_Model_ofTiles_252 : decode prog_9_method_29_code 252 = .ok (.ifCond .eq 11, 3) := by decide +kernel
theorem d_Model_ofTiles_255 : decode prog_9_method_29_code 255 = .ok (.iload_n 1, 1) := by decide +kernel
theorem d_Model_ofTiles_256 : decode prog_9_method_29_code 256 = .ok (.ifCond .ne 7, 3) := by decide +kernel
theorem d_Model_ofTiles_259 : decode prog_9_method_29_code 259 = .ok (.iconst 1, 1) := by decide +kernel
theorem d_Model_ofTiles_260 : decode prog_9_method_29_code 260 = .ok (.goto 4, 3) := by decide +kernel
theorem d_Model_ofTiles_263 : decode prog_9_method_29_code 263 = .ok (.iconst 0, 1) := by decide +kernel
theorem d_Model_ofTiles_264 : decode prog_9_method_29_code 264 = .ok (.bipush 29, 2) := by decide +kernel
theorem d_Model_ofTiles_266 : decode prog_9_method_29_code 266 = .ok (.invokevirtual 187, 3) := by decide +kernel
theorem d_Model_ofTiles_269 : decode prog_9_method_29_code 269 = .ok (.lor, 1) := by decide +kernel
theorem d_Model_ofTiles_270 : decode prog_9_method_29_code 270 = .ok (.lstore 7, 2) := by decide +kernel
theorem d_Model_ofTiles_272 : decode prog_9_method_29_code 272 = .ok (.lload 7, 2) := by decide +kernel
theorem d_Model_ofTiles_274 : decode prog_9_method_29_code 274 = .ok (.aload_n 0, 1) := by decide +kernel
theorem d_Model_ofTiles_275 : decode prog_9_method_29_code 275 = .ok (.iload 5, 2) := by decide +kernel
theorem d_Model_ofTiles_277 : decode prog_9_method_29_code 277 = .ok (.ifCond .ne 7, 3) := by decide +kernel
theorem d_Model_ofTiles_280 : decode prog_9_method_29_code 280 = .ok (.iconst 1, 1) := by decide +kernel
theorem d_Model_ofTiles_281 : decode prog_9_method_29_code 281 = .ok (.goto 4, 3) := by decide +kernel
theorem d_Model_ofTiles_284 : decode prog_9_method_29_code 284 = .ok (.iconst 0, 1) := by decide +kernel
theorem d_Model_ofTiles_285 : decode prog_9_method_29_code 285 = .ok (.bipush 37, 2) := by decide +kernel
theorem d_Model_ofTiles_287 : decode prog_9_method_29_code 287 = .ok (.invokevirtual 187, 3) := by decide +kernel
theorem d_Model_ofTiles_290 : decode prog_9_method_29_code 290 = .ok (.lor, 1) := by decide +kernel
theorem d_Model_ofTiles_291 : decode prog_9_method_29_code 291 = .ok (.aload_n 0, 1) := by decide +kernel
theorem d_Model_ofTiles_292 : decode prog_9_method_29_code 292 = .ok (.iload_n 2, 1) := by decide +kernel
theorem d_Model_ofTiles_293 : decode prog_9_method_29_code 293 = .ok (.ifCond .ne 11, 3) := by decide +kernel
theorem d_Model_ofTiles_296 : decode prog_9_method_29_code 296 = .ok (.iload_n 1, 1) := by decide +kernel
theorem d_Model_ofTiles_297 : decode prog_9_method_29_code 297 = .ok (.ifCond .ne 7, 3) := by decide +kernel
theorem d_Model_ofTiles_300 : decode prog_9_method_29_code 300 = .ok (.iconst 1, 1) := by decide +kernel
theorem d_Model_ofTiles_301 : decode prog_9_method_29_code 301 = .ok (.goto 4, 3) := by decide +kernel
theorem d_Model_ofTiles_304 : decode prog_9_method_29_code 304 = .ok (.iconst 0, 1) := by decide +kernel
theorem d_Model_ofTiles_305 : decode prog_9_method_29_code 305 = .ok (.bipush 38, 2) := by decide +kernel
theorem d_Model_ofTiles_307 : decode prog_9_method_29_code 307 = .ok (.invokevirtual 187, 3) := by decide +kernel
theorem d_Model_ofTiles_310 : decode prog_9_method_29_code 310 = .ok (.lor, 1) := by decide +kernel
theorem d_Model_ofTiles_311 : decode prog_9_method_29_code 311 = .ok (.aload_n 0, 1) := by decide +kernel
theorem d_Model_ofTiles_312 : decode prog_9_method_29_code 312 = .ok (.iload 4, 2) := by decide +kernel
theorem d_Model_ofTiles_314 : decode prog_9_method_29_code 314 = .ok (.bipush 39, 2) := by decide +kernel
theorem d_Model_ofTiles_316 : decode prog_9_method_29_code 316 = .ok (.invokevirtual 187, 3) := by decide +kernel
theorem d_Model_ofTiles_319 : decode prog_9_method_29_code 319 = .ok (.lor, 1) := by decide +kernel
theorem d_Model_ofTiles_320 : decode prog_9_method_29_code 320 = .ok (.aload_n 0, 1) := by decide +kernel
theorem d_Model_ofTiles_321 : decode prog_9_method_29_code 321 = .ok (.iload 6, 2) := by decide +kernel
theorem d_Model_ofTiles_323 : decode prog_9_method_29_code 323 = .ok (.ifCond .eq 18, 3) := by decide +kernel
theorem d_Model_ofTiles_326 : decode prog_9_method_29_code 326 = .ok (.iload_n 1, 1) := by decide +kernel
theorem d_Model_ofTiles_327 : decode prog_9_method_29_code 327 = .ok (.ifCond .ne 14, 3) := by decide +kernel
theorem d_Model_ofTiles_330 : decode prog_9_method_29_code 330 = .ok (.aload_n 0, 1) := by decide +kernel
theorem d_Model_ofTiles_331 : decode prog_9_method_29_code 331 = .ok (.invokevirtual 203, 3) := by decide +kernel
theorem d_Model_ofTiles_334 : decode prog_9_method_29_code 334 = .ok (.ifCond .eq 7, 3) := by decide +kernel
theorem d_Model_ofTiles_337 : decode prog_9_method_29_code 337 = .ok (.iconst 1, 1) := by decide +kernel
theorem d_Model_ofTiles_338 : decode prog_9_method_29_code 338 = .ok (.goto 4, 3) := by decide +kernel
theorem d_Model_ofTiles_341 : decode prog_9_method_29_code 341 = .ok (.iconst 0, 1) := by decide +kernel
theorem d_Model_ofTiles_342 : decode prog_9_method_29_code 342 = .ok (.bipush 31, 2) := by decide +kernel
theorem d_Model_ofTiles_344 : decode prog_9_method_29_code 344 = .ok (.invokevirtual 187, 3) := by decide +kernel
theorem d_Model_ofTiles_347 : decode prog_9_method_29_code 347 = .ok (.lor, 1) := by decide +kernel
theorem d_Model_ofTiles_348 : decode prog_9_method_29_code 348 = .ok (.lreturn, 1) := by decide +kernel
theorem d_Model_isSet_0 : decode prog_9_method_31_code 0 = .ok (.aload_n 0, 1) := by decide +kernel
theorem d_Model_isSet_1 : decode prog_9_method_31_code 1 = .ok (.getfield 72, 3) := by decide +kernel
theorem d_Model_isSet_4 : decode prog_9_method_31_code 4 = .ok (.iload_n 1, 1) := by decide +kernel
theorem d_Model_isSet_5 : decode prog_9_method_31_code 5 = .ok (.iaload, 1) := by decide +kernel
theorem d_Model_isSet_6 : decode prog_9_method_31_code 6 = .ok (.iload_n 2, 1) := by decide +kernel
theorem d_Model_isSet_7 : decode prog_9_method_31_code 7 = .ok (.if_icmp .ne 17, 3) := by decide +kernel
theorem d_Model_isSet_10 : decode prog_9_method_31_code 10 = .ok (.aload_n 0, 1) := by decide +kernel
theorem d_Model_isSet_11 : decode prog_9_method_31_code 11 = .ok (.getfield 69, 3) := by decide +kernel
theorem d_Model_isSet_14 : decode prog_9_method_31_code 14 = .ok (.iload_n 1, 1) := by decide +kernel
theorem d_Model_isSet_15 : decode prog_9_method_31_code 15 = .ok (.iaload, 1) := by decide +kernel
theorem d_Model_isSet_16 : decode prog_9_method_31_code 16 = .ok (.iload_n 3, 1) := by decide +kernel
theorem d_Model_isSet_17 : decode prog_9_method_31_code 17 = .ok (.if_icmp .ne 7, 3) := by decide +kernel
theorem d_Model_isSet_20 : decode prog_9_method_31_code 20 = .ok (.iconst 1, 1) := by decide +kernel
theorem d_Model_isSet_21 : decode prog_9_method_31_code 21 = .ok (.goto 4, 3) := by decide +kernel
theorem d_Model_isSet_24 : decode prog_9_method_31_code 24 = .ok (.iconst 0, 1) := by decide +kernel
theorem d_Model_isSet_25 : decode prog_9_method_31_code 25 = .ok (.ireturn, 1) := by decide +kernel
theorem d_Model_has_0 : decode prog_9_method_32_code 0 = .ok (.iconst 0, 1) := by decide +kernel
theorem d_Model_has_1 : decode prog_9_method_32_code 1 = .ok (.istore_n 2, 1) := by decide +kernel
theorem d_Model_has_2 : decode prog_9_method_32_code 2 = .ok (.iconst 0, 1) := by decide +kernel
theorem d_Model_has_3 : decode prog_9_method_32_code 3 = .ok (.istore_n 3, 1) := by decide +kernel
theorem d_Model_has_4 : decode prog_9_method_32_code 4 = .ok (.iload_n 3, 1) := by decide +kernel
theorem d_Model_has_5 : decode prog_9_method_32_code 5 = .ok (.iconst 4, 1) := by decide +kernel
theorem d_Model_has_6 : decode prog_9_method_32_code 6 = .ok (.if_icmp .ge 38, 3) := by decide +kernel
theorem d_Model_has_9 : decode prog_9_method_32_code 9 = .ok (.iload_n 2, 1) := by decide +kernel
theorem d_Model_has_10 : decode prog_9_method_32_code 10 = .ok (.ifCond .ne 22, 3) := by decide +kernel
theorem d_Model_has_13 : decode prog_9_method_32_code 13 = .ok (.aload_n 0, 1) := by decide +kernel
theorem d_Model_has_14 : decode prog_9_method_32_code 14 = .ok (.getfield 72, 3) := by decide +kernel
theorem d_Model_has_17 : decode prog_9_method_32_code 17 = .ok (.iload_n 3, 1) := by decide +kernel
theorem d_Model_has_18 : decode prog_9_method_32_code 18 = .ok (.iaload, 1) := by decide +kernel
theorem d_Model_has_19 : decode prog_9_method_32_code 19 = .ok (.ifCond .le 17, 3) := by decide +kernel
theorem d_Model_has_22 : decode prog_9_method_32_code 22 = .ok (.aload_n 0, 1) := by decide +kernel
theorem d_Model_has_23 : decode prog_9_method_32_code 23 = .ok (.getfield 69, 3) := by decide +kernel
theorem d_Model_has_26 : decode prog_9_method_32_code 26 = .ok (.iload_n 3, 1) := by decide +kernel
theorem d_Model_has_27 : decode prog_9_method_32_code 27 = .ok (.iaload, 1) := by decide +kernel
theorem d_Model_has_28 : decode prog_9_method_32_code 28 = .ok (.iload_n 1, 1) := by decide +kernel
theorem d_Model_has_29 : decode prog_9_method_32_code 29 = .ok (.if_icmp .ne 7, 3) := by decide +kernel
theorem d_Model_has_32 : decode prog_9_method_32_code 32 = .ok (.iconst 1, 1) := by decide +kernel
theorem d_Model_has_33 : decode prog_9_method_32_code 33 = .ok (.goto 4, 3) := by decide +kernel
theorem d_Model_has_36 : decode prog_9_method_32_code 36 = .ok (.iconst 0, 1) := by decide +kernel
theorem d_Model_has_37 : decode prog_9_method_32_code 37 = .ok (.istore_n 2, 1) := by decide +kernel
theorem d_Model_has_38 : decode prog_9_method_32_code 38 = .ok (.iinc 3 1, 3) := by decide +kernel
theorem d_Model_has_41 : decode prog_9_method_32_code 41 = .ok (.goto (-37), 3) := by decide +kernel
theorem d_Model_has_44 : decode prog_9_method_32_code 44 = .ok (.iload_n 2, 1) := by decide +kernel
theorem d_Model_has_45 : decode prog_9_method_32_code 45 = .ok (.ireturn, 1) := by decide +kernel
theorem d_Model_hasRun_0 : decode prog_9_method_33_code 0 = .ok (.iconst 0, 1) := by decide +kernel
theorem d_Model_hasRun_1 : decode prog_9_method_33_code 1 = .ok (.istore_n 2, 1) := by decide +kernel
theorem d_Model_hasRun_2 : decode prog_9_method_33_code 2 = .ok (.iconst 0, 1) := by decide +kernel
theorem d_Model_hasRun_3 : decode prog_9_method_33_code 3 = .ok (.istore_n 3, 1) := by decide +kernel
theorem d_Model_hasRun_4 : decode prog_9_method_33_code 4 = .ok (.iload_n 3, 1) := by decide +kernel
theorem d_Model_hasRun_5 : decode prog_9_method_33_code 5 = .ok (.iconst 4, 1) := by decide +kernel
theorem d_Model_hasRun_6 : decode prog_9_method_33_code 6 = .ok (.if_icmp .ge 29, 3) := by decide +kernel
theorem d_Model_hasRun_9 : decode prog_9_method_33_code 9 = .ok (.iload_n 2, 1) := by decide +kernel
theorem d_Model_hasRun_10 : decode prog_9_method_33_code 10 = .ok (.ifCond .ne 13, 3) := by decide +kernel
theorem d_Model_hasRun_13 : decode prog_9_method_33_code 13 = .ok (.aload_n 0, 1) := by decide +kernel
theorem d_Model_hasRun_14 : decode prog_9_method_33_code 14 = .ok (.iload_n 3, 1) := by decide +kernel
theorem d_Model_hasRun_15 : decode prog_9_method_33_code 15 = .ok (.iconst 0, 1) := by decide +kernel
theorem d_Model_hasRun_16 : decode prog_9_method_33_code 16 = .ok (.iload_n 1, 1) := by decide +kernel
theorem d_Model_hasRun_17 : decode prog_9_method_33_code 17 = .ok (.invokevirtual 206, 3) := by decide +kernel
theorem d_Model_hasRun_20 : decode prog_9_method_33_code 20 = .ok (.ifCond .eq 7, 3) := by decide +kernel
theorem d_Model_hasRun_23 : decode prog_9_method_33_code 23 = .ok (.iconst 1, 1) := by decide +kernel
theorem d_Model_hasRun_24 : decode prog_9_method_33_code 24 = .ok (.goto 4, 3) := by decide +kernel
theorem d_Model_hasRun_27 : decode prog_9_method_33_code 27 = .ok (.iconst 0, 1) := by decide +kernel
theorem d_Model_hasRun_28 : decode prog_9_method_33_code 28 = .ok (.istore_n 2, 1) := by decide +kernel
theorem d_Model_hasRun_29 : decode prog_9_method_33_code 29 = .ok (.iinc 3 1, 3) := by decide +kernel
theorem d_Model_hasRun_32 : decode prog_9_method_33_code 32 = .ok (.goto (-28), 3) := by decide +kernel
theorem d_Model_hasRun_35 : decode prog_9_method_33_code 35 = .ok (.iload_n 2, 1) := by decide +kernel
theorem d_Model_hasRun_36 : decode prog_9_method_33_code 36 = .ok (.ireturn, 1) := by decide +kernel
theorem d_Model_isClosedSet_0 : decode prog_9_method_34_code 0 = .ok (.aload_n 0, 1) := by decide +kernel
theorem d_Model_isClosedSet_1 : decode prog_9_method_34_code 1 = .ok (.getfield 75, 3) := by decide +kernel
theorem d_Model_isClosedSet_4 : decode prog_9_method_34_code 4 = .ok (.iload_n 1, 1) := by decide +kernel
theorem d_Model_isClosedSet_5 : decode prog_9_method_34_code 5 = .ok (.baload, 1) := by decide +kernel
theorem d_Model_isClosedSet_6 : decode prog_9_method_34_code 6 = .ok (.ifCond .ne 30, 3) := by decide +kernel
theorem d_Model_isClosedSet_9 : decode prog_9_method_34_code 9 = .ok (.iload_n 1, 1) := by decide +kernel
theorem d_Model_isClosedSet_10 : decode prog_9_method_34_code 10 = .ok (.aload_n 0, 1) := by decide +kernel
theorem d_Model_isClosedSet_11 : decode prog_9_method_34_code 11 = .ok (.getfield 150, 3) := by decide +kernel
theorem d_Model_isClosedSet_14 : decode prog_9_method_34_code 14 = .ok (.if_icmp .ge 18, 3) := by decide +kernel
theorem d_Model_isClosedSet_17 : decode prog_9_method_34_code 17 = .ok (.aload_n 0, 1) := by decide +kernel
theorem d_Model_isClosedSet_18 : decode prog_9_method_34_code 18 = .ok (.getfield 191, 3) := by decide +kernel
theorem d_Model_isClosedSet_21 : decode prog_9_method_34_code 21 = .ok (.ifCond .ne 11, 3) := by decide +kernel
theorem d_Model_isClosedSet_24 : decode prog_9_method_34_code 24 = .ok (.aload_n 0, 1) := by decide +kernel
theorem d_Model_isClosedSet_25 : decode prog_9_method_34_code 25 = .ok (.getfield 210, 3) := by decide +kernel
theorem d_Model_isClosedSet_28 : decode prog_9_method_34_code 28 = .ok (.iload_n 1, 1) := by decide +kernel
theorem d_Model_isClosedSet_29 : decode prog_9_method_34_code 29 = .ok (.if_icmp .eq 7, 3) := by decide +kernel
theorem d_Model_isClosedSet_32 : decode prog_9_method_34_code 32 = .ok (.iconst 1, 1) := by decide +kernel
theorem d_Model_isClosedSet_33 : decode prog_9_method_34_code 33 = .ok (.goto 4, 3) := by decide +kernel
theorem d_Model_isClosedSet_36 : decode prog_9_method_34_code 36 = .ok (.iconst 0, 1) := by decide +kernel
theorem d_Model_isClosedSet_37 : decode prog_9_method_34_code 37 = .ok (.ireturn, 1) := by decide +kernel
theorem d_Model_runs_0 : decode prog_9_method_35_code 0 = .ok (.iconst 0, 1) := by decide +kernel
theorem d_Model_runs_1 : decode prog_9_method_35_code 1 = .ok (.istore_n 1, 1) := by decide +kernel
theorem d_Model_runs_2 : decode prog_9_method_35_code 2 = .ok (.iconst 0, 1) := by decide +kernel
theorem d_Model_runs_3 : decode prog_9_method_35_code 3 = .ok (.istore_n 2, 1) := by decide +kernel
theorem d_Model_runs_4 : decode prog_9_method_35_code 4 = .ok (.iload_n 2, 1) := by decide +kernel
theorem d_Model_runs_5 : decode prog_9_method_35_code 5 = .ok (.iconst 4, 1) := by decide +kernel
theorem d_Model_runs_6 : decode prog_9_method_35_code 6 = .ok (.if_icmp .ge 26, 3) := by decide +kernel
theorem d_Model_runs_9 : decode prog_9_method_35_code 9 = .ok (.aload_n 0, 1) := by decide +kernel
theorem d_Model_runs_10 : decode prog_9_method_35_code 10 = .ok (.getfield 72, 3) := by decide +kernel
theorem d_Model_runs_13 : decode prog_9_method_35_code 13 = .ok (.iload_n 2, 1) := by decide +kernel
theorem d_Model_runs_14 : decode prog_9_method_35_code 14 = .ok (.iaload, 1) := by decide +kernel
theorem d_Model_runs_15 : decode prog_9_method_35_code 15 = .ok (.ifCond .ne 9, 3) := by decide +kernel
theorem d_Model_runs_18 : decode prog_9_method_35_code 18 = .ok (.iload_n 1, 1) := by decide +kernel
theorem d_Model_runs_19 : decode prog_9_method_35_code 19 = .ok (.iconst 1, 1) := by decide +kernel
theorem d_Model_runs_20 : decode prog_9_method_35_code 20 = .ok (.iadd, 1) := by decide +kernel
theorem d_Model_runs_21 : decode prog_9_method_35_code 21 = .ok (.goto 4, 3) := by decide +kernel
theorem d_Model_runs_24 : decode prog_9_method_35_code 24 = .ok (.iload_n 1, 1) := by decide +kernel
theorem d_Model_runs_25 : decode prog_9_method_35_code 25 = .ok (.istore_n 1, 1) := by decide +kernel
theorem d_Model_runs_26 : decode prog_9_method_35_code 26 = .ok (.iinc 2 1, 3) := by decide +kernel
theorem d_Model_runs_29 : decode prog_9_method_35_code 29 = .ok (.goto (-25), 3) := by decide +kernel
theorem d_Model_runs_32 : decode prog_9_method_35_code 32 = .ok (.iload_n 1, 1) := by decide +kernel
theorem d_Model_runs_33 : decode prog_9_method_35_code 33 = .ok (.ireturn, 1) := by decide +kernel
theorem d_Model_flat_0 : decode prog_9_method_36_code 0 = .ok (.aload_n 0, 1) := by decide +kernel
theorem d_Model_flat_1 : decode prog_9_method_36_code 1 = .ok (.getfield 137, 3) := by decide +kernel
theorem d_Model_flat_4 : decode prog_9_method_36_code 4 = .ok (.bipush 31, 2) := by decide +kernel
theorem d_Model_flat_6 : decode prog_9_method_36_code 6 = .ok (.if_icmp .ge 32, 3) := by decide +kernel
theorem d_Model_flat_9 : decode prog_9_method_36_code 9 = .ok (.aload_n 0, 1) := by decide +kernel
theorem d_Model_flat_10 : decode prog_9_method_36_code 10 = .ok (.getfield 137, 3) := by decide +kernel
theorem d_Model_flat_13 : decode prog_9_method_36_code 13 = .ok (.aload_n 0, 1) := by decide +kernel
theorem d_Model_flat_14 : decode prog_9_method_36_code 14 = .ok (.invokevirtual 213, 3) := by decide +kernel
theorem d_Model_flat_17 : decode prog_9_method_36_code 17 = .ok (.if_icmp .eq 21, 3) := by decide +kernel
theorem d_Model_flat_20 : decode prog_9_method_36_code 20 = .ok (.aload_n 0, 1) := by decide +kernel
theorem d_Model_flat_21 : decode prog_9_method_36_code 21 = .ok (.getfield 137, 3) := by decide +kernel
theorem d_Model_flat_24 : decode prog_9_method_36_code 24 = .ok (.bipush 27, 2) := by decide +kernel
theorem d_Model_flat_26 : decode prog_9_method_36_code 26 = .ok (.aload_n 0, 1) := by decide +kernel
theorem d_Model_flat_27 : decode prog_9_method_36_code 27 = .ok (.getfield 216, 3) := by decide +kernel
theorem d_Model_flat_30 : decode prog_9_method_36_code 30 = .ok (.iadd, 1) := by decide +kernel
theorem d_Model_flat_31 : decode prog_9_method_36_code 31 = .ok (.if_icmp .eq 7, 3) := by decide +kernel
theorem d_Model_flat_34 : decode prog_9_method_36_code 34 = .ok (.iconst 1, 1) := by decide +kernel
theorem d_Model_flat_35 : decode prog_9_method_36_code 35 = .ok (.goto 4, 3) := by decide +kernel
theorem d_Model_flat_38 : decode prog_9_method_36_code 38 = .ok (.iconst 0, 1) := by decide +kernel
theorem d_Model_flat_39 : decode prog_9_method_36_code 39 = .ok (.istore_n 1, 1) := by decide +kernel
theorem d_Model_flat_40 : decode prog_9_method_36_code 40 = .ok (.aload_n 0, 1) := by decide +kernel
theorem d_Model_flat_41 : decode prog_9_method_36_code 41 = .ok (.aload_n 0, 1) := by decide +kernel
theorem d_Model_flat_42 : decode prog_9_method_36_code 42 = .ok (.getfield 184, 3) := by decide +kernel
theorem d_Model_flat_45 : decode prog_9_method_36_code 45 = .ok (.invokevirtual 194, 3) := by decide +kernel
theorem d_Model_flat_48 : decode prog_9_method_36_code 48 = .ok (.ifCond .eq 22, 3) := by decide +kernel
theorem d_Model_flat_51 : decode prog_9_method_36_code 51 = .ok (.aload_n 0, 1) := by decide +kernel
theorem d_Model_flat_52 : decode prog_9_method_36_code 52 = .ok (.invokevirtual 219, 3) := by decide +kernel
theorem d_Model_flat_55 : decode prog_9_method_36_code 55 = .ok (.iconst 4, 1) := by decide +kernel
theorem d_Model_flat_56 : decode prog_9_method_36_code 56 = .ok (.if_icmp .lt 14, 3) := by decide +kernel
theorem d_Model_flat_59 : decode prog_9_method_36_code 59 = .ok (.iload_n 1, 1) := by decide +kernel
theorem d_Model_flat_60 : decode prog_9_method_36_code 60 = .ok (.ifCond .eq 10, 3) := by decide +kernel
theorem d_Model_flat_63 : decode prog_9_method_36_code 63 = .ok (.aload_n 0, 1) := by decide +kernel
theorem d_Model_flat_64 : decode prog_9_method_36_code 64 = .ok (.getfield 210, 3) := by decide +kernel
theorem d_Model_flat_67 : decode prog_9_method_36_code 67 = .ok (.ifCond .ge 5, 3) := by decide +kernel
theorem d_Model_flat_70 : decode prog_9_method_36_code 70 = .ok (.iconst 0, 1) := by decide +kernel
theorem d_Model_flat_71 : decode prog_9_method_36_code 71 = .ok (.ireturn, 1) := by decide +kernel
theorem d_Model_flat_72 : decode prog_9_method_36_code 72 = .ok (.aload_n 0, 1) := by decide +kernel
theorem d_Model_flat_73 : decode prog_9_method_36_code 73 = .ok (.getfield 69, 3) := by decide +kernel
theorem d_Model_flat_76 : decode prog_9_method_36_code 76 = .ok (.aload_n 0, 1) := by decide +kernel
theorem d_Model_flat_77 : decode prog_9_method_36_code 77 = .ok (.getfield 210, 3) := by decide +kernel
theorem d_Model_flat_80 : decode prog_9_method_36_code 80 = .ok (.iaload, 1) := by decide +kernel
theorem d_Model_flat_81 : decode prog_9_method_36_code 81 = .ok (.invokestatic 147, 3) := by decide +kernel
theorem d_Model_flat_84 : decode prog_9_method_36_code 84 = .ok (.istore_n 2, 1) := by decide +kernel
theorem d_Model_flat_85 : decode prog_9_method_36_code 85 = .ok (.aload_n 0, 1) := by decide +kernel
theorem d_Model_flat_86 : decode prog_9_method_36_code 86 = .ok (.getfield 222, 3) := by decide +kernel
