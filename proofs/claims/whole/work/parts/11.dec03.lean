theorem d_Table_offerClaims_13 : decode prog_1_method_28_code 13 = .ok (.astore_n 2, 1) := by decide +kernel
theorem d_Table_offerClaims_14 : decode prog_1_method_28_code 14 = .ok (.aload_n 2, 1) := by decide +kernel
theorem d_Table_offerClaims_15 : decode prog_1_method_28_code 15 = .ok (.iconst 0, 1) := by decide +kernel
theorem d_Table_offerClaims_16 : decode prog_1_method_28_code 16 = .ok (.putfield 179, 3) := by decide +kernel
theorem d_Table_offerClaims_19 : decode prog_1_method_28_code 19 = .ok (.aload_n 2, 1) := by decide +kernel
theorem d_Table_offerClaims_20 : decode prog_1_method_28_code 20 = .ok (.iload_n 1, 1) := by decide +kernel
theorem d_Table_offerClaims_21 : decode prog_1_method_28_code 21 = .ok (.aload_n 0, 1) := by decide +kernel
theorem d_Table_offerClaims_22 : decode prog_1_method_28_code 22 = .ok (.getfield 71, 3) := by decide +kernel
theorem d_Table_offerClaims_25 : decode prog_1_method_28_code 25 = .ok (.if_icmp .ne 7, 3) := by decide +kernel
theorem d_Table_offerClaims_28 : decode prog_1_method_28_code 28 = .ok (.iconst 0, 1) := by decide +kernel
theorem d_Table_offerClaims_29 : decode prog_1_method_28_code 29 = .ok (.goto 23, 3) := by decide +kernel
theorem d_Table_offerClaims_32 : decode prog_1_method_28_code 32 = .ok (.aload_n 0, 1) := by decide +kernel
theorem d_Table_offerClaims_33 : decode prog_1_method_28_code 33 = .ok (.iload_n 1, 1) := by decide +kernel
theorem d_Table_offerClaims_34 : decode prog_1_method_28_code 34 = .ok (.invokevirtual 226, 3) := by decide +kernel
theorem d_Table_offerClaims_37 : decode prog_1_method_28_code 37 = .ok (.aload_n 0, 1) := by decide +kernel
theorem d_Table_offerClaims_38 : decode prog_1_method_28_code 38 = .ok (.iload_n 1, 1) := by decide +kernel
theorem d_Table_offerClaims_39 : decode prog_1_method_28_code 39 = .ok (.invokevirtual 229, 3) := by decide +kernel
theorem d_Table_offerClaims_42 : decode prog_1_method_28_code 42 = .ok (.ifCond .eq 8, 3) := by decide +kernel
theorem d_Table_offerClaims_45 : decode prog_1_method_28_code 45 = .ok (.bipush 16, 2) := by decide +kernel
theorem d_Table_offerClaims_47 : decode prog_1_method_28_code 47 = .ok (.goto 4, 3) := by decide +kernel
theorem d_Table_offerClaims_50 : decode prog_1_method_28_code 50 = .ok (.iconst 0, 1) := by decide +kernel
theorem d_Table_offerClaims_51 : decode prog_1_method_28_code 51 = .ok (.ior, 1) := by decide +kernel
theorem d_Table_offerClaims_52 : decode prog_1_method_28_code 52 = .ok (.putfield 172, 3) := by decide +kernel
theorem d_Table_offerClaims_55 : decode prog_1_method_28_code 55 = .ok (.iinc 1 1, 3) := by decide +kernel
theorem d_Table_offerClaims_58 : decode prog_1_method_28_code 58 = .ok (.goto (-56), 3) := by decide +kernel
theorem d_Table_offerClaims_61 : decode prog_1_method_28_code 61 = .ok (.aload_n 0, 1) := by decide +kernel
theorem d_Table_offerClaims_62 : decode prog_1_method_28_code 62 = .ok (.invokevirtual 185, 3) := by decide +kernel
theorem d_Table_offerClaims_65 : decode prog_1_method_28_code 65 = .ok (.ireturn, 1) := by decide +kernel
theorem d_Table_noteCall_0 : decode prog_1_method_39_code 0 = .ok (.aload_n 0, 1) := by decide +kernel
theorem d_Table_noteCall_1 : decode prog_1_method_39_code 1 = .ok (.iconst 1, 1) := by decide +kernel
theorem d_Table_noteCall_2 : decode prog_1_method_39_code 2 = .ok (.putfield 60, 3) := by decide +kernel
theorem d_Table_noteCall_5 : decode prog_1_method_39_code 5 = .ok (.iconst 0, 1) := by decide +kernel
theorem d_Table_noteCall_6 : decode prog_1_method_39_code 6 = .ok (.istore_n 1, 1) := by decide +kernel
theorem d_Table_noteCall_7 : decode prog_1_method_39_code 7 = .ok (.iload_n 1, 1) := by decide +kernel
theorem d_Table_noteCall_8 : decode prog_1_method_39_code 8 = .ok (.iconst 4, 1) := by decide +kernel
theorem d_Table_noteCall_9 : decode prog_1_method_39_code 9 = .ok (.if_icmp .ge 19, 3) := by decide +kernel
theorem d_Table_noteCall_12 : decode prog_1_method_39_code 12 = .ok (.aload_n 0, 1) := by decide +kernel
theorem d_Table_noteCall_13 : decode prog_1_method_39_code 13 = .ok (.getfield 11, 3) := by decide +kernel
theorem d_Table_noteCall_16 : decode prog_1_method_39_code 16 = .ok (.iload_n 1, 1) := by decide +kernel
theorem d_Table_noteCall_17 : decode prog_1_method_39_code 17 = .ok (.aaload, 1) := by decide +kernel
theorem d_Table_noteCall_18 : decode prog_1_method_39_code 18 = .ok (.iconst 0, 1) := by decide +kernel
theorem d_Table_noteCall_19 : decode prog_1_method_39_code 19 = .ok (.putfield 87, 3) := by decide +kernel
theorem d_Table_noteCall_22 : decode prog_1_method_39_code 22 = .ok (.iinc 1 1, 3) := by decide +kernel
theorem d_Table_noteCall_25 : decode prog_1_method_39_code 25 = .ok (.goto (-18), 3) := by decide +kernel
theorem d_Table_noteCall_28 : decode prog_1_method_39_code 28 = .ok (.return_, 1) := by decide +kernel
theorem d_Table_completeQuad_0 : decode prog_1_method_41_code 0 = .ok (.aload_n 0, 1) := by decide +kernel
theorem d_Table_completeQuad_1 : decode prog_1_method_41_code 1 = .ok (.invokevirtual 269, 3) := by decide +kernel
theorem d_Table_completeQuad_4 : decode prog_1_method_41_code 4 = .ok (.aload_n 0, 1) := by decide +kernel
theorem d_Table_completeQuad_5 : decode prog_1_method_41_code 5 = .ok (.aload_n 0, 1) := by decide +kernel
theorem d_Table_completeQuad_6 : decode prog_1_method_41_code 6 = .ok (.getfield 34, 3) := by decide +kernel
theorem d_Table_completeQuad_9 : decode prog_1_method_41_code 9 = .ok (.invokevirtual 275, 3) := by decide +kernel
theorem d_Table_completeQuad_12 : decode prog_1_method_41_code 12 = .ok (.invokevirtual 278, 3) := by decide +kernel
theorem d_Table_completeQuad_15 : decode prog_1_method_41_code 15 = .ok (.aload_n 0, 1) := by decide +kernel
theorem d_Table_completeQuad_16 : decode prog_1_method_41_code 16 = .ok (.iconst 1, 1) := by decide +kernel
theorem d_Table_completeQuad_17 : decode prog_1_method_41_code 17 = .ok (.putfield 281, 3) := by decide +kernel
theorem d_Table_completeQuad_20 : decode prog_1_method_41_code 20 = .ok (.return_, 1) := by decide +kernel
theorem d_Table_completeAddedQuad_0 : decode prog_1_method_40_code 0 = .ok (.aload_n 0, 1) := by decide +kernel
theorem d_Table_completeAddedQuad_1 : decode prog_1_method_40_code 1 = .ok (.getfield 11, 3) := by decide +kernel
theorem d_Table_completeAddedQuad_4 : decode prog_1_method_40_code 4 = .ok (.aload_n 0, 1) := by decide +kernel
theorem d_Table_completeAddedQuad_5 : decode prog_1_method_40_code 5 = .ok (.getfield 71, 3) := by decide +kernel
theorem d_Table_completeAddedQuad_8 : decode prog_1_method_40_code 8 = .ok (.aaload, 1) := by decide +kernel
theorem d_Table_completeAddedQuad_9 : decode prog_1_method_40_code 9 = .ok (.aload_n 0, 1) := by decide +kernel
theorem d_Table_completeAddedQuad_10 : decode prog_1_method_40_code 10 = .ok (.getfield 26, 3) := by decide +kernel
theorem d_Table_completeAddedQuad_13 : decode prog_1_method_40_code 13 = .ok (.invokevirtual 272, 3) := by decide +kernel
theorem d_Table_completeAddedQuad_16 : decode prog_1_method_40_code 16 = .ok (.aload_n 0, 1) := by decide +kernel
theorem d_Table_completeAddedQuad_17 : decode prog_1_method_40_code 17 = .ok (.invokevirtual 114, 3) := by decide +kernel
theorem d_Table_completeAddedQuad_20 : decode prog_1_method_40_code 20 = .ok (.return_, 1) := by decide +kernel
theorem d_Table_findAnswer_0 : decode prog_1_method_35_code 0 = .ok (.iconst 0, 1) := by decide +kernel
theorem d_Table_findAnswer_1 : decode prog_1_method_35_code 1 = .ok (.istore_n 2, 1) := by decide +kernel
theorem d_Table_findAnswer_2 : decode prog_1_method_35_code 2 = .ok (.iload_n 2, 1) := by decide +kernel
theorem d_Table_findAnswer_3 : decode prog_1_method_35_code 3 = .ok (.iconst 4, 1) := by decide +kernel
theorem d_Table_findAnswer_4 : decode prog_1_method_35_code 4 = .ok (.if_icmp .ge 24, 3) := by decide +kernel
theorem d_Table_findAnswer_7 : decode prog_1_method_35_code 7 = .ok (.aload_n 0, 1) := by decide +kernel
theorem d_Table_findAnswer_8 : decode prog_1_method_35_code 8 = .ok (.getfield 11, 3) := by decide +kernel
theorem d_Table_findAnswer_11 : decode prog_1_method_35_code 11 = .ok (.iload_n 2, 1) := by decide +kernel
theorem d_Table_findAnswer_12 : decode prog_1_method_35_code 12 = .ok (.aaload, 1) := by decide +kernel
theorem d_Table_findAnswer_13 : decode prog_1_method_35_code 13 = .ok (.getfield 179, 3) := by decide +kernel
theorem d_Table_findAnswer_16 : decode prog_1_method_35_code 16 = .ok (.iload_n 1, 1) := by decide +kernel
theorem d_Table_findAnswer_17 : decode prog_1_method_35_code 17 = .ok (.if_icmp .ne 5, 3) := by decide +kernel
theorem d_Table_findAnswer_20 : decode prog_1_method_35_code 20 = .ok (.iload_n 2, 1) := by decide +kernel
theorem d_Table_findAnswer_21 : decode prog_1_method_35_code 21 = .ok (.ireturn, 1) := by decide +kernel
theorem d_Table_findAnswer_22 : decode prog_1_method_35_code 22 = .ok (.iinc 2 1, 3) := by decide +kernel
theorem d_Table_findAnswer_25 : decode prog_1_method_35_code 25 = .ok (.goto (-23), 3) := by decide +kernel
theorem d_Table_findAnswer_28 : decode prog_1_method_35_code 28 = .ok (.iconst (-1), 1) := by decide +kernel
theorem d_Table_findAnswer_29 : decode prog_1_method_35_code 29 = .ok (.ireturn, 1) := by decide +kernel
theorem d_Table_takeSticks_0 : decode prog_1_method_49_code 0 = .ok (.sipush 1000, 3) := by decide +kernel
theorem d_Table_takeSticks_3 : decode prog_1_method_49_code 3 = .ok (.aload_n 0, 1) := by decide +kernel
theorem d_Table_takeSticks_4 : decode prog_1_method_49_code 4 = .ok (.getfield 210, 3) := by decide +kernel
theorem d_Table_takeSticks_7 : decode prog_1_method_49_code 7 = .ok (.imul, 1) := by decide +kernel
theorem d_Table_takeSticks_8 : decode prog_1_method_49_code 8 = .ok (.istore_n 1, 1) := by decide +kernel
theorem d_Table_takeSticks_9 : decode prog_1_method_49_code 9 = .ok (.aload_n 0, 1) := by decide +kernel
theorem d_Table_takeSticks_10 : decode prog_1_method_49_code 10 = .ok (.iconst 0, 1) := by decide +kernel
theorem d_Table_takeSticks_11 : decode prog_1_method_49_code 11 = .ok (.putfield 210, 3) := by decide +kernel
theorem d_Table_takeSticks_14 : decode prog_1_method_49_code 14 = .ok (.iload_n 1, 1) := by decide +kernel
theorem d_Table_takeSticks_15 : decode prog_1_method_49_code 15 = .ok (.ireturn, 1) := by decide +kernel
theorem d_Table_finish_0 : decode prog_1_method_52_code 0 = .ok (.iconst 0, 1) := by decide +kernel
theorem d_Table_finish_1 : decode prog_1_method_52_code 1 = .ok (.istore_n 1, 1) := by decide +kernel
theorem d_Table_finish_2 : decode prog_1_method_52_code 2 = .ok (.iconst 1, 1) := by decide +kernel
theorem d_Table_finish_3 : decode prog_1_method_52_code 3 = .ok (.istore_n 2, 1) := by decide +kernel
theorem d_Table_finish_4 : decode prog_1_method_52_code 4 = .ok (.iload_n 2, 1) := by decide +kernel
theorem d_Table_finish_5 : decode prog_1_method_52_code 5 = .ok (.iconst 4, 1) := by decide +kernel
theorem d_Table_finish_6 : decode prog_1_method_52_code 6 = .ok (.if_icmp .ge 32, 3) := by decide +kernel
theorem d_Table_finish_9 : decode prog_1_method_52_code 9 = .ok (.aload_n 0, 1) := by decide +kernel
theorem d_Table_finish_10 : decode prog_1_method_52_code 10 = .ok (.getfield 11, 3) := by decide +kernel
theorem d_Table_finish_13 : decode prog_1_method_52_code 13 = .ok (.iload_n 2, 1) := by decide +kernel
theorem d_Table_finish_14 : decode prog_1_method_52_code 14 = .ok (.aaload, 1) := by decide +kernel
theorem d_Table_finish_15 : decode prog_1_method_52_code 15 = .ok (.getfield 156, 3) := by decide +kernel
theorem d_Table_finish_18 : decode prog_1_method_52_code 18 = .ok (.aload_n 0, 1) := by decide +kernel
theorem d_Table_finish_19 : decode prog_1_method_52_code 19 = .ok (.getfield 11, 3) := by decide +kernel
theorem d_Table_finish_22 : decode prog_1_method_52_code 22 = .ok (.iload_n 1, 1) := by decide +kernel
theorem d_Table_finish_23 : decode prog_1_method_52_code 23 = .ok (.aaload, 1) := by decide +kernel
theorem d_Table_finish_24 : decode prog_1_method_52_code 24 = .ok (.getfield 156, 3) := by decide +kernel
theorem d_Table_finish_27 : decode prog_1_method_52_code 27 = .ok (.if_icmp .le 5, 3) := by decide +kernel
theorem d_Table_finish_30 : decode prog_1_method_52_code 30 = .ok (.iload_n 2, 1) := by decide +kernel
theorem d_Table_finish_31 : decode prog_1_method_52_code 31 = .ok (.istore_n 1, 1) := by decide +kernel
theorem d_Table_finish_32 : decode prog_1_method_52_code 32 = .ok (.iinc 2 1, 3) := by decide +kernel
theorem d_Table_finish_35 : decode prog_1_method_52_code 35 = .ok (.goto (-31), 3) := by decide +kernel
theorem d_Table_finish_38 : decode prog_1_method_52_code 38 = .ok (.aload_n 0, 1) := by decide +kernel
theorem d_Table_finish_39 : decode prog_1_method_52_code 39 = .ok (.getfield 11, 3) := by decide +kernel
theorem d_Table_finish_42 : decode prog_1_method_52_code 42 = .ok (.iload_n 1, 1) := by decide +kernel
theorem d_Table_finish_43 : decode prog_1_method_52_code 43 = .ok (.aaload, 1) := by decide +kernel
theorem d_Table_finish_44 : decode prog_1_method_52_code 44 = .ok (.dup, 1) := by decide +kernel
theorem d_Table_finish_45 : decode prog_1_method_52_code 45 = .ok (.getfield 156, 3) := by decide +kernel
theorem d_Table_finish_48 : decode prog_1_method_52_code 48 = .ok (.aload_n 0, 1) := by decide +kernel
theorem d_Table_finish_49 : decode prog_1_method_52_code 49 = .ok (.invokevirtual 146, 3) := by decide +kernel
theorem d_Table_finish_52 : decode prog_1_method_52_code 52 = .ok (.iadd, 1) := by decide +kernel
theorem d_Table_finish_53 : decode prog_1_method_52_code 53 = .ok (.putfield 156, 3) := by decide +kernel
theorem d_Table_finish_56 : decode prog_1_method_52_code 56 = .ok (.aload_n 0, 1) := by decide +kernel
theorem d_Table_finish_57 : decode prog_1_method_52_code 57 = .ok (.iconst 4, 1) := by decide +kernel
theorem d_Table_finish_58 : decode prog_1_method_52_code 58 = .ok (.putfield 22, 3) := by decide +kernel
theorem d_Table_finish_61 : decode prog_1_method_52_code 61 = .ok (.return_, 1) := by decide +kernel
theorem d_Table_endHand_0 : decode prog_1_method_51_code 0 = .ok (.aload_n 0, 1) := by decide +kernel
theorem d_Table_endHand_1 : decode prog_1_method_51_code 1 = .ok (.iload_n 1, 1) := by decide +kernel
theorem d_Table_endHand_2 : decode prog_1_method_51_code 2 = .ok (.ifCond .ne 7, 3) := by decide +kernel
theorem d_Table_endHand_5 : decode prog_1_method_51_code 5 = .ok (.iload_n 2, 1) := by decide +kernel
theorem d_Table_endHand_6 : decode prog_1_method_51_code 6 = .ok (.ifCond .eq 12, 3) := by decide +kernel
theorem d_Table_endHand_9 : decode prog_1_method_51_code 9 = .ok (.aload_n 0, 1) := by decide +kernel
theorem d_Table_endHand_10 : decode prog_1_method_51_code 10 = .ok (.getfield 153, 3) := by decide +kernel
theorem d_Table_endHand_13 : decode prog_1_method_51_code 13 = .ok (.iconst 1, 1) := by decide +kernel
theorem d_Table_endHand_14 : decode prog_1_method_51_code 14 = .ok (.iadd, 1) := by decide +kernel
theorem d_Table_endHand_15 : decode prog_1_method_51_code 15 = .ok (.goto 4, 3) := by decide +kernel
theorem d_Table_endHand_18 : decode prog_1_method_51_code 18 = .ok (.iconst 0, 1) := by decide +kernel
theorem d_Table_endHand_19 : decode prog_1_method_51_code 19 = .ok (.putfield 153, 3) := by decide +kernel
theorem d_Table_endHand_22 : decode prog_1_method_51_code 22 = .ok (.aload_n 0, 1) := by decide +kernel
theorem d_Table_endHand_23 : decode prog_1_method_51_code 23 = .ok (.iconst 3, 1) := by decide +kernel
theorem d_Table_endHand_24 : decode prog_1_method_51_code 24 = .ok (.putfield 22, 3) := by decide +kernel
theorem d_Table_endHand_27 : decode prog_1_method_51_code 27 = .ok (.iload_n 1, 1) := by decide +kernel
theorem d_Table_endHand_28 : decode prog_1_method_51_code 28 = .ok (.ifCond .eq 4, 3) := by decide +kernel
theorem d_Table_endHand_31 : decode prog_1_method_51_code 31 = .ok (.return_, 1) := by decide +kernel
theorem d_Table_endHand_32 : decode prog_1_method_51_code 32 = .ok (.aload_n 0, 1) := by decide +kernel
theorem d_Table_endHand_33 : decode prog_1_method_51_code 33 = .ok (.getfield 46, 3) := by decide +kernel
theorem d_Table_endHand_36 : decode prog_1_method_51_code 36 = .ok (.iconst 3, 1) := by decide +kernel
theorem d_Table_endHand_37 : decode prog_1_method_51_code 37 = .ok (.if_icmp .ge 16, 3) := by decide +kernel
theorem d_Table_endHand_40 : decode prog_1_method_51_code 40 = .ok (.aload_n 0, 1) := by decide +kernel
theorem d_Table_endHand_41 : decode prog_1_method_51_code 41 = .ok (.dup, 1) := by decide +kernel
theorem d_Table_endHand_42 : decode prog_1_method_51_code 42 = .ok (.getfield 46, 3) := by decide +kernel
theorem d_Table_endHand_45 : decode prog_1_method_51_code 45 = .ok (.iconst 1, 1) := by decide +kernel
theorem d_Table_endHand_46 : decode prog_1_method_51_code 46 = .ok (.iadd, 1) := by decide +kernel
theorem d_Table_endHand_47 : decode prog_1_method_51_code 47 = .ok (.putfield 46, 3) := by decide +kernel
theorem d_Table_endHand_50 : decode prog_1_method_51_code 50 = .ok (.goto 33, 3) := by decide +kernel
theorem d_Table_endHand_53 : decode prog_1_method_51_code 53 = .ok (.aload_n 0, 1) := by decide +kernel
theorem d_Table_endHand_54 : decode prog_1_method_51_code 54 = .ok (.getfield 207, 3) := by decide +kernel
theorem d_Table_endHand_57 : decode prog_1_method_51_code 57 = .ok (.iconst 1, 1) := by decide +kernel
theorem d_Table_endHand_58 : decode prog_1_method_51_code 58 = .ok (.if_icmp .ge 21, 3) := by decide +kernel
theorem d_Table_endHand_61 : decode prog_1_method_51_code 61 = .ok (.aload_n 0, 1) := by decide +kernel
theorem d_Table_endHand_62 : decode prog_1_method_51_code 62 = .ok (.iconst 0, 1) := by decide +kernel
theorem d_Table_endHand_63 : decode prog_1_method_51_code 63 = .ok (.putfield 46, 3) := by decide +kernel
theorem d_Table_endHand_66 : decode prog_1_method_51_code 66 = .ok (.aload_n 0, 1) := by decide +kernel
theorem d_Table_endHand_67 : decode prog_1_method_51_code 67 = .ok (.dup, 1) := by decide +kernel
theorem d_Table_endHand_68 : decode prog_1_method_51_code 68 = .ok (.getfield 207, 3) := by decide +kernel
theorem d_Table_endHand_71 : decode prog_1_method_51_code 71 = .ok (.iconst 1, 1) := by decide +kernel
theorem d_Table_endHand_72 : decode prog_1_method_51_code 72 = .ok (.iadd, 1) := by decide +kernel
theorem d_Table_endHand_73 : decode prog_1_method_51_code 73 = .ok (.putfield 207, 3) := by decide +kernel
theorem d_Table_endHand_76 : decode prog_1_method_51_code 76 = .ok (.goto 7, 3) := by decide +kernel
theorem d_Table_endHand_79 : decode prog_1_method_51_code 79 = .ok (.aload_n 0, 1) := by decide +kernel
theorem d_Table_endHand_80 : decode prog_1_method_51_code 80 = .ok (.invokevirtual 330, 3) := by decide +kernel
theorem d_Table_endHand_83 : decode prog_1_method_51_code 83 = .ok (.return_, 1) := by decide +kernel
theorem d_JInteger_bitCount_0 : decode prog_10_method_49_code 0 = .ok (.iload_n 0, 1) := by decide +kernel
theorem d_JInteger_bitCount_1 : decode prog_10_method_49_code 1 = .ok (.iload_n 0, 1) := by decide +kernel
theorem d_JInteger_bitCount_2 : decode prog_10_method_49_code 2 = .ok (.iconst 1, 1) := by decide +kernel
theorem d_JInteger_bitCount_3 : decode prog_10_method_49_code 3 = .ok (.iushr, 1) := by decide +kernel
theorem d_JInteger_bitCount_4 : decode prog_10_method_49_code 4 = .ok (.ldc_w 265, 3) := by decide +kernel
theorem d_JInteger_bitCount_7 : decode prog_10_method_49_code 7 = .ok (.iand, 1) := by decide +kernel
theorem d_JInteger_bitCount_8 : decode prog_10_method_49_code 8 = .ok (.isub, 1) := by decide +kernel
theorem d_JInteger_bitCount_9 : decode prog_10_method_49_code 9 = .ok (.istore_n 0, 1) := by decide +kernel
theorem d_JInteger_bitCount_10 : decode prog_10_method_49_code 10 = .ok (.iload_n 0, 1) := by decide +kernel
theorem d_JInteger_bitCount_11 : decode prog_10_method_49_code 11 = .ok (.ldc_w 266, 3) := by decide +kernel
theorem d_JInteger_bitCount_14 : decode prog_10_method_49_code 14 = .ok (.iand, 1) := by decide +kernel
theorem d_JInteger_bitCount_15 : decode prog_10_method_49_code 15 = .ok (.iload_n 0, 1) := by decide +kernel
theorem d_JInteger_bitCount_16 : decode prog_10_method_49_code 16 = .ok (.iconst 2, 1) := by decide +kernel
theorem d_JInteger_bitCount_17 : decode prog_10_method_49_code 17 = .ok (.iushr, 1) := by decide +kernel
theorem d_JInteger_bitCount_18 : decode prog_10_method_49_code 18 = .ok (.ldc_w 266, 3) := by decide +kernel
theorem d_JInteger_bitCount_21 : decode prog_10_method_49_code 21 = .ok (.iand, 1) := by decide +kernel
theorem d_JInteger_bitCount_22 : decode prog_10_method_49_code 22 = .ok (.iadd, 1) := by decide +kernel
theorem d_JInteger_bitCount_23 : decode prog_10_method_49_code 23 = .ok (.istore_n 0, 1) := by decide +kernel
theorem d_JInteger_bitCount_24 : decode prog_10_method_49_code 24 = .ok (.iload_n 0, 1) := by decide +kernel
theorem d_JInteger_bitCount_25 : decode prog_10_method_49_code 25 = .ok (.iload_n 0, 1) := by decide +kernel
theorem d_JInteger_bitCount_26 : decode prog_10_method_49_code 26 = .ok (.iconst 4, 1) := by decide +kernel
theorem d_JInteger_bitCount_27 : decode prog_10_method_49_code 27 = .ok (.iushr, 1) := by decide +kernel
theorem d_JInteger_bitCount_28 : decode prog_10_method_49_code 28 = .ok (.iadd, 1) := by decide +kernel
theorem d_JInteger_bitCount_29 : decode prog_10_method_49_code 29 = .ok (.ldc_w 267, 3) := by decide +kernel
theorem d_JInteger_bitCount_32 : decode prog_10_method_49_code 32 = .ok (.iand, 1) := by decide +kernel
theorem d_JInteger_bitCount_33 : decode prog_10_method_49_code 33 = .ok (.istore_n 0, 1) := by decide +kernel
theorem d_JInteger_bitCount_34 : decode prog_10_method_49_code 34 = .ok (.iload_n 0, 1) := by decide +kernel
theorem d_JInteger_bitCount_35 : decode prog_10_method_49_code 35 = .ok (.iload_n 0, 1) := by decide +kernel
theorem d_JInteger_bitCount_36 : decode prog_10_method_49_code 36 = .ok (.bipush 8, 2) := by decide +kernel
theorem d_JInteger_bitCount_38 : decode prog_10_method_49_code 38 = .ok (.iushr, 1) := by decide +kernel
theorem d_JInteger_bitCount_39 : decode prog_10_method_49_code 39 = .ok (.iadd, 1) := by decide +kernel
theorem d_JInteger_bitCount_40 : decode prog_10_method_49_code 40 = .ok (.istore_n 0, 1) := by decide +kernel
theorem d_JInteger_bitCount_41 : decode prog_10_method_49_code 41 = .ok (.iload_n 0, 1) := by decide +kernel
theorem d_JInteger_bitCount_42 : decode prog_10_method_49_code 42 = .ok (.iload_n 0, 1) := by decide +kernel
theorem d_JInteger_bitCount_43 : decode prog_10_method_49_code 43 = .ok (.bipush 16, 2) := by decide +kernel
theorem d_JInteger_bitCount_45 : decode prog_10_method_49_code 45 = .ok (.iushr, 1) := by decide +kernel
theorem d_JInteger_bitCount_46 : decode prog_10_method_49_code 46 = .ok (.iadd, 1) := by decide +kernel
theorem d_JInteger_bitCount_47 : decode prog_10_method_49_code 47 = .ok (.istore_n 0, 1) := by decide +kernel
theorem d_JInteger_bitCount_48 : decode prog_10_method_49_code 48 = .ok (.iload_n 0, 1) := by decide +kernel
theorem d_JInteger_bitCount_49 : decode prog_10_method_49_code 49 = .ok (.bipush 63, 2) := by decide +kernel
theorem d_JInteger_bitCount_51 : decode prog_10_method_49_code 51 = .ok (.iand, 1) := by decide +kernel
theorem d_JInteger_bitCount_52 : decode prog_10_method_49_code 52 = .ok (.ireturn, 1) := by decide +kernel
theorem d_Table_drawOut_0 : decode prog_1_method_50_code 0 = .ok (.iconst 0, 1) := by decide +kernel
theorem d_Table_drawOut_1 : decode prog_1_method_50_code 1 = .ok (.istore_n 1, 1) := by decide +kernel
theorem d_Table_drawOut_2 : decode prog_1_method_50_code 2 = .ok (.iconst 0, 1) := by decide +kernel
theorem d_Table_drawOut_3 : decode prog_1_method_50_code 3 = .ok (.istore_n 2, 1) := by decide +kernel
theorem d_Table_drawOut_4 : decode prog_1_method_50_code 4 = .ok (.iload_n 2, 1) := by decide +kernel
theorem d_Table_drawOut_5 : decode prog_1_method_50_code 5 = .ok (.iconst 4, 1) := by decide +kernel
theorem d_Table_drawOut_6 : decode prog_1_method_50_code 6 = .ok (.if_icmp .ge 29, 3) := by decide +kernel
theorem d_Table_drawOut_9 : decode prog_1_method_50_code 9 = .ok (.aload_n 0, 1) := by decide +kernel
theorem d_Table_drawOut_10 : decode prog_1_method_50_code 10 = .ok (.getfield 11, 3) := by decide +kernel
theorem d_Table_drawOut_13 : decode prog_1_method_50_code 13 = .ok (.iload_n 2, 1) := by decide +kernel
theorem d_Table_drawOut_14 : decode prog_1_method_50_code 14 = .ok (.aaload, 1) := by decide +kernel
theorem d_Table_drawOut_15 : decode prog_1_method_50_code 15 = .ok (.invokevirtual 200, 3) := by decide +kernel
theorem d_Table_drawOut_18 : decode prog_1_method_50_code 18 = .ok (.lconst 0, 1) := by decide +kernel
theorem d_Table_drawOut_19 : decode prog_1_method_50_code 19 = .ok (.lcmp, 1) := by decide +kernel
theorem d_Table_drawOut_20 : decode prog_1_method_50_code 20 = .ok (.ifCond .eq 9, 3) := by decide +kernel
theorem d_Table_drawOut_23 : decode prog_1_method_50_code 23 = .ok (.iload_n 1, 1) := by decide +kernel
theorem d_Table_drawOut_24 : decode prog_1_method_50_code 24 = .ok (.iconst 1, 1) := by decide +kernel
theorem d_Table_drawOut_25 : decode prog_1_method_50_code 25 = .ok (.iload_n 2, 1) := by decide +kernel
theorem d_Table_drawOut_26 : decode prog_1_method_50_code 26 = .ok (.ishl, 1) := by decide +kernel
theorem d_Table_drawOut_27 : decode prog_1_method_50_code 27 = .ok (.ior, 1) := by decide +kernel
theorem d_Table_drawOut_28 : decode prog_1_method_50_code 28 = .ok (.istore_n 1, 1) := by decide +kernel
theorem d_Table_drawOut_29 : decode prog_1_method_50_code 29 = .ok (.iinc 2 1, 3) := by decide +kernel
theorem d_Table_drawOut_32 : decode prog_1_method_50_code 32 = .ok (.goto (-28), 3) := by decide +kernel
theorem d_Table_drawOut_35 : decode prog_1_method_50_code 35 = .ok (.iload_n 1, 1) := by decide +kernel
theorem d_Table_drawOut_36 : decode prog_1_method_50_code 36 = .ok (.invokestatic 325, 3) := by decide +kernel
theorem d_Table_drawOut_39 : decode prog_1_method_50_code 39 = .ok (.istore_n 2, 1) := by decide +kernel
theorem d_Table_drawOut_40 : decode prog_1_method_50_code 40 = .ok (.iload_n 2, 1) := by decide +kernel
theorem d_Table_drawOut_41 : decode prog_1_method_50_code 41 = .ok (.ifCond .le 70, 3) := by decide +kernel
theorem d_Table_drawOut_44 : decode prog_1_method_50_code 44 = .ok (.iload_n 2, 1) := by decide +kernel
theorem d_Table_drawOut_45 : decode prog_1_method_50_code 45 = .ok (.iconst 4, 1) := by decide +kernel
theorem d_Table_drawOut_46 : decode prog_1_method_50_code 46 = .ok (.if_icmp .ge 65, 3) := by decide +kernel
theorem d_Table_drawOut_49 : decode prog_1_method_50_code 49 = .ok (.iconst 0, 1) := by decide +kernel
theorem d_Table_drawOut_50 : decode prog_1_method_50_code 50 = .ok (.istore_n 3, 1) := by decide +kernel
theorem d_Table_drawOut_51 : decode prog_1_method_50_code 51 = .ok (.iload_n 3, 1) := by decide +kernel
theorem d_Table_drawOut_52 : decode prog_1_method_50_code 52 = .ok (.iconst 4, 1) := by decide +kernel
theorem d_Table_drawOut_53 : decode prog_1_method_50_code 53 = .ok (.if_icmp .ge 58, 3) := by decide +kernel
theorem d_Table_drawOut_56 : decode prog_1_method_50_code 56 = .ok (.iload_n 1, 1) := by decide +kernel
theorem d_Table_drawOut_57 : decode prog_1_method_50_code 57 = .ok (.iload_n 3, 1) := by decide +kernel
theorem d_Table_drawOut_58 : decode prog_1_method_50_code 58 = .ok (.ishr, 1) := by decide +kernel
theorem d_Table_drawOut_59 : decode prog_1_method_50_code 59 = .ok (.iconst 1, 1) := by decide +kernel
theorem d_Table_drawOut_60 : decode prog_1_method_50_code 60 = .ok (.iand, 1) := by decide +kernel
theorem d_Table_drawOut_61 : decode prog_1_method_50_code 61 = .ok (.ifCond .eq 7, 3) := by decide +kernel
theorem d_Table_drawOut_64 : decode prog_1_method_50_code 64 = .ok (.iconst 1, 1) := by decide +kernel
theorem d_Table_drawOut_65 : decode prog_1_method_50_code 65 = .ok (.goto 4, 3) := by decide +kernel
theorem d_Table_drawOut_68 : decode prog_1_method_50_code 68 = .ok (.iconst 0, 1) := by decide +kernel
theorem d_Table_drawOut_69 : decode prog_1_method_50_code 69 = .ok (.istore 4, 2) := by decide +kernel
theorem d_Table_drawOut_71 : decode prog_1_method_50_code 71 = .ok (.aload_n 0, 1) := by decide +kernel
theorem d_Table_drawOut_72 : decode prog_1_method_50_code 72 = .ok (.getfield 11, 3) := by decide +kernel
theorem d_Table_drawOut_75 : decode prog_1_method_50_code 75 = .ok (.iload_n 3, 1) := by decide +kernel
theorem d_Table_drawOut_76 : decode prog_1_method_50_code 76 = .ok (.aaload, 1) := by decide +kernel
theorem d_Table_drawOut_77 : decode prog_1_method_50_code 77 = .ok (.dup, 1) := by decide +kernel
theorem d_Table_drawOut_78 : decode prog_1_method_50_code 78 = .ok (.getfield 156, 3) := by decide +kernel
theorem d_Table_drawOut_81 : decode prog_1_method_50_code 81 = .ok (.iload 4, 2) := by decide +kernel
theorem d_Table_drawOut_83 : decode prog_1_method_50_code 83 = .ok (.ifCond .eq 11, 3) := by decide +kernel
theorem d_Table_drawOut_86 : decode prog_1_method_50_code 86 = .ok (.sipush 3000, 3) := by decide +kernel
theorem d_Table_drawOut_89 : decode prog_1_method_50_code 89 = .ok (.iload_n 2, 1) := by decide +kernel
theorem d_Table_drawOut_90 : decode prog_1_method_50_code 90 = .ok (.idiv, 1) := by decide +kernel
theorem d_Table_drawOut_91 : decode prog_1_method_50_code 91 = .ok (.goto 10, 3) := by decide +kernel
theorem d_Table_drawOut_94 : decode prog_1_method_50_code 94 = .ok (.sipush (-3000), 3) := by decide +kernel
theorem d_Table_drawOut_97 : decode prog_1_method_50_code 97 = .ok (.iconst 4, 1) := by decide +kernel
theorem d_Table_drawOut_98 : decode prog_1_method_50_code 98 = .ok (.iload_n 2, 1) := by decide +kernel
theorem d_Table_drawOut_99 : decode prog_1_method_50_code 99 = .ok (.isub, 1) := by decide +kernel
theorem d_Table_drawOut_100 : decode prog_1_method_50_code 100 = .ok (.idiv, 1) := by decide +kernel
theorem d_Table_drawOut_101 : decode prog_1_method_50_code 101 = .ok (.iadd, 1) := by decide +kernel
theorem d_Table_drawOut_102 : decode prog_1_method_50_code 102 = .ok (.putfield 156, 3) := by decide +kernel
theorem d_Table_drawOut_105 : decode prog_1_method_50_code 105 = .ok (.iinc 3 1, 3) := by decide +kernel
theorem d_Table_drawOut_108 : decode prog_1_method_50_code 108 = .ok (.goto (-57), 3) := by decide +kernel
theorem d_Table_drawOut_111 : decode prog_1_method_50_code 111 = .ok (.aload_n 0, 1) := by decide +kernel
theorem d_Table_drawOut_112 : decode prog_1_method_50_code 112 = .ok (.iload_n 1, 1) := by decide +kernel
theorem d_Table_drawOut_113 : decode prog_1_method_50_code 113 = .ok (.aload_n 0, 1) := by decide +kernel
theorem d_Table_drawOut_114 : decode prog_1_method_50_code 114 = .ok (.getfield 46, 3) := by decide +kernel
theorem d_Table_drawOut_117 : decode prog_1_method_50_code 117 = .ok (.ishr, 1) := by decide +kernel
theorem d_Table_drawOut_118 : decode prog_1_method_50_code 118 = .ok (.iconst 1, 1) := by decide +kernel
theorem d_Table_drawOut_119 : decode prog_1_method_50_code 119 = .ok (.iand, 1) := by decide +kernel
theorem d_Table_drawOut_120 : decode prog_1_method_50_code 120 = .ok (.ifCond .eq 7, 3) := by decide +kernel
theorem d_Table_drawOut_123 : decode prog_1_method_50_code 123 = .ok (.iconst 1, 1) := by decide +kernel
theorem d_Table_drawOut_124 : decode prog_1_method_50_code 124 = .ok (.goto 4, 3) := by decide +kernel
theorem d_Table_drawOut_127 : decode prog_1_method_50_code 127 = .ok (.iconst 0, 1) := by decide +kernel
theorem d_Table_drawOut_128 : decode prog_1_method_50_code 128 = .ok (.iconst 1, 1) := by decide +kernel
theorem d_Table_drawOut_129 : decode prog_1_method_50_code 129 = .ok (.invokevirtual 162, 3) := by decide +kernel
theorem d_Table_drawOut_132 : decode prog_1_method_50_code 132 = .ok (.return_, 1) := by decide +kernel
theorem d_Table_layDown_0 : decode prog_1_method_38_code 0 = .ok (.aload_n 0, 1) := by decide +kernel
theorem d_Table_layDown_1 : decode prog_1_method_38_code 1 = .ok (.getfield 11, 3) := by decide +kernel
theorem d_Table_layDown_4 : decode prog_1_method_38_code 4 = .ok (.iload_n 1, 1) := by decide +kernel
theorem d_Table_layDown_5 : decode prog_1_method_38_code 5 = .ok (.aaload, 1) := by decide +kernel
theorem d_Table_layDown_6 : decode prog_1_method_38_code 6 = .ok (.iload_n 2, 1) := by decide +kernel
theorem d_Table_layDown_7 : decode prog_1_method_38_code 7 = .ok (.iload_n 3, 1) := by decide +kernel
theorem d_Table_layDown_8 : decode prog_1_method_38_code 8 = .ok (.invokevirtual 110, 3) := by decide +kernel
theorem d_Table_layDown_11 : decode prog_1_method_38_code 11 = .ok (.aload_n 0, 1) := by decide +kernel
theorem d_Table_layDown_12 : decode prog_1_method_38_code 12 = .ok (.getfield 11, 3) := by decide +kernel
theorem d_Table_layDown_15 : decode prog_1_method_38_code 15 = .ok (.iload_n 1, 1) := by decide +kernel
theorem d_Table_layDown_16 : decode prog_1_method_38_code 16 = .ok (.aaload, 1) := by decide +kernel
theorem d_Table_layDown_17 : decode prog_1_method_38_code 17 = .ok (.invokevirtual 266, 3) := by decide +kernel
theorem d_Table_layDown_20 : decode prog_1_method_38_code 20 = .ok (.aload_n 0, 1) := by decide +kernel
theorem d_Table_layDown_21 : decode prog_1_method_38_code 21 = .ok (.invokevirtual 269, 3) := by decide +kernel
theorem d_Table_layDown_24 : decode prog_1_method_38_code 24 = .ok (.aload_n 0, 1) := by decide +kernel
theorem d_Table_layDown_25 : decode prog_1_method_38_code 25 = .ok (.iload_n 1, 1) := by decide +kernel
theorem d_Table_layDown_26 : decode prog_1_method_38_code 26 = .ok (.putfield 71, 3) := by decide +kernel
theorem d_Table_layDown_29 : decode prog_1_method_38_code 29 = .ok (.aload_n 0, 1) := by decide +kernel
theorem d_Table_layDown_30 : decode prog_1_method_38_code 30 = .ok (.iconst (-1), 1) := by decide +kernel
theorem d_Table_layDown_31 : decode prog_1_method_38_code 31 = .ok (.putfield 26, 3) := by decide +kernel
theorem d_Table_layDown_34 : decode prog_1_method_38_code 34 = .ok (.aload_n 0, 1) := by decide +kernel
theorem d_Table_layDown_35 : decode prog_1_method_38_code 35 = .ok (.iconst 1, 1) := by decide +kernel
theorem d_Table_layDown_36 : decode prog_1_method_38_code 36 = .ok (.putfield 22, 3) := by decide +kernel
theorem d_Table_layDown_39 : decode prog_1_method_38_code 39 = .ok (.return_, 1) := by decide +kernel
theorem d_Table_handOver_0 : decode prog_1_method_37_code 0 = .ok (.aload_n 0, 1) := by decide +kernel
theorem d_Table_handOver_1 : decode prog_1_method_37_code 1 = .ok (.iconst 3, 1) := by decide +kernel
theorem d_Table_handOver_2 : decode prog_1_method_37_code 2 = .ok (.invokevirtual 241, 3) := by decide +kernel
theorem d_Table_handOver_5 : decode prog_1_method_37_code 5 = .ok (.istore_n 1, 1) := by decide +kernel
theorem d_Table_handOver_6 : decode prog_1_method_37_code 6 = .ok (.iload_n 1, 1) := by decide +kernel
theorem d_Table_handOver_7 : decode prog_1_method_37_code 7 = .ok (.iconst (-1), 1) := by decide +kernel
theorem d_Table_handOver_8 : decode prog_1_method_37_code 8 = .ok (.if_icmp .eq 36, 3) := by decide +kernel
theorem d_Table_handOver_11 : decode prog_1_method_37_code 11 = .ok (.aload_n 0, 1) := by decide +kernel
theorem d_Table_handOver_12 : decode prog_1_method_37_code 12 = .ok (.getfield 11, 3) := by decide +kernel
theorem d_Table_handOver_15 : decode prog_1_method_37_code 15 = .ok (.iload_n 1, 1) := by decide +kernel
theorem d_Table_handOver_16 : decode prog_1_method_37_code 16 = .ok (.aaload, 1) := by decide +kernel
theorem d_Table_handOver_17 : decode prog_1_method_37_code 17 = .ok (.getfield 52, 3) := by decide +kernel
theorem d_Table_handOver_20 : decode prog_1_method_37_code 20 = .ok (.aload_n 0, 1) := by decide +kernel
theorem d_Table_handOver_21 : decode prog_1_method_37_code 21 = .ok (.getfield 26, 3) := by decide +kernel
theorem d_Table_handOver_24 : decode prog_1_method_37_code 24 = .ok (.dup2, 1) := by decide +kernel
theorem d_Table_handOver_25 : decode prog_1_method_37_code 25 = .ok (.iaload, 1) := by decide +kernel
theorem d_Table_handOver_26 : decode prog_1_method_37_code 26 = .ok (.iconst 3, 1) := by decide +kernel
theorem d_Table_handOver_27 : decode prog_1_method_37_code 27 = .ok (.isub, 1) := by decide +kernel
theorem d_Table_handOver_28 : decode prog_1_method_37_code 28 = .ok (.iastore, 1) := by decide +kernel
theorem d_Table_handOver_29 : decode prog_1_method_37_code 29 = .ok (.aload_n 0, 1) := by decide +kernel
theorem d_Table_handOver_30 : decode prog_1_method_37_code 30 = .ok (.iload_n 1, 1) := by decide +kernel
theorem d_Table_handOver_31 : decode prog_1_method_37_code 31 = .ok (.aload_n 0, 1) := by decide +kernel
theorem d_Table_handOver_32 : decode prog_1_method_37_code 32 = .ok (.getfield 26, 3) := by decide +kernel
theorem d_Table_handOver_35 : decode prog_1_method_37_code 35 = .ok (.iconst 2, 1) := by decide +kernel
theorem d_Table_handOver_36 : decode prog_1_method_37_code 36 = .ok (.invokevirtual 256, 3) := by decide +kernel
theorem d_Table_handOver_39 : decode prog_1_method_37_code 39 = .ok (.aload_n 0, 1) := by decide +kernel
theorem d_Table_handOver_40 : decode prog_1_method_37_code 40 = .ok (.invokevirtual 114, 3) := by decide +kernel
theorem d_Table_handOver_43 : decode prog_1_method_37_code 43 = .ok (.return_, 1) := by decide +kernel
theorem d_Table_handOver_44 : decode prog_1_method_37_code 44 = .ok (.aload_n 0, 1) := by decide +kernel
theorem d_Table_handOver_45 : decode prog_1_method_37_code 45 = .ok (.iconst 2, 1) := by decide +kernel
theorem d_Table_handOver_46 : decode prog_1_method_37_code 46 = .ok (.invokevirtual 241, 3) := by decide +kernel
theorem d_Table_handOver_49 : decode prog_1_method_37_code 49 = .ok (.istore_n 1, 1) := by decide +kernel
theorem d_Table_handOver_50 : decode prog_1_method_37_code 50 = .ok (.iload_n 1, 1) := by decide +kernel
theorem d_Table_handOver_51 : decode prog_1_method_37_code 51 = .ok (.iconst (-1), 1) := by decide +kernel
theorem d_Table_handOver_52 : decode prog_1_method_37_code 52 = .ok (.if_icmp .eq 32, 3) := by decide +kernel
theorem d_Table_handOver_55 : decode prog_1_method_37_code 55 = .ok (.aload_n 0, 1) := by decide +kernel
theorem d_Table_handOver_56 : decode prog_1_method_37_code 56 = .ok (.getfield 11, 3) := by decide +kernel
theorem d_Table_handOver_59 : decode prog_1_method_37_code 59 = .ok (.iload_n 1, 1) := by decide +kernel
theorem d_Table_handOver_60 : decode prog_1_method_37_code 60 = .ok (.aaload, 1) := by decide +kernel
theorem d_Table_handOver_61 : decode prog_1_method_37_code 61 = .ok (.getfield 52, 3) := by decide +kernel
theorem d_Table_handOver_64 : decode prog_1_method_37_code 64 = .ok (.aload_n 0, 1) := by decide +kernel
theorem d_Table_handOver_65 : decode prog_1_method_37_code 65 = .ok (.getfield 26, 3) := by decide +kernel
theorem d_Table_handOver_68 : decode prog_1_method_37_code 68 = .ok (.dup2, 1) := by decide +kernel
theorem d_Table_handOver_69 : decode prog_1_method_37_code 69 = .ok (.iaload, 1) := by decide +kernel
theorem d_Table_handOver_70 : decode prog_1_method_37_code 70 = .ok (.iconst 2, 1) := by decide +kernel
theorem d_Table_handOver_71 : decode prog_1_method_37_code 71 = .ok (.isub, 1) := by decide +kernel
theorem d_Table_handOver_72 : decode prog_1_method_37_code 72 = .ok (.iastore, 1) := by decide +kernel
theorem d_Table_handOver_73 : decode prog_1_method_37_code 73 = .ok (.aload_n 0, 1) := by decide +kernel
theorem d_Table_handOver_74 : decode prog_1_method_37_code 74 = .ok (.iload_n 1, 1) := by decide +kernel
theorem d_Table_handOver_75 : decode prog_1_method_37_code 75 = .ok (.aload_n 0, 1) := by decide +kernel
theorem d_Table_handOver_76 : decode prog_1_method_37_code 76 = .ok (.getfield 26, 3) := by decide +kernel
theorem d_Table_handOver_79 : decode prog_1_method_37_code 79 = .ok (.iconst 1, 1) := by decide +kernel
theorem d_Table_handOver_80 : decode prog_1_method_37_code 80 = .ok (.invokevirtual 256, 3) := by decide +kernel
theorem d_Table_handOver_83 : decode prog_1_method_37_code 83 = .ok (.return_, 1) := by decide +kernel
theorem d_Table_handOver_84 : decode prog_1_method_37_code 84 = .ok (.aload_n 0, 1) := by decide +kernel
theorem d_Table_handOver_85 : decode prog_1_method_37_code 85 = .ok (.iconst 1, 1) := by decide +kernel
theorem d_Table_handOver_86 : decode prog_1_method_37_code 86 = .ok (.invokevirtual 241, 3) := by decide +kernel
theorem d_Table_handOver_89 : decode prog_1_method_37_code 89 = .ok (.istore_n 1, 1) := by decide +kernel
theorem d_Table_handOver_90 : decode prog_1_method_37_code 90 = .ok (.iload_n 1, 1) := by decide +kernel
theorem d_Table_handOver_91 : decode prog_1_method_37_code 91 = .ok (.iconst (-1), 1) := by decide +kernel
theorem d_Table_handOver_92 : decode prog_1_method_37_code 92 = .ok (.if_icmp .eq 41, 3) := by decide +kernel
theorem d_Table_handOver_95 : decode prog_1_method_37_code 95 = .ok (.aload_n 0, 1) := by decide +kernel
theorem d_Table_handOver_96 : decode prog_1_method_37_code 96 = .ok (.getfield 11, 3) := by decide +kernel
theorem d_Table_handOver_99 : decode prog_1_method_37_code 99 = .ok (.iload_n 1, 1) := by decide +kernel
theorem d_Table_handOver_100 : decode prog_1_method_37_code 100 = .ok (.aaload, 1) := by decide +kernel
theorem d_Table_handOver_101 : decode prog_1_method_37_code 101 = .ok (.aload_n 0, 1) := by decide +kernel
theorem d_Table_handOver_102 : decode prog_1_method_37_code 102 = .ok (.getfield 11, 3) := by decide +kernel
theorem d_Table_handOver_105 : decode prog_1_method_37_code 105 = .ok (.iload_n 1, 1) := by decide +kernel
theorem d_Table_handOver_106 : decode prog_1_method_37_code 106 = .ok (.aaload, 1) := by decide +kernel
theorem d_Table_handOver_107 : decode prog_1_method_37_code 107 = .ok (.getfield 182, 3) := by decide +kernel
theorem d_Table_handOver_110 : decode prog_1_method_37_code 110 = .ok (.aload_n 0, 1) := by decide +kernel
theorem d_Table_handOver_111 : decode prog_1_method_37_code 111 = .ok (.getfield 26, 3) := by decide +kernel
theorem d_Table_handOver_114 : decode prog_1_method_37_code 114 = .ok (.invokevirtual 260, 3) := by decide +kernel
theorem d_Table_handOver_117 : decode prog_1_method_37_code 117 = .ok (.aload_n 0, 1) := by decide +kernel
theorem d_Table_handOver_118 : decode prog_1_method_37_code 118 = .ok (.iload_n 1, 1) := by decide +kernel
theorem d_Table_handOver_119 : decode prog_1_method_37_code 119 = .ok (.aload_n 0, 1) := by decide +kernel
theorem d_Table_handOver_120 : decode prog_1_method_37_code 120 = .ok (.getfield 11, 3) := by decide +kernel
theorem d_Table_handOver_123 : decode prog_1_method_37_code 123 = .ok (.iload_n 1, 1) := by decide +kernel
theorem d_Table_handOver_124 : decode prog_1_method_37_code 124 = .ok (.aaload, 1) := by decide +kernel
theorem d_Table_handOver_125 : decode prog_1_method_37_code 125 = .ok (.getfield 182, 3) := by decide +kernel
theorem d_Table_handOver_128 : decode prog_1_method_37_code 128 = .ok (.iconst 0, 1) := by decide +kernel
theorem d_Table_handOver_129 : decode prog_1_method_37_code 129 = .ok (.invokevirtual 256, 3) := by decide +kernel
theorem d_Table_handOver_132 : decode prog_1_method_37_code 132 = .ok (.return_, 1) := by decide +kernel
theorem d_Table_handOver_133 : decode prog_1_method_37_code 133 = .ok (.aload_n 0, 1) := by decide +kernel
theorem d_Table_handOver_134 : decode prog_1_method_37_code 134 = .ok (.getfield 34, 3) := by decide +kernel
theorem d_Table_handOver_137 : decode prog_1_method_37_code 137 = .ok (.invokevirtual 106, 3) := by decide +kernel
theorem d_Table_handOver_140 : decode prog_1_method_37_code 140 = .ok (.ifCond .ne 10, 3) := by decide +kernel
theorem d_Table_handOver_143 : decode prog_1_method_37_code 143 = .ok (.aload_n 0, 1) := by decide +kernel
theorem d_Table_handOver_144 : decode prog_1_method_37_code 144 = .ok (.invokevirtual 263, 3) := by decide +kernel
theorem d_Table_handOver_147 : decode prog_1_method_37_code 147 = .ok (.goto 15, 3) := by decide +kernel
theorem d_Table_handOver_150 : decode prog_1_method_37_code 150 = .ok (.aload_n 0, 1) := by decide +kernel
theorem d_Table_handOver_151 : decode prog_1_method_37_code 151 = .ok (.aload_n 0, 1) := by decide +kernel
theorem d_Table_handOver_152 : decode prog_1_method_37_code 152 = .ok (.getfield 71, 3) := by decide +kernel
theorem d_Table_handOver_155 : decode prog_1_method_37_code 155 = .ok (.iconst 1, 1) := by decide +kernel
theorem d_Table_handOver_156 : decode prog_1_method_37_code 156 = .ok (.iadd, 1) := by decide +kernel
theorem d_Table_handOver_157 : decode prog_1_method_37_code 157 = .ok (.iconst 4, 1) := by decide +kernel
theorem d_Table_handOver_158 : decode prog_1_method_37_code 158 = .ok (.irem, 1) := by decide +kernel
theorem d_Table_handOver_159 : decode prog_1_method_37_code 159 = .ok (.invokevirtual 64, 3) := by decide +kernel
theorem d_Table_handOver_162 : decode prog_1_method_37_code 162 = .ok (.return_, 1) := by decide +kernel
theorem d_Table_noteMissed_0 : decode prog_1_method_34_code 0 = .ok (.iconst 0, 1) := by decide +kernel
theorem d_Table_noteMissed_1 : decode prog_1_method_34_code 1 = .ok (.istore_n 1, 1) := by decide +kernel
theorem d_Table_noteMissed_2 : decode prog_1_method_34_code 2 = .ok (.iload_n 1, 1) := by decide +kernel
theorem d_Table_noteMissed_3 : decode prog_1_method_34_code 3 = .ok (.iconst 4, 1) := by decide +kernel
theorem d_Table_noteMissed_4 : decode prog_1_method_34_code 4 = .ok (.if_icmp .ge 48, 3) := by decide +kernel
theorem d_Table_noteMissed_7 : decode prog_1_method_34_code 7 = .ok (.aload_n 0, 1) := by decide +kernel
theorem d_Table_noteMissed_8 : decode prog_1_method_34_code 8 = .ok (.getfield 11, 3) := by decide +kernel
theorem d_Table_noteMissed_11 : decode prog_1_method_34_code 11 = .ok (.iload_n 1, 1) := by decide +kernel
theorem d_Table_noteMissed_12 : decode prog_1_method_34_code 12 = .ok (.aaload, 1) := by decide +kernel
theorem d_Table_noteMissed_13 : decode prog_1_method_34_code 13 = .ok (.getfield 179, 3) := by decide +kernel
theorem d_Table_noteMissed_16 : decode prog_1_method_34_code 16 = .ok (.iconst 4, 1) := by decide +kernel
theorem d_Table_noteMissed_17 : decode prog_1_method_34_code 17 = .ok (.if_icmp .eq 29, 3) := by decide +kernel
theorem d_Table_noteMissed_20 : decode prog_1_method_34_code 20 = .ok (.aload_n 0, 1) := by decide +kernel
theorem d_Table_noteMissed_21 : decode prog_1_method_34_code 21 = .ok (.getfield 11, 3) := by decide +kernel
theorem d_Table_noteMissed_24 : decode prog_1_method_34_code 24 = .ok (.iload_n 1, 1) := by decide +kernel
theorem d_Table_noteMissed_25 : decode prog_1_method_34_code 25 = .ok (.aaload, 1) := by decide +kernel
theorem d_Table_noteMissed_26 : decode prog_1_method_34_code 26 = .ok (.aload_n 0, 1) := by decide +kernel
theorem d_Table_noteMissed_27 : decode prog_1_method_34_code 27 = .ok (.getfield 26, 3) := by decide +kernel
theorem d_Table_noteMissed_30 : decode prog_1_method_34_code 30 = .ok (.invokevirtual 232, 3) := by decide +kernel
theorem d_Table_noteMissed_33 : decode prog_1_method_34_code 33 = .ok (.ifCond .eq 13, 3) := by decide +kernel
theorem d_Table_noteMissed_36 : decode prog_1_method_34_code 36 = .ok (.aload_n 0, 1) := by decide +kernel
theorem d_Table_noteMissed_37 : decode prog_1_method_34_code 37 = .ok (.getfield 11, 3) := by decide +kernel
theorem d_Table_noteMissed_40 : decode prog_1_method_34_code 40 = .ok (.iload_n 1, 1) := by decide +kernel
theorem d_Table_noteMissed_41 : decode prog_1_method_34_code 41 = .ok (.aaload, 1) := by decide +kernel
theorem d_Table_noteMissed_42 : decode prog_1_method_34_code 42 = .ok (.iconst 1, 1) := by decide +kernel
theorem d_Table_noteMissed_43 : decode prog_1_method_34_code 43 = .ok (.putfield 253, 3) := by decide +kernel
theorem d_Table_noteMissed_46 : decode prog_1_method_34_code 46 = .ok (.iinc 1 1, 3) := by decide +kernel
theorem d_Table_noteMissed_49 : decode prog_1_method_34_code 49 = .ok (.goto (-47), 3) := by decide +kernel
theorem d_Table_noteMissed_52 : decode prog_1_method_34_code 52 = .ok (.return_, 1) := by decide +kernel
theorem d_Table_toHundreds_0 : decode prog_1_method_25_code 0 = .ok (.iload_n 0, 1) := by decide +kernel
theorem d_Table_toHundreds_1 : decode prog_1_method_25_code 1 = .ok (.bipush 99, 2) := by decide +kernel
theorem d_Table_toHundreds_3 : decode prog_1_method_25_code 3 = .ok (.iadd, 1) := by decide +kernel
theorem d_Table_toHundreds_4 : decode prog_1_method_25_code 4 = .ok (.bipush 100, 2) := by decide +kernel
theorem d_Table_toHundreds_6 : decode prog_1_method_25_code 6 = .ok (.idiv, 1) := by decide +kernel
theorem d_Table_toHundreds_7 : decode prog_1_method_25_code 7 = .ok (.bipush 100, 2) := by decide +kernel
theorem d_Table_toHundreds_9 : decode prog_1_method_25_code 9 = .ok (.imul, 1) := by decide +kernel
theorem d_Table_toHundreds_10 : decode prog_1_method_25_code 10 = .ok (.ireturn, 1) := by decide +kernel
theorem d_Table_payForTile_0 : decode prog_1_method_48_code 0 = .ok (.iconst 0, 1) := by decide +kernel
theorem d_Table_payForTile_1 : decode prog_1_method_48_code 1 = .ok (.istore_n 1, 1) := by decide +kernel
theorem d_Table_payForTile_2 : decode prog_1_method_48_code 2 = .ok (.aload_n 0, 1) := by decide +kernel
theorem d_Table_payForTile_3 : decode prog_1_method_48_code 3 = .ok (.invokevirtual 146, 3) := by decide +kernel
theorem d_Table_payForTile_6 : decode prog_1_method_48_code 6 = .ok (.istore_n 2, 1) := by decide +kernel
theorem d_Table_payForTile_7 : decode prog_1_method_48_code 7 = .ok (.sipush 300, 3) := by decide +kernel
theorem d_Table_payForTile_10 : decode prog_1_method_48_code 10 = .ok (.aload_n 0, 1) := by decide +kernel
theorem d_Table_payForTile_11 : decode prog_1_method_48_code 11 = .ok (.getfield 153, 3) := by decide +kernel
theorem d_Table_payForTile_14 : decode prog_1_method_48_code 14 = .ok (.imul, 1) := by decide +kernel
theorem d_Table_payForTile_15 : decode prog_1_method_48_code 15 = .ok (.istore_n 3, 1) := by decide +kernel
theorem d_Table_payForTile_16 : decode prog_1_method_48_code 16 = .ok (.iconst 1, 1) := by decide +kernel
theorem d_Table_payForTile_17 : decode prog_1_method_48_code 17 = .ok (.istore 4, 2) := by decide +kernel
theorem d_Table_payForTile_19 : decode prog_1_method_48_code 19 = .ok (.iload 4, 2) := by decide +kernel
theorem d_Table_payForTile_21 : decode prog_1_method_48_code 21 = .ok (.iconst 4, 1) := by decide +kernel
theorem d_Table_payForTile_22 : decode prog_1_method_48_code 22 = .ok (.if_icmp .ge 167, 3) := by decide +kernel
theorem d_Table_payForTile_25 : decode prog_1_method_48_code 25 = .ok (.aload_n 0, 1) := by decide +kernel
theorem d_Table_payForTile_26 : decode prog_1_method_48_code 26 = .ok (.getfield 71, 3) := by decide +kernel
theorem d_Table_payForTile_29 : decode prog_1_method_48_code 29 = .ok (.iload 4, 2) := by decide +kernel
theorem d_Table_payForTile_31 : decode prog_1_method_48_code 31 = .ok (.iadd, 1) := by decide +kernel
theorem d_Table_payForTile_32 : decode prog_1_method_48_code 32 = .ok (.iconst 4, 1) := by decide +kernel
theorem d_Table_payForTile_33 : decode prog_1_method_48_code 33 = .ok (.irem, 1) := by decide +kernel
theorem d_Table_payForTile_34 : decode prog_1_method_48_code 34 = .ok (.istore 5, 2) := by decide +kernel
theorem d_Table_payForTile_36 : decode prog_1_method_48_code 36 = .ok (.aload_n 0, 1) := by decide +kernel
theorem d_Table_payForTile_37 : decode prog_1_method_48_code 37 = .ok (.getfield 11, 3) := by decide +kernel
theorem d_Table_payForTile_40 : decode prog_1_method_48_code 40 = .ok (.iload 5, 2) := by decide +kernel
theorem d_Table_payForTile_42 : decode prog_1_method_48_code 42 = .ok (.aaload, 1) := by decide +kernel
theorem d_Table_payForTile_43 : decode prog_1_method_48_code 43 = .ok (.astore 6, 2) := by decide +kernel
theorem d_Table_payForTile_45 : decode prog_1_method_48_code 45 = .ok (.aload 6, 2) := by decide +kernel
theorem d_Table_payForTile_47 : decode prog_1_method_48_code 47 = .ok (.getfield 179, 3) := by decide +kernel
theorem d_Table_payForTile_50 : decode prog_1_method_48_code 50 = .ok (.iconst 4, 1) := by decide +kernel
theorem d_Table_payForTile_51 : decode prog_1_method_48_code 51 = .ok (.if_icmp .ne 132, 3) := by decide +kernel
theorem d_Table_payForTile_54 : decode prog_1_method_48_code 54 = .ok (.aload_n 0, 1) := by decide +kernel
theorem d_Table_payForTile_55 : decode prog_1_method_48_code 55 = .ok (.iload 5, 2) := by decide +kernel
theorem d_Table_payForTile_57 : decode prog_1_method_48_code 57 = .ok (.iconst 0, 1) := by decide +kernel
theorem d_Table_payForTile_58 : decode prog_1_method_48_code 58 = .ok (.invokevirtual 123, 3) := by decide +kernel
theorem d_Table_payForTile_61 : decode prog_1_method_48_code 61 = .ok (.aload_n 0, 1) := by decide +kernel
theorem d_Table_payForTile_62 : decode prog_1_method_48_code 62 = .ok (.getfield 18, 3) := by decide +kernel
theorem d_Table_payForTile_65 : decode prog_1_method_48_code 65 = .ok (.invokevirtual 127, 3) := by decide +kernel
theorem d_Table_payForTile_68 : decode prog_1_method_48_code 68 = .ok (.pop, 1) := by decide +kernel
theorem d_Table_payForTile_69 : decode prog_1_method_48_code 69 = .ok (.aload 6, 2) := by decide +kernel
theorem d_Table_payForTile_71 : decode prog_1_method_48_code 71 = .ok (.getfield 130, 3) := by decide +kernel
theorem d_Table_payForTile_74 : decode prog_1_method_48_code 74 = .ok (.aload_n 0, 1) := by decide +kernel
theorem d_Table_payForTile_75 : decode prog_1_method_48_code 75 = .ok (.getfield 18, 3) := by decide +kernel
theorem d_Table_payForTile_78 : decode prog_1_method_48_code 78 = .ok (.getfield 134, 3) := by decide +kernel
theorem d_Table_payForTile_81 : decode prog_1_method_48_code 81 = .ok (.invokevirtual 137, 3) := by decide +kernel
theorem d_Table_payForTile_84 : decode prog_1_method_48_code 84 = .ok (.iload 5, 2) := by decide +kernel
theorem d_Table_payForTile_86 : decode prog_1_method_48_code 86 = .ok (.aload_n 0, 1) := by decide +kernel
theorem d_Table_payForTile_87 : decode prog_1_method_48_code 87 = .ok (.getfield 46, 3) := by decide +kernel
theorem d_Table_payForTile_90 : decode prog_1_method_48_code 90 = .ok (.if_icmp .ne 8, 3) := by decide +kernel
theorem d_Table_payForTile_93 : decode prog_1_method_48_code 93 = .ok (.bipush 6, 2) := by decide +kernel
theorem d_Table_payForTile_95 : decode prog_1_method_48_code 95 = .ok (.goto 4, 3) := by decide +kernel
theorem d_Table_payForTile_98 : decode prog_1_method_48_code 98 = .ok (.iconst 4, 1) := by decide +kernel
theorem d_Table_payForTile_99 : decode prog_1_method_48_code 99 = .ok (.aload 6, 2) := by decide +kernel
theorem d_Table_payForTile_101 : decode prog_1_method_48_code 101 = .ok (.getfield 130, 3) := by decide +kernel
theorem d_Table_payForTile_104 : decode prog_1_method_48_code 104 = .ok (.getfield 143, 3) := by decide +kernel
theorem d_Table_payForTile_107 : decode prog_1_method_48_code 107 = .ok (.imul, 1) := by decide +kernel
theorem d_Table_payForTile_108 : decode prog_1_method_48_code 108 = .ok (.invokestatic 149, 3) := by decide +kernel
theorem d_Table_payForTile_111 : decode prog_1_method_48_code 111 = .ok (.iload_n 3, 1) := by decide +kernel
theorem d_Table_payForTile_112 : decode prog_1_method_48_code 112 = .ok (.iadd, 1) := by decide +kernel
theorem d_Table_payForTile_113 : decode prog_1_method_48_code 113 = .ok (.istore 7, 2) := by decide +kernel
theorem d_Table_payForTile_115 : decode prog_1_method_48_code 115 = .ok (.aload_n 0, 1) := by decide +kernel
theorem d_Table_payForTile_116 : decode prog_1_method_48_code 116 = .ok (.getfield 11, 3) := by decide +kernel
theorem d_Table_payForTile_119 : decode prog_1_method_48_code 119 = .ok (.aload_n 0, 1) := by decide +kernel
theorem d_Table_payForTile_120 : decode prog_1_method_48_code 120 = .ok (.getfield 71, 3) := by decide +kernel
theorem d_Table_payForTile_123 : decode prog_1_method_48_code 123 = .ok (.aaload, 1) := by decide +kernel
theorem d_Table_payForTile_124 : decode prog_1_method_48_code 124 = .ok (.dup, 1) := by decide +kernel
theorem d_Table_payForTile_125 : decode prog_1_method_48_code 125 = .ok (.getfield 156, 3) := by decide +kernel
theorem d_Table_payForTile_128 : decode prog_1_method_48_code 128 = .ok (.iload 7, 2) := by decide +kernel
theorem d_Table_payForTile_130 : decode prog_1_method_48_code 130 = .ok (.isub, 1) := by decide +kernel
theorem d_Table_payForTile_131 : decode prog_1_method_48_code 131 = .ok (.putfield 156, 3) := by decide +kernel
theorem d_Table_payForTile_134 : decode prog_1_method_48_code 134 = .ok (.aload 6, 2) := by decide +kernel
theorem d_Table_payForTile_136 : decode prog_1_method_48_code 136 = .ok (.dup, 1) := by decide +kernel
theorem d_Table_payForTile_137 : decode prog_1_method_48_code 137 = .ok (.getfield 156, 3) := by decide +kernel
theorem d_Table_payForTile_140 : decode prog_1_method_48_code 140 = .ok (.iload 7, 2) := by decide +kernel
theorem d_Table_payForTile_142 : decode prog_1_method_48_code 142 = .ok (.iload_n 2, 1) := by decide +kernel
theorem d_Table_payForTile_143 : decode prog_1_method_48_code 143 = .ok (.iadd, 1) := by decide +kernel
theorem d_Table_payForTile_144 : decode prog_1_method_48_code 144 = .ok (.iadd, 1) := by decide +kernel
theorem d_Table_payForTile_145 : decode prog_1_method_48_code 145 = .ok (.putfield 156, 3) := by decide +kernel
theorem d_Table_payForTile_148 : decode prog_1_method_48_code 148 = .ok (.aload 6, 2) := by decide +kernel
theorem d_Table_payForTile_150 : decode prog_1_method_48_code 150 = .ok (.getfield 130, 3) := by decide +kernel
theorem d_Table_payForTile_153 : decode prog_1_method_48_code 153 = .ok (.iload 7, 2) := by decide +kernel
theorem d_Table_payForTile_155 : decode prog_1_method_48_code 155 = .ok (.iload_n 2, 1) := by decide +kernel
theorem d_Table_payForTile_156 : decode prog_1_method_48_code 156 = .ok (.iadd, 1) := by decide +kernel
theorem d_Table_payForTile_157 : decode prog_1_method_48_code 157 = .ok (.putfield 159, 3) := by decide +kernel
theorem d_Table_payForTile_160 : decode prog_1_method_48_code 160 = .ok (.iload_n 1, 1) := by decide +kernel
theorem d_Table_payForTile_161 : decode prog_1_method_48_code 161 = .ok (.ifCond .ne 12, 3) := by decide +kernel
theorem d_Table_payForTile_164 : decode prog_1_method_48_code 164 = .ok (.iload 5, 2) := by decide +kernel
theorem d_Table_payForTile_166 : decode prog_1_method_48_code 166 = .ok (.aload_n 0, 1) := by decide +kernel
theorem d_Table_payForTile_167 : decode prog_1_method_48_code 167 = .ok (.getfield 46, 3) := by decide +kernel
theorem d_Table_payForTile_170 : decode prog_1_method_48_code 170 = .ok (.if_icmp .ne 7, 3) := by decide +kernel
theorem d_Table_payForTile_173 : decode prog_1_method_48_code 173 = .ok (.iconst 1, 1) := by decide +kernel
theorem d_Table_payForTile_174 : decode prog_1_method_48_code 174 = .ok (.goto 4, 3) := by decide +kernel
theorem d_Table_payForTile_177 : decode prog_1_method_48_code 177 = .ok (.iconst 0, 1) := by decide +kernel
theorem d_Table_payForTile_178 : decode prog_1_method_48_code 178 = .ok (.istore_n 1, 1) := by decide +kernel
theorem d_Table_payForTile_179 : decode prog_1_method_48_code 179 = .ok (.iconst 0, 1) := by decide +kernel
theorem d_Table_payForTile_180 : decode prog_1_method_48_code 180 = .ok (.istore_n 3, 1) := by decide +kernel
theorem d_Table_payForTile_181 : decode prog_1_method_48_code 181 = .ok (.iconst 0, 1) := by decide +kernel
theorem d_Table_payForTile_182 : decode prog_1_method_48_code 182 = .ok (.istore_n 2, 1) := by decide +kernel
theorem d_Table_payForTile_183 : decode prog_1_method_48_code 183 = .ok (.iinc 4 1, 3) := by decide +kernel
theorem d_Table_payForTile_186 : decode prog_1_method_48_code 186 = .ok (.goto (-167), 3) := by decide +kernel
theorem d_Table_payForTile_189 : decode prog_1_method_48_code 189 = .ok (.aload_n 0, 1) := by decide +kernel
theorem d_Table_payForTile_190 : decode prog_1_method_48_code 190 = .ok (.iload_n 1, 1) := by decide +kernel
theorem d_Table_payForTile_191 : decode prog_1_method_48_code 191 = .ok (.iconst 0, 1) := by decide +kernel
theorem d_Table_payForTile_192 : decode prog_1_method_48_code 192 = .ok (.invokevirtual 162, 3) := by decide +kernel
theorem d_Table_payForTile_195 : decode prog_1_method_48_code 195 = .ok (.return_, 1) := by decide +kernel
theorem d_Table_payStick_0 : decode prog_1_method_36_code 0 = .ok (.aload_n 0, 1) := by decide +kernel
theorem d_Table_payStick_1 : decode prog_1_method_36_code 1 = .ok (.getfield 90, 3) := by decide +kernel
theorem d_Table_payStick_4 : decode prog_1_method_36_code 4 = .ok (.ifCond .eq 33, 3) := by decide +kernel
theorem d_Table_payStick_7 : decode prog_1_method_36_code 7 = .ok (.aload_n 0, 1) := by decide +kernel
theorem d_Table_payStick_8 : decode prog_1_method_36_code 8 = .ok (.getfield 11, 3) := by decide +kernel
theorem d_Table_payStick_11 : decode prog_1_method_36_code 11 = .ok (.aload_n 0, 1) := by decide +kernel
theorem d_Table_payStick_12 : decode prog_1_method_36_code 12 = .ok (.getfield 71, 3) := by decide +kernel
theorem d_Table_payStick_15 : decode prog_1_method_36_code 15 = .ok (.aaload, 1) := by decide +kernel
theorem d_Table_payStick_16 : decode prog_1_method_36_code 16 = .ok (.dup, 1) := by decide +kernel
theorem d_Table_payStick_17 : decode prog_1_method_36_code 17 = .ok (.getfield 156, 3) := by decide +kernel
theorem d_Table_payStick_20 : decode prog_1_method_36_code 20 = .ok (.sipush 1000, 3) := by decide +kernel
theorem d_Table_payStick_23 : decode prog_1_method_36_code 23 = .ok (.isub, 1) := by decide +kernel
theorem d_Table_payStick_24 : decode prog_1_method_36_code 24 = .ok (.putfield 156, 3) := by decide +kernel
theorem d_Table_payStick_27 : decode prog_1_method_36_code 27 = .ok (.aload_n 0, 1) := by decide +kernel
theorem d_Table_payStick_28 : decode prog_1_method_36_code 28 = .ok (.dup, 1) := by decide +kernel
theorem d_Table_payStick_29 : decode prog_1_method_36_code 29 = .ok (.getfield 210, 3) := by decide +kernel
theorem d_Table_payStick_32 : decode prog_1_method_36_code 32 = .ok (.iconst 1, 1) := by decide +kernel
theorem d_Table_payStick_33 : decode prog_1_method_36_code 33 = .ok (.iadd, 1) := by decide +kernel
theorem d_Table_payStick_34 : decode prog_1_method_36_code 34 = .ok (.putfield 210, 3) := by decide +kernel
theorem d_Table_payStick_37 : decode prog_1_method_36_code 37 = .ok (.return_, 1) := by decide +kernel
theorem d_Table_settle_0 : decode prog_1_method_33_code 0 = .ok (.aload_n 0, 1) := by decide +kernel
theorem d_Table_settle_1 : decode prog_1_method_33_code 1 = .ok (.invokevirtual 238, 3) := by decide +kernel
theorem d_Table_settle_4 : decode prog_1_method_33_code 4 = .ok (.aload_n 0, 1) := by decide +kernel
theorem d_Table_settle_5 : decode prog_1_method_33_code 5 = .ok (.iconst 4, 1) := by decide +kernel
theorem d_Table_settle_6 : decode prog_1_method_33_code 6 = .ok (.invokevirtual 241, 3) := by decide +kernel
theorem d_Table_settle_9 : decode prog_1_method_33_code 9 = .ok (.iconst (-1), 1) := by decide +kernel
theorem d_Table_settle_10 : decode prog_1_method_33_code 10 = .ok (.if_icmp .eq 10, 3) := by decide +kernel
theorem d_Table_settle_13 : decode prog_1_method_33_code 13 = .ok (.aload_n 0, 1) := by decide +kernel
theorem d_Table_settle_14 : decode prog_1_method_33_code 14 = .ok (.invokevirtual 244, 3) := by decide +kernel
theorem d_Table_settle_17 : decode prog_1_method_33_code 17 = .ok (.goto 25, 3) := by decide +kernel
theorem d_Table_settle_20 : decode prog_1_method_33_code 20 = .ok (.aload_n 0, 1) := by decide +kernel
theorem d_Table_settle_21 : decode prog_1_method_33_code 21 = .ok (.getfield 93, 3) := by decide +kernel
theorem d_Table_settle_24 : decode prog_1_method_33_code 24 = .ok (.ifCond .eq 10, 3) := by decide +kernel
theorem d_Table_settle_27 : decode prog_1_method_33_code 27 = .ok (.aload_n 0, 1) := by decide +kernel
theorem d_Table_settle_28 : decode prog_1_method_33_code 28 = .ok (.invokevirtual 120, 3) := by decide +kernel
theorem d_Table_settle_31 : decode prog_1_method_33_code 31 = .ok (.goto 11, 3) := by decide +kernel
theorem d_Table_settle_34 : decode prog_1_method_33_code 34 = .ok (.aload_n 0, 1) := by decide +kernel
theorem d_Table_settle_35 : decode prog_1_method_33_code 35 = .ok (.invokevirtual 247, 3) := by decide +kernel
theorem d_Table_settle_38 : decode prog_1_method_33_code 38 = .ok (.aload_n 0, 1) := by decide +kernel
theorem d_Table_settle_39 : decode prog_1_method_33_code 39 = .ok (.invokevirtual 250, 3) := by decide +kernel
theorem d_Table_settle_42 : decode prog_1_method_33_code 42 = .ok (.return_, 1) := by decide +kernel
theorem d_Table_discard_0 : decode prog_1_method_4_code 0 = .ok (.aload_n 0, 1) := by decide +kernel
theorem d_Table_discard_1 : decode prog_1_method_4_code 1 = .ok (.getfield 22, 3) := by decide +kernel
theorem d_Table_discard_4 : decode prog_1_method_4_code 4 = .ok (.iconst 1, 1) := by decide +kernel
theorem d_Table_discard_5 : decode prog_1_method_4_code 5 = .ok (.if_icmp .ne 10, 3) := by decide +kernel
theorem d_Table_discard_8 : decode prog_1_method_4_code 8 = .ok (.iload_n 1, 1) := by decide +kernel
theorem d_Table_discard_9 : decode prog_1_method_4_code 9 = .ok (.invokestatic 67, 3) := by decide +kernel
theorem d_Table_discard_12 : decode prog_1_method_4_code 12 = .ok (.ifCond .ne 5, 3) := by decide +kernel
theorem d_Table_discard_15 : decode prog_1_method_4_code 15 = .ok (.iconst (-1), 1) := by decide +kernel
theorem d_Table_discard_16 : decode prog_1_method_4_code 16 = .ok (.ireturn, 1) := by decide +kernel
theorem d_Table_discard_17 : decode prog_1_method_4_code 17 = .ok (.aload_n 0, 1) := by decide +kernel
theorem d_Table_discard_18 : decode prog_1_method_4_code 18 = .ok (.getfield 11, 3) := by decide +kernel
theorem d_Table_discard_21 : decode prog_1_method_4_code 21 = .ok (.aload_n 0, 1) := by decide +kernel
theorem d_Table_discard_22 : decode prog_1_method_4_code 22 = .ok (.getfield 71, 3) := by decide +kernel
theorem d_Table_discard_25 : decode prog_1_method_4_code 25 = .ok (.aaload, 1) := by decide +kernel
theorem d_Table_discard_26 : decode prog_1_method_4_code 26 = .ok (.astore_n 3, 1) := by decide +kernel
theorem d_Table_discard_27 : decode prog_1_method_4_code 27 = .ok (.aload_n 3, 1) := by decide +kernel
theorem d_Table_discard_28 : decode prog_1_method_4_code 28 = .ok (.getfield 52, 3) := by decide +kernel
theorem d_Table_discard_31 : decode prog_1_method_4_code 31 = .ok (.iload_n 1, 1) := by decide +kernel
theorem d_Table_discard_32 : decode prog_1_method_4_code 32 = .ok (.iaload, 1) := by decide +kernel
theorem d_Table_discard_33 : decode prog_1_method_4_code 33 = .ok (.ifCond .eq 18, 3) := by decide +kernel
theorem d_Table_discard_36 : decode prog_1_method_4_code 36 = .ok (.aload_n 3, 1) := by decide +kernel
theorem d_Table_discard_37 : decode prog_1_method_4_code 37 = .ok (.getfield 74, 3) := by decide +kernel
theorem d_Table_discard_40 : decode prog_1_method_4_code 40 = .ok (.ifCond .eq 13, 3) := by decide +kernel
theorem d_Table_discard_43 : decode prog_1_method_4_code 43 = .ok (.iload_n 1, 1) := by decide +kernel
theorem d_Table_discard_44 : decode prog_1_method_4_code 44 = .ok (.aload_n 0, 1) := by decide +kernel
theorem d_Table_discard_45 : decode prog_1_method_4_code 45 = .ok (.getfield 26, 3) := by decide +kernel
theorem d_Table_discard_48 : decode prog_1_method_4_code 48 = .ok (.if_icmp .eq 5, 3) := by decide +kernel
theorem d_Table_discard_51 : decode prog_1_method_4_code 51 = .ok (.iconst (-1), 1) := by decide +kernel
theorem d_Table_discard_52 : decode prog_1_method_4_code 52 = .ok (.ireturn, 1) := by decide +kernel
theorem d_Table_discard_53 : decode prog_1_method_4_code 53 = .ok (.iload_n 2, 1) := by decide +kernel
theorem d_Table_discard_54 : decode prog_1_method_4_code 54 = .ok (.ifCond .eq 14, 3) := by decide +kernel
theorem d_Table_discard_57 : decode prog_1_method_4_code 57 = .ok (.aload_n 0, 1) := by decide +kernel
theorem d_Table_discard_58 : decode prog_1_method_4_code 58 = .ok (.aload_n 3, 1) := by decide +kernel
theorem d_Table_discard_59 : decode prog_1_method_4_code 59 = .ok (.iload_n 1, 1) := by decide +kernel
theorem d_Table_discard_60 : decode prog_1_method_4_code 60 = .ok (.invokevirtual 77, 3) := by decide +kernel
theorem d_Table_discard_63 : decode prog_1_method_4_code 63 = .ok (.ifCond .ne 5, 3) := by decide +kernel
theorem d_Table_discard_66 : decode prog_1_method_4_code 66 = .ok (.iconst (-1), 1) := by decide +kernel
theorem d_Table_discard_67 : decode prog_1_method_4_code 67 = .ok (.ireturn, 1) := by decide +kernel
theorem d_Table_discard_68 : decode prog_1_method_4_code 68 = .ok (.aload_n 3, 1) := by decide +kernel
theorem d_Table_discard_69 : decode prog_1_method_4_code 69 = .ok (.getfield 81, 3) := by decide +kernel
theorem d_Table_discard_72 : decode prog_1_method_4_code 72 = .ok (.ifCond .ne 14, 3) := by decide +kernel
theorem d_Table_discard_75 : decode prog_1_method_4_code 75 = .ok (.aload_n 0, 1) := by decide +kernel
theorem d_Table_discard_76 : decode prog_1_method_4_code 76 = .ok (.getfield 60, 3) := by decide +kernel
theorem d_Table_discard_79 : decode prog_1_method_4_code 79 = .ok (.ifCond .ne 7, 3) := by decide +kernel
theorem d_Table_discard_82 : decode prog_1_method_4_code 82 = .ok (.iconst 2, 1) := by decide +kernel
theorem d_Table_discard_83 : decode prog_1_method_4_code 83 = .ok (.goto 4, 3) := by decide +kernel
theorem d_Table_discard_86 : decode prog_1_method_4_code 86 = .ok (.iconst 1, 1) := by decide +kernel
theorem d_Table_discard_87 : decode prog_1_method_4_code 87 = .ok (.istore 4, 2) := by decide +kernel
theorem d_Table_discard_89 : decode prog_1_method_4_code 89 = .ok (.aload_n 3, 1) := by decide +kernel
theorem d_Table_discard_90 : decode prog_1_method_4_code 90 = .ok (.iload_n 1, 1) := by decide +kernel
theorem d_Table_discard_91 : decode prog_1_method_4_code 91 = .ok (.invokevirtual 84, 3) := by decide +kernel
theorem d_Table_discard_94 : decode prog_1_method_4_code 94 = .ok (.aload_n 3, 1) := by decide +kernel
theorem d_Table_discard_95 : decode prog_1_method_4_code 95 = .ok (.iload_n 2, 1) := by decide +kernel
theorem d_Table_discard_96 : decode prog_1_method_4_code 96 = .ok (.putfield 87, 3) := by decide +kernel
theorem d_Table_discard_99 : decode prog_1_method_4_code 99 = .ok (.iload_n 2, 1) := by decide +kernel
theorem d_Table_discard_100 : decode prog_1_method_4_code 100 = .ok (.ifCond .eq 9, 3) := by decide +kernel
theorem d_Table_discard_103 : decode prog_1_method_4_code 103 = .ok (.aload_n 3, 1) := by decide +kernel
theorem d_Table_discard_104 : decode prog_1_method_4_code 104 = .ok (.iload 4, 2) := by decide +kernel
theorem d_Table_discard_106 : decode prog_1_method_4_code 106 = .ok (.putfield 74, 3) := by decide +kernel
theorem d_Table_discard_109 : decode prog_1_method_4_code 109 = .ok (.aload_n 0, 1) := by decide +kernel
theorem d_Table_discard_110 : decode prog_1_method_4_code 110 = .ok (.iload_n 2, 1) := by decide +kernel
theorem d_Table_discard_111 : decode prog_1_method_4_code 111 = .ok (.putfield 90, 3) := by decide +kernel
theorem d_Table_discard_114 : decode prog_1_method_4_code 114 = .ok (.aload_n 0, 1) := by decide +kernel
theorem d_Table_discard_115 : decode prog_1_method_4_code 115 = .ok (.iload_n 1, 1) := by decide +kernel
theorem d_Table_discard_116 : decode prog_1_method_4_code 116 = .ok (.putfield 26, 3) := by decide +kernel
theorem d_Table_discard_119 : decode prog_1_method_4_code 119 = .ok (.aload_n 0, 1) := by decide +kernel
theorem d_Table_discard_120 : decode prog_1_method_4_code 120 = .ok (.iconst 0, 1) := by decide +kernel
theorem d_Table_discard_121 : decode prog_1_method_4_code 121 = .ok (.putfield 93, 3) := by decide +kernel
theorem d_Table_discard_124 : decode prog_1_method_4_code 124 = .ok (.aload_n 0, 1) := by decide +kernel
theorem d_Table_discard_125 : decode prog_1_method_4_code 125 = .ok (.iconst 2, 1) := by decide +kernel
theorem d_Table_discard_126 : decode prog_1_method_4_code 126 = .ok (.putfield 22, 3) := by decide +kernel
theorem d_Table_discard_129 : decode prog_1_method_4_code 129 = .ok (.aload_n 0, 1) := by decide +kernel
theorem d_Table_discard_130 : decode prog_1_method_4_code 130 = .ok (.invokevirtual 96, 3) := by decide +kernel
theorem d_Table_discard_133 : decode prog_1_method_4_code 133 = .ok (.ifCond .ne 7, 3) := by decide +kernel
theorem d_Table_discard_136 : decode prog_1_method_4_code 136 = .ok (.aload_n 0, 1) := by decide +kernel
theorem d_Table_discard_137 : decode prog_1_method_4_code 137 = .ok (.invokevirtual 100, 3) := by decide +kernel
theorem d_Table_discard_140 : decode prog_1_method_4_code 140 = .ok (.aload_n 0, 1) := by decide +kernel
theorem d_Table_discard_141 : decode prog_1_method_4_code 141 = .ok (.getfield 22, 3) := by decide +kernel
theorem d_Table_discard_144 : decode prog_1_method_4_code 144 = .ok (.ireturn, 1) := by decide +kernel
theorem d_Table_quad_0 : decode prog_1_method_5_code 0 = .ok (.aload_n 0, 1) := by decide +kernel
theorem d_Table_quad_1 : decode prog_1_method_5_code 1 = .ok (.getfield 22, 3) := by decide +kernel
theorem d_Table_quad_4 : decode prog_1_method_5_code 4 = .ok (.iconst 1, 1) := by decide +kernel
theorem d_Table_quad_5 : decode prog_1_method_5_code 5 = .ok (.if_icmp .ne 18, 3) := by decide +kernel
theorem d_Table_quad_8 : decode prog_1_method_5_code 8 = .ok (.iload_n 1, 1) := by decide +kernel
theorem d_Table_quad_9 : decode prog_1_method_5_code 9 = .ok (.invokestatic 67, 3) := by decide +kernel
theorem d_Table_quad_12 : decode prog_1_method_5_code 12 = .ok (.ifCond .eq 11, 3) := by decide +kernel
theorem d_Table_quad_15 : decode prog_1_method_5_code 15 = .ok (.aload_n 0, 1) := by decide +kernel
theorem d_Table_quad_16 : decode prog_1_method_5_code 16 = .ok (.getfield 26, 3) := by decide +kernel
theorem d_Table_quad_19 : decode prog_1_method_5_code 19 = .ok (.iconst (-1), 1) := by decide +kernel
theorem d_Table_quad_20 : decode prog_1_method_5_code 20 = .ok (.if_icmp .ne 5, 3) := by decide +kernel
theorem d_Table_quad_23 : decode prog_1_method_5_code 23 = .ok (.iconst (-1), 1) := by decide +kernel
theorem d_Table_quad_24 : decode prog_1_method_5_code 24 = .ok (.ireturn, 1) := by decide +kernel
theorem d_Table_quad_25 : decode prog_1_method_5_code 25 = .ok (.aload_n 0, 1) := by decide +kernel
theorem d_Table_quad_26 : decode prog_1_method_5_code 26 = .ok (.getfield 11, 3) := by decide +kernel
theorem d_Table_quad_29 : decode prog_1_method_5_code 29 = .ok (.aload_n 0, 1) := by decide +kernel
theorem d_Table_quad_30 : decode prog_1_method_5_code 30 = .ok (.getfield 71, 3) := by decide +kernel
theorem d_Table_quad_33 : decode prog_1_method_5_code 33 = .ok (.aaload, 1) := by decide +kernel
theorem d_Table_quad_34 : decode prog_1_method_5_code 34 = .ok (.astore_n 2, 1) := by decide +kernel
theorem d_Table_quad_35 : decode prog_1_method_5_code 35 = .ok (.aload_n 2, 1) := by decide +kernel
theorem d_Table_quad_36 : decode prog_1_method_5_code 36 = .ok (.getfield 74, 3) := by decide +kernel
theorem d_Table_quad_39 : decode prog_1_method_5_code 39 = .ok (.ifCond .ne 25, 3) := by decide +kernel
theorem d_Table_quad_42 : decode prog_1_method_5_code 42 = .ok (.aload_n 0, 1) := by decide +kernel
theorem d_Table_quad_43 : decode prog_1_method_5_code 43 = .ok (.getfield 34, 3) := by decide +kernel
theorem d_Table_quad_46 : decode prog_1_method_5_code 46 = .ok (.getfield 103, 3) := by decide +kernel
theorem d_Table_quad_49 : decode prog_1_method_5_code 49 = .ok (.iconst 4, 1) := by decide +kernel
theorem d_Table_quad_50 : decode prog_1_method_5_code 50 = .ok (.if_icmp .ge 14, 3) := by decide +kernel
theorem d_Table_quad_53 : decode prog_1_method_5_code 53 = .ok (.aload_n 0, 1) := by decide +kernel
theorem d_Table_quad_54 : decode prog_1_method_5_code 54 = .ok (.getfield 34, 3) := by decide +kernel
theorem d_Table_quad_57 : decode prog_1_method_5_code 57 = .ok (.invokevirtual 106, 3) := by decide +kernel
theorem d_Table_quad_60 : decode prog_1_method_5_code 60 = .ok (.iconst 1, 1) := by decide +kernel
theorem d_Table_quad_61 : decode prog_1_method_5_code 61 = .ok (.if_icmp .ge 5, 3) := by decide +kernel
theorem d_Table_quad_64 : decode prog_1_method_5_code 64 = .ok (.iconst (-1), 1) := by decide +kernel
theorem d_Table_quad_65 : decode prog_1_method_5_code 65 = .ok (.ireturn, 1) := by decide +kernel
theorem d_Table_quad_66 : decode prog_1_method_5_code 66 = .ok (.aload_n 2, 1) := by decide +kernel
theorem d_Table_quad_67 : decode prog_1_method_5_code 67 = .ok (.getfield 52, 3) := by decide +kernel
theorem d_Table_quad_70 : decode prog_1_method_5_code 70 = .ok (.iload_n 1, 1) := by decide +kernel
theorem d_Table_quad_71 : decode prog_1_method_5_code 71 = .ok (.iaload, 1) := by decide +kernel
theorem d_Table_quad_72 : decode prog_1_method_5_code 72 = .ok (.iconst 4, 1) := by decide +kernel
theorem d_Table_quad_73 : decode prog_1_method_5_code 73 = .ok (.if_icmp .ne 25, 3) := by decide +kernel
theorem d_Table_quad_76 : decode prog_1_method_5_code 76 = .ok (.aload_n 2, 1) := by decide +kernel
theorem d_Table_quad_77 : decode prog_1_method_5_code 77 = .ok (.getfield 52, 3) := by decide +kernel
theorem d_Table_quad_80 : decode prog_1_method_5_code 80 = .ok (.iload_n 1, 1) := by decide +kernel
theorem d_Table_quad_81 : decode prog_1_method_5_code 81 = .ok (.iconst 0, 1) := by decide +kernel
theorem d_Table_quad_82 : decode prog_1_method_5_code 82 = .ok (.iastore, 1) := by decide +kernel
theorem d_Table_quad_83 : decode prog_1_method_5_code 83 = .ok (.aload_n 2, 1) := by decide +kernel
theorem d_Table_quad_84 : decode prog_1_method_5_code 84 = .ok (.iload_n 1, 1) := by decide +kernel
theorem d_Table_quad_85 : decode prog_1_method_5_code 85 = .ok (.iconst 3, 1) := by decide +kernel
theorem d_Table_quad_86 : decode prog_1_method_5_code 86 = .ok (.invokevirtual 110, 3) := by decide +kernel
theorem d_Table_quad_89 : decode prog_1_method_5_code 89 = .ok (.aload_n 0, 1) := by decide +kernel
theorem d_Table_quad_90 : decode prog_1_method_5_code 90 = .ok (.invokevirtual 114, 3) := by decide +kernel
theorem d_Table_quad_93 : decode prog_1_method_5_code 93 = .ok (.aload_n 0, 1) := by decide +kernel
theorem d_Table_quad_94 : decode prog_1_method_5_code 94 = .ok (.getfield 22, 3) := by decide +kernel
theorem d_Table_quad_97 : decode prog_1_method_5_code 97 = .ok (.ireturn, 1) := by decide +kernel
theorem d_Table_quad_98 : decode prog_1_method_5_code 98 = .ok (.aload_n 2, 1) := by decide +kernel
theorem d_Table_quad_99 : decode prog_1_method_5_code 99 = .ok (.getfield 52, 3) := by decide +kernel
theorem d_Table_quad_102 : decode prog_1_method_5_code 102 = .ok (.iload_n 1, 1) := by decide +kernel
theorem d_Table_quad_103 : decode prog_1_method_5_code 103 = .ok (.iaload, 1) := by decide +kernel
theorem d_Table_quad_104 : decode prog_1_method_5_code 104 = .ok (.ifCond .eq 11, 3) := by decide +kernel
theorem d_Table_quad_107 : decode prog_1_method_5_code 107 = .ok (.aload_n 2, 1) := by decide +kernel
theorem d_Table_quad_108 : decode prog_1_method_5_code 108 = .ok (.iload_n 1, 1) := by decide +kernel
theorem d_Table_quad_109 : decode prog_1_method_5_code 109 = .ok (.invokevirtual 117, 3) := by decide +kernel
theorem d_Table_quad_112 : decode prog_1_method_5_code 112 = .ok (.ifCond .ne 5, 3) := by decide +kernel
theorem d_Table_quad_115 : decode prog_1_method_5_code 115 = .ok (.iconst (-1), 1) := by decide +kernel
theorem d_Table_quad_116 : decode prog_1_method_5_code 116 = .ok (.ireturn, 1) := by decide +kernel
theorem d_Table_quad_117 : decode prog_1_method_5_code 117 = .ok (.aload_n 2, 1) := by decide +kernel
theorem d_Table_quad_118 : decode prog_1_method_5_code 118 = .ok (.getfield 52, 3) := by decide +kernel
theorem d_Table_quad_121 : decode prog_1_method_5_code 121 = .ok (.iload_n 1, 1) := by decide +kernel
theorem d_Table_quad_122 : decode prog_1_method_5_code 122 = .ok (.dup2, 1) := by decide +kernel
theorem d_Table_quad_123 : decode prog_1_method_5_code 123 = .ok (.iaload, 1) := by decide +kernel
theorem d_Table_quad_124 : decode prog_1_method_5_code 124 = .ok (.iconst 1, 1) := by decide +kernel
theorem d_Table_quad_125 : decode prog_1_method_5_code 125 = .ok (.isub, 1) := by decide +kernel
theorem d_Table_quad_126 : decode prog_1_method_5_code 126 = .ok (.iastore, 1) := by decide +kernel
theorem d_Table_quad_127 : decode prog_1_method_5_code 127 = .ok (.aload_n 0, 1) := by decide +kernel
theorem d_Table_quad_128 : decode prog_1_method_5_code 128 = .ok (.iload_n 1, 1) := by decide +kernel
theorem d_Table_quad_129 : decode prog_1_method_5_code 129 = .ok (.putfield 26, 3) := by decide +kernel
theorem d_Table_quad_132 : decode prog_1_method_5_code 132 = .ok (.aload_n 0, 1) := by decide +kernel
theorem d_Table_quad_133 : decode prog_1_method_5_code 133 = .ok (.iconst 1, 1) := by decide +kernel
theorem d_Table_quad_134 : decode prog_1_method_5_code 134 = .ok (.putfield 93, 3) := by decide +kernel
theorem d_Table_quad_137 : decode prog_1_method_5_code 137 = .ok (.aload_n 0, 1) := by decide +kernel
theorem d_Table_quad_138 : decode prog_1_method_5_code 138 = .ok (.iconst 2, 1) := by decide +kernel
theorem d_Table_quad_139 : decode prog_1_method_5_code 139 = .ok (.putfield 22, 3) := by decide +kernel
theorem d_Table_quad_142 : decode prog_1_method_5_code 142 = .ok (.aload_n 0, 1) := by decide +kernel
theorem d_Table_quad_143 : decode prog_1_method_5_code 143 = .ok (.invokevirtual 96, 3) := by decide +kernel
theorem d_Table_quad_146 : decode prog_1_method_5_code 146 = .ok (.ifCond .ne 7, 3) := by decide +kernel
theorem d_Table_quad_149 : decode prog_1_method_5_code 149 = .ok (.aload_n 0, 1) := by decide +kernel
theorem d_Table_quad_150 : decode prog_1_method_5_code 150 = .ok (.invokevirtual 120, 3) := by decide +kernel
theorem d_Table_quad_153 : decode prog_1_method_5_code 153 = .ok (.aload_n 0, 1) := by decide +kernel
theorem d_Table_quad_154 : decode prog_1_method_5_code 154 = .ok (.getfield 22, 3) := by decide +kernel
theorem d_Table_quad_157 : decode prog_1_method_5_code 157 = .ok (.ireturn, 1) := by decide +kernel
theorem d_Table_win_0 : decode prog_1_method_6_code 0 = .ok (.aload_n 0, 1) := by decide +kernel
theorem d_Table_win_1 : decode prog_1_method_6_code 1 = .ok (.getfield 22, 3) := by decide +kernel
theorem d_Table_win_4 : decode prog_1_method_6_code 4 = .ok (.iconst 1, 1) := by decide +kernel
theorem d_Table_win_5 : decode prog_1_method_6_code 5 = .ok (.if_icmp .ne 11, 3) := by decide +kernel
theorem d_Table_win_8 : decode prog_1_method_6_code 8 = .ok (.aload_n 0, 1) := by decide +kernel
theorem d_Table_win_9 : decode prog_1_method_6_code 9 = .ok (.getfield 26, 3) := by decide +kernel
theorem d_Table_win_12 : decode prog_1_method_6_code 12 = .ok (.iconst (-1), 1) := by decide +kernel
theorem d_Table_win_13 : decode prog_1_method_6_code 13 = .ok (.if_icmp .ne 5, 3) := by decide +kernel
theorem d_Table_win_16 : decode prog_1_method_6_code 16 = .ok (.iconst (-1), 1) := by decide +kernel
theorem d_Table_win_17 : decode prog_1_method_6_code 17 = .ok (.ireturn, 1) := by decide +kernel
theorem d_Table_win_18 : decode prog_1_method_6_code 18 = .ok (.aload_n 0, 1) := by decide +kernel
theorem d_Table_win_19 : decode prog_1_method_6_code 19 = .ok (.aload_n 0, 1) := by decide +kernel
theorem d_Table_win_20 : decode prog_1_method_6_code 20 = .ok (.getfield 71, 3) := by decide +kernel
theorem d_Table_win_23 : decode prog_1_method_6_code 23 = .ok (.iconst 1, 1) := by decide +kernel
theorem d_Table_win_24 : decode prog_1_method_6_code 24 = .ok (.invokevirtual 123, 3) := by decide +kernel
theorem d_Table_win_27 : decode prog_1_method_6_code 27 = .ok (.aload_n 0, 1) := by decide +kernel
theorem d_Table_win_28 : decode prog_1_method_6_code 28 = .ok (.getfield 18, 3) := by decide +kernel
theorem d_Table_win_31 : decode prog_1_method_6_code 31 = .ok (.invokevirtual 127, 3) := by decide +kernel
theorem d_Table_win_34 : decode prog_1_method_6_code 34 = .ok (.ifCond .ne 5, 3) := by decide +kernel
theorem d_Table_win_37 : decode prog_1_method_6_code 37 = .ok (.iconst (-1), 1) := by decide +kernel
theorem d_Table_win_38 : decode prog_1_method_6_code 38 = .ok (.ireturn, 1) := by decide +kernel
theorem d_Table_win_39 : decode prog_1_method_6_code 39 = .ok (.aload_n 0, 1) := by decide +kernel
theorem d_Table_win_40 : decode prog_1_method_6_code 40 = .ok (.getfield 11, 3) := by decide +kernel
theorem d_Table_win_43 : decode prog_1_method_6_code 43 = .ok (.aload_n 0, 1) := by decide +kernel
theorem d_Table_win_44 : decode prog_1_method_6_code 44 = .ok (.getfield 71, 3) := by decide +kernel
theorem d_Table_win_47 : decode prog_1_method_6_code 47 = .ok (.aaload, 1) := by decide +kernel
theorem d_Table_win_48 : decode prog_1_method_6_code 48 = .ok (.astore_n 1, 1) := by decide +kernel
theorem d_Table_win_49 : decode prog_1_method_6_code 49 = .ok (.aload_n 1, 1) := by decide +kernel
theorem d_Table_win_50 : decode prog_1_method_6_code 50 = .ok (.getfield 130, 3) := by decide +kernel
theorem d_Table_win_53 : decode prog_1_method_6_code 53 = .ok (.aload_n 0, 1) := by decide +kernel
theorem d_Table_win_54 : decode prog_1_method_6_code 54 = .ok (.getfield 18, 3) := by decide +kernel
theorem d_Table_win_57 : decode prog_1_method_6_code 57 = .ok (.getfield 134, 3) := by decide +kernel
theorem d_Table_win_60 : decode prog_1_method_6_code 60 = .ok (.invokevirtual 137, 3) := by decide +kernel
theorem d_Table_win_63 : decode prog_1_method_6_code 63 = .ok (.aload_n 1, 1) := by decide +kernel
theorem d_Table_win_64 : decode prog_1_method_6_code 64 = .ok (.getfield 130, 3) := by decide +kernel
theorem d_Table_win_67 : decode prog_1_method_6_code 67 = .ok (.getfield 143, 3) := by decide +kernel
theorem d_Table_win_70 : decode prog_1_method_6_code 70 = .ok (.istore_n 2, 1) := by decide +kernel
theorem d_Table_win_71 : decode prog_1_method_6_code 71 = .ok (.aload_n 0, 1) := by decide +kernel
theorem d_Table_win_72 : decode prog_1_method_6_code 72 = .ok (.invokevirtual 146, 3) := by decide +kernel
theorem d_Table_win_75 : decode prog_1_method_6_code 75 = .ok (.istore_n 3, 1) := by decide +kernel
theorem d_Table_win_76 : decode prog_1_method_6_code 76 = .ok (.iconst 0, 1) := by decide +kernel
theorem d_Table_win_77 : decode prog_1_method_6_code 77 = .ok (.istore 4, 2) := by decide +kernel
theorem d_Table_win_79 : decode prog_1_method_6_code 79 = .ok (.iload 4, 2) := by decide +kernel
theorem d_Table_win_81 : decode prog_1_method_6_code 81 = .ok (.iconst 4, 1) := by decide +kernel
theorem d_Table_win_82 : decode prog_1_method_6_code 82 = .ok (.if_icmp .ge 84, 3) := by decide +kernel
theorem d_Table_win_85 : decode prog_1_method_6_code 85 = .ok (.iload 4, 2) := by decide +kernel
theorem d_Table_win_87 : decode prog_1_method_6_code 87 = .ok (.aload_n 0, 1) := by decide +kernel
theorem d_Table_win_88 : decode prog_1_method_6_code 88 = .ok (.getfield 71, 3) := by decide +kernel
theorem d_Table_win_91 : decode prog_1_method_6_code 91 = .ok (.if_icmp .eq 69, 3) := by decide +kernel
theorem d_Table_win_94 : decode prog_1_method_6_code 94 = .ok (.aload_n 0, 1) := by decide +kernel
theorem d_Table_win_95 : decode prog_1_method_6_code 95 = .ok (.getfield 71, 3) := by decide +kernel
theorem d_Table_win_98 : decode prog_1_method_6_code 98 = .ok (.aload_n 0, 1) := by decide +kernel
theorem d_Table_win_99 : decode prog_1_method_6_code 99 = .ok (.getfield 46, 3) := by decide +kernel
theorem d_Table_win_102 : decode prog_1_method_6_code 102 = .ok (.if_icmp .eq 12, 3) := by decide +kernel
theorem d_Table_win_105 : decode prog_1_method_6_code 105 = .ok (.iload 4, 2) := by decide +kernel
theorem d_Table_win_107 : decode prog_1_method_6_code 107 = .ok (.aload_n 0, 1) := by decide +kernel
theorem d_Table_win_108 : decode prog_1_method_6_code 108 = .ok (.getfield 46, 3) := by decide +kernel
theorem d_Table_win_111 : decode prog_1_method_6_code 111 = .ok (.if_icmp .ne 7, 3) := by decide +kernel
theorem d_Table_win_114 : decode prog_1_method_6_code 114 = .ok (.iconst 2, 1) := by decide +kernel
theorem d_Table_win_115 : decode prog_1_method_6_code 115 = .ok (.goto 4, 3) := by decide +kernel
theorem d_Table_win_118 : decode prog_1_method_6_code 118 = .ok (.iconst 1, 1) := by decide +kernel
theorem d_Table_win_119 : decode prog_1_method_6_code 119 = .ok (.istore 5, 2) := by decide +kernel
theorem d_Table_win_121 : decode prog_1_method_6_code 121 = .ok (.iload 5, 2) := by decide +kernel
theorem d_Table_win_123 : decode prog_1_method_6_code 123 = .ok (.iload_n 2, 1) := by decide +kernel
theorem d_Table_win_124 : decode prog_1_method_6_code 124 = .ok (.imul, 1) := by decide +kernel
theorem d_Table_win_125 : decode prog_1_method_6_code 125 = .ok (.invokestatic 149, 3) := by decide +kernel
theorem d_Table_win_128 : decode prog_1_method_6_code 128 = .ok (.bipush 100, 2) := by decide +kernel
theorem d_Table_win_130 : decode prog_1_method_6_code 130 = .ok (.aload_n 0, 1) := by decide +kernel
theorem d_Table_win_131 : decode prog_1_method_6_code 131 = .ok (.getfield 153, 3) := by decide +kernel
theorem d_Table_win_134 : decode prog_1_method_6_code 134 = .ok (.imul, 1) := by decide +kernel
theorem d_Table_win_135 : decode prog_1_method_6_code 135 = .ok (.iadd, 1) := by decide +kernel
theorem d_Table_win_136 : decode prog_1_method_6_code 136 = .ok (.istore 6, 2) := by decide +kernel
theorem d_Table_win_138 : decode prog_1_method_6_code 138 = .ok (.aload_n 0, 1) := by decide +kernel
theorem d_Table_win_139 : decode prog_1_method_6_code 139 = .ok (.getfield 11, 3) := by decide +kernel
theorem d_Table_win_142 : decode prog_1_method_6_code 142 = .ok (.iload 4, 2) := by decide +kernel
theorem d_Table_win_144 : decode prog_1_method_6_code 144 = .ok (.aaload, 1) := by decide +kernel
theorem d_Table_win_145 : decode prog_1_method_6_code 145 = .ok (.dup, 1) := by decide +kernel
theorem d_Table_win_146 : decode prog_1_method_6_code 146 = .ok (.getfield 156, 3) := by decide +kernel
theorem d_Table_win_149 : decode prog_1_method_6_code 149 = .ok (.iload 6, 2) := by decide +kernel
theorem d_Table_win_151 : decode prog_1_method_6_code 151 = .ok (.isub, 1) := by decide +kernel
theorem d_Table_win_152 : decode prog_1_method_6_code 152 = .ok (.putfield 156, 3) := by decide +kernel
theorem d_Table_win_155 : decode prog_1_method_6_code 155 = .ok (.iload_n 3, 1) := by decide +kernel
theorem d_Table_win_156 : decode prog_1_method_6_code 156 = .ok (.iload 6, 2) := by decide +kernel
theorem d_Table_win_158 : decode prog_1_method_6_code 158 = .ok (.iadd, 1) := by decide +kernel
theorem d_Table_win_159 : decode prog_1_method_6_code 159 = .ok (.istore_n 3, 1) := by decide +kernel
theorem d_Table_win_160 : decode prog_1_method_6_code 160 = .ok (.iinc 4 1, 3) := by decide +kernel
theorem d_Table_win_163 : decode prog_1_method_6_code 163 = .ok (.goto (-84), 3) := by decide +kernel
theorem d_Table_win_166 : decode prog_1_method_6_code 166 = .ok (.aload_n 1, 1) := by decide +kernel
theorem d_Table_win_167 : decode prog_1_method_6_code 167 = .ok (.dup, 1) := by decide +kernel
theorem d_Table_win_168 : decode prog_1_method_6_code 168 = .ok (.getfield 156, 3) := by decide +kernel
theorem d_Table_win_171 : decode prog_1_method_6_code 171 = .ok (.iload_n 3, 1) := by decide +kernel
theorem d_Table_win_172 : decode prog_1_method_6_code 172 = .ok (.iadd, 1) := by decide +kernel
theorem d_Table_win_173 : decode prog_1_method_6_code 173 = .ok (.putfield 156, 3) := by decide +kernel
theorem d_Table_win_176 : decode prog_1_method_6_code 176 = .ok (.aload_n 1, 1) := by decide +kernel
theorem d_Table_win_177 : decode prog_1_method_6_code 177 = .ok (.getfield 130, 3) := by decide +kernel
theorem d_Table_win_180 : decode prog_1_method_6_code 180 = .ok (.iload_n 3, 1) := by decide +kernel
theorem d_Table_win_181 : decode prog_1_method_6_code 181 = .ok (.putfield 159, 3) := by decide +kernel
theorem d_Table_win_184 : decode prog_1_method_6_code 184 = .ok (.aload_n 0, 1) := by decide +kernel
theorem d_Table_win_185 : decode prog_1_method_6_code 185 = .ok (.aload_n 0, 1) := by decide +kernel
theorem d_Table_win_186 : decode prog_1_method_6_code 186 = .ok (.getfield 71, 3) := by decide +kernel
theorem d_Table_win_189 : decode prog_1_method_6_code 189 = .ok (.aload_n 0, 1) := by decide +kernel
theorem d_Table_win_190 : decode prog_1_method_6_code 190 = .ok (.getfield 46, 3) := by decide +kernel
theorem d_Table_win_193 : decode prog_1_method_6_code 193 = .ok (.if_icmp .ne 7, 3) := by decide +kernel
theorem d_Table_win_196 : decode prog_1_method_6_code 196 = .ok (.iconst 1, 1) := by decide +kernel
theorem d_Table_win_197 : decode prog_1_method_6_code 197 = .ok (.goto 4, 3) := by decide +kernel
theorem d_Table_win_200 : decode prog_1_method_6_code 200 = .ok (.iconst 0, 1) := by decide +kernel
theorem d_Table_win_201 : decode prog_1_method_6_code 201 = .ok (.iconst 0, 1) := by decide +kernel
theorem d_Table_win_202 : decode prog_1_method_6_code 202 = .ok (.invokevirtual 162, 3) := by decide +kernel
theorem d_Table_win_205 : decode prog_1_method_6_code 205 = .ok (.aload_n 1, 1) := by decide +kernel
theorem d_Table_win_206 : decode prog_1_method_6_code 206 = .ok (.getfield 130, 3) := by decide +kernel
theorem d_Table_win_209 : decode prog_1_method_6_code 209 = .ok (.getfield 166, 3) := by decide +kernel
theorem d_Table_win_212 : decode prog_1_method_6_code 212 = .ok (.ireturn, 1) := by decide +kernel
theorem d_Table_isPlayer_0 : decode prog_1_method_23_code 0 = .ok (.iload_n 0, 1) := by decide +kernel
theorem d_Table_isPlayer_1 : decode prog_1_method_23_code 1 = .ok (.ifCond .lt 12, 3) := by decide +kernel
theorem d_Table_isPlayer_4 : decode prog_1_method_23_code 4 = .ok (.iload_n 0, 1) := by decide +kernel
theorem d_Table_isPlayer_5 : decode prog_1_method_23_code 5 = .ok (.iconst 4, 1) := by decide +kernel
theorem d_Table_isPlayer_6 : decode prog_1_method_23_code 6 = .ok (.if_icmp .ge 7, 3) := by decide +kernel
theorem d_Table_isPlayer_9 : decode prog_1_method_23_code 9 = .ok (.iconst 1, 1) := by decide +kernel
theorem d_Table_isPlayer_10 : decode prog_1_method_23_code 10 = .ok (.goto 4, 3) := by decide +kernel
theorem d_Table_isPlayer_13 : decode prog_1_method_23_code 13 = .ok (.iconst 0, 1) := by decide +kernel
theorem d_Table_isPlayer_14 : decode prog_1_method_23_code 14 = .ok (.ireturn, 1) := by decide +kernel
theorem d_Table_options_0 : decode prog_1_method_7_code 0 = .ok (.iload_n 1, 1) := by decide +kernel
theorem d_Table_options_1 : decode prog_1_method_7_code 1 = .ok (.invokestatic 169, 3) := by decide +kernel
theorem d_Table_options_4 : decode prog_1_method_7_code 4 = .ok (.ifCond .ne 5, 3) := by decide +kernel
theorem d_Table_options_7 : decode prog_1_method_7_code 7 = .ok (.iconst (-1), 1) := by decide +kernel
theorem d_Table_options_8 : decode prog_1_method_7_code 8 = .ok (.ireturn, 1) := by decide +kernel
theorem d_Table_options_9 : decode prog_1_method_7_code 9 = .ok (.aload_n 0, 1) := by decide +kernel
theorem d_Table_options_10 : decode prog_1_method_7_code 10 = .ok (.getfield 22, 3) := by decide +kernel
theorem d_Table_options_13 : decode prog_1_method_7_code 13 = .ok (.iconst 2, 1) := by decide +kernel
theorem d_Table_options_14 : decode prog_1_method_7_code 14 = .ok (.if_icmp .ne 15, 3) := by decide +kernel
theorem d_Table_options_17 : decode prog_1_method_7_code 17 = .ok (.aload_n 0, 1) := by decide +kernel
theorem d_Table_options_18 : decode prog_1_method_7_code 18 = .ok (.getfield 11, 3) := by decide +kernel
theorem d_Table_options_21 : decode prog_1_method_7_code 21 = .ok (.iload_n 1, 1) := by decide +kernel
theorem d_Table_options_22 : decode prog_1_method_7_code 22 = .ok (.aaload, 1) := by decide +kernel
theorem d_Table_options_23 : decode prog_1_method_7_code 23 = .ok (.getfield 172, 3) := by decide +kernel
theorem d_Table_options_26 : decode prog_1_method_7_code 26 = .ok (.goto 4, 3) := by decide +kernel
theorem d_Table_options_29 : decode prog_1_method_7_code 29 = .ok (.iconst 0, 1) := by decide +kernel
theorem d_Table_options_30 : decode prog_1_method_7_code 30 = .ok (.ireturn, 1) := by decide +kernel
theorem d_Table_mayAnswer_0 : decode prog_1_method_32_code 0 = .ok (.iload_n 2, 1) := by decide +kernel
theorem d_Table_mayAnswer_1 : decode prog_1_method_32_code 1 = .ok (.tableswitch 111 0 4 #[35, 37, 64, 79, 95], 35) := by decide +kernel
theorem d_Table_mayAnswer_36 : decode prog_1_method_32_code 36 = .ok (.iconst 1, 1) := by decide +kernel
theorem d_Table_mayAnswer_37 : decode prog_1_method_32_code 37 = .ok (.ireturn, 1) := by decide +kernel
theorem d_Table_mayAnswer_38 : decode prog_1_method_32_code 38 = .ok (.aload_n 1, 1) := by decide +kernel
theorem d_Table_mayAnswer_39 : decode prog_1_method_32_code 39 = .ok (.getfield 172, 3) := by decide +kernel
theorem d_Table_mayAnswer_42 : decode prog_1_method_32_code 42 = .ok (.iconst 2, 1) := by decide +kernel
theorem d_Table_mayAnswer_43 : decode prog_1_method_32_code 43 = .ok (.iand, 1) := by decide +kernel
theorem d_Table_mayAnswer_44 : decode prog_1_method_32_code 44 = .ok (.ifCond .eq 19, 3) := by decide +kernel
theorem d_Table_mayAnswer_47 : decode prog_1_method_32_code 47 = .ok (.aload_n 1, 1) := by decide +kernel
theorem d_Table_mayAnswer_48 : decode prog_1_method_32_code 48 = .ok (.iload_n 3, 1) := by decide +kernel
theorem d_Table_mayAnswer_49 : decode prog_1_method_32_code 49 = .ok (.aload_n 0, 1) := by decide +kernel
theorem d_Table_mayAnswer_50 : decode prog_1_method_32_code 50 = .ok (.getfield 26, 3) := by decide +kernel
theorem d_Table_mayAnswer_53 : decode prog_1_method_32_code 53 = .ok (.invokevirtual 235, 3) := by decide +kernel
theorem d_Table_mayAnswer_56 : decode prog_1_method_32_code 56 = .ok (.ifCond .eq 7, 3) := by decide +kernel
theorem d_Table_mayAnswer_59 : decode prog_1_method_32_code 59 = .ok (.iconst 1, 1) := by decide +kernel
theorem d_Table_mayAnswer_60 : decode prog_1_method_32_code 60 = .ok (.goto 4, 3) := by decide +kernel
theorem d_Table_mayAnswer_63 : decode prog_1_method_32_code 63 = .ok (.iconst 0, 1) := by decide +kernel
theorem d_Table_mayAnswer_64 : decode prog_1_method_32_code 64 = .ok (.ireturn, 1) := by decide +kernel
theorem d_Table_mayAnswer_65 : decode prog_1_method_32_code 65 = .ok (.aload_n 1, 1) := by decide +kernel
theorem d_Table_mayAnswer_66 : decode prog_1_method_32_code 66 = .ok (.getfield 172, 3) := by decide +kernel
theorem d_Table_mayAnswer_69 : decode prog_1_method_32_code 69 = .ok (.iconst 4, 1) := by decide +kernel
theorem d_Table_mayAnswer_70 : decode prog_1_method_32_code 70 = .ok (.iand, 1) := by decide +kernel
theorem d_Table_mayAnswer_71 : decode prog_1_method_32_code 71 = .ok (.ifCond .eq 7, 3) := by decide +kernel
theorem d_Table_mayAnswer_74 : decode prog_1_method_32_code 74 = .ok (.iconst 1, 1) := by decide +kernel
theorem d_Table_mayAnswer_75 : decode prog_1_method_32_code 75 = .ok (.goto 4, 3) := by decide +kernel
theorem d_Table_mayAnswer_78 : decode prog_1_method_32_code 78 = .ok (.iconst 0, 1) := by decide +kernel
theorem d_Table_mayAnswer_79 : decode prog_1_method_32_code 79 = .ok (.ireturn, 1) := by decide +kernel
theorem d_Table_mayAnswer_80 : decode prog_1_method_32_code 80 = .ok (.aload_n 1, 1) := by decide +kernel
theorem d_Table_mayAnswer_81 : decode prog_1_method_32_code 81 = .ok (.getfield 172, 3) := by decide +kernel
theorem d_Table_mayAnswer_84 : decode prog_1_method_32_code 84 = .ok (.bipush 8, 2) := by decide +kernel
theorem d_Table_mayAnswer_86 : decode prog_1_method_32_code 86 = .ok (.iand, 1) := by decide +kernel
theorem d_Table_mayAnswer_87 : decode prog_1_method_32_code 87 = .ok (.ifCond .eq 7, 3) := by decide +kernel
theorem d_Table_mayAnswer_90 : decode prog_1_method_32_code 90 = .ok (.iconst 1, 1) := by decide +kernel
theorem d_Table_mayAnswer_91 : decode prog_1_method_32_code 91 = .ok (.goto 4, 3) := by decide +kernel
theorem d_Table_mayAnswer_94 : decode prog_1_method_32_code 94 = .ok (.iconst 0, 1) := by decide +kernel
theorem d_Table_mayAnswer_95 : decode prog_1_method_32_code 95 = .ok (.ireturn, 1) := by decide +kernel
theorem d_Table_mayAnswer_96 : decode prog_1_method_32_code 96 = .ok (.aload_n 1, 1) := by decide +kernel
theorem d_Table_mayAnswer_97 : decode prog_1_method_32_code 97 = .ok (.getfield 172, 3) := by decide +kernel
theorem d_Table_mayAnswer_100 : decode prog_1_method_32_code 100 = .ok (.bipush 16, 2) := by decide +kernel
theorem d_Table_mayAnswer_102 : decode prog_1_method_32_code 102 = .ok (.iand, 1) := by decide +kernel
theorem d_Table_mayAnswer_103 : decode prog_1_method_32_code 103 = .ok (.ifCond .eq 7, 3) := by decide +kernel
theorem d_Table_mayAnswer_106 : decode prog_1_method_32_code 106 = .ok (.iconst 1, 1) := by decide +kernel
theorem d_Table_mayAnswer_107 : decode prog_1_method_32_code 107 = .ok (.goto 4, 3) := by decide +kernel
theorem d_Table_mayAnswer_110 : decode prog_1_method_32_code 110 = .ok (.iconst 0, 1) := by decide +kernel
theorem d_Table_mayAnswer_111 : decode prog_1_method_32_code 111 = .ok (.ireturn, 1) := by decide +kernel
theorem d_Table_mayAnswer_112 : decode prog_1_method_32_code 112 = .ok (.iconst 0, 1) := by decide +kernel
theorem d_Table_mayAnswer_113 : decode prog_1_method_32_code 113 = .ok (.ireturn, 1) := by decide +kernel
theorem d_Table_claim_0 : decode prog_1_method_8_code 0 = .ok (.aload_n 0, 1) := by decide +kernel
theorem d_Table_claim_1 : decode prog_1_method_8_code 1 = .ok (.getfield 22, 3) := by decide +kernel
theorem d_Table_claim_4 : decode prog_1_method_8_code 4 = .ok (.iconst 2, 1) := by decide +kernel
theorem d_Table_claim_5 : decode prog_1_method_8_code 5 = .ok (.if_icmp .ne 10, 3) := by decide +kernel
theorem d_Table_claim_8 : decode prog_1_method_8_code 8 = .ok (.iload_n 1, 1) := by decide +kernel
theorem d_Table_claim_9 : decode prog_1_method_8_code 9 = .ok (.invokestatic 169, 3) := by decide +kernel
theorem d_Table_claim_12 : decode prog_1_method_8_code 12 = .ok (.ifCond .ne 5, 3) := by decide +kernel
theorem d_Table_claim_15 : decode prog_1_method_8_code 15 = .ok (.iconst (-1), 1) := by decide +kernel
theorem d_Table_claim_16 : decode prog_1_method_8_code 16 = .ok (.ireturn, 1) := by decide +kernel
theorem d_Table_claim_17 : decode prog_1_method_8_code 17 = .ok (.aload_n 0, 1) := by decide +kernel
theorem d_Table_claim_18 : decode prog_1_method_8_code 18 = .ok (.getfield 11, 3) := by decide +kernel
theorem d_Table_claim_21 : decode prog_1_method_8_code 21 = .ok (.iload_n 1, 1) := by decide +kernel
theorem d_Table_claim_22 : decode prog_1_method_8_code 22 = .ok (.aaload, 1) := by decide +kernel
theorem d_Table_claim_23 : decode prog_1_method_8_code 23 = .ok (.astore 4, 2) := by decide +kernel
theorem d_Table_claim_25 : decode prog_1_method_8_code 25 = .ok (.aload 4, 2) := by decide +kernel
theorem d_Table_claim_27 : decode prog_1_method_8_code 27 = .ok (.getfield 172, 3) := by decide +kernel
theorem d_Table_claim_30 : decode prog_1_method_8_code 30 = .ok (.ifCond .eq 14, 3) := by decide +kernel
theorem d_Table_claim_33 : decode prog_1_method_8_code 33 = .ok (.aload_n 0, 1) := by decide +kernel
theorem d_Table_claim_34 : decode prog_1_method_8_code 34 = .ok (.aload 4, 2) := by decide +kernel
theorem d_Table_claim_36 : decode prog_1_method_8_code 36 = .ok (.iload_n 2, 1) := by decide +kernel
theorem d_Table_claim_37 : decode prog_1_method_8_code 37 = .ok (.iload_n 3, 1) := by decide +kernel
theorem d_Table_claim_38 : decode prog_1_method_8_code 38 = .ok (.invokevirtual 175, 3) := by decide +kernel
theorem d_Table_claim_41 : decode prog_1_method_8_code 41 = .ok (.ifCond .ne 5, 3) := by decide +kernel
theorem d_Table_claim_44 : decode prog_1_method_8_code 44 = .ok (.iconst (-1), 1) := by decide +kernel
theorem d_Table_claim_45 : decode prog_1_method_8_code 45 = .ok (.ireturn, 1) := by decide +kernel
theorem d_Table_claim_46 : decode prog_1_method_8_code 46 = .ok (.aload 4, 2) := by decide +kernel
theorem d_Table_claim_48 : decode prog_1_method_8_code 48 = .ok (.iload_n 2, 1) := by decide +kernel
theorem d_Table_claim_49 : decode prog_1_method_8_code 49 = .ok (.putfield 179, 3) := by decide +kernel
theorem d_Table_claim_52 : decode prog_1_method_8_code 52 = .ok (.aload 4, 2) := by decide +kernel
theorem d_Table_claim_54 : decode prog_1_method_8_code 54 = .ok (.iload_n 3, 1) := by decide +kernel
theorem d_Table_claim_55 : decode prog_1_method_8_code 55 = .ok (.putfield 182, 3) := by decide +kernel
theorem d_Table_claim_58 : decode prog_1_method_8_code 58 = .ok (.aload 4, 2) := by decide +kernel
theorem d_Table_claim_60 : decode prog_1_method_8_code 60 = .ok (.iconst 0, 1) := by decide +kernel
theorem d_Table_claim_61 : decode prog_1_method_8_code 61 = .ok (.putfield 172, 3) := by decide +kernel
theorem d_Table_claim_64 : decode prog_1_method_8_code 64 = .ok (.aload_n 0, 1) := by decide +kernel
theorem d_Table_claim_65 : decode prog_1_method_8_code 65 = .ok (.invokevirtual 185, 3) := by decide +kernel
theorem d_Table_claim_68 : decode prog_1_method_8_code 68 = .ok (.ifCond .ne 7, 3) := by decide +kernel
theorem d_Table_claim_71 : decode prog_1_method_8_code 71 = .ok (.aload_n 0, 1) := by decide +kernel
theorem d_Table_claim_72 : decode prog_1_method_8_code 72 = .ok (.invokevirtual 100, 3) := by decide +kernel
