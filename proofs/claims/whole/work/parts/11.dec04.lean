theorem d_Table_claim_75 : decode prog_1_method_8_code 75 = .ok (.aload_n 0, 1) := by decide +kernel
theorem d_Table_claim_76 : decode prog_1_method_8_code 76 = .ok (.getfield 22, 3) := by decide +kernel
theorem d_Table_claim_79 : decode prog_1_method_8_code 79 = .ok (.ireturn, 1) := by decide +kernel
theorem d_Table_next_0 : decode prog_1_method_9_code 0 = .ok (.aload_n 0, 1) := by decide +kernel
theorem d_Table_next_1 : decode prog_1_method_9_code 1 = .ok (.getfield 22, 3) := by decide +kernel
theorem d_Table_next_4 : decode prog_1_method_9_code 4 = .ok (.iconst 3, 1) := by decide +kernel
theorem d_Table_next_5 : decode prog_1_method_9_code 5 = .ok (.if_icmp .eq 5, 3) := by decide +kernel
theorem d_Table_next_8 : decode prog_1_method_9_code 8 = .ok (.iconst 0, 1) := by decide +kernel
theorem d_Table_next_9 : decode prog_1_method_9_code 9 = .ok (.ireturn, 1) := by decide +kernel
theorem d_Table_next_10 : decode prog_1_method_9_code 10 = .ok (.aload_n 0, 1) := by decide +kernel
theorem d_Table_next_11 : decode prog_1_method_9_code 11 = .ok (.getfield 34, 3) := by decide +kernel
theorem d_Table_next_14 : decode prog_1_method_9_code 14 = .ok (.invokevirtual 39, 3) := by decide +kernel
theorem d_Table_next_17 : decode prog_1_method_9_code 17 = .ok (.aload_n 0, 1) := by decide +kernel
theorem d_Table_next_18 : decode prog_1_method_9_code 18 = .ok (.iconst 0, 1) := by decide +kernel
theorem d_Table_next_19 : decode prog_1_method_9_code 19 = .ok (.putfield 22, 3) := by decide +kernel
theorem d_Table_next_22 : decode prog_1_method_9_code 22 = .ok (.iconst 1, 1) := by decide +kernel
theorem d_Table_next_23 : decode prog_1_method_9_code 23 = .ok (.ireturn, 1) := by decide +kernel
theorem d_Table_phase_0 : decode prog_1_method_10_code 0 = .ok (.aload_n 0, 1) := by decide +kernel
theorem d_Table_phase_1 : decode prog_1_method_10_code 1 = .ok (.getfield 22, 3) := by decide +kernel
theorem d_Table_phase_4 : decode prog_1_method_10_code 4 = .ok (.ireturn, 1) := by decide +kernel
theorem d_Table_who_0 : decode prog_1_method_11_code 0 = .ok (.aload_n 0, 1) := by decide +kernel
theorem d_Table_who_1 : decode prog_1_method_11_code 1 = .ok (.getfield 22, 3) := by decide +kernel
theorem d_Table_who_4 : decode prog_1_method_11_code 4 = .ok (.iconst 1, 1) := by decide +kernel
theorem d_Table_who_5 : decode prog_1_method_11_code 5 = .ok (.if_icmp .eq 11, 3) := by decide +kernel
theorem d_Table_who_8 : decode prog_1_method_11_code 8 = .ok (.aload_n 0, 1) := by decide +kernel
theorem d_Table_who_9 : decode prog_1_method_11_code 9 = .ok (.getfield 22, 3) := by decide +kernel
theorem d_Table_who_12 : decode prog_1_method_11_code 12 = .ok (.iconst 2, 1) := by decide +kernel
theorem d_Table_who_13 : decode prog_1_method_11_code 13 = .ok (.if_icmp .ne 10, 3) := by decide +kernel
theorem d_Table_who_16 : decode prog_1_method_11_code 16 = .ok (.aload_n 0, 1) := by decide +kernel
theorem d_Table_who_17 : decode prog_1_method_11_code 17 = .ok (.getfield 71, 3) := by decide +kernel
theorem d_Table_who_20 : decode prog_1_method_11_code 20 = .ok (.goto 4, 3) := by decide +kernel
theorem d_Table_who_23 : decode prog_1_method_11_code 23 = .ok (.iconst (-1), 1) := by decide +kernel
theorem d_Table_who_24 : decode prog_1_method_11_code 24 = .ok (.ireturn, 1) := by decide +kernel
theorem d_Table_drawn_0 : decode prog_1_method_12_code 0 = .ok (.aload_n 0, 1) := by decide +kernel
theorem d_Table_drawn_1 : decode prog_1_method_12_code 1 = .ok (.getfield 22, 3) := by decide +kernel
theorem d_Table_drawn_4 : decode prog_1_method_12_code 4 = .ok (.iconst 1, 1) := by decide +kernel
theorem d_Table_drawn_5 : decode prog_1_method_12_code 5 = .ok (.if_icmp .eq 11, 3) := by decide +kernel
theorem d_Table_drawn_8 : decode prog_1_method_12_code 8 = .ok (.aload_n 0, 1) := by decide +kernel
theorem d_Table_drawn_9 : decode prog_1_method_12_code 9 = .ok (.getfield 22, 3) := by decide +kernel
theorem d_Table_drawn_12 : decode prog_1_method_12_code 12 = .ok (.iconst 2, 1) := by decide +kernel
theorem d_Table_drawn_13 : decode prog_1_method_12_code 13 = .ok (.if_icmp .ne 10, 3) := by decide +kernel
theorem d_Table_drawn_16 : decode prog_1_method_12_code 16 = .ok (.aload_n 0, 1) := by decide +kernel
theorem d_Table_drawn_17 : decode prog_1_method_12_code 17 = .ok (.getfield 26, 3) := by decide +kernel
theorem d_Table_drawn_20 : decode prog_1_method_12_code 20 = .ok (.goto 4, 3) := by decide +kernel
theorem d_Table_drawn_23 : decode prog_1_method_12_code 23 = .ok (.iconst (-1), 1) := by decide +kernel
theorem d_Table_drawn_24 : decode prog_1_method_12_code 24 = .ok (.ireturn, 1) := by decide +kernel
theorem d_Table_isHandShown_0 : decode prog_1_method_26_code 0 = .ok (.aload_n 0, 1) := by decide +kernel
theorem d_Table_isHandShown_1 : decode prog_1_method_26_code 1 = .ok (.getfield 22, 3) := by decide +kernel
theorem d_Table_isHandShown_4 : decode prog_1_method_26_code 4 = .ok (.iconst 1, 1) := by decide +kernel
theorem d_Table_isHandShown_5 : decode prog_1_method_26_code 5 = .ok (.if_icmp .eq 19, 3) := by decide +kernel
theorem d_Table_isHandShown_8 : decode prog_1_method_26_code 8 = .ok (.aload_n 0, 1) := by decide +kernel
theorem d_Table_isHandShown_9 : decode prog_1_method_26_code 9 = .ok (.getfield 22, 3) := by decide +kernel
theorem d_Table_isHandShown_12 : decode prog_1_method_26_code 12 = .ok (.iconst 2, 1) := by decide +kernel
theorem d_Table_isHandShown_13 : decode prog_1_method_26_code 13 = .ok (.if_icmp .eq 11, 3) := by decide +kernel
theorem d_Table_isHandShown_16 : decode prog_1_method_26_code 16 = .ok (.aload_n 0, 1) := by decide +kernel
theorem d_Table_isHandShown_17 : decode prog_1_method_26_code 17 = .ok (.getfield 22, 3) := by decide +kernel
theorem d_Table_isHandShown_20 : decode prog_1_method_26_code 20 = .ok (.iconst 3, 1) := by decide +kernel
theorem d_Table_isHandShown_21 : decode prog_1_method_26_code 21 = .ok (.if_icmp .ne 7, 3) := by decide +kernel
theorem d_Table_isHandShown_24 : decode prog_1_method_26_code 24 = .ok (.iconst 1, 1) := by decide +kernel
theorem d_Table_isHandShown_25 : decode prog_1_method_26_code 25 = .ok (.goto 4, 3) := by decide +kernel
theorem d_Table_isHandShown_28 : decode prog_1_method_26_code 28 = .ok (.iconst 0, 1) := by decide +kernel
theorem d_Table_isHandShown_29 : decode prog_1_method_26_code 29 = .ok (.ireturn, 1) := by decide +kernel
theorem d_Table_concealed_0 : decode prog_1_method_13_code 0 = .ok (.aload_n 0, 1) := by decide +kernel
theorem d_Table_concealed_1 : decode prog_1_method_13_code 1 = .ok (.invokevirtual 188, 3) := by decide +kernel
theorem d_Table_concealed_4 : decode prog_1_method_13_code 4 = .ok (.ifCond .eq 31, 3) := by decide +kernel
theorem d_Table_concealed_7 : decode prog_1_method_13_code 7 = .ok (.iload_n 1, 1) := by decide +kernel
theorem d_Table_concealed_8 : decode prog_1_method_13_code 8 = .ok (.invokestatic 169, 3) := by decide +kernel
theorem d_Table_concealed_11 : decode prog_1_method_13_code 11 = .ok (.ifCond .eq 24, 3) := by decide +kernel
theorem d_Table_concealed_14 : decode prog_1_method_13_code 14 = .ok (.iload_n 2, 1) := by decide +kernel
theorem d_Table_concealed_15 : decode prog_1_method_13_code 15 = .ok (.invokestatic 67, 3) := by decide +kernel
theorem d_Table_concealed_18 : decode prog_1_method_13_code 18 = .ok (.ifCond .eq 17, 3) := by decide +kernel
theorem d_Table_concealed_21 : decode prog_1_method_13_code 21 = .ok (.aload_n 0, 1) := by decide +kernel
theorem d_Table_concealed_22 : decode prog_1_method_13_code 22 = .ok (.getfield 11, 3) := by decide +kernel
theorem d_Table_concealed_25 : decode prog_1_method_13_code 25 = .ok (.iload_n 1, 1) := by decide +kernel
theorem d_Table_concealed_26 : decode prog_1_method_13_code 26 = .ok (.aaload, 1) := by decide +kernel
theorem d_Table_concealed_27 : decode prog_1_method_13_code 27 = .ok (.getfield 52, 3) := by decide +kernel
theorem d_Table_concealed_30 : decode prog_1_method_13_code 30 = .ok (.iload_n 2, 1) := by decide +kernel
theorem d_Table_concealed_31 : decode prog_1_method_13_code 31 = .ok (.iaload, 1) := by decide +kernel
theorem d_Table_concealed_32 : decode prog_1_method_13_code 32 = .ok (.goto 4, 3) := by decide +kernel
theorem d_Table_concealed_35 : decode prog_1_method_13_code 35 = .ok (.iconst 0, 1) := by decide +kernel
theorem d_Table_concealed_36 : decode prog_1_method_13_code 36 = .ok (.ireturn, 1) := by decide +kernel
theorem d_Table_meld_0 : decode prog_1_method_14_code 0 = .ok (.aload_n 0, 1) := by decide +kernel
theorem d_Table_meld_1 : decode prog_1_method_14_code 1 = .ok (.invokevirtual 188, 3) := by decide +kernel
theorem d_Table_meld_4 : decode prog_1_method_14_code 4 = .ok (.ifCond .eq 10, 3) := by decide +kernel
theorem d_Table_meld_7 : decode prog_1_method_14_code 7 = .ok (.iload_n 1, 1) := by decide +kernel
theorem d_Table_meld_8 : decode prog_1_method_14_code 8 = .ok (.invokestatic 169, 3) := by decide +kernel
theorem d_Table_meld_11 : decode prog_1_method_14_code 11 = .ok (.ifCond .ne 5, 3) := by decide +kernel
theorem d_Table_meld_14 : decode prog_1_method_14_code 14 = .ok (.iconst (-1), 1) := by decide +kernel
theorem d_Table_meld_15 : decode prog_1_method_14_code 15 = .ok (.ireturn, 1) := by decide +kernel
theorem d_Table_meld_16 : decode prog_1_method_14_code 16 = .ok (.aload_n 0, 1) := by decide +kernel
theorem d_Table_meld_17 : decode prog_1_method_14_code 17 = .ok (.getfield 11, 3) := by decide +kernel
theorem d_Table_meld_20 : decode prog_1_method_14_code 20 = .ok (.iload_n 1, 1) := by decide +kernel
theorem d_Table_meld_21 : decode prog_1_method_14_code 21 = .ok (.aaload, 1) := by decide +kernel
theorem d_Table_meld_22 : decode prog_1_method_14_code 22 = .ok (.astore_n 3, 1) := by decide +kernel
theorem d_Table_meld_23 : decode prog_1_method_14_code 23 = .ok (.iload_n 2, 1) := by decide +kernel
theorem d_Table_meld_24 : decode prog_1_method_14_code 24 = .ok (.ifCond .lt 20, 3) := by decide +kernel
theorem d_Table_meld_27 : decode prog_1_method_14_code 27 = .ok (.iload_n 2, 1) := by decide +kernel
theorem d_Table_meld_28 : decode prog_1_method_14_code 28 = .ok (.aload_n 3, 1) := by decide +kernel
theorem d_Table_meld_29 : decode prog_1_method_14_code 29 = .ok (.getfield 191, 3) := by decide +kernel
theorem d_Table_meld_32 : decode prog_1_method_14_code 32 = .ok (.if_icmp .ge 12, 3) := by decide +kernel
theorem d_Table_meld_35 : decode prog_1_method_14_code 35 = .ok (.aload_n 3, 1) := by decide +kernel
theorem d_Table_meld_36 : decode prog_1_method_14_code 36 = .ok (.getfield 194, 3) := by decide +kernel
theorem d_Table_meld_39 : decode prog_1_method_14_code 39 = .ok (.iload_n 2, 1) := by decide +kernel
theorem d_Table_meld_40 : decode prog_1_method_14_code 40 = .ok (.iaload, 1) := by decide +kernel
theorem d_Table_meld_41 : decode prog_1_method_14_code 41 = .ok (.goto 4, 3) := by decide +kernel
theorem d_Table_meld_44 : decode prog_1_method_14_code 44 = .ok (.iconst (-1), 1) := by decide +kernel
theorem d_Table_meld_45 : decode prog_1_method_14_code 45 = .ok (.ireturn, 1) := by decide +kernel
theorem d_Table_river_0 : decode prog_1_method_15_code 0 = .ok (.aload_n 0, 1) := by decide +kernel
theorem d_Table_river_1 : decode prog_1_method_15_code 1 = .ok (.invokevirtual 188, 3) := by decide +kernel
theorem d_Table_river_4 : decode prog_1_method_15_code 4 = .ok (.ifCond .eq 10, 3) := by decide +kernel
theorem d_Table_river_7 : decode prog_1_method_15_code 7 = .ok (.iload_n 1, 1) := by decide +kernel
theorem d_Table_river_8 : decode prog_1_method_15_code 8 = .ok (.invokestatic 169, 3) := by decide +kernel
theorem d_Table_river_11 : decode prog_1_method_15_code 11 = .ok (.ifCond .ne 5, 3) := by decide +kernel
theorem d_Table_river_14 : decode prog_1_method_15_code 14 = .ok (.iconst (-1), 1) := by decide +kernel
theorem d_Table_river_15 : decode prog_1_method_15_code 15 = .ok (.ireturn, 1) := by decide +kernel
theorem d_Table_river_16 : decode prog_1_method_15_code 16 = .ok (.aload_n 0, 1) := by decide +kernel
theorem d_Table_river_17 : decode prog_1_method_15_code 17 = .ok (.getfield 11, 3) := by decide +kernel
theorem d_Table_river_20 : decode prog_1_method_15_code 20 = .ok (.iload_n 1, 1) := by decide +kernel
theorem d_Table_river_21 : decode prog_1_method_15_code 21 = .ok (.aaload, 1) := by decide +kernel
theorem d_Table_river_22 : decode prog_1_method_15_code 22 = .ok (.astore_n 3, 1) := by decide +kernel
theorem d_Table_river_23 : decode prog_1_method_15_code 23 = .ok (.iload_n 2, 1) := by decide +kernel
theorem d_Table_river_24 : decode prog_1_method_15_code 24 = .ok (.ifCond .lt 20, 3) := by decide +kernel
theorem d_Table_river_27 : decode prog_1_method_15_code 27 = .ok (.iload_n 2, 1) := by decide +kernel
theorem d_Table_river_28 : decode prog_1_method_15_code 28 = .ok (.aload_n 3, 1) := by decide +kernel
theorem d_Table_river_29 : decode prog_1_method_15_code 29 = .ok (.getfield 81, 3) := by decide +kernel
theorem d_Table_river_32 : decode prog_1_method_15_code 32 = .ok (.if_icmp .ge 12, 3) := by decide +kernel
theorem d_Table_river_35 : decode prog_1_method_15_code 35 = .ok (.aload_n 3, 1) := by decide +kernel
theorem d_Table_river_36 : decode prog_1_method_15_code 36 = .ok (.getfield 197, 3) := by decide +kernel
theorem d_Table_river_39 : decode prog_1_method_15_code 39 = .ok (.iload_n 2, 1) := by decide +kernel
theorem d_Table_river_40 : decode prog_1_method_15_code 40 = .ok (.iaload, 1) := by decide +kernel
theorem d_Table_river_41 : decode prog_1_method_15_code 41 = .ok (.goto 4, 3) := by decide +kernel
theorem d_Table_river_44 : decode prog_1_method_15_code 44 = .ok (.iconst (-1), 1) := by decide +kernel
theorem d_Table_river_45 : decode prog_1_method_15_code 45 = .ok (.ireturn, 1) := by decide +kernel
theorem d_Table_waits_0 : decode prog_1_method_16_code 0 = .ok (.aload_n 0, 1) := by decide +kernel
theorem d_Table_waits_1 : decode prog_1_method_16_code 1 = .ok (.invokevirtual 188, 3) := by decide +kernel
theorem d_Table_waits_4 : decode prog_1_method_16_code 4 = .ok (.ifCond .eq 22, 3) := by decide +kernel
theorem d_Table_waits_7 : decode prog_1_method_16_code 7 = .ok (.iload_n 1, 1) := by decide +kernel
theorem d_Table_waits_8 : decode prog_1_method_16_code 8 = .ok (.invokestatic 169, 3) := by decide +kernel
theorem d_Table_waits_11 : decode prog_1_method_16_code 11 = .ok (.ifCond .eq 15, 3) := by decide +kernel
theorem d_Table_waits_14 : decode prog_1_method_16_code 14 = .ok (.aload_n 0, 1) := by decide +kernel
theorem d_Table_waits_15 : decode prog_1_method_16_code 15 = .ok (.getfield 11, 3) := by decide +kernel
theorem d_Table_waits_18 : decode prog_1_method_16_code 18 = .ok (.iload_n 1, 1) := by decide +kernel
theorem d_Table_waits_19 : decode prog_1_method_16_code 19 = .ok (.aaload, 1) := by decide +kernel
theorem d_Table_waits_20 : decode prog_1_method_16_code 20 = .ok (.invokevirtual 200, 3) := by decide +kernel
theorem d_Table_waits_23 : decode prog_1_method_16_code 23 = .ok (.goto 4, 3) := by decide +kernel
theorem d_Table_waits_26 : decode prog_1_method_16_code 26 = .ok (.lconst 0, 1) := by decide +kernel
theorem d_Table_waits_27 : decode prog_1_method_16_code 27 = .ok (.lreturn, 1) := by decide +kernel
theorem d_Table_furiten_0 : decode prog_1_method_17_code 0 = .ok (.aload_n 0, 1) := by decide +kernel
theorem d_Table_furiten_1 : decode prog_1_method_17_code 1 = .ok (.invokevirtual 188, 3) := by decide +kernel
theorem d_Table_furiten_4 : decode prog_1_method_17_code 4 = .ok (.ifCond .eq 26, 3) := by decide +kernel
theorem d_Table_furiten_7 : decode prog_1_method_17_code 7 = .ok (.iload_n 1, 1) := by decide +kernel
theorem d_Table_furiten_8 : decode prog_1_method_17_code 8 = .ok (.invokestatic 169, 3) := by decide +kernel
theorem d_Table_furiten_11 : decode prog_1_method_17_code 11 = .ok (.ifCond .eq 19, 3) := by decide +kernel
theorem d_Table_furiten_14 : decode prog_1_method_17_code 14 = .ok (.aload_n 0, 1) := by decide +kernel
theorem d_Table_furiten_15 : decode prog_1_method_17_code 15 = .ok (.getfield 11, 3) := by decide +kernel
theorem d_Table_furiten_18 : decode prog_1_method_17_code 18 = .ok (.iload_n 1, 1) := by decide +kernel
theorem d_Table_furiten_19 : decode prog_1_method_17_code 19 = .ok (.aaload, 1) := by decide +kernel
theorem d_Table_furiten_20 : decode prog_1_method_17_code 20 = .ok (.invokevirtual 204, 3) := by decide +kernel
theorem d_Table_furiten_23 : decode prog_1_method_17_code 23 = .ok (.ifCond .eq 7, 3) := by decide +kernel
theorem d_Table_furiten_26 : decode prog_1_method_17_code 26 = .ok (.iconst 1, 1) := by decide +kernel
theorem d_Table_furiten_27 : decode prog_1_method_17_code 27 = .ok (.goto 4, 3) := by decide +kernel
theorem d_Table_furiten_30 : decode prog_1_method_17_code 30 = .ok (.iconst 0, 1) := by decide +kernel
theorem d_Table_furiten_31 : decode prog_1_method_17_code 31 = .ok (.ireturn, 1) := by decide +kernel
theorem d_Table_points_0 : decode prog_1_method_18_code 0 = .ok (.iload_n 1, 1) := by decide +kernel
theorem d_Table_points_1 : decode prog_1_method_18_code 1 = .ok (.invokestatic 169, 3) := by decide +kernel
theorem d_Table_points_4 : decode prog_1_method_18_code 4 = .ok (.ifCond .eq 15, 3) := by decide +kernel
theorem d_Table_points_7 : decode prog_1_method_18_code 7 = .ok (.aload_n 0, 1) := by decide +kernel
theorem d_Table_points_8 : decode prog_1_method_18_code 8 = .ok (.getfield 11, 3) := by decide +kernel
theorem d_Table_points_11 : decode prog_1_method_18_code 11 = .ok (.iload_n 1, 1) := by decide +kernel
theorem d_Table_points_12 : decode prog_1_method_18_code 12 = .ok (.aaload, 1) := by decide +kernel
theorem d_Table_points_13 : decode prog_1_method_18_code 13 = .ok (.getfield 156, 3) := by decide +kernel
theorem d_Table_points_16 : decode prog_1_method_18_code 16 = .ok (.goto 4, 3) := by decide +kernel
theorem d_Table_points_19 : decode prog_1_method_18_code 19 = .ok (.iconst 0, 1) := by decide +kernel
theorem d_Table_points_20 : decode prog_1_method_18_code 20 = .ok (.ireturn, 1) := by decide +kernel
theorem d_Table_table_0 : decode prog_1_method_19_code 0 = .ok (.iload_n 1, 1) := by decide +kernel
theorem d_Table_table_1 : decode prog_1_method_19_code 1 = .ok (.tableswitch 97 0 5 #[39, 44, 49, 54, 59, 78], 39) := by decide +kernel
theorem d_Table_table_40 : decode prog_1_method_19_code 40 = .ok (.aload_n 0, 1) := by decide +kernel
theorem d_Table_table_41 : decode prog_1_method_19_code 41 = .ok (.getfield 46, 3) := by decide +kernel
theorem d_Table_table_44 : decode prog_1_method_19_code 44 = .ok (.ireturn, 1) := by decide +kernel
theorem d_Table_table_45 : decode prog_1_method_19_code 45 = .ok (.aload_n 0, 1) := by decide +kernel
theorem d_Table_table_46 : decode prog_1_method_19_code 46 = .ok (.getfield 207, 3) := by decide +kernel
theorem d_Table_table_49 : decode prog_1_method_19_code 49 = .ok (.ireturn, 1) := by decide +kernel
theorem d_Table_table_50 : decode prog_1_method_19_code 50 = .ok (.aload_n 0, 1) := by decide +kernel
theorem d_Table_table_51 : decode prog_1_method_19_code 51 = .ok (.getfield 153, 3) := by decide +kernel
theorem d_Table_table_54 : decode prog_1_method_19_code 54 = .ok (.ireturn, 1) := by decide +kernel
theorem d_Table_table_55 : decode prog_1_method_19_code 55 = .ok (.aload_n 0, 1) := by decide +kernel
theorem d_Table_table_56 : decode prog_1_method_19_code 56 = .ok (.getfield 210, 3) := by decide +kernel
theorem d_Table_table_59 : decode prog_1_method_19_code 59 = .ok (.ireturn, 1) := by decide +kernel
theorem d_Table_table_60 : decode prog_1_method_19_code 60 = .ok (.aload_n 0, 1) := by decide +kernel
theorem d_Table_table_61 : decode prog_1_method_19_code 61 = .ok (.invokevirtual 188, 3) := by decide +kernel
theorem d_Table_table_64 : decode prog_1_method_19_code 64 = .ok (.ifCond .eq 13, 3) := by decide +kernel
theorem d_Table_table_67 : decode prog_1_method_19_code 67 = .ok (.aload_n 0, 1) := by decide +kernel
theorem d_Table_table_68 : decode prog_1_method_19_code 68 = .ok (.getfield 34, 3) := by decide +kernel
theorem d_Table_table_71 : decode prog_1_method_19_code 71 = .ok (.invokevirtual 106, 3) := by decide +kernel
theorem d_Table_table_74 : decode prog_1_method_19_code 74 = .ok (.goto 4, 3) := by decide +kernel
theorem d_Table_table_77 : decode prog_1_method_19_code 77 = .ok (.iconst 0, 1) := by decide +kernel
theorem d_Table_table_78 : decode prog_1_method_19_code 78 = .ok (.ireturn, 1) := by decide +kernel
theorem d_Table_table_79 : decode prog_1_method_19_code 79 = .ok (.aload_n 0, 1) := by decide +kernel
theorem d_Table_table_80 : decode prog_1_method_19_code 80 = .ok (.invokevirtual 188, 3) := by decide +kernel
theorem d_Table_table_83 : decode prog_1_method_19_code 83 = .ok (.ifCond .eq 13, 3) := by decide +kernel
theorem d_Table_table_86 : decode prog_1_method_19_code 86 = .ok (.aload_n 0, 1) := by decide +kernel
theorem d_Table_table_87 : decode prog_1_method_19_code 87 = .ok (.getfield 34, 3) := by decide +kernel
theorem d_Table_table_90 : decode prog_1_method_19_code 90 = .ok (.getfield 103, 3) := by decide +kernel
theorem d_Table_table_93 : decode prog_1_method_19_code 93 = .ok (.goto 4, 3) := by decide +kernel
theorem d_Table_table_96 : decode prog_1_method_19_code 96 = .ok (.iconst 0, 1) := by decide +kernel
theorem d_Table_table_97 : decode prog_1_method_19_code 97 = .ok (.ireturn, 1) := by decide +kernel
theorem d_Table_table_98 : decode prog_1_method_19_code 98 = .ok (.iconst (-1), 1) := by decide +kernel
theorem d_Table_table_99 : decode prog_1_method_19_code 99 = .ok (.ireturn, 1) := by decide +kernel
theorem d_Table_worth_0 : decode prog_1_method_20_code 0 = .ok (.iload_n 1, 1) := by decide +kernel
theorem d_Table_worth_1 : decode prog_1_method_20_code 1 = .ok (.invokestatic 169, 3) := by decide +kernel
theorem d_Table_worth_4 : decode prog_1_method_20_code 4 = .ok (.ifCond .eq 20, 3) := by decide +kernel
theorem d_Table_worth_7 : decode prog_1_method_20_code 7 = .ok (.aload_n 0, 1) := by decide +kernel
theorem d_Table_worth_8 : decode prog_1_method_20_code 8 = .ok (.getfield 11, 3) := by decide +kernel
theorem d_Table_worth_11 : decode prog_1_method_20_code 11 = .ok (.iload_n 1, 1) := by decide +kernel
theorem d_Table_worth_12 : decode prog_1_method_20_code 12 = .ok (.aaload, 1) := by decide +kernel
theorem d_Table_worth_13 : decode prog_1_method_20_code 13 = .ok (.getfield 130, 3) := by decide +kernel
theorem d_Table_worth_16 : decode prog_1_method_20_code 16 = .ok (.getfield 213, 3) := by decide +kernel
theorem d_Table_worth_19 : decode prog_1_method_20_code 19 = .ok (.lconst 0, 1) := by decide +kernel
theorem d_Table_worth_20 : decode prog_1_method_20_code 20 = .ok (.lcmp, 1) := by decide +kernel
theorem d_Table_worth_21 : decode prog_1_method_20_code 21 = .ok (.ifCond .ne 5, 3) := by decide +kernel
theorem d_Table_worth_24 : decode prog_1_method_20_code 24 = .ok (.iconst (-1), 1) := by decide +kernel
theorem d_Table_worth_25 : decode prog_1_method_20_code 25 = .ok (.ireturn, 1) := by decide +kernel
theorem d_Table_worth_26 : decode prog_1_method_20_code 26 = .ok (.aload_n 0, 1) := by decide +kernel
theorem d_Table_worth_27 : decode prog_1_method_20_code 27 = .ok (.getfield 11, 3) := by decide +kernel
theorem d_Table_worth_30 : decode prog_1_method_20_code 30 = .ok (.iload_n 1, 1) := by decide +kernel
theorem d_Table_worth_31 : decode prog_1_method_20_code 31 = .ok (.aaload, 1) := by decide +kernel
theorem d_Table_worth_32 : decode prog_1_method_20_code 32 = .ok (.getfield 130, 3) := by decide +kernel
theorem d_Table_worth_35 : decode prog_1_method_20_code 35 = .ok (.astore_n 3, 1) := by decide +kernel
theorem d_Table_worth_36 : decode prog_1_method_20_code 36 = .ok (.iload_n 2, 1) := by decide +kernel
theorem d_Table_worth_37 : decode prog_1_method_20_code 37 = .ok (.tableswitch 51 0 3 #[31, 36, 41, 46], 31) := by decide +kernel
theorem d_Table_worth_68 : decode prog_1_method_20_code 68 = .ok (.aload_n 3, 1) := by decide +kernel
theorem d_Table_worth_69 : decode prog_1_method_20_code 69 = .ok (.getfield 166, 3) := by decide +kernel
theorem d_Table_worth_72 : decode prog_1_method_20_code 72 = .ok (.ireturn, 1) := by decide +kernel
theorem d_Table_worth_73 : decode prog_1_method_20_code 73 = .ok (.aload_n 3, 1) := by decide +kernel
theorem d_Table_worth_74 : decode prog_1_method_20_code 74 = .ok (.getfield 217, 3) := by decide +kernel
theorem d_Table_worth_77 : decode prog_1_method_20_code 77 = .ok (.ireturn, 1) := by decide +kernel
theorem d_Table_worth_78 : decode prog_1_method_20_code 78 = .ok (.aload_n 3, 1) := by decide +kernel
theorem d_Table_worth_79 : decode prog_1_method_20_code 79 = .ok (.getfield 143, 3) := by decide +kernel
theorem d_Table_worth_82 : decode prog_1_method_20_code 82 = .ok (.ireturn, 1) := by decide +kernel
theorem d_Table_worth_83 : decode prog_1_method_20_code 83 = .ok (.aload_n 3, 1) := by decide +kernel
theorem d_Table_worth_84 : decode prog_1_method_20_code 84 = .ok (.getfield 159, 3) := by decide +kernel
theorem d_Table_worth_87 : decode prog_1_method_20_code 87 = .ok (.ireturn, 1) := by decide +kernel
theorem d_Table_worth_88 : decode prog_1_method_20_code 88 = .ok (.iconst (-1), 1) := by decide +kernel
theorem d_Table_worth_89 : decode prog_1_method_20_code 89 = .ok (.ireturn, 1) := by decide +kernel
theorem d_Table_yaku_0 : decode prog_1_method_21_code 0 = .ok (.iload_n 1, 1) := by decide +kernel
theorem d_Table_yaku_1 : decode prog_1_method_21_code 1 = .ok (.invokestatic 169, 3) := by decide +kernel
theorem d_Table_yaku_4 : decode prog_1_method_21_code 4 = .ok (.ifCond .eq 18, 3) := by decide +kernel
theorem d_Table_yaku_7 : decode prog_1_method_21_code 7 = .ok (.aload_n 0, 1) := by decide +kernel
theorem d_Table_yaku_8 : decode prog_1_method_21_code 8 = .ok (.getfield 11, 3) := by decide +kernel
theorem d_Table_yaku_11 : decode prog_1_method_21_code 11 = .ok (.iload_n 1, 1) := by decide +kernel
theorem d_Table_yaku_12 : decode prog_1_method_21_code 12 = .ok (.aaload, 1) := by decide +kernel
theorem d_Table_yaku_13 : decode prog_1_method_21_code 13 = .ok (.getfield 130, 3) := by decide +kernel
theorem d_Table_yaku_16 : decode prog_1_method_21_code 16 = .ok (.getfield 213, 3) := by decide +kernel
theorem d_Table_yaku_19 : decode prog_1_method_21_code 19 = .ok (.goto 4, 3) := by decide +kernel
theorem d_Table_yaku_22 : decode prog_1_method_21_code 22 = .ok (.lconst 0, 1) := by decide +kernel
theorem d_Table_yaku_23 : decode prog_1_method_21_code 23 = .ok (.lreturn, 1) := by decide +kernel
theorem d_Table_state_0 : decode prog_1_method_22_code 0 = .ok (.aload_n 0, 1) := by decide +kernel
theorem d_Table_state_1 : decode prog_1_method_22_code 1 = .ok (.getfield 34, 3) := by decide +kernel
theorem d_Table_state_4 : decode prog_1_method_22_code 4 = .ok (.getfield 220, 3) := by decide +kernel
theorem d_Table_state_7 : decode prog_1_method_22_code 7 = .ok (.ireturn, 1) := by decide +kernel
theorem d_Model_draw_0 : decode prog_9_method_2_code 0 = .ok (.aload_n 0, 1) := by decide +kernel
theorem d_Model_draw_1 : decode prog_9_method_2_code 1 = .ok (.aload_n 0, 1) := by decide +kernel
theorem d_Model_draw_2 : decode prog_9_method_2_code 2 = .ok (.getfield 78, 3) := by decide +kernel
theorem d_Model_draw_5 : decode prog_9_method_2_code 5 = .ok (.aload_n 0, 1) := by decide +kernel
theorem d_Model_draw_6 : decode prog_9_method_2_code 6 = .ok (.getfield 78, 3) := by decide +kernel
theorem d_Model_draw_9 : decode prog_9_method_2_code 9 = .ok (.bipush 13, 2) := by decide +kernel
theorem d_Model_draw_11 : decode prog_9_method_2_code 11 = .ok (.ishl, 1) := by decide +kernel
theorem d_Model_draw_12 : decode prog_9_method_2_code 12 = .ok (.ixor, 1) := by decide +kernel
theorem d_Model_draw_13 : decode prog_9_method_2_code 13 = .ok (.putfield 78, 3) := by decide +kernel
theorem d_Model_draw_16 : decode prog_9_method_2_code 16 = .ok (.aload_n 0, 1) := by decide +kernel
theorem d_Model_draw_17 : decode prog_9_method_2_code 17 = .ok (.aload_n 0, 1) := by decide +kernel
theorem d_Model_draw_18 : decode prog_9_method_2_code 18 = .ok (.getfield 78, 3) := by decide +kernel
theorem d_Model_draw_21 : decode prog_9_method_2_code 21 = .ok (.aload_n 0, 1) := by decide +kernel
theorem d_Model_draw_22 : decode prog_9_method_2_code 22 = .ok (.getfield 78, 3) := by decide +kernel
theorem d_Model_draw_25 : decode prog_9_method_2_code 25 = .ok (.bipush 17, 2) := by decide +kernel
theorem d_Model_draw_27 : decode prog_9_method_2_code 27 = .ok (.iushr, 1) := by decide +kernel
theorem d_Model_draw_28 : decode prog_9_method_2_code 28 = .ok (.ixor, 1) := by decide +kernel
theorem d_Model_draw_29 : decode prog_9_method_2_code 29 = .ok (.putfield 78, 3) := by decide +kernel
theorem d_Model_draw_32 : decode prog_9_method_2_code 32 = .ok (.aload_n 0, 1) := by decide +kernel
theorem d_Model_draw_33 : decode prog_9_method_2_code 33 = .ok (.aload_n 0, 1) := by decide +kernel
theorem d_Model_draw_34 : decode prog_9_method_2_code 34 = .ok (.getfield 78, 3) := by decide +kernel
theorem d_Model_draw_37 : decode prog_9_method_2_code 37 = .ok (.aload_n 0, 1) := by decide +kernel
theorem d_Model_draw_38 : decode prog_9_method_2_code 38 = .ok (.getfield 78, 3) := by decide +kernel
theorem d_Model_draw_41 : decode prog_9_method_2_code 41 = .ok (.iconst 5, 1) := by decide +kernel
theorem d_Model_draw_42 : decode prog_9_method_2_code 42 = .ok (.ishl, 1) := by decide +kernel
theorem d_Model_draw_43 : decode prog_9_method_2_code 43 = .ok (.ixor, 1) := by decide +kernel
theorem d_Model_draw_44 : decode prog_9_method_2_code 44 = .ok (.putfield 78, 3) := by decide +kernel
theorem d_Model_draw_47 : decode prog_9_method_2_code 47 = .ok (.aload_n 0, 1) := by decide +kernel
theorem d_Model_draw_48 : decode prog_9_method_2_code 48 = .ok (.getfield 78, 3) := by decide +kernel
theorem d_Model_draw_51 : decode prog_9_method_2_code 51 = .ok (.ldc 85, 2) := by decide +kernel
theorem d_Model_draw_53 : decode prog_9_method_2_code 53 = .ok (.iand, 1) := by decide +kernel
theorem d_Model_draw_54 : decode prog_9_method_2_code 54 = .ok (.iload_n 1, 1) := by decide +kernel
theorem d_Model_draw_55 : decode prog_9_method_2_code 55 = .ok (.irem, 1) := by decide +kernel
theorem d_Model_draw_56 : decode prog_9_method_2_code 56 = .ok (.ireturn, 1) := by decide +kernel
theorem d_Model_shuffle_0 : decode prog_9_method_3_code 0 = .ok (.iconst 0, 1) := by decide +kernel
theorem d_Model_shuffle_1 : decode prog_9_method_3_code 1 = .ok (.istore_n 1, 1) := by decide +kernel
theorem d_Model_shuffle_2 : decode prog_9_method_3_code 2 = .ok (.iload_n 1, 1) := by decide +kernel
theorem d_Model_shuffle_3 : decode prog_9_method_3_code 3 = .ok (.sipush 136, 3) := by decide +kernel
theorem d_Model_shuffle_6 : decode prog_9_method_3_code 6 = .ok (.if_icmp .ge 18, 3) := by decide +kernel
theorem d_Model_shuffle_9 : decode prog_9_method_3_code 9 = .ok (.aload_n 0, 1) := by decide +kernel
theorem d_Model_shuffle_10 : decode prog_9_method_3_code 10 = .ok (.getfield 7, 3) := by decide +kernel
theorem d_Model_shuffle_13 : decode prog_9_method_3_code 13 = .ok (.iload_n 1, 1) := by decide +kernel
theorem d_Model_shuffle_14 : decode prog_9_method_3_code 14 = .ok (.iload_n 1, 1) := by decide +kernel
theorem d_Model_shuffle_15 : decode prog_9_method_3_code 15 = .ok (.iconst 4, 1) := by decide +kernel
theorem d_Model_shuffle_16 : decode prog_9_method_3_code 16 = .ok (.idiv, 1) := by decide +kernel
theorem d_Model_shuffle_17 : decode prog_9_method_3_code 17 = .ok (.iastore, 1) := by decide +kernel
theorem d_Model_shuffle_18 : decode prog_9_method_3_code 18 = .ok (.iinc 1 1, 3) := by decide +kernel
theorem d_Model_shuffle_21 : decode prog_9_method_3_code 21 = .ok (.goto (-19), 3) := by decide +kernel
theorem d_Model_shuffle_24 : decode prog_9_method_3_code 24 = .ok (.sipush 135, 3) := by decide +kernel
theorem d_Model_shuffle_27 : decode prog_9_method_3_code 27 = .ok (.istore_n 1, 1) := by decide +kernel
theorem d_Model_shuffle_28 : decode prog_9_method_3_code 28 = .ok (.iload_n 1, 1) := by decide +kernel
theorem d_Model_shuffle_29 : decode prog_9_method_3_code 29 = .ok (.ifCond .le 43, 3) := by decide +kernel
theorem d_Model_shuffle_32 : decode prog_9_method_3_code 32 = .ok (.aload_n 0, 1) := by decide +kernel
theorem d_Model_shuffle_33 : decode prog_9_method_3_code 33 = .ok (.iload_n 1, 1) := by decide +kernel
theorem d_Model_shuffle_34 : decode prog_9_method_3_code 34 = .ok (.iconst 1, 1) := by decide +kernel
theorem d_Model_shuffle_35 : decode prog_9_method_3_code 35 = .ok (.iadd, 1) := by decide +kernel
theorem d_Model_shuffle_36 : decode prog_9_method_3_code 36 = .ok (.invokevirtual 86, 3) := by decide +kernel
theorem d_Model_shuffle_39 : decode prog_9_method_3_code 39 = .ok (.istore_n 2, 1) := by decide +kernel
theorem d_Model_shuffle_40 : decode prog_9_method_3_code 40 = .ok (.aload_n 0, 1) := by decide +kernel
theorem d_Model_shuffle_41 : decode prog_9_method_3_code 41 = .ok (.getfield 7, 3) := by decide +kernel
theorem d_Model_shuffle_44 : decode prog_9_method_3_code 44 = .ok (.iload_n 1, 1) := by decide +kernel
theorem d_Model_shuffle_45 : decode prog_9_method_3_code 45 = .ok (.iaload, 1) := by decide +kernel
theorem d_Model_shuffle_46 : decode prog_9_method_3_code 46 = .ok (.istore_n 3, 1) := by decide +kernel
theorem d_Model_shuffle_47 : decode prog_9_method_3_code 47 = .ok (.aload_n 0, 1) := by decide +kernel
theorem d_Model_shuffle_48 : decode prog_9_method_3_code 48 = .ok (.getfield 7, 3) := by decide +kernel
theorem d_Model_shuffle_51 : decode prog_9_method_3_code 51 = .ok (.iload_n 1, 1) := by decide +kernel
theorem d_Model_shuffle_52 : decode prog_9_method_3_code 52 = .ok (.aload_n 0, 1) := by decide +kernel
theorem d_Model_shuffle_53 : decode prog_9_method_3_code 53 = .ok (.getfield 7, 3) := by decide +kernel
theorem d_Model_shuffle_56 : decode prog_9_method_3_code 56 = .ok (.iload_n 2, 1) := by decide +kernel
theorem d_Model_shuffle_57 : decode prog_9_method_3_code 57 = .ok (.iaload, 1) := by decide +kernel
theorem d_Model_shuffle_58 : decode prog_9_method_3_code 58 = .ok (.iastore, 1) := by decide +kernel
theorem d_Model_shuffle_59 : decode prog_9_method_3_code 59 = .ok (.aload_n 0, 1) := by decide +kernel
theorem d_Model_shuffle_60 : decode prog_9_method_3_code 60 = .ok (.getfield 7, 3) := by decide +kernel
theorem d_Model_shuffle_63 : decode prog_9_method_3_code 63 = .ok (.iload_n 2, 1) := by decide +kernel
theorem d_Model_shuffle_64 : decode prog_9_method_3_code 64 = .ok (.iload_n 3, 1) := by decide +kernel
theorem d_Model_shuffle_65 : decode prog_9_method_3_code 65 = .ok (.iastore, 1) := by decide +kernel
theorem d_Model_shuffle_66 : decode prog_9_method_3_code 66 = .ok (.iinc 1 (-1), 3) := by decide +kernel
theorem d_Model_shuffle_69 : decode prog_9_method_3_code 69 = .ok (.goto (-41), 3) := by decide +kernel
theorem d_Model_shuffle_72 : decode prog_9_method_3_code 72 = .ok (.aload_n 0, 1) := by decide +kernel
theorem d_Model_shuffle_73 : decode prog_9_method_3_code 73 = .ok (.iconst 0, 1) := by decide +kernel
theorem d_Model_shuffle_74 : decode prog_9_method_3_code 74 = .ok (.putfield 90, 3) := by decide +kernel
theorem d_Model_shuffle_77 : decode prog_9_method_3_code 77 = .ok (.aload_n 0, 1) := by decide +kernel
theorem d_Model_shuffle_78 : decode prog_9_method_3_code 78 = .ok (.iconst 0, 1) := by decide +kernel
theorem d_Model_shuffle_79 : decode prog_9_method_3_code 79 = .ok (.putfield 93, 3) := by decide +kernel
theorem d_Model_shuffle_82 : decode prog_9_method_3_code 82 = .ok (.return_, 1) := by decide +kernel
theorem d_Model_arrange_0 : decode prog_9_method_4_code 0 = .ok (.aload_n 0, 1) := by decide +kernel
theorem d_Model_arrange_1 : decode prog_9_method_4_code 1 = .ok (.getfield 90, 3) := by decide +kernel
theorem d_Model_arrange_4 : decode prog_9_method_4_code 4 = .ok (.ifCond .ne 24, 3) := by decide +kernel
theorem d_Model_arrange_7 : decode prog_9_method_4_code 7 = .ok (.iload_n 1, 1) := by decide +kernel
theorem d_Model_arrange_8 : decode prog_9_method_4_code 8 = .ok (.ifCond .lt 20, 3) := by decide +kernel
theorem d_Model_arrange_11 : decode prog_9_method_4_code 11 = .ok (.iload_n 1, 1) := by decide +kernel
theorem d_Model_arrange_12 : decode prog_9_method_4_code 12 = .ok (.sipush 135, 3) := by decide +kernel
theorem d_Model_arrange_15 : decode prog_9_method_4_code 15 = .ok (.if_icmp .gt 13, 3) := by decide +kernel
theorem d_Model_arrange_18 : decode prog_9_method_4_code 18 = .ok (.iload_n 2, 1) := by decide +kernel
theorem d_Model_arrange_19 : decode prog_9_method_4_code 19 = .ok (.ifCond .lt 9, 3) := by decide +kernel
theorem d_Model_arrange_22 : decode prog_9_method_4_code 22 = .ok (.iload_n 2, 1) := by decide +kernel
theorem d_Model_arrange_23 : decode prog_9_method_4_code 23 = .ok (.bipush 33, 2) := by decide +kernel
theorem d_Model_arrange_25 : decode prog_9_method_4_code 25 = .ok (.if_icmp .le 5, 3) := by decide +kernel
theorem d_Model_arrange_28 : decode prog_9_method_4_code 28 = .ok (.iconst 0, 1) := by decide +kernel
theorem d_Model_arrange_29 : decode prog_9_method_4_code 29 = .ok (.ireturn, 1) := by decide +kernel
theorem d_Model_arrange_30 : decode prog_9_method_4_code 30 = .ok (.iload_n 1, 1) := by decide +kernel
theorem d_Model_arrange_31 : decode prog_9_method_4_code 31 = .ok (.istore_n 3, 1) := by decide +kernel
theorem d_Model_arrange_32 : decode prog_9_method_4_code 32 = .ok (.iload_n 3, 1) := by decide +kernel
theorem d_Model_arrange_33 : decode prog_9_method_4_code 33 = .ok (.sipush 136, 3) := by decide +kernel
theorem d_Model_arrange_36 : decode prog_9_method_4_code 36 = .ok (.if_icmp .ge 40, 3) := by decide +kernel
theorem d_Model_arrange_39 : decode prog_9_method_4_code 39 = .ok (.aload_n 0, 1) := by decide +kernel
theorem d_Model_arrange_40 : decode prog_9_method_4_code 40 = .ok (.getfield 7, 3) := by decide +kernel
theorem d_Model_arrange_43 : decode prog_9_method_4_code 43 = .ok (.iload_n 3, 1) := by decide +kernel
theorem d_Model_arrange_44 : decode prog_9_method_4_code 44 = .ok (.iaload, 1) := by decide +kernel
theorem d_Model_arrange_45 : decode prog_9_method_4_code 45 = .ok (.iload_n 2, 1) := by decide +kernel
theorem d_Model_arrange_46 : decode prog_9_method_4_code 46 = .ok (.if_icmp .ne 24, 3) := by decide +kernel
theorem d_Model_arrange_49 : decode prog_9_method_4_code 49 = .ok (.aload_n 0, 1) := by decide +kernel
theorem d_Model_arrange_50 : decode prog_9_method_4_code 50 = .ok (.getfield 7, 3) := by decide +kernel
theorem d_Model_arrange_53 : decode prog_9_method_4_code 53 = .ok (.iload_n 3, 1) := by decide +kernel
theorem d_Model_arrange_54 : decode prog_9_method_4_code 54 = .ok (.aload_n 0, 1) := by decide +kernel
theorem d_Model_arrange_55 : decode prog_9_method_4_code 55 = .ok (.getfield 7, 3) := by decide +kernel
theorem d_Model_arrange_58 : decode prog_9_method_4_code 58 = .ok (.iload_n 1, 1) := by decide +kernel
theorem d_Model_arrange_59 : decode prog_9_method_4_code 59 = .ok (.iaload, 1) := by decide +kernel
theorem d_Model_arrange_60 : decode prog_9_method_4_code 60 = .ok (.iastore, 1) := by decide +kernel
theorem d_Model_arrange_61 : decode prog_9_method_4_code 61 = .ok (.aload_n 0, 1) := by decide +kernel
theorem d_Model_arrange_62 : decode prog_9_method_4_code 62 = .ok (.getfield 7, 3) := by decide +kernel
theorem d_Model_arrange_65 : decode prog_9_method_4_code 65 = .ok (.iload_n 1, 1) := by decide +kernel
theorem d_Model_arrange_66 : decode prog_9_method_4_code 66 = .ok (.iload_n 2, 1) := by decide +kernel
theorem d_Model_arrange_67 : decode prog_9_method_4_code 67 = .ok (.iastore, 1) := by decide +kernel
theorem d_Model_arrange_68 : decode prog_9_method_4_code 68 = .ok (.iconst 1, 1) := by decide +kernel
theorem d_Model_arrange_69 : decode prog_9_method_4_code 69 = .ok (.ireturn, 1) := by decide +kernel
theorem d_Model_arrange_70 : decode prog_9_method_4_code 70 = .ok (.iinc 3 1, 3) := by decide +kernel
theorem d_Model_arrange_73 : decode prog_9_method_4_code 73 = .ok (.goto (-41), 3) := by decide +kernel
theorem d_Model_arrange_76 : decode prog_9_method_4_code 76 = .ok (.iconst 0, 1) := by decide +kernel
theorem d_Model_arrange_77 : decode prog_9_method_4_code 77 = .ok (.ireturn, 1) := by decide +kernel
theorem d_Model_end_0 : decode prog_9_method_69_code 0 = .ok (.aload_n 0, 1) := by decide +kernel
theorem d_Model_end_1 : decode prog_9_method_69_code 1 = .ok (.iload_n 2, 1) := by decide +kernel
theorem d_Model_end_2 : decode prog_9_method_69_code 2 = .ok (.ifCond .eq 12, 3) := by decide +kernel
theorem d_Model_end_5 : decode prog_9_method_69_code 5 = .ok (.aload_n 0, 1) := by decide +kernel
theorem d_Model_end_6 : decode prog_9_method_69_code 6 = .ok (.getfield 365, 3) := by decide +kernel
theorem d_Model_end_9 : decode prog_9_method_69_code 9 = .ok (.iconst 1, 1) := by decide +kernel
theorem d_Model_end_10 : decode prog_9_method_69_code 10 = .ok (.iadd, 1) := by decide +kernel
theorem d_Model_end_11 : decode prog_9_method_69_code 11 = .ok (.goto 4, 3) := by decide +kernel
theorem d_Model_end_14 : decode prog_9_method_69_code 14 = .ok (.iconst 0, 1) := by decide +kernel
theorem d_Model_end_15 : decode prog_9_method_69_code 15 = .ok (.putfield 365, 3) := by decide +kernel
theorem d_Model_end_18 : decode prog_9_method_69_code 18 = .ok (.aload_n 0, 1) := by decide +kernel
theorem d_Model_end_19 : decode prog_9_method_69_code 19 = .ok (.iconst 3, 1) := by decide +kernel
theorem d_Model_end_20 : decode prog_9_method_69_code 20 = .ok (.putfield 90, 3) := by decide +kernel
theorem d_Model_end_23 : decode prog_9_method_69_code 23 = .ok (.iload_n 1, 1) := by decide +kernel
theorem d_Model_end_24 : decode prog_9_method_69_code 24 = .ok (.ifCond .eq 4, 3) := by decide +kernel
theorem d_Model_end_27 : decode prog_9_method_69_code 27 = .ok (.return_, 1) := by decide +kernel
theorem d_Model_end_28 : decode prog_9_method_69_code 28 = .ok (.aload_n 0, 1) := by decide +kernel
theorem d_Model_end_29 : decode prog_9_method_69_code 29 = .ok (.getfield 96, 3) := by decide +kernel
theorem d_Model_end_32 : decode prog_9_method_69_code 32 = .ok (.iconst 3, 1) := by decide +kernel
theorem d_Model_end_33 : decode prog_9_method_69_code 33 = .ok (.if_icmp .ne 81, 3) := by decide +kernel
theorem d_Model_end_36 : decode prog_9_method_69_code 36 = .ok (.aload_n 0, 1) := by decide +kernel
theorem d_Model_end_37 : decode prog_9_method_69_code 37 = .ok (.getfield 216, 3) := by decide +kernel
theorem d_Model_end_40 : decode prog_9_method_69_code 40 = .ok (.iconst 1, 1) := by decide +kernel
theorem d_Model_end_41 : decode prog_9_method_69_code 41 = .ok (.if_icmp .ne 73, 3) := by decide +kernel
theorem d_Model_end_44 : decode prog_9_method_69_code 44 = .ok (.aload_n 0, 1) := by decide +kernel
theorem d_Model_end_45 : decode prog_9_method_69_code 45 = .ok (.iconst 4, 1) := by decide +kernel
theorem d_Model_end_46 : decode prog_9_method_69_code 46 = .ok (.putfield 90, 3) := by decide +kernel
theorem d_Model_end_49 : decode prog_9_method_69_code 49 = .ok (.iconst 0, 1) := by decide +kernel
theorem d_Model_end_50 : decode prog_9_method_69_code 50 = .ok (.istore_n 3, 1) := by decide +kernel
theorem d_Model_end_51 : decode prog_9_method_69_code 51 = .ok (.iconst 1, 1) := by decide +kernel
theorem d_Model_end_52 : decode prog_9_method_69_code 52 = .ok (.istore 4, 2) := by decide +kernel
theorem d_Model_end_54 : decode prog_9_method_69_code 54 = .ok (.iload 4, 2) := by decide +kernel
theorem d_Model_end_56 : decode prog_9_method_69_code 56 = .ok (.iconst 4, 1) := by decide +kernel
theorem d_Model_end_57 : decode prog_9_method_69_code 57 = .ok (.if_icmp .ge 32, 3) := by decide +kernel
theorem d_Model_end_60 : decode prog_9_method_69_code 60 = .ok (.aload_n 0, 1) := by decide +kernel
theorem d_Model_end_61 : decode prog_9_method_69_code 61 = .ok (.getfield 13, 3) := by decide +kernel
theorem d_Model_end_64 : decode prog_9_method_69_code 64 = .ok (.iload 4, 2) := by decide +kernel
theorem d_Model_end_66 : decode prog_9_method_69_code 66 = .ok (.iaload, 1) := by decide +kernel
theorem d_Model_end_67 : decode prog_9_method_69_code 67 = .ok (.aload_n 0, 1) := by decide +kernel
theorem d_Model_end_68 : decode prog_9_method_69_code 68 = .ok (.getfield 13, 3) := by decide +kernel
theorem d_Model_end_71 : decode prog_9_method_69_code 71 = .ok (.iload_n 3, 1) := by decide +kernel
theorem d_Model_end_72 : decode prog_9_method_69_code 72 = .ok (.iaload, 1) := by decide +kernel
theorem d_Model_end_73 : decode prog_9_method_69_code 73 = .ok (.if_icmp .le 8, 3) := by decide +kernel
theorem d_Model_end_76 : decode prog_9_method_69_code 76 = .ok (.iload 4, 2) := by decide +kernel
theorem d_Model_end_78 : decode prog_9_method_69_code 78 = .ok (.goto 4, 3) := by decide +kernel
theorem d_Model_end_81 : decode prog_9_method_69_code 81 = .ok (.iload_n 3, 1) := by decide +kernel
theorem d_Model_end_82 : decode prog_9_method_69_code 82 = .ok (.istore_n 3, 1) := by decide +kernel
theorem d_Model_end_83 : decode prog_9_method_69_code 83 = .ok (.iinc 4 1, 3) := by decide +kernel
theorem d_Model_end_86 : decode prog_9_method_69_code 86 = .ok (.goto (-32), 3) := by decide +kernel
theorem d_Model_end_89 : decode prog_9_method_69_code 89 = .ok (.aload_n 0, 1) := by decide +kernel
theorem d_Model_end_90 : decode prog_9_method_69_code 90 = .ok (.getfield 13, 3) := by decide +kernel
theorem d_Model_end_93 : decode prog_9_method_69_code 93 = .ok (.iload_n 3, 1) := by decide +kernel
theorem d_Model_end_94 : decode prog_9_method_69_code 94 = .ok (.dup2, 1) := by decide +kernel
theorem d_Model_end_95 : decode prog_9_method_69_code 95 = .ok (.iaload, 1) := by decide +kernel
theorem d_Model_end_96 : decode prog_9_method_69_code 96 = .ok (.sipush 1000, 3) := by decide +kernel
theorem d_Model_end_99 : decode prog_9_method_69_code 99 = .ok (.aload_n 0, 1) := by decide +kernel
theorem d_Model_end_100 : decode prog_9_method_69_code 100 = .ok (.getfield 346, 3) := by decide +kernel
theorem d_Model_end_103 : decode prog_9_method_69_code 103 = .ok (.imul, 1) := by decide +kernel
theorem d_Model_end_104 : decode prog_9_method_69_code 104 = .ok (.iadd, 1) := by decide +kernel
theorem d_Model_end_105 : decode prog_9_method_69_code 105 = .ok (.iastore, 1) := by decide +kernel
theorem d_Model_end_106 : decode prog_9_method_69_code 106 = .ok (.aload_n 0, 1) := by decide +kernel
theorem d_Model_end_107 : decode prog_9_method_69_code 107 = .ok (.iconst 0, 1) := by decide +kernel
theorem d_Model_end_108 : decode prog_9_method_69_code 108 = .ok (.putfield 346, 3) := by decide +kernel
theorem d_Model_end_111 : decode prog_9_method_69_code 111 = .ok (.goto 40, 3) := by decide +kernel
theorem d_Model_end_114 : decode prog_9_method_69_code 114 = .ok (.aload_n 0, 1) := by decide +kernel
theorem d_Model_end_115 : decode prog_9_method_69_code 115 = .ok (.aload_n 0, 1) := by decide +kernel
theorem d_Model_end_116 : decode prog_9_method_69_code 116 = .ok (.getfield 96, 3) := by decide +kernel
theorem d_Model_end_119 : decode prog_9_method_69_code 119 = .ok (.iconst 3, 1) := by decide +kernel
theorem d_Model_end_120 : decode prog_9_method_69_code 120 = .ok (.if_icmp .ne 12, 3) := by decide +kernel
theorem d_Model_end_123 : decode prog_9_method_69_code 123 = .ok (.aload_n 0, 1) := by decide +kernel
theorem d_Model_end_124 : decode prog_9_method_69_code 124 = .ok (.getfield 216, 3) := by decide +kernel
theorem d_Model_end_127 : decode prog_9_method_69_code 127 = .ok (.iconst 1, 1) := by decide +kernel
theorem d_Model_end_128 : decode prog_9_method_69_code 128 = .ok (.iadd, 1) := by decide +kernel
theorem d_Model_end_129 : decode prog_9_method_69_code 129 = .ok (.goto 7, 3) := by decide +kernel
theorem d_Model_end_132 : decode prog_9_method_69_code 132 = .ok (.aload_n 0, 1) := by decide +kernel
theorem d_Model_end_133 : decode prog_9_method_69_code 133 = .ok (.getfield 216, 3) := by decide +kernel
theorem d_Model_end_136 : decode prog_9_method_69_code 136 = .ok (.putfield 216, 3) := by decide +kernel
theorem d_Model_end_139 : decode prog_9_method_69_code 139 = .ok (.aload_n 0, 1) := by decide +kernel
theorem d_Model_end_140 : decode prog_9_method_69_code 140 = .ok (.aload_n 0, 1) := by decide +kernel
theorem d_Model_end_141 : decode prog_9_method_69_code 141 = .ok (.getfield 96, 3) := by decide +kernel
theorem d_Model_end_144 : decode prog_9_method_69_code 144 = .ok (.iconst 1, 1) := by decide +kernel
theorem d_Model_end_145 : decode prog_9_method_69_code 145 = .ok (.iadd, 1) := by decide +kernel
theorem d_Model_end_146 : decode prog_9_method_69_code 146 = .ok (.iconst 4, 1) := by decide +kernel
theorem d_Model_end_147 : decode prog_9_method_69_code 147 = .ok (.irem, 1) := by decide +kernel
theorem d_Model_end_148 : decode prog_9_method_69_code 148 = .ok (.putfield 96, 3) := by decide +kernel
theorem d_Model_end_151 : decode prog_9_method_69_code 151 = .ok (.return_, 1) := by decide +kernel
theorem d_Model_add_0 : decode prog_9_method_15_code 0 = .ok (.aload_n 0, 1) := by decide +kernel
theorem d_Model_add_1 : decode prog_9_method_15_code 1 = .ok (.getfield 72, 3) := by decide +kernel
theorem d_Model_add_4 : decode prog_9_method_15_code 4 = .ok (.aload_n 0, 1) := by decide +kernel
theorem d_Model_add_5 : decode prog_9_method_15_code 5 = .ok (.getfield 140, 3) := by decide +kernel
theorem d_Model_add_8 : decode prog_9_method_15_code 8 = .ok (.iload_n 1, 1) := by decide +kernel
theorem d_Model_add_9 : decode prog_9_method_15_code 9 = .ok (.iastore, 1) := by decide +kernel
theorem d_Model_add_10 : decode prog_9_method_15_code 10 = .ok (.aload_n 0, 1) := by decide +kernel
theorem d_Model_add_11 : decode prog_9_method_15_code 11 = .ok (.getfield 69, 3) := by decide +kernel
theorem d_Model_add_14 : decode prog_9_method_15_code 14 = .ok (.aload_n 0, 1) := by decide +kernel
theorem d_Model_add_15 : decode prog_9_method_15_code 15 = .ok (.getfield 140, 3) := by decide +kernel
theorem d_Model_add_18 : decode prog_9_method_15_code 18 = .ok (.iload_n 2, 1) := by decide +kernel
theorem d_Model_add_19 : decode prog_9_method_15_code 19 = .ok (.iastore, 1) := by decide +kernel
theorem d_Model_add_20 : decode prog_9_method_15_code 20 = .ok (.aload_n 0, 1) := by decide +kernel
theorem d_Model_add_21 : decode prog_9_method_15_code 21 = .ok (.getfield 75, 3) := by decide +kernel
theorem d_Model_add_24 : decode prog_9_method_15_code 24 = .ok (.aload_n 0, 1) := by decide +kernel
theorem d_Model_add_25 : decode prog_9_method_15_code 25 = .ok (.getfield 140, 3) := by decide +kernel
theorem d_Model_add_28 : decode prog_9_method_15_code 28 = .ok (.iconst 0, 1) := by decide +kernel
theorem d_Model_add_29 : decode prog_9_method_15_code 29 = .ok (.bastore, 1) := by decide +kernel
theorem d_Model_add_30 : decode prog_9_method_15_code 30 = .ok (.aload_n 0, 1) := by decide +kernel
theorem d_Model_add_31 : decode prog_9_method_15_code 31 = .ok (.dup, 1) := by decide +kernel
theorem d_Model_add_32 : decode prog_9_method_15_code 32 = .ok (.getfield 140, 3) := by decide +kernel
theorem d_Model_add_35 : decode prog_9_method_15_code 35 = .ok (.iconst 1, 1) := by decide +kernel
theorem d_Model_add_36 : decode prog_9_method_15_code 36 = .ok (.iadd, 1) := by decide +kernel
theorem d_Model_add_37 : decode prog_9_method_15_code 37 = .ok (.putfield 140, 3) := by decide +kernel
theorem d_Model_add_40 : decode prog_9_method_15_code 40 = .ok (.return_, 1) := by decide +kernel
theorem d_Model_rank_0 : decode prog_9_method_10_code 0 = .ok (.iload_n 0, 1) := by decide +kernel
theorem d_Model_rank_1 : decode prog_9_method_10_code 1 = .ok (.bipush 9, 2) := by decide +kernel
theorem d_Model_rank_3 : decode prog_9_method_10_code 3 = .ok (.irem, 1) := by decide +kernel
theorem d_Model_rank_4 : decode prog_9_method_10_code 4 = .ok (.iconst 1, 1) := by decide +kernel
theorem d_Model_rank_5 : decode prog_9_method_10_code 5 = .ok (.iadd, 1) := by decide +kernel
theorem d_Model_rank_6 : decode prog_9_method_10_code 6 = .ok (.ireturn, 1) := by decide +kernel
theorem d_Model_apart_0 : decode prog_9_method_16_code 0 = .ok (.aload_n 0, 1) := by decide +kernel
theorem d_Model_apart_1 : decode prog_9_method_16_code 1 = .ok (.iconst 0, 1) := by decide +kernel
theorem d_Model_apart_2 : decode prog_9_method_16_code 2 = .ok (.putfield 140, 3) := by decide +kernel
theorem d_Model_apart_5 : decode prog_9_method_16_code 5 = .ok (.iconst 0, 1) := by decide +kernel
theorem d_Model_apart_6 : decode prog_9_method_16_code 6 = .ok (.istore_n 3, 1) := by decide +kernel
theorem d_Model_apart_7 : decode prog_9_method_16_code 7 = .ok (.iconst 0, 1) := by decide +kernel
theorem d_Model_apart_8 : decode prog_9_method_16_code 8 = .ok (.istore 4, 2) := by decide +kernel
theorem d_Model_apart_10 : decode prog_9_method_16_code 10 = .ok (.iload 4, 2) := by decide +kernel
theorem d_Model_apart_12 : decode prog_9_method_16_code 12 = .ok (.bipush 34, 2) := by decide +kernel
theorem d_Model_apart_14 : decode prog_9_method_16_code 14 = .ok (.if_icmp .ge 87, 3) := by decide +kernel
theorem d_Model_apart_17 : decode prog_9_method_16_code 17 = .ok (.aload_n 0, 1) := by decide +kernel
theorem d_Model_apart_18 : decode prog_9_method_16_code 18 = .ok (.getfield 66, 3) := by decide +kernel
theorem d_Model_apart_21 : decode prog_9_method_16_code 21 = .ok (.iload 4, 2) := by decide +kernel
theorem d_Model_apart_23 : decode prog_9_method_16_code 23 = .ok (.aload_n 0, 1) := by decide +kernel
theorem d_Model_apart_24 : decode prog_9_method_16_code 24 = .ok (.getfield 60, 3) := by decide +kernel
theorem d_Model_apart_27 : decode prog_9_method_16_code 27 = .ok (.iload 4, 2) := by decide +kernel
theorem d_Model_apart_29 : decode prog_9_method_16_code 29 = .ok (.iaload, 1) := by decide +kernel
theorem d_Model_apart_30 : decode prog_9_method_16_code 30 = .ok (.iload 4, 2) := by decide +kernel
theorem d_Model_apart_32 : decode prog_9_method_16_code 32 = .ok (.aload_n 0, 1) := by decide +kernel
theorem d_Model_apart_33 : decode prog_9_method_16_code 33 = .ok (.getfield 137, 3) := by decide +kernel
theorem d_Model_apart_36 : decode prog_9_method_16_code 36 = .ok (.if_icmp .ne 7, 3) := by decide +kernel
theorem d_Model_apart_39 : decode prog_9_method_16_code 39 = .ok (.iconst 2, 1) := by decide +kernel
theorem d_Model_apart_40 : decode prog_9_method_16_code 40 = .ok (.goto 4, 3) := by decide +kernel
theorem d_Model_apart_43 : decode prog_9_method_16_code 43 = .ok (.iconst 0, 1) := by decide +kernel
theorem d_Model_apart_44 : decode prog_9_method_16_code 44 = .ok (.isub, 1) := by decide +kernel
theorem d_Model_apart_45 : decode prog_9_method_16_code 45 = .ok (.iastore, 1) := by decide +kernel
theorem d_Model_apart_46 : decode prog_9_method_16_code 46 = .ok (.aload_n 0, 1) := by decide +kernel
theorem d_Model_apart_47 : decode prog_9_method_16_code 47 = .ok (.getfield 66, 3) := by decide +kernel
theorem d_Model_apart_50 : decode prog_9_method_16_code 50 = .ok (.iload 4, 2) := by decide +kernel
theorem d_Model_apart_52 : decode prog_9_method_16_code 52 = .ok (.iaload, 1) := by decide +kernel
theorem d_Model_apart_53 : decode prog_9_method_16_code 53 = .ok (.iconst 3, 1) := by decide +kernel
theorem d_Model_apart_54 : decode prog_9_method_16_code 54 = .ok (.if_icmp .lt 41, 3) := by decide +kernel
theorem d_Model_apart_57 : decode prog_9_method_16_code 57 = .ok (.iload_n 1, 1) := by decide +kernel
theorem d_Model_apart_58 : decode prog_9_method_16_code 58 = .ok (.iload_n 3, 1) := by decide +kernel
theorem d_Model_apart_59 : decode prog_9_method_16_code 59 = .ok (.ishr, 1) := by decide +kernel
theorem d_Model_apart_60 : decode prog_9_method_16_code 60 = .ok (.iconst 1, 1) := by decide +kernel
theorem d_Model_apart_61 : decode prog_9_method_16_code 61 = .ok (.iand, 1) := by decide +kernel
theorem d_Model_apart_62 : decode prog_9_method_16_code 62 = .ok (.iconst 1, 1) := by decide +kernel
theorem d_Model_apart_63 : decode prog_9_method_16_code 63 = .ok (.if_icmp .ne 29, 3) := by decide +kernel
theorem d_Model_apart_66 : decode prog_9_method_16_code 66 = .ok (.aload_n 0, 1) := by decide +kernel
theorem d_Model_apart_67 : decode prog_9_method_16_code 67 = .ok (.getfield 140, 3) := by decide +kernel
theorem d_Model_apart_70 : decode prog_9_method_16_code 70 = .ok (.iconst 4, 1) := by decide +kernel
theorem d_Model_apart_71 : decode prog_9_method_16_code 71 = .ok (.if_icmp .ge 21, 3) := by decide +kernel
theorem d_Model_apart_74 : decode prog_9_method_16_code 74 = .ok (.aload_n 0, 1) := by decide +kernel
theorem d_Model_apart_75 : decode prog_9_method_16_code 75 = .ok (.getfield 66, 3) := by decide +kernel
theorem d_Model_apart_78 : decode prog_9_method_16_code 78 = .ok (.iload 4, 2) := by decide +kernel
theorem d_Model_apart_80 : decode prog_9_method_16_code 80 = .ok (.dup2, 1) := by decide +kernel
theorem d_Model_apart_81 : decode prog_9_method_16_code 81 = .ok (.iaload, 1) := by decide +kernel
theorem d_Model_apart_82 : decode prog_9_method_16_code 82 = .ok (.iconst 3, 1) := by decide +kernel
theorem d_Model_apart_83 : decode prog_9_method_16_code 83 = .ok (.isub, 1) := by decide +kernel
theorem d_Model_apart_84 : decode prog_9_method_16_code 84 = .ok (.iastore, 1) := by decide +kernel
theorem d_Model_apart_85 : decode prog_9_method_16_code 85 = .ok (.aload_n 0, 1) := by decide +kernel
theorem d_Model_apart_86 : decode prog_9_method_16_code 86 = .ok (.iconst 1, 1) := by decide +kernel
theorem d_Model_apart_87 : decode prog_9_method_16_code 87 = .ok (.iload 4, 2) := by decide +kernel
theorem d_Model_apart_89 : decode prog_9_method_16_code 89 = .ok (.invokevirtual 143, 3) := by decide +kernel
theorem d_Model_apart_92 : decode prog_9_method_16_code 92 = .ok (.iinc 3 1, 3) := by decide +kernel
theorem d_Model_apart_95 : decode prog_9_method_16_code 95 = .ok (.iinc 4 1, 3) := by decide +kernel
theorem d_Model_apart_98 : decode prog_9_method_16_code 98 = .ok (.goto (-88), 3) := by decide +kernel
theorem d_Model_apart_101 : decode prog_9_method_16_code 101 = .ok (.iconst 0, 1) := by decide +kernel
theorem d_Model_apart_102 : decode prog_9_method_16_code 102 = .ok (.istore 4, 2) := by decide +kernel
theorem d_Model_apart_104 : decode prog_9_method_16_code 104 = .ok (.iload 4, 2) := by decide +kernel
theorem d_Model_apart_106 : decode prog_9_method_16_code 106 = .ok (.bipush 34, 2) := by decide +kernel
theorem d_Model_apart_108 : decode prog_9_method_16_code 108 = .ok (.if_icmp .ge 136, 3) := by decide +kernel
theorem d_Model_apart_111 : decode prog_9_method_16_code 111 = .ok (.iload 4, 2) := by decide +kernel
theorem d_Model_apart_113 : decode prog_9_method_16_code 113 = .ok (.bipush 27, 2) := by decide +kernel
theorem d_Model_apart_115 : decode prog_9_method_16_code 115 = .ok (.if_icmp .ge 17, 3) := by decide +kernel
theorem d_Model_apart_118 : decode prog_9_method_16_code 118 = .ok (.iload 4, 2) := by decide +kernel
theorem d_Model_apart_120 : decode prog_9_method_16_code 120 = .ok (.invokestatic 147, 3) := by decide +kernel
theorem d_Model_apart_123 : decode prog_9_method_16_code 123 = .ok (.bipush 8, 2) := by decide +kernel
theorem d_Model_apart_125 : decode prog_9_method_16_code 125 = .ok (.if_icmp .ge 7, 3) := by decide +kernel
theorem d_Model_apart_128 : decode prog_9_method_16_code 128 = .ok (.iconst 1, 1) := by decide +kernel
theorem d_Model_apart_129 : decode prog_9_method_16_code 129 = .ok (.goto 4, 3) := by decide +kernel
theorem d_Model_apart_132 : decode prog_9_method_16_code 132 = .ok (.iconst 0, 1) := by decide +kernel
theorem d_Model_apart_133 : decode prog_9_method_16_code 133 = .ok (.istore 5, 2) := by decide +kernel
theorem d_Model_apart_135 : decode prog_9_method_16_code 135 = .ok (.aload_n 0, 1) := by decide +kernel
theorem d_Model_apart_136 : decode prog_9_method_16_code 136 = .ok (.getfield 66, 3) := by decide +kernel
theorem d_Model_apart_139 : decode prog_9_method_16_code 139 = .ok (.iload 4, 2) := by decide +kernel
theorem d_Model_apart_141 : decode prog_9_method_16_code 141 = .ok (.iaload, 1) := by decide +kernel
theorem d_Model_apart_142 : decode prog_9_method_16_code 142 = .ok (.istore 6, 2) := by decide +kernel
theorem d_Model_apart_144 : decode prog_9_method_16_code 144 = .ok (.iload 6, 2) := by decide +kernel
theorem d_Model_apart_146 : decode prog_9_method_16_code 146 = .ok (.ifCond .le 92, 3) := by decide +kernel
theorem d_Model_apart_149 : decode prog_9_method_16_code 149 = .ok (.iload 5, 2) := by decide +kernel
theorem d_Model_apart_151 : decode prog_9_method_16_code 151 = .ok (.ifCond .eq 35, 3) := by decide +kernel
theorem d_Model_apart_154 : decode prog_9_method_16_code 154 = .ok (.aload_n 0, 1) := by decide +kernel
theorem d_Model_apart_155 : decode prog_9_method_16_code 155 = .ok (.getfield 140, 3) := by decide +kernel
theorem d_Model_apart_158 : decode prog_9_method_16_code 158 = .ok (.iconst 4, 1) := by decide +kernel
theorem d_Model_apart_159 : decode prog_9_method_16_code 159 = .ok (.if_icmp .ge 27, 3) := by decide +kernel
theorem d_Model_apart_162 : decode prog_9_method_16_code 162 = .ok (.aload_n 0, 1) := by decide +kernel
theorem d_Model_apart_163 : decode prog_9_method_16_code 163 = .ok (.getfield 66, 3) := by decide +kernel
theorem d_Model_apart_166 : decode prog_9_method_16_code 166 = .ok (.iload 4, 2) := by decide +kernel
theorem d_Model_apart_168 : decode prog_9_method_16_code 168 = .ok (.iconst 1, 1) := by decide +kernel
theorem d_Model_apart_169 : decode prog_9_method_16_code 169 = .ok (.iadd, 1) := by decide +kernel
theorem d_Model_apart_170 : decode prog_9_method_16_code 170 = .ok (.iaload, 1) := by decide +kernel
theorem d_Model_apart_171 : decode prog_9_method_16_code 171 = .ok (.ifCond .eq 15, 3) := by decide +kernel
theorem d_Model_apart_174 : decode prog_9_method_16_code 174 = .ok (.aload_n 0, 1) := by decide +kernel
theorem d_Model_apart_175 : decode prog_9_method_16_code 175 = .ok (.getfield 66, 3) := by decide +kernel
theorem d_Model_apart_178 : decode prog_9_method_16_code 178 = .ok (.iload 4, 2) := by decide +kernel
theorem d_Model_apart_180 : decode prog_9_method_16_code 180 = .ok (.iconst 2, 1) := by decide +kernel
theorem d_Model_apart_181 : decode prog_9_method_16_code 181 = .ok (.iadd, 1) := by decide +kernel
theorem d_Model_apart_182 : decode prog_9_method_16_code 182 = .ok (.iaload, 1) := by decide +kernel
theorem d_Model_apart_183 : decode prog_9_method_16_code 183 = .ok (.ifCond .ne 5, 3) := by decide +kernel
theorem d_Model_apart_186 : decode prog_9_method_16_code 186 = .ok (.iconst 0, 1) := by decide +kernel
theorem d_Model_apart_187 : decode prog_9_method_16_code 187 = .ok (.ireturn, 1) := by decide +kernel
theorem d_Model_apart_188 : decode prog_9_method_16_code 188 = .ok (.aload_n 0, 1) := by decide +kernel
theorem d_Model_apart_189 : decode prog_9_method_16_code 189 = .ok (.getfield 66, 3) := by decide +kernel
theorem d_Model_apart_192 : decode prog_9_method_16_code 192 = .ok (.iload 4, 2) := by decide +kernel
theorem d_Model_apart_194 : decode prog_9_method_16_code 194 = .ok (.dup2, 1) := by decide +kernel
theorem d_Model_apart_195 : decode prog_9_method_16_code 195 = .ok (.iaload, 1) := by decide +kernel
theorem d_Model_apart_196 : decode prog_9_method_16_code 196 = .ok (.iconst 1, 1) := by decide +kernel
theorem d_Model_apart_197 : decode prog_9_method_16_code 197 = .ok (.isub, 1) := by decide +kernel
theorem d_Model_apart_198 : decode prog_9_method_16_code 198 = .ok (.iastore, 1) := by decide +kernel
theorem d_Model_apart_199 : decode prog_9_method_16_code 199 = .ok (.aload_n 0, 1) := by decide +kernel
theorem d_Model_apart_200 : decode prog_9_method_16_code 200 = .ok (.getfield 66, 3) := by decide +kernel
theorem d_Model_apart_203 : decode prog_9_method_16_code 203 = .ok (.iload 4, 2) := by decide +kernel
theorem d_Model_apart_205 : decode prog_9_method_16_code 205 = .ok (.iconst 1, 1) := by decide +kernel
theorem d_Model_apart_206 : decode prog_9_method_16_code 206 = .ok (.iadd, 1) := by decide +kernel
theorem d_Model_apart_207 : decode prog_9_method_16_code 207 = .ok (.dup2, 1) := by decide +kernel
theorem d_Model_apart_208 : decode prog_9_method_16_code 208 = .ok (.iaload, 1) := by decide +kernel
theorem d_Model_apart_209 : decode prog_9_method_16_code 209 = .ok (.iconst 1, 1) := by decide +kernel
theorem d_Model_apart_210 : decode prog_9_method_16_code 210 = .ok (.isub, 1) := by decide +kernel
theorem d_Model_apart_211 : decode prog_9_method_16_code 211 = .ok (.iastore, 1) := by decide +kernel
theorem d_Model_apart_212 : decode prog_9_method_16_code 212 = .ok (.aload_n 0, 1) := by decide +kernel
theorem d_Model_apart_213 : decode prog_9_method_16_code 213 = .ok (.getfield 66, 3) := by decide +kernel
theorem d_Model_apart_216 : decode prog_9_method_16_code 216 = .ok (.iload 4, 2) := by decide +kernel
theorem d_Model_apart_218 : decode prog_9_method_16_code 218 = .ok (.iconst 2, 1) := by decide +kernel
theorem d_Model_apart_219 : decode prog_9_method_16_code 219 = .ok (.iadd, 1) := by decide +kernel
theorem d_Model_apart_220 : decode prog_9_method_16_code 220 = .ok (.dup2, 1) := by decide +kernel
theorem d_Model_apart_221 : decode prog_9_method_16_code 221 = .ok (.iaload, 1) := by decide +kernel
theorem d_Model_apart_222 : decode prog_9_method_16_code 222 = .ok (.iconst 1, 1) := by decide +kernel
theorem d_Model_apart_223 : decode prog_9_method_16_code 223 = .ok (.isub, 1) := by decide +kernel
theorem d_Model_apart_224 : decode prog_9_method_16_code 224 = .ok (.iastore, 1) := by decide +kernel
theorem d_Model_apart_225 : decode prog_9_method_16_code 225 = .ok (.aload_n 0, 1) := by decide +kernel
theorem d_Model_apart_226 : decode prog_9_method_16_code 226 = .ok (.iconst 0, 1) := by decide +kernel
theorem d_Model_apart_227 : decode prog_9_method_16_code 227 = .ok (.iload 4, 2) := by decide +kernel
theorem d_Model_apart_229 : decode prog_9_method_16_code 229 = .ok (.invokevirtual 143, 3) := by decide +kernel
theorem d_Model_apart_232 : decode prog_9_method_16_code 232 = .ok (.iinc 6 (-1), 3) := by decide +kernel
theorem d_Model_apart_235 : decode prog_9_method_16_code 235 = .ok (.goto (-91), 3) := by decide +kernel
theorem d_Model_apart_238 : decode prog_9_method_16_code 238 = .ok (.iinc 4 1, 3) := by decide +kernel
theorem d_Model_apart_241 : decode prog_9_method_16_code 241 = .ok (.goto (-137), 3) := by decide +kernel
theorem d_Model_apart_244 : decode prog_9_method_16_code 244 = .ok (.aload_n 0, 1) := by decide +kernel
theorem d_Model_apart_245 : decode prog_9_method_16_code 245 = .ok (.aload_n 0, 1) := by decide +kernel
theorem d_Model_apart_246 : decode prog_9_method_16_code 246 = .ok (.getfield 140, 3) := by decide +kernel
theorem d_Model_apart_249 : decode prog_9_method_16_code 249 = .ok (.putfield 150, 3) := by decide +kernel
theorem d_Model_apart_252 : decode prog_9_method_16_code 252 = .ok (.aload_n 0, 1) := by decide +kernel
theorem d_Model_apart_253 : decode prog_9_method_16_code 253 = .ok (.getfield 140, 3) := by decide +kernel
theorem d_Model_apart_256 : decode prog_9_method_16_code 256 = .ok (.iload_n 2, 1) := by decide +kernel
theorem d_Model_apart_257 : decode prog_9_method_16_code 257 = .ok (.if_icmp .ne 7, 3) := by decide +kernel
theorem d_Model_apart_260 : decode prog_9_method_16_code 260 = .ok (.iconst 1, 1) := by decide +kernel
theorem d_Model_apart_261 : decode prog_9_method_16_code 261 = .ok (.goto 4, 3) := by decide +kernel
theorem d_Model_apart_264 : decode prog_9_method_16_code 264 = .ok (.iconst 0, 1) := by decide +kernel
theorem d_Model_apart_265 : decode prog_9_method_16_code 265 = .ok (.ireturn, 1) := by decide +kernel
theorem d_Model_outer_0 : decode prog_9_method_9_code 0 = .ok (.iload_n 0, 1) := by decide +kernel
theorem d_Model_outer_1 : decode prog_9_method_9_code 1 = .ok (.bipush 27, 2) := by decide +kernel
theorem d_Model_outer_3 : decode prog_9_method_9_code 3 = .ok (.if_icmp .ge 19, 3) := by decide +kernel
theorem d_Model_outer_6 : decode prog_9_method_9_code 6 = .ok (.iload_n 0, 1) := by decide +kernel
theorem d_Model_outer_7 : decode prog_9_method_9_code 7 = .ok (.bipush 9, 2) := by decide +kernel
theorem d_Model_outer_9 : decode prog_9_method_9_code 9 = .ok (.irem, 1) := by decide +kernel
theorem d_Model_outer_10 : decode prog_9_method_9_code 10 = .ok (.ifCond .eq 12, 3) := by decide +kernel
theorem d_Model_outer_13 : decode prog_9_method_9_code 13 = .ok (.iload_n 0, 1) := by decide +kernel
theorem d_Model_outer_14 : decode prog_9_method_9_code 14 = .ok (.bipush 9, 2) := by decide +kernel
theorem d_Model_outer_16 : decode prog_9_method_9_code 16 = .ok (.irem, 1) := by decide +kernel
theorem d_Model_outer_17 : decode prog_9_method_9_code 17 = .ok (.bipush 8, 2) := by decide +kernel
theorem d_Model_outer_19 : decode prog_9_method_9_code 19 = .ok (.if_icmp .ne 7, 3) := by decide +kernel
theorem d_Model_outer_22 : decode prog_9_method_9_code 22 = .ok (.iconst 1, 1) := by decide +kernel
theorem d_Model_outer_23 : decode prog_9_method_9_code 23 = .ok (.goto 4, 3) := by decide +kernel
theorem d_Model_outer_26 : decode prog_9_method_9_code 26 = .ok (.iconst 0, 1) := by decide +kernel
theorem d_Model_outer_27 : decode prog_9_method_9_code 27 = .ok (.ireturn, 1) := by decide +kernel
theorem d_Model_isOrphans_0 : decode prog_9_method_13_code 0 = .ok (.iconst 1, 1) := by decide +kernel
theorem d_Model_isOrphans_1 : decode prog_9_method_13_code 1 = .ok (.istore_n 1, 1) := by decide +kernel
theorem d_Model_isOrphans_2 : decode prog_9_method_13_code 2 = .ok (.iconst 0, 1) := by decide +kernel
theorem d_Model_isOrphans_3 : decode prog_9_method_13_code 3 = .ok (.istore_n 2, 1) := by decide +kernel
theorem d_Model_isOrphans_4 : decode prog_9_method_13_code 4 = .ok (.iload_n 2, 1) := by decide +kernel
theorem d_Model_isOrphans_5 : decode prog_9_method_13_code 5 = .ok (.bipush 34, 2) := by decide +kernel
theorem d_Model_isOrphans_7 : decode prog_9_method_13_code 7 = .ok (.if_icmp .ge 40, 3) := by decide +kernel
theorem d_Model_isOrphans_10 : decode prog_9_method_13_code 10 = .ok (.iload_n 1, 1) := by decide +kernel
theorem d_Model_isOrphans_11 : decode prog_9_method_13_code 11 = .ok (.ifCond .eq 28, 3) := by decide +kernel
theorem d_Model_isOrphans_14 : decode prog_9_method_13_code 14 = .ok (.aload_n 0, 1) := by decide +kernel
theorem d_Model_isOrphans_15 : decode prog_9_method_13_code 15 = .ok (.getfield 60, 3) := by decide +kernel
theorem d_Model_isOrphans_18 : decode prog_9_method_13_code 18 = .ok (.iload_n 2, 1) := by decide +kernel
theorem d_Model_isOrphans_19 : decode prog_9_method_13_code 19 = .ok (.iaload, 1) := by decide +kernel
theorem d_Model_isOrphans_20 : decode prog_9_method_13_code 20 = .ok (.ifCond .le 7, 3) := by decide +kernel
theorem d_Model_isOrphans_23 : decode prog_9_method_13_code 23 = .ok (.iconst 1, 1) := by decide +kernel
theorem d_Model_isOrphans_24 : decode prog_9_method_13_code 24 = .ok (.goto 4, 3) := by decide +kernel
theorem d_Model_isOrphans_27 : decode prog_9_method_13_code 27 = .ok (.iconst 0, 1) := by decide +kernel
theorem d_Model_isOrphans_28 : decode prog_9_method_13_code 28 = .ok (.iload_n 2, 1) := by decide +kernel
theorem d_Model_isOrphans_29 : decode prog_9_method_13_code 29 = .ok (.invokestatic 133, 3) := by decide +kernel
theorem d_Model_isOrphans_32 : decode prog_9_method_13_code 32 = .ok (.if_icmp .ne 7, 3) := by decide +kernel
theorem d_Model_isOrphans_35 : decode prog_9_method_13_code 35 = .ok (.iconst 1, 1) := by decide +kernel
theorem d_Model_isOrphans_36 : decode prog_9_method_13_code 36 = .ok (.goto 4, 3) := by decide +kernel
theorem d_Model_isOrphans_39 : decode prog_9_method_13_code 39 = .ok (.iconst 0, 1) := by decide +kernel
theorem d_Model_isOrphans_40 : decode prog_9_method_13_code 40 = .ok (.istore_n 1, 1) := by decide +kernel
theorem d_Model_isOrphans_41 : decode prog_9_method_13_code 41 = .ok (.iinc 2 1, 3) := by decide +kernel
theorem d_Model_isOrphans_44 : decode prog_9_method_13_code 44 = .ok (.goto (-40), 3) := by decide +kernel
theorem d_Model_isOrphans_47 : decode prog_9_method_13_code 47 = .ok (.iload_n 1, 1) := by decide +kernel
theorem d_Model_isOrphans_48 : decode prog_9_method_13_code 48 = .ok (.ireturn, 1) := by decide +kernel
theorem d_Model_isPairs_0 : decode prog_9_method_12_code 0 = .ok (.iconst 0, 1) := by decide +kernel
theorem d_Model_isPairs_1 : decode prog_9_method_12_code 1 = .ok (.istore_n 1, 1) := by decide +kernel
theorem d_Model_isPairs_2 : decode prog_9_method_12_code 2 = .ok (.iconst 0, 1) := by decide +kernel
theorem d_Model_isPairs_3 : decode prog_9_method_12_code 3 = .ok (.istore_n 2, 1) := by decide +kernel
theorem d_Model_isPairs_4 : decode prog_9_method_12_code 4 = .ok (.iload_n 2, 1) := by decide +kernel
theorem d_Model_isPairs_5 : decode prog_9_method_12_code 5 = .ok (.bipush 34, 2) := by decide +kernel
theorem d_Model_isPairs_7 : decode prog_9_method_12_code 7 = .ok (.if_icmp .ge 27, 3) := by decide +kernel
theorem d_Model_isPairs_10 : decode prog_9_method_12_code 10 = .ok (.aload_n 0, 1) := by decide +kernel
theorem d_Model_isPairs_11 : decode prog_9_method_12_code 11 = .ok (.getfield 60, 3) := by decide +kernel
theorem d_Model_isPairs_14 : decode prog_9_method_12_code 14 = .ok (.iload_n 2, 1) := by decide +kernel
theorem d_Model_isPairs_15 : decode prog_9_method_12_code 15 = .ok (.iaload, 1) := by decide +kernel
theorem d_Model_isPairs_16 : decode prog_9_method_12_code 16 = .ok (.iconst 2, 1) := by decide +kernel
theorem d_Model_isPairs_17 : decode prog_9_method_12_code 17 = .ok (.if_icmp .ne 9, 3) := by decide +kernel
theorem d_Model_isPairs_20 : decode prog_9_method_12_code 20 = .ok (.iload_n 1, 1) := by decide +kernel
theorem d_Model_isPairs_21 : decode prog_9_method_12_code 21 = .ok (.iconst 1, 1) := by decide +kernel
theorem d_Model_isPairs_22 : decode prog_9_method_12_code 22 = .ok (.iadd, 1) := by decide +kernel
theorem d_Model_isPairs_23 : decode prog_9_method_12_code 23 = .ok (.goto 4, 3) := by decide +kernel
theorem d_Model_isPairs_26 : decode prog_9_method_12_code 26 = .ok (.iload_n 1, 1) := by decide +kernel
theorem d_Model_isPairs_27 : decode prog_9_method_12_code 27 = .ok (.istore_n 1, 1) := by decide +kernel
theorem d_Model_isPairs_28 : decode prog_9_method_12_code 28 = .ok (.iinc 2 1, 3) := by decide +kernel
theorem d_Model_isPairs_31 : decode prog_9_method_12_code 31 = .ok (.goto (-27), 3) := by decide +kernel
theorem d_Model_isPairs_34 : decode prog_9_method_12_code 34 = .ok (.iload_n 1, 1) := by decide +kernel
theorem d_Model_isPairs_35 : decode prog_9_method_12_code 35 = .ok (.bipush 7, 2) := by decide +kernel
theorem d_Model_isPairs_37 : decode prog_9_method_12_code 37 = .ok (.if_icmp .ne 7, 3) := by decide +kernel
theorem d_Model_isPairs_40 : decode prog_9_method_12_code 40 = .ok (.iconst 1, 1) := by decide +kernel
theorem d_Model_isPairs_41 : decode prog_9_method_12_code 41 = .ok (.goto 4, 3) := by decide +kernel
theorem d_Model_isPairs_44 : decode prog_9_method_12_code 44 = .ok (.iconst 0, 1) := by decide +kernel
theorem d_Model_isPairs_45 : decode prog_9_method_12_code 45 = .ok (.ireturn, 1) := by decide +kernel
theorem d_Model_load_0 : decode prog_9_method_11_code 0 = .ok (.iconst 0, 1) := by decide +kernel
theorem d_Model_load_1 : decode prog_9_method_11_code 1 = .ok (.istore_n 3, 1) := by decide +kernel
theorem d_Model_load_2 : decode prog_9_method_11_code 2 = .ok (.iconst 0, 1) := by decide +kernel
theorem d_Model_load_3 : decode prog_9_method_11_code 3 = .ok (.istore 4, 2) := by decide +kernel
theorem d_Model_load_5 : decode prog_9_method_11_code 5 = .ok (.iload 4, 2) := by decide +kernel
theorem d_Model_load_7 : decode prog_9_method_11_code 7 = .ok (.bipush 34, 2) := by decide +kernel
theorem d_Model_load_9 : decode prog_9_method_11_code 9 = .ok (.if_icmp .ge 50, 3) := by decide +kernel
theorem d_Model_load_12 : decode prog_9_method_11_code 12 = .ok (.aload_n 0, 1) := by decide +kernel
theorem d_Model_load_13 : decode prog_9_method_11_code 13 = .ok (.getfield 60, 3) := by decide +kernel
theorem d_Model_load_16 : decode prog_9_method_11_code 16 = .ok (.iload 4, 2) := by decide +kernel
theorem d_Model_load_18 : decode prog_9_method_11_code 18 = .ok (.aload_n 0, 1) := by decide +kernel
theorem d_Model_load_19 : decode prog_9_method_11_code 19 = .ok (.getfield 16, 3) := by decide +kernel
theorem d_Model_load_22 : decode prog_9_method_11_code 22 = .ok (.bipush 34, 2) := by decide +kernel
theorem d_Model_load_24 : decode prog_9_method_11_code 24 = .ok (.iload_n 1, 1) := by decide +kernel
theorem d_Model_load_25 : decode prog_9_method_11_code 25 = .ok (.imul, 1) := by decide +kernel
theorem d_Model_load_26 : decode prog_9_method_11_code 26 = .ok (.iload 4, 2) := by decide +kernel
theorem d_Model_load_28 : decode prog_9_method_11_code 28 = .ok (.iadd, 1) := by decide +kernel
theorem d_Model_load_29 : decode prog_9_method_11_code 29 = .ok (.iaload, 1) := by decide +kernel
theorem d_Model_load_30 : decode prog_9_method_11_code 30 = .ok (.iload 4, 2) := by decide +kernel
theorem d_Model_load_32 : decode prog_9_method_11_code 32 = .ok (.iload_n 2, 1) := by decide +kernel
theorem d_Model_load_33 : decode prog_9_method_11_code 33 = .ok (.if_icmp .ne 7, 3) := by decide +kernel
theorem d_Model_load_36 : decode prog_9_method_11_code 36 = .ok (.iconst 1, 1) := by decide +kernel
theorem d_Model_load_37 : decode prog_9_method_11_code 37 = .ok (.goto 4, 3) := by decide +kernel
theorem d_Model_load_40 : decode prog_9_method_11_code 40 = .ok (.iconst 0, 1) := by decide +kernel
theorem d_Model_load_41 : decode prog_9_method_11_code 41 = .ok (.iadd, 1) := by decide +kernel
theorem d_Model_load_42 : decode prog_9_method_11_code 42 = .ok (.iastore, 1) := by decide +kernel
theorem d_Model_load_43 : decode prog_9_method_11_code 43 = .ok (.iload_n 3, 1) := by decide +kernel
theorem d_Model_load_44 : decode prog_9_method_11_code 44 = .ok (.aload_n 0, 1) := by decide +kernel
theorem d_Model_load_45 : decode prog_9_method_11_code 45 = .ok (.getfield 60, 3) := by decide +kernel
theorem d_Model_load_48 : decode prog_9_method_11_code 48 = .ok (.iload 4, 2) := by decide +kernel
theorem d_Model_load_50 : decode prog_9_method_11_code 50 = .ok (.iaload, 1) := by decide +kernel
theorem d_Model_load_51 : decode prog_9_method_11_code 51 = .ok (.iadd, 1) := by decide +kernel
theorem d_Model_load_52 : decode prog_9_method_11_code 52 = .ok (.istore_n 3, 1) := by decide +kernel
theorem d_Model_load_53 : decode prog_9_method_11_code 53 = .ok (.iinc 4 1, 3) := by decide +kernel
theorem d_Model_load_56 : decode prog_9_method_11_code 56 = .ok (.goto (-51), 3) := by decide +kernel
theorem d_Model_load_59 : decode prog_9_method_11_code 59 = .ok (.iload_n 3, 1) := by decide +kernel
theorem d_Model_load_60 : decode prog_9_method_11_code 60 = .ok (.ireturn, 1) := by decide +kernel
theorem d_Model_threes_0 : decode prog_9_method_14_code 0 = .ok (.iconst 0, 1) := by decide +kernel
theorem d_Model_threes_1 : decode prog_9_method_14_code 1 = .ok (.istore_n 1, 1) := by decide +kernel
theorem d_Model_threes_2 : decode prog_9_method_14_code 2 = .ok (.iconst 0, 1) := by decide +kernel
theorem d_Model_threes_3 : decode prog_9_method_14_code 3 = .ok (.istore_n 2, 1) := by decide +kernel
theorem d_Model_threes_4 : decode prog_9_method_14_code 4 = .ok (.iload_n 2, 1) := by decide +kernel
theorem d_Model_threes_5 : decode prog_9_method_14_code 5 = .ok (.bipush 34, 2) := by decide +kernel
theorem d_Model_threes_7 : decode prog_9_method_14_code 7 = .ok (.if_icmp .ge 41, 3) := by decide +kernel
theorem d_Model_threes_10 : decode prog_9_method_14_code 10 = .ok (.aload_n 0, 1) := by decide +kernel
theorem d_Model_threes_11 : decode prog_9_method_14_code 11 = .ok (.getfield 60, 3) := by decide +kernel
theorem d_Model_threes_14 : decode prog_9_method_14_code 14 = .ok (.iload_n 2, 1) := by decide +kernel
theorem d_Model_threes_15 : decode prog_9_method_14_code 15 = .ok (.iaload, 1) := by decide +kernel
theorem d_Model_threes_16 : decode prog_9_method_14_code 16 = .ok (.iload_n 2, 1) := by decide +kernel
theorem d_Model_threes_17 : decode prog_9_method_14_code 17 = .ok (.aload_n 0, 1) := by decide +kernel
theorem d_Model_threes_18 : decode prog_9_method_14_code 18 = .ok (.getfield 137, 3) := by decide +kernel
theorem d_Model_threes_21 : decode prog_9_method_14_code 21 = .ok (.if_icmp .ne 7, 3) := by decide +kernel
theorem d_Model_threes_24 : decode prog_9_method_14_code 24 = .ok (.iconst 2, 1) := by decide +kernel
theorem d_Model_threes_25 : decode prog_9_method_14_code 25 = .ok (.goto 4, 3) := by decide +kernel
theorem d_Model_threes_28 : decode prog_9_method_14_code 28 = .ok (.iconst 0, 1) := by decide +kernel
theorem d_Model_threes_29 : decode prog_9_method_14_code 29 = .ok (.isub, 1) := by decide +kernel
theorem d_Model_threes_30 : decode prog_9_method_14_code 30 = .ok (.iconst 3, 1) := by decide +kernel
theorem d_Model_threes_31 : decode prog_9_method_14_code 31 = .ok (.if_icmp .lt 9, 3) := by decide +kernel
theorem d_Model_threes_34 : decode prog_9_method_14_code 34 = .ok (.iload_n 1, 1) := by decide +kernel
theorem d_Model_threes_35 : decode prog_9_method_14_code 35 = .ok (.iconst 1, 1) := by decide +kernel
theorem d_Model_threes_36 : decode prog_9_method_14_code 36 = .ok (.iadd, 1) := by decide +kernel
theorem d_Model_threes_37 : decode prog_9_method_14_code 37 = .ok (.goto 4, 3) := by decide +kernel
theorem d_Model_threes_40 : decode prog_9_method_14_code 40 = .ok (.iload_n 1, 1) := by decide +kernel
theorem d_Model_threes_41 : decode prog_9_method_14_code 41 = .ok (.istore_n 1, 1) := by decide +kernel
theorem d_Model_threes_42 : decode prog_9_method_14_code 42 = .ok (.iinc 2 1, 3) := by decide +kernel
theorem d_Model_threes_45 : decode prog_9_method_14_code 45 = .ok (.goto (-41), 3) := by decide +kernel
theorem d_Model_threes_48 : decode prog_9_method_14_code 48 = .ok (.iload_n 1, 1) := by decide +kernel
theorem d_Model_threes_49 : decode prog_9_method_14_code 49 = .ok (.ireturn, 1) := by decide +kernel
theorem d_Model_complete_0 : decode prog_9_method_17_code 0 = .ok (.iconst 4, 1) := by decide +kernel
theorem d_Model_complete_1 : decode prog_9_method_17_code 1 = .ok (.aload_n 0, 1) := by decide +kernel
theorem d_Model_complete_2 : decode prog_9_method_17_code 2 = .ok (.getfield 19, 3) := by decide +kernel
theorem d_Model_complete_5 : decode prog_9_method_17_code 5 = .ok (.iload_n 1, 1) := by decide +kernel
theorem d_Model_complete_6 : decode prog_9_method_17_code 6 = .ok (.iaload, 1) := by decide +kernel
theorem d_Model_complete_7 : decode prog_9_method_17_code 7 = .ok (.isub, 1) := by decide +kernel
theorem d_Model_complete_8 : decode prog_9_method_17_code 8 = .ok (.istore_n 3, 1) := by decide +kernel
theorem d_Model_complete_9 : decode prog_9_method_17_code 9 = .ok (.aload_n 0, 1) := by decide +kernel
theorem d_Model_complete_10 : decode prog_9_method_17_code 10 = .ok (.iload_n 1, 1) := by decide +kernel
theorem d_Model_complete_11 : decode prog_9_method_17_code 11 = .ok (.iload_n 2, 1) := by decide +kernel
theorem d_Model_complete_12 : decode prog_9_method_17_code 12 = .ok (.invokevirtual 153, 3) := by decide +kernel
theorem d_Model_complete_15 : decode prog_9_method_17_code 15 = .ok (.iconst 3, 1) := by decide +kernel
theorem d_Model_complete_16 : decode prog_9_method_17_code 16 = .ok (.iload_n 3, 1) := by decide +kernel
theorem d_Model_complete_17 : decode prog_9_method_17_code 17 = .ok (.imul, 1) := by decide +kernel
theorem d_Model_complete_18 : decode prog_9_method_17_code 18 = .ok (.iconst 2, 1) := by decide +kernel
theorem d_Model_complete_19 : decode prog_9_method_17_code 19 = .ok (.iadd, 1) := by decide +kernel
theorem d_Model_complete_20 : decode prog_9_method_17_code 20 = .ok (.if_icmp .eq 5, 3) := by decide +kernel
theorem d_Model_complete_23 : decode prog_9_method_17_code 23 = .ok (.iconst 0, 1) := by decide +kernel
theorem d_Model_complete_24 : decode prog_9_method_17_code 24 = .ok (.ireturn, 1) := by decide +kernel
theorem d_Model_complete_25 : decode prog_9_method_17_code 25 = .ok (.iload_n 3, 1) := by decide +kernel
theorem d_Model_complete_26 : decode prog_9_method_17_code 26 = .ok (.iconst 4, 1) := by decide +kernel
theorem d_Model_complete_27 : decode prog_9_method_17_code 27 = .ok (.if_icmp .ne 21, 3) := by decide +kernel
theorem d_Model_complete_30 : decode prog_9_method_17_code 30 = .ok (.aload_n 0, 1) := by decide +kernel
theorem d_Model_complete_31 : decode prog_9_method_17_code 31 = .ok (.invokevirtual 157, 3) := by decide +kernel
theorem d_Model_complete_34 : decode prog_9_method_17_code 34 = .ok (.ifCond .ne 10, 3) := by decide +kernel
theorem d_Model_complete_37 : decode prog_9_method_17_code 37 = .ok (.aload_n 0, 1) := by decide +kernel
theorem d_Model_complete_38 : decode prog_9_method_17_code 38 = .ok (.invokevirtual 161, 3) := by decide +kernel
theorem d_Model_complete_41 : decode prog_9_method_17_code 41 = .ok (.ifCond .eq 7, 3) := by decide +kernel
theorem d_Model_complete_44 : decode prog_9_method_17_code 44 = .ok (.iconst 1, 1) := by decide +kernel
theorem d_Model_complete_45 : decode prog_9_method_17_code 45 = .ok (.goto 4, 3) := by decide +kernel
theorem d_Model_complete_48 : decode prog_9_method_17_code 48 = .ok (.iconst 0, 1) := by decide +kernel
theorem d_Model_complete_49 : decode prog_9_method_17_code 49 = .ok (.istore 4, 2) := by decide +kernel
theorem d_Model_complete_51 : decode prog_9_method_17_code 51 = .ok (.aload_n 0, 1) := by decide +kernel
theorem d_Model_complete_52 : decode prog_9_method_17_code 52 = .ok (.iconst 0, 1) := by decide +kernel
theorem d_Model_complete_53 : decode prog_9_method_17_code 53 = .ok (.putfield 137, 3) := by decide +kernel
theorem d_Model_complete_56 : decode prog_9_method_17_code 56 = .ok (.aload_n 0, 1) := by decide +kernel
theorem d_Model_complete_57 : decode prog_9_method_17_code 57 = .ok (.getfield 137, 3) := by decide +kernel
theorem d_Model_complete_60 : decode prog_9_method_17_code 60 = .ok (.bipush 34, 2) := by decide +kernel
theorem d_Model_complete_62 : decode prog_9_method_17_code 62 = .ok (.if_icmp .ge 68, 3) := by decide +kernel
theorem d_Model_complete_65 : decode prog_9_method_17_code 65 = .ok (.iload 4, 2) := by decide +kernel
theorem d_Model_complete_67 : decode prog_9_method_17_code 67 = .ok (.ifCond .ne 63, 3) := by decide +kernel
theorem d_Model_complete_70 : decode prog_9_method_17_code 70 = .ok (.iconst 0, 1) := by decide +kernel
theorem d_Model_complete_71 : decode prog_9_method_17_code 71 = .ok (.istore 5, 2) := by decide +kernel
theorem d_Model_complete_73 : decode prog_9_method_17_code 73 = .ok (.aload_n 0, 1) := by decide +kernel
theorem d_Model_complete_74 : decode prog_9_method_17_code 74 = .ok (.getfield 60, 3) := by decide +kernel
theorem d_Model_complete_77 : decode prog_9_method_17_code 77 = .ok (.aload_n 0, 1) := by decide +kernel
theorem d_Model_complete_78 : decode prog_9_method_17_code 78 = .ok (.getfield 137, 3) := by decide +kernel
theorem d_Model_complete_81 : decode prog_9_method_17_code 81 = .ok (.iaload, 1) := by decide +kernel
theorem d_Model_complete_82 : decode prog_9_method_17_code 82 = .ok (.iconst 2, 1) := by decide +kernel
theorem d_Model_complete_83 : decode prog_9_method_17_code 83 = .ok (.if_icmp .lt 34, 3) := by decide +kernel
theorem d_Model_complete_86 : decode prog_9_method_17_code 86 = .ok (.iload 5, 2) := by decide +kernel
theorem d_Model_complete_88 : decode prog_9_method_17_code 88 = .ok (.iconst 1, 1) := by decide +kernel
theorem d_Model_complete_89 : decode prog_9_method_17_code 89 = .ok (.aload_n 0, 1) := by decide +kernel
theorem d_Model_complete_90 : decode prog_9_method_17_code 90 = .ok (.invokevirtual 164, 3) := by decide +kernel
theorem d_Model_complete_93 : decode prog_9_method_17_code 93 = .ok (.ishl, 1) := by decide +kernel
theorem d_Model_complete_94 : decode prog_9_method_17_code 94 = .ok (.if_icmp .ge 23, 3) := by decide +kernel
theorem d_Model_complete_97 : decode prog_9_method_17_code 97 = .ok (.iload 4, 2) := by decide +kernel
theorem d_Model_complete_99 : decode prog_9_method_17_code 99 = .ok (.ifCond .ne 18, 3) := by decide +kernel
theorem d_Model_complete_102 : decode prog_9_method_17_code 102 = .ok (.aload_n 0, 1) := by decide +kernel
theorem d_Model_complete_103 : decode prog_9_method_17_code 103 = .ok (.iload 5, 2) := by decide +kernel
theorem d_Model_complete_105 : decode prog_9_method_17_code 105 = .ok (.iload_n 3, 1) := by decide +kernel
theorem d_Model_complete_106 : decode prog_9_method_17_code 106 = .ok (.invokevirtual 167, 3) := by decide +kernel
theorem d_Model_complete_109 : decode prog_9_method_17_code 109 = .ok (.istore 4, 2) := by decide +kernel
theorem d_Model_complete_111 : decode prog_9_method_17_code 111 = .ok (.iinc 5 1, 3) := by decide +kernel
theorem d_Model_complete_114 : decode prog_9_method_17_code 114 = .ok (.goto (-41), 3) := by decide +kernel
theorem d_Model_complete_117 : decode prog_9_method_17_code 117 = .ok (.aload_n 0, 1) := by decide +kernel
theorem d_Model_complete_118 : decode prog_9_method_17_code 118 = .ok (.dup, 1) := by decide +kernel
theorem d_Model_complete_119 : decode prog_9_method_17_code 119 = .ok (.getfield 137, 3) := by decide +kernel
theorem d_Model_complete_122 : decode prog_9_method_17_code 122 = .ok (.iconst 1, 1) := by decide +kernel
theorem d_Model_complete_123 : decode prog_9_method_17_code 123 = .ok (.iadd, 1) := by decide +kernel
theorem d_Model_complete_124 : decode prog_9_method_17_code 124 = .ok (.putfield 137, 3) := by decide +kernel
theorem d_Model_complete_127 : decode prog_9_method_17_code 127 = .ok (.goto (-71), 3) := by decide +kernel
theorem d_Model_complete_130 : decode prog_9_method_17_code 130 = .ok (.iload 4, 2) := by decide +kernel
theorem d_Model_complete_132 : decode prog_9_method_17_code 132 = .ok (.ireturn, 1) := by decide +kernel
theorem d_Model_held_0 : decode prog_9_method_18_code 0 = .ok (.aload_n 0, 1) := by decide +kernel
theorem d_Model_held_1 : decode prog_9_method_18_code 1 = .ok (.getfield 16, 3) := by decide +kernel
theorem d_Model_held_4 : decode prog_9_method_18_code 4 = .ok (.bipush 34, 2) := by decide +kernel
theorem d_Model_held_6 : decode prog_9_method_18_code 6 = .ok (.iload_n 1, 1) := by decide +kernel
theorem d_Model_held_7 : decode prog_9_method_18_code 7 = .ok (.imul, 1) := by decide +kernel
theorem d_Model_held_8 : decode prog_9_method_18_code 8 = .ok (.iload_n 2, 1) := by decide +kernel
theorem d_Model_held_9 : decode prog_9_method_18_code 9 = .ok (.iadd, 1) := by decide +kernel
theorem d_Model_held_10 : decode prog_9_method_18_code 10 = .ok (.iaload, 1) := by decide +kernel
theorem d_Model_held_11 : decode prog_9_method_18_code 11 = .ok (.istore_n 3, 1) := by decide +kernel
theorem d_Model_held_12 : decode prog_9_method_18_code 12 = .ok (.iconst 4, 1) := by decide +kernel
theorem d_Model_held_13 : decode prog_9_method_18_code 13 = .ok (.iload_n 1, 1) := by decide +kernel
theorem d_Model_held_14 : decode prog_9_method_18_code 14 = .ok (.imul, 1) := by decide +kernel
theorem d_Model_held_15 : decode prog_9_method_18_code 15 = .ok (.istore 4, 2) := by decide +kernel
theorem d_Model_held_17 : decode prog_9_method_18_code 17 = .ok (.iload 4, 2) := by decide +kernel
theorem d_Model_held_19 : decode prog_9_method_18_code 19 = .ok (.iconst 4, 1) := by decide +kernel
theorem d_Model_held_20 : decode prog_9_method_18_code 20 = .ok (.iload_n 1, 1) := by decide +kernel
theorem d_Model_held_21 : decode prog_9_method_18_code 21 = .ok (.imul, 1) := by decide +kernel
theorem d_Model_held_22 : decode prog_9_method_18_code 22 = .ok (.aload_n 0, 1) := by decide +kernel
theorem d_Model_held_23 : decode prog_9_method_18_code 23 = .ok (.getfield 19, 3) := by decide +kernel
theorem d_Model_held_26 : decode prog_9_method_18_code 26 = .ok (.iload_n 1, 1) := by decide +kernel
theorem d_Model_held_27 : decode prog_9_method_18_code 27 = .ok (.iaload, 1) := by decide +kernel
theorem d_Model_held_28 : decode prog_9_method_18_code 28 = .ok (.iadd, 1) := by decide +kernel
theorem d_Model_held_29 : decode prog_9_method_18_code 29 = .ok (.if_icmp .ge 105, 3) := by decide +kernel
theorem d_Model_held_32 : decode prog_9_method_18_code 32 = .ok (.aload_n 0, 1) := by decide +kernel
theorem d_Model_held_33 : decode prog_9_method_18_code 33 = .ok (.getfield 22, 3) := by decide +kernel
theorem d_Model_held_36 : decode prog_9_method_18_code 36 = .ok (.iload 4, 2) := by decide +kernel
theorem d_Model_held_38 : decode prog_9_method_18_code 38 = .ok (.iaload, 1) := by decide +kernel
theorem d_Model_held_39 : decode prog_9_method_18_code 39 = .ok (.istore 5, 2) := by decide +kernel
theorem d_Model_held_41 : decode prog_9_method_18_code 41 = .ok (.aload_n 0, 1) := by decide +kernel
theorem d_Model_held_42 : decode prog_9_method_18_code 42 = .ok (.getfield 25, 3) := by decide +kernel
theorem d_Model_held_45 : decode prog_9_method_18_code 45 = .ok (.iload 4, 2) := by decide +kernel
theorem d_Model_held_47 : decode prog_9_method_18_code 47 = .ok (.iaload, 1) := by decide +kernel
theorem d_Model_held_48 : decode prog_9_method_18_code 48 = .ok (.ifCond .ne 25, 3) := by decide +kernel
theorem d_Model_held_51 : decode prog_9_method_18_code 51 = .ok (.iload_n 2, 1) := by decide +kernel
theorem d_Model_held_52 : decode prog_9_method_18_code 52 = .ok (.iload 5, 2) := by decide +kernel
theorem d_Model_held_54 : decode prog_9_method_18_code 54 = .ok (.if_icmp .lt 15, 3) := by decide +kernel
theorem d_Model_held_57 : decode prog_9_method_18_code 57 = .ok (.iload_n 2, 1) := by decide +kernel
theorem d_Model_held_58 : decode prog_9_method_18_code 58 = .ok (.iload 5, 2) := by decide +kernel
theorem d_Model_held_60 : decode prog_9_method_18_code 60 = .ok (.iconst 2, 1) := by decide +kernel
theorem d_Model_held_61 : decode prog_9_method_18_code 61 = .ok (.iadd, 1) := by decide +kernel
theorem d_Model_held_62 : decode prog_9_method_18_code 62 = .ok (.if_icmp .gt 7, 3) := by decide +kernel
theorem d_Model_held_65 : decode prog_9_method_18_code 65 = .ok (.iconst 1, 1) := by decide +kernel
theorem d_Model_held_66 : decode prog_9_method_18_code 66 = .ok (.goto 18, 3) := by decide +kernel
theorem d_Model_held_69 : decode prog_9_method_18_code 69 = .ok (.iconst 0, 1) := by decide +kernel
theorem d_Model_held_70 : decode prog_9_method_18_code 70 = .ok (.goto 14, 3) := by decide +kernel
theorem d_Model_held_73 : decode prog_9_method_18_code 73 = .ok (.iload_n 2, 1) := by decide +kernel
theorem d_Model_held_74 : decode prog_9_method_18_code 74 = .ok (.iload 5, 2) := by decide +kernel
theorem d_Model_held_76 : decode prog_9_method_18_code 76 = .ok (.if_icmp .ne 7, 3) := by decide +kernel
theorem d_Model_held_79 : decode prog_9_method_18_code 79 = .ok (.iconst 1, 1) := by decide +kernel
theorem d_Model_held_80 : decode prog_9_method_18_code 80 = .ok (.goto 4, 3) := by decide +kernel
theorem d_Model_held_83 : decode prog_9_method_18_code 83 = .ok (.iconst 0, 1) := by decide +kernel
theorem d_Model_held_84 : decode prog_9_method_18_code 84 = .ok (.istore 6, 2) := by decide +kernel
theorem d_Model_held_86 : decode prog_9_method_18_code 86 = .ok (.iload_n 3, 1) := by decide +kernel
theorem d_Model_held_87 : decode prog_9_method_18_code 87 = .ok (.iload 6, 2) := by decide +kernel
theorem d_Model_held_89 : decode prog_9_method_18_code 89 = .ok (.ifCond .ne 7, 3) := by decide +kernel
theorem d_Model_held_92 : decode prog_9_method_18_code 92 = .ok (.iconst 0, 1) := by decide +kernel
theorem d_Model_held_93 : decode prog_9_method_18_code 93 = .ok (.goto 33, 3) := by decide +kernel
theorem d_Model_held_96 : decode prog_9_method_18_code 96 = .ok (.aload_n 0, 1) := by decide +kernel
theorem d_Model_held_97 : decode prog_9_method_18_code 97 = .ok (.getfield 25, 3) := by decide +kernel
theorem d_Model_held_100 : decode prog_9_method_18_code 100 = .ok (.iload 4, 2) := by decide +kernel
theorem d_Model_held_102 : decode prog_9_method_18_code 102 = .ok (.iaload, 1) := by decide +kernel
theorem d_Model_held_103 : decode prog_9_method_18_code 103 = .ok (.ifCond .ne 7, 3) := by decide +kernel
theorem d_Model_held_106 : decode prog_9_method_18_code 106 = .ok (.iconst 1, 1) := by decide +kernel
theorem d_Model_held_107 : decode prog_9_method_18_code 107 = .ok (.goto 19, 3) := by decide +kernel
theorem d_Model_held_110 : decode prog_9_method_18_code 110 = .ok (.aload_n 0, 1) := by decide +kernel
theorem d_Model_held_111 : decode prog_9_method_18_code 111 = .ok (.getfield 25, 3) := by decide +kernel
theorem d_Model_held_114 : decode prog_9_method_18_code 114 = .ok (.iload 4, 2) := by decide +kernel
theorem d_Model_held_116 : decode prog_9_method_18_code 116 = .ok (.iaload, 1) := by decide +kernel
theorem d_Model_held_117 : decode prog_9_method_18_code 117 = .ok (.iconst 1, 1) := by decide +kernel
theorem d_Model_held_118 : decode prog_9_method_18_code 118 = .ok (.if_icmp .ne 7, 3) := by decide +kernel
theorem d_Model_held_121 : decode prog_9_method_18_code 121 = .ok (.iconst 3, 1) := by decide +kernel
theorem d_Model_held_122 : decode prog_9_method_18_code 122 = .ok (.goto 4, 3) := by decide +kernel
theorem d_Model_held_125 : decode prog_9_method_18_code 125 = .ok (.iconst 4, 1) := by decide +kernel
theorem d_Model_held_126 : decode prog_9_method_18_code 126 = .ok (.iadd, 1) := by decide +kernel
theorem d_Model_held_127 : decode prog_9_method_18_code 127 = .ok (.istore_n 3, 1) := by decide +kernel
theorem d_Model_held_128 : decode prog_9_method_18_code 128 = .ok (.iinc 4 1, 3) := by decide +kernel
theorem d_Model_held_131 : decode prog_9_method_18_code 131 = .ok (.goto (-114), 3) := by decide +kernel
theorem d_Model_held_134 : decode prog_9_method_18_code 134 = .ok (.iload_n 3, 1) := by decide +kernel
theorem d_Model_held_135 : decode prog_9_method_18_code 135 = .ok (.ireturn, 1) := by decide +kernel
theorem d_Model_waitsOf_0 : decode prog_9_method_19_code 0 = .ok (.lconst 0, 1) := by decide +kernel
theorem d_Model_waitsOf_1 : decode prog_9_method_19_code 1 = .ok (.lstore_n 2, 1) := by decide +kernel
theorem d_Model_waitsOf_2 : decode prog_9_method_19_code 2 = .ok (.aload_n 0, 1) := by decide +kernel
theorem d_Model_waitsOf_3 : decode prog_9_method_19_code 3 = .ok (.iload_n 1, 1) := by decide +kernel
theorem d_Model_waitsOf_4 : decode prog_9_method_19_code 4 = .ok (.iconst (-1), 1) := by decide +kernel
theorem d_Model_waitsOf_5 : decode prog_9_method_19_code 5 = .ok (.invokevirtual 153, 3) := by decide +kernel
theorem d_Model_waitsOf_8 : decode prog_9_method_19_code 8 = .ok (.istore 4, 2) := by decide +kernel
theorem d_Model_waitsOf_10 : decode prog_9_method_19_code 10 = .ok (.iconst 0, 1) := by decide +kernel
theorem d_Model_waitsOf_11 : decode prog_9_method_19_code 11 = .ok (.istore 5, 2) := by decide +kernel
theorem d_Model_waitsOf_13 : decode prog_9_method_19_code 13 = .ok (.iload 5, 2) := by decide +kernel
theorem d_Model_waitsOf_15 : decode prog_9_method_19_code 15 = .ok (.bipush 34, 2) := by decide +kernel
theorem d_Model_waitsOf_17 : decode prog_9_method_19_code 17 = .ok (.if_icmp .ge 45, 3) := by decide +kernel
theorem d_Model_waitsOf_20 : decode prog_9_method_19_code 20 = .ok (.iload 4, 2) := by decide +kernel
theorem d_Model_waitsOf_22 : decode prog_9_method_19_code 22 = .ok (.iconst 3, 1) := by decide +kernel
theorem d_Model_waitsOf_23 : decode prog_9_method_19_code 23 = .ok (.irem, 1) := by decide +kernel
theorem d_Model_waitsOf_24 : decode prog_9_method_19_code 24 = .ok (.iconst 1, 1) := by decide +kernel
theorem d_Model_waitsOf_25 : decode prog_9_method_19_code 25 = .ok (.if_icmp .ne 37, 3) := by decide +kernel
theorem d_Model_waitsOf_28 : decode prog_9_method_19_code 28 = .ok (.aload_n 0, 1) := by decide +kernel
theorem d_Model_waitsOf_29 : decode prog_9_method_19_code 29 = .ok (.iload_n 1, 1) := by decide +kernel
theorem d_Model_waitsOf_30 : decode prog_9_method_19_code 30 = .ok (.iload 5, 2) := by decide +kernel
theorem d_Model_waitsOf_32 : decode prog_9_method_19_code 32 = .ok (.invokevirtual 171, 3) := by decide +kernel
theorem d_Model_waitsOf_35 : decode prog_9_method_19_code 35 = .ok (.iconst 4, 1) := by decide +kernel
theorem d_Model_waitsOf_36 : decode prog_9_method_19_code 36 = .ok (.if_icmp .ge 20, 3) := by decide +kernel
theorem d_Model_waitsOf_39 : decode prog_9_method_19_code 39 = .ok (.aload_n 0, 1) := by decide +kernel
theorem d_Model_waitsOf_40 : decode prog_9_method_19_code 40 = .ok (.iload_n 1, 1) := by decide +kernel
theorem d_Model_waitsOf_41 : decode prog_9_method_19_code 41 = .ok (.iload 5, 2) := by decide +kernel
theorem d_Model_waitsOf_43 : decode prog_9_method_19_code 43 = .ok (.invokevirtual 174, 3) := by decide +kernel
theorem d_Model_waitsOf_46 : decode prog_9_method_19_code 46 = .ok (.ifCond .eq 10, 3) := by decide +kernel
theorem d_Model_waitsOf_49 : decode prog_9_method_19_code 49 = .ok (.lload_n 2, 1) := by decide +kernel
theorem d_Model_waitsOf_50 : decode prog_9_method_19_code 50 = .ok (.lconst 1, 1) := by decide +kernel
theorem d_Model_waitsOf_51 : decode prog_9_method_19_code 51 = .ok (.iload 5, 2) := by decide +kernel
theorem d_Model_waitsOf_53 : decode prog_9_method_19_code 53 = .ok (.lshl, 1) := by decide +kernel
theorem d_Model_waitsOf_54 : decode prog_9_method_19_code 54 = .ok (.lor, 1) := by decide +kernel
theorem d_Model_waitsOf_55 : decode prog_9_method_19_code 55 = .ok (.lstore_n 2, 1) := by decide +kernel
theorem d_Model_waitsOf_56 : decode prog_9_method_19_code 56 = .ok (.iinc 5 1, 3) := by decide +kernel
theorem d_Model_waitsOf_59 : decode prog_9_method_19_code 59 = .ok (.goto (-46), 3) := by decide +kernel
theorem d_Model_waitsOf_62 : decode prog_9_method_19_code 62 = .ok (.lload_n 2, 1) := by decide +kernel
theorem d_Model_waitsOf_63 : decode prog_9_method_19_code 63 = .ok (.lreturn, 1) := by decide +kernel
theorem d_Model_drawnOut_0 : decode prog_9_method_68_code 0 = .ok (.iconst 0, 1) := by decide +kernel
theorem d_Model_drawnOut_1 : decode prog_9_method_68_code 1 = .ok (.istore_n 1, 1) := by decide +kernel
theorem d_Model_drawnOut_2 : decode prog_9_method_68_code 2 = .ok (.iconst 0, 1) := by decide +kernel
theorem d_Model_drawnOut_3 : decode prog_9_method_68_code 3 = .ok (.istore_n 2, 1) := by decide +kernel
theorem d_Model_drawnOut_4 : decode prog_9_method_68_code 4 = .ok (.iload_n 2, 1) := by decide +kernel
theorem d_Model_drawnOut_5 : decode prog_9_method_68_code 5 = .ok (.iconst 4, 1) := by decide +kernel
theorem d_Model_drawnOut_6 : decode prog_9_method_68_code 6 = .ok (.if_icmp .ge 27, 3) := by decide +kernel
theorem d_Model_drawnOut_9 : decode prog_9_method_68_code 9 = .ok (.aload_n 0, 1) := by decide +kernel
theorem d_Model_drawnOut_10 : decode prog_9_method_68_code 10 = .ok (.iload_n 2, 1) := by decide +kernel
theorem d_Model_drawnOut_11 : decode prog_9_method_68_code 11 = .ok (.invokevirtual 177, 3) := by decide +kernel
theorem d_Model_drawnOut_14 : decode prog_9_method_68_code 14 = .ok (.lconst 0, 1) := by decide +kernel
