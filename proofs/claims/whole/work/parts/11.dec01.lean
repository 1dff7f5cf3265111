theorem d_Judge_yakuOfTripletSorts_104 : decode prog_2_method_19_code 104 = .ok (.if_icmp .ne 7, 3) := by decide +kernel
theorem d_Judge_yakuOfTripletSorts_107 : decode prog_2_method_19_code 107 = .ok (.iconst 1, 1) := by decide +kernel
theorem d_Judge_yakuOfTripletSorts_108 : decode prog_2_method_19_code 108 = .ok (.goto 4, 3) := by decide +kernel
theorem d_Judge_yakuOfTripletSorts_111 : decode prog_2_method_19_code 111 = .ok (.iconst 0, 1) := by decide +kernel
theorem d_Judge_yakuOfTripletSorts_112 : decode prog_2_method_19_code 112 = .ok (.bipush 21, 2) := by decide +kernel
theorem d_Judge_yakuOfTripletSorts_114 : decode prog_2_method_19_code 114 = .ok (.invokestatic 191, 3) := by decide +kernel
theorem d_Judge_yakuOfTripletSorts_117 : decode prog_2_method_19_code 117 = .ok (.lor, 1) := by decide +kernel
theorem d_Judge_yakuOfTripletSorts_118 : decode prog_2_method_19_code 118 = .ok (.iload_n 2, 1) := by decide +kernel
theorem d_Judge_yakuOfTripletSorts_119 : decode prog_2_method_19_code 119 = .ok (.iconst 4, 1) := by decide +kernel
theorem d_Judge_yakuOfTripletSorts_120 : decode prog_2_method_19_code 120 = .ok (.if_icmp .ne 7, 3) := by decide +kernel
theorem d_Judge_yakuOfTripletSorts_123 : decode prog_2_method_19_code 123 = .ok (.iconst 1, 1) := by decide +kernel
theorem d_Judge_yakuOfTripletSorts_124 : decode prog_2_method_19_code 124 = .ok (.goto 4, 3) := by decide +kernel
theorem d_Judge_yakuOfTripletSorts_127 : decode prog_2_method_19_code 127 = .ok (.iconst 0, 1) := by decide +kernel
theorem d_Judge_yakuOfTripletSorts_128 : decode prog_2_method_19_code 128 = .ok (.bipush 32, 2) := by decide +kernel
theorem d_Judge_yakuOfTripletSorts_130 : decode prog_2_method_19_code 130 = .ok (.invokestatic 191, 3) := by decide +kernel
theorem d_Judge_yakuOfTripletSorts_133 : decode prog_2_method_19_code 133 = .ok (.lor, 1) := by decide +kernel
theorem d_Judge_yakuOfTripletSorts_134 : decode prog_2_method_19_code 134 = .ok (.iload_n 3, 1) := by decide +kernel
theorem d_Judge_yakuOfTripletSorts_135 : decode prog_2_method_19_code 135 = .ok (.iconst 4, 1) := by decide +kernel
theorem d_Judge_yakuOfTripletSorts_136 : decode prog_2_method_19_code 136 = .ok (.if_icmp .ne 7, 3) := by decide +kernel
theorem d_Judge_yakuOfTripletSorts_139 : decode prog_2_method_19_code 139 = .ok (.iconst 1, 1) := by decide +kernel
theorem d_Judge_yakuOfTripletSorts_140 : decode prog_2_method_19_code 140 = .ok (.goto 4, 3) := by decide +kernel
theorem d_Judge_yakuOfTripletSorts_143 : decode prog_2_method_19_code 143 = .ok (.iconst 0, 1) := by decide +kernel
theorem d_Judge_yakuOfTripletSorts_144 : decode prog_2_method_19_code 144 = .ok (.bipush 33, 2) := by decide +kernel
theorem d_Judge_yakuOfTripletSorts_146 : decode prog_2_method_19_code 146 = .ok (.invokestatic 191, 3) := by decide +kernel
theorem d_Judge_yakuOfTripletSorts_149 : decode prog_2_method_19_code 149 = .ok (.lor, 1) := by decide +kernel
theorem d_Judge_yakuOfTripletSorts_150 : decode prog_2_method_19_code 150 = .ok (.lreturn, 1) := by decide +kernel
theorem d_JLong_bitCount_0 : decode prog_11_method_50_code 0 = .ok (.lload_n 0, 1) := by decide +kernel
theorem d_JLong_bitCount_1 : decode prog_11_method_50_code 1 = .ok (.lload_n 0, 1) := by decide +kernel
theorem d_JLong_bitCount_2 : decode prog_11_method_50_code 2 = .ok (.iconst 1, 1) := by decide +kernel
theorem d_JLong_bitCount_3 : decode prog_11_method_50_code 3 = .ok (.lushr, 1) := by decide +kernel
theorem d_JLong_bitCount_4 : decode prog_11_method_50_code 4 = .ok (.ldc2_w 314, 3) := by decide +kernel
theorem d_JLong_bitCount_7 : decode prog_11_method_50_code 7 = .ok (.land, 1) := by decide +kernel
theorem d_JLong_bitCount_8 : decode prog_11_method_50_code 8 = .ok (.lsub, 1) := by decide +kernel
theorem d_JLong_bitCount_9 : decode prog_11_method_50_code 9 = .ok (.lstore_n 0, 1) := by decide +kernel
theorem d_JLong_bitCount_10 : decode prog_11_method_50_code 10 = .ok (.lload_n 0, 1) := by decide +kernel
theorem d_JLong_bitCount_11 : decode prog_11_method_50_code 11 = .ok (.ldc2_w 316, 3) := by decide +kernel
theorem d_JLong_bitCount_14 : decode prog_11_method_50_code 14 = .ok (.land, 1) := by decide +kernel
theorem d_JLong_bitCount_15 : decode prog_11_method_50_code 15 = .ok (.lload_n 0, 1) := by decide +kernel
theorem d_JLong_bitCount_16 : decode prog_11_method_50_code 16 = .ok (.iconst 2, 1) := by decide +kernel
theorem d_JLong_bitCount_17 : decode prog_11_method_50_code 17 = .ok (.lushr, 1) := by decide +kernel
theorem d_JLong_bitCount_18 : decode prog_11_method_50_code 18 = .ok (.ldc2_w 316, 3) := by decide +kernel
theorem d_JLong_bitCount_21 : decode prog_11_method_50_code 21 = .ok (.land, 1) := by decide +kernel
theorem d_JLong_bitCount_22 : decode prog_11_method_50_code 22 = .ok (.ladd, 1) := by decide +kernel
theorem d_JLong_bitCount_23 : decode prog_11_method_50_code 23 = .ok (.lstore_n 0, 1) := by decide +kernel
theorem d_JLong_bitCount_24 : decode prog_11_method_50_code 24 = .ok (.lload_n 0, 1) := by decide +kernel
theorem d_JLong_bitCount_25 : decode prog_11_method_50_code 25 = .ok (.lload_n 0, 1) := by decide +kernel
theorem d_JLong_bitCount_26 : decode prog_11_method_50_code 26 = .ok (.iconst 4, 1) := by decide +kernel
theorem d_JLong_bitCount_27 : decode prog_11_method_50_code 27 = .ok (.lushr, 1) := by decide +kernel
theorem d_JLong_bitCount_28 : decode prog_11_method_50_code 28 = .ok (.ladd, 1) := by decide +kernel
theorem d_JLong_bitCount_29 : decode prog_11_method_50_code 29 = .ok (.ldc2_w 318, 3) := by decide +kernel
theorem d_JLong_bitCount_32 : decode prog_11_method_50_code 32 = .ok (.land, 1) := by decide +kernel
theorem d_JLong_bitCount_33 : decode prog_11_method_50_code 33 = .ok (.lstore_n 0, 1) := by decide +kernel
theorem d_JLong_bitCount_34 : decode prog_11_method_50_code 34 = .ok (.lload_n 0, 1) := by decide +kernel
theorem d_JLong_bitCount_35 : decode prog_11_method_50_code 35 = .ok (.lload_n 0, 1) := by decide +kernel
theorem d_JLong_bitCount_36 : decode prog_11_method_50_code 36 = .ok (.bipush 8, 2) := by decide +kernel
theorem d_JLong_bitCount_38 : decode prog_11_method_50_code 38 = .ok (.lushr, 1) := by decide +kernel
theorem d_JLong_bitCount_39 : decode prog_11_method_50_code 39 = .ok (.ladd, 1) := by decide +kernel
theorem d_JLong_bitCount_40 : decode prog_11_method_50_code 40 = .ok (.lstore_n 0, 1) := by decide +kernel
theorem d_JLong_bitCount_41 : decode prog_11_method_50_code 41 = .ok (.lload_n 0, 1) := by decide +kernel
theorem d_JLong_bitCount_42 : decode prog_11_method_50_code 42 = .ok (.lload_n 0, 1) := by decide +kernel
theorem d_JLong_bitCount_43 : decode prog_11_method_50_code 43 = .ok (.bipush 16, 2) := by decide +kernel
theorem d_JLong_bitCount_45 : decode prog_11_method_50_code 45 = .ok (.lushr, 1) := by decide +kernel
theorem d_JLong_bitCount_46 : decode prog_11_method_50_code 46 = .ok (.ladd, 1) := by decide +kernel
theorem d_JLong_bitCount_47 : decode prog_11_method_50_code 47 = .ok (.lstore_n 0, 1) := by decide +kernel
theorem d_JLong_bitCount_48 : decode prog_11_method_50_code 48 = .ok (.lload_n 0, 1) := by decide +kernel
theorem d_JLong_bitCount_49 : decode prog_11_method_50_code 49 = .ok (.lload_n 0, 1) := by decide +kernel
theorem d_JLong_bitCount_50 : decode prog_11_method_50_code 50 = .ok (.bipush 32, 2) := by decide +kernel
theorem d_JLong_bitCount_52 : decode prog_11_method_50_code 52 = .ok (.lushr, 1) := by decide +kernel
theorem d_JLong_bitCount_53 : decode prog_11_method_50_code 53 = .ok (.ladd, 1) := by decide +kernel
theorem d_JLong_bitCount_54 : decode prog_11_method_50_code 54 = .ok (.lstore_n 0, 1) := by decide +kernel
theorem d_JLong_bitCount_55 : decode prog_11_method_50_code 55 = .ok (.lload_n 0, 1) := by decide +kernel
theorem d_JLong_bitCount_56 : decode prog_11_method_50_code 56 = .ok (.l2i, 1) := by decide +kernel
theorem d_JLong_bitCount_57 : decode prog_11_method_50_code 57 = .ok (.bipush 127, 2) := by decide +kernel
theorem d_JLong_bitCount_59 : decode prog_11_method_50_code 59 = .ok (.iand, 1) := by decide +kernel
theorem d_JLong_bitCount_60 : decode prog_11_method_50_code 60 = .ok (.ireturn, 1) := by decide +kernel
theorem d_Judge_yakuOfTriplets_0 : decode prog_2_method_18_code 0 = .ok (.lload_n 1, 1) := by decide +kernel
theorem d_Judge_yakuOfTriplets_1 : decode prog_2_method_18_code 1 = .ok (.aload_n 0, 1) := by decide +kernel
theorem d_Judge_yakuOfTriplets_2 : decode prog_2_method_18_code 2 = .ok (.getfield 205, 3) := by decide +kernel
theorem d_Judge_yakuOfTriplets_5 : decode prog_2_method_18_code 5 = .ok (.invokestatic 215, 3) := by decide +kernel
theorem d_Judge_yakuOfTriplets_8 : decode prog_2_method_18_code 8 = .ok (.bipush 10, 2) := by decide +kernel
theorem d_Judge_yakuOfTriplets_10 : decode prog_2_method_18_code 10 = .ok (.invokestatic 191, 3) := by decide +kernel
theorem d_Judge_yakuOfTriplets_13 : decode prog_2_method_18_code 13 = .ok (.lload_n 1, 1) := by decide +kernel
theorem d_Judge_yakuOfTriplets_14 : decode prog_2_method_18_code 14 = .ok (.aload_n 0, 1) := by decide +kernel
theorem d_Judge_yakuOfTriplets_15 : decode prog_2_method_18_code 15 = .ok (.getfield 208, 3) := by decide +kernel
theorem d_Judge_yakuOfTriplets_18 : decode prog_2_method_18_code 18 = .ok (.invokestatic 215, 3) := by decide +kernel
theorem d_Judge_yakuOfTriplets_21 : decode prog_2_method_18_code 21 = .ok (.bipush 11, 2) := by decide +kernel
theorem d_Judge_yakuOfTriplets_23 : decode prog_2_method_18_code 23 = .ok (.invokestatic 191, 3) := by decide +kernel
theorem d_Judge_yakuOfTriplets_26 : decode prog_2_method_18_code 26 = .ok (.lor, 1) := by decide +kernel
theorem d_Judge_yakuOfTriplets_27 : decode prog_2_method_18_code 27 = .ok (.lstore_n 3, 1) := by decide +kernel
theorem d_Judge_yakuOfTriplets_28 : decode prog_2_method_18_code 28 = .ok (.iconst 0, 1) := by decide +kernel
theorem d_Judge_yakuOfTriplets_29 : decode prog_2_method_18_code 29 = .ok (.istore 5, 2) := by decide +kernel
theorem d_Judge_yakuOfTriplets_31 : decode prog_2_method_18_code 31 = .ok (.iload 5, 2) := by decide +kernel
theorem d_Judge_yakuOfTriplets_33 : decode prog_2_method_18_code 33 = .ok (.iconst 3, 1) := by decide +kernel
theorem d_Judge_yakuOfTriplets_34 : decode prog_2_method_18_code 34 = .ok (.if_icmp .ge 29, 3) := by decide +kernel
theorem d_Judge_yakuOfTriplets_37 : decode prog_2_method_18_code 37 = .ok (.lload_n 3, 1) := by decide +kernel
theorem d_Judge_yakuOfTriplets_38 : decode prog_2_method_18_code 38 = .ok (.lload_n 1, 1) := by decide +kernel
theorem d_Judge_yakuOfTriplets_39 : decode prog_2_method_18_code 39 = .ok (.bipush 31, 2) := by decide +kernel
theorem d_Judge_yakuOfTriplets_41 : decode prog_2_method_18_code 41 = .ok (.iload 5, 2) := by decide +kernel
theorem d_Judge_yakuOfTriplets_43 : decode prog_2_method_18_code 43 = .ok (.iadd, 1) := by decide +kernel
theorem d_Judge_yakuOfTriplets_44 : decode prog_2_method_18_code 44 = .ok (.invokestatic 215, 3) := by decide +kernel
theorem d_Judge_yakuOfTriplets_47 : decode prog_2_method_18_code 47 = .ok (.bipush 12, 2) := by decide +kernel
theorem d_Judge_yakuOfTriplets_49 : decode prog_2_method_18_code 49 = .ok (.iload 5, 2) := by decide +kernel
theorem d_Judge_yakuOfTriplets_51 : decode prog_2_method_18_code 51 = .ok (.iadd, 1) := by decide +kernel
theorem d_Judge_yakuOfTriplets_52 : decode prog_2_method_18_code 52 = .ok (.invokestatic 191, 3) := by decide +kernel
theorem d_Judge_yakuOfTriplets_55 : decode prog_2_method_18_code 55 = .ok (.lor, 1) := by decide +kernel
theorem d_Judge_yakuOfTriplets_56 : decode prog_2_method_18_code 56 = .ok (.lstore_n 3, 1) := by decide +kernel
theorem d_Judge_yakuOfTriplets_57 : decode prog_2_method_18_code 57 = .ok (.iinc 5 1, 3) := by decide +kernel
theorem d_Judge_yakuOfTriplets_60 : decode prog_2_method_18_code 60 = .ok (.goto (-29), 3) := by decide +kernel
theorem d_Judge_yakuOfTriplets_63 : decode prog_2_method_18_code 63 = .ok (.lload_n 1, 1) := by decide +kernel
theorem d_Judge_yakuOfTriplets_64 : decode prog_2_method_18_code 64 = .ok (.ldc2_w 219, 3) := by decide +kernel
theorem d_Judge_yakuOfTriplets_67 : decode prog_2_method_18_code 67 = .ok (.land, 1) := by decide +kernel
theorem d_Judge_yakuOfTriplets_68 : decode prog_2_method_18_code 68 = .ok (.invokestatic 221, 3) := by decide +kernel
theorem d_Judge_yakuOfTriplets_71 : decode prog_2_method_18_code 71 = .ok (.istore 5, 2) := by decide +kernel
theorem d_Judge_yakuOfTriplets_73 : decode prog_2_method_18_code 73 = .ok (.lload_n 1, 1) := by decide +kernel
theorem d_Judge_yakuOfTriplets_74 : decode prog_2_method_18_code 74 = .ok (.ldc2_w 226, 3) := by decide +kernel
theorem d_Judge_yakuOfTriplets_77 : decode prog_2_method_18_code 77 = .ok (.land, 1) := by decide +kernel
theorem d_Judge_yakuOfTriplets_78 : decode prog_2_method_18_code 78 = .ok (.invokestatic 221, 3) := by decide +kernel
theorem d_Judge_yakuOfTriplets_81 : decode prog_2_method_18_code 81 = .ok (.istore 6, 2) := by decide +kernel
theorem d_Judge_yakuOfTriplets_83 : decode prog_2_method_18_code 83 = .ok (.lload_n 3, 1) := by decide +kernel
theorem d_Judge_yakuOfTriplets_84 : decode prog_2_method_18_code 84 = .ok (.lload_n 1, 1) := by decide +kernel
theorem d_Judge_yakuOfTriplets_85 : decode prog_2_method_18_code 85 = .ok (.invokestatic 188, 3) := by decide +kernel
theorem d_Judge_yakuOfTriplets_88 : decode prog_2_method_18_code 88 = .ok (.lconst 0, 1) := by decide +kernel
theorem d_Judge_yakuOfTriplets_89 : decode prog_2_method_18_code 89 = .ok (.lcmp, 1) := by decide +kernel
theorem d_Judge_yakuOfTriplets_90 : decode prog_2_method_18_code 90 = .ok (.ifCond .eq 7, 3) := by decide +kernel
theorem d_Judge_yakuOfTriplets_93 : decode prog_2_method_18_code 93 = .ok (.iconst 1, 1) := by decide +kernel
theorem d_Judge_yakuOfTriplets_94 : decode prog_2_method_18_code 94 = .ok (.goto 4, 3) := by decide +kernel
theorem d_Judge_yakuOfTriplets_97 : decode prog_2_method_18_code 97 = .ok (.iconst 0, 1) := by decide +kernel
theorem d_Judge_yakuOfTriplets_98 : decode prog_2_method_18_code 98 = .ok (.bipush 22, 2) := by decide +kernel
theorem d_Judge_yakuOfTriplets_100 : decode prog_2_method_18_code 100 = .ok (.invokestatic 191, 3) := by decide +kernel
theorem d_Judge_yakuOfTriplets_103 : decode prog_2_method_18_code 103 = .ok (.lor, 1) := by decide +kernel
theorem d_Judge_yakuOfTriplets_104 : decode prog_2_method_18_code 104 = .ok (.iload 5, 2) := by decide +kernel
theorem d_Judge_yakuOfTriplets_106 : decode prog_2_method_18_code 106 = .ok (.iconst 2, 1) := by decide +kernel
theorem d_Judge_yakuOfTriplets_107 : decode prog_2_method_18_code 107 = .ok (.if_icmp .ne 20, 3) := by decide +kernel
theorem d_Judge_yakuOfTriplets_110 : decode prog_2_method_18_code 110 = .ok (.ldc2_w 219, 3) := by decide +kernel
theorem d_Judge_yakuOfTriplets_113 : decode prog_2_method_18_code 113 = .ok (.aload_n 0, 1) := by decide +kernel
theorem d_Judge_yakuOfTriplets_114 : decode prog_2_method_18_code 114 = .ok (.getfield 110, 3) := by decide +kernel
theorem d_Judge_yakuOfTriplets_117 : decode prog_2_method_18_code 117 = .ok (.invokestatic 215, 3) := by decide +kernel
theorem d_Judge_yakuOfTriplets_120 : decode prog_2_method_18_code 120 = .ok (.ifCond .eq 7, 3) := by decide +kernel
theorem d_Judge_yakuOfTriplets_123 : decode prog_2_method_18_code 123 = .ok (.iconst 1, 1) := by decide +kernel
theorem d_Judge_yakuOfTriplets_124 : decode prog_2_method_18_code 124 = .ok (.goto 4, 3) := by decide +kernel
theorem d_Judge_yakuOfTriplets_127 : decode prog_2_method_18_code 127 = .ok (.iconst 0, 1) := by decide +kernel
theorem d_Judge_yakuOfTriplets_128 : decode prog_2_method_18_code 128 = .ok (.bipush 23, 2) := by decide +kernel
theorem d_Judge_yakuOfTriplets_130 : decode prog_2_method_18_code 130 = .ok (.invokestatic 191, 3) := by decide +kernel
theorem d_Judge_yakuOfTriplets_133 : decode prog_2_method_18_code 133 = .ok (.lor, 1) := by decide +kernel
theorem d_Judge_yakuOfTriplets_134 : decode prog_2_method_18_code 134 = .ok (.iload 5, 2) := by decide +kernel
theorem d_Judge_yakuOfTriplets_136 : decode prog_2_method_18_code 136 = .ok (.iconst 3, 1) := by decide +kernel
theorem d_Judge_yakuOfTriplets_137 : decode prog_2_method_18_code 137 = .ok (.if_icmp .ne 7, 3) := by decide +kernel
theorem d_Judge_yakuOfTriplets_140 : decode prog_2_method_18_code 140 = .ok (.iconst 1, 1) := by decide +kernel
theorem d_Judge_yakuOfTriplets_141 : decode prog_2_method_18_code 141 = .ok (.goto 4, 3) := by decide +kernel
theorem d_Judge_yakuOfTriplets_144 : decode prog_2_method_18_code 144 = .ok (.iconst 0, 1) := by decide +kernel
theorem d_Judge_yakuOfTriplets_145 : decode prog_2_method_18_code 145 = .ok (.bipush 34, 2) := by decide +kernel
theorem d_Judge_yakuOfTriplets_147 : decode prog_2_method_18_code 147 = .ok (.invokestatic 191, 3) := by decide +kernel
theorem d_Judge_yakuOfTriplets_150 : decode prog_2_method_18_code 150 = .ok (.lor, 1) := by decide +kernel
theorem d_Judge_yakuOfTriplets_151 : decode prog_2_method_18_code 151 = .ok (.iload 6, 2) := by decide +kernel
theorem d_Judge_yakuOfTriplets_153 : decode prog_2_method_18_code 153 = .ok (.iconst 3, 1) := by decide +kernel
theorem d_Judge_yakuOfTriplets_154 : decode prog_2_method_18_code 154 = .ok (.if_icmp .ne 20, 3) := by decide +kernel
theorem d_Judge_yakuOfTriplets_157 : decode prog_2_method_18_code 157 = .ok (.ldc2_w 226, 3) := by decide +kernel
theorem d_Judge_yakuOfTriplets_160 : decode prog_2_method_18_code 160 = .ok (.aload_n 0, 1) := by decide +kernel
theorem d_Judge_yakuOfTriplets_161 : decode prog_2_method_18_code 161 = .ok (.getfield 110, 3) := by decide +kernel
theorem d_Judge_yakuOfTriplets_164 : decode prog_2_method_18_code 164 = .ok (.invokestatic 215, 3) := by decide +kernel
theorem d_Judge_yakuOfTriplets_167 : decode prog_2_method_18_code 167 = .ok (.ifCond .eq 7, 3) := by decide +kernel
theorem d_Judge_yakuOfTriplets_170 : decode prog_2_method_18_code 170 = .ok (.iconst 1, 1) := by decide +kernel
theorem d_Judge_yakuOfTriplets_171 : decode prog_2_method_18_code 171 = .ok (.goto 4, 3) := by decide +kernel
theorem d_Judge_yakuOfTriplets_174 : decode prog_2_method_18_code 174 = .ok (.iconst 0, 1) := by decide +kernel
theorem d_Judge_yakuOfTriplets_175 : decode prog_2_method_18_code 175 = .ok (.bipush 35, 2) := by decide +kernel
theorem d_Judge_yakuOfTriplets_177 : decode prog_2_method_18_code 177 = .ok (.invokestatic 191, 3) := by decide +kernel
theorem d_Judge_yakuOfTriplets_180 : decode prog_2_method_18_code 180 = .ok (.lor, 1) := by decide +kernel
theorem d_Judge_yakuOfTriplets_181 : decode prog_2_method_18_code 181 = .ok (.iload 6, 2) := by decide +kernel
theorem d_Judge_yakuOfTriplets_183 : decode prog_2_method_18_code 183 = .ok (.iconst 4, 1) := by decide +kernel
theorem d_Judge_yakuOfTriplets_184 : decode prog_2_method_18_code 184 = .ok (.if_icmp .ne 7, 3) := by decide +kernel
theorem d_Judge_yakuOfTriplets_187 : decode prog_2_method_18_code 187 = .ok (.iconst 1, 1) := by decide +kernel
theorem d_Judge_yakuOfTriplets_188 : decode prog_2_method_18_code 188 = .ok (.goto 4, 3) := by decide +kernel
theorem d_Judge_yakuOfTriplets_191 : decode prog_2_method_18_code 191 = .ok (.iconst 0, 1) := by decide +kernel
theorem d_Judge_yakuOfTriplets_192 : decode prog_2_method_18_code 192 = .ok (.bipush 36, 2) := by decide +kernel
theorem d_Judge_yakuOfTriplets_194 : decode prog_2_method_18_code 194 = .ok (.invokestatic 191, 3) := by decide +kernel
theorem d_Judge_yakuOfTriplets_197 : decode prog_2_method_18_code 197 = .ok (.lor, 1) := by decide +kernel
theorem d_Judge_yakuOfTriplets_198 : decode prog_2_method_18_code 198 = .ok (.lreturn, 1) := by decide +kernel
theorem d_Judge_rateSets_0 : decode prog_2_method_5_code 0 = .ok (.aload_n 0, 1) := by decide +kernel
theorem d_Judge_rateSets_1 : decode prog_2_method_5_code 1 = .ok (.iconst 1, 1) := by decide +kernel
theorem d_Judge_rateSets_2 : decode prog_2_method_5_code 2 = .ok (.invokevirtual 123, 3) := by decide +kernel
theorem d_Judge_rateSets_5 : decode prog_2_method_5_code 5 = .ok (.lstore_n 3, 1) := by decide +kernel
theorem d_Judge_rateSets_6 : decode prog_2_method_5_code 6 = .ok (.aload_n 0, 1) := by decide +kernel
theorem d_Judge_rateSets_7 : decode prog_2_method_5_code 7 = .ok (.iconst 0, 1) := by decide +kernel
theorem d_Judge_rateSets_8 : decode prog_2_method_5_code 8 = .ok (.invokevirtual 123, 3) := by decide +kernel
theorem d_Judge_rateSets_11 : decode prog_2_method_5_code 11 = .ok (.lstore 5, 2) := by decide +kernel
theorem d_Judge_rateSets_13 : decode prog_2_method_5_code 13 = .ok (.aload_n 0, 1) := by decide +kernel
theorem d_Judge_rateSets_14 : decode prog_2_method_5_code 14 = .ok (.getfield 83, 3) := by decide +kernel
theorem d_Judge_rateSets_17 : decode prog_2_method_5_code 17 = .ok (.lload_n 1, 1) := by decide +kernel
theorem d_Judge_rateSets_18 : decode prog_2_method_5_code 18 = .ok (.lor, 1) := by decide +kernel
theorem d_Judge_rateSets_19 : decode prog_2_method_5_code 19 = .ok (.aload_n 0, 1) := by decide +kernel
theorem d_Judge_rateSets_20 : decode prog_2_method_5_code 20 = .ok (.lload_n 3, 1) := by decide +kernel
theorem d_Judge_rateSets_21 : decode prog_2_method_5_code 21 = .ok (.invokevirtual 127, 3) := by decide +kernel
theorem d_Judge_rateSets_24 : decode prog_2_method_5_code 24 = .ok (.lor, 1) := by decide +kernel
theorem d_Judge_rateSets_25 : decode prog_2_method_5_code 25 = .ok (.aload_n 0, 1) := by decide +kernel
theorem d_Judge_rateSets_26 : decode prog_2_method_5_code 26 = .ok (.lload_n 3, 1) := by decide +kernel
theorem d_Judge_rateSets_27 : decode prog_2_method_5_code 27 = .ok (.invokevirtual 131, 3) := by decide +kernel
theorem d_Judge_rateSets_30 : decode prog_2_method_5_code 30 = .ok (.lor, 1) := by decide +kernel
theorem d_Judge_rateSets_31 : decode prog_2_method_5_code 31 = .ok (.aload_n 0, 1) := by decide +kernel
theorem d_Judge_rateSets_32 : decode prog_2_method_5_code 32 = .ok (.lload 5, 2) := by decide +kernel
theorem d_Judge_rateSets_34 : decode prog_2_method_5_code 34 = .ok (.invokevirtual 134, 3) := by decide +kernel
theorem d_Judge_rateSets_37 : decode prog_2_method_5_code 37 = .ok (.lor, 1) := by decide +kernel
theorem d_Judge_rateSets_38 : decode prog_2_method_5_code 38 = .ok (.aload_n 0, 1) := by decide +kernel
theorem d_Judge_rateSets_39 : decode prog_2_method_5_code 39 = .ok (.invokevirtual 137, 3) := by decide +kernel
theorem d_Judge_rateSets_42 : decode prog_2_method_5_code 42 = .ok (.lor, 1) := by decide +kernel
theorem d_Judge_rateSets_43 : decode prog_2_method_5_code 43 = .ok (.lstore 7, 2) := by decide +kernel
theorem d_Judge_rateSets_45 : decode prog_2_method_5_code 45 = .ok (.lload 7, 2) := by decide +kernel
theorem d_Judge_rateSets_47 : decode prog_2_method_5_code 47 = .ok (.ldc2_w 140, 3) := by decide +kernel
theorem d_Judge_rateSets_50 : decode prog_2_method_5_code 50 = .ok (.land, 1) := by decide +kernel
theorem d_Judge_rateSets_51 : decode prog_2_method_5_code 51 = .ok (.lconst 0, 1) := by decide +kernel
theorem d_Judge_rateSets_52 : decode prog_2_method_5_code 52 = .ok (.lcmp, 1) := by decide +kernel
theorem d_Judge_rateSets_53 : decode prog_2_method_5_code 53 = .ok (.ifCond .eq 17, 3) := by decide +kernel
theorem d_Judge_rateSets_56 : decode prog_2_method_5_code 56 = .ok (.lload 7, 2) := by decide +kernel
theorem d_Judge_rateSets_58 : decode prog_2_method_5_code 58 = .ok (.bipush 30, 2) := by decide +kernel
theorem d_Judge_rateSets_60 : decode prog_2_method_5_code 60 = .ok (.lshr, 1) := by decide +kernel
theorem d_Judge_rateSets_61 : decode prog_2_method_5_code 61 = .ok (.lconst 0, 1) := by decide +kernel
theorem d_Judge_rateSets_62 : decode prog_2_method_5_code 62 = .ok (.lcmp, 1) := by decide +kernel
theorem d_Judge_rateSets_63 : decode prog_2_method_5_code 63 = .ok (.ifCond .ne 7, 3) := by decide +kernel
theorem d_Judge_rateSets_66 : decode prog_2_method_5_code 66 = .ok (.iconst 1, 1) := by decide +kernel
theorem d_Judge_rateSets_67 : decode prog_2_method_5_code 67 = .ok (.goto 4, 3) := by decide +kernel
theorem d_Judge_rateSets_70 : decode prog_2_method_5_code 70 = .ok (.iconst 0, 1) := by decide +kernel
theorem d_Judge_rateSets_71 : decode prog_2_method_5_code 71 = .ok (.istore 9, 2) := by decide +kernel
theorem d_Judge_rateSets_73 : decode prog_2_method_5_code 73 = .ok (.aload_n 0, 1) := by decide +kernel
theorem d_Judge_rateSets_74 : decode prog_2_method_5_code 74 = .ok (.lload 7, 2) := by decide +kernel
theorem d_Judge_rateSets_76 : decode prog_2_method_5_code 76 = .ok (.iload 9, 2) := by decide +kernel
theorem d_Judge_rateSets_78 : decode prog_2_method_5_code 78 = .ok (.ifCond .eq 15, 3) := by decide +kernel
theorem d_Judge_rateSets_81 : decode prog_2_method_5_code 81 = .ok (.aload_n 0, 1) := by decide +kernel
theorem d_Judge_rateSets_82 : decode prog_2_method_5_code 82 = .ok (.getfield 39, 3) := by decide +kernel
theorem d_Judge_rateSets_85 : decode prog_2_method_5_code 85 = .ok (.ifCond .eq 8, 3) := by decide +kernel
theorem d_Judge_rateSets_88 : decode prog_2_method_5_code 88 = .ok (.bipush 20, 2) := by decide +kernel
theorem d_Judge_rateSets_90 : decode prog_2_method_5_code 90 = .ok (.goto 7, 3) := by decide +kernel
theorem d_Judge_rateSets_93 : decode prog_2_method_5_code 93 = .ok (.aload_n 0, 1) := by decide +kernel
theorem d_Judge_rateSets_94 : decode prog_2_method_5_code 94 = .ok (.invokevirtual 142, 3) := by decide +kernel
theorem d_Judge_rateSets_97 : decode prog_2_method_5_code 97 = .ok (.invokevirtual 88, 3) := by decide +kernel
theorem d_Judge_rateSets_100 : decode prog_2_method_5_code 100 = .ok (.return_, 1) := by decide +kernel
theorem d_Judge_hasNineGates_0 : decode prog_2_method_23_code 0 = .ok (.aload_n 0, 1) := by decide +kernel
theorem d_Judge_hasNineGates_1 : decode prog_2_method_23_code 1 = .ok (.getfield 48, 3) := by decide +kernel
theorem d_Judge_hasNineGates_4 : decode prog_2_method_23_code 4 = .ok (.ifCond .eq 5, 3) := by decide +kernel
theorem d_Judge_hasNineGates_7 : decode prog_2_method_23_code 7 = .ok (.iconst 0, 1) := by decide +kernel
theorem d_Judge_hasNineGates_8 : decode prog_2_method_23_code 8 = .ok (.ireturn, 1) := by decide +kernel
theorem d_Judge_hasNineGates_9 : decode prog_2_method_23_code 9 = .ok (.iconst 1, 1) := by decide +kernel
theorem d_Judge_hasNineGates_10 : decode prog_2_method_23_code 10 = .ok (.istore_n 2, 1) := by decide +kernel
theorem d_Judge_hasNineGates_11 : decode prog_2_method_23_code 11 = .ok (.iload_n 2, 1) := by decide +kernel
theorem d_Judge_hasNineGates_12 : decode prog_2_method_23_code 12 = .ok (.bipush 9, 2) := by decide +kernel
theorem d_Judge_hasNineGates_14 : decode prog_2_method_23_code 14 = .ok (.if_icmp .gt 42, 3) := by decide +kernel
theorem d_Judge_hasNineGates_17 : decode prog_2_method_23_code 17 = .ok (.iload_n 2, 1) := by decide +kernel
theorem d_Judge_hasNineGates_18 : decode prog_2_method_23_code 18 = .ok (.iconst 1, 1) := by decide +kernel
theorem d_Judge_hasNineGates_19 : decode prog_2_method_23_code 19 = .ok (.if_icmp .eq 9, 3) := by decide +kernel
theorem d_Judge_hasNineGates_22 : decode prog_2_method_23_code 22 = .ok (.iload_n 2, 1) := by decide +kernel
theorem d_Judge_hasNineGates_23 : decode prog_2_method_23_code 23 = .ok (.bipush 9, 2) := by decide +kernel
theorem d_Judge_hasNineGates_25 : decode prog_2_method_23_code 25 = .ok (.if_icmp .ne 7, 3) := by decide +kernel
theorem d_Judge_hasNineGates_28 : decode prog_2_method_23_code 28 = .ok (.iconst 3, 1) := by decide +kernel
theorem d_Judge_hasNineGates_29 : decode prog_2_method_23_code 29 = .ok (.goto 4, 3) := by decide +kernel
theorem d_Judge_hasNineGates_32 : decode prog_2_method_23_code 32 = .ok (.iconst 1, 1) := by decide +kernel
theorem d_Judge_hasNineGates_33 : decode prog_2_method_23_code 33 = .ok (.istore_n 3, 1) := by decide +kernel
theorem d_Judge_hasNineGates_34 : decode prog_2_method_23_code 34 = .ok (.aload_n 0, 1) := by decide +kernel
theorem d_Judge_hasNineGates_35 : decode prog_2_method_23_code 35 = .ok (.getfield 18, 3) := by decide +kernel
theorem d_Judge_hasNineGates_38 : decode prog_2_method_23_code 38 = .ok (.iload_n 1, 1) := by decide +kernel
theorem d_Judge_hasNineGates_39 : decode prog_2_method_23_code 39 = .ok (.iload_n 2, 1) := by decide +kernel
theorem d_Judge_hasNineGates_40 : decode prog_2_method_23_code 40 = .ok (.iadd, 1) := by decide +kernel
theorem d_Judge_hasNineGates_41 : decode prog_2_method_23_code 41 = .ok (.iconst 1, 1) := by decide +kernel
theorem d_Judge_hasNineGates_42 : decode prog_2_method_23_code 42 = .ok (.isub, 1) := by decide +kernel
theorem d_Judge_hasNineGates_43 : decode prog_2_method_23_code 43 = .ok (.iaload, 1) := by decide +kernel
theorem d_Judge_hasNineGates_44 : decode prog_2_method_23_code 44 = .ok (.iload_n 3, 1) := by decide +kernel
theorem d_Judge_hasNineGates_45 : decode prog_2_method_23_code 45 = .ok (.if_icmp .ge 5, 3) := by decide +kernel
theorem d_Judge_hasNineGates_48 : decode prog_2_method_23_code 48 = .ok (.iconst 0, 1) := by decide +kernel
theorem d_Judge_hasNineGates_49 : decode prog_2_method_23_code 49 = .ok (.ireturn, 1) := by decide +kernel
theorem d_Judge_hasNineGates_50 : decode prog_2_method_23_code 50 = .ok (.iinc 2 1, 3) := by decide +kernel
theorem d_Judge_hasNineGates_53 : decode prog_2_method_23_code 53 = .ok (.goto (-42), 3) := by decide +kernel
theorem d_Judge_hasNineGates_56 : decode prog_2_method_23_code 56 = .ok (.iconst 1, 1) := by decide +kernel
theorem d_Judge_hasNineGates_57 : decode prog_2_method_23_code 57 = .ok (.ireturn, 1) := by decide +kernel
theorem d_Judge_kindsOfTiles_0 : decode prog_2_method_21_code 0 = .ok (.lconst 0, 1) := by decide +kernel
theorem d_Judge_kindsOfTiles_1 : decode prog_2_method_21_code 1 = .ok (.lstore_n 1, 1) := by decide +kernel
theorem d_Judge_kindsOfTiles_2 : decode prog_2_method_21_code 2 = .ok (.iconst 0, 1) := by decide +kernel
theorem d_Judge_kindsOfTiles_3 : decode prog_2_method_21_code 3 = .ok (.istore_n 3, 1) := by decide +kernel
theorem d_Judge_kindsOfTiles_4 : decode prog_2_method_21_code 4 = .ok (.iload_n 3, 1) := by decide +kernel
theorem d_Judge_kindsOfTiles_5 : decode prog_2_method_21_code 5 = .ok (.bipush 34, 2) := by decide +kernel
theorem d_Judge_kindsOfTiles_7 : decode prog_2_method_21_code 7 = .ok (.if_icmp .ge 30, 3) := by decide +kernel
theorem d_Judge_kindsOfTiles_10 : decode prog_2_method_21_code 10 = .ok (.lload_n 1, 1) := by decide +kernel
theorem d_Judge_kindsOfTiles_11 : decode prog_2_method_21_code 11 = .ok (.aload_n 0, 1) := by decide +kernel
theorem d_Judge_kindsOfTiles_12 : decode prog_2_method_21_code 12 = .ok (.getfield 18, 3) := by decide +kernel
theorem d_Judge_kindsOfTiles_15 : decode prog_2_method_21_code 15 = .ok (.iload_n 3, 1) := by decide +kernel
theorem d_Judge_kindsOfTiles_16 : decode prog_2_method_21_code 16 = .ok (.iaload, 1) := by decide +kernel
theorem d_Judge_kindsOfTiles_17 : decode prog_2_method_21_code 17 = .ok (.ifCond .le 7, 3) := by decide +kernel
theorem d_Judge_kindsOfTiles_20 : decode prog_2_method_21_code 20 = .ok (.iconst 1, 1) := by decide +kernel
theorem d_Judge_kindsOfTiles_21 : decode prog_2_method_21_code 21 = .ok (.goto 4, 3) := by decide +kernel
theorem d_Judge_kindsOfTiles_24 : decode prog_2_method_21_code 24 = .ok (.iconst 0, 1) := by decide +kernel
theorem d_Judge_kindsOfTiles_25 : decode prog_2_method_21_code 25 = .ok (.iload_n 3, 1) := by decide +kernel
theorem d_Judge_kindsOfTiles_26 : decode prog_2_method_21_code 26 = .ok (.invokestatic 191, 3) := by decide +kernel
theorem d_Judge_kindsOfTiles_29 : decode prog_2_method_21_code 29 = .ok (.lor, 1) := by decide +kernel
theorem d_Judge_kindsOfTiles_30 : decode prog_2_method_21_code 30 = .ok (.lstore_n 1, 1) := by decide +kernel
theorem d_Judge_kindsOfTiles_31 : decode prog_2_method_21_code 31 = .ok (.iinc 3 1, 3) := by decide +kernel
theorem d_Judge_kindsOfTiles_34 : decode prog_2_method_21_code 34 = .ok (.goto (-30), 3) := by decide +kernel
theorem d_Judge_kindsOfTiles_37 : decode prog_2_method_21_code 37 = .ok (.lload_n 1, 1) := by decide +kernel
theorem d_Judge_kindsOfTiles_38 : decode prog_2_method_21_code 38 = .ok (.lreturn, 1) := by decide +kernel
theorem d_Judge_yakuOfTiles_0 : decode prog_2_method_22_code 0 = .ok (.aload_n 0, 1) := by decide +kernel
theorem d_Judge_yakuOfTiles_1 : decode prog_2_method_22_code 1 = .ok (.invokevirtual 231, 3) := by decide +kernel
theorem d_Judge_yakuOfTiles_4 : decode prog_2_method_22_code 4 = .ok (.lstore_n 1, 1) := by decide +kernel
theorem d_Judge_yakuOfTiles_5 : decode prog_2_method_22_code 5 = .ok (.iconst 0, 1) := by decide +kernel
theorem d_Judge_yakuOfTiles_6 : decode prog_2_method_22_code 6 = .ok (.istore_n 3, 1) := by decide +kernel
theorem d_Judge_yakuOfTiles_7 : decode prog_2_method_22_code 7 = .ok (.iconst 0, 1) := by decide +kernel
theorem d_Judge_yakuOfTiles_8 : decode prog_2_method_22_code 8 = .ok (.istore 4, 2) := by decide +kernel
theorem d_Judge_yakuOfTiles_10 : decode prog_2_method_22_code 10 = .ok (.iconst 0, 1) := by decide +kernel
theorem d_Judge_yakuOfTiles_11 : decode prog_2_method_22_code 11 = .ok (.istore 5, 2) := by decide +kernel
theorem d_Judge_yakuOfTiles_13 : decode prog_2_method_22_code 13 = .ok (.iload 5, 2) := by decide +kernel
theorem d_Judge_yakuOfTiles_15 : decode prog_2_method_22_code 15 = .ok (.iconst 3, 1) := by decide +kernel
theorem d_Judge_yakuOfTiles_16 : decode prog_2_method_22_code 16 = .ok (.if_icmp .ge 32, 3) := by decide +kernel
theorem d_Judge_yakuOfTiles_19 : decode prog_2_method_22_code 19 = .ok (.lload_n 1, 1) := by decide +kernel
theorem d_Judge_yakuOfTiles_20 : decode prog_2_method_22_code 20 = .ok (.bipush 9, 2) := by decide +kernel
theorem d_Judge_yakuOfTiles_22 : decode prog_2_method_22_code 22 = .ok (.iload 5, 2) := by decide +kernel
theorem d_Judge_yakuOfTiles_24 : decode prog_2_method_22_code 24 = .ok (.imul, 1) := by decide +kernel
theorem d_Judge_yakuOfTiles_25 : decode prog_2_method_22_code 25 = .ok (.lshr, 1) := by decide +kernel
theorem d_Judge_yakuOfTiles_26 : decode prog_2_method_22_code 26 = .ok (.ldc2_w 184, 3) := by decide +kernel
theorem d_Judge_yakuOfTiles_29 : decode prog_2_method_22_code 29 = .ok (.land, 1) := by decide +kernel
theorem d_Judge_yakuOfTiles_30 : decode prog_2_method_22_code 30 = .ok (.lconst 0, 1) := by decide +kernel
theorem d_Judge_yakuOfTiles_31 : decode prog_2_method_22_code 31 = .ok (.lcmp, 1) := by decide +kernel
theorem d_Judge_yakuOfTiles_32 : decode prog_2_method_22_code 32 = .ok (.ifCond .eq 10, 3) := by decide +kernel
theorem d_Judge_yakuOfTiles_35 : decode prog_2_method_22_code 35 = .ok (.iinc 3 1, 3) := by decide +kernel
theorem d_Judge_yakuOfTiles_38 : decode prog_2_method_22_code 38 = .ok (.iload 5, 2) := by decide +kernel
theorem d_Judge_yakuOfTiles_40 : decode prog_2_method_22_code 40 = .ok (.istore 4, 2) := by decide +kernel
theorem d_Judge_yakuOfTiles_42 : decode prog_2_method_22_code 42 = .ok (.iinc 5 1, 3) := by decide +kernel
theorem d_Judge_yakuOfTiles_45 : decode prog_2_method_22_code 45 = .ok (.goto (-32), 3) := by decide +kernel
theorem d_Judge_yakuOfTiles_48 : decode prog_2_method_22_code 48 = .ok (.lload_n 1, 1) := by decide +kernel
theorem d_Judge_yakuOfTiles_49 : decode prog_2_method_22_code 49 = .ok (.ldc2_w 234, 3) := by decide +kernel
theorem d_Judge_yakuOfTiles_52 : decode prog_2_method_22_code 52 = .ok (.land, 1) := by decide +kernel
theorem d_Judge_yakuOfTiles_53 : decode prog_2_method_22_code 53 = .ok (.lconst 0, 1) := by decide +kernel
theorem d_Judge_yakuOfTiles_54 : decode prog_2_method_22_code 54 = .ok (.lcmp, 1) := by decide +kernel
theorem d_Judge_yakuOfTiles_55 : decode prog_2_method_22_code 55 = .ok (.ifCond .eq 7, 3) := by decide +kernel
theorem d_Judge_yakuOfTiles_58 : decode prog_2_method_22_code 58 = .ok (.iconst 1, 1) := by decide +kernel
theorem d_Judge_yakuOfTiles_59 : decode prog_2_method_22_code 59 = .ok (.goto 4, 3) := by decide +kernel
theorem d_Judge_yakuOfTiles_62 : decode prog_2_method_22_code 62 = .ok (.iconst 0, 1) := by decide +kernel
theorem d_Judge_yakuOfTiles_63 : decode prog_2_method_22_code 63 = .ok (.istore 5, 2) := by decide +kernel
theorem d_Judge_yakuOfTiles_65 : decode prog_2_method_22_code 65 = .ok (.lload_n 1, 1) := by decide +kernel
theorem d_Judge_yakuOfTiles_66 : decode prog_2_method_22_code 66 = .ok (.ldc2_w 236, 3) := by decide +kernel
theorem d_Judge_yakuOfTiles_69 : decode prog_2_method_22_code 69 = .ok (.land, 1) := by decide +kernel
theorem d_Judge_yakuOfTiles_70 : decode prog_2_method_22_code 70 = .ok (.lconst 0, 1) := by decide +kernel
theorem d_Judge_yakuOfTiles_71 : decode prog_2_method_22_code 71 = .ok (.lcmp, 1) := by decide +kernel
theorem d_Judge_yakuOfTiles_72 : decode prog_2_method_22_code 72 = .ok (.ifCond .ne 7, 3) := by decide +kernel
theorem d_Judge_yakuOfTiles_75 : decode prog_2_method_22_code 75 = .ok (.iconst 1, 1) := by decide +kernel
theorem d_Judge_yakuOfTiles_76 : decode prog_2_method_22_code 76 = .ok (.goto 4, 3) := by decide +kernel
theorem d_Judge_yakuOfTiles_79 : decode prog_2_method_22_code 79 = .ok (.iconst 0, 1) := by decide +kernel
theorem d_Judge_yakuOfTiles_80 : decode prog_2_method_22_code 80 = .ok (.bipush 24, 2) := by decide +kernel
theorem d_Judge_yakuOfTiles_82 : decode prog_2_method_22_code 82 = .ok (.invokestatic 191, 3) := by decide +kernel
theorem d_Judge_yakuOfTiles_85 : decode prog_2_method_22_code 85 = .ok (.lload_n 1, 1) := by decide +kernel
theorem d_Judge_yakuOfTiles_86 : decode prog_2_method_22_code 86 = .ok (.ldc2_w 238, 3) := by decide +kernel
theorem d_Judge_yakuOfTiles_89 : decode prog_2_method_22_code 89 = .ok (.land, 1) := by decide +kernel
theorem d_Judge_yakuOfTiles_90 : decode prog_2_method_22_code 90 = .ok (.lconst 0, 1) := by decide +kernel
theorem d_Judge_yakuOfTiles_91 : decode prog_2_method_22_code 91 = .ok (.lcmp, 1) := by decide +kernel
theorem d_Judge_yakuOfTiles_92 : decode prog_2_method_22_code 92 = .ok (.ifCond .ne 7, 3) := by decide +kernel
theorem d_Judge_yakuOfTiles_95 : decode prog_2_method_22_code 95 = .ok (.iconst 1, 1) := by decide +kernel
theorem d_Judge_yakuOfTiles_96 : decode prog_2_method_22_code 96 = .ok (.goto 4, 3) := by decide +kernel
theorem d_Judge_yakuOfTiles_99 : decode prog_2_method_22_code 99 = .ok (.iconst 0, 1) := by decide +kernel
theorem d_Judge_yakuOfTiles_100 : decode prog_2_method_22_code 100 = .ok (.bipush 25, 2) := by decide +kernel
theorem d_Judge_yakuOfTiles_102 : decode prog_2_method_22_code 102 = .ok (.invokestatic 191, 3) := by decide +kernel
theorem d_Judge_yakuOfTiles_105 : decode prog_2_method_22_code 105 = .ok (.lor, 1) := by decide +kernel
theorem d_Judge_yakuOfTiles_106 : decode prog_2_method_22_code 106 = .ok (.iload_n 3, 1) := by decide +kernel
theorem d_Judge_yakuOfTiles_107 : decode prog_2_method_22_code 107 = .ok (.iconst 1, 1) := by decide +kernel
theorem d_Judge_yakuOfTiles_108 : decode prog_2_method_22_code 108 = .ok (.if_icmp .ne 12, 3) := by decide +kernel
theorem d_Judge_yakuOfTiles_111 : decode prog_2_method_22_code 111 = .ok (.iload 5, 2) := by decide +kernel
theorem d_Judge_yakuOfTiles_113 : decode prog_2_method_22_code 113 = .ok (.ifCond .eq 7, 3) := by decide +kernel
theorem d_Judge_yakuOfTiles_116 : decode prog_2_method_22_code 116 = .ok (.iconst 1, 1) := by decide +kernel
theorem d_Judge_yakuOfTiles_117 : decode prog_2_method_22_code 117 = .ok (.goto 4, 3) := by decide +kernel
theorem d_Judge_yakuOfTiles_120 : decode prog_2_method_22_code 120 = .ok (.iconst 0, 1) := by decide +kernel
theorem d_Judge_yakuOfTiles_121 : decode prog_2_method_22_code 121 = .ok (.bipush 28, 2) := by decide +kernel
theorem d_Judge_yakuOfTiles_123 : decode prog_2_method_22_code 123 = .ok (.invokestatic 191, 3) := by decide +kernel
theorem d_Judge_yakuOfTiles_126 : decode prog_2_method_22_code 126 = .ok (.lor, 1) := by decide +kernel
theorem d_Judge_yakuOfTiles_127 : decode prog_2_method_22_code 127 = .ok (.iload_n 3, 1) := by decide +kernel
theorem d_Judge_yakuOfTiles_128 : decode prog_2_method_22_code 128 = .ok (.iconst 1, 1) := by decide +kernel
theorem d_Judge_yakuOfTiles_129 : decode prog_2_method_22_code 129 = .ok (.if_icmp .ne 12, 3) := by decide +kernel
theorem d_Judge_yakuOfTiles_132 : decode prog_2_method_22_code 132 = .ok (.iload 5, 2) := by decide +kernel
theorem d_Judge_yakuOfTiles_134 : decode prog_2_method_22_code 134 = .ok (.ifCond .ne 7, 3) := by decide +kernel
theorem d_Judge_yakuOfTiles_137 : decode prog_2_method_22_code 137 = .ok (.iconst 1, 1) := by decide +kernel
theorem d_Judge_yakuOfTiles_138 : decode prog_2_method_22_code 138 = .ok (.goto 4, 3) := by decide +kernel
theorem d_Judge_yakuOfTiles_141 : decode prog_2_method_22_code 141 = .ok (.iconst 0, 1) := by decide +kernel
theorem d_Judge_yakuOfTiles_142 : decode prog_2_method_22_code 142 = .ok (.bipush 29, 2) := by decide +kernel
theorem d_Judge_yakuOfTiles_144 : decode prog_2_method_22_code 144 = .ok (.invokestatic 191, 3) := by decide +kernel
theorem d_Judge_yakuOfTiles_147 : decode prog_2_method_22_code 147 = .ok (.lor, 1) := by decide +kernel
theorem d_Judge_yakuOfTiles_148 : decode prog_2_method_22_code 148 = .ok (.iload_n 3, 1) := by decide +kernel
theorem d_Judge_yakuOfTiles_149 : decode prog_2_method_22_code 149 = .ok (.iconst 1, 1) := by decide +kernel
theorem d_Judge_yakuOfTiles_150 : decode prog_2_method_22_code 150 = .ok (.if_icmp .ne 24, 3) := by decide +kernel
theorem d_Judge_yakuOfTiles_153 : decode prog_2_method_22_code 153 = .ok (.iload 5, 2) := by decide +kernel
theorem d_Judge_yakuOfTiles_155 : decode prog_2_method_22_code 155 = .ok (.ifCond .ne 19, 3) := by decide +kernel
theorem d_Judge_yakuOfTiles_158 : decode prog_2_method_22_code 158 = .ok (.aload_n 0, 1) := by decide +kernel
theorem d_Judge_yakuOfTiles_159 : decode prog_2_method_22_code 159 = .ok (.bipush 9, 2) := by decide +kernel
theorem d_Judge_yakuOfTiles_161 : decode prog_2_method_22_code 161 = .ok (.iload 4, 2) := by decide +kernel
theorem d_Judge_yakuOfTiles_163 : decode prog_2_method_22_code 163 = .ok (.imul, 1) := by decide +kernel
theorem d_Judge_yakuOfTiles_164 : decode prog_2_method_22_code 164 = .ok (.invokevirtual 240, 3) := by decide +kernel
theorem d_Judge_yakuOfTiles_167 : decode prog_2_method_22_code 167 = .ok (.ifCond .eq 7, 3) := by decide +kernel
theorem d_Judge_yakuOfTiles_170 : decode prog_2_method_22_code 170 = .ok (.iconst 1, 1) := by decide +kernel
theorem d_Judge_yakuOfTiles_171 : decode prog_2_method_22_code 171 = .ok (.goto 4, 3) := by decide +kernel
theorem d_Judge_yakuOfTiles_174 : decode prog_2_method_22_code 174 = .ok (.iconst 0, 1) := by decide +kernel
theorem d_Judge_yakuOfTiles_175 : decode prog_2_method_22_code 175 = .ok (.bipush 31, 2) := by decide +kernel
theorem d_Judge_yakuOfTiles_177 : decode prog_2_method_22_code 177 = .ok (.invokestatic 191, 3) := by decide +kernel
theorem d_Judge_yakuOfTiles_180 : decode prog_2_method_22_code 180 = .ok (.lor, 1) := by decide +kernel
theorem d_Judge_yakuOfTiles_181 : decode prog_2_method_22_code 181 = .ok (.iload_n 3, 1) := by decide +kernel
theorem d_Judge_yakuOfTiles_182 : decode prog_2_method_22_code 182 = .ok (.ifCond .ne 7, 3) := by decide +kernel
theorem d_Judge_yakuOfTiles_185 : decode prog_2_method_22_code 185 = .ok (.iconst 1, 1) := by decide +kernel
theorem d_Judge_yakuOfTiles_186 : decode prog_2_method_22_code 186 = .ok (.goto 4, 3) := by decide +kernel
theorem d_Judge_yakuOfTiles_189 : decode prog_2_method_22_code 189 = .ok (.iconst 0, 1) := by decide +kernel
theorem d_Judge_yakuOfTiles_190 : decode prog_2_method_22_code 190 = .ok (.bipush 37, 2) := by decide +kernel
theorem d_Judge_yakuOfTiles_192 : decode prog_2_method_22_code 192 = .ok (.invokestatic 191, 3) := by decide +kernel
theorem d_Judge_yakuOfTiles_195 : decode prog_2_method_22_code 195 = .ok (.lor, 1) := by decide +kernel
theorem d_Judge_yakuOfTiles_196 : decode prog_2_method_22_code 196 = .ok (.lload_n 1, 1) := by decide +kernel
theorem d_Judge_yakuOfTiles_197 : decode prog_2_method_22_code 197 = .ok (.ldc2_w 243, 3) := by decide +kernel
theorem d_Judge_yakuOfTiles_200 : decode prog_2_method_22_code 200 = .ok (.land, 1) := by decide +kernel
theorem d_Judge_yakuOfTiles_201 : decode prog_2_method_22_code 201 = .ok (.lconst 0, 1) := by decide +kernel
theorem d_Judge_yakuOfTiles_202 : decode prog_2_method_22_code 202 = .ok (.lcmp, 1) := by decide +kernel
theorem d_Judge_yakuOfTiles_203 : decode prog_2_method_22_code 203 = .ok (.ifCond .ne 7, 3) := by decide +kernel
theorem d_Judge_yakuOfTiles_206 : decode prog_2_method_22_code 206 = .ok (.iconst 1, 1) := by decide +kernel
theorem d_Judge_yakuOfTiles_207 : decode prog_2_method_22_code 207 = .ok (.goto 4, 3) := by decide +kernel
theorem d_Judge_yakuOfTiles_210 : decode prog_2_method_22_code 210 = .ok (.iconst 0, 1) := by decide +kernel
theorem d_Judge_yakuOfTiles_211 : decode prog_2_method_22_code 211 = .ok (.bipush 38, 2) := by decide +kernel
theorem d_Judge_yakuOfTiles_213 : decode prog_2_method_22_code 213 = .ok (.invokestatic 191, 3) := by decide +kernel
theorem d_Judge_yakuOfTiles_216 : decode prog_2_method_22_code 216 = .ok (.lor, 1) := by decide +kernel
theorem d_Judge_yakuOfTiles_217 : decode prog_2_method_22_code 217 = .ok (.lload_n 1, 1) := by decide +kernel
theorem d_Judge_yakuOfTiles_218 : decode prog_2_method_22_code 218 = .ok (.ldc2_w 245, 3) := by decide +kernel
theorem d_Judge_yakuOfTiles_221 : decode prog_2_method_22_code 221 = .ok (.land, 1) := by decide +kernel
theorem d_Judge_yakuOfTiles_222 : decode prog_2_method_22_code 222 = .ok (.lconst 0, 1) := by decide +kernel
theorem d_Judge_yakuOfTiles_223 : decode prog_2_method_22_code 223 = .ok (.lcmp, 1) := by decide +kernel
theorem d_Judge_yakuOfTiles_224 : decode prog_2_method_22_code 224 = .ok (.ifCond .ne 7, 3) := by decide +kernel
theorem d_Judge_yakuOfTiles_227 : decode prog_2_method_22_code 227 = .ok (.iconst 1, 1) := by decide +kernel
theorem d_Judge_yakuOfTiles_228 : decode prog_2_method_22_code 228 = .ok (.goto 4, 3) := by decide +kernel
theorem d_Judge_yakuOfTiles_231 : decode prog_2_method_22_code 231 = .ok (.iconst 0, 1) := by decide +kernel
theorem d_Judge_yakuOfTiles_232 : decode prog_2_method_22_code 232 = .ok (.bipush 39, 2) := by decide +kernel
theorem d_Judge_yakuOfTiles_234 : decode prog_2_method_22_code 234 = .ok (.invokestatic 191, 3) := by decide +kernel
theorem d_Judge_yakuOfTiles_237 : decode prog_2_method_22_code 237 = .ok (.lor, 1) := by decide +kernel
theorem d_Judge_yakuOfTiles_238 : decode prog_2_method_22_code 238 = .ok (.lreturn, 1) := by decide +kernel
theorem d_Shape_isOrphans_0 : decode prog_4_method_6_code 0 = .ok (.lconst 0, 1) := by decide +kernel
theorem d_Shape_isOrphans_1 : decode prog_4_method_6_code 1 = .ok (.lstore_n 1, 1) := by decide +kernel
theorem d_Shape_isOrphans_2 : decode prog_4_method_6_code 2 = .ok (.iconst 0, 1) := by decide +kernel
theorem d_Shape_isOrphans_3 : decode prog_4_method_6_code 3 = .ok (.istore_n 3, 1) := by decide +kernel
theorem d_Shape_isOrphans_4 : decode prog_4_method_6_code 4 = .ok (.iload_n 3, 1) := by decide +kernel
theorem d_Shape_isOrphans_5 : decode prog_4_method_6_code 5 = .ok (.bipush 34, 2) := by decide +kernel
theorem d_Shape_isOrphans_7 : decode prog_4_method_6_code 7 = .ok (.if_icmp .ge 21, 3) := by decide +kernel
theorem d_Shape_isOrphans_10 : decode prog_4_method_6_code 10 = .ok (.aload_n 0, 1) := by decide +kernel
theorem d_Shape_isOrphans_11 : decode prog_4_method_6_code 11 = .ok (.iload_n 3, 1) := by decide +kernel
theorem d_Shape_isOrphans_12 : decode prog_4_method_6_code 12 = .ok (.iaload, 1) := by decide +kernel
theorem d_Shape_isOrphans_13 : decode prog_4_method_6_code 13 = .ok (.ifCond .le 9, 3) := by decide +kernel
theorem d_Shape_isOrphans_16 : decode prog_4_method_6_code 16 = .ok (.lload_n 1, 1) := by decide +kernel
theorem d_Shape_isOrphans_17 : decode prog_4_method_6_code 17 = .ok (.lconst 1, 1) := by decide +kernel
theorem d_Shape_isOrphans_18 : decode prog_4_method_6_code 18 = .ok (.iload_n 3, 1) := by decide +kernel
theorem d_Shape_isOrphans_19 : decode prog_4_method_6_code 19 = .ok (.lshl, 1) := by decide +kernel
theorem d_Shape_isOrphans_20 : decode prog_4_method_6_code 20 = .ok (.lor, 1) := by decide +kernel
theorem d_Shape_isOrphans_21 : decode prog_4_method_6_code 21 = .ok (.lstore_n 1, 1) := by decide +kernel
theorem d_Shape_isOrphans_22 : decode prog_4_method_6_code 22 = .ok (.iinc 3 1, 3) := by decide +kernel
theorem d_Shape_isOrphans_25 : decode prog_4_method_6_code 25 = .ok (.goto (-21), 3) := by decide +kernel
theorem d_Shape_isOrphans_28 : decode prog_4_method_6_code 28 = .ok (.lload_n 1, 1) := by decide +kernel
theorem d_Shape_isOrphans_29 : decode prog_4_method_6_code 29 = .ok (.ldc2_w 11, 3) := by decide +kernel
theorem d_Shape_isOrphans_32 : decode prog_4_method_6_code 32 = .ok (.lcmp, 1) := by decide +kernel
theorem d_Shape_isOrphans_33 : decode prog_4_method_6_code 33 = .ok (.ifCond .ne 7, 3) := by decide +kernel
theorem d_Shape_isOrphans_36 : decode prog_4_method_6_code 36 = .ok (.iconst 1, 1) := by decide +kernel
theorem d_Shape_isOrphans_37 : decode prog_4_method_6_code 37 = .ok (.goto 4, 3) := by decide +kernel
theorem d_Shape_isOrphans_40 : decode prog_4_method_6_code 40 = .ok (.iconst 0, 1) := by decide +kernel
theorem d_Shape_isOrphans_41 : decode prog_4_method_6_code 41 = .ok (.ireturn, 1) := by decide +kernel
theorem d_Shape_isSevenPairs_0 : decode prog_4_method_5_code 0 = .ok (.iconst 0, 1) := by decide +kernel
theorem d_Shape_isSevenPairs_1 : decode prog_4_method_5_code 1 = .ok (.istore_n 1, 1) := by decide +kernel
theorem d_Shape_isSevenPairs_2 : decode prog_4_method_5_code 2 = .ok (.iconst 0, 1) := by decide +kernel
theorem d_Shape_isSevenPairs_3 : decode prog_4_method_5_code 3 = .ok (.istore_n 2, 1) := by decide +kernel
theorem d_Shape_isSevenPairs_4 : decode prog_4_method_5_code 4 = .ok (.iload_n 2, 1) := by decide +kernel
theorem d_Shape_isSevenPairs_5 : decode prog_4_method_5_code 5 = .ok (.bipush 34, 2) := by decide +kernel
theorem d_Shape_isSevenPairs_7 : decode prog_4_method_5_code 7 = .ok (.if_icmp .ge 19, 3) := by decide +kernel
theorem d_Shape_isSevenPairs_10 : decode prog_4_method_5_code 10 = .ok (.aload_n 0, 1) := by decide +kernel
theorem d_Shape_isSevenPairs_11 : decode prog_4_method_5_code 11 = .ok (.iload_n 2, 1) := by decide +kernel
theorem d_Shape_isSevenPairs_12 : decode prog_4_method_5_code 12 = .ok (.iaload, 1) := by decide +kernel
theorem d_Shape_isSevenPairs_13 : decode prog_4_method_5_code 13 = .ok (.iconst 2, 1) := by decide +kernel
theorem d_Shape_isSevenPairs_14 : decode prog_4_method_5_code 14 = .ok (.if_icmp .ne 6, 3) := by decide +kernel
theorem d_Shape_isSevenPairs_17 : decode prog_4_method_5_code 17 = .ok (.iinc 1 1, 3) := by decide +kernel
theorem d_Shape_isSevenPairs_20 : decode prog_4_method_5_code 20 = .ok (.iinc 2 1, 3) := by decide +kernel
theorem d_Shape_isSevenPairs_23 : decode prog_4_method_5_code 23 = .ok (.goto (-19), 3) := by decide +kernel
theorem d_Shape_isSevenPairs_26 : decode prog_4_method_5_code 26 = .ok (.iload_n 1, 1) := by decide +kernel
theorem d_Shape_isSevenPairs_27 : decode prog_4_method_5_code 27 = .ok (.bipush 7, 2) := by decide +kernel
theorem d_Shape_isSevenPairs_29 : decode prog_4_method_5_code 29 = .ok (.if_icmp .ne 7, 3) := by decide +kernel
theorem d_Shape_isSevenPairs_32 : decode prog_4_method_5_code 32 = .ok (.iconst 1, 1) := by decide +kernel
theorem d_Shape_isSevenPairs_33 : decode prog_4_method_5_code 33 = .ok (.goto 4, 3) := by decide +kernel
theorem d_Shape_isSevenPairs_36 : decode prog_4_method_5_code 36 = .ok (.iconst 0, 1) := by decide +kernel
theorem d_Shape_isSevenPairs_37 : decode prog_4_method_5_code 37 = .ok (.ireturn, 1) := by decide +kernel
theorem d_Splitter_keepWay_0 : decode prog_5_method_9_code 0 = .ok (.aload_n 0, 1) := by decide +kernel
theorem d_Splitter_keepWay_1 : decode prog_5_method_9_code 1 = .ok (.getfield 21, 3) := by decide +kernel
theorem d_Splitter_keepWay_4 : decode prog_5_method_9_code 4 = .ok (.iconst 4, 1) := by decide +kernel
theorem d_Splitter_keepWay_5 : decode prog_5_method_9_code 5 = .ok (.if_icmp .ne 79, 3) := by decide +kernel
theorem d_Splitter_keepWay_8 : decode prog_5_method_9_code 8 = .ok (.aload_n 0, 1) := by decide +kernel
theorem d_Splitter_keepWay_9 : decode prog_5_method_9_code 9 = .ok (.getfield 37, 3) := by decide +kernel
theorem d_Splitter_keepWay_12 : decode prog_5_method_9_code 12 = .ok (.iconst (-1), 1) := by decide +kernel
theorem d_Splitter_keepWay_13 : decode prog_5_method_9_code 13 = .ok (.if_icmp .eq 71, 3) := by decide +kernel
theorem d_Splitter_keepWay_16 : decode prog_5_method_9_code 16 = .ok (.aload_n 0, 1) := by decide +kernel
theorem d_Splitter_keepWay_17 : decode prog_5_method_9_code 17 = .ok (.getfield 40, 3) := by decide +kernel
theorem d_Splitter_keepWay_20 : decode prog_5_method_9_code 20 = .ok (.bipush 8, 2) := by decide +kernel
theorem d_Splitter_keepWay_22 : decode prog_5_method_9_code 22 = .ok (.if_icmp .ge 62, 3) := by decide +kernel
theorem d_Splitter_keepWay_25 : decode prog_5_method_9_code 25 = .ok (.iconst 0, 1) := by decide +kernel
theorem d_Splitter_keepWay_26 : decode prog_5_method_9_code 26 = .ok (.istore_n 1, 1) := by decide +kernel
theorem d_Splitter_keepWay_27 : decode prog_5_method_9_code 27 = .ok (.iload_n 1, 1) := by decide +kernel
theorem d_Splitter_keepWay_28 : decode prog_5_method_9_code 28 = .ok (.iconst 4, 1) := by decide +kernel
theorem d_Splitter_keepWay_29 : decode prog_5_method_9_code 29 = .ok (.if_icmp .ge 28, 3) := by decide +kernel
theorem d_Splitter_keepWay_32 : decode prog_5_method_9_code 32 = .ok (.aload_n 0, 1) := by decide +kernel
theorem d_Splitter_keepWay_33 : decode prog_5_method_9_code 33 = .ok (.getfield 18, 3) := by decide +kernel
theorem d_Splitter_keepWay_36 : decode prog_5_method_9_code 36 = .ok (.aload_n 0, 1) := by decide +kernel
theorem d_Splitter_keepWay_37 : decode prog_5_method_9_code 37 = .ok (.getfield 40, 3) := by decide +kernel
theorem d_Splitter_keepWay_40 : decode prog_5_method_9_code 40 = .ok (.iconst 5, 1) := by decide +kernel
theorem d_Splitter_keepWay_41 : decode prog_5_method_9_code 41 = .ok (.imul, 1) := by decide +kernel
theorem d_Splitter_keepWay_42 : decode prog_5_method_9_code 42 = .ok (.iload_n 1, 1) := by decide +kernel
theorem d_Splitter_keepWay_43 : decode prog_5_method_9_code 43 = .ok (.iadd, 1) := by decide +kernel
theorem d_Splitter_keepWay_44 : decode prog_5_method_9_code 44 = .ok (.aload_n 0, 1) := by decide +kernel
theorem d_Splitter_keepWay_45 : decode prog_5_method_9_code 45 = .ok (.getfield 15, 3) := by decide +kernel
theorem d_Splitter_keepWay_48 : decode prog_5_method_9_code 48 = .ok (.iload_n 1, 1) := by decide +kernel
theorem d_Splitter_keepWay_49 : decode prog_5_method_9_code 49 = .ok (.iaload, 1) := by decide +kernel
theorem d_Splitter_keepWay_50 : decode prog_5_method_9_code 50 = .ok (.iastore, 1) := by decide +kernel
theorem d_Splitter_keepWay_51 : decode prog_5_method_9_code 51 = .ok (.iinc 1 1, 3) := by decide +kernel
theorem d_Splitter_keepWay_54 : decode prog_5_method_9_code 54 = .ok (.goto (-27), 3) := by decide +kernel
theorem d_Splitter_keepWay_57 : decode prog_5_method_9_code 57 = .ok (.aload_n 0, 1) := by decide +kernel
theorem d_Splitter_keepWay_58 : decode prog_5_method_9_code 58 = .ok (.getfield 18, 3) := by decide +kernel
theorem d_Splitter_keepWay_61 : decode prog_5_method_9_code 61 = .ok (.aload_n 0, 1) := by decide +kernel
theorem d_Splitter_keepWay_62 : decode prog_5_method_9_code 62 = .ok (.getfield 40, 3) := by decide +kernel
theorem d_Splitter_keepWay_65 : decode prog_5_method_9_code 65 = .ok (.iconst 5, 1) := by decide +kernel
theorem d_Splitter_keepWay_66 : decode prog_5_method_9_code 66 = .ok (.imul, 1) := by decide +kernel
theorem d_Splitter_keepWay_67 : decode prog_5_method_9_code 67 = .ok (.iconst 4, 1) := by decide +kernel
theorem d_Splitter_keepWay_68 : decode prog_5_method_9_code 68 = .ok (.iadd, 1) := by decide +kernel
theorem d_Splitter_keepWay_69 : decode prog_5_method_9_code 69 = .ok (.aload_n 0, 1) := by decide +kernel
theorem d_Splitter_keepWay_70 : decode prog_5_method_9_code 70 = .ok (.getfield 37, 3) := by decide +kernel
theorem d_Splitter_keepWay_73 : decode prog_5_method_9_code 73 = .ok (.iastore, 1) := by decide +kernel
theorem d_Splitter_keepWay_74 : decode prog_5_method_9_code 74 = .ok (.aload_n 0, 1) := by decide +kernel
theorem d_Splitter_keepWay_75 : decode prog_5_method_9_code 75 = .ok (.dup, 1) := by decide +kernel
theorem d_Splitter_keepWay_76 : decode prog_5_method_9_code 76 = .ok (.getfield 40, 3) := by decide +kernel
theorem d_Splitter_keepWay_79 : decode prog_5_method_9_code 79 = .ok (.iconst 1, 1) := by decide +kernel
theorem d_Splitter_keepWay_80 : decode prog_5_method_9_code 80 = .ok (.iadd, 1) := by decide +kernel
theorem d_Splitter_keepWay_81 : decode prog_5_method_9_code 81 = .ok (.putfield 40, 3) := by decide +kernel
theorem d_Splitter_keepWay_84 : decode prog_5_method_9_code 84 = .ok (.return_, 1) := by decide +kernel
theorem d_Splitter_hasRuns_0 : decode prog_5_method_6_code 0 = .ok (.iload_n 2, 1) := by decide +kernel
theorem d_Splitter_hasRuns_1 : decode prog_5_method_6_code 1 = .ok (.ifCond .eq 42, 3) := by decide +kernel
theorem d_Splitter_hasRuns_4 : decode prog_5_method_6_code 4 = .ok (.iload_n 1, 1) := by decide +kernel
theorem d_Splitter_hasRuns_5 : decode prog_5_method_6_code 5 = .ok (.bipush 27, 2) := by decide +kernel
theorem d_Splitter_hasRuns_7 : decode prog_5_method_6_code 7 = .ok (.if_icmp .ge 40, 3) := by decide +kernel
theorem d_Splitter_hasRuns_10 : decode prog_5_method_6_code 10 = .ok (.iload_n 1, 1) := by decide +kernel
theorem d_Splitter_hasRuns_11 : decode prog_5_method_6_code 11 = .ok (.bipush 9, 2) := by decide +kernel
theorem d_Splitter_hasRuns_13 : decode prog_5_method_6_code 13 = .ok (.irem, 1) := by decide +kernel
theorem d_Splitter_hasRuns_14 : decode prog_5_method_6_code 14 = .ok (.bipush 6, 2) := by decide +kernel
theorem d_Splitter_hasRuns_16 : decode prog_5_method_6_code 16 = .ok (.if_icmp .gt 31, 3) := by decide +kernel
theorem d_Splitter_hasRuns_19 : decode prog_5_method_6_code 19 = .ok (.aload_n 0, 1) := by decide +kernel
theorem d_Splitter_hasRuns_20 : decode prog_5_method_6_code 20 = .ok (.getfield 9, 3) := by decide +kernel
theorem d_Splitter_hasRuns_23 : decode prog_5_method_6_code 23 = .ok (.iload_n 1, 1) := by decide +kernel
theorem d_Splitter_hasRuns_24 : decode prog_5_method_6_code 24 = .ok (.iconst 1, 1) := by decide +kernel
theorem d_Splitter_hasRuns_25 : decode prog_5_method_6_code 25 = .ok (.iadd, 1) := by decide +kernel
theorem d_Splitter_hasRuns_26 : decode prog_5_method_6_code 26 = .ok (.iaload, 1) := by decide +kernel
theorem d_Splitter_hasRuns_27 : decode prog_5_method_6_code 27 = .ok (.iload_n 2, 1) := by decide +kernel
theorem d_Splitter_hasRuns_28 : decode prog_5_method_6_code 28 = .ok (.if_icmp .lt 19, 3) := by decide +kernel
theorem d_Splitter_hasRuns_31 : decode prog_5_method_6_code 31 = .ok (.aload_n 0, 1) := by decide +kernel
theorem d_Splitter_hasRuns_32 : decode prog_5_method_6_code 32 = .ok (.getfield 9, 3) := by decide +kernel
theorem d_Splitter_hasRuns_35 : decode prog_5_method_6_code 35 = .ok (.iload_n 1, 1) := by decide +kernel
theorem d_Splitter_hasRuns_36 : decode prog_5_method_6_code 36 = .ok (.iconst 2, 1) := by decide +kernel
theorem d_Splitter_hasRuns_37 : decode prog_5_method_6_code 37 = .ok (.iadd, 1) := by decide +kernel
theorem d_Splitter_hasRuns_38 : decode prog_5_method_6_code 38 = .ok (.iaload, 1) := by decide +kernel
theorem d_Splitter_hasRuns_39 : decode prog_5_method_6_code 39 = .ok (.iload_n 2, 1) := by decide +kernel
theorem d_Splitter_hasRuns_40 : decode prog_5_method_6_code 40 = .ok (.if_icmp .lt 7, 3) := by decide +kernel
theorem d_Splitter_hasRuns_43 : decode prog_5_method_6_code 43 = .ok (.iconst 1, 1) := by decide +kernel
theorem d_Splitter_hasRuns_44 : decode prog_5_method_6_code 44 = .ok (.goto 4, 3) := by decide +kernel
theorem d_Splitter_hasRuns_47 : decode prog_5_method_6_code 47 = .ok (.iconst 0, 1) := by decide +kernel
theorem d_Splitter_hasRuns_48 : decode prog_5_method_6_code 48 = .ok (.ireturn, 1) := by decide +kernel
theorem d_Splitter_removeBehind_0 : decode prog_5_method_7_code 0 = .ok (.iload_n 2, 1) := by decide +kernel
theorem d_Splitter_removeBehind_1 : decode prog_5_method_7_code 1 = .ok (.ifCond .eq 35, 3) := by decide +kernel
theorem d_Splitter_removeBehind_4 : decode prog_5_method_7_code 4 = .ok (.iload_n 1, 1) := by decide +kernel
theorem d_Splitter_removeBehind_5 : decode prog_5_method_7_code 5 = .ok (.iconst 2, 1) := by decide +kernel
theorem d_Splitter_removeBehind_6 : decode prog_5_method_7_code 6 = .ok (.iadd, 1) := by decide +kernel
theorem d_Splitter_removeBehind_7 : decode prog_5_method_7_code 7 = .ok (.bipush 34, 2) := by decide +kernel
theorem d_Splitter_removeBehind_9 : decode prog_5_method_7_code 9 = .ok (.if_icmp .ge 27, 3) := by decide +kernel
theorem d_Splitter_removeBehind_12 : decode prog_5_method_7_code 12 = .ok (.aload_n 0, 1) := by decide +kernel
theorem d_Splitter_removeBehind_13 : decode prog_5_method_7_code 13 = .ok (.getfield 9, 3) := by decide +kernel
theorem d_Splitter_removeBehind_16 : decode prog_5_method_7_code 16 = .ok (.iload_n 1, 1) := by decide +kernel
theorem d_Splitter_removeBehind_17 : decode prog_5_method_7_code 17 = .ok (.iconst 1, 1) := by decide +kernel
theorem d_Splitter_removeBehind_18 : decode prog_5_method_7_code 18 = .ok (.iadd, 1) := by decide +kernel
theorem d_Splitter_removeBehind_19 : decode prog_5_method_7_code 19 = .ok (.dup2, 1) := by decide +kernel
theorem d_Splitter_removeBehind_20 : decode prog_5_method_7_code 20 = .ok (.iaload, 1) := by decide +kernel
theorem d_Splitter_removeBehind_21 : decode prog_5_method_7_code 21 = .ok (.iload_n 2, 1) := by decide +kernel
theorem d_Splitter_removeBehind_22 : decode prog_5_method_7_code 22 = .ok (.isub, 1) := by decide +kernel
theorem d_Splitter_removeBehind_23 : decode prog_5_method_7_code 23 = .ok (.iastore, 1) := by decide +kernel
theorem d_Splitter_removeBehind_24 : decode prog_5_method_7_code 24 = .ok (.aload_n 0, 1) := by decide +kernel
theorem d_Splitter_removeBehind_25 : decode prog_5_method_7_code 25 = .ok (.getfield 9, 3) := by decide +kernel
theorem d_Splitter_removeBehind_28 : decode prog_5_method_7_code 28 = .ok (.iload_n 1, 1) := by decide +kernel
theorem d_Splitter_removeBehind_29 : decode prog_5_method_7_code 29 = .ok (.iconst 2, 1) := by decide +kernel
theorem d_Splitter_removeBehind_30 : decode prog_5_method_7_code 30 = .ok (.iadd, 1) := by decide +kernel
theorem d_Splitter_removeBehind_31 : decode prog_5_method_7_code 31 = .ok (.dup2, 1) := by decide +kernel
theorem d_Splitter_removeBehind_32 : decode prog_5_method_7_code 32 = .ok (.iaload, 1) := by decide +kernel
theorem d_Splitter_removeBehind_33 : decode prog_5_method_7_code 33 = .ok (.iload_n 2, 1) := by decide +kernel
theorem d_Splitter_removeBehind_34 : decode prog_5_method_7_code 34 = .ok (.isub, 1) := by decide +kernel
theorem d_Splitter_removeBehind_35 : decode prog_5_method_7_code 35 = .ok (.iastore, 1) := by decide +kernel
theorem d_Splitter_removeBehind_36 : decode prog_5_method_7_code 36 = .ok (.return_, 1) := by decide +kernel
theorem d_Splitter_tryParts_0 : decode prog_5_method_5_code 0 = .ok (.aload_n 0, 1) := by decide +kernel
theorem d_Splitter_tryParts_1 : decode prog_5_method_5_code 1 = .ok (.getfield 9, 3) := by decide +kernel
theorem d_Splitter_tryParts_4 : decode prog_5_method_5_code 4 = .ok (.iload_n 1, 1) := by decide +kernel
theorem d_Splitter_tryParts_5 : decode prog_5_method_5_code 5 = .ok (.iaload, 1) := by decide +kernel
theorem d_Splitter_tryParts_6 : decode prog_5_method_5_code 6 = .ok (.iconst 3, 1) := by decide +kernel
theorem d_Splitter_tryParts_7 : decode prog_5_method_5_code 7 = .ok (.iload_n 2, 1) := by decide +kernel
theorem d_Splitter_tryParts_8 : decode prog_5_method_5_code 8 = .ok (.imul, 1) := by decide +kernel
theorem d_Splitter_tryParts_9 : decode prog_5_method_5_code 9 = .ok (.isub, 1) := by decide +kernel
theorem d_Splitter_tryParts_10 : decode prog_5_method_5_code 10 = .ok (.iconst 2, 1) := by decide +kernel
theorem d_Splitter_tryParts_11 : decode prog_5_method_5_code 11 = .ok (.iload_n 3, 1) := by decide +kernel
theorem d_Splitter_tryParts_12 : decode prog_5_method_5_code 12 = .ok (.imul, 1) := by decide +kernel
theorem d_Splitter_tryParts_13 : decode prog_5_method_5_code 13 = .ok (.isub, 1) := by decide +kernel
theorem d_Splitter_tryParts_14 : decode prog_5_method_5_code 14 = .ok (.istore 5, 2) := by decide +kernel
theorem d_Splitter_tryParts_16 : decode prog_5_method_5_code 16 = .ok (.iload 5, 2) := by decide +kernel
theorem d_Splitter_tryParts_18 : decode prog_5_method_5_code 18 = .ok (.ifCond .lt 26, 3) := by decide +kernel
theorem d_Splitter_tryParts_21 : decode prog_5_method_5_code 21 = .ok (.iload_n 3, 1) := by decide +kernel
theorem d_Splitter_tryParts_22 : decode prog_5_method_5_code 22 = .ok (.iconst 1, 1) := by decide +kernel
theorem d_Splitter_tryParts_23 : decode prog_5_method_5_code 23 = .ok (.if_icmp .ne 11, 3) := by decide +kernel
theorem d_Splitter_tryParts_26 : decode prog_5_method_5_code 26 = .ok (.aload_n 0, 1) := by decide +kernel
theorem d_Splitter_tryParts_27 : decode prog_5_method_5_code 27 = .ok (.getfield 37, 3) := by decide +kernel
theorem d_Splitter_tryParts_30 : decode prog_5_method_5_code 30 = .ok (.iconst (-1), 1) := by decide +kernel
theorem d_Splitter_tryParts_31 : decode prog_5_method_5_code 31 = .ok (.if_icmp .ne 13, 3) := by decide +kernel
theorem d_Splitter_tryParts_34 : decode prog_5_method_5_code 34 = .ok (.aload_n 0, 1) := by decide +kernel
theorem d_Splitter_tryParts_35 : decode prog_5_method_5_code 35 = .ok (.iload_n 1, 1) := by decide +kernel
theorem d_Splitter_tryParts_36 : decode prog_5_method_5_code 36 = .ok (.iload 5, 2) := by decide +kernel
theorem d_Splitter_tryParts_38 : decode prog_5_method_5_code 38 = .ok (.invokevirtual 53, 3) := by decide +kernel
theorem d_Splitter_tryParts_41 : decode prog_5_method_5_code 41 = .ok (.ifCond .ne 4, 3) := by decide +kernel
theorem d_Splitter_tryParts_44 : decode prog_5_method_5_code 44 = .ok (.return_, 1) := by decide +kernel
theorem d_Splitter_tryParts_45 : decode prog_5_method_5_code 45 = .ok (.aload_n 0, 1) := by decide +kernel
theorem d_Splitter_tryParts_46 : decode prog_5_method_5_code 46 = .ok (.getfield 37, 3) := by decide +kernel
theorem d_Splitter_tryParts_49 : decode prog_5_method_5_code 49 = .ok (.istore 6, 2) := by decide +kernel
theorem d_Splitter_tryParts_51 : decode prog_5_method_5_code 51 = .ok (.aload_n 0, 1) := by decide +kernel
theorem d_Splitter_tryParts_52 : decode prog_5_method_5_code 52 = .ok (.getfield 21, 3) := by decide +kernel
theorem d_Splitter_tryParts_55 : decode prog_5_method_5_code 55 = .ok (.istore 7, 2) := by decide +kernel
theorem d_Splitter_tryParts_57 : decode prog_5_method_5_code 57 = .ok (.iload_n 3, 1) := by decide +kernel
theorem d_Splitter_tryParts_58 : decode prog_5_method_5_code 58 = .ok (.iconst 1, 1) := by decide +kernel
theorem d_Splitter_tryParts_59 : decode prog_5_method_5_code 59 = .ok (.if_icmp .ne 8, 3) := by decide +kernel
theorem d_Splitter_tryParts_62 : decode prog_5_method_5_code 62 = .ok (.aload_n 0, 1) := by decide +kernel
theorem d_Splitter_tryParts_63 : decode prog_5_method_5_code 63 = .ok (.iload_n 1, 1) := by decide +kernel
theorem d_Splitter_tryParts_64 : decode prog_5_method_5_code 64 = .ok (.putfield 37, 3) := by decide +kernel
theorem d_Splitter_tryParts_67 : decode prog_5_method_5_code 67 = .ok (.aload_n 0, 1) := by decide +kernel
theorem d_Splitter_tryParts_68 : decode prog_5_method_5_code 68 = .ok (.iconst 4, 1) := by decide +kernel
theorem d_Splitter_tryParts_69 : decode prog_5_method_5_code 69 = .ok (.iload_n 1, 1) := by decide +kernel
theorem d_Splitter_tryParts_70 : decode prog_5_method_5_code 70 = .ok (.imul, 1) := by decide +kernel
theorem d_Splitter_tryParts_71 : decode prog_5_method_5_code 71 = .ok (.iconst 1, 1) := by decide +kernel
theorem d_Splitter_tryParts_72 : decode prog_5_method_5_code 72 = .ok (.iadd, 1) := by decide +kernel
theorem d_Splitter_tryParts_73 : decode prog_5_method_5_code 73 = .ok (.iload_n 2, 1) := by decide +kernel
theorem d_Splitter_tryParts_74 : decode prog_5_method_5_code 74 = .ok (.invokevirtual 33, 3) := by decide +kernel
theorem d_Splitter_tryParts_77 : decode prog_5_method_5_code 77 = .ok (.aload_n 0, 1) := by decide +kernel
theorem d_Splitter_tryParts_78 : decode prog_5_method_5_code 78 = .ok (.iconst 4, 1) := by decide +kernel
theorem d_Splitter_tryParts_79 : decode prog_5_method_5_code 79 = .ok (.iload_n 1, 1) := by decide +kernel
theorem d_Splitter_tryParts_80 : decode prog_5_method_5_code 80 = .ok (.imul, 1) := by decide +kernel
theorem d_Splitter_tryParts_81 : decode prog_5_method_5_code 81 = .ok (.iconst 0, 1) := by decide +kernel
theorem d_Splitter_tryParts_82 : decode prog_5_method_5_code 82 = .ok (.iadd, 1) := by decide +kernel
theorem d_Splitter_tryParts_83 : decode prog_5_method_5_code 83 = .ok (.iload 5, 2) := by decide +kernel
theorem d_Splitter_tryParts_85 : decode prog_5_method_5_code 85 = .ok (.invokevirtual 33, 3) := by decide +kernel
theorem d_Splitter_tryParts_88 : decode prog_5_method_5_code 88 = .ok (.aload_n 0, 1) := by decide +kernel
theorem d_Splitter_tryParts_89 : decode prog_5_method_5_code 89 = .ok (.iload_n 1, 1) := by decide +kernel
theorem d_Splitter_tryParts_90 : decode prog_5_method_5_code 90 = .ok (.iload 5, 2) := by decide +kernel
theorem d_Splitter_tryParts_92 : decode prog_5_method_5_code 92 = .ok (.invokevirtual 57, 3) := by decide +kernel
theorem d_Splitter_tryParts_95 : decode prog_5_method_5_code 95 = .ok (.aload_n 0, 1) := by decide +kernel
theorem d_Splitter_tryParts_96 : decode prog_5_method_5_code 96 = .ok (.iload_n 1, 1) := by decide +kernel
theorem d_Splitter_tryParts_97 : decode prog_5_method_5_code 97 = .ok (.iconst 1, 1) := by decide +kernel
theorem d_Splitter_tryParts_98 : decode prog_5_method_5_code 98 = .ok (.iadd, 1) := by decide +kernel
theorem d_Splitter_tryParts_99 : decode prog_5_method_5_code 99 = .ok (.iload 4, 2) := by decide +kernel
theorem d_Splitter_tryParts_101 : decode prog_5_method_5_code 101 = .ok (.iconst 1, 1) := by decide +kernel
theorem d_Splitter_tryParts_102 : decode prog_5_method_5_code 102 = .ok (.iadd, 1) := by decide +kernel
theorem d_Splitter_tryParts_103 : decode prog_5_method_5_code 103 = .ok (.invokevirtual 43, 3) := by decide +kernel
theorem d_Splitter_tryParts_106 : decode prog_5_method_5_code 106 = .ok (.aload_n 0, 1) := by decide +kernel
theorem d_Splitter_tryParts_107 : decode prog_5_method_5_code 107 = .ok (.iload_n 1, 1) := by decide +kernel
theorem d_Splitter_tryParts_108 : decode prog_5_method_5_code 108 = .ok (.iload 5, 2) := by decide +kernel
theorem d_Splitter_tryParts_110 : decode prog_5_method_5_code 110 = .ok (.ineg, 1) := by decide +kernel
theorem d_Splitter_tryParts_111 : decode prog_5_method_5_code 111 = .ok (.invokevirtual 57, 3) := by decide +kernel
theorem d_Splitter_tryParts_114 : decode prog_5_method_5_code 114 = .ok (.aload_n 0, 1) := by decide +kernel
theorem d_Splitter_tryParts_115 : decode prog_5_method_5_code 115 = .ok (.iload 7, 2) := by decide +kernel
theorem d_Splitter_tryParts_117 : decode prog_5_method_5_code 117 = .ok (.putfield 21, 3) := by decide +kernel
theorem d_Splitter_tryParts_120 : decode prog_5_method_5_code 120 = .ok (.aload_n 0, 1) := by decide +kernel
theorem d_Splitter_tryParts_121 : decode prog_5_method_5_code 121 = .ok (.iload 6, 2) := by decide +kernel
theorem d_Splitter_tryParts_123 : decode prog_5_method_5_code 123 = .ok (.putfield 37, 3) := by decide +kernel
theorem d_Splitter_tryParts_126 : decode prog_5_method_5_code 126 = .ok (.return_, 1) := by decide +kernel
theorem d_Splitter_takeApart_0 : decode prog_5_method_4_code 0 = .ok (.iload_n 1, 1) := by decide +kernel
theorem d_Splitter_takeApart_1 : decode prog_5_method_4_code 1 = .ok (.istore_n 3, 1) := by decide +kernel
theorem d_Splitter_takeApart_2 : decode prog_5_method_4_code 2 = .ok (.iload_n 3, 1) := by decide +kernel
theorem d_Splitter_takeApart_3 : decode prog_5_method_4_code 3 = .ok (.bipush 34, 2) := by decide +kernel
theorem d_Splitter_takeApart_5 : decode prog_5_method_4_code 5 = .ok (.if_icmp .ge 18, 3) := by decide +kernel
theorem d_Splitter_takeApart_8 : decode prog_5_method_4_code 8 = .ok (.aload_n 0, 1) := by decide +kernel
theorem d_Splitter_takeApart_9 : decode prog_5_method_4_code 9 = .ok (.getfield 9, 3) := by decide +kernel
theorem d_Splitter_takeApart_12 : decode prog_5_method_4_code 12 = .ok (.iload_n 3, 1) := by decide +kernel
theorem d_Splitter_takeApart_13 : decode prog_5_method_4_code 13 = .ok (.iaload, 1) := by decide +kernel
theorem d_Splitter_takeApart_14 : decode prog_5_method_4_code 14 = .ok (.ifCond .ne 9, 3) := by decide +kernel
theorem d_Splitter_takeApart_17 : decode prog_5_method_4_code 17 = .ok (.iinc 3 1, 3) := by decide +kernel
theorem d_Splitter_takeApart_20 : decode prog_5_method_4_code 20 = .ok (.goto (-18), 3) := by decide +kernel
theorem d_Splitter_takeApart_23 : decode prog_5_method_4_code 23 = .ok (.iload_n 3, 1) := by decide +kernel
theorem d_Splitter_takeApart_24 : decode prog_5_method_4_code 24 = .ok (.bipush 34, 2) := by decide +kernel
theorem d_Splitter_takeApart_26 : decode prog_5_method_4_code 26 = .ok (.if_icmp .lt 8, 3) := by decide +kernel
theorem d_Splitter_takeApart_29 : decode prog_5_method_4_code 29 = .ok (.aload_n 0, 1) := by decide +kernel
theorem d_Splitter_takeApart_30 : decode prog_5_method_4_code 30 = .ok (.invokevirtual 46, 3) := by decide +kernel
theorem d_Splitter_takeApart_33 : decode prog_5_method_4_code 33 = .ok (.return_, 1) := by decide +kernel
theorem d_Splitter_takeApart_34 : decode prog_5_method_4_code 34 = .ok (.iload_n 2, 1) := by decide +kernel
theorem d_Splitter_takeApart_35 : decode prog_5_method_4_code 35 = .ok (.bipush 34, 2) := by decide +kernel
theorem d_Splitter_takeApart_37 : decode prog_5_method_4_code 37 = .ok (.if_icmp .ge 32, 3) := by decide +kernel
theorem d_Splitter_takeApart_40 : decode prog_5_method_4_code 40 = .ok (.iconst 0, 1) := by decide +kernel
theorem d_Splitter_takeApart_41 : decode prog_5_method_4_code 41 = .ok (.istore 4, 2) := by decide +kernel
theorem d_Splitter_takeApart_43 : decode prog_5_method_4_code 43 = .ok (.iload 4, 2) := by decide +kernel
theorem d_Splitter_takeApart_45 : decode prog_5_method_4_code 45 = .ok (.iconst 4, 1) := by decide +kernel
theorem d_Splitter_takeApart_46 : decode prog_5_method_4_code 46 = .ok (.if_icmp .ge 23, 3) := by decide +kernel
theorem d_Splitter_takeApart_49 : decode prog_5_method_4_code 49 = .ok (.aload_n 0, 1) := by decide +kernel
theorem d_Splitter_takeApart_50 : decode prog_5_method_4_code 50 = .ok (.iload_n 3, 1) := by decide +kernel
theorem d_Splitter_takeApart_51 : decode prog_5_method_4_code 51 = .ok (.iload 4, 2) := by decide +kernel
theorem d_Splitter_takeApart_53 : decode prog_5_method_4_code 53 = .ok (.iconst 2, 1) := by decide +kernel
theorem d_Splitter_takeApart_54 : decode prog_5_method_4_code 54 = .ok (.idiv, 1) := by decide +kernel
theorem d_Splitter_takeApart_55 : decode prog_5_method_4_code 55 = .ok (.iload 4, 2) := by decide +kernel
theorem d_Splitter_takeApart_57 : decode prog_5_method_4_code 57 = .ok (.iconst 2, 1) := by decide +kernel
theorem d_Splitter_takeApart_58 : decode prog_5_method_4_code 58 = .ok (.irem, 1) := by decide +kernel
theorem d_Splitter_takeApart_59 : decode prog_5_method_4_code 59 = .ok (.iload_n 2, 1) := by decide +kernel
theorem d_Splitter_takeApart_60 : decode prog_5_method_4_code 60 = .ok (.invokevirtual 49, 3) := by decide +kernel
theorem d_Splitter_takeApart_63 : decode prog_5_method_4_code 63 = .ok (.iinc 4 1, 3) := by decide +kernel
theorem d_Splitter_takeApart_66 : decode prog_5_method_4_code 66 = .ok (.goto (-23), 3) := by decide +kernel
theorem d_Splitter_takeApart_69 : decode prog_5_method_4_code 69 = .ok (.return_, 1) := by decide +kernel
theorem d_Splitter_findWays_0 : decode prog_5_method_3_code 0 = .ok (.aload_n 0, 1) := by decide +kernel
theorem d_Splitter_findWays_1 : decode prog_5_method_3_code 1 = .ok (.iconst (-1), 1) := by decide +kernel
theorem d_Splitter_findWays_2 : decode prog_5_method_3_code 2 = .ok (.putfield 37, 3) := by decide +kernel
theorem d_Splitter_findWays_5 : decode prog_5_method_3_code 5 = .ok (.aload_n 0, 1) := by decide +kernel
theorem d_Splitter_findWays_6 : decode prog_5_method_3_code 6 = .ok (.iconst 0, 1) := by decide +kernel
theorem d_Splitter_findWays_7 : decode prog_5_method_3_code 7 = .ok (.putfield 40, 3) := by decide +kernel
theorem d_Splitter_findWays_10 : decode prog_5_method_3_code 10 = .ok (.aload_n 0, 1) := by decide +kernel
theorem d_Splitter_findWays_11 : decode prog_5_method_3_code 11 = .ok (.iconst 0, 1) := by decide +kernel
theorem d_Splitter_findWays_12 : decode prog_5_method_3_code 12 = .ok (.iconst 0, 1) := by decide +kernel
theorem d_Splitter_findWays_13 : decode prog_5_method_3_code 13 = .ok (.invokevirtual 43, 3) := by decide +kernel
theorem d_Splitter_findWays_16 : decode prog_5_method_3_code 16 = .ok (.return_, 1) := by decide +kernel
theorem d_Splitter_partOf_0 : decode prog_5_method_10_code 0 = .ok (.iload_n 1, 1) := by decide +kernel
theorem d_Splitter_partOf_1 : decode prog_5_method_10_code 1 = .ok (.iconst 5, 1) := by decide +kernel
theorem d_Splitter_partOf_2 : decode prog_5_method_10_code 2 = .ok (.imul, 1) := by decide +kernel
theorem d_Splitter_partOf_3 : decode prog_5_method_10_code 3 = .ok (.iload_n 2, 1) := by decide +kernel
theorem d_Splitter_partOf_4 : decode prog_5_method_10_code 4 = .ok (.iadd, 1) := by decide +kernel
theorem d_Splitter_partOf_5 : decode prog_5_method_10_code 5 = .ok (.istore_n 3, 1) := by decide +kernel
theorem d_Splitter_partOf_6 : decode prog_5_method_10_code 6 = .ok (.iload_n 3, 1) := by decide +kernel
theorem d_Splitter_partOf_7 : decode prog_5_method_10_code 7 = .ok (.ifCond .lt 21, 3) := by decide +kernel
theorem d_Splitter_partOf_10 : decode prog_5_method_10_code 10 = .ok (.iload_n 3, 1) := by decide +kernel
theorem d_Splitter_partOf_11 : decode prog_5_method_10_code 11 = .ok (.aload_n 0, 1) := by decide +kernel
theorem d_Splitter_partOf_12 : decode prog_5_method_10_code 12 = .ok (.getfield 18, 3) := by decide +kernel
theorem d_Splitter_partOf_15 : decode prog_5_method_10_code 15 = .ok (.arraylength, 1) := by decide +kernel
theorem d_Splitter_partOf_16 : decode prog_5_method_10_code 16 = .ok (.if_icmp .ge 12, 3) := by decide +kernel
theorem d_Splitter_partOf_19 : decode prog_5_method_10_code 19 = .ok (.aload_n 0, 1) := by decide +kernel
theorem d_Splitter_partOf_20 : decode prog_5_method_10_code 20 = .ok (.getfield 18, 3) := by decide +kernel
theorem d_Splitter_partOf_23 : decode prog_5_method_10_code 23 = .ok (.iload_n 3, 1) := by decide +kernel
theorem d_Splitter_partOf_24 : decode prog_5_method_10_code 24 = .ok (.iaload, 1) := by decide +kernel
theorem d_Splitter_partOf_25 : decode prog_5_method_10_code 25 = .ok (.goto 4, 3) := by decide +kernel
theorem d_Splitter_partOf_28 : decode prog_5_method_10_code 28 = .ok (.iconst 0, 1) := by decide +kernel
theorem d_Splitter_partOf_29 : decode prog_5_method_10_code 29 = .ok (.ireturn, 1) := by decide +kernel
theorem d_Judge_findBest_0 : decode prog_2_method_3_code 0 = .ok (.aload_n 0, 1) := by decide +kernel
theorem d_Judge_findBest_1 : decode prog_2_method_3_code 1 = .ok (.getfield 32, 3) := by decide +kernel
theorem d_Judge_findBest_4 : decode prog_2_method_3_code 4 = .ok (.lconst 0, 1) := by decide +kernel
theorem d_Judge_findBest_5 : decode prog_2_method_3_code 5 = .ok (.putfield 75, 3) := by decide +kernel
theorem d_Judge_findBest_8 : decode prog_2_method_3_code 8 = .ok (.aload_n 0, 1) := by decide +kernel
theorem d_Judge_findBest_9 : decode prog_2_method_3_code 9 = .ok (.getfield 48, 3) := by decide +kernel
theorem d_Judge_findBest_12 : decode prog_2_method_3_code 12 = .ok (.ifCond .ne 27, 3) := by decide +kernel
theorem d_Judge_findBest_15 : decode prog_2_method_3_code 15 = .ok (.aload_n 0, 1) := by decide +kernel
theorem d_Judge_findBest_16 : decode prog_2_method_3_code 16 = .ok (.getfield 18, 3) := by decide +kernel
theorem d_Judge_findBest_19 : decode prog_2_method_3_code 19 = .ok (.invokestatic 79, 3) := by decide +kernel
theorem d_Judge_findBest_22 : decode prog_2_method_3_code 22 = .ok (.ifCond .eq 17, 3) := by decide +kernel
theorem d_Judge_findBest_25 : decode prog_2_method_3_code 25 = .ok (.aload_n 0, 1) := by decide +kernel
theorem d_Judge_findBest_26 : decode prog_2_method_3_code 26 = .ok (.aload_n 0, 1) := by decide +kernel
theorem d_Judge_findBest_27 : decode prog_2_method_3_code 27 = .ok (.getfield 83, 3) := by decide +kernel
theorem d_Judge_findBest_30 : decode prog_2_method_3_code 30 = .ok (.ldc2_w 86, 3) := by decide +kernel
theorem d_Judge_findBest_33 : decode prog_2_method_3_code 33 = .ok (.lor, 1) := by decide +kernel
theorem d_Judge_findBest_34 : decode prog_2_method_3_code 34 = .ok (.bipush 30, 2) := by decide +kernel
theorem d_Judge_findBest_36 : decode prog_2_method_3_code 36 = .ok (.invokevirtual 88, 3) := by decide +kernel
theorem d_Judge_findBest_39 : decode prog_2_method_3_code 39 = .ok (.aload_n 0, 1) := by decide +kernel
theorem d_Judge_findBest_40 : decode prog_2_method_3_code 40 = .ok (.getfield 48, 3) := by decide +kernel
theorem d_Judge_findBest_43 : decode prog_2_method_3_code 43 = .ok (.ifCond .ne 32, 3) := by decide +kernel
theorem d_Judge_findBest_46 : decode prog_2_method_3_code 46 = .ok (.aload_n 0, 1) := by decide +kernel
theorem d_Judge_findBest_47 : decode prog_2_method_3_code 47 = .ok (.getfield 18, 3) := by decide +kernel
theorem d_Judge_findBest_50 : decode prog_2_method_3_code 50 = .ok (.invokestatic 92, 3) := by decide +kernel
theorem d_Judge_findBest_53 : decode prog_2_method_3_code 53 = .ok (.ifCond .eq 22, 3) := by decide +kernel
theorem d_Judge_findBest_56 : decode prog_2_method_3_code 56 = .ok (.aload_n 0, 1) := by decide +kernel
theorem d_Judge_findBest_57 : decode prog_2_method_3_code 57 = .ok (.aload_n 0, 1) := by decide +kernel
theorem d_Judge_findBest_58 : decode prog_2_method_3_code 58 = .ok (.getfield 83, 3) := by decide +kernel
theorem d_Judge_findBest_61 : decode prog_2_method_3_code 61 = .ok (.ldc2_w 95, 3) := by decide +kernel
theorem d_Judge_findBest_64 : decode prog_2_method_3_code 64 = .ok (.lor, 1) := by decide +kernel
theorem d_Judge_findBest_65 : decode prog_2_method_3_code 65 = .ok (.aload_n 0, 1) := by decide +kernel
theorem d_Judge_findBest_66 : decode prog_2_method_3_code 66 = .ok (.invokevirtual 97, 3) := by decide +kernel
theorem d_Judge_findBest_69 : decode prog_2_method_3_code 69 = .ok (.lor, 1) := by decide +kernel
theorem d_Judge_findBest_70 : decode prog_2_method_3_code 70 = .ok (.bipush 25, 2) := by decide +kernel
theorem d_Judge_findBest_72 : decode prog_2_method_3_code 72 = .ok (.invokevirtual 88, 3) := by decide +kernel
theorem d_Judge_findBest_75 : decode prog_2_method_3_code 75 = .ok (.aload_n 0, 1) := by decide +kernel
theorem d_Judge_findBest_76 : decode prog_2_method_3_code 76 = .ok (.getfield 12, 3) := by decide +kernel
theorem d_Judge_findBest_79 : decode prog_2_method_3_code 79 = .ok (.invokevirtual 101, 3) := by decide +kernel
theorem d_Judge_findBest_82 : decode prog_2_method_3_code 82 = .ok (.aload_n 0, 1) := by decide +kernel
theorem d_Judge_findBest_83 : decode prog_2_method_3_code 83 = .ok (.invokevirtual 97, 3) := by decide +kernel
theorem d_Judge_findBest_86 : decode prog_2_method_3_code 86 = .ok (.lstore_n 1, 1) := by decide +kernel
theorem d_Judge_findBest_87 : decode prog_2_method_3_code 87 = .ok (.iconst 0, 1) := by decide +kernel
theorem d_Judge_findBest_88 : decode prog_2_method_3_code 88 = .ok (.istore_n 3, 1) := by decide +kernel
theorem d_Judge_findBest_89 : decode prog_2_method_3_code 89 = .ok (.iload_n 3, 1) := by decide +kernel
theorem d_Judge_findBest_90 : decode prog_2_method_3_code 90 = .ok (.aload_n 0, 1) := by decide +kernel
theorem d_Judge_findBest_91 : decode prog_2_method_3_code 91 = .ok (.getfield 12, 3) := by decide +kernel
theorem d_Judge_findBest_94 : decode prog_2_method_3_code 94 = .ok (.getfield 104, 3) := by decide +kernel
theorem d_Judge_findBest_97 : decode prog_2_method_3_code 97 = .ok (.if_icmp .ge 90, 3) := by decide +kernel
theorem d_Judge_findBest_100 : decode prog_2_method_3_code 100 = .ok (.iconst 0, 1) := by decide +kernel
theorem d_Judge_findBest_101 : decode prog_2_method_3_code 101 = .ok (.istore 4, 2) := by decide +kernel
theorem d_Judge_findBest_103 : decode prog_2_method_3_code 103 = .ok (.iload 4, 2) := by decide +kernel
theorem d_Judge_findBest_105 : decode prog_2_method_3_code 105 = .ok (.iconst 4, 1) := by decide +kernel
theorem d_Judge_findBest_106 : decode prog_2_method_3_code 106 = .ok (.if_icmp .ge 26, 3) := by decide +kernel
theorem d_Judge_findBest_109 : decode prog_2_method_3_code 109 = .ok (.aload_n 0, 1) := by decide +kernel
theorem d_Judge_findBest_110 : decode prog_2_method_3_code 110 = .ok (.getfield 22, 3) := by decide +kernel
theorem d_Judge_findBest_113 : decode prog_2_method_3_code 113 = .ok (.iload 4, 2) := by decide +kernel
theorem d_Judge_findBest_115 : decode prog_2_method_3_code 115 = .ok (.aload_n 0, 1) := by decide +kernel
theorem d_Judge_findBest_116 : decode prog_2_method_3_code 116 = .ok (.getfield 12, 3) := by decide +kernel
theorem d_Judge_findBest_119 : decode prog_2_method_3_code 119 = .ok (.iload_n 3, 1) := by decide +kernel
theorem d_Judge_findBest_120 : decode prog_2_method_3_code 120 = .ok (.iload 4, 2) := by decide +kernel
theorem d_Judge_findBest_122 : decode prog_2_method_3_code 122 = .ok (.invokevirtual 107, 3) := by decide +kernel
theorem d_Judge_findBest_125 : decode prog_2_method_3_code 125 = .ok (.iastore, 1) := by decide +kernel
theorem d_Judge_findBest_126 : decode prog_2_method_3_code 126 = .ok (.iinc 4 1, 3) := by decide +kernel
theorem d_Judge_findBest_129 : decode prog_2_method_3_code 129 = .ok (.goto (-26), 3) := by decide +kernel
theorem d_Judge_findBest_132 : decode prog_2_method_3_code 132 = .ok (.aload_n 0, 1) := by decide +kernel
theorem d_Judge_findBest_133 : decode prog_2_method_3_code 133 = .ok (.aload_n 0, 1) := by decide +kernel
theorem d_Judge_findBest_134 : decode prog_2_method_3_code 134 = .ok (.getfield 12, 3) := by decide +kernel
theorem d_Judge_findBest_137 : decode prog_2_method_3_code 137 = .ok (.iload_n 3, 1) := by decide +kernel
theorem d_Judge_findBest_138 : decode prog_2_method_3_code 138 = .ok (.iconst 4, 1) := by decide +kernel
theorem d_Judge_findBest_139 : decode prog_2_method_3_code 139 = .ok (.invokevirtual 107, 3) := by decide +kernel
theorem d_Judge_findBest_142 : decode prog_2_method_3_code 142 = .ok (.putfield 110, 3) := by decide +kernel
theorem d_Judge_findBest_145 : decode prog_2_method_3_code 145 = .ok (.aload_n 0, 1) := by decide +kernel
theorem d_Judge_findBest_146 : decode prog_2_method_3_code 146 = .ok (.getfield 48, 3) := by decide +kernel
theorem d_Judge_findBest_149 : decode prog_2_method_3_code 149 = .ok (.istore 4, 2) := by decide +kernel
theorem d_Judge_findBest_151 : decode prog_2_method_3_code 151 = .ok (.iload 4, 2) := by decide +kernel
theorem d_Judge_findBest_153 : decode prog_2_method_3_code 153 = .ok (.iconst 4, 1) := by decide +kernel
theorem d_Judge_findBest_154 : decode prog_2_method_3_code 154 = .ok (.if_icmp .gt 27, 3) := by decide +kernel
theorem d_Judge_findBest_157 : decode prog_2_method_3_code 157 = .ok (.aload_n 0, 1) := by decide +kernel
theorem d_Judge_findBest_158 : decode prog_2_method_3_code 158 = .ok (.iload 4, 2) := by decide +kernel
theorem d_Judge_findBest_160 : decode prog_2_method_3_code 160 = .ok (.putfield 113, 3) := by decide +kernel
theorem d_Judge_findBest_163 : decode prog_2_method_3_code 163 = .ok (.aload_n 0, 1) := by decide +kernel
theorem d_Judge_findBest_164 : decode prog_2_method_3_code 164 = .ok (.invokevirtual 116, 3) := by decide +kernel
theorem d_Judge_findBest_167 : decode prog_2_method_3_code 167 = .ok (.ifCond .eq 8, 3) := by decide +kernel
theorem d_Judge_findBest_170 : decode prog_2_method_3_code 170 = .ok (.aload_n 0, 1) := by decide +kernel
theorem d_Judge_findBest_171 : decode prog_2_method_3_code 171 = .ok (.lload_n 1, 1) := by decide +kernel
theorem d_Judge_findBest_172 : decode prog_2_method_3_code 172 = .ok (.invokevirtual 119, 3) := by decide +kernel
theorem d_Judge_findBest_175 : decode prog_2_method_3_code 175 = .ok (.iinc 4 1, 3) := by decide +kernel
theorem d_Judge_findBest_178 : decode prog_2_method_3_code 178 = .ok (.goto (-27), 3) := by decide +kernel
theorem d_Judge_findBest_181 : decode prog_2_method_3_code 181 = .ok (.iinc 3 1, 3) := by decide +kernel
theorem d_Judge_findBest_184 : decode prog_2_method_3_code 184 = .ok (.goto (-95), 3) := by decide +kernel
theorem d_Judge_findBest_187 : decode prog_2_method_3_code 187 = .ok (.aload_n 0, 1) := by decide +kernel
theorem d_Judge_findBest_188 : decode prog_2_method_3_code 188 = .ok (.getfield 32, 3) := by decide +kernel
theorem d_Judge_findBest_191 : decode prog_2_method_3_code 191 = .ok (.getfield 75, 3) := by decide +kernel
theorem d_Judge_findBest_194 : decode prog_2_method_3_code 194 = .ok (.lconst 0, 1) := by decide +kernel
theorem d_Judge_findBest_195 : decode prog_2_method_3_code 195 = .ok (.lcmp, 1) := by decide +kernel
theorem d_Judge_findBest_196 : decode prog_2_method_3_code 196 = .ok (.ifCond .eq 7, 3) := by decide +kernel
theorem d_Judge_findBest_199 : decode prog_2_method_3_code 199 = .ok (.iconst 1, 1) := by decide +kernel
theorem d_Judge_findBest_200 : decode prog_2_method_3_code 200 = .ok (.goto 4, 3) := by decide +kernel
theorem d_Judge_findBest_203 : decode prog_2_method_3_code 203 = .ok (.iconst 0, 1) := by decide +kernel
theorem d_Judge_findBest_204 : decode prog_2_method_3_code 204 = .ok (.ireturn, 1) := by decide +kernel
theorem d_JArrays_fill_0 : decode prog_13_method_103_code 0 = .ok (.iconst 0, 1) := by decide +kernel
theorem d_JArrays_fill_1 : decode prog_13_method_103_code 1 = .ok (.istore_n 2, 1) := by decide +kernel
theorem d_JArrays_fill_2 : decode prog_13_method_103_code 2 = .ok (.aload_n 0, 1) := by decide +kernel
theorem d_JArrays_fill_3 : decode prog_13_method_103_code 3 = .ok (.arraylength, 1) := by decide +kernel
theorem d_JArrays_fill_4 : decode prog_13_method_103_code 4 = .ok (.istore_n 3, 1) := by decide +kernel
theorem d_JArrays_fill_5 : decode prog_13_method_103_code 5 = .ok (.iload_n 2, 1) := by decide +kernel
theorem d_JArrays_fill_6 : decode prog_13_method_103_code 6 = .ok (.iload_n 3, 1) := by decide +kernel
theorem d_JArrays_fill_7 : decode prog_13_method_103_code 7 = .ok (.if_icmp .ge 13, 3) := by decide +kernel
theorem d_JArrays_fill_10 : decode prog_13_method_103_code 10 = .ok (.aload_n 0, 1) := by decide +kernel
theorem d_JArrays_fill_11 : decode prog_13_method_103_code 11 = .ok (.iload_n 2, 1) := by decide +kernel
theorem d_JArrays_fill_12 : decode prog_13_method_103_code 12 = .ok (.iload_n 1, 1) := by decide +kernel
theorem d_JArrays_fill_13 : decode prog_13_method_103_code 13 = .ok (.iastore, 1) := by decide +kernel
theorem d_JArrays_fill_14 : decode prog_13_method_103_code 14 = .ok (.iinc 2 1, 3) := by decide +kernel
theorem d_JArrays_fill_17 : decode prog_13_method_103_code 17 = .ok (.goto (-12), 3) := by decide +kernel
theorem d_JArrays_fill_20 : decode prog_13_method_103_code 20 = .ok (.return_, 1) := by decide +kernel
theorem d_Player_clearHand_0 : decode prog_3_method_2_code 0 = .ok (.aload_n 0, 1) := by decide +kernel
theorem d_Player_clearHand_1 : decode prog_3_method_2_code 1 = .ok (.getfield 9, 3) := by decide +kernel
theorem d_Player_clearHand_4 : decode prog_3_method_2_code 4 = .ok (.iconst 0, 1) := by decide +kernel
theorem d_Player_clearHand_5 : decode prog_3_method_2_code 5 = .ok (.invokestatic 32, 3) := by decide +kernel
theorem d_Player_clearHand_8 : decode prog_3_method_2_code 8 = .ok (.aload_n 0, 1) := by decide +kernel
theorem d_Player_clearHand_9 : decode prog_3_method_2_code 9 = .ok (.iconst 0, 1) := by decide +kernel
theorem d_Player_clearHand_10 : decode prog_3_method_2_code 10 = .ok (.putfield 38, 3) := by decide +kernel
theorem d_Player_clearHand_13 : decode prog_3_method_2_code 13 = .ok (.aload_n 0, 1) := by decide +kernel
theorem d_Player_clearHand_14 : decode prog_3_method_2_code 14 = .ok (.iconst 0, 1) := by decide +kernel
theorem d_Player_clearHand_15 : decode prog_3_method_2_code 15 = .ok (.putfield 41, 3) := by decide +kernel
theorem d_Player_clearHand_18 : decode prog_3_method_2_code 18 = .ok (.aload_n 0, 1) := by decide +kernel
theorem d_Player_clearHand_19 : decode prog_3_method_2_code 19 = .ok (.lconst 0, 1) := by decide +kernel
theorem d_Player_clearHand_20 : decode prog_3_method_2_code 20 = .ok (.putfield 44, 3) := by decide +kernel
theorem d_Player_clearHand_23 : decode prog_3_method_2_code 23 = .ok (.aload_n 0, 1) := by decide +kernel
theorem d_Player_clearHand_24 : decode prog_3_method_2_code 24 = .ok (.iconst 0, 1) := by decide +kernel
theorem d_Player_clearHand_25 : decode prog_3_method_2_code 25 = .ok (.putfield 48, 3) := by decide +kernel
theorem d_Player_clearHand_28 : decode prog_3_method_2_code 28 = .ok (.aload_n 0, 1) := by decide +kernel
theorem d_Player_clearHand_29 : decode prog_3_method_2_code 29 = .ok (.iconst 0, 1) := by decide +kernel
theorem d_Player_clearHand_30 : decode prog_3_method_2_code 30 = .ok (.putfield 51, 3) := by decide +kernel
theorem d_Player_clearHand_33 : decode prog_3_method_2_code 33 = .ok (.aload_n 0, 1) := by decide +kernel
theorem d_Player_clearHand_34 : decode prog_3_method_2_code 34 = .ok (.iconst 0, 1) := by decide +kernel
theorem d_Player_clearHand_35 : decode prog_3_method_2_code 35 = .ok (.putfield 55, 3) := by decide +kernel
theorem d_Player_clearHand_38 : decode prog_3_method_2_code 38 = .ok (.return_, 1) := by decide +kernel
theorem d_Player_layOff_0 : decode prog_3_method_3_code 0 = .ok (.aload_n 0, 1) := by decide +kernel
theorem d_Player_layOff_1 : decode prog_3_method_3_code 1 = .ok (.getfield 9, 3) := by decide +kernel
theorem d_Player_layOff_4 : decode prog_3_method_3_code 4 = .ok (.iload_n 1, 1) := by decide +kernel
theorem d_Player_layOff_5 : decode prog_3_method_3_code 5 = .ok (.dup2, 1) := by decide +kernel
theorem d_Player_layOff_6 : decode prog_3_method_3_code 6 = .ok (.iaload, 1) := by decide +kernel
theorem d_Player_layOff_7 : decode prog_3_method_3_code 7 = .ok (.iconst 1, 1) := by decide +kernel
theorem d_Player_layOff_8 : decode prog_3_method_3_code 8 = .ok (.isub, 1) := by decide +kernel
theorem d_Player_layOff_9 : decode prog_3_method_3_code 9 = .ok (.iastore, 1) := by decide +kernel
theorem d_Player_layOff_10 : decode prog_3_method_3_code 10 = .ok (.aload_n 0, 1) := by decide +kernel
theorem d_Player_layOff_11 : decode prog_3_method_3_code 11 = .ok (.dup, 1) := by decide +kernel
theorem d_Player_layOff_12 : decode prog_3_method_3_code 12 = .ok (.getfield 44, 3) := by decide +kernel
theorem d_Player_layOff_15 : decode prog_3_method_3_code 15 = .ok (.lconst 1, 1) := by decide +kernel
theorem d_Player_layOff_16 : decode prog_3_method_3_code 16 = .ok (.iload_n 1, 1) := by decide +kernel
theorem d_Player_layOff_17 : decode prog_3_method_3_code 17 = .ok (.lshl, 1) := by decide +kernel
theorem d_Player_layOff_18 : decode prog_3_method_3_code 18 = .ok (.lor, 1) := by decide +kernel
theorem d_Player_layOff_19 : decode prog_3_method_3_code 19 = .ok (.putfield 44, 3) := by decide +kernel
theorem d_Player_layOff_22 : decode prog_3_method_3_code 22 = .ok (.aload_n 0, 1) := by decide +kernel
theorem d_Player_layOff_23 : decode prog_3_method_3_code 23 = .ok (.getfield 41, 3) := by decide +kernel
theorem d_Player_layOff_26 : decode prog_3_method_3_code 26 = .ok (.bipush 96, 2) := by decide +kernel
theorem d_Player_layOff_28 : decode prog_3_method_3_code 28 = .ok (.if_icmp .ge 23, 3) := by decide +kernel
theorem d_Player_layOff_31 : decode prog_3_method_3_code 31 = .ok (.aload_n 0, 1) := by decide +kernel
theorem d_Player_layOff_32 : decode prog_3_method_3_code 32 = .ok (.getfield 18, 3) := by decide +kernel
theorem d_Player_layOff_35 : decode prog_3_method_3_code 35 = .ok (.aload_n 0, 1) := by decide +kernel
theorem d_Player_layOff_36 : decode prog_3_method_3_code 36 = .ok (.getfield 41, 3) := by decide +kernel
theorem d_Player_layOff_39 : decode prog_3_method_3_code 39 = .ok (.iload_n 1, 1) := by decide +kernel
theorem d_Player_layOff_40 : decode prog_3_method_3_code 40 = .ok (.iastore, 1) := by decide +kernel
theorem d_Player_layOff_41 : decode prog_3_method_3_code 41 = .ok (.aload_n 0, 1) := by decide +kernel
theorem d_Player_layOff_42 : decode prog_3_method_3_code 42 = .ok (.dup, 1) := by decide +kernel
theorem d_Player_layOff_43 : decode prog_3_method_3_code 43 = .ok (.getfield 41, 3) := by decide +kernel
theorem d_Player_layOff_46 : decode prog_3_method_3_code 46 = .ok (.iconst 1, 1) := by decide +kernel
theorem d_Player_layOff_47 : decode prog_3_method_3_code 47 = .ok (.iadd, 1) := by decide +kernel
theorem d_Player_layOff_48 : decode prog_3_method_3_code 48 = .ok (.putfield 41, 3) := by decide +kernel
theorem d_Player_layOff_51 : decode prog_3_method_3_code 51 = .ok (.return_, 1) := by decide +kernel
theorem d_Player_addMeld_0 : decode prog_3_method_4_code 0 = .ok (.aload_n 0, 1) := by decide +kernel
theorem d_Player_addMeld_1 : decode prog_3_method_4_code 1 = .ok (.getfield 38, 3) := by decide +kernel
theorem d_Player_addMeld_4 : decode prog_3_method_4_code 4 = .ok (.iconst 4, 1) := by decide +kernel
theorem d_Player_addMeld_5 : decode prog_3_method_4_code 5 = .ok (.if_icmp .ge 27, 3) := by decide +kernel
theorem d_Player_addMeld_8 : decode prog_3_method_4_code 8 = .ok (.aload_n 0, 1) := by decide +kernel
theorem d_Player_addMeld_9 : decode prog_3_method_4_code 9 = .ok (.getfield 15, 3) := by decide +kernel
theorem d_Player_addMeld_12 : decode prog_3_method_4_code 12 = .ok (.aload_n 0, 1) := by decide +kernel
theorem d_Player_addMeld_13 : decode prog_3_method_4_code 13 = .ok (.getfield 38, 3) := by decide +kernel
theorem d_Player_addMeld_16 : decode prog_3_method_4_code 16 = .ok (.iconst 4, 1) := by decide +kernel
theorem d_Player_addMeld_17 : decode prog_3_method_4_code 17 = .ok (.iload_n 1, 1) := by decide +kernel
theorem d_Player_addMeld_18 : decode prog_3_method_4_code 18 = .ok (.imul, 1) := by decide +kernel
theorem d_Player_addMeld_19 : decode prog_3_method_4_code 19 = .ok (.iload_n 2, 1) := by decide +kernel
theorem d_Player_addMeld_20 : decode prog_3_method_4_code 20 = .ok (.iadd, 1) := by decide +kernel
theorem d_Player_addMeld_21 : decode prog_3_method_4_code 21 = .ok (.iastore, 1) := by decide +kernel
theorem d_Player_addMeld_22 : decode prog_3_method_4_code 22 = .ok (.aload_n 0, 1) := by decide +kernel
theorem d_Player_addMeld_23 : decode prog_3_method_4_code 23 = .ok (.dup, 1) := by decide +kernel
theorem d_Player_addMeld_24 : decode prog_3_method_4_code 24 = .ok (.getfield 38, 3) := by decide +kernel
theorem d_Player_addMeld_27 : decode prog_3_method_4_code 27 = .ok (.iconst 1, 1) := by decide +kernel
theorem d_Player_addMeld_28 : decode prog_3_method_4_code 28 = .ok (.iadd, 1) := by decide +kernel
theorem d_Player_addMeld_29 : decode prog_3_method_4_code 29 = .ok (.putfield 38, 3) := by decide +kernel
theorem d_Player_addMeld_32 : decode prog_3_method_4_code 32 = .ok (.return_, 1) := by decide +kernel
theorem d_Player_hasOpenTriplet_0 : decode prog_3_method_5_code 0 = .ok (.iconst 0, 1) := by decide +kernel
theorem d_Player_hasOpenTriplet_1 : decode prog_3_method_5_code 1 = .ok (.istore_n 2, 1) := by decide +kernel
theorem d_Player_hasOpenTriplet_2 : decode prog_3_method_5_code 2 = .ok (.iload_n 2, 1) := by decide +kernel
theorem d_Player_hasOpenTriplet_3 : decode prog_3_method_5_code 3 = .ok (.aload_n 0, 1) := by decide +kernel
theorem d_Player_hasOpenTriplet_4 : decode prog_3_method_5_code 4 = .ok (.getfield 38, 3) := by decide +kernel
theorem d_Player_hasOpenTriplet_7 : decode prog_3_method_5_code 7 = .ok (.if_icmp .ge 25, 3) := by decide +kernel
theorem d_Player_hasOpenTriplet_10 : decode prog_3_method_5_code 10 = .ok (.aload_n 0, 1) := by decide +kernel
theorem d_Player_hasOpenTriplet_11 : decode prog_3_method_5_code 11 = .ok (.getfield 15, 3) := by decide +kernel
theorem d_Player_hasOpenTriplet_14 : decode prog_3_method_5_code 14 = .ok (.iload_n 2, 1) := by decide +kernel
theorem d_Player_hasOpenTriplet_15 : decode prog_3_method_5_code 15 = .ok (.iaload, 1) := by decide +kernel
theorem d_Player_hasOpenTriplet_16 : decode prog_3_method_5_code 16 = .ok (.iconst 4, 1) := by decide +kernel
theorem d_Player_hasOpenTriplet_17 : decode prog_3_method_5_code 17 = .ok (.iload_n 1, 1) := by decide +kernel
theorem d_Player_hasOpenTriplet_18 : decode prog_3_method_5_code 18 = .ok (.imul, 1) := by decide +kernel
theorem d_Player_hasOpenTriplet_19 : decode prog_3_method_5_code 19 = .ok (.iconst 1, 1) := by decide +kernel
theorem d_Player_hasOpenTriplet_20 : decode prog_3_method_5_code 20 = .ok (.iadd, 1) := by decide +kernel
theorem d_Player_hasOpenTriplet_21 : decode prog_3_method_5_code 21 = .ok (.if_icmp .ne 5, 3) := by decide +kernel
theorem d_Player_hasOpenTriplet_24 : decode prog_3_method_5_code 24 = .ok (.iconst 1, 1) := by decide +kernel
theorem d_Player_hasOpenTriplet_25 : decode prog_3_method_5_code 25 = .ok (.ireturn, 1) := by decide +kernel
theorem d_Player_hasOpenTriplet_26 : decode prog_3_method_5_code 26 = .ok (.iinc 2 1, 3) := by decide +kernel
theorem d_Player_hasOpenTriplet_29 : decode prog_3_method_5_code 29 = .ok (.goto (-27), 3) := by decide +kernel
theorem d_Player_hasOpenTriplet_32 : decode prog_3_method_5_code 32 = .ok (.iconst 0, 1) := by decide +kernel
theorem d_Player_hasOpenTriplet_33 : decode prog_3_method_5_code 33 = .ok (.ireturn, 1) := by decide +kernel
theorem d_Player_raiseTriplet_0 : decode prog_3_method_6_code 0 = .ok (.iconst 0, 1) := by decide +kernel
theorem d_Player_raiseTriplet_1 : decode prog_3_method_6_code 1 = .ok (.istore_n 2, 1) := by decide +kernel
theorem d_Player_raiseTriplet_2 : decode prog_3_method_6_code 2 = .ok (.iload_n 2, 1) := by decide +kernel
theorem d_Player_raiseTriplet_3 : decode prog_3_method_6_code 3 = .ok (.aload_n 0, 1) := by decide +kernel
theorem d_Player_raiseTriplet_4 : decode prog_3_method_6_code 4 = .ok (.getfield 38, 3) := by decide +kernel
theorem d_Player_raiseTriplet_7 : decode prog_3_method_6_code 7 = .ok (.if_icmp .ge 34, 3) := by decide +kernel
theorem d_Player_raiseTriplet_10 : decode prog_3_method_6_code 10 = .ok (.aload_n 0, 1) := by decide +kernel
theorem d_Player_raiseTriplet_11 : decode prog_3_method_6_code 11 = .ok (.getfield 15, 3) := by decide +kernel
theorem d_Player_raiseTriplet_14 : decode prog_3_method_6_code 14 = .ok (.iload_n 2, 1) := by decide +kernel
theorem d_Player_raiseTriplet_15 : decode prog_3_method_6_code 15 = .ok (.iaload, 1) := by decide +kernel
theorem d_Player_raiseTriplet_16 : decode prog_3_method_6_code 16 = .ok (.iconst 4, 1) := by decide +kernel
theorem d_Player_raiseTriplet_17 : decode prog_3_method_6_code 17 = .ok (.iload_n 1, 1) := by decide +kernel
theorem d_Player_raiseTriplet_18 : decode prog_3_method_6_code 18 = .ok (.imul, 1) := by decide +kernel
theorem d_Player_raiseTriplet_19 : decode prog_3_method_6_code 19 = .ok (.iconst 1, 1) := by decide +kernel
theorem d_Player_raiseTriplet_20 : decode prog_3_method_6_code 20 = .ok (.iadd, 1) := by decide +kernel
theorem d_Player_raiseTriplet_21 : decode prog_3_method_6_code 21 = .ok (.if_icmp .ne 14, 3) := by decide +kernel
theorem d_Player_raiseTriplet_24 : decode prog_3_method_6_code 24 = .ok (.aload_n 0, 1) := by decide +kernel
theorem d_Player_raiseTriplet_25 : decode prog_3_method_6_code 25 = .ok (.getfield 15, 3) := by decide +kernel
theorem d_Player_raiseTriplet_28 : decode prog_3_method_6_code 28 = .ok (.iload_n 2, 1) := by decide +kernel
theorem d_Player_raiseTriplet_29 : decode prog_3_method_6_code 29 = .ok (.iconst 4, 1) := by decide +kernel
theorem d_Player_raiseTriplet_30 : decode prog_3_method_6_code 30 = .ok (.iload_n 1, 1) := by decide +kernel
theorem d_Player_raiseTriplet_31 : decode prog_3_method_6_code 31 = .ok (.imul, 1) := by decide +kernel
theorem d_Player_raiseTriplet_32 : decode prog_3_method_6_code 32 = .ok (.iconst 2, 1) := by decide +kernel
theorem d_Player_raiseTriplet_33 : decode prog_3_method_6_code 33 = .ok (.iadd, 1) := by decide +kernel
theorem d_Player_raiseTriplet_34 : decode prog_3_method_6_code 34 = .ok (.iastore, 1) := by decide +kernel
theorem d_Player_raiseTriplet_35 : decode prog_3_method_6_code 35 = .ok (.iinc 2 1, 3) := by decide +kernel
theorem d_Player_raiseTriplet_38 : decode prog_3_method_6_code 38 = .ok (.goto (-36), 3) := by decide +kernel
theorem d_Player_raiseTriplet_41 : decode prog_3_method_6_code 41 = .ok (.return_, 1) := by decide +kernel
theorem d_Player_hasRestOfRun_0 : decode prog_3_method_8_code 0 = .ok (.iload_n 1, 1) := by decide +kernel
theorem d_Player_hasRestOfRun_1 : decode prog_3_method_8_code 1 = .ok (.ifCond .lt 30, 3) := by decide +kernel
theorem d_Player_hasRestOfRun_4 : decode prog_3_method_8_code 4 = .ok (.iload_n 1, 1) := by decide +kernel
theorem d_Player_hasRestOfRun_5 : decode prog_3_method_8_code 5 = .ok (.bipush 27, 2) := by decide +kernel
theorem d_Player_hasRestOfRun_7 : decode prog_3_method_8_code 7 = .ok (.if_icmp .ge 24, 3) := by decide +kernel
theorem d_Player_hasRestOfRun_10 : decode prog_3_method_8_code 10 = .ok (.iload_n 1, 1) := by decide +kernel
theorem d_Player_hasRestOfRun_11 : decode prog_3_method_8_code 11 = .ok (.bipush 9, 2) := by decide +kernel
theorem d_Player_hasRestOfRun_13 : decode prog_3_method_8_code 13 = .ok (.irem, 1) := by decide +kernel
theorem d_Player_hasRestOfRun_14 : decode prog_3_method_8_code 14 = .ok (.bipush 6, 2) := by decide +kernel
theorem d_Player_hasRestOfRun_16 : decode prog_3_method_8_code 16 = .ok (.if_icmp .gt 15, 3) := by decide +kernel
theorem d_Player_hasRestOfRun_19 : decode prog_3_method_8_code 19 = .ok (.iload_n 2, 1) := by decide +kernel
theorem d_Player_hasRestOfRun_20 : decode prog_3_method_8_code 20 = .ok (.iload_n 1, 1) := by decide +kernel
theorem d_Player_hasRestOfRun_21 : decode prog_3_method_8_code 21 = .ok (.if_icmp .lt 10, 3) := by decide +kernel
theorem d_Player_hasRestOfRun_24 : decode prog_3_method_8_code 24 = .ok (.iload_n 2, 1) := by decide +kernel
theorem d_Player_hasRestOfRun_25 : decode prog_3_method_8_code 25 = .ok (.iload_n 1, 1) := by decide +kernel
theorem d_Player_hasRestOfRun_26 : decode prog_3_method_8_code 26 = .ok (.iconst 2, 1) := by decide +kernel
theorem d_Player_hasRestOfRun_27 : decode prog_3_method_8_code 27 = .ok (.iadd, 1) := by decide +kernel
theorem d_Player_hasRestOfRun_28 : decode prog_3_method_8_code 28 = .ok (.if_icmp .le 5, 3) := by decide +kernel
theorem d_Player_hasRestOfRun_31 : decode prog_3_method_8_code 31 = .ok (.iconst 0, 1) := by decide +kernel
theorem d_Player_hasRestOfRun_32 : decode prog_3_method_8_code 32 = .ok (.ireturn, 1) := by decide +kernel
theorem d_Player_hasRestOfRun_33 : decode prog_3_method_8_code 33 = .ok (.iload_n 1, 1) := by decide +kernel
theorem d_Player_hasRestOfRun_34 : decode prog_3_method_8_code 34 = .ok (.istore_n 3, 1) := by decide +kernel
theorem d_Player_hasRestOfRun_35 : decode prog_3_method_8_code 35 = .ok (.iload_n 3, 1) := by decide +kernel
theorem d_Player_hasRestOfRun_36 : decode prog_3_method_8_code 36 = .ok (.iload_n 1, 1) := by decide +kernel
theorem d_Player_hasRestOfRun_37 : decode prog_3_method_8_code 37 = .ok (.iconst 2, 1) := by decide +kernel
