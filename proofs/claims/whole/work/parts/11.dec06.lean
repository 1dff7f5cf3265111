theorem d_Model_flat_89 : decode prog_9_method_36_code 89 = .ok (.aload_n 0, 1) := by decide +kernel
theorem d_Model_flat_90 : decode prog_9_method_36_code 90 = .ok (.getfield 69, 3) := by decide +kernel
theorem d_Model_flat_93 : decode prog_9_method_36_code 93 = .ok (.aload_n 0, 1) := by decide +kernel
theorem d_Model_flat_94 : decode prog_9_method_36_code 94 = .ok (.getfield 210, 3) := by decide +kernel
theorem d_Model_flat_97 : decode prog_9_method_36_code 97 = .ok (.iaload, 1) := by decide +kernel
theorem d_Model_flat_98 : decode prog_9_method_36_code 98 = .ok (.isub, 1) := by decide +kernel
theorem d_Model_flat_99 : decode prog_9_method_36_code 99 = .ok (.istore_n 3, 1) := by decide +kernel
theorem d_Model_flat_100 : decode prog_9_method_36_code 100 = .ok (.iload_n 3, 1) := by decide +kernel
theorem d_Model_flat_101 : decode prog_9_method_36_code 101 = .ok (.ifCond .ne 9, 3) := by decide +kernel
theorem d_Model_flat_104 : decode prog_9_method_36_code 104 = .ok (.iload_n 2, 1) := by decide +kernel
theorem d_Model_flat_105 : decode prog_9_method_36_code 105 = .ok (.bipush 7, 2) := by decide +kernel
theorem d_Model_flat_107 : decode prog_9_method_36_code 107 = .ok (.if_icmp .lt 13, 3) := by decide +kernel
theorem d_Model_flat_110 : decode prog_9_method_36_code 110 = .ok (.iload_n 3, 1) := by decide +kernel
theorem d_Model_flat_111 : decode prog_9_method_36_code 111 = .ok (.iconst 2, 1) := by decide +kernel
theorem d_Model_flat_112 : decode prog_9_method_36_code 112 = .ok (.if_icmp .ne 12, 3) := by decide +kernel
theorem d_Model_flat_115 : decode prog_9_method_36_code 115 = .ok (.iload_n 2, 1) := by decide +kernel
theorem d_Model_flat_116 : decode prog_9_method_36_code 116 = .ok (.iconst 1, 1) := by decide +kernel
theorem d_Model_flat_117 : decode prog_9_method_36_code 117 = .ok (.if_icmp .le 7, 3) := by decide +kernel
theorem d_Model_flat_120 : decode prog_9_method_36_code 120 = .ok (.iconst 1, 1) := by decide +kernel
theorem d_Model_flat_121 : decode prog_9_method_36_code 121 = .ok (.goto 4, 3) := by decide +kernel
theorem d_Model_flat_124 : decode prog_9_method_36_code 124 = .ok (.iconst 0, 1) := by decide +kernel
theorem d_Model_flat_125 : decode prog_9_method_36_code 125 = .ok (.ireturn, 1) := by decide +kernel
theorem d_Model_twins_0 : decode prog_9_method_37_code 0 = .ok (.iconst 0, 1) := by decide +kernel
theorem d_Model_twins_1 : decode prog_9_method_37_code 1 = .ok (.istore_n 1, 1) := by decide +kernel
theorem d_Model_twins_2 : decode prog_9_method_37_code 2 = .ok (.iconst 0, 1) := by decide +kernel
theorem d_Model_twins_3 : decode prog_9_method_37_code 3 = .ok (.istore_n 2, 1) := by decide +kernel
theorem d_Model_twins_4 : decode prog_9_method_37_code 4 = .ok (.iload_n 2, 1) := by decide +kernel
theorem d_Model_twins_5 : decode prog_9_method_37_code 5 = .ok (.bipush 25, 2) := by decide +kernel
theorem d_Model_twins_7 : decode prog_9_method_37_code 7 = .ok (.if_icmp .ge 51, 3) := by decide +kernel
theorem d_Model_twins_10 : decode prog_9_method_37_code 10 = .ok (.iconst 0, 1) := by decide +kernel
theorem d_Model_twins_11 : decode prog_9_method_37_code 11 = .ok (.istore_n 3, 1) := by decide +kernel
theorem d_Model_twins_12 : decode prog_9_method_37_code 12 = .ok (.iconst 0, 1) := by decide +kernel
theorem d_Model_twins_13 : decode prog_9_method_37_code 13 = .ok (.istore 4, 2) := by decide +kernel
theorem d_Model_twins_15 : decode prog_9_method_37_code 15 = .ok (.iload 4, 2) := by decide +kernel
theorem d_Model_twins_17 : decode prog_9_method_37_code 17 = .ok (.iconst 4, 1) := by decide +kernel
theorem d_Model_twins_18 : decode prog_9_method_37_code 18 = .ok (.if_icmp .ge 28, 3) := by decide +kernel
theorem d_Model_twins_21 : decode prog_9_method_37_code 21 = .ok (.aload_n 0, 1) := by decide +kernel
theorem d_Model_twins_22 : decode prog_9_method_37_code 22 = .ok (.iload 4, 2) := by decide +kernel
theorem d_Model_twins_24 : decode prog_9_method_37_code 24 = .ok (.iconst 0, 1) := by decide +kernel
theorem d_Model_twins_25 : decode prog_9_method_37_code 25 = .ok (.iload_n 2, 1) := by decide +kernel
theorem d_Model_twins_26 : decode prog_9_method_37_code 26 = .ok (.invokevirtual 206, 3) := by decide +kernel
theorem d_Model_twins_29 : decode prog_9_method_37_code 29 = .ok (.ifCond .eq 9, 3) := by decide +kernel
theorem d_Model_twins_32 : decode prog_9_method_37_code 32 = .ok (.iload_n 3, 1) := by decide +kernel
theorem d_Model_twins_33 : decode prog_9_method_37_code 33 = .ok (.iconst 1, 1) := by decide +kernel
theorem d_Model_twins_34 : decode prog_9_method_37_code 34 = .ok (.iadd, 1) := by decide +kernel
theorem d_Model_twins_35 : decode prog_9_method_37_code 35 = .ok (.goto 4, 3) := by decide +kernel
theorem d_Model_twins_38 : decode prog_9_method_37_code 38 = .ok (.iload_n 3, 1) := by decide +kernel
theorem d_Model_twins_39 : decode prog_9_method_37_code 39 = .ok (.istore_n 3, 1) := by decide +kernel
theorem d_Model_twins_40 : decode prog_9_method_37_code 40 = .ok (.iinc 4 1, 3) := by decide +kernel
theorem d_Model_twins_43 : decode prog_9_method_37_code 43 = .ok (.goto (-28), 3) := by decide +kernel
theorem d_Model_twins_46 : decode prog_9_method_37_code 46 = .ok (.iload_n 1, 1) := by decide +kernel
theorem d_Model_twins_47 : decode prog_9_method_37_code 47 = .ok (.iload_n 3, 1) := by decide +kernel
theorem d_Model_twins_48 : decode prog_9_method_37_code 48 = .ok (.iconst 2, 1) := by decide +kernel
theorem d_Model_twins_49 : decode prog_9_method_37_code 49 = .ok (.idiv, 1) := by decide +kernel
theorem d_Model_twins_50 : decode prog_9_method_37_code 50 = .ok (.iadd, 1) := by decide +kernel
theorem d_Model_twins_51 : decode prog_9_method_37_code 51 = .ok (.istore_n 1, 1) := by decide +kernel
theorem d_Model_twins_52 : decode prog_9_method_37_code 52 = .ok (.iinc 2 1, 3) := by decide +kernel
theorem d_Model_twins_55 : decode prog_9_method_37_code 55 = .ok (.goto (-51), 3) := by decide +kernel
theorem d_Model_twins_58 : decode prog_9_method_37_code 58 = .ok (.iload_n 1, 1) := by decide +kernel
theorem d_Model_twins_59 : decode prog_9_method_37_code 59 = .ok (.ireturn, 1) := by decide +kernel
theorem d_Model_ofRuns_0 : decode prog_9_method_38_code 0 = .ok (.aload_n 0, 1) := by decide +kernel
theorem d_Model_ofRuns_1 : decode prog_9_method_38_code 1 = .ok (.aload_n 0, 1) := by decide +kernel
theorem d_Model_ofRuns_2 : decode prog_9_method_38_code 2 = .ok (.getfield 184, 3) := by decide +kernel
theorem d_Model_ofRuns_5 : decode prog_9_method_38_code 5 = .ok (.invokevirtual 194, 3) := by decide +kernel
theorem d_Model_ofRuns_8 : decode prog_9_method_38_code 8 = .ok (.ifCond .eq 10, 3) := by decide +kernel
theorem d_Model_ofRuns_11 : decode prog_9_method_38_code 11 = .ok (.aload_n 0, 1) := by decide +kernel
theorem d_Model_ofRuns_12 : decode prog_9_method_38_code 12 = .ok (.invokevirtual 225, 3) := by decide +kernel
theorem d_Model_ofRuns_15 : decode prog_9_method_38_code 15 = .ok (.goto 4, 3) := by decide +kernel
theorem d_Model_ofRuns_18 : decode prog_9_method_38_code 18 = .ok (.iconst 0, 1) := by decide +kernel
theorem d_Model_ofRuns_19 : decode prog_9_method_38_code 19 = .ok (.istore_n 1, 1) := by decide +kernel
theorem d_Model_ofRuns_20 : decode prog_9_method_38_code 20 = .ok (.aload_n 0, 1) := by decide +kernel
theorem d_Model_ofRuns_21 : decode prog_9_method_38_code 21 = .ok (.aload_n 0, 1) := by decide +kernel
theorem d_Model_ofRuns_22 : decode prog_9_method_38_code 22 = .ok (.invokevirtual 228, 3) := by decide +kernel
theorem d_Model_ofRuns_25 : decode prog_9_method_38_code 25 = .ok (.bipush 8, 2) := by decide +kernel
theorem d_Model_ofRuns_27 : decode prog_9_method_38_code 27 = .ok (.invokevirtual 187, 3) := by decide +kernel
theorem d_Model_ofRuns_30 : decode prog_9_method_38_code 30 = .ok (.aload_n 0, 1) := by decide +kernel
theorem d_Model_ofRuns_31 : decode prog_9_method_38_code 31 = .ok (.iload_n 1, 1) := by decide +kernel
theorem d_Model_ofRuns_32 : decode prog_9_method_38_code 32 = .ok (.iconst 1, 1) := by decide +kernel
theorem d_Model_ofRuns_33 : decode prog_9_method_38_code 33 = .ok (.if_icmp .ne 7, 3) := by decide +kernel
theorem d_Model_ofRuns_36 : decode prog_9_method_38_code 36 = .ok (.iconst 1, 1) := by decide +kernel
theorem d_Model_ofRuns_37 : decode prog_9_method_38_code 37 = .ok (.goto 4, 3) := by decide +kernel
theorem d_Model_ofRuns_40 : decode prog_9_method_38_code 40 = .ok (.iconst 0, 1) := by decide +kernel
theorem d_Model_ofRuns_41 : decode prog_9_method_38_code 41 = .ok (.bipush 9, 2) := by decide +kernel
theorem d_Model_ofRuns_43 : decode prog_9_method_38_code 43 = .ok (.invokevirtual 187, 3) := by decide +kernel
theorem d_Model_ofRuns_46 : decode prog_9_method_38_code 46 = .ok (.lor, 1) := by decide +kernel
theorem d_Model_ofRuns_47 : decode prog_9_method_38_code 47 = .ok (.aload_n 0, 1) := by decide +kernel
theorem d_Model_ofRuns_48 : decode prog_9_method_38_code 48 = .ok (.iload_n 1, 1) := by decide +kernel
theorem d_Model_ofRuns_49 : decode prog_9_method_38_code 49 = .ok (.iconst 2, 1) := by decide +kernel
theorem d_Model_ofRuns_50 : decode prog_9_method_38_code 50 = .ok (.if_icmp .ne 7, 3) := by decide +kernel
theorem d_Model_ofRuns_53 : decode prog_9_method_38_code 53 = .ok (.iconst 1, 1) := by decide +kernel
theorem d_Model_ofRuns_54 : decode prog_9_method_38_code 54 = .ok (.goto 4, 3) := by decide +kernel
theorem d_Model_ofRuns_57 : decode prog_9_method_38_code 57 = .ok (.iconst 0, 1) := by decide +kernel
theorem d_Model_ofRuns_58 : decode prog_9_method_38_code 58 = .ok (.bipush 27, 2) := by decide +kernel
theorem d_Model_ofRuns_60 : decode prog_9_method_38_code 60 = .ok (.invokevirtual 187, 3) := by decide +kernel
theorem d_Model_ofRuns_63 : decode prog_9_method_38_code 63 = .ok (.lor, 1) := by decide +kernel
theorem d_Model_ofRuns_64 : decode prog_9_method_38_code 64 = .ok (.lstore_n 2, 1) := by decide +kernel
theorem d_Model_ofRuns_65 : decode prog_9_method_38_code 65 = .ok (.iconst 0, 1) := by decide +kernel
theorem d_Model_ofRuns_66 : decode prog_9_method_38_code 66 = .ok (.istore 4, 2) := by decide +kernel
theorem d_Model_ofRuns_68 : decode prog_9_method_38_code 68 = .ok (.iload 4, 2) := by decide +kernel
theorem d_Model_ofRuns_70 : decode prog_9_method_38_code 70 = .ok (.bipush 7, 2) := by decide +kernel
theorem d_Model_ofRuns_72 : decode prog_9_method_38_code 72 = .ok (.if_icmp .ge 56, 3) := by decide +kernel
theorem d_Model_ofRuns_75 : decode prog_9_method_38_code 75 = .ok (.lload_n 2, 1) := by decide +kernel
theorem d_Model_ofRuns_76 : decode prog_9_method_38_code 76 = .ok (.aload_n 0, 1) := by decide +kernel
theorem d_Model_ofRuns_77 : decode prog_9_method_38_code 77 = .ok (.aload_n 0, 1) := by decide +kernel
theorem d_Model_ofRuns_78 : decode prog_9_method_38_code 78 = .ok (.iload 4, 2) := by decide +kernel
theorem d_Model_ofRuns_80 : decode prog_9_method_38_code 80 = .ok (.invokevirtual 231, 3) := by decide +kernel
theorem d_Model_ofRuns_83 : decode prog_9_method_38_code 83 = .ok (.ifCond .eq 31, 3) := by decide +kernel
theorem d_Model_ofRuns_86 : decode prog_9_method_38_code 86 = .ok (.aload_n 0, 1) := by decide +kernel
theorem d_Model_ofRuns_87 : decode prog_9_method_38_code 87 = .ok (.bipush 9, 2) := by decide +kernel
theorem d_Model_ofRuns_89 : decode prog_9_method_38_code 89 = .ok (.iload 4, 2) := by decide +kernel
theorem d_Model_ofRuns_91 : decode prog_9_method_38_code 91 = .ok (.iadd, 1) := by decide +kernel
theorem d_Model_ofRuns_92 : decode prog_9_method_38_code 92 = .ok (.invokevirtual 231, 3) := by decide +kernel
theorem d_Model_ofRuns_95 : decode prog_9_method_38_code 95 = .ok (.ifCond .eq 19, 3) := by decide +kernel
theorem d_Model_ofRuns_98 : decode prog_9_method_38_code 98 = .ok (.aload_n 0, 1) := by decide +kernel
theorem d_Model_ofRuns_99 : decode prog_9_method_38_code 99 = .ok (.bipush 18, 2) := by decide +kernel
theorem d_Model_ofRuns_101 : decode prog_9_method_38_code 101 = .ok (.iload 4, 2) := by decide +kernel
theorem d_Model_ofRuns_103 : decode prog_9_method_38_code 103 = .ok (.iadd, 1) := by decide +kernel
theorem d_Model_ofRuns_104 : decode prog_9_method_38_code 104 = .ok (.invokevirtual 231, 3) := by decide +kernel
theorem d_Model_ofRuns_107 : decode prog_9_method_38_code 107 = .ok (.ifCond .eq 7, 3) := by decide +kernel
theorem d_Model_ofRuns_110 : decode prog_9_method_38_code 110 = .ok (.iconst 1, 1) := by decide +kernel
theorem d_Model_ofRuns_111 : decode prog_9_method_38_code 111 = .ok (.goto 4, 3) := by decide +kernel
theorem d_Model_ofRuns_114 : decode prog_9_method_38_code 114 = .ok (.iconst 0, 1) := by decide +kernel
theorem d_Model_ofRuns_115 : decode prog_9_method_38_code 115 = .ok (.bipush 15, 2) := by decide +kernel
theorem d_Model_ofRuns_117 : decode prog_9_method_38_code 117 = .ok (.invokevirtual 187, 3) := by decide +kernel
theorem d_Model_ofRuns_120 : decode prog_9_method_38_code 120 = .ok (.lor, 1) := by decide +kernel
theorem d_Model_ofRuns_121 : decode prog_9_method_38_code 121 = .ok (.lstore_n 2, 1) := by decide +kernel
theorem d_Model_ofRuns_122 : decode prog_9_method_38_code 122 = .ok (.iinc 4 1, 3) := by decide +kernel
theorem d_Model_ofRuns_125 : decode prog_9_method_38_code 125 = .ok (.goto (-57), 3) := by decide +kernel
theorem d_Model_ofRuns_128 : decode prog_9_method_38_code 128 = .ok (.iconst 0, 1) := by decide +kernel
theorem d_Model_ofRuns_129 : decode prog_9_method_38_code 129 = .ok (.istore 4, 2) := by decide +kernel
theorem d_Model_ofRuns_131 : decode prog_9_method_38_code 131 = .ok (.iload 4, 2) := by decide +kernel
theorem d_Model_ofRuns_133 : decode prog_9_method_38_code 133 = .ok (.bipush 27, 2) := by decide +kernel
theorem d_Model_ofRuns_135 : decode prog_9_method_38_code 135 = .ok (.if_icmp .ge 55, 3) := by decide +kernel
theorem d_Model_ofRuns_138 : decode prog_9_method_38_code 138 = .ok (.lload_n 2, 1) := by decide +kernel
theorem d_Model_ofRuns_139 : decode prog_9_method_38_code 139 = .ok (.aload_n 0, 1) := by decide +kernel
theorem d_Model_ofRuns_140 : decode prog_9_method_38_code 140 = .ok (.aload_n 0, 1) := by decide +kernel
theorem d_Model_ofRuns_141 : decode prog_9_method_38_code 141 = .ok (.iload 4, 2) := by decide +kernel
theorem d_Model_ofRuns_143 : decode prog_9_method_38_code 143 = .ok (.invokevirtual 231, 3) := by decide +kernel
theorem d_Model_ofRuns_146 : decode prog_9_method_38_code 146 = .ok (.ifCond .eq 30, 3) := by decide +kernel
theorem d_Model_ofRuns_149 : decode prog_9_method_38_code 149 = .ok (.aload_n 0, 1) := by decide +kernel
theorem d_Model_ofRuns_150 : decode prog_9_method_38_code 150 = .ok (.iload 4, 2) := by decide +kernel
theorem d_Model_ofRuns_152 : decode prog_9_method_38_code 152 = .ok (.iconst 3, 1) := by decide +kernel
theorem d_Model_ofRuns_153 : decode prog_9_method_38_code 153 = .ok (.iadd, 1) := by decide +kernel
theorem d_Model_ofRuns_154 : decode prog_9_method_38_code 154 = .ok (.invokevirtual 231, 3) := by decide +kernel
theorem d_Model_ofRuns_157 : decode prog_9_method_38_code 157 = .ok (.ifCond .eq 19, 3) := by decide +kernel
theorem d_Model_ofRuns_160 : decode prog_9_method_38_code 160 = .ok (.aload_n 0, 1) := by decide +kernel
theorem d_Model_ofRuns_161 : decode prog_9_method_38_code 161 = .ok (.iload 4, 2) := by decide +kernel
theorem d_Model_ofRuns_163 : decode prog_9_method_38_code 163 = .ok (.bipush 6, 2) := by decide +kernel
theorem d_Model_ofRuns_165 : decode prog_9_method_38_code 165 = .ok (.iadd, 1) := by decide +kernel
theorem d_Model_ofRuns_166 : decode prog_9_method_38_code 166 = .ok (.invokevirtual 231, 3) := by decide +kernel
theorem d_Model_ofRuns_169 : decode prog_9_method_38_code 169 = .ok (.ifCond .eq 7, 3) := by decide +kernel
theorem d_Model_ofRuns_172 : decode prog_9_method_38_code 172 = .ok (.iconst 1, 1) := by decide +kernel
theorem d_Model_ofRuns_173 : decode prog_9_method_38_code 173 = .ok (.goto 4, 3) := by decide +kernel
theorem d_Model_ofRuns_176 : decode prog_9_method_38_code 176 = .ok (.iconst 0, 1) := by decide +kernel
theorem d_Model_ofRuns_177 : decode prog_9_method_38_code 177 = .ok (.bipush 16, 2) := by decide +kernel
theorem d_Model_ofRuns_179 : decode prog_9_method_38_code 179 = .ok (.invokevirtual 187, 3) := by decide +kernel
theorem d_Model_ofRuns_182 : decode prog_9_method_38_code 182 = .ok (.lor, 1) := by decide +kernel
theorem d_Model_ofRuns_183 : decode prog_9_method_38_code 183 = .ok (.lstore_n 2, 1) := by decide +kernel
theorem d_Model_ofRuns_184 : decode prog_9_method_38_code 184 = .ok (.iinc 4 9, 3) := by decide +kernel
theorem d_Model_ofRuns_187 : decode prog_9_method_38_code 187 = .ok (.goto (-56), 3) := by decide +kernel
theorem d_Model_ofRuns_190 : decode prog_9_method_38_code 190 = .ok (.aload_n 0, 1) := by decide +kernel
theorem d_Model_ofRuns_191 : decode prog_9_method_38_code 191 = .ok (.getfield 137, 3) := by decide +kernel
theorem d_Model_ofRuns_194 : decode prog_9_method_38_code 194 = .ok (.invokestatic 133, 3) := by decide +kernel
theorem d_Model_ofRuns_197 : decode prog_9_method_38_code 197 = .ok (.istore 4, 2) := by decide +kernel
theorem d_Model_ofRuns_199 : decode prog_9_method_38_code 199 = .ok (.aload_n 0, 1) := by decide +kernel
theorem d_Model_ofRuns_200 : decode prog_9_method_38_code 200 = .ok (.getfield 137, 3) := by decide +kernel
theorem d_Model_ofRuns_203 : decode prog_9_method_38_code 203 = .ok (.bipush 27, 2) := by decide +kernel
theorem d_Model_ofRuns_205 : decode prog_9_method_38_code 205 = .ok (.if_icmp .lt 7, 3) := by decide +kernel
theorem d_Model_ofRuns_208 : decode prog_9_method_38_code 208 = .ok (.iconst 1, 1) := by decide +kernel
theorem d_Model_ofRuns_209 : decode prog_9_method_38_code 209 = .ok (.goto 4, 3) := by decide +kernel
theorem d_Model_ofRuns_212 : decode prog_9_method_38_code 212 = .ok (.iconst 0, 1) := by decide +kernel
theorem d_Model_ofRuns_213 : decode prog_9_method_38_code 213 = .ok (.istore 5, 2) := by decide +kernel
theorem d_Model_ofRuns_215 : decode prog_9_method_38_code 215 = .ok (.iconst 0, 1) := by decide +kernel
theorem d_Model_ofRuns_216 : decode prog_9_method_38_code 216 = .ok (.istore 6, 2) := by decide +kernel
theorem d_Model_ofRuns_218 : decode prog_9_method_38_code 218 = .ok (.iload 6, 2) := by decide +kernel
theorem d_Model_ofRuns_220 : decode prog_9_method_38_code 220 = .ok (.iconst 4, 1) := by decide +kernel
theorem d_Model_ofRuns_221 : decode prog_9_method_38_code 221 = .ok (.if_icmp .ge 77, 3) := by decide +kernel
theorem d_Model_ofRuns_224 : decode prog_9_method_38_code 224 = .ok (.aload_n 0, 1) := by decide +kernel
theorem d_Model_ofRuns_225 : decode prog_9_method_38_code 225 = .ok (.getfield 69, 3) := by decide +kernel
theorem d_Model_ofRuns_228 : decode prog_9_method_38_code 228 = .ok (.iload 6, 2) := by decide +kernel
theorem d_Model_ofRuns_230 : decode prog_9_method_38_code 230 = .ok (.iaload, 1) := by decide +kernel
theorem d_Model_ofRuns_231 : decode prog_9_method_38_code 231 = .ok (.istore 7, 2) := by decide +kernel
theorem d_Model_ofRuns_233 : decode prog_9_method_38_code 233 = .ok (.iload 4, 2) := by decide +kernel
theorem d_Model_ofRuns_235 : decode prog_9_method_38_code 235 = .ok (.ifCond .eq 35, 3) := by decide +kernel
theorem d_Model_ofRuns_238 : decode prog_9_method_38_code 238 = .ok (.iload 7, 2) := by decide +kernel
theorem d_Model_ofRuns_240 : decode prog_9_method_38_code 240 = .ok (.invokestatic 133, 3) := by decide +kernel
theorem d_Model_ofRuns_243 : decode prog_9_method_38_code 243 = .ok (.ifCond .ne 23, 3) := by decide +kernel
theorem d_Model_ofRuns_246 : decode prog_9_method_38_code 246 = .ok (.aload_n 0, 1) := by decide +kernel
theorem d_Model_ofRuns_247 : decode prog_9_method_38_code 247 = .ok (.getfield 72, 3) := by decide +kernel
theorem d_Model_ofRuns_250 : decode prog_9_method_38_code 250 = .ok (.iload 6, 2) := by decide +kernel
theorem d_Model_ofRuns_252 : decode prog_9_method_38_code 252 = .ok (.iaload, 1) := by decide +kernel
theorem d_Model_ofRuns_253 : decode prog_9_method_38_code 253 = .ok (.ifCond .ne 17, 3) := by decide +kernel
theorem d_Model_ofRuns_256 : decode prog_9_method_38_code 256 = .ok (.iload 7, 2) := by decide +kernel
theorem d_Model_ofRuns_258 : decode prog_9_method_38_code 258 = .ok (.invokestatic 147, 3) := by decide +kernel
theorem d_Model_ofRuns_261 : decode prog_9_method_38_code 261 = .ok (.bipush 7, 2) := by decide +kernel
theorem d_Model_ofRuns_263 : decode prog_9_method_38_code 263 = .ok (.if_icmp .ne 7, 3) := by decide +kernel
theorem d_Model_ofRuns_266 : decode prog_9_method_38_code 266 = .ok (.iconst 1, 1) := by decide +kernel
theorem d_Model_ofRuns_267 : decode prog_9_method_38_code 267 = .ok (.goto 4, 3) := by decide +kernel
theorem d_Model_ofRuns_270 : decode prog_9_method_38_code 270 = .ok (.iconst 0, 1) := by decide +kernel
theorem d_Model_ofRuns_271 : decode prog_9_method_38_code 271 = .ok (.istore 4, 2) := by decide +kernel
theorem d_Model_ofRuns_273 : decode prog_9_method_38_code 273 = .ok (.iload 5, 2) := by decide +kernel
theorem d_Model_ofRuns_275 : decode prog_9_method_38_code 275 = .ok (.ifCond .ne 10, 3) := by decide +kernel
theorem d_Model_ofRuns_278 : decode prog_9_method_38_code 278 = .ok (.iload 7, 2) := by decide +kernel
theorem d_Model_ofRuns_280 : decode prog_9_method_38_code 280 = .ok (.bipush 27, 2) := by decide +kernel
theorem d_Model_ofRuns_282 : decode prog_9_method_38_code 282 = .ok (.if_icmp .lt 7, 3) := by decide +kernel
theorem d_Model_ofRuns_285 : decode prog_9_method_38_code 285 = .ok (.iconst 1, 1) := by decide +kernel
theorem d_Model_ofRuns_286 : decode prog_9_method_38_code 286 = .ok (.goto 4, 3) := by decide +kernel
theorem d_Model_ofRuns_289 : decode prog_9_method_38_code 289 = .ok (.iconst 0, 1) := by decide +kernel
theorem d_Model_ofRuns_290 : decode prog_9_method_38_code 290 = .ok (.istore 5, 2) := by decide +kernel
theorem d_Model_ofRuns_292 : decode prog_9_method_38_code 292 = .ok (.iinc 6 1, 3) := by decide +kernel
theorem d_Model_ofRuns_295 : decode prog_9_method_38_code 295 = .ok (.goto (-77), 3) := by decide +kernel
theorem d_Model_ofRuns_298 : decode prog_9_method_38_code 298 = .ok (.aload_n 0, 1) := by decide +kernel
theorem d_Model_ofRuns_299 : decode prog_9_method_38_code 299 = .ok (.invokevirtual 219, 3) := by decide +kernel
theorem d_Model_ofRuns_302 : decode prog_9_method_38_code 302 = .ok (.ifCond .le 7, 3) := by decide +kernel
theorem d_Model_ofRuns_305 : decode prog_9_method_38_code 305 = .ok (.iconst 1, 1) := by decide +kernel
theorem d_Model_ofRuns_306 : decode prog_9_method_38_code 306 = .ok (.goto 4, 3) := by decide +kernel
theorem d_Model_ofRuns_309 : decode prog_9_method_38_code 309 = .ok (.iconst 0, 1) := by decide +kernel
theorem d_Model_ofRuns_310 : decode prog_9_method_38_code 310 = .ok (.istore 6, 2) := by decide +kernel
theorem d_Model_ofRuns_312 : decode prog_9_method_38_code 312 = .ok (.lload_n 2, 1) := by decide +kernel
theorem d_Model_ofRuns_313 : decode prog_9_method_38_code 313 = .ok (.aload_n 0, 1) := by decide +kernel
theorem d_Model_ofRuns_314 : decode prog_9_method_38_code 314 = .ok (.iload 4, 2) := by decide +kernel
theorem d_Model_ofRuns_316 : decode prog_9_method_38_code 316 = .ok (.ifCond .eq 17, 3) := by decide +kernel
theorem d_Model_ofRuns_319 : decode prog_9_method_38_code 319 = .ok (.iload 6, 2) := by decide +kernel
theorem d_Model_ofRuns_321 : decode prog_9_method_38_code 321 = .ok (.ifCond .eq 12, 3) := by decide +kernel
theorem d_Model_ofRuns_324 : decode prog_9_method_38_code 324 = .ok (.iload 5, 2) := by decide +kernel
theorem d_Model_ofRuns_326 : decode prog_9_method_38_code 326 = .ok (.ifCond .eq 7, 3) := by decide +kernel
theorem d_Model_ofRuns_329 : decode prog_9_method_38_code 329 = .ok (.iconst 1, 1) := by decide +kernel
theorem d_Model_ofRuns_330 : decode prog_9_method_38_code 330 = .ok (.goto 4, 3) := by decide +kernel
theorem d_Model_ofRuns_333 : decode prog_9_method_38_code 333 = .ok (.iconst 0, 1) := by decide +kernel
theorem d_Model_ofRuns_334 : decode prog_9_method_38_code 334 = .ok (.bipush 17, 2) := by decide +kernel
theorem d_Model_ofRuns_336 : decode prog_9_method_38_code 336 = .ok (.invokevirtual 187, 3) := by decide +kernel
theorem d_Model_ofRuns_339 : decode prog_9_method_38_code 339 = .ok (.lor, 1) := by decide +kernel
theorem d_Model_ofRuns_340 : decode prog_9_method_38_code 340 = .ok (.aload_n 0, 1) := by decide +kernel
theorem d_Model_ofRuns_341 : decode prog_9_method_38_code 341 = .ok (.iload 4, 2) := by decide +kernel
theorem d_Model_ofRuns_343 : decode prog_9_method_38_code 343 = .ok (.ifCond .eq 17, 3) := by decide +kernel
theorem d_Model_ofRuns_346 : decode prog_9_method_38_code 346 = .ok (.iload 6, 2) := by decide +kernel
theorem d_Model_ofRuns_348 : decode prog_9_method_38_code 348 = .ok (.ifCond .eq 12, 3) := by decide +kernel
theorem d_Model_ofRuns_351 : decode prog_9_method_38_code 351 = .ok (.iload 5, 2) := by decide +kernel
theorem d_Model_ofRuns_353 : decode prog_9_method_38_code 353 = .ok (.ifCond .ne 7, 3) := by decide +kernel
theorem d_Model_ofRuns_356 : decode prog_9_method_38_code 356 = .ok (.iconst 1, 1) := by decide +kernel
theorem d_Model_ofRuns_357 : decode prog_9_method_38_code 357 = .ok (.goto 4, 3) := by decide +kernel
theorem d_Model_ofRuns_360 : decode prog_9_method_38_code 360 = .ok (.iconst 0, 1) := by decide +kernel
theorem d_Model_ofRuns_361 : decode prog_9_method_38_code 361 = .ok (.bipush 18, 2) := by decide +kernel
theorem d_Model_ofRuns_363 : decode prog_9_method_38_code 363 = .ok (.invokevirtual 187, 3) := by decide +kernel
theorem d_Model_ofRuns_366 : decode prog_9_method_38_code 366 = .ok (.lor, 1) := by decide +kernel
theorem d_Model_ofRuns_367 : decode prog_9_method_38_code 367 = .ok (.lreturn, 1) := by decide +kernel
theorem d_Model_ofTriplets_0 : decode prog_9_method_39_code 0 = .ok (.iconst 0, 1) := by decide +kernel
theorem d_Model_ofTriplets_1 : decode prog_9_method_39_code 1 = .ok (.istore_n 1, 1) := by decide +kernel
theorem d_Model_ofTriplets_2 : decode prog_9_method_39_code 2 = .ok (.iconst 0, 1) := by decide +kernel
theorem d_Model_ofTriplets_3 : decode prog_9_method_39_code 3 = .ok (.istore_n 2, 1) := by decide +kernel
theorem d_Model_ofTriplets_4 : decode prog_9_method_39_code 4 = .ok (.iconst 0, 1) := by decide +kernel
theorem d_Model_ofTriplets_5 : decode prog_9_method_39_code 5 = .ok (.istore_n 3, 1) := by decide +kernel
theorem d_Model_ofTriplets_6 : decode prog_9_method_39_code 6 = .ok (.iconst 0, 1) := by decide +kernel
theorem d_Model_ofTriplets_7 : decode prog_9_method_39_code 7 = .ok (.istore 4, 2) := by decide +kernel
theorem d_Model_ofTriplets_9 : decode prog_9_method_39_code 9 = .ok (.iconst 0, 1) := by decide +kernel
theorem d_Model_ofTriplets_10 : decode prog_9_method_39_code 10 = .ok (.istore 5, 2) := by decide +kernel
theorem d_Model_ofTriplets_12 : decode prog_9_method_39_code 12 = .ok (.iload 5, 2) := by decide +kernel
theorem d_Model_ofTriplets_14 : decode prog_9_method_39_code 14 = .ok (.iconst 4, 1) := by decide +kernel
theorem d_Model_ofTriplets_15 : decode prog_9_method_39_code 15 = .ok (.if_icmp .ge 129, 3) := by decide +kernel
theorem d_Model_ofTriplets_18 : decode prog_9_method_39_code 18 = .ok (.iload_n 1, 1) := by decide +kernel
theorem d_Model_ofTriplets_19 : decode prog_9_method_39_code 19 = .ok (.aload_n 0, 1) := by decide +kernel
theorem d_Model_ofTriplets_20 : decode prog_9_method_39_code 20 = .ok (.getfield 72, 3) := by decide +kernel
theorem d_Model_ofTriplets_23 : decode prog_9_method_39_code 23 = .ok (.iload 5, 2) := by decide +kernel
theorem d_Model_ofTriplets_25 : decode prog_9_method_39_code 25 = .ok (.iaload, 1) := by decide +kernel
theorem d_Model_ofTriplets_26 : decode prog_9_method_39_code 26 = .ok (.ifCond .le 16, 3) := by decide +kernel
theorem d_Model_ofTriplets_29 : decode prog_9_method_39_code 29 = .ok (.aload_n 0, 1) := by decide +kernel
theorem d_Model_ofTriplets_30 : decode prog_9_method_39_code 30 = .ok (.iload 5, 2) := by decide +kernel
theorem d_Model_ofTriplets_32 : decode prog_9_method_39_code 32 = .ok (.invokevirtual 234, 3) := by decide +kernel
theorem d_Model_ofTriplets_35 : decode prog_9_method_39_code 35 = .ok (.ifCond .eq 7, 3) := by decide +kernel
theorem d_Model_ofTriplets_38 : decode prog_9_method_39_code 38 = .ok (.iconst 1, 1) := by decide +kernel
theorem d_Model_ofTriplets_39 : decode prog_9_method_39_code 39 = .ok (.goto 4, 3) := by decide +kernel
theorem d_Model_ofTriplets_42 : decode prog_9_method_39_code 42 = .ok (.iconst 0, 1) := by decide +kernel
theorem d_Model_ofTriplets_43 : decode prog_9_method_39_code 43 = .ok (.iadd, 1) := by decide +kernel
theorem d_Model_ofTriplets_44 : decode prog_9_method_39_code 44 = .ok (.istore_n 1, 1) := by decide +kernel
theorem d_Model_ofTriplets_45 : decode prog_9_method_39_code 45 = .ok (.iload_n 2, 1) := by decide +kernel
theorem d_Model_ofTriplets_46 : decode prog_9_method_39_code 46 = .ok (.aload_n 0, 1) := by decide +kernel
theorem d_Model_ofTriplets_47 : decode prog_9_method_39_code 47 = .ok (.getfield 72, 3) := by decide +kernel
theorem d_Model_ofTriplets_50 : decode prog_9_method_39_code 50 = .ok (.iload 5, 2) := by decide +kernel
theorem d_Model_ofTriplets_52 : decode prog_9_method_39_code 52 = .ok (.iaload, 1) := by decide +kernel
theorem d_Model_ofTriplets_53 : decode prog_9_method_39_code 53 = .ok (.iconst 2, 1) := by decide +kernel
theorem d_Model_ofTriplets_54 : decode prog_9_method_39_code 54 = .ok (.if_icmp .ne 7, 3) := by decide +kernel
theorem d_Model_ofTriplets_57 : decode prog_9_method_39_code 57 = .ok (.iconst 1, 1) := by decide +kernel
theorem d_Model_ofTriplets_58 : decode prog_9_method_39_code 58 = .ok (.goto 4, 3) := by decide +kernel
theorem d_Model_ofTriplets_61 : decode prog_9_method_39_code 61 = .ok (.iconst 0, 1) := by decide +kernel
theorem d_Model_ofTriplets_62 : decode prog_9_method_39_code 62 = .ok (.iadd, 1) := by decide +kernel
theorem d_Model_ofTriplets_63 : decode prog_9_method_39_code 63 = .ok (.istore_n 2, 1) := by decide +kernel
theorem d_Model_ofTriplets_64 : decode prog_9_method_39_code 64 = .ok (.iload_n 3, 1) := by decide +kernel
theorem d_Model_ofTriplets_65 : decode prog_9_method_39_code 65 = .ok (.aload_n 0, 1) := by decide +kernel
theorem d_Model_ofTriplets_66 : decode prog_9_method_39_code 66 = .ok (.getfield 72, 3) := by decide +kernel
theorem d_Model_ofTriplets_69 : decode prog_9_method_39_code 69 = .ok (.iload 5, 2) := by decide +kernel
theorem d_Model_ofTriplets_71 : decode prog_9_method_39_code 71 = .ok (.iaload, 1) := by decide +kernel
theorem d_Model_ofTriplets_72 : decode prog_9_method_39_code 72 = .ok (.ifCond .le 19, 3) := by decide +kernel
theorem d_Model_ofTriplets_75 : decode prog_9_method_39_code 75 = .ok (.aload_n 0, 1) := by decide +kernel
theorem d_Model_ofTriplets_76 : decode prog_9_method_39_code 76 = .ok (.getfield 69, 3) := by decide +kernel
theorem d_Model_ofTriplets_79 : decode prog_9_method_39_code 79 = .ok (.iload 5, 2) := by decide +kernel
theorem d_Model_ofTriplets_81 : decode prog_9_method_39_code 81 = .ok (.iaload, 1) := by decide +kernel
theorem d_Model_ofTriplets_82 : decode prog_9_method_39_code 82 = .ok (.bipush 31, 2) := by decide +kernel
theorem d_Model_ofTriplets_84 : decode prog_9_method_39_code 84 = .ok (.if_icmp .lt 7, 3) := by decide +kernel
theorem d_Model_ofTriplets_87 : decode prog_9_method_39_code 87 = .ok (.iconst 1, 1) := by decide +kernel
theorem d_Model_ofTriplets_88 : decode prog_9_method_39_code 88 = .ok (.goto 4, 3) := by decide +kernel
theorem d_Model_ofTriplets_91 : decode prog_9_method_39_code 91 = .ok (.iconst 0, 1) := by decide +kernel
theorem d_Model_ofTriplets_92 : decode prog_9_method_39_code 92 = .ok (.iadd, 1) := by decide +kernel
theorem d_Model_ofTriplets_93 : decode prog_9_method_39_code 93 = .ok (.istore_n 3, 1) := by decide +kernel
theorem d_Model_ofTriplets_94 : decode prog_9_method_39_code 94 = .ok (.iload 4, 2) := by decide +kernel
theorem d_Model_ofTriplets_96 : decode prog_9_method_39_code 96 = .ok (.aload_n 0, 1) := by decide +kernel
theorem d_Model_ofTriplets_97 : decode prog_9_method_39_code 97 = .ok (.getfield 72, 3) := by decide +kernel
theorem d_Model_ofTriplets_100 : decode prog_9_method_39_code 100 = .ok (.iload 5, 2) := by decide +kernel
theorem d_Model_ofTriplets_102 : decode prog_9_method_39_code 102 = .ok (.iaload, 1) := by decide +kernel
theorem d_Model_ofTriplets_103 : decode prog_9_method_39_code 103 = .ok (.ifCond .le 31, 3) := by decide +kernel
theorem d_Model_ofTriplets_106 : decode prog_9_method_39_code 106 = .ok (.aload_n 0, 1) := by decide +kernel
theorem d_Model_ofTriplets_107 : decode prog_9_method_39_code 107 = .ok (.getfield 69, 3) := by decide +kernel
theorem d_Model_ofTriplets_110 : decode prog_9_method_39_code 110 = .ok (.iload 5, 2) := by decide +kernel
theorem d_Model_ofTriplets_112 : decode prog_9_method_39_code 112 = .ok (.iaload, 1) := by decide +kernel
theorem d_Model_ofTriplets_113 : decode prog_9_method_39_code 113 = .ok (.bipush 27, 2) := by decide +kernel
theorem d_Model_ofTriplets_115 : decode prog_9_method_39_code 115 = .ok (.if_icmp .lt 19, 3) := by decide +kernel
theorem d_Model_ofTriplets_118 : decode prog_9_method_39_code 118 = .ok (.aload_n 0, 1) := by decide +kernel
theorem d_Model_ofTriplets_119 : decode prog_9_method_39_code 119 = .ok (.getfield 69, 3) := by decide +kernel
theorem d_Model_ofTriplets_122 : decode prog_9_method_39_code 122 = .ok (.iload 5, 2) := by decide +kernel
theorem d_Model_ofTriplets_124 : decode prog_9_method_39_code 124 = .ok (.iaload, 1) := by decide +kernel
theorem d_Model_ofTriplets_125 : decode prog_9_method_39_code 125 = .ok (.bipush 30, 2) := by decide +kernel
theorem d_Model_ofTriplets_127 : decode prog_9_method_39_code 127 = .ok (.if_icmp .gt 7, 3) := by decide +kernel
theorem d_Model_ofTriplets_130 : decode prog_9_method_39_code 130 = .ok (.iconst 1, 1) := by decide +kernel
theorem d_Model_ofTriplets_131 : decode prog_9_method_39_code 131 = .ok (.goto 4, 3) := by decide +kernel
theorem d_Model_ofTriplets_134 : decode prog_9_method_39_code 134 = .ok (.iconst 0, 1) := by decide +kernel
theorem d_Model_ofTriplets_135 : decode prog_9_method_39_code 135 = .ok (.iadd, 1) := by decide +kernel
theorem d_Model_ofTriplets_136 : decode prog_9_method_39_code 136 = .ok (.istore 4, 2) := by decide +kernel
theorem d_Model_ofTriplets_138 : decode prog_9_method_39_code 138 = .ok (.iinc 5 1, 3) := by decide +kernel
theorem d_Model_ofTriplets_141 : decode prog_9_method_39_code 141 = .ok (.goto (-129), 3) := by decide +kernel
theorem d_Model_ofTriplets_144 : decode prog_9_method_39_code 144 = .ok (.aload_n 0, 1) := by decide +kernel
theorem d_Model_ofTriplets_145 : decode prog_9_method_39_code 145 = .ok (.aload_n 0, 1) := by decide +kernel
theorem d_Model_ofTriplets_146 : decode prog_9_method_39_code 146 = .ok (.aload_n 0, 1) := by decide +kernel
theorem d_Model_ofTriplets_147 : decode prog_9_method_39_code 147 = .ok (.invokevirtual 213, 3) := by decide +kernel
theorem d_Model_ofTriplets_150 : decode prog_9_method_39_code 150 = .ok (.invokevirtual 237, 3) := by decide +kernel
theorem d_Model_ofTriplets_153 : decode prog_9_method_39_code 153 = .ok (.bipush 10, 2) := by decide +kernel
theorem d_Model_ofTriplets_155 : decode prog_9_method_39_code 155 = .ok (.invokevirtual 187, 3) := by decide +kernel
theorem d_Model_ofTriplets_158 : decode prog_9_method_39_code 158 = .ok (.aload_n 0, 1) := by decide +kernel
theorem d_Model_ofTriplets_159 : decode prog_9_method_39_code 159 = .ok (.aload_n 0, 1) := by decide +kernel
theorem d_Model_ofTriplets_160 : decode prog_9_method_39_code 160 = .ok (.bipush 27, 2) := by decide +kernel
theorem d_Model_ofTriplets_162 : decode prog_9_method_39_code 162 = .ok (.aload_n 0, 1) := by decide +kernel
theorem d_Model_ofTriplets_163 : decode prog_9_method_39_code 163 = .ok (.getfield 216, 3) := by decide +kernel
theorem d_Model_ofTriplets_166 : decode prog_9_method_39_code 166 = .ok (.iadd, 1) := by decide +kernel
theorem d_Model_ofTriplets_167 : decode prog_9_method_39_code 167 = .ok (.invokevirtual 237, 3) := by decide +kernel
theorem d_Model_ofTriplets_170 : decode prog_9_method_39_code 170 = .ok (.bipush 11, 2) := by decide +kernel
theorem d_Model_ofTriplets_172 : decode prog_9_method_39_code 172 = .ok (.invokevirtual 187, 3) := by decide +kernel
theorem d_Model_ofTriplets_175 : decode prog_9_method_39_code 175 = .ok (.lor, 1) := by decide +kernel
theorem d_Model_ofTriplets_176 : decode prog_9_method_39_code 176 = .ok (.aload_n 0, 1) := by decide +kernel
theorem d_Model_ofTriplets_177 : decode prog_9_method_39_code 177 = .ok (.aload_n 0, 1) := by decide +kernel
theorem d_Model_ofTriplets_178 : decode prog_9_method_39_code 178 = .ok (.bipush 31, 2) := by decide +kernel
theorem d_Model_ofTriplets_180 : decode prog_9_method_39_code 180 = .ok (.invokevirtual 237, 3) := by decide +kernel
theorem d_Model_ofTriplets_183 : decode prog_9_method_39_code 183 = .ok (.bipush 12, 2) := by decide +kernel
theorem d_Model_ofTriplets_185 : decode prog_9_method_39_code 185 = .ok (.invokevirtual 187, 3) := by decide +kernel
theorem d_Model_ofTriplets_188 : decode prog_9_method_39_code 188 = .ok (.lor, 1) := by decide +kernel
theorem d_Model_ofTriplets_189 : decode prog_9_method_39_code 189 = .ok (.aload_n 0, 1) := by decide +kernel
theorem d_Model_ofTriplets_190 : decode prog_9_method_39_code 190 = .ok (.aload_n 0, 1) := by decide +kernel
theorem d_Model_ofTriplets_191 : decode prog_9_method_39_code 191 = .ok (.bipush 32, 2) := by decide +kernel
theorem d_Model_ofTriplets_193 : decode prog_9_method_39_code 193 = .ok (.invokevirtual 237, 3) := by decide +kernel
theorem d_Model_ofTriplets_196 : decode prog_9_method_39_code 196 = .ok (.bipush 13, 2) := by decide +kernel
theorem d_Model_ofTriplets_198 : decode prog_9_method_39_code 198 = .ok (.invokevirtual 187, 3) := by decide +kernel
theorem d_Model_ofTriplets_201 : decode prog_9_method_39_code 201 = .ok (.lor, 1) := by decide +kernel
theorem d_Model_ofTriplets_202 : decode prog_9_method_39_code 202 = .ok (.aload_n 0, 1) := by decide +kernel
theorem d_Model_ofTriplets_203 : decode prog_9_method_39_code 203 = .ok (.aload_n 0, 1) := by decide +kernel
theorem d_Model_ofTriplets_204 : decode prog_9_method_39_code 204 = .ok (.bipush 33, 2) := by decide +kernel
theorem d_Model_ofTriplets_206 : decode prog_9_method_39_code 206 = .ok (.invokevirtual 237, 3) := by decide +kernel
theorem d_Model_ofTriplets_209 : decode prog_9_method_39_code 209 = .ok (.bipush 14, 2) := by decide +kernel
theorem d_Model_ofTriplets_211 : decode prog_9_method_39_code 211 = .ok (.invokevirtual 187, 3) := by decide +kernel
theorem d_Model_ofTriplets_214 : decode prog_9_method_39_code 214 = .ok (.lor, 1) := by decide +kernel
theorem d_Model_ofTriplets_215 : decode prog_9_method_39_code 215 = .ok (.aload_n 0, 1) := by decide +kernel
theorem d_Model_ofTriplets_216 : decode prog_9_method_39_code 216 = .ok (.aload_n 0, 1) := by decide +kernel
theorem d_Model_ofTriplets_217 : decode prog_9_method_39_code 217 = .ok (.invokevirtual 219, 3) := by decide +kernel
theorem d_Model_ofTriplets_220 : decode prog_9_method_39_code 220 = .ok (.ifCond .ne 7, 3) := by decide +kernel
theorem d_Model_ofTriplets_223 : decode prog_9_method_39_code 223 = .ok (.iconst 1, 1) := by decide +kernel
theorem d_Model_ofTriplets_224 : decode prog_9_method_39_code 224 = .ok (.goto 4, 3) := by decide +kernel
theorem d_Model_ofTriplets_227 : decode prog_9_method_39_code 227 = .ok (.iconst 0, 1) := by decide +kernel
theorem d_Model_ofTriplets_228 : decode prog_9_method_39_code 228 = .ok (.bipush 19, 2) := by decide +kernel
theorem d_Model_ofTriplets_230 : decode prog_9_method_39_code 230 = .ok (.invokevirtual 187, 3) := by decide +kernel
theorem d_Model_ofTriplets_233 : decode prog_9_method_39_code 233 = .ok (.lor, 1) := by decide +kernel
theorem d_Model_ofTriplets_234 : decode prog_9_method_39_code 234 = .ok (.aload_n 0, 1) := by decide +kernel
theorem d_Model_ofTriplets_235 : decode prog_9_method_39_code 235 = .ok (.iload_n 1, 1) := by decide +kernel
theorem d_Model_ofTriplets_236 : decode prog_9_method_39_code 236 = .ok (.iconst 3, 1) := by decide +kernel
theorem d_Model_ofTriplets_237 : decode prog_9_method_39_code 237 = .ok (.if_icmp .lt 7, 3) := by decide +kernel
theorem d_Model_ofTriplets_240 : decode prog_9_method_39_code 240 = .ok (.iconst 1, 1) := by decide +kernel
theorem d_Model_ofTriplets_241 : decode prog_9_method_39_code 241 = .ok (.goto 4, 3) := by decide +kernel
theorem d_Model_ofTriplets_244 : decode prog_9_method_39_code 244 = .ok (.iconst 0, 1) := by decide +kernel
theorem d_Model_ofTriplets_245 : decode prog_9_method_39_code 245 = .ok (.bipush 20, 2) := by decide +kernel
theorem d_Model_ofTriplets_247 : decode prog_9_method_39_code 247 = .ok (.invokevirtual 187, 3) := by decide +kernel
theorem d_Model_ofTriplets_250 : decode prog_9_method_39_code 250 = .ok (.lor, 1) := by decide +kernel
theorem d_Model_ofTriplets_251 : decode prog_9_method_39_code 251 = .ok (.aload_n 0, 1) := by decide +kernel
theorem d_Model_ofTriplets_252 : decode prog_9_method_39_code 252 = .ok (.iload_n 2, 1) := by decide +kernel
theorem d_Model_ofTriplets_253 : decode prog_9_method_39_code 253 = .ok (.iconst 3, 1) := by decide +kernel
theorem d_Model_ofTriplets_254 : decode prog_9_method_39_code 254 = .ok (.if_icmp .lt 7, 3) := by decide +kernel
theorem d_Model_ofTriplets_257 : decode prog_9_method_39_code 257 = .ok (.iconst 1, 1) := by decide +kernel
theorem d_Model_ofTriplets_258 : decode prog_9_method_39_code 258 = .ok (.goto 4, 3) := by decide +kernel
theorem d_Model_ofTriplets_261 : decode prog_9_method_39_code 261 = .ok (.iconst 0, 1) := by decide +kernel
theorem d_Model_ofTriplets_262 : decode prog_9_method_39_code 262 = .ok (.bipush 21, 2) := by decide +kernel
theorem d_Model_ofTriplets_264 : decode prog_9_method_39_code 264 = .ok (.invokevirtual 187, 3) := by decide +kernel
theorem d_Model_ofTriplets_267 : decode prog_9_method_39_code 267 = .ok (.lor, 1) := by decide +kernel
theorem d_Model_ofTriplets_268 : decode prog_9_method_39_code 268 = .ok (.lstore 5, 2) := by decide +kernel
theorem d_Model_ofTriplets_270 : decode prog_9_method_39_code 270 = .ok (.iconst 0, 1) := by decide +kernel
theorem d_Model_ofTriplets_271 : decode prog_9_method_39_code 271 = .ok (.istore 7, 2) := by decide +kernel
theorem d_Model_ofTriplets_273 : decode prog_9_method_39_code 273 = .ok (.iload 7, 2) := by decide +kernel
theorem d_Model_ofTriplets_275 : decode prog_9_method_39_code 275 = .ok (.bipush 9, 2) := by decide +kernel
theorem d_Model_ofTriplets_277 : decode prog_9_method_39_code 277 = .ok (.if_icmp .ge 58, 3) := by decide +kernel
theorem d_Model_ofTriplets_280 : decode prog_9_method_39_code 280 = .ok (.lload 5, 2) := by decide +kernel
theorem d_Model_ofTriplets_282 : decode prog_9_method_39_code 282 = .ok (.aload_n 0, 1) := by decide +kernel
theorem d_Model_ofTriplets_283 : decode prog_9_method_39_code 283 = .ok (.aload_n 0, 1) := by decide +kernel
theorem d_Model_ofTriplets_284 : decode prog_9_method_39_code 284 = .ok (.iload 7, 2) := by decide +kernel
theorem d_Model_ofTriplets_286 : decode prog_9_method_39_code 286 = .ok (.invokevirtual 237, 3) := by decide +kernel
theorem d_Model_ofTriplets_289 : decode prog_9_method_39_code 289 = .ok (.ifCond .eq 31, 3) := by decide +kernel
theorem d_Model_ofTriplets_292 : decode prog_9_method_39_code 292 = .ok (.aload_n 0, 1) := by decide +kernel
theorem d_Model_ofTriplets_293 : decode prog_9_method_39_code 293 = .ok (.bipush 9, 2) := by decide +kernel
theorem d_Model_ofTriplets_295 : decode prog_9_method_39_code 295 = .ok (.iload 7, 2) := by decide +kernel
theorem d_Model_ofTriplets_297 : decode prog_9_method_39_code 297 = .ok (.iadd, 1) := by decide +kernel
theorem d_Model_ofTriplets_298 : decode prog_9_method_39_code 298 = .ok (.invokevirtual 237, 3) := by decide +kernel
theorem d_Model_ofTriplets_301 : decode prog_9_method_39_code 301 = .ok (.ifCond .eq 19, 3) := by decide +kernel
theorem d_Model_ofTriplets_304 : decode prog_9_method_39_code 304 = .ok (.aload_n 0, 1) := by decide +kernel
theorem d_Model_ofTriplets_305 : decode prog_9_method_39_code 305 = .ok (.bipush 18, 2) := by decide +kernel
theorem d_Model_ofTriplets_307 : decode prog_9_method_39_code 307 = .ok (.iload 7, 2) := by decide +kernel
theorem d_Model_ofTriplets_309 : decode prog_9_method_39_code 309 = .ok (.iadd, 1) := by decide +kernel
theorem d_Model_ofTriplets_310 : decode prog_9_method_39_code 310 = .ok (.invokevirtual 237, 3) := by decide +kernel
theorem d_Model_ofTriplets_313 : decode prog_9_method_39_code 313 = .ok (.ifCond .eq 7, 3) := by decide +kernel
theorem d_Model_ofTriplets_316 : decode prog_9_method_39_code 316 = .ok (.iconst 1, 1) := by decide +kernel
theorem d_Model_ofTriplets_317 : decode prog_9_method_39_code 317 = .ok (.goto 4, 3) := by decide +kernel
theorem d_Model_ofTriplets_320 : decode prog_9_method_39_code 320 = .ok (.iconst 0, 1) := by decide +kernel
theorem d_Model_ofTriplets_321 : decode prog_9_method_39_code 321 = .ok (.bipush 22, 2) := by decide +kernel
theorem d_Model_ofTriplets_323 : decode prog_9_method_39_code 323 = .ok (.invokevirtual 187, 3) := by decide +kernel
theorem d_Model_ofTriplets_326 : decode prog_9_method_39_code 326 = .ok (.lor, 1) := by decide +kernel
theorem d_Model_ofTriplets_327 : decode prog_9_method_39_code 327 = .ok (.lstore 5, 2) := by decide +kernel
theorem d_Model_ofTriplets_329 : decode prog_9_method_39_code 329 = .ok (.iinc 7 1, 3) := by decide +kernel
theorem d_Model_ofTriplets_332 : decode prog_9_method_39_code 332 = .ok (.goto (-59), 3) := by decide +kernel
theorem d_Model_ofTriplets_335 : decode prog_9_method_39_code 335 = .ok (.lload 5, 2) := by decide +kernel
theorem d_Model_ofTriplets_337 : decode prog_9_method_39_code 337 = .ok (.aload_n 0, 1) := by decide +kernel
theorem d_Model_ofTriplets_338 : decode prog_9_method_39_code 338 = .ok (.iload_n 3, 1) := by decide +kernel
theorem d_Model_ofTriplets_339 : decode prog_9_method_39_code 339 = .ok (.iconst 2, 1) := by decide +kernel
theorem d_Model_ofTriplets_340 : decode prog_9_method_39_code 340 = .ok (.if_icmp .ne 16, 3) := by decide +kernel
theorem d_Model_ofTriplets_343 : decode prog_9_method_39_code 343 = .ok (.aload_n 0, 1) := by decide +kernel
theorem d_Model_ofTriplets_344 : decode prog_9_method_39_code 344 = .ok (.getfield 137, 3) := by decide +kernel
theorem d_Model_ofTriplets_347 : decode prog_9_method_39_code 347 = .ok (.bipush 31, 2) := by decide +kernel
theorem d_Model_ofTriplets_349 : decode prog_9_method_39_code 349 = .ok (.if_icmp .lt 7, 3) := by decide +kernel
theorem d_Model_ofTriplets_352 : decode prog_9_method_39_code 352 = .ok (.iconst 1, 1) := by decide +kernel
theorem d_Model_ofTriplets_353 : decode prog_9_method_39_code 353 = .ok (.goto 4, 3) := by decide +kernel
theorem d_Model_ofTriplets_356 : decode prog_9_method_39_code 356 = .ok (.iconst 0, 1) := by decide +kernel
theorem d_Model_ofTriplets_357 : decode prog_9_method_39_code 357 = .ok (.bipush 23, 2) := by decide +kernel
theorem d_Model_ofTriplets_359 : decode prog_9_method_39_code 359 = .ok (.invokevirtual 187, 3) := by decide +kernel
theorem d_Model_ofTriplets_362 : decode prog_9_method_39_code 362 = .ok (.lor, 1) := by decide +kernel
theorem d_Model_ofTriplets_363 : decode prog_9_method_39_code 363 = .ok (.aload_n 0, 1) := by decide +kernel
theorem d_Model_ofTriplets_364 : decode prog_9_method_39_code 364 = .ok (.iload_n 1, 1) := by decide +kernel
theorem d_Model_ofTriplets_365 : decode prog_9_method_39_code 365 = .ok (.iconst 4, 1) := by decide +kernel
theorem d_Model_ofTriplets_366 : decode prog_9_method_39_code 366 = .ok (.if_icmp .ne 7, 3) := by decide +kernel
theorem d_Model_ofTriplets_369 : decode prog_9_method_39_code 369 = .ok (.iconst 1, 1) := by decide +kernel
theorem d_Model_ofTriplets_370 : decode prog_9_method_39_code 370 = .ok (.goto 4, 3) := by decide +kernel
theorem d_Model_ofTriplets_373 : decode prog_9_method_39_code 373 = .ok (.iconst 0, 1) := by decide +kernel
theorem d_Model_ofTriplets_374 : decode prog_9_method_39_code 374 = .ok (.bipush 32, 2) := by decide +kernel
theorem d_Model_ofTriplets_376 : decode prog_9_method_39_code 376 = .ok (.invokevirtual 187, 3) := by decide +kernel
theorem d_Model_ofTriplets_379 : decode prog_9_method_39_code 379 = .ok (.lor, 1) := by decide +kernel
theorem d_Model_ofTriplets_380 : decode prog_9_method_39_code 380 = .ok (.aload_n 0, 1) := by decide +kernel
theorem d_Model_ofTriplets_381 : decode prog_9_method_39_code 381 = .ok (.iload_n 2, 1) := by decide +kernel
theorem d_Model_ofTriplets_382 : decode prog_9_method_39_code 382 = .ok (.iconst 4, 1) := by decide +kernel
theorem d_Model_ofTriplets_383 : decode prog_9_method_39_code 383 = .ok (.if_icmp .ne 7, 3) := by decide +kernel
theorem d_Model_ofTriplets_386 : decode prog_9_method_39_code 386 = .ok (.iconst 1, 1) := by decide +kernel
theorem d_Model_ofTriplets_387 : decode prog_9_method_39_code 387 = .ok (.goto 4, 3) := by decide +kernel
theorem d_Model_ofTriplets_390 : decode prog_9_method_39_code 390 = .ok (.iconst 0, 1) := by decide +kernel
theorem d_Model_ofTriplets_391 : decode prog_9_method_39_code 391 = .ok (.bipush 33, 2) := by decide +kernel
theorem d_Model_ofTriplets_393 : decode prog_9_method_39_code 393 = .ok (.invokevirtual 187, 3) := by decide +kernel
theorem d_Model_ofTriplets_396 : decode prog_9_method_39_code 396 = .ok (.lor, 1) := by decide +kernel
theorem d_Model_ofTriplets_397 : decode prog_9_method_39_code 397 = .ok (.aload_n 0, 1) := by decide +kernel
theorem d_Model_ofTriplets_398 : decode prog_9_method_39_code 398 = .ok (.iload_n 3, 1) := by decide +kernel
theorem d_Model_ofTriplets_399 : decode prog_9_method_39_code 399 = .ok (.iconst 3, 1) := by decide +kernel
theorem d_Model_ofTriplets_400 : decode prog_9_method_39_code 400 = .ok (.if_icmp .ne 7, 3) := by decide +kernel
theorem d_Model_ofTriplets_403 : decode prog_9_method_39_code 403 = .ok (.iconst 1, 1) := by decide +kernel
theorem d_Model_ofTriplets_404 : decode prog_9_method_39_code 404 = .ok (.goto 4, 3) := by decide +kernel
theorem d_Model_ofTriplets_407 : decode prog_9_method_39_code 407 = .ok (.iconst 0, 1) := by decide +kernel
theorem d_Model_ofTriplets_408 : decode prog_9_method_39_code 408 = .ok (.bipush 34, 2) := by decide +kernel
theorem d_Model_ofTriplets_410 : decode prog_9_method_39_code 410 = .ok (.invokevirtual 187, 3) := by decide +kernel
theorem d_Model_ofTriplets_413 : decode prog_9_method_39_code 413 = .ok (.lor, 1) := by decide +kernel
theorem d_Model_ofTriplets_414 : decode prog_9_method_39_code 414 = .ok (.lstore 5, 2) := by decide +kernel
theorem d_Model_ofTriplets_416 : decode prog_9_method_39_code 416 = .ok (.lload 5, 2) := by decide +kernel
theorem d_Model_ofTriplets_418 : decode prog_9_method_39_code 418 = .ok (.aload_n 0, 1) := by decide +kernel
theorem d_Model_ofTriplets_419 : decode prog_9_method_39_code 419 = .ok (.iload 4, 2) := by decide +kernel
theorem d_Model_ofTriplets_421 : decode prog_9_method_39_code 421 = .ok (.iconst 3, 1) := by decide +kernel
theorem d_Model_ofTriplets_422 : decode prog_9_method_39_code 422 = .ok (.if_icmp .ne 25, 3) := by decide +kernel
theorem d_Model_ofTriplets_425 : decode prog_9_method_39_code 425 = .ok (.aload_n 0, 1) := by decide +kernel
theorem d_Model_ofTriplets_426 : decode prog_9_method_39_code 426 = .ok (.getfield 137, 3) := by decide +kernel
theorem d_Model_ofTriplets_429 : decode prog_9_method_39_code 429 = .ok (.bipush 27, 2) := by decide +kernel
theorem d_Model_ofTriplets_431 : decode prog_9_method_39_code 431 = .ok (.if_icmp .lt 16, 3) := by decide +kernel
theorem d_Model_ofTriplets_434 : decode prog_9_method_39_code 434 = .ok (.aload_n 0, 1) := by decide +kernel
theorem d_Model_ofTriplets_435 : decode prog_9_method_39_code 435 = .ok (.getfield 137, 3) := by decide +kernel
theorem d_Model_ofTriplets_438 : decode prog_9_method_39_code 438 = .ok (.bipush 30, 2) := by decide +kernel
theorem d_Model_ofTriplets_440 : decode prog_9_method_39_code 440 = .ok (.if_icmp .gt 7, 3) := by decide +kernel
theorem d_Model_ofTriplets_443 : decode prog_9_method_39_code 443 = .ok (.iconst 1, 1) := by decide +kernel
theorem d_Model_ofTriplets_444 : decode prog_9_method_39_code 444 = .ok (.goto 4, 3) := by decide +kernel
theorem d_Model_ofTriplets_447 : decode prog_9_method_39_code 447 = .ok (.iconst 0, 1) := by decide +kernel
theorem d_Model_ofTriplets_448 : decode prog_9_method_39_code 448 = .ok (.bipush 35, 2) := by decide +kernel
theorem d_Model_ofTriplets_450 : decode prog_9_method_39_code 450 = .ok (.invokevirtual 187, 3) := by decide +kernel
theorem d_Model_ofTriplets_453 : decode prog_9_method_39_code 453 = .ok (.lor, 1) := by decide +kernel
theorem d_Model_ofTriplets_454 : decode prog_9_method_39_code 454 = .ok (.aload_n 0, 1) := by decide +kernel
theorem d_Model_ofTriplets_455 : decode prog_9_method_39_code 455 = .ok (.iload 4, 2) := by decide +kernel
theorem d_Model_ofTriplets_457 : decode prog_9_method_39_code 457 = .ok (.iconst 4, 1) := by decide +kernel
theorem d_Model_ofTriplets_458 : decode prog_9_method_39_code 458 = .ok (.if_icmp .ne 7, 3) := by decide +kernel
theorem d_Model_ofTriplets_461 : decode prog_9_method_39_code 461 = .ok (.iconst 1, 1) := by decide +kernel
theorem d_Model_ofTriplets_462 : decode prog_9_method_39_code 462 = .ok (.goto 4, 3) := by decide +kernel
theorem d_Model_ofTriplets_465 : decode prog_9_method_39_code 465 = .ok (.iconst 0, 1) := by decide +kernel
theorem d_Model_ofTriplets_466 : decode prog_9_method_39_code 466 = .ok (.bipush 36, 2) := by decide +kernel
theorem d_Model_ofTriplets_468 : decode prog_9_method_39_code 468 = .ok (.invokevirtual 187, 3) := by decide +kernel
theorem d_Model_ofTriplets_471 : decode prog_9_method_39_code 471 = .ok (.lor, 1) := by decide +kernel
theorem d_Model_ofTriplets_472 : decode prog_9_method_39_code 472 = .ok (.lreturn, 1) := by decide +kernel
theorem d_Model_fuOfSets_0 : decode prog_9_method_40_code 0 = .ok (.aload_n 0, 1) := by decide +kernel
theorem d_Model_fuOfSets_1 : decode prog_9_method_40_code 1 = .ok (.aload_n 0, 1) := by decide +kernel
theorem d_Model_fuOfSets_2 : decode prog_9_method_40_code 2 = .ok (.getfield 184, 3) := by decide +kernel
theorem d_Model_fuOfSets_5 : decode prog_9_method_40_code 5 = .ok (.invokevirtual 194, 3) := by decide +kernel
theorem d_Model_fuOfSets_8 : decode prog_9_method_40_code 8 = .ok (.istore_n 3, 1) := by decide +kernel
theorem d_Model_fuOfSets_9 : decode prog_9_method_40_code 9 = .ok (.aload_n 0, 1) := by decide +kernel
theorem d_Model_fuOfSets_10 : decode prog_9_method_40_code 10 = .ok (.getfield 191, 3) := by decide +kernel
theorem d_Model_fuOfSets_13 : decode prog_9_method_40_code 13 = .ok (.ifCond .eq 17, 3) := by decide +kernel
theorem d_Model_fuOfSets_16 : decode prog_9_method_40_code 16 = .ok (.lload_n 1, 1) := by decide +kernel
theorem d_Model_fuOfSets_17 : decode prog_9_method_40_code 17 = .ok (.bipush 8, 2) := by decide +kernel
theorem d_Model_fuOfSets_19 : decode prog_9_method_40_code 19 = .ok (.lshr, 1) := by decide +kernel
theorem d_Model_fuOfSets_20 : decode prog_9_method_40_code 20 = .ok (.lconst 1, 1) := by decide +kernel
theorem d_Model_fuOfSets_21 : decode prog_9_method_40_code 21 = .ok (.land, 1) := by decide +kernel
theorem d_Model_fuOfSets_22 : decode prog_9_method_40_code 22 = .ok (.lconst 1, 1) := by decide +kernel
theorem d_Model_fuOfSets_23 : decode prog_9_method_40_code 23 = .ok (.lcmp, 1) := by decide +kernel
theorem d_Model_fuOfSets_24 : decode prog_9_method_40_code 24 = .ok (.ifCond .ne 6, 3) := by decide +kernel
theorem d_Model_fuOfSets_27 : decode prog_9_method_40_code 27 = .ok (.bipush 20, 2) := by decide +kernel
theorem d_Model_fuOfSets_29 : decode prog_9_method_40_code 29 = .ok (.ireturn, 1) := by decide +kernel
theorem d_Model_fuOfSets_30 : decode prog_9_method_40_code 30 = .ok (.bipush 20, 2) := by decide +kernel
theorem d_Model_fuOfSets_32 : decode prog_9_method_40_code 32 = .ok (.iload_n 3, 1) := by decide +kernel
theorem d_Model_fuOfSets_33 : decode prog_9_method_40_code 33 = .ok (.ifCond .eq 15, 3) := by decide +kernel
theorem d_Model_fuOfSets_36 : decode prog_9_method_40_code 36 = .ok (.aload_n 0, 1) := by decide +kernel
theorem d_Model_fuOfSets_37 : decode prog_9_method_40_code 37 = .ok (.getfield 191, 3) := by decide +kernel
theorem d_Model_fuOfSets_40 : decode prog_9_method_40_code 40 = .ok (.ifCond .ne 8, 3) := by decide +kernel
theorem d_Model_fuOfSets_43 : decode prog_9_method_40_code 43 = .ok (.bipush 10, 2) := by decide +kernel
theorem d_Model_fuOfSets_45 : decode prog_9_method_40_code 45 = .ok (.goto 4, 3) := by decide +kernel
theorem d_Model_fuOfSets_48 : decode prog_9_method_40_code 48 = .ok (.iconst 0, 1) := by decide +kernel
theorem d_Model_fuOfSets_49 : decode prog_9_method_40_code 49 = .ok (.iadd, 1) := by decide +kernel
theorem d_Model_fuOfSets_50 : decode prog_9_method_40_code 50 = .ok (.aload_n 0, 1) := by decide +kernel
theorem d_Model_fuOfSets_51 : decode prog_9_method_40_code 51 = .ok (.getfield 191, 3) := by decide +kernel
theorem d_Model_fuOfSets_54 : decode prog_9_method_40_code 54 = .ok (.ifCond .eq 7, 3) := by decide +kernel
theorem d_Model_fuOfSets_57 : decode prog_9_method_40_code 57 = .ok (.iconst 2, 1) := by decide +kernel
theorem d_Model_fuOfSets_58 : decode prog_9_method_40_code 58 = .ok (.goto 4, 3) := by decide +kernel
theorem d_Model_fuOfSets_61 : decode prog_9_method_40_code 61 = .ok (.iconst 0, 1) := by decide +kernel
theorem d_Model_fuOfSets_62 : decode prog_9_method_40_code 62 = .ok (.iadd, 1) := by decide +kernel
theorem d_Model_fuOfSets_63 : decode prog_9_method_40_code 63 = .ok (.istore 4, 2) := by decide +kernel
theorem d_Model_fuOfSets_65 : decode prog_9_method_40_code 65 = .ok (.iload 4, 2) := by decide +kernel
theorem d_Model_fuOfSets_67 : decode prog_9_method_40_code 67 = .ok (.aload_n 0, 1) := by decide +kernel
theorem d_Model_fuOfSets_68 : decode prog_9_method_40_code 68 = .ok (.getfield 137, 3) := by decide +kernel
theorem d_Model_fuOfSets_71 : decode prog_9_method_40_code 71 = .ok (.bipush 31, 2) := by decide +kernel
theorem d_Model_fuOfSets_73 : decode prog_9_method_40_code 73 = .ok (.if_icmp .lt 7, 3) := by decide +kernel
theorem d_Model_fuOfSets_76 : decode prog_9_method_40_code 76 = .ok (.iconst 2, 1) := by decide +kernel
theorem d_Model_fuOfSets_77 : decode prog_9_method_40_code 77 = .ok (.goto 4, 3) := by decide +kernel
theorem d_Model_fuOfSets_80 : decode prog_9_method_40_code 80 = .ok (.iconst 0, 1) := by decide +kernel
theorem d_Model_fuOfSets_81 : decode prog_9_method_40_code 81 = .ok (.aload_n 0, 1) := by decide +kernel
theorem d_Model_fuOfSets_82 : decode prog_9_method_40_code 82 = .ok (.getfield 137, 3) := by decide +kernel
theorem d_Model_fuOfSets_85 : decode prog_9_method_40_code 85 = .ok (.aload_n 0, 1) := by decide +kernel
theorem d_Model_fuOfSets_86 : decode prog_9_method_40_code 86 = .ok (.invokevirtual 213, 3) := by decide +kernel
theorem d_Model_fuOfSets_89 : decode prog_9_method_40_code 89 = .ok (.if_icmp .ne 7, 3) := by decide +kernel
theorem d_Model_fuOfSets_92 : decode prog_9_method_40_code 92 = .ok (.iconst 2, 1) := by decide +kernel
theorem d_Model_fuOfSets_93 : decode prog_9_method_40_code 93 = .ok (.goto 4, 3) := by decide +kernel
theorem d_Model_fuOfSets_96 : decode prog_9_method_40_code 96 = .ok (.iconst 0, 1) := by decide +kernel
theorem d_Model_fuOfSets_97 : decode prog_9_method_40_code 97 = .ok (.iadd, 1) := by decide +kernel
theorem d_Model_fuOfSets_98 : decode prog_9_method_40_code 98 = .ok (.aload_n 0, 1) := by decide +kernel
theorem d_Model_fuOfSets_99 : decode prog_9_method_40_code 99 = .ok (.getfield 137, 3) := by decide +kernel
theorem d_Model_fuOfSets_102 : decode prog_9_method_40_code 102 = .ok (.bipush 27, 2) := by decide +kernel
theorem d_Model_fuOfSets_104 : decode prog_9_method_40_code 104 = .ok (.aload_n 0, 1) := by decide +kernel
theorem d_Model_fuOfSets_105 : decode prog_9_method_40_code 105 = .ok (.getfield 216, 3) := by decide +kernel
theorem d_Model_fuOfSets_108 : decode prog_9_method_40_code 108 = .ok (.iadd, 1) := by decide +kernel
theorem d_Model_fuOfSets_109 : decode prog_9_method_40_code 109 = .ok (.if_icmp .ne 7, 3) := by decide +kernel
theorem d_Model_fuOfSets_112 : decode prog_9_method_40_code 112 = .ok (.iconst 2, 1) := by decide +kernel
theorem d_Model_fuOfSets_113 : decode prog_9_method_40_code 113 = .ok (.goto 4, 3) := by decide +kernel
theorem d_Model_fuOfSets_116 : decode prog_9_method_40_code 116 = .ok (.iconst 0, 1) := by decide +kernel
theorem d_Model_fuOfSets_117 : decode prog_9_method_40_code 117 = .ok (.iadd, 1) := by decide +kernel
theorem d_Model_fuOfSets_118 : decode prog_9_method_40_code 118 = .ok (.iadd, 1) := by decide +kernel
theorem d_Model_fuOfSets_119 : decode prog_9_method_40_code 119 = .ok (.istore 4, 2) := by decide +kernel
theorem d_Model_fuOfSets_121 : decode prog_9_method_40_code 121 = .ok (.aload_n 0, 1) := by decide +kernel
theorem d_Model_fuOfSets_122 : decode prog_9_method_40_code 122 = .ok (.getfield 210, 3) := by decide +kernel
theorem d_Model_fuOfSets_125 : decode prog_9_method_40_code 125 = .ok (.ifCond .ge 9, 3) := by decide +kernel
theorem d_Model_fuOfSets_128 : decode prog_9_method_40_code 128 = .ok (.iinc 4 2, 3) := by decide +kernel
theorem d_Model_fuOfSets_131 : decode prog_9_method_40_code 131 = .ok (.goto 85, 3) := by decide +kernel
theorem d_Model_fuOfSets_134 : decode prog_9_method_40_code 134 = .ok (.aload_n 0, 1) := by decide +kernel
theorem d_Model_fuOfSets_135 : decode prog_9_method_40_code 135 = .ok (.getfield 72, 3) := by decide +kernel
theorem d_Model_fuOfSets_138 : decode prog_9_method_40_code 138 = .ok (.aload_n 0, 1) := by decide +kernel
theorem d_Model_fuOfSets_139 : decode prog_9_method_40_code 139 = .ok (.getfield 210, 3) := by decide +kernel
theorem d_Model_fuOfSets_142 : decode prog_9_method_40_code 142 = .ok (.iaload, 1) := by decide +kernel
theorem d_Model_fuOfSets_143 : decode prog_9_method_40_code 143 = .ok (.ifCond .ne 73, 3) := by decide +kernel
theorem d_Model_fuOfSets_146 : decode prog_9_method_40_code 146 = .ok (.aload_n 0, 1) := by decide +kernel
theorem d_Model_fuOfSets_147 : decode prog_9_method_40_code 147 = .ok (.getfield 222, 3) := by decide +kernel
theorem d_Model_fuOfSets_150 : decode prog_9_method_40_code 150 = .ok (.aload_n 0, 1) := by decide +kernel
theorem d_Model_fuOfSets_151 : decode prog_9_method_40_code 151 = .ok (.getfield 69, 3) := by decide +kernel
theorem d_Model_fuOfSets_154 : decode prog_9_method_40_code 154 = .ok (.aload_n 0, 1) := by decide +kernel
theorem d_Model_fuOfSets_155 : decode prog_9_method_40_code 155 = .ok (.getfield 210, 3) := by decide +kernel
theorem d_Model_fuOfSets_158 : decode prog_9_method_40_code 158 = .ok (.iaload, 1) := by decide +kernel
theorem d_Model_fuOfSets_159 : decode prog_9_method_40_code 159 = .ok (.isub, 1) := by decide +kernel
theorem d_Model_fuOfSets_160 : decode prog_9_method_40_code 160 = .ok (.istore 5, 2) := by decide +kernel
theorem d_Model_fuOfSets_162 : decode prog_9_method_40_code 162 = .ok (.aload_n 0, 1) := by decide +kernel
theorem d_Model_fuOfSets_163 : decode prog_9_method_40_code 163 = .ok (.getfield 69, 3) := by decide +kernel
theorem d_Model_fuOfSets_166 : decode prog_9_method_40_code 166 = .ok (.aload_n 0, 1) := by decide +kernel
theorem d_Model_fuOfSets_167 : decode prog_9_method_40_code 167 = .ok (.getfield 210, 3) := by decide +kernel
theorem d_Model_fuOfSets_170 : decode prog_9_method_40_code 170 = .ok (.iaload, 1) := by decide +kernel
theorem d_Model_fuOfSets_171 : decode prog_9_method_40_code 171 = .ok (.invokestatic 147, 3) := by decide +kernel
theorem d_Model_fuOfSets_174 : decode prog_9_method_40_code 174 = .ok (.istore 6, 2) := by decide +kernel
theorem d_Model_fuOfSets_176 : decode prog_9_method_40_code 176 = .ok (.iload 4, 2) := by decide +kernel
theorem d_Model_fuOfSets_178 : decode prog_9_method_40_code 178 = .ok (.iload 5, 2) := by decide +kernel
theorem d_Model_fuOfSets_180 : decode prog_9_method_40_code 180 = .ok (.iconst 1, 1) := by decide +kernel
theorem d_Model_fuOfSets_181 : decode prog_9_method_40_code 181 = .ok (.if_icmp .eq 27, 3) := by decide +kernel
theorem d_Model_fuOfSets_184 : decode prog_9_method_40_code 184 = .ok (.iload 5, 2) := by decide +kernel
theorem d_Model_fuOfSets_186 : decode prog_9_method_40_code 186 = .ok (.iconst 2, 1) := by decide +kernel
theorem d_Model_fuOfSets_187 : decode prog_9_method_40_code 187 = .ok (.if_icmp .ne 9, 3) := by decide +kernel
theorem d_Model_fuOfSets_190 : decode prog_9_method_40_code 190 = .ok (.iload 6, 2) := by decide +kernel
theorem d_Model_fuOfSets_192 : decode prog_9_method_40_code 192 = .ok (.iconst 1, 1) := by decide +kernel
theorem d_Model_fuOfSets_193 : decode prog_9_method_40_code 193 = .ok (.if_icmp .eq 15, 3) := by decide +kernel
theorem d_Model_fuOfSets_196 : decode prog_9_method_40_code 196 = .ok (.iload 5, 2) := by decide +kernel
theorem d_Model_fuOfSets_198 : decode prog_9_method_40_code 198 = .ok (.ifCond .ne 14, 3) := by decide +kernel
theorem d_Model_fuOfSets_201 : decode prog_9_method_40_code 201 = .ok (.iload 6, 2) := by decide +kernel
theorem d_Model_fuOfSets_203 : decode prog_9_method_40_code 203 = .ok (.bipush 7, 2) := by decide +kernel
theorem d_Model_fuOfSets_205 : decode prog_9_method_40_code 205 = .ok (.if_icmp .ne 7, 3) := by decide +kernel
theorem d_Model_fuOfSets_208 : decode prog_9_method_40_code 208 = .ok (.iconst 2, 1) := by decide +kernel
theorem d_Model_fuOfSets_209 : decode prog_9_method_40_code 209 = .ok (.goto 4, 3) := by decide +kernel
theorem d_Model_fuOfSets_212 : decode prog_9_method_40_code 212 = .ok (.iconst 0, 1) := by decide +kernel
theorem d_Model_fuOfSets_213 : decode prog_9_method_40_code 213 = .ok (.iadd, 1) := by decide +kernel
theorem d_Model_fuOfSets_214 : decode prog_9_method_40_code 214 = .ok (.istore 4, 2) := by decide +kernel
theorem d_Model_fuOfSets_216 : decode prog_9_method_40_code 216 = .ok (.iconst 0, 1) := by decide +kernel
theorem d_Model_fuOfSets_217 : decode prog_9_method_40_code 217 = .ok (.istore 5, 2) := by decide +kernel
theorem d_Model_fuOfSets_219 : decode prog_9_method_40_code 219 = .ok (.iload 5, 2) := by decide +kernel
theorem d_Model_fuOfSets_221 : decode prog_9_method_40_code 221 = .ok (.iconst 4, 1) := by decide +kernel
theorem d_Model_fuOfSets_222 : decode prog_9_method_40_code 222 = .ok (.if_icmp .ge 88, 3) := by decide +kernel
theorem d_Model_fuOfSets_225 : decode prog_9_method_40_code 225 = .ok (.aload_n 0, 1) := by decide +kernel
theorem d_Model_fuOfSets_226 : decode prog_9_method_40_code 226 = .ok (.iload 5, 2) := by decide +kernel
theorem d_Model_fuOfSets_228 : decode prog_9_method_40_code 228 = .ok (.invokevirtual 234, 3) := by decide +kernel
theorem d_Model_fuOfSets_231 : decode prog_9_method_40_code 231 = .ok (.ifCond .eq 7, 3) := by decide +kernel
theorem d_Model_fuOfSets_234 : decode prog_9_method_40_code 234 = .ok (.iconst 4, 1) := by decide +kernel
theorem d_Model_fuOfSets_235 : decode prog_9_method_40_code 235 = .ok (.goto 4, 3) := by decide +kernel
theorem d_Model_fuOfSets_238 : decode prog_9_method_40_code 238 = .ok (.iconst 2, 1) := by decide +kernel
theorem d_Model_fuOfSets_239 : decode prog_9_method_40_code 239 = .ok (.istore 6, 2) := by decide +kernel
theorem d_Model_fuOfSets_241 : decode prog_9_method_40_code 241 = .ok (.aload_n 0, 1) := by decide +kernel
theorem d_Model_fuOfSets_242 : decode prog_9_method_40_code 242 = .ok (.getfield 69, 3) := by decide +kernel
theorem d_Model_fuOfSets_245 : decode prog_9_method_40_code 245 = .ok (.iload 5, 2) := by decide +kernel
theorem d_Model_fuOfSets_247 : decode prog_9_method_40_code 247 = .ok (.iaload, 1) := by decide +kernel
theorem d_Model_fuOfSets_248 : decode prog_9_method_40_code 248 = .ok (.invokestatic 133, 3) := by decide +kernel
theorem d_Model_fuOfSets_251 : decode prog_9_method_40_code 251 = .ok (.ifCond .eq 10, 3) := by decide +kernel
theorem d_Model_fuOfSets_254 : decode prog_9_method_40_code 254 = .ok (.iconst 2, 1) := by decide +kernel
theorem d_Model_fuOfSets_255 : decode prog_9_method_40_code 255 = .ok (.iload 6, 2) := by decide +kernel
theorem d_Model_fuOfSets_257 : decode prog_9_method_40_code 257 = .ok (.imul, 1) := by decide +kernel
theorem d_Model_fuOfSets_258 : decode prog_9_method_40_code 258 = .ok (.goto 5, 3) := by decide +kernel
theorem d_Model_fuOfSets_261 : decode prog_9_method_40_code 261 = .ok (.iload 6, 2) := by decide +kernel
theorem d_Model_fuOfSets_263 : decode prog_9_method_40_code 263 = .ok (.istore 6, 2) := by decide +kernel
theorem d_Model_fuOfSets_265 : decode prog_9_method_40_code 265 = .ok (.iload 4, 2) := by decide +kernel
theorem d_Model_fuOfSets_267 : decode prog_9_method_40_code 267 = .ok (.aload_n 0, 1) := by decide +kernel
theorem d_Model_fuOfSets_268 : decode prog_9_method_40_code 268 = .ok (.getfield 72, 3) := by decide +kernel
theorem d_Model_fuOfSets_271 : decode prog_9_method_40_code 271 = .ok (.iload 5, 2) := by decide +kernel
theorem d_Model_fuOfSets_273 : decode prog_9_method_40_code 273 = .ok (.iaload, 1) := by decide +kernel
theorem d_Model_fuOfSets_274 : decode prog_9_method_40_code 274 = .ok (.ifCond .ne 7, 3) := by decide +kernel
theorem d_Model_fuOfSets_277 : decode prog_9_method_40_code 277 = .ok (.iconst 0, 1) := by decide +kernel
theorem d_Model_fuOfSets_278 : decode prog_9_method_40_code 278 = .ok (.goto 23, 3) := by decide +kernel
theorem d_Model_fuOfSets_281 : decode prog_9_method_40_code 281 = .ok (.aload_n 0, 1) := by decide +kernel
theorem d_Model_fuOfSets_282 : decode prog_9_method_40_code 282 = .ok (.getfield 72, 3) := by decide +kernel
theorem d_Model_fuOfSets_285 : decode prog_9_method_40_code 285 = .ok (.iload 5, 2) := by decide +kernel
theorem d_Model_fuOfSets_287 : decode prog_9_method_40_code 287 = .ok (.iaload, 1) := by decide +kernel
theorem d_Model_fuOfSets_288 : decode prog_9_method_40_code 288 = .ok (.iconst 2, 1) := by decide +kernel
theorem d_Model_fuOfSets_289 : decode prog_9_method_40_code 289 = .ok (.if_icmp .ne 10, 3) := by decide +kernel
theorem d_Model_fuOfSets_292 : decode prog_9_method_40_code 292 = .ok (.iconst 4, 1) := by decide +kernel
theorem d_Model_fuOfSets_293 : decode prog_9_method_40_code 293 = .ok (.iload 6, 2) := by decide +kernel
theorem d_Model_fuOfSets_295 : decode prog_9_method_40_code 295 = .ok (.imul, 1) := by decide +kernel
theorem d_Model_fuOfSets_296 : decode prog_9_method_40_code 296 = .ok (.goto 5, 3) := by decide +kernel
theorem d_Model_fuOfSets_299 : decode prog_9_method_40_code 299 = .ok (.iload 6, 2) := by decide +kernel
theorem d_Model_fuOfSets_301 : decode prog_9_method_40_code 301 = .ok (.iadd, 1) := by decide +kernel
theorem d_Model_fuOfSets_302 : decode prog_9_method_40_code 302 = .ok (.istore 4, 2) := by decide +kernel
theorem d_Model_fuOfSets_304 : decode prog_9_method_40_code 304 = .ok (.iinc 5 1, 3) := by decide +kernel
theorem d_Model_fuOfSets_307 : decode prog_9_method_40_code 307 = .ok (.goto (-88), 3) := by decide +kernel
theorem d_Model_fuOfSets_310 : decode prog_9_method_40_code 310 = .ok (.iload 4, 2) := by decide +kernel
theorem d_Model_fuOfSets_312 : decode prog_9_method_40_code 312 = .ok (.bipush 9, 2) := by decide +kernel
theorem d_Model_fuOfSets_314 : decode prog_9_method_40_code 314 = .ok (.iadd, 1) := by decide +kernel
theorem d_Model_fuOfSets_315 : decode prog_9_method_40_code 315 = .ok (.bipush 10, 2) := by decide +kernel
theorem d_Model_fuOfSets_317 : decode prog_9_method_40_code 317 = .ok (.idiv, 1) := by decide +kernel
theorem d_Model_fuOfSets_318 : decode prog_9_method_40_code 318 = .ok (.bipush 10, 2) := by decide +kernel
theorem d_Model_fuOfSets_320 : decode prog_9_method_40_code 320 = .ok (.imul, 1) := by decide +kernel
theorem d_Model_fuOfSets_321 : decode prog_9_method_40_code 321 = .ok (.istore 4, 2) := by decide +kernel
theorem d_Model_fuOfSets_323 : decode prog_9_method_40_code 323 = .ok (.iload 4, 2) := by decide +kernel
theorem d_Model_fuOfSets_325 : decode prog_9_method_40_code 325 = .ok (.bipush 20, 2) := by decide +kernel
theorem d_Model_fuOfSets_327 : decode prog_9_method_40_code 327 = .ok (.if_icmp .ne 12, 3) := by decide +kernel
theorem d_Model_fuOfSets_330 : decode prog_9_method_40_code 330 = .ok (.iload_n 3, 1) := by decide +kernel
theorem d_Model_fuOfSets_331 : decode prog_9_method_40_code 331 = .ok (.ifCond .ne 8, 3) := by decide +kernel
theorem d_Model_fuOfSets_334 : decode prog_9_method_40_code 334 = .ok (.bipush 30, 2) := by decide +kernel
theorem d_Model_fuOfSets_336 : decode prog_9_method_40_code 336 = .ok (.goto 5, 3) := by decide +kernel
theorem d_Model_fuOfSets_339 : decode prog_9_method_40_code 339 = .ok (.iload 4, 2) := by decide +kernel
theorem d_Model_fuOfSets_341 : decode prog_9_method_40_code 341 = .ok (.ireturn, 1) := by decide +kernel
theorem d_Model_doraOf_0 : decode prog_9_method_41_code 0 = .ok (.iload_n 0, 1) := by decide +kernel
theorem d_Model_doraOf_1 : decode prog_9_method_41_code 1 = .ok (.bipush 27, 2) := by decide +kernel
theorem d_Model_doraOf_3 : decode prog_9_method_41_code 3 = .ok (.if_icmp .ge 20, 3) := by decide +kernel
theorem d_Model_doraOf_6 : decode prog_9_method_41_code 6 = .ok (.iload_n 0, 1) := by decide +kernel
theorem d_Model_doraOf_7 : decode prog_9_method_41_code 7 = .ok (.bipush 9, 2) := by decide +kernel
theorem d_Model_doraOf_9 : decode prog_9_method_41_code 9 = .ok (.idiv, 1) := by decide +kernel
theorem d_Model_doraOf_10 : decode prog_9_method_41_code 10 = .ok (.bipush 9, 2) := by decide +kernel
theorem d_Model_doraOf_12 : decode prog_9_method_41_code 12 = .ok (.imul, 1) := by decide +kernel
theorem d_Model_doraOf_13 : decode prog_9_method_41_code 13 = .ok (.iload_n 0, 1) := by decide +kernel
theorem d_Model_doraOf_14 : decode prog_9_method_41_code 14 = .ok (.iconst 1, 1) := by decide +kernel
theorem d_Model_doraOf_15 : decode prog_9_method_41_code 15 = .ok (.iadd, 1) := by decide +kernel
theorem d_Model_doraOf_16 : decode prog_9_method_41_code 16 = .ok (.bipush 9, 2) := by decide +kernel
theorem d_Model_doraOf_18 : decode prog_9_method_41_code 18 = .ok (.irem, 1) := by decide +kernel
theorem d_Model_doraOf_19 : decode prog_9_method_41_code 19 = .ok (.iadd, 1) := by decide +kernel
theorem d_Model_doraOf_20 : decode prog_9_method_41_code 20 = .ok (.goto 30, 3) := by decide +kernel
theorem d_Model_doraOf_23 : decode prog_9_method_41_code 23 = .ok (.iload_n 0, 1) := by decide +kernel
theorem d_Model_doraOf_24 : decode prog_9_method_41_code 24 = .ok (.bipush 31, 2) := by decide +kernel
theorem d_Model_doraOf_26 : decode prog_9_method_41_code 26 = .ok (.if_icmp .ge 15, 3) := by decide +kernel
theorem d_Model_doraOf_29 : decode prog_9_method_41_code 29 = .ok (.bipush 27, 2) := by decide +kernel
theorem d_Model_doraOf_31 : decode prog_9_method_41_code 31 = .ok (.iload_n 0, 1) := by decide +kernel
theorem d_Model_doraOf_32 : decode prog_9_method_41_code 32 = .ok (.bipush 26, 2) := by decide +kernel
theorem d_Model_doraOf_34 : decode prog_9_method_41_code 34 = .ok (.isub, 1) := by decide +kernel
theorem d_Model_doraOf_35 : decode prog_9_method_41_code 35 = .ok (.iconst 4, 1) := by decide +kernel
theorem d_Model_doraOf_36 : decode prog_9_method_41_code 36 = .ok (.irem, 1) := by decide +kernel
theorem d_Model_doraOf_37 : decode prog_9_method_41_code 37 = .ok (.iadd, 1) := by decide +kernel
theorem d_Model_doraOf_38 : decode prog_9_method_41_code 38 = .ok (.goto 12, 3) := by decide +kernel
theorem d_Model_doraOf_41 : decode prog_9_method_41_code 41 = .ok (.bipush 31, 2) := by decide +kernel
theorem d_Model_doraOf_43 : decode prog_9_method_41_code 43 = .ok (.iload_n 0, 1) := by decide +kernel
theorem d_Model_doraOf_44 : decode prog_9_method_41_code 44 = .ok (.bipush 30, 2) := by decide +kernel
theorem d_Model_doraOf_46 : decode prog_9_method_41_code 46 = .ok (.isub, 1) := by decide +kernel
theorem d_Model_doraOf_47 : decode prog_9_method_41_code 47 = .ok (.iconst 3, 1) := by decide +kernel
theorem d_Model_doraOf_48 : decode prog_9_method_41_code 48 = .ok (.irem, 1) := by decide +kernel
theorem d_Model_doraOf_49 : decode prog_9_method_41_code 49 = .ok (.iadd, 1) := by decide +kernel
theorem d_Model_doraOf_50 : decode prog_9_method_41_code 50 = .ok (.ireturn, 1) := by decide +kernel
theorem d_Model_doras_0 : decode prog_9_method_42_code 0 = .ok (.iconst 0, 1) := by decide +kernel
theorem d_Model_doras_1 : decode prog_9_method_42_code 1 = .ok (.istore_n 1, 1) := by decide +kernel
theorem d_Model_doras_2 : decode prog_9_method_42_code 2 = .ok (.iconst 0, 1) := by decide +kernel
theorem d_Model_doras_3 : decode prog_9_method_42_code 3 = .ok (.istore_n 2, 1) := by decide +kernel
theorem d_Model_doras_4 : decode prog_9_method_42_code 4 = .ok (.iload_n 2, 1) := by decide +kernel
theorem d_Model_doras_5 : decode prog_9_method_42_code 5 = .ok (.aload_n 0, 1) := by decide +kernel
theorem d_Model_doras_6 : decode prog_9_method_42_code 6 = .ok (.getfield 93, 3) := by decide +kernel
theorem d_Model_doras_9 : decode prog_9_method_42_code 9 = .ok (.if_icmp .gt 71, 3) := by decide +kernel
theorem d_Model_doras_12 : decode prog_9_method_42_code 12 = .ok (.iload_n 1, 1) := by decide +kernel
theorem d_Model_doras_13 : decode prog_9_method_42_code 13 = .ok (.aload_n 0, 1) := by decide +kernel
theorem d_Model_doras_14 : decode prog_9_method_42_code 14 = .ok (.getfield 63, 3) := by decide +kernel
theorem d_Model_doras_17 : decode prog_9_method_42_code 17 = .ok (.aload_n 0, 1) := by decide +kernel
theorem d_Model_doras_18 : decode prog_9_method_42_code 18 = .ok (.getfield 7, 3) := by decide +kernel
theorem d_Model_doras_21 : decode prog_9_method_42_code 21 = .ok (.sipush 131, 3) := by decide +kernel
theorem d_Model_doras_24 : decode prog_9_method_42_code 24 = .ok (.iconst 2, 1) := by decide +kernel
theorem d_Model_doras_25 : decode prog_9_method_42_code 25 = .ok (.iload_n 2, 1) := by decide +kernel
theorem d_Model_doras_26 : decode prog_9_method_42_code 26 = .ok (.imul, 1) := by decide +kernel
theorem d_Model_doras_27 : decode prog_9_method_42_code 27 = .ok (.isub, 1) := by decide +kernel
theorem d_Model_doras_28 : decode prog_9_method_42_code 28 = .ok (.iaload, 1) := by decide +kernel
theorem d_Model_doras_29 : decode prog_9_method_42_code 29 = .ok (.invokestatic 240, 3) := by decide +kernel
theorem d_Model_doras_32 : decode prog_9_method_42_code 32 = .ok (.iaload, 1) := by decide +kernel
theorem d_Model_doras_33 : decode prog_9_method_42_code 33 = .ok (.iadd, 1) := by decide +kernel
theorem d_Model_doras_34 : decode prog_9_method_42_code 34 = .ok (.istore_n 1, 1) := by decide +kernel
theorem d_Model_doras_35 : decode prog_9_method_42_code 35 = .ok (.iload_n 1, 1) := by decide +kernel
theorem d_Model_doras_36 : decode prog_9_method_42_code 36 = .ok (.aload_n 0, 1) := by decide +kernel
theorem d_Model_doras_37 : decode prog_9_method_42_code 37 = .ok (.getfield 34, 3) := by decide +kernel
theorem d_Model_doras_40 : decode prog_9_method_42_code 40 = .ok (.aload_n 0, 1) := by decide +kernel
theorem d_Model_doras_41 : decode prog_9_method_42_code 41 = .ok (.getfield 184, 3) := by decide +kernel
theorem d_Model_doras_44 : decode prog_9_method_42_code 44 = .ok (.iaload, 1) := by decide +kernel
theorem d_Model_doras_45 : decode prog_9_method_42_code 45 = .ok (.ifCond .le 26, 3) := by decide +kernel
theorem d_Model_doras_48 : decode prog_9_method_42_code 48 = .ok (.aload_n 0, 1) := by decide +kernel
theorem d_Model_doras_49 : decode prog_9_method_42_code 49 = .ok (.getfield 63, 3) := by decide +kernel
theorem d_Model_doras_52 : decode prog_9_method_42_code 52 = .ok (.aload_n 0, 1) := by decide +kernel
theorem d_Model_doras_53 : decode prog_9_method_42_code 53 = .ok (.getfield 7, 3) := by decide +kernel
theorem d_Model_doras_56 : decode prog_9_method_42_code 56 = .ok (.sipush 130, 3) := by decide +kernel
theorem d_Model_doras_59 : decode prog_9_method_42_code 59 = .ok (.iconst 2, 1) := by decide +kernel
theorem d_Model_doras_60 : decode prog_9_method_42_code 60 = .ok (.iload_n 2, 1) := by decide +kernel
theorem d_Model_doras_61 : decode prog_9_method_42_code 61 = .ok (.imul, 1) := by decide +kernel
theorem d_Model_doras_62 : decode prog_9_method_42_code 62 = .ok (.isub, 1) := by decide +kernel
theorem d_Model_doras_63 : decode prog_9_method_42_code 63 = .ok (.iaload, 1) := by decide +kernel
theorem d_Model_doras_64 : decode prog_9_method_42_code 64 = .ok (.invokestatic 240, 3) := by decide +kernel
theorem d_Model_doras_67 : decode prog_9_method_42_code 67 = .ok (.iaload, 1) := by decide +kernel
theorem d_Model_doras_68 : decode prog_9_method_42_code 68 = .ok (.goto 4, 3) := by decide +kernel
theorem d_Model_doras_71 : decode prog_9_method_42_code 71 = .ok (.iconst 0, 1) := by decide +kernel
theorem d_Model_doras_72 : decode prog_9_method_42_code 72 = .ok (.iadd, 1) := by decide +kernel
theorem d_Model_doras_73 : decode prog_9_method_42_code 73 = .ok (.istore_n 1, 1) := by decide +kernel
theorem d_Model_doras_74 : decode prog_9_method_42_code 74 = .ok (.iinc 2 1, 3) := by decide +kernel
theorem d_Model_doras_77 : decode prog_9_method_42_code 77 = .ok (.goto (-73), 3) := by decide +kernel
theorem d_Model_doras_80 : decode prog_9_method_42_code 80 = .ok (.iload_n 1, 1) := by decide +kernel
theorem d_Model_doras_81 : decode prog_9_method_42_code 81 = .ok (.ireturn, 1) := by decide +kernel
theorem d_Model_counted_0 : decode prog_9_method_43_code 0 = .ok (.lload_n 0, 1) := by decide +kernel
theorem d_Model_counted_1 : decode prog_9_method_43_code 1 = .ok (.bipush 30, 2) := by decide +kernel
theorem d_Model_counted_3 : decode prog_9_method_43_code 3 = .ok (.lshr, 1) := by decide +kernel
theorem d_Model_counted_4 : decode prog_9_method_43_code 4 = .ok (.lconst 0, 1) := by decide +kernel
theorem d_Model_counted_5 : decode prog_9_method_43_code 5 = .ok (.lcmp, 1) := by decide +kernel
theorem d_Model_counted_6 : decode prog_9_method_43_code 6 = .ok (.ifCond .eq 13, 3) := by decide +kernel
theorem d_Model_counted_9 : decode prog_9_method_43_code 9 = .ok (.lload_n 0, 1) := by decide +kernel
theorem d_Model_counted_10 : decode prog_9_method_43_code 10 = .ok (.bipush 30, 2) := by decide +kernel
theorem d_Model_counted_12 : decode prog_9_method_43_code 12 = .ok (.lshr, 1) := by decide +kernel
theorem d_Model_counted_13 : decode prog_9_method_43_code 13 = .ok (.bipush 30, 2) := by decide +kernel
theorem d_Model_counted_15 : decode prog_9_method_43_code 15 = .ok (.lshl, 1) := by decide +kernel
theorem d_Model_counted_16 : decode prog_9_method_43_code 16 = .ok (.goto 4, 3) := by decide +kernel
theorem d_Model_counted_19 : decode prog_9_method_43_code 19 = .ok (.lload_n 0, 1) := by decide +kernel
theorem d_Model_counted_20 : decode prog_9_method_43_code 20 = .ok (.lreturn, 1) := by decide +kernel
theorem d_Model_judge_0 : decode prog_9_method_44_code 0 = .ok (.lload_n 1, 1) := by decide +kernel
theorem d_Model_judge_1 : decode prog_9_method_44_code 1 = .ok (.invokestatic 243, 3) := by decide +kernel
theorem d_Model_judge_4 : decode prog_9_method_44_code 4 = .ok (.lstore 4, 2) := by decide +kernel
theorem d_Model_judge_6 : decode prog_9_method_44_code 6 = .ok (.lload 4, 2) := by decide +kernel
theorem d_Model_judge_8 : decode prog_9_method_44_code 8 = .ok (.lconst 0, 1) := by decide +kernel
theorem d_Model_judge_9 : decode prog_9_method_44_code 9 = .ok (.lcmp, 1) := by decide +kernel
theorem d_Model_judge_10 : decode prog_9_method_44_code 10 = .ok (.ifCond .ne 4, 3) := by decide +kernel
theorem d_Model_judge_13 : decode prog_9_method_44_code 13 = .ok (.return_, 1) := by decide +kernel
theorem d_Model_judge_14 : decode prog_9_method_44_code 14 = .ok (.lload 4, 2) := by decide +kernel
theorem d_Model_judge_16 : decode prog_9_method_44_code 16 = .ok (.bipush 30, 2) := by decide +kernel
theorem d_Model_judge_18 : decode prog_9_method_44_code 18 = .ok (.lshr, 1) := by decide +kernel
theorem d_Model_judge_19 : decode prog_9_method_44_code 19 = .ok (.lconst 0, 1) := by decide +kernel
theorem d_Model_judge_20 : decode prog_9_method_44_code 20 = .ok (.lcmp, 1) := by decide +kernel
theorem d_Model_judge_21 : decode prog_9_method_44_code 21 = .ok (.ifCond .eq 7, 3) := by decide +kernel
theorem d_Model_judge_24 : decode prog_9_method_44_code 24 = .ok (.iconst 1, 1) := by decide +kernel
theorem d_Model_judge_25 : decode prog_9_method_44_code 25 = .ok (.goto 4, 3) := by decide +kernel
theorem d_Model_judge_28 : decode prog_9_method_44_code 28 = .ok (.iconst 0, 1) := by decide +kernel
theorem d_Model_judge_29 : decode prog_9_method_44_code 29 = .ok (.istore 6, 2) := by decide +kernel
theorem d_Model_judge_31 : decode prog_9_method_44_code 31 = .ok (.iload 6, 2) := by decide +kernel
theorem d_Model_judge_33 : decode prog_9_method_44_code 33 = .ok (.ifCond .eq 8, 3) := by decide +kernel
theorem d_Model_judge_36 : decode prog_9_method_44_code 36 = .ok (.bipush 13, 2) := by decide +kernel
theorem d_Model_judge_38 : decode prog_9_method_44_code 38 = .ok (.goto 7, 3) := by decide +kernel
theorem d_Model_judge_41 : decode prog_9_method_44_code 41 = .ok (.aload_n 0, 1) := by decide +kernel
theorem d_Model_judge_42 : decode prog_9_method_44_code 42 = .ok (.invokevirtual 247, 3) := by decide +kernel
theorem d_Model_judge_45 : decode prog_9_method_44_code 45 = .ok (.istore 7, 2) := by decide +kernel
theorem d_Model_judge_47 : decode prog_9_method_44_code 47 = .ok (.iconst 0, 1) := by decide +kernel
theorem d_Model_judge_48 : decode prog_9_method_44_code 48 = .ok (.istore 8, 2) := by decide +kernel
theorem d_Model_judge_50 : decode prog_9_method_44_code 50 = .ok (.iload 8, 2) := by decide +kernel
theorem d_Model_judge_52 : decode prog_9_method_44_code 52 = .ok (.bipush 30, 2) := by decide +kernel
theorem d_Model_judge_54 : decode prog_9_method_44_code 54 = .ok (.if_icmp .ge 48, 3) := by decide +kernel
theorem d_Model_judge_57 : decode prog_9_method_44_code 57 = .ok (.iload 6, 2) := by decide +kernel
theorem d_Model_judge_59 : decode prog_9_method_44_code 59 = .ok (.ifCond .ne 43, 3) := by decide +kernel
theorem d_Model_judge_62 : decode prog_9_method_44_code 62 = .ok (.iload 7, 2) := by decide +kernel
theorem d_Model_judge_64 : decode prog_9_method_44_code 64 = .ok (.lload 4, 2) := by decide +kernel
theorem d_Model_judge_66 : decode prog_9_method_44_code 66 = .ok (.iload 8, 2) := by decide +kernel
theorem d_Model_judge_68 : decode prog_9_method_44_code 68 = .ok (.lshr, 1) := by decide +kernel
theorem d_Model_judge_69 : decode prog_9_method_44_code 69 = .ok (.lconst 1, 1) := by decide +kernel
theorem d_Model_judge_70 : decode prog_9_method_44_code 70 = .ok (.land, 1) := by decide +kernel
theorem d_Model_judge_71 : decode prog_9_method_44_code 71 = .ok (.lconst 1, 1) := by decide +kernel
theorem d_Model_judge_72 : decode prog_9_method_44_code 72 = .ok (.lcmp, 1) := by decide +kernel
theorem d_Model_judge_73 : decode prog_9_method_44_code 73 = .ok (.ifCond .ne 19, 3) := by decide +kernel
theorem d_Model_judge_76 : decode prog_9_method_44_code 76 = .ok (.iload 8, 2) := by decide +kernel
theorem d_Model_judge_78 : decode prog_9_method_44_code 78 = .ok (.aload_n 0, 1) := by decide +kernel
theorem d_Model_judge_79 : decode prog_9_method_44_code 79 = .ok (.aload_n 0, 1) := by decide +kernel
theorem d_Model_judge_80 : decode prog_9_method_44_code 80 = .ok (.getfield 184, 3) := by decide +kernel
theorem d_Model_judge_83 : decode prog_9_method_44_code 83 = .ok (.invokevirtual 194, 3) := by decide +kernel
theorem d_Model_judge_86 : decode prog_9_method_44_code 86 = .ok (.invokestatic 250, 3) := by decide +kernel
theorem d_Model_judge_89 : decode prog_9_method_44_code 89 = .ok (.goto 4, 3) := by decide +kernel
theorem d_Model_judge_92 : decode prog_9_method_44_code 92 = .ok (.iconst 0, 1) := by decide +kernel
theorem d_Model_judge_93 : decode prog_9_method_44_code 93 = .ok (.iadd, 1) := by decide +kernel
theorem d_Model_judge_94 : decode prog_9_method_44_code 94 = .ok (.istore 7, 2) := by decide +kernel
theorem d_Model_judge_96 : decode prog_9_method_44_code 96 = .ok (.iinc 8 1, 3) := by decide +kernel
theorem d_Model_judge_99 : decode prog_9_method_44_code 99 = .ok (.goto (-49), 3) := by decide +kernel
theorem d_Model_judge_102 : decode prog_9_method_44_code 102 = .ok (.iload 7, 2) := by decide +kernel
theorem d_Model_judge_104 : decode prog_9_method_44_code 104 = .ok (.iload_n 3, 1) := by decide +kernel
theorem d_Model_judge_105 : decode prog_9_method_44_code 105 = .ok (.invokestatic 254, 3) := by decide +kernel
theorem d_Model_judge_108 : decode prog_9_method_44_code 108 = .ok (.istore 8, 2) := by decide +kernel
theorem d_Model_judge_110 : decode prog_9_method_44_code 110 = .ok (.iload 8, 2) := by decide +kernel
theorem d_Model_judge_112 : decode prog_9_method_44_code 112 = .ok (.aload_n 0, 1) := by decide +kernel
theorem d_Model_judge_113 : decode prog_9_method_44_code 113 = .ok (.getfield 257, 3) := by decide +kernel
theorem d_Model_judge_116 : decode prog_9_method_44_code 116 = .ok (.if_icmp .eq 20, 3) := by decide +kernel
theorem d_Model_judge_119 : decode prog_9_method_44_code 119 = .ok (.iload 8, 2) := by decide +kernel
theorem d_Model_judge_121 : decode prog_9_method_44_code 121 = .ok (.aload_n 0, 1) := by decide +kernel
theorem d_Model_judge_122 : decode prog_9_method_44_code 122 = .ok (.getfield 257, 3) := by decide +kernel
theorem d_Model_judge_125 : decode prog_9_method_44_code 125 = .ok (.if_icmp .le 7, 3) := by decide +kernel
theorem d_Model_judge_128 : decode prog_9_method_44_code 128 = .ok (.iconst 1, 1) := by decide +kernel
theorem d_Model_judge_129 : decode prog_9_method_44_code 129 = .ok (.goto 72, 3) := by decide +kernel
theorem d_Model_judge_132 : decode prog_9_method_44_code 132 = .ok (.iconst 0, 1) := by decide +kernel
theorem d_Model_judge_133 : decode prog_9_method_44_code 133 = .ok (.goto 68, 3) := by decide +kernel
theorem d_Model_judge_136 : decode prog_9_method_44_code 136 = .ok (.iload 7, 2) := by decide +kernel
theorem d_Model_judge_138 : decode prog_9_method_44_code 138 = .ok (.aload_n 0, 1) := by decide +kernel
theorem d_Model_judge_139 : decode prog_9_method_44_code 139 = .ok (.getfield 260, 3) := by decide +kernel
theorem d_Model_judge_142 : decode prog_9_method_44_code 142 = .ok (.if_icmp .eq 20, 3) := by decide +kernel
theorem d_Model_judge_145 : decode prog_9_method_44_code 145 = .ok (.iload 7, 2) := by decide +kernel
theorem d_Model_judge_147 : decode prog_9_method_44_code 147 = .ok (.aload_n 0, 1) := by decide +kernel
theorem d_Model_judge_148 : decode prog_9_method_44_code 148 = .ok (.getfield 260, 3) := by decide +kernel
theorem d_Model_judge_151 : decode prog_9_method_44_code 151 = .ok (.if_icmp .le 7, 3) := by decide +kernel
theorem d_Model_judge_154 : decode prog_9_method_44_code 154 = .ok (.iconst 1, 1) := by decide +kernel
theorem d_Model_judge_155 : decode prog_9_method_44_code 155 = .ok (.goto 46, 3) := by decide +kernel
theorem d_Model_judge_158 : decode prog_9_method_44_code 158 = .ok (.iconst 0, 1) := by decide +kernel
theorem d_Model_judge_159 : decode prog_9_method_44_code 159 = .ok (.goto 42, 3) := by decide +kernel
theorem d_Model_judge_162 : decode prog_9_method_44_code 162 = .ok (.iload_n 3, 1) := by decide +kernel
theorem d_Model_judge_163 : decode prog_9_method_44_code 163 = .ok (.aload_n 0, 1) := by decide +kernel
theorem d_Model_judge_164 : decode prog_9_method_44_code 164 = .ok (.getfield 263, 3) := by decide +kernel
theorem d_Model_judge_167 : decode prog_9_method_44_code 167 = .ok (.if_icmp .eq 19, 3) := by decide +kernel
theorem d_Model_judge_170 : decode prog_9_method_44_code 170 = .ok (.iload_n 3, 1) := by decide +kernel
theorem d_Model_judge_171 : decode prog_9_method_44_code 171 = .ok (.aload_n 0, 1) := by decide +kernel
theorem d_Model_judge_172 : decode prog_9_method_44_code 172 = .ok (.getfield 263, 3) := by decide +kernel
theorem d_Model_judge_175 : decode prog_9_method_44_code 175 = .ok (.if_icmp .le 7, 3) := by decide +kernel
theorem d_Model_judge_178 : decode prog_9_method_44_code 178 = .ok (.iconst 1, 1) := by decide +kernel
theorem d_Model_judge_179 : decode prog_9_method_44_code 179 = .ok (.goto 22, 3) := by decide +kernel
theorem d_Model_judge_182 : decode prog_9_method_44_code 182 = .ok (.iconst 0, 1) := by decide +kernel
theorem d_Model_judge_183 : decode prog_9_method_44_code 183 = .ok (.goto 18, 3) := by decide +kernel
theorem d_Model_judge_186 : decode prog_9_method_44_code 186 = .ok (.lload 4, 2) := by decide +kernel
theorem d_Model_judge_188 : decode prog_9_method_44_code 188 = .ok (.aload_n 0, 1) := by decide +kernel
theorem d_Model_judge_189 : decode prog_9_method_44_code 189 = .ok (.getfield 266, 3) := by decide +kernel
theorem d_Model_judge_192 : decode prog_9_method_44_code 192 = .ok (.lcmp, 1) := by decide +kernel
theorem d_Model_judge_193 : decode prog_9_method_44_code 193 = .ok (.ifCond .le 7, 3) := by decide +kernel
theorem d_Model_judge_196 : decode prog_9_method_44_code 196 = .ok (.iconst 1, 1) := by decide +kernel
theorem d_Model_judge_197 : decode prog_9_method_44_code 197 = .ok (.goto 4, 3) := by decide +kernel
theorem d_Model_judge_200 : decode prog_9_method_44_code 200 = .ok (.iconst 0, 1) := by decide +kernel
theorem d_Model_judge_201 : decode prog_9_method_44_code 201 = .ok (.istore 9, 2) := by decide +kernel
theorem d_Model_judge_203 : decode prog_9_method_44_code 203 = .ok (.iload 9, 2) := by decide +kernel
theorem d_Model_judge_205 : decode prog_9_method_44_code 205 = .ok (.ifCond .eq 26, 3) := by decide +kernel
theorem d_Model_judge_208 : decode prog_9_method_44_code 208 = .ok (.aload_n 0, 1) := by decide +kernel
theorem d_Model_judge_209 : decode prog_9_method_44_code 209 = .ok (.iload 8, 2) := by decide +kernel
theorem d_Model_judge_211 : decode prog_9_method_44_code 211 = .ok (.putfield 257, 3) := by decide +kernel
theorem d_Model_judge_214 : decode prog_9_method_44_code 214 = .ok (.aload_n 0, 1) := by decide +kernel
theorem d_Model_judge_215 : decode prog_9_method_44_code 215 = .ok (.iload 7, 2) := by decide +kernel
theorem d_Model_judge_217 : decode prog_9_method_44_code 217 = .ok (.putfield 260, 3) := by decide +kernel
theorem d_Model_judge_220 : decode prog_9_method_44_code 220 = .ok (.aload_n 0, 1) := by decide +kernel
theorem d_Model_judge_221 : decode prog_9_method_44_code 221 = .ok (.iload_n 3, 1) := by decide +kernel
theorem d_Model_judge_222 : decode prog_9_method_44_code 222 = .ok (.putfield 263, 3) := by decide +kernel
theorem d_Model_judge_225 : decode prog_9_method_44_code 225 = .ok (.aload_n 0, 1) := by decide +kernel
theorem d_Model_judge_226 : decode prog_9_method_44_code 226 = .ok (.lload 4, 2) := by decide +kernel
theorem d_Model_judge_228 : decode prog_9_method_44_code 228 = .ok (.putfield 266, 3) := by decide +kernel
theorem d_Model_judge_231 : decode prog_9_method_44_code 231 = .ok (.return_, 1) := by decide +kernel
theorem d_Model_judgeSets_0 : decode prog_9_method_45_code 0 = .ok (.aload_n 0, 1) := by decide +kernel
theorem d_Model_judgeSets_1 : decode prog_9_method_45_code 1 = .ok (.getfield 184, 3) := by decide +kernel
theorem d_Model_judgeSets_4 : decode prog_9_method_45_code 4 = .ok (.istore_n 3, 1) := by decide +kernel
theorem d_Model_judgeSets_5 : decode prog_9_method_45_code 5 = .ok (.aload_n 0, 1) := by decide +kernel
theorem d_Model_judgeSets_6 : decode prog_9_method_45_code 6 = .ok (.aload_n 0, 1) := by decide +kernel
theorem d_Model_judgeSets_7 : decode prog_9_method_45_code 7 = .ok (.getfield 150, 3) := by decide +kernel
theorem d_Model_judgeSets_10 : decode prog_9_method_45_code 10 = .ok (.putfield 140, 3) := by decide +kernel
theorem d_Model_judgeSets_13 : decode prog_9_method_45_code 13 = .ok (.iconst 4, 1) := by decide +kernel
theorem d_Model_judgeSets_14 : decode prog_9_method_45_code 14 = .ok (.iload_n 3, 1) := by decide +kernel
theorem d_Model_judgeSets_15 : decode prog_9_method_45_code 15 = .ok (.imul, 1) := by decide +kernel
theorem d_Model_judgeSets_16 : decode prog_9_method_45_code 16 = .ok (.istore 4, 2) := by decide +kernel
theorem d_Model_judgeSets_18 : decode prog_9_method_45_code 18 = .ok (.iload 4, 2) := by decide +kernel
theorem d_Model_judgeSets_20 : decode prog_9_method_45_code 20 = .ok (.iconst 4, 1) := by decide +kernel
theorem d_Model_judgeSets_21 : decode prog_9_method_45_code 21 = .ok (.iload_n 3, 1) := by decide +kernel
theorem d_Model_judgeSets_22 : decode prog_9_method_45_code 22 = .ok (.imul, 1) := by decide +kernel
theorem d_Model_judgeSets_23 : decode prog_9_method_45_code 23 = .ok (.aload_n 0, 1) := by decide +kernel
theorem d_Model_judgeSets_24 : decode prog_9_method_45_code 24 = .ok (.getfield 19, 3) := by decide +kernel
theorem d_Model_judgeSets_27 : decode prog_9_method_45_code 27 = .ok (.iload_n 3, 1) := by decide +kernel
theorem d_Model_judgeSets_28 : decode prog_9_method_45_code 28 = .ok (.iaload, 1) := by decide +kernel
theorem d_Model_judgeSets_29 : decode prog_9_method_45_code 29 = .ok (.iadd, 1) := by decide +kernel
theorem d_Model_judgeSets_30 : decode prog_9_method_45_code 30 = .ok (.if_icmp .ge 77, 3) := by decide +kernel
theorem d_Model_judgeSets_33 : decode prog_9_method_45_code 33 = .ok (.aload_n 0, 1) := by decide +kernel
theorem d_Model_judgeSets_34 : decode prog_9_method_45_code 34 = .ok (.aload_n 0, 1) := by decide +kernel
theorem d_Model_judgeSets_35 : decode prog_9_method_45_code 35 = .ok (.getfield 25, 3) := by decide +kernel
theorem d_Model_judgeSets_38 : decode prog_9_method_45_code 38 = .ok (.iload 4, 2) := by decide +kernel
theorem d_Model_judgeSets_40 : decode prog_9_method_45_code 40 = .ok (.iaload, 1) := by decide +kernel
theorem d_Model_judgeSets_41 : decode prog_9_method_45_code 41 = .ok (.ifCond .ne 7, 3) := by decide +kernel
theorem d_Model_judgeSets_44 : decode prog_9_method_45_code 44 = .ok (.iconst 0, 1) := by decide +kernel
theorem d_Model_judgeSets_45 : decode prog_9_method_45_code 45 = .ok (.goto 19, 3) := by decide +kernel
theorem d_Model_judgeSets_48 : decode prog_9_method_45_code 48 = .ok (.aload_n 0, 1) := by decide +kernel
theorem d_Model_judgeSets_49 : decode prog_9_method_45_code 49 = .ok (.getfield 25, 3) := by decide +kernel
theorem d_Model_judgeSets_52 : decode prog_9_method_45_code 52 = .ok (.iload 4, 2) := by decide +kernel
theorem d_Model_judgeSets_54 : decode prog_9_method_45_code 54 = .ok (.iaload, 1) := by decide +kernel
theorem d_Model_judgeSets_55 : decode prog_9_method_45_code 55 = .ok (.iconst 1, 1) := by decide +kernel
theorem d_Model_judgeSets_56 : decode prog_9_method_45_code 56 = .ok (.if_icmp .ne 7, 3) := by decide +kernel
theorem d_Model_judgeSets_59 : decode prog_9_method_45_code 59 = .ok (.iconst 1, 1) := by decide +kernel
theorem d_Model_judgeSets_60 : decode prog_9_method_45_code 60 = .ok (.goto 4, 3) := by decide +kernel
theorem d_Model_judgeSets_63 : decode prog_9_method_45_code 63 = .ok (.iconst 2, 1) := by decide +kernel
theorem d_Model_judgeSets_64 : decode prog_9_method_45_code 64 = .ok (.aload_n 0, 1) := by decide +kernel
theorem d_Model_judgeSets_65 : decode prog_9_method_45_code 65 = .ok (.getfield 22, 3) := by decide +kernel
theorem d_Model_judgeSets_68 : decode prog_9_method_45_code 68 = .ok (.iload 4, 2) := by decide +kernel
theorem d_Model_judgeSets_70 : decode prog_9_method_45_code 70 = .ok (.iaload, 1) := by decide +kernel
theorem d_Model_judgeSets_71 : decode prog_9_method_45_code 71 = .ok (.invokevirtual 143, 3) := by decide +kernel
theorem d_Model_judgeSets_74 : decode prog_9_method_45_code 74 = .ok (.aload_n 0, 1) := by decide +kernel
theorem d_Model_judgeSets_75 : decode prog_9_method_45_code 75 = .ok (.getfield 75, 3) := by decide +kernel
theorem d_Model_judgeSets_78 : decode prog_9_method_45_code 78 = .ok (.aload_n 0, 1) := by decide +kernel
theorem d_Model_judgeSets_79 : decode prog_9_method_45_code 79 = .ok (.getfield 140, 3) := by decide +kernel
theorem d_Model_judgeSets_82 : decode prog_9_method_45_code 82 = .ok (.iconst 1, 1) := by decide +kernel
theorem d_Model_judgeSets_83 : decode prog_9_method_45_code 83 = .ok (.isub, 1) := by decide +kernel
theorem d_Model_judgeSets_84 : decode prog_9_method_45_code 84 = .ok (.aload_n 0, 1) := by decide +kernel
theorem d_Model_judgeSets_85 : decode prog_9_method_45_code 85 = .ok (.getfield 25, 3) := by decide +kernel
theorem d_Model_judgeSets_88 : decode prog_9_method_45_code 88 = .ok (.iload 4, 2) := by decide +kernel
theorem d_Model_judgeSets_90 : decode prog_9_method_45_code 90 = .ok (.iaload, 1) := by decide +kernel
theorem d_Model_judgeSets_91 : decode prog_9_method_45_code 91 = .ok (.iconst 3, 1) := by decide +kernel
theorem d_Model_judgeSets_92 : decode prog_9_method_45_code 92 = .ok (.if_icmp .eq 7, 3) := by decide +kernel
theorem d_Model_judgeSets_95 : decode prog_9_method_45_code 95 = .ok (.iconst 1, 1) := by decide +kernel
theorem d_Model_judgeSets_96 : decode prog_9_method_45_code 96 = .ok (.goto 4, 3) := by decide +kernel
theorem d_Model_judgeSets_99 : decode prog_9_method_45_code 99 = .ok (.iconst 0, 1) := by decide +kernel
theorem d_Model_judgeSets_100 : decode prog_9_method_45_code 100 = .ok (.bastore, 1) := by decide +kernel
theorem d_Model_judgeSets_101 : decode prog_9_method_45_code 101 = .ok (.iinc 4 1, 3) := by decide +kernel
theorem d_Model_judgeSets_104 : decode prog_9_method_45_code 104 = .ok (.goto (-86), 3) := by decide +kernel
theorem d_Model_judgeSets_107 : decode prog_9_method_45_code 107 = .ok (.aload_n 0, 1) := by decide +kernel
theorem d_Model_judgeSets_108 : decode prog_9_method_45_code 108 = .ok (.iconst (-1), 1) := by decide +kernel
theorem d_Model_judgeSets_109 : decode prog_9_method_45_code 109 = .ok (.putfield 210, 3) := by decide +kernel
theorem d_Model_judgeSets_112 : decode prog_9_method_45_code 112 = .ok (.aload_n 0, 1) := by decide +kernel
theorem d_Model_judgeSets_113 : decode prog_9_method_45_code 113 = .ok (.getfield 210, 3) := by decide +kernel
theorem d_Model_judgeSets_116 : decode prog_9_method_45_code 116 = .ok (.aload_n 0, 1) := by decide +kernel
theorem d_Model_judgeSets_117 : decode prog_9_method_45_code 117 = .ok (.getfield 150, 3) := by decide +kernel
theorem d_Model_judgeSets_120 : decode prog_9_method_45_code 120 = .ok (.if_icmp .ge 152, 3) := by decide +kernel
theorem d_Model_judgeSets_123 : decode prog_9_method_45_code 123 = .ok (.aload_n 0, 1) := by decide +kernel
theorem d_Model_judgeSets_124 : decode prog_9_method_45_code 124 = .ok (.getfield 210, 3) := by decide +kernel
theorem d_Model_judgeSets_127 : decode prog_9_method_45_code 127 = .ok (.ifCond .ge 22, 3) := by decide +kernel
theorem d_Model_judgeSets_130 : decode prog_9_method_45_code 130 = .ok (.aload_n 0, 1) := by decide +kernel
theorem d_Model_judgeSets_131 : decode prog_9_method_45_code 131 = .ok (.getfield 137, 3) := by decide +kernel
theorem d_Model_judgeSets_134 : decode prog_9_method_45_code 134 = .ok (.aload_n 0, 1) := by decide +kernel
theorem d_Model_judgeSets_135 : decode prog_9_method_45_code 135 = .ok (.getfield 222, 3) := by decide +kernel
theorem d_Model_judgeSets_138 : decode prog_9_method_45_code 138 = .ok (.if_icmp .ne 7, 3) := by decide +kernel
theorem d_Model_judgeSets_141 : decode prog_9_method_45_code 141 = .ok (.iconst 1, 1) := by decide +kernel
theorem d_Model_judgeSets_142 : decode prog_9_method_45_code 142 = .ok (.goto 82, 3) := by decide +kernel
theorem d_Model_judgeSets_145 : decode prog_9_method_45_code 145 = .ok (.iconst 0, 1) := by decide +kernel
theorem d_Model_judgeSets_146 : decode prog_9_method_45_code 146 = .ok (.goto 78, 3) := by decide +kernel
theorem d_Model_judgeSets_149 : decode prog_9_method_45_code 149 = .ok (.aload_n 0, 1) := by decide +kernel
theorem d_Model_judgeSets_150 : decode prog_9_method_45_code 150 = .ok (.getfield 72, 3) := by decide +kernel
theorem d_Model_judgeSets_153 : decode prog_9_method_45_code 153 = .ok (.aload_n 0, 1) := by decide +kernel
theorem d_Model_judgeSets_154 : decode prog_9_method_45_code 154 = .ok (.getfield 210, 3) := by decide +kernel
theorem d_Model_judgeSets_157 : decode prog_9_method_45_code 157 = .ok (.iaload, 1) := by decide +kernel
theorem d_Model_judgeSets_158 : decode prog_9_method_45_code 158 = .ok (.ifCond .ne 45, 3) := by decide +kernel
theorem d_Model_judgeSets_161 : decode prog_9_method_45_code 161 = .ok (.aload_n 0, 1) := by decide +kernel
theorem d_Model_judgeSets_162 : decode prog_9_method_45_code 162 = .ok (.getfield 222, 3) := by decide +kernel
theorem d_Model_judgeSets_165 : decode prog_9_method_45_code 165 = .ok (.aload_n 0, 1) := by decide +kernel
theorem d_Model_judgeSets_166 : decode prog_9_method_45_code 166 = .ok (.getfield 69, 3) := by decide +kernel
theorem d_Model_judgeSets_169 : decode prog_9_method_45_code 169 = .ok (.aload_n 0, 1) := by decide +kernel
theorem d_Model_judgeSets_170 : decode prog_9_method_45_code 170 = .ok (.getfield 210, 3) := by decide +kernel
theorem d_Model_judgeSets_173 : decode prog_9_method_45_code 173 = .ok (.iaload, 1) := by decide +kernel
theorem d_Model_judgeSets_174 : decode prog_9_method_45_code 174 = .ok (.if_icmp .lt 25, 3) := by decide +kernel
theorem d_Model_judgeSets_177 : decode prog_9_method_45_code 177 = .ok (.aload_n 0, 1) := by decide +kernel
theorem d_Model_judgeSets_178 : decode prog_9_method_45_code 178 = .ok (.getfield 222, 3) := by decide +kernel
theorem d_Model_judgeSets_181 : decode prog_9_method_45_code 181 = .ok (.aload_n 0, 1) := by decide +kernel
theorem d_Model_judgeSets_182 : decode prog_9_method_45_code 182 = .ok (.getfield 69, 3) := by decide +kernel
theorem d_Model_judgeSets_185 : decode prog_9_method_45_code 185 = .ok (.aload_n 0, 1) := by decide +kernel
theorem d_Model_judgeSets_186 : decode prog_9_method_45_code 186 = .ok (.getfield 210, 3) := by decide +kernel
theorem d_Model_judgeSets_189 : decode prog_9_method_45_code 189 = .ok (.iaload, 1) := by decide +kernel
