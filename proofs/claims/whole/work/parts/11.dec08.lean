theorem d_Model_discard_47 : decode prog_9_method_48_code 47 = .ok (.ifCond .le 17, 3) := by decide +kernel
theorem d_Model_discard_50 : decode prog_9_method_48_code 50 = .ok (.iload_n 2, 1) := by decide +kernel
theorem d_Model_discard_51 : decode prog_9_method_48_code 51 = .ok (.ifCond .ne 11, 3) := by decide +kernel
theorem d_Model_discard_54 : decode prog_9_method_48_code 54 = .ok (.iload_n 1, 1) := by decide +kernel
theorem d_Model_discard_55 : decode prog_9_method_48_code 55 = .ok (.aload_n 0, 1) := by decide +kernel
theorem d_Model_discard_56 : decode prog_9_method_48_code 56 = .ok (.getfield 116, 3) := by decide +kernel
theorem d_Model_discard_59 : decode prog_9_method_48_code 59 = .ok (.if_icmp .eq 5, 3) := by decide +kernel
theorem d_Model_discard_62 : decode prog_9_method_48_code 62 = .ok (.iconst (-1), 1) := by decide +kernel
theorem d_Model_discard_63 : decode prog_9_method_48_code 63 = .ok (.ireturn, 1) := by decide +kernel
theorem d_Model_discard_64 : decode prog_9_method_48_code 64 = .ok (.aload_n 0, 1) := by decide +kernel
theorem d_Model_discard_65 : decode prog_9_method_48_code 65 = .ok (.getfield 16, 3) := by decide +kernel
theorem d_Model_discard_68 : decode prog_9_method_48_code 68 = .ok (.bipush 34, 2) := by decide +kernel
theorem d_Model_discard_70 : decode prog_9_method_48_code 70 = .ok (.iload_n 3, 1) := by decide +kernel
theorem d_Model_discard_71 : decode prog_9_method_48_code 71 = .ok (.imul, 1) := by decide +kernel
theorem d_Model_discard_72 : decode prog_9_method_48_code 72 = .ok (.iload_n 1, 1) := by decide +kernel
theorem d_Model_discard_73 : decode prog_9_method_48_code 73 = .ok (.iadd, 1) := by decide +kernel
theorem d_Model_discard_74 : decode prog_9_method_48_code 74 = .ok (.dup2, 1) := by decide +kernel
theorem d_Model_discard_75 : decode prog_9_method_48_code 75 = .ok (.iaload, 1) := by decide +kernel
theorem d_Model_discard_76 : decode prog_9_method_48_code 76 = .ok (.iconst 1, 1) := by decide +kernel
theorem d_Model_discard_77 : decode prog_9_method_48_code 77 = .ok (.isub, 1) := by decide +kernel
theorem d_Model_discard_78 : decode prog_9_method_48_code 78 = .ok (.iastore, 1) := by decide +kernel
theorem d_Model_discard_79 : decode prog_9_method_48_code 79 = .ok (.iload_n 2, 1) := by decide +kernel
theorem d_Model_discard_80 : decode prog_9_method_48_code 80 = .ok (.ifCond .eq 65, 3) := by decide +kernel
theorem d_Model_discard_83 : decode prog_9_method_48_code 83 = .ok (.aload_n 0, 1) := by decide +kernel
theorem d_Model_discard_84 : decode prog_9_method_48_code 84 = .ok (.iload_n 3, 1) := by decide +kernel
theorem d_Model_discard_85 : decode prog_9_method_48_code 85 = .ok (.invokevirtual 194, 3) := by decide +kernel
theorem d_Model_discard_88 : decode prog_9_method_48_code 88 = .ok (.ifCond .eq 40, 3) := by decide +kernel
theorem d_Model_discard_91 : decode prog_9_method_48_code 91 = .ok (.aload_n 0, 1) := by decide +kernel
theorem d_Model_discard_92 : decode prog_9_method_48_code 92 = .ok (.getfield 13, 3) := by decide +kernel
theorem d_Model_discard_95 : decode prog_9_method_48_code 95 = .ok (.iload_n 3, 1) := by decide +kernel
theorem d_Model_discard_96 : decode prog_9_method_48_code 96 = .ok (.iaload, 1) := by decide +kernel
theorem d_Model_discard_97 : decode prog_9_method_48_code 97 = .ok (.sipush 1000, 3) := by decide +kernel
theorem d_Model_discard_100 : decode prog_9_method_48_code 100 = .ok (.if_icmp .lt 28, 3) := by decide +kernel
theorem d_Model_discard_103 : decode prog_9_method_48_code 103 = .ok (.aload_n 0, 1) := by decide +kernel
theorem d_Model_discard_104 : decode prog_9_method_48_code 104 = .ok (.invokevirtual 122, 3) := by decide +kernel
theorem d_Model_discard_107 : decode prog_9_method_48_code 107 = .ok (.iconst 4, 1) := by decide +kernel
theorem d_Model_discard_108 : decode prog_9_method_48_code 108 = .ok (.if_icmp .lt 20, 3) := by decide +kernel
theorem d_Model_discard_111 : decode prog_9_method_48_code 111 = .ok (.aload_n 0, 1) := by decide +kernel
theorem d_Model_discard_112 : decode prog_9_method_48_code 112 = .ok (.getfield 116, 3) := by decide +kernel
theorem d_Model_discard_115 : decode prog_9_method_48_code 115 = .ok (.ifCond .lt 13, 3) := by decide +kernel
theorem d_Model_discard_118 : decode prog_9_method_48_code 118 = .ok (.aload_n 0, 1) := by decide +kernel
theorem d_Model_discard_119 : decode prog_9_method_48_code 119 = .ok (.iload_n 3, 1) := by decide +kernel
theorem d_Model_discard_120 : decode prog_9_method_48_code 120 = .ok (.invokevirtual 177, 3) := by decide +kernel
theorem d_Model_discard_123 : decode prog_9_method_48_code 123 = .ok (.lconst 0, 1) := by decide +kernel
theorem d_Model_discard_124 : decode prog_9_method_48_code 124 = .ok (.lcmp, 1) := by decide +kernel
theorem d_Model_discard_125 : decode prog_9_method_48_code 125 = .ok (.ifCond .ne 20, 3) := by decide +kernel
theorem d_Model_discard_128 : decode prog_9_method_48_code 128 = .ok (.aload_n 0, 1) := by decide +kernel
theorem d_Model_discard_129 : decode prog_9_method_48_code 129 = .ok (.getfield 16, 3) := by decide +kernel
theorem d_Model_discard_132 : decode prog_9_method_48_code 132 = .ok (.bipush 34, 2) := by decide +kernel
theorem d_Model_discard_134 : decode prog_9_method_48_code 134 = .ok (.iload_n 3, 1) := by decide +kernel
theorem d_Model_discard_135 : decode prog_9_method_48_code 135 = .ok (.imul, 1) := by decide +kernel
theorem d_Model_discard_136 : decode prog_9_method_48_code 136 = .ok (.iload_n 1, 1) := by decide +kernel
theorem d_Model_discard_137 : decode prog_9_method_48_code 137 = .ok (.iadd, 1) := by decide +kernel
theorem d_Model_discard_138 : decode prog_9_method_48_code 138 = .ok (.dup2, 1) := by decide +kernel
theorem d_Model_discard_139 : decode prog_9_method_48_code 139 = .ok (.iaload, 1) := by decide +kernel
theorem d_Model_discard_140 : decode prog_9_method_48_code 140 = .ok (.iconst 1, 1) := by decide +kernel
theorem d_Model_discard_141 : decode prog_9_method_48_code 141 = .ok (.iadd, 1) := by decide +kernel
theorem d_Model_discard_142 : decode prog_9_method_48_code 142 = .ok (.iastore, 1) := by decide +kernel
theorem d_Model_discard_143 : decode prog_9_method_48_code 143 = .ok (.iconst (-1), 1) := by decide +kernel
theorem d_Model_discard_144 : decode prog_9_method_48_code 144 = .ok (.ireturn, 1) := by decide +kernel
theorem d_Model_discard_145 : decode prog_9_method_48_code 145 = .ok (.aload_n 0, 1) := by decide +kernel
theorem d_Model_discard_146 : decode prog_9_method_48_code 146 = .ok (.getfield 37, 3) := by decide +kernel
theorem d_Model_discard_149 : decode prog_9_method_48_code 149 = .ok (.iload_n 3, 1) := by decide +kernel
theorem d_Model_discard_150 : decode prog_9_method_48_code 150 = .ok (.iload_n 2, 1) := by decide +kernel
theorem d_Model_discard_151 : decode prog_9_method_48_code 151 = .ok (.bastore, 1) := by decide +kernel
theorem d_Model_discard_152 : decode prog_9_method_48_code 152 = .ok (.iload_n 2, 1) := by decide +kernel
theorem d_Model_discard_153 : decode prog_9_method_48_code 153 = .ok (.ifCond .eq 35, 3) := by decide +kernel
theorem d_Model_discard_156 : decode prog_9_method_48_code 156 = .ok (.aload_n 0, 1) := by decide +kernel
theorem d_Model_discard_157 : decode prog_9_method_48_code 157 = .ok (.getfield 34, 3) := by decide +kernel
theorem d_Model_discard_160 : decode prog_9_method_48_code 160 = .ok (.iload_n 3, 1) := by decide +kernel
theorem d_Model_discard_161 : decode prog_9_method_48_code 161 = .ok (.aload_n 0, 1) := by decide +kernel
theorem d_Model_discard_162 : decode prog_9_method_48_code 162 = .ok (.getfield 28, 3) := by decide +kernel
theorem d_Model_discard_165 : decode prog_9_method_48_code 165 = .ok (.iload_n 3, 1) := by decide +kernel
theorem d_Model_discard_166 : decode prog_9_method_48_code 166 = .ok (.iaload, 1) := by decide +kernel
theorem d_Model_discard_167 : decode prog_9_method_48_code 167 = .ok (.ifCond .ne 14, 3) := by decide +kernel
theorem d_Model_discard_170 : decode prog_9_method_48_code 170 = .ok (.aload_n 0, 1) := by decide +kernel
theorem d_Model_discard_171 : decode prog_9_method_48_code 171 = .ok (.getfield 102, 3) := by decide +kernel
theorem d_Model_discard_174 : decode prog_9_method_48_code 174 = .ok (.ifCond .ne 7, 3) := by decide +kernel
theorem d_Model_discard_177 : decode prog_9_method_48_code 177 = .ok (.iconst 2, 1) := by decide +kernel
theorem d_Model_discard_178 : decode prog_9_method_48_code 178 = .ok (.goto 4, 3) := by decide +kernel
theorem d_Model_discard_181 : decode prog_9_method_48_code 181 = .ok (.iconst 1, 1) := by decide +kernel
theorem d_Model_discard_182 : decode prog_9_method_48_code 182 = .ok (.iastore, 1) := by decide +kernel
theorem d_Model_discard_183 : decode prog_9_method_48_code 183 = .ok (.aload_n 0, 1) := by decide +kernel
theorem d_Model_discard_184 : decode prog_9_method_48_code 184 = .ok (.iload_n 3, 1) := by decide +kernel
theorem d_Model_discard_185 : decode prog_9_method_48_code 185 = .ok (.putfield 106, 3) := by decide +kernel
theorem d_Model_discard_188 : decode prog_9_method_48_code 188 = .ok (.aload_n 0, 1) := by decide +kernel
theorem d_Model_discard_189 : decode prog_9_method_48_code 189 = .ok (.getfield 31, 3) := by decide +kernel
theorem d_Model_discard_192 : decode prog_9_method_48_code 192 = .ok (.bipush 100, 2) := by decide +kernel
theorem d_Model_discard_194 : decode prog_9_method_48_code 194 = .ok (.iload_n 3, 1) := by decide +kernel
theorem d_Model_discard_195 : decode prog_9_method_48_code 195 = .ok (.imul, 1) := by decide +kernel
theorem d_Model_discard_196 : decode prog_9_method_48_code 196 = .ok (.aload_n 0, 1) := by decide +kernel
theorem d_Model_discard_197 : decode prog_9_method_48_code 197 = .ok (.getfield 28, 3) := by decide +kernel
theorem d_Model_discard_200 : decode prog_9_method_48_code 200 = .ok (.iload_n 3, 1) := by decide +kernel
theorem d_Model_discard_201 : decode prog_9_method_48_code 201 = .ok (.iaload, 1) := by decide +kernel
theorem d_Model_discard_202 : decode prog_9_method_48_code 202 = .ok (.iadd, 1) := by decide +kernel
theorem d_Model_discard_203 : decode prog_9_method_48_code 203 = .ok (.iload_n 1, 1) := by decide +kernel
theorem d_Model_discard_204 : decode prog_9_method_48_code 204 = .ok (.iastore, 1) := by decide +kernel
theorem d_Model_discard_205 : decode prog_9_method_48_code 205 = .ok (.aload_n 0, 1) := by decide +kernel
theorem d_Model_discard_206 : decode prog_9_method_48_code 206 = .ok (.getfield 28, 3) := by decide +kernel
theorem d_Model_discard_209 : decode prog_9_method_48_code 209 = .ok (.iload_n 3, 1) := by decide +kernel
theorem d_Model_discard_210 : decode prog_9_method_48_code 210 = .ok (.dup2, 1) := by decide +kernel
theorem d_Model_discard_211 : decode prog_9_method_48_code 211 = .ok (.iaload, 1) := by decide +kernel
theorem d_Model_discard_212 : decode prog_9_method_48_code 212 = .ok (.iconst 1, 1) := by decide +kernel
theorem d_Model_discard_213 : decode prog_9_method_48_code 213 = .ok (.iadd, 1) := by decide +kernel
theorem d_Model_discard_214 : decode prog_9_method_48_code 214 = .ok (.iastore, 1) := by decide +kernel
theorem d_Model_discard_215 : decode prog_9_method_48_code 215 = .ok (.aload_n 0, 1) := by decide +kernel
theorem d_Model_discard_216 : decode prog_9_method_48_code 216 = .ok (.iconst (-1), 1) := by decide +kernel
theorem d_Model_discard_217 : decode prog_9_method_48_code 217 = .ok (.putfield 116, 3) := by decide +kernel
theorem d_Model_discard_220 : decode prog_9_method_48_code 220 = .ok (.aload_n 0, 1) := by decide +kernel
theorem d_Model_discard_221 : decode prog_9_method_48_code 221 = .ok (.iload_n 1, 1) := by decide +kernel
theorem d_Model_discard_222 : decode prog_9_method_48_code 222 = .ok (.iconst 0, 1) := by decide +kernel
theorem d_Model_discard_223 : decode prog_9_method_48_code 223 = .ok (.invokevirtual 302, 3) := by decide +kernel
theorem d_Model_discard_226 : decode prog_9_method_48_code 226 = .ok (.aload_n 0, 1) := by decide +kernel
theorem d_Model_discard_227 : decode prog_9_method_48_code 227 = .ok (.getfield 90, 3) := by decide +kernel
theorem d_Model_discard_230 : decode prog_9_method_48_code 230 = .ok (.ireturn, 1) := by decide +kernel
theorem d_Model_options_0 : decode prog_9_method_52_code 0 = .ok (.iload_n 1, 1) := by decide +kernel
theorem d_Model_options_1 : decode prog_9_method_52_code 1 = .ok (.ifCond .lt 8, 3) := by decide +kernel
theorem d_Model_options_4 : decode prog_9_method_52_code 4 = .ok (.iload_n 1, 1) := by decide +kernel
theorem d_Model_options_5 : decode prog_9_method_52_code 5 = .ok (.iconst 3, 1) := by decide +kernel
theorem d_Model_options_6 : decode prog_9_method_52_code 6 = .ok (.if_icmp .le 7, 3) := by decide +kernel
theorem d_Model_options_9 : decode prog_9_method_52_code 9 = .ok (.iconst (-1), 1) := by decide +kernel
theorem d_Model_options_10 : decode prog_9_method_52_code 10 = .ok (.goto 21, 3) := by decide +kernel
theorem d_Model_options_13 : decode prog_9_method_52_code 13 = .ok (.aload_n 0, 1) := by decide +kernel
theorem d_Model_options_14 : decode prog_9_method_52_code 14 = .ok (.getfield 90, 3) := by decide +kernel
theorem d_Model_options_17 : decode prog_9_method_52_code 17 = .ok (.iconst 2, 1) := by decide +kernel
theorem d_Model_options_18 : decode prog_9_method_52_code 18 = .ok (.if_icmp .ne 12, 3) := by decide +kernel
theorem d_Model_options_21 : decode prog_9_method_52_code 21 = .ok (.aload_n 0, 1) := by decide +kernel
theorem d_Model_options_22 : decode prog_9_method_52_code 22 = .ok (.getfield 44, 3) := by decide +kernel
theorem d_Model_options_25 : decode prog_9_method_52_code 25 = .ok (.iload_n 1, 1) := by decide +kernel
theorem d_Model_options_26 : decode prog_9_method_52_code 26 = .ok (.iaload, 1) := by decide +kernel
theorem d_Model_options_27 : decode prog_9_method_52_code 27 = .ok (.goto 4, 3) := by decide +kernel
theorem d_Model_options_30 : decode prog_9_method_52_code 30 = .ok (.iconst 0, 1) := by decide +kernel
theorem d_Model_options_31 : decode prog_9_method_52_code 31 = .ok (.ireturn, 1) := by decide +kernel
theorem d_Model_claim_0 : decode prog_9_method_53_code 0 = .ok (.aload_n 0, 1) := by decide +kernel
theorem d_Model_claim_1 : decode prog_9_method_53_code 1 = .ok (.getfield 90, 3) := by decide +kernel
theorem d_Model_claim_4 : decode prog_9_method_53_code 4 = .ok (.iconst 2, 1) := by decide +kernel
theorem d_Model_claim_5 : decode prog_9_method_53_code 5 = .ok (.if_icmp .ne 30, 3) := by decide +kernel
theorem d_Model_claim_8 : decode prog_9_method_53_code 8 = .ok (.iload_n 1, 1) := by decide +kernel
theorem d_Model_claim_9 : decode prog_9_method_53_code 9 = .ok (.ifCond .lt 26, 3) := by decide +kernel
theorem d_Model_claim_12 : decode prog_9_method_53_code 12 = .ok (.iload_n 1, 1) := by decide +kernel
theorem d_Model_claim_13 : decode prog_9_method_53_code 13 = .ok (.iconst 3, 1) := by decide +kernel
theorem d_Model_claim_14 : decode prog_9_method_53_code 14 = .ok (.if_icmp .gt 21, 3) := by decide +kernel
theorem d_Model_claim_17 : decode prog_9_method_53_code 17 = .ok (.aload_n 0, 1) := by decide +kernel
theorem d_Model_claim_18 : decode prog_9_method_53_code 18 = .ok (.getfield 44, 3) := by decide +kernel
theorem d_Model_claim_21 : decode prog_9_method_53_code 21 = .ok (.iload_n 1, 1) := by decide +kernel
theorem d_Model_claim_22 : decode prog_9_method_53_code 22 = .ok (.iaload, 1) := by decide +kernel
theorem d_Model_claim_23 : decode prog_9_method_53_code 23 = .ok (.ifCond .eq 12, 3) := by decide +kernel
theorem d_Model_claim_26 : decode prog_9_method_53_code 26 = .ok (.iload_n 2, 1) := by decide +kernel
theorem d_Model_claim_27 : decode prog_9_method_53_code 27 = .ok (.ifCond .lt 8, 3) := by decide +kernel
theorem d_Model_claim_30 : decode prog_9_method_53_code 30 = .ok (.iload_n 2, 1) := by decide +kernel
theorem d_Model_claim_31 : decode prog_9_method_53_code 31 = .ok (.iconst 4, 1) := by decide +kernel
theorem d_Model_claim_32 : decode prog_9_method_53_code 32 = .ok (.if_icmp .le 5, 3) := by decide +kernel
theorem d_Model_claim_35 : decode prog_9_method_53_code 35 = .ok (.iconst (-1), 1) := by decide +kernel
theorem d_Model_claim_36 : decode prog_9_method_53_code 36 = .ok (.ireturn, 1) := by decide +kernel
theorem d_Model_claim_37 : decode prog_9_method_53_code 37 = .ok (.iload_n 2, 1) := by decide +kernel
theorem d_Model_claim_38 : decode prog_9_method_53_code 38 = .ok (.ifCond .le 16, 3) := by decide +kernel
theorem d_Model_claim_41 : decode prog_9_method_53_code 41 = .ok (.aload_n 0, 1) := by decide +kernel
theorem d_Model_claim_42 : decode prog_9_method_53_code 42 = .ok (.getfield 44, 3) := by decide +kernel
theorem d_Model_claim_45 : decode prog_9_method_53_code 45 = .ok (.iload_n 1, 1) := by decide +kernel
theorem d_Model_claim_46 : decode prog_9_method_53_code 46 = .ok (.iaload, 1) := by decide +kernel
theorem d_Model_claim_47 : decode prog_9_method_53_code 47 = .ok (.iload_n 2, 1) := by decide +kernel
theorem d_Model_claim_48 : decode prog_9_method_53_code 48 = .ok (.ishr, 1) := by decide +kernel
theorem d_Model_claim_49 : decode prog_9_method_53_code 49 = .ok (.iconst 1, 1) := by decide +kernel
theorem d_Model_claim_50 : decode prog_9_method_53_code 50 = .ok (.iand, 1) := by decide +kernel
theorem d_Model_claim_51 : decode prog_9_method_53_code 51 = .ok (.ifCond .eq 21, 3) := by decide +kernel
theorem d_Model_claim_54 : decode prog_9_method_53_code 54 = .ok (.iload_n 2, 1) := by decide +kernel
theorem d_Model_claim_55 : decode prog_9_method_53_code 55 = .ok (.iconst 1, 1) := by decide +kernel
theorem d_Model_claim_56 : decode prog_9_method_53_code 56 = .ok (.if_icmp .ne 18, 3) := by decide +kernel
theorem d_Model_claim_59 : decode prog_9_method_53_code 59 = .ok (.aload_n 0, 1) := by decide +kernel
theorem d_Model_claim_60 : decode prog_9_method_53_code 60 = .ok (.iload_n 1, 1) := by decide +kernel
theorem d_Model_claim_61 : decode prog_9_method_53_code 61 = .ok (.aload_n 0, 1) := by decide +kernel
theorem d_Model_claim_62 : decode prog_9_method_53_code 62 = .ok (.getfield 309, 3) := by decide +kernel
theorem d_Model_claim_65 : decode prog_9_method_53_code 65 = .ok (.iload_n 3, 1) := by decide +kernel
theorem d_Model_claim_66 : decode prog_9_method_53_code 66 = .ok (.invokevirtual 306, 3) := by decide +kernel
theorem d_Model_claim_69 : decode prog_9_method_53_code 69 = .ok (.ifCond .ne 5, 3) := by decide +kernel
theorem d_Model_claim_72 : decode prog_9_method_53_code 72 = .ok (.iconst (-1), 1) := by decide +kernel
theorem d_Model_claim_73 : decode prog_9_method_53_code 73 = .ok (.ireturn, 1) := by decide +kernel
theorem d_Model_claim_74 : decode prog_9_method_53_code 74 = .ok (.aload_n 0, 1) := by decide +kernel
theorem d_Model_claim_75 : decode prog_9_method_53_code 75 = .ok (.getfield 44, 3) := by decide +kernel
theorem d_Model_claim_78 : decode prog_9_method_53_code 78 = .ok (.iload_n 1, 1) := by decide +kernel
theorem d_Model_claim_79 : decode prog_9_method_53_code 79 = .ok (.iconst 0, 1) := by decide +kernel
theorem d_Model_claim_80 : decode prog_9_method_53_code 80 = .ok (.iastore, 1) := by decide +kernel
theorem d_Model_claim_81 : decode prog_9_method_53_code 81 = .ok (.aload_n 0, 1) := by decide +kernel
theorem d_Model_claim_82 : decode prog_9_method_53_code 82 = .ok (.getfield 47, 3) := by decide +kernel
theorem d_Model_claim_85 : decode prog_9_method_53_code 85 = .ok (.iload_n 1, 1) := by decide +kernel
theorem d_Model_claim_86 : decode prog_9_method_53_code 86 = .ok (.iload_n 2, 1) := by decide +kernel
theorem d_Model_claim_87 : decode prog_9_method_53_code 87 = .ok (.iastore, 1) := by decide +kernel
theorem d_Model_claim_88 : decode prog_9_method_53_code 88 = .ok (.aload_n 0, 1) := by decide +kernel
theorem d_Model_claim_89 : decode prog_9_method_53_code 89 = .ok (.getfield 50, 3) := by decide +kernel
theorem d_Model_claim_92 : decode prog_9_method_53_code 92 = .ok (.iload_n 1, 1) := by decide +kernel
theorem d_Model_claim_93 : decode prog_9_method_53_code 93 = .ok (.iload_n 3, 1) := by decide +kernel
theorem d_Model_claim_94 : decode prog_9_method_53_code 94 = .ok (.iastore, 1) := by decide +kernel
theorem d_Model_claim_95 : decode prog_9_method_53_code 95 = .ok (.aload_n 0, 1) := by decide +kernel
theorem d_Model_claim_96 : decode prog_9_method_53_code 96 = .ok (.getfield 44, 3) := by decide +kernel
theorem d_Model_claim_99 : decode prog_9_method_53_code 99 = .ok (.iconst 0, 1) := by decide +kernel
theorem d_Model_claim_100 : decode prog_9_method_53_code 100 = .ok (.iaload, 1) := by decide +kernel
theorem d_Model_claim_101 : decode prog_9_method_53_code 101 = .ok (.aload_n 0, 1) := by decide +kernel
theorem d_Model_claim_102 : decode prog_9_method_53_code 102 = .ok (.getfield 44, 3) := by decide +kernel
theorem d_Model_claim_105 : decode prog_9_method_53_code 105 = .ok (.iconst 1, 1) := by decide +kernel
theorem d_Model_claim_106 : decode prog_9_method_53_code 106 = .ok (.iaload, 1) := by decide +kernel
theorem d_Model_claim_107 : decode prog_9_method_53_code 107 = .ok (.iadd, 1) := by decide +kernel
theorem d_Model_claim_108 : decode prog_9_method_53_code 108 = .ok (.aload_n 0, 1) := by decide +kernel
theorem d_Model_claim_109 : decode prog_9_method_53_code 109 = .ok (.getfield 44, 3) := by decide +kernel
theorem d_Model_claim_112 : decode prog_9_method_53_code 112 = .ok (.iconst 2, 1) := by decide +kernel
theorem d_Model_claim_113 : decode prog_9_method_53_code 113 = .ok (.iaload, 1) := by decide +kernel
theorem d_Model_claim_114 : decode prog_9_method_53_code 114 = .ok (.iadd, 1) := by decide +kernel
theorem d_Model_claim_115 : decode prog_9_method_53_code 115 = .ok (.aload_n 0, 1) := by decide +kernel
theorem d_Model_claim_116 : decode prog_9_method_53_code 116 = .ok (.getfield 44, 3) := by decide +kernel
theorem d_Model_claim_119 : decode prog_9_method_53_code 119 = .ok (.iconst 3, 1) := by decide +kernel
theorem d_Model_claim_120 : decode prog_9_method_53_code 120 = .ok (.iaload, 1) := by decide +kernel
theorem d_Model_claim_121 : decode prog_9_method_53_code 121 = .ok (.iadd, 1) := by decide +kernel
theorem d_Model_claim_122 : decode prog_9_method_53_code 122 = .ok (.ifCond .ne 7, 3) := by decide +kernel
theorem d_Model_claim_125 : decode prog_9_method_53_code 125 = .ok (.aload_n 0, 1) := by decide +kernel
theorem d_Model_claim_126 : decode prog_9_method_53_code 126 = .ok (.invokevirtual 328, 3) := by decide +kernel
theorem d_Model_claim_129 : decode prog_9_method_53_code 129 = .ok (.aload_n 0, 1) := by decide +kernel
theorem d_Model_claim_130 : decode prog_9_method_53_code 130 = .ok (.getfield 90, 3) := by decide +kernel
theorem d_Model_claim_133 : decode prog_9_method_53_code 133 = .ok (.ireturn, 1) := by decide +kernel
theorem d_Model_quad_0 : decode prog_9_method_63_code 0 = .ok (.aload_n 0, 1) := by decide +kernel
theorem d_Model_quad_1 : decode prog_9_method_63_code 1 = .ok (.invokevirtual 299, 3) := by decide +kernel
theorem d_Model_quad_4 : decode prog_9_method_63_code 4 = .ok (.ifCond .eq 48, 3) := by decide +kernel
theorem d_Model_quad_7 : decode prog_9_method_63_code 7 = .ok (.iload_n 1, 1) := by decide +kernel
theorem d_Model_quad_8 : decode prog_9_method_63_code 8 = .ok (.ifCond .lt 44, 3) := by decide +kernel
theorem d_Model_quad_11 : decode prog_9_method_63_code 11 = .ok (.iload_n 1, 1) := by decide +kernel
theorem d_Model_quad_12 : decode prog_9_method_63_code 12 = .ok (.bipush 33, 2) := by decide +kernel
theorem d_Model_quad_14 : decode prog_9_method_63_code 14 = .ok (.if_icmp .gt 38, 3) := by decide +kernel
theorem d_Model_quad_17 : decode prog_9_method_63_code 17 = .ok (.aload_n 0, 1) := by decide +kernel
theorem d_Model_quad_18 : decode prog_9_method_63_code 18 = .ok (.getfield 116, 3) := by decide +kernel
theorem d_Model_quad_21 : decode prog_9_method_63_code 21 = .ok (.ifCond .lt 31, 3) := by decide +kernel
theorem d_Model_quad_24 : decode prog_9_method_63_code 24 = .ok (.aload_n 0, 1) := by decide +kernel
theorem d_Model_quad_25 : decode prog_9_method_63_code 25 = .ok (.getfield 34, 3) := by decide +kernel
theorem d_Model_quad_28 : decode prog_9_method_63_code 28 = .ok (.aload_n 0, 1) := by decide +kernel
theorem d_Model_quad_29 : decode prog_9_method_63_code 29 = .ok (.getfield 113, 3) := by decide +kernel
theorem d_Model_quad_32 : decode prog_9_method_63_code 32 = .ok (.iaload, 1) := by decide +kernel
theorem d_Model_quad_33 : decode prog_9_method_63_code 33 = .ok (.ifCond .gt 19, 3) := by decide +kernel
theorem d_Model_quad_36 : decode prog_9_method_63_code 36 = .ok (.aload_n 0, 1) := by decide +kernel
theorem d_Model_quad_37 : decode prog_9_method_63_code 37 = .ok (.getfield 93, 3) := by decide +kernel
theorem d_Model_quad_40 : decode prog_9_method_63_code 40 = .ok (.iconst 4, 1) := by decide +kernel
theorem d_Model_quad_41 : decode prog_9_method_63_code 41 = .ok (.if_icmp .eq 11, 3) := by decide +kernel
theorem d_Model_quad_44 : decode prog_9_method_63_code 44 = .ok (.aload_n 0, 1) := by decide +kernel
theorem d_Model_quad_45 : decode prog_9_method_63_code 45 = .ok (.invokevirtual 122, 3) := by decide +kernel
theorem d_Model_quad_48 : decode prog_9_method_63_code 48 = .ok (.iconst 1, 1) := by decide +kernel
theorem d_Model_quad_49 : decode prog_9_method_63_code 49 = .ok (.if_icmp .ge 5, 3) := by decide +kernel
theorem d_Model_quad_52 : decode prog_9_method_63_code 52 = .ok (.iconst (-1), 1) := by decide +kernel
theorem d_Model_quad_53 : decode prog_9_method_63_code 53 = .ok (.ireturn, 1) := by decide +kernel
theorem d_Model_quad_54 : decode prog_9_method_63_code 54 = .ok (.aload_n 0, 1) := by decide +kernel
theorem d_Model_quad_55 : decode prog_9_method_63_code 55 = .ok (.getfield 16, 3) := by decide +kernel
theorem d_Model_quad_58 : decode prog_9_method_63_code 58 = .ok (.bipush 34, 2) := by decide +kernel
theorem d_Model_quad_60 : decode prog_9_method_63_code 60 = .ok (.aload_n 0, 1) := by decide +kernel
theorem d_Model_quad_61 : decode prog_9_method_63_code 61 = .ok (.getfield 113, 3) := by decide +kernel
theorem d_Model_quad_64 : decode prog_9_method_63_code 64 = .ok (.imul, 1) := by decide +kernel
theorem d_Model_quad_65 : decode prog_9_method_63_code 65 = .ok (.iload_n 1, 1) := by decide +kernel
theorem d_Model_quad_66 : decode prog_9_method_63_code 66 = .ok (.iadd, 1) := by decide +kernel
theorem d_Model_quad_67 : decode prog_9_method_63_code 67 = .ok (.iaload, 1) := by decide +kernel
theorem d_Model_quad_68 : decode prog_9_method_63_code 68 = .ok (.istore_n 2, 1) := by decide +kernel
theorem d_Model_quad_69 : decode prog_9_method_63_code 69 = .ok (.iload_n 2, 1) := by decide +kernel
theorem d_Model_quad_70 : decode prog_9_method_63_code 70 = .ok (.iconst 4, 1) := by decide +kernel
theorem d_Model_quad_71 : decode prog_9_method_63_code 71 = .ok (.if_icmp .ne 39, 3) := by decide +kernel
theorem d_Model_quad_74 : decode prog_9_method_63_code 74 = .ok (.aload_n 0, 1) := by decide +kernel
theorem d_Model_quad_75 : decode prog_9_method_63_code 75 = .ok (.getfield 16, 3) := by decide +kernel
theorem d_Model_quad_78 : decode prog_9_method_63_code 78 = .ok (.bipush 34, 2) := by decide +kernel
theorem d_Model_quad_80 : decode prog_9_method_63_code 80 = .ok (.aload_n 0, 1) := by decide +kernel
theorem d_Model_quad_81 : decode prog_9_method_63_code 81 = .ok (.getfield 113, 3) := by decide +kernel
theorem d_Model_quad_84 : decode prog_9_method_63_code 84 = .ok (.imul, 1) := by decide +kernel
theorem d_Model_quad_85 : decode prog_9_method_63_code 85 = .ok (.iload_n 1, 1) := by decide +kernel
theorem d_Model_quad_86 : decode prog_9_method_63_code 86 = .ok (.iadd, 1) := by decide +kernel
theorem d_Model_quad_87 : decode prog_9_method_63_code 87 = .ok (.iconst 0, 1) := by decide +kernel
theorem d_Model_quad_88 : decode prog_9_method_63_code 88 = .ok (.iastore, 1) := by decide +kernel
theorem d_Model_quad_89 : decode prog_9_method_63_code 89 = .ok (.aload_n 0, 1) := by decide +kernel
theorem d_Model_quad_90 : decode prog_9_method_63_code 90 = .ok (.aload_n 0, 1) := by decide +kernel
theorem d_Model_quad_91 : decode prog_9_method_63_code 91 = .ok (.getfield 113, 3) := by decide +kernel
theorem d_Model_quad_94 : decode prog_9_method_63_code 94 = .ok (.iconst 3, 1) := by decide +kernel
theorem d_Model_quad_95 : decode prog_9_method_63_code 95 = .ok (.iload_n 1, 1) := by decide +kernel
theorem d_Model_quad_96 : decode prog_9_method_63_code 96 = .ok (.invokevirtual 349, 3) := by decide +kernel
theorem d_Model_quad_99 : decode prog_9_method_63_code 99 = .ok (.aload_n 0, 1) := by decide +kernel
theorem d_Model_quad_100 : decode prog_9_method_63_code 100 = .ok (.aload_n 0, 1) := by decide +kernel
theorem d_Model_quad_101 : decode prog_9_method_63_code 101 = .ok (.getfield 113, 3) := by decide +kernel
theorem d_Model_quad_104 : decode prog_9_method_63_code 104 = .ok (.invokevirtual 356, 3) := by decide +kernel
theorem d_Model_quad_107 : decode prog_9_method_63_code 107 = .ok (.goto 53, 3) := by decide +kernel
theorem d_Model_quad_110 : decode prog_9_method_63_code 110 = .ok (.iload_n 2, 1) := by decide +kernel
theorem d_Model_quad_111 : decode prog_9_method_63_code 111 = .ok (.ifCond .le 47, 3) := by decide +kernel
theorem d_Model_quad_114 : decode prog_9_method_63_code 114 = .ok (.aload_n 0, 1) := by decide +kernel
theorem d_Model_quad_115 : decode prog_9_method_63_code 115 = .ok (.aload_n 0, 1) := by decide +kernel
theorem d_Model_quad_116 : decode prog_9_method_63_code 116 = .ok (.getfield 113, 3) := by decide +kernel
theorem d_Model_quad_119 : decode prog_9_method_63_code 119 = .ok (.iload_n 1, 1) := by decide +kernel
theorem d_Model_quad_120 : decode prog_9_method_63_code 120 = .ok (.invokevirtual 359, 3) := by decide +kernel
theorem d_Model_quad_123 : decode prog_9_method_63_code 123 = .ok (.ifCond .lt 35, 3) := by decide +kernel
theorem d_Model_quad_126 : decode prog_9_method_63_code 126 = .ok (.aload_n 0, 1) := by decide +kernel
theorem d_Model_quad_127 : decode prog_9_method_63_code 127 = .ok (.getfield 16, 3) := by decide +kernel
theorem d_Model_quad_130 : decode prog_9_method_63_code 130 = .ok (.bipush 34, 2) := by decide +kernel
theorem d_Model_quad_132 : decode prog_9_method_63_code 132 = .ok (.aload_n 0, 1) := by decide +kernel
theorem d_Model_quad_133 : decode prog_9_method_63_code 133 = .ok (.getfield 113, 3) := by decide +kernel
theorem d_Model_quad_136 : decode prog_9_method_63_code 136 = .ok (.imul, 1) := by decide +kernel
theorem d_Model_quad_137 : decode prog_9_method_63_code 137 = .ok (.iload_n 1, 1) := by decide +kernel
theorem d_Model_quad_138 : decode prog_9_method_63_code 138 = .ok (.iadd, 1) := by decide +kernel
theorem d_Model_quad_139 : decode prog_9_method_63_code 139 = .ok (.dup2, 1) := by decide +kernel
theorem d_Model_quad_140 : decode prog_9_method_63_code 140 = .ok (.iaload, 1) := by decide +kernel
theorem d_Model_quad_141 : decode prog_9_method_63_code 141 = .ok (.iconst 1, 1) := by decide +kernel
theorem d_Model_quad_142 : decode prog_9_method_63_code 142 = .ok (.isub, 1) := by decide +kernel
theorem d_Model_quad_143 : decode prog_9_method_63_code 143 = .ok (.iastore, 1) := by decide +kernel
theorem d_Model_quad_144 : decode prog_9_method_63_code 144 = .ok (.aload_n 0, 1) := by decide +kernel
theorem d_Model_quad_145 : decode prog_9_method_63_code 145 = .ok (.iconst (-1), 1) := by decide +kernel
theorem d_Model_quad_146 : decode prog_9_method_63_code 146 = .ok (.putfield 116, 3) := by decide +kernel
theorem d_Model_quad_149 : decode prog_9_method_63_code 149 = .ok (.aload_n 0, 1) := by decide +kernel
theorem d_Model_quad_150 : decode prog_9_method_63_code 150 = .ok (.iload_n 1, 1) := by decide +kernel
theorem d_Model_quad_151 : decode prog_9_method_63_code 151 = .ok (.iconst 1, 1) := by decide +kernel
theorem d_Model_quad_152 : decode prog_9_method_63_code 152 = .ok (.invokevirtual 302, 3) := by decide +kernel
theorem d_Model_quad_155 : decode prog_9_method_63_code 155 = .ok (.goto 5, 3) := by decide +kernel
theorem d_Model_quad_158 : decode prog_9_method_63_code 158 = .ok (.iconst (-1), 1) := by decide +kernel
theorem d_Model_quad_159 : decode prog_9_method_63_code 159 = .ok (.ireturn, 1) := by decide +kernel
theorem d_Model_quad_160 : decode prog_9_method_63_code 160 = .ok (.aload_n 0, 1) := by decide +kernel
theorem d_Model_quad_161 : decode prog_9_method_63_code 161 = .ok (.getfield 90, 3) := by decide +kernel
theorem d_Model_quad_164 : decode prog_9_method_63_code 164 = .ok (.ireturn, 1) := by decide +kernel
theorem d_Model_win_0 : decode prog_9_method_66_code 0 = .ok (.aload_n 0, 1) := by decide +kernel
theorem d_Model_win_1 : decode prog_9_method_66_code 1 = .ok (.invokevirtual 299, 3) := by decide +kernel
theorem d_Model_win_4 : decode prog_9_method_66_code 4 = .ok (.ifCond .eq 27, 3) := by decide +kernel
theorem d_Model_win_7 : decode prog_9_method_66_code 7 = .ok (.aload_n 0, 1) := by decide +kernel
theorem d_Model_win_8 : decode prog_9_method_66_code 8 = .ok (.getfield 116, 3) := by decide +kernel
theorem d_Model_win_11 : decode prog_9_method_66_code 11 = .ok (.ifCond .lt 20, 3) := by decide +kernel
theorem d_Model_win_14 : decode prog_9_method_66_code 14 = .ok (.aload_n 0, 1) := by decide +kernel
theorem d_Model_win_15 : decode prog_9_method_66_code 15 = .ok (.aload_n 0, 1) := by decide +kernel
theorem d_Model_win_16 : decode prog_9_method_66_code 16 = .ok (.getfield 113, 3) := by decide +kernel
theorem d_Model_win_19 : decode prog_9_method_66_code 19 = .ok (.aload_n 0, 1) := by decide +kernel
theorem d_Model_win_20 : decode prog_9_method_66_code 20 = .ok (.getfield 116, 3) := by decide +kernel
theorem d_Model_win_23 : decode prog_9_method_66_code 23 = .ok (.iconst 1, 1) := by decide +kernel
theorem d_Model_win_24 : decode prog_9_method_66_code 24 = .ok (.iconst 0, 1) := by decide +kernel
theorem d_Model_win_25 : decode prog_9_method_66_code 25 = .ok (.invokevirtual 315, 3) := by decide +kernel
theorem d_Model_win_28 : decode prog_9_method_66_code 28 = .ok (.ifCond .ne 5, 3) := by decide +kernel
theorem d_Model_win_31 : decode prog_9_method_66_code 31 = .ok (.iconst (-1), 1) := by decide +kernel
theorem d_Model_win_32 : decode prog_9_method_66_code 32 = .ok (.ireturn, 1) := by decide +kernel
theorem d_Model_win_33 : decode prog_9_method_66_code 33 = .ok (.sipush 1000, 3) := by decide +kernel
theorem d_Model_win_36 : decode prog_9_method_66_code 36 = .ok (.aload_n 0, 1) := by decide +kernel
theorem d_Model_win_37 : decode prog_9_method_66_code 37 = .ok (.getfield 346, 3) := by decide +kernel
theorem d_Model_win_40 : decode prog_9_method_66_code 40 = .ok (.imul, 1) := by decide +kernel
theorem d_Model_win_41 : decode prog_9_method_66_code 41 = .ok (.istore_n 1, 1) := by decide +kernel
theorem d_Model_win_42 : decode prog_9_method_66_code 42 = .ok (.iconst 0, 1) := by decide +kernel
theorem d_Model_win_43 : decode prog_9_method_66_code 43 = .ok (.istore_n 2, 1) := by decide +kernel
theorem d_Model_win_44 : decode prog_9_method_66_code 44 = .ok (.iload_n 2, 1) := by decide +kernel
theorem d_Model_win_45 : decode prog_9_method_66_code 45 = .ok (.iconst 4, 1) := by decide +kernel
theorem d_Model_win_46 : decode prog_9_method_66_code 46 = .ok (.if_icmp .ge 75, 3) := by decide +kernel
theorem d_Model_win_49 : decode prog_9_method_66_code 49 = .ok (.iload_n 2, 1) := by decide +kernel
theorem d_Model_win_50 : decode prog_9_method_66_code 50 = .ok (.aload_n 0, 1) := by decide +kernel
theorem d_Model_win_51 : decode prog_9_method_66_code 51 = .ok (.getfield 113, 3) := by decide +kernel
theorem d_Model_win_54 : decode prog_9_method_66_code 54 = .ok (.if_icmp .eq 61, 3) := by decide +kernel
theorem d_Model_win_57 : decode prog_9_method_66_code 57 = .ok (.aload_n 0, 1) := by decide +kernel
theorem d_Model_win_58 : decode prog_9_method_66_code 58 = .ok (.getfield 113, 3) := by decide +kernel
theorem d_Model_win_61 : decode prog_9_method_66_code 61 = .ok (.aload_n 0, 1) := by decide +kernel
theorem d_Model_win_62 : decode prog_9_method_66_code 62 = .ok (.getfield 96, 3) := by decide +kernel
theorem d_Model_win_65 : decode prog_9_method_66_code 65 = .ok (.if_icmp .eq 11, 3) := by decide +kernel
theorem d_Model_win_68 : decode prog_9_method_66_code 68 = .ok (.iload_n 2, 1) := by decide +kernel
theorem d_Model_win_69 : decode prog_9_method_66_code 69 = .ok (.aload_n 0, 1) := by decide +kernel
theorem d_Model_win_70 : decode prog_9_method_66_code 70 = .ok (.getfield 96, 3) := by decide +kernel
theorem d_Model_win_73 : decode prog_9_method_66_code 73 = .ok (.if_icmp .ne 12, 3) := by decide +kernel
theorem d_Model_win_76 : decode prog_9_method_66_code 76 = .ok (.iconst 2, 1) := by decide +kernel
theorem d_Model_win_77 : decode prog_9_method_66_code 77 = .ok (.aload_n 0, 1) := by decide +kernel
theorem d_Model_win_78 : decode prog_9_method_66_code 78 = .ok (.getfield 257, 3) := by decide +kernel
theorem d_Model_win_81 : decode prog_9_method_66_code 81 = .ok (.imul, 1) := by decide +kernel
theorem d_Model_win_82 : decode prog_9_method_66_code 82 = .ok (.goto 7, 3) := by decide +kernel
theorem d_Model_win_85 : decode prog_9_method_66_code 85 = .ok (.aload_n 0, 1) := by decide +kernel
theorem d_Model_win_86 : decode prog_9_method_66_code 86 = .ok (.getfield 257, 3) := by decide +kernel
theorem d_Model_win_89 : decode prog_9_method_66_code 89 = .ok (.invokestatic 362, 3) := by decide +kernel
theorem d_Model_win_92 : decode prog_9_method_66_code 92 = .ok (.bipush 100, 2) := by decide +kernel
theorem d_Model_win_94 : decode prog_9_method_66_code 94 = .ok (.aload_n 0, 1) := by decide +kernel
theorem d_Model_win_95 : decode prog_9_method_66_code 95 = .ok (.getfield 365, 3) := by decide +kernel
theorem d_Model_win_98 : decode prog_9_method_66_code 98 = .ok (.imul, 1) := by decide +kernel
theorem d_Model_win_99 : decode prog_9_method_66_code 99 = .ok (.iadd, 1) := by decide +kernel
theorem d_Model_win_100 : decode prog_9_method_66_code 100 = .ok (.istore_n 3, 1) := by decide +kernel
theorem d_Model_win_101 : decode prog_9_method_66_code 101 = .ok (.aload_n 0, 1) := by decide +kernel
theorem d_Model_win_102 : decode prog_9_method_66_code 102 = .ok (.getfield 13, 3) := by decide +kernel
theorem d_Model_win_105 : decode prog_9_method_66_code 105 = .ok (.iload_n 2, 1) := by decide +kernel
theorem d_Model_win_106 : decode prog_9_method_66_code 106 = .ok (.dup2, 1) := by decide +kernel
theorem d_Model_win_107 : decode prog_9_method_66_code 107 = .ok (.iaload, 1) := by decide +kernel
theorem d_Model_win_108 : decode prog_9_method_66_code 108 = .ok (.iload_n 3, 1) := by decide +kernel
theorem d_Model_win_109 : decode prog_9_method_66_code 109 = .ok (.isub, 1) := by decide +kernel
theorem d_Model_win_110 : decode prog_9_method_66_code 110 = .ok (.iastore, 1) := by decide +kernel
theorem d_Model_win_111 : decode prog_9_method_66_code 111 = .ok (.iload_n 1, 1) := by decide +kernel
theorem d_Model_win_112 : decode prog_9_method_66_code 112 = .ok (.iload_n 3, 1) := by decide +kernel
theorem d_Model_win_113 : decode prog_9_method_66_code 113 = .ok (.iadd, 1) := by decide +kernel
theorem d_Model_win_114 : decode prog_9_method_66_code 114 = .ok (.istore_n 1, 1) := by decide +kernel
theorem d_Model_win_115 : decode prog_9_method_66_code 115 = .ok (.iinc 2 1, 3) := by decide +kernel
theorem d_Model_win_118 : decode prog_9_method_66_code 118 = .ok (.goto (-74), 3) := by decide +kernel
theorem d_Model_win_121 : decode prog_9_method_66_code 121 = .ok (.aload_n 0, 1) := by decide +kernel
theorem d_Model_win_122 : decode prog_9_method_66_code 122 = .ok (.iconst 0, 1) := by decide +kernel
theorem d_Model_win_123 : decode prog_9_method_66_code 123 = .ok (.putfield 346, 3) := by decide +kernel
theorem d_Model_win_126 : decode prog_9_method_66_code 126 = .ok (.aload_n 0, 1) := by decide +kernel
theorem d_Model_win_127 : decode prog_9_method_66_code 127 = .ok (.aload_n 0, 1) := by decide +kernel
theorem d_Model_win_128 : decode prog_9_method_66_code 128 = .ok (.getfield 113, 3) := by decide +kernel
theorem d_Model_win_131 : decode prog_9_method_66_code 131 = .ok (.iload_n 1, 1) := by decide +kernel
theorem d_Model_win_132 : decode prog_9_method_66_code 132 = .ok (.invokevirtual 368, 3) := by decide +kernel
theorem d_Model_win_135 : decode prog_9_method_66_code 135 = .ok (.aload_n 0, 1) := by decide +kernel
theorem d_Model_win_136 : decode prog_9_method_66_code 136 = .ok (.aload_n 0, 1) := by decide +kernel
theorem d_Model_win_137 : decode prog_9_method_66_code 137 = .ok (.getfield 113, 3) := by decide +kernel
theorem d_Model_win_140 : decode prog_9_method_66_code 140 = .ok (.aload_n 0, 1) := by decide +kernel
theorem d_Model_win_141 : decode prog_9_method_66_code 141 = .ok (.getfield 96, 3) := by decide +kernel
theorem d_Model_win_144 : decode prog_9_method_66_code 144 = .ok (.if_icmp .ne 7, 3) := by decide +kernel
theorem d_Model_win_147 : decode prog_9_method_66_code 147 = .ok (.iconst 1, 1) := by decide +kernel
theorem d_Model_win_148 : decode prog_9_method_66_code 148 = .ok (.goto 4, 3) := by decide +kernel
theorem d_Model_win_151 : decode prog_9_method_66_code 151 = .ok (.iconst 0, 1) := by decide +kernel
theorem d_Model_win_152 : decode prog_9_method_66_code 152 = .ok (.aload_n 0, 1) := by decide +kernel
theorem d_Model_win_153 : decode prog_9_method_66_code 153 = .ok (.getfield 113, 3) := by decide +kernel
theorem d_Model_win_156 : decode prog_9_method_66_code 156 = .ok (.aload_n 0, 1) := by decide +kernel
theorem d_Model_win_157 : decode prog_9_method_66_code 157 = .ok (.getfield 96, 3) := by decide +kernel
theorem d_Model_win_160 : decode prog_9_method_66_code 160 = .ok (.if_icmp .ne 7, 3) := by decide +kernel
theorem d_Model_win_163 : decode prog_9_method_66_code 163 = .ok (.iconst 1, 1) := by decide +kernel
theorem d_Model_win_164 : decode prog_9_method_66_code 164 = .ok (.goto 4, 3) := by decide +kernel
theorem d_Model_win_167 : decode prog_9_method_66_code 167 = .ok (.iconst 0, 1) := by decide +kernel
theorem d_Model_win_168 : decode prog_9_method_66_code 168 = .ok (.invokevirtual 371, 3) := by decide +kernel
theorem d_Model_win_171 : decode prog_9_method_66_code 171 = .ok (.aload_n 0, 1) := by decide +kernel
theorem d_Model_win_172 : decode prog_9_method_66_code 172 = .ok (.getfield 260, 3) := by decide +kernel
theorem d_Model_win_175 : decode prog_9_method_66_code 175 = .ok (.ireturn, 1) := by decide +kernel
theorem d_Model_next_0 : decode prog_9_method_70_code 0 = .ok (.aload_n 0, 1) := by decide +kernel
theorem d_Model_next_1 : decode prog_9_method_70_code 1 = .ok (.getfield 90, 3) := by decide +kernel
theorem d_Model_next_4 : decode prog_9_method_70_code 4 = .ok (.iconst 3, 1) := by decide +kernel
theorem d_Model_next_5 : decode prog_9_method_70_code 5 = .ok (.if_icmp .eq 5, 3) := by decide +kernel
theorem d_Model_next_8 : decode prog_9_method_70_code 8 = .ok (.iconst 0, 1) := by decide +kernel
theorem d_Model_next_9 : decode prog_9_method_70_code 9 = .ok (.ireturn, 1) := by decide +kernel
theorem d_Model_next_10 : decode prog_9_method_70_code 10 = .ok (.aload_n 0, 1) := by decide +kernel
theorem d_Model_next_11 : decode prog_9_method_70_code 11 = .ok (.invokevirtual 82, 3) := by decide +kernel
theorem d_Model_next_14 : decode prog_9_method_70_code 14 = .ok (.iconst 1, 1) := by decide +kernel
theorem d_Model_next_15 : decode prog_9_method_70_code 15 = .ok (.ireturn, 1) := by decide +kernel
theorem d_Model_shows_0 : decode prog_9_method_71_code 0 = .ok (.iload_n 1, 1) := by decide +kernel
theorem d_Model_shows_1 : decode prog_9_method_71_code 1 = .ok (.ifCond .lt 28, 3) := by decide +kernel
theorem d_Model_shows_4 : decode prog_9_method_71_code 4 = .ok (.iload_n 1, 1) := by decide +kernel
theorem d_Model_shows_5 : decode prog_9_method_71_code 5 = .ok (.iconst 3, 1) := by decide +kernel
theorem d_Model_shows_6 : decode prog_9_method_71_code 6 = .ok (.if_icmp .gt 23, 3) := by decide +kernel
theorem d_Model_shows_9 : decode prog_9_method_71_code 9 = .ok (.aload_n 0, 1) := by decide +kernel
theorem d_Model_shows_10 : decode prog_9_method_71_code 10 = .ok (.getfield 90, 3) := by decide +kernel
theorem d_Model_shows_13 : decode prog_9_method_71_code 13 = .ok (.iconst 1, 1) := by decide +kernel
theorem d_Model_shows_14 : decode prog_9_method_71_code 14 = .ok (.if_icmp .lt 15, 3) := by decide +kernel
theorem d_Model_shows_17 : decode prog_9_method_71_code 17 = .ok (.aload_n 0, 1) := by decide +kernel
theorem d_Model_shows_18 : decode prog_9_method_71_code 18 = .ok (.getfield 90, 3) := by decide +kernel
theorem d_Model_shows_21 : decode prog_9_method_71_code 21 = .ok (.iconst 3, 1) := by decide +kernel
theorem d_Model_shows_22 : decode prog_9_method_71_code 22 = .ok (.if_icmp .gt 7, 3) := by decide +kernel
theorem d_Model_shows_25 : decode prog_9_method_71_code 25 = .ok (.iconst 1, 1) := by decide +kernel
theorem d_Model_shows_26 : decode prog_9_method_71_code 26 = .ok (.goto 4, 3) := by decide +kernel
theorem d_Model_shows_29 : decode prog_9_method_71_code 29 = .ok (.iconst 0, 1) := by decide +kernel
theorem d_Model_shows_30 : decode prog_9_method_71_code 30 = .ok (.ireturn, 1) := by decide +kernel
theorem d_Model_phase_0 : decode prog_9_method_72_code 0 = .ok (.aload_n 0, 1) := by decide +kernel
theorem d_Model_phase_1 : decode prog_9_method_72_code 1 = .ok (.getfield 90, 3) := by decide +kernel
theorem d_Model_phase_4 : decode prog_9_method_72_code 4 = .ok (.ireturn, 1) := by decide +kernel
theorem d_Model_who_0 : decode prog_9_method_73_code 0 = .ok (.aload_n 0, 1) := by decide +kernel
theorem d_Model_who_1 : decode prog_9_method_73_code 1 = .ok (.getfield 90, 3) := by decide +kernel
theorem d_Model_who_4 : decode prog_9_method_73_code 4 = .ok (.iconst 1, 1) := by decide +kernel
theorem d_Model_who_5 : decode prog_9_method_73_code 5 = .ok (.if_icmp .eq 11, 3) := by decide +kernel
theorem d_Model_who_8 : decode prog_9_method_73_code 8 = .ok (.aload_n 0, 1) := by decide +kernel
theorem d_Model_who_9 : decode prog_9_method_73_code 9 = .ok (.getfield 90, 3) := by decide +kernel
theorem d_Model_who_12 : decode prog_9_method_73_code 12 = .ok (.iconst 2, 1) := by decide +kernel
theorem d_Model_who_13 : decode prog_9_method_73_code 13 = .ok (.if_icmp .ne 10, 3) := by decide +kernel
theorem d_Model_who_16 : decode prog_9_method_73_code 16 = .ok (.aload_n 0, 1) := by decide +kernel
theorem d_Model_who_17 : decode prog_9_method_73_code 17 = .ok (.getfield 113, 3) := by decide +kernel
theorem d_Model_who_20 : decode prog_9_method_73_code 20 = .ok (.goto 4, 3) := by decide +kernel
theorem d_Model_who_23 : decode prog_9_method_73_code 23 = .ok (.iconst (-1), 1) := by decide +kernel
theorem d_Model_who_24 : decode prog_9_method_73_code 24 = .ok (.ireturn, 1) := by decide +kernel
theorem d_Model_drawn_0 : decode prog_9_method_74_code 0 = .ok (.aload_n 0, 1) := by decide +kernel
theorem d_Model_drawn_1 : decode prog_9_method_74_code 1 = .ok (.getfield 90, 3) := by decide +kernel
theorem d_Model_drawn_4 : decode prog_9_method_74_code 4 = .ok (.iconst 1, 1) := by decide +kernel
theorem d_Model_drawn_5 : decode prog_9_method_74_code 5 = .ok (.if_icmp .ne 10, 3) := by decide +kernel
theorem d_Model_drawn_8 : decode prog_9_method_74_code 8 = .ok (.aload_n 0, 1) := by decide +kernel
theorem d_Model_drawn_9 : decode prog_9_method_74_code 9 = .ok (.getfield 116, 3) := by decide +kernel
theorem d_Model_drawn_12 : decode prog_9_method_74_code 12 = .ok (.goto 19, 3) := by decide +kernel
theorem d_Model_drawn_15 : decode prog_9_method_74_code 15 = .ok (.aload_n 0, 1) := by decide +kernel
theorem d_Model_drawn_16 : decode prog_9_method_74_code 16 = .ok (.getfield 90, 3) := by decide +kernel
theorem d_Model_drawn_19 : decode prog_9_method_74_code 19 = .ok (.iconst 2, 1) := by decide +kernel
theorem d_Model_drawn_20 : decode prog_9_method_74_code 20 = .ok (.if_icmp .ne 10, 3) := by decide +kernel
theorem d_Model_drawn_23 : decode prog_9_method_74_code 23 = .ok (.aload_n 0, 1) := by decide +kernel
theorem d_Model_drawn_24 : decode prog_9_method_74_code 24 = .ok (.getfield 309, 3) := by decide +kernel
theorem d_Model_drawn_27 : decode prog_9_method_74_code 27 = .ok (.goto 4, 3) := by decide +kernel
theorem d_Model_drawn_30 : decode prog_9_method_74_code 30 = .ok (.iconst (-1), 1) := by decide +kernel
theorem d_Model_drawn_31 : decode prog_9_method_74_code 31 = .ok (.ireturn, 1) := by decide +kernel
theorem d_Model_concealed_0 : decode prog_9_method_75_code 0 = .ok (.aload_n 0, 1) := by decide +kernel
theorem d_Model_concealed_1 : decode prog_9_method_75_code 1 = .ok (.iload_n 1, 1) := by decide +kernel
theorem d_Model_concealed_2 : decode prog_9_method_75_code 2 = .ok (.invokevirtual 375, 3) := by decide +kernel
theorem d_Model_concealed_5 : decode prog_9_method_75_code 5 = .ok (.ifCond .eq 13, 3) := by decide +kernel
theorem d_Model_concealed_8 : decode prog_9_method_75_code 8 = .ok (.iload_n 2, 1) := by decide +kernel
theorem d_Model_concealed_9 : decode prog_9_method_75_code 9 = .ok (.ifCond .lt 9, 3) := by decide +kernel
theorem d_Model_concealed_12 : decode prog_9_method_75_code 12 = .ok (.iload_n 2, 1) := by decide +kernel
theorem d_Model_concealed_13 : decode prog_9_method_75_code 13 = .ok (.bipush 33, 2) := by decide +kernel
theorem d_Model_concealed_15 : decode prog_9_method_75_code 15 = .ok (.if_icmp .le 7, 3) := by decide +kernel
theorem d_Model_concealed_18 : decode prog_9_method_75_code 18 = .ok (.iconst 0, 1) := by decide +kernel
theorem d_Model_concealed_19 : decode prog_9_method_75_code 19 = .ok (.goto 14, 3) := by decide +kernel
theorem d_Model_concealed_22 : decode prog_9_method_75_code 22 = .ok (.aload_n 0, 1) := by decide +kernel
theorem d_Model_concealed_23 : decode prog_9_method_75_code 23 = .ok (.getfield 16, 3) := by decide +kernel
theorem d_Model_concealed_26 : decode prog_9_method_75_code 26 = .ok (.bipush 34, 2) := by decide +kernel
theorem d_Model_concealed_28 : decode prog_9_method_75_code 28 = .ok (.iload_n 1, 1) := by decide +kernel
theorem d_Model_concealed_29 : decode prog_9_method_75_code 29 = .ok (.imul, 1) := by decide +kernel
theorem d_Model_concealed_30 : decode prog_9_method_75_code 30 = .ok (.iload_n 2, 1) := by decide +kernel
theorem d_Model_concealed_31 : decode prog_9_method_75_code 31 = .ok (.iadd, 1) := by decide +kernel
theorem d_Model_concealed_32 : decode prog_9_method_75_code 32 = .ok (.iaload, 1) := by decide +kernel
theorem d_Model_concealed_33 : decode prog_9_method_75_code 33 = .ok (.ireturn, 1) := by decide +kernel
theorem d_Model_meld_0 : decode prog_9_method_76_code 0 = .ok (.aload_n 0, 1) := by decide +kernel
theorem d_Model_meld_1 : decode prog_9_method_76_code 1 = .ok (.iload_n 1, 1) := by decide +kernel
theorem d_Model_meld_2 : decode prog_9_method_76_code 2 = .ok (.invokevirtual 375, 3) := by decide +kernel
theorem d_Model_meld_5 : decode prog_9_method_76_code 5 = .ok (.ifCond .eq 17, 3) := by decide +kernel
theorem d_Model_meld_8 : decode prog_9_method_76_code 8 = .ok (.iload_n 2, 1) := by decide +kernel
theorem d_Model_meld_9 : decode prog_9_method_76_code 9 = .ok (.ifCond .lt 13, 3) := by decide +kernel
theorem d_Model_meld_12 : decode prog_9_method_76_code 12 = .ok (.iload_n 2, 1) := by decide +kernel
theorem d_Model_meld_13 : decode prog_9_method_76_code 13 = .ok (.aload_n 0, 1) := by decide +kernel
theorem d_Model_meld_14 : decode prog_9_method_76_code 14 = .ok (.getfield 19, 3) := by decide +kernel
theorem d_Model_meld_17 : decode prog_9_method_76_code 17 = .ok (.iload_n 1, 1) := by decide +kernel
theorem d_Model_meld_18 : decode prog_9_method_76_code 18 = .ok (.iaload, 1) := by decide +kernel
theorem d_Model_meld_19 : decode prog_9_method_76_code 19 = .ok (.if_icmp .lt 7, 3) := by decide +kernel
theorem d_Model_meld_22 : decode prog_9_method_76_code 22 = .ok (.iconst (-1), 1) := by decide +kernel
theorem d_Model_meld_23 : decode prog_9_method_76_code 23 = .ok (.goto 26, 3) := by decide +kernel
theorem d_Model_meld_26 : decode prog_9_method_76_code 26 = .ok (.iconst 4, 1) := by decide +kernel
theorem d_Model_meld_27 : decode prog_9_method_76_code 27 = .ok (.aload_n 0, 1) := by decide +kernel
theorem d_Model_meld_28 : decode prog_9_method_76_code 28 = .ok (.getfield 22, 3) := by decide +kernel
theorem d_Model_meld_31 : decode prog_9_method_76_code 31 = .ok (.iconst 4, 1) := by decide +kernel
theorem d_Model_meld_32 : decode prog_9_method_76_code 32 = .ok (.iload_n 1, 1) := by decide +kernel
theorem d_Model_meld_33 : decode prog_9_method_76_code 33 = .ok (.imul, 1) := by decide +kernel
theorem d_Model_meld_34 : decode prog_9_method_76_code 34 = .ok (.iload_n 2, 1) := by decide +kernel
theorem d_Model_meld_35 : decode prog_9_method_76_code 35 = .ok (.iadd, 1) := by decide +kernel
theorem d_Model_meld_36 : decode prog_9_method_76_code 36 = .ok (.iaload, 1) := by decide +kernel
theorem d_Model_meld_37 : decode prog_9_method_76_code 37 = .ok (.imul, 1) := by decide +kernel
theorem d_Model_meld_38 : decode prog_9_method_76_code 38 = .ok (.aload_n 0, 1) := by decide +kernel
theorem d_Model_meld_39 : decode prog_9_method_76_code 39 = .ok (.getfield 25, 3) := by decide +kernel
theorem d_Model_meld_42 : decode prog_9_method_76_code 42 = .ok (.iconst 4, 1) := by decide +kernel
theorem d_Model_meld_43 : decode prog_9_method_76_code 43 = .ok (.iload_n 1, 1) := by decide +kernel
theorem d_Model_meld_44 : decode prog_9_method_76_code 44 = .ok (.imul, 1) := by decide +kernel
theorem d_Model_meld_45 : decode prog_9_method_76_code 45 = .ok (.iload_n 2, 1) := by decide +kernel
theorem d_Model_meld_46 : decode prog_9_method_76_code 46 = .ok (.iadd, 1) := by decide +kernel
theorem d_Model_meld_47 : decode prog_9_method_76_code 47 = .ok (.iaload, 1) := by decide +kernel
theorem d_Model_meld_48 : decode prog_9_method_76_code 48 = .ok (.iadd, 1) := by decide +kernel
theorem d_Model_meld_49 : decode prog_9_method_76_code 49 = .ok (.ireturn, 1) := by decide +kernel
theorem d_Model_river_0 : decode prog_9_method_77_code 0 = .ok (.aload_n 0, 1) := by decide +kernel
theorem d_Model_river_1 : decode prog_9_method_77_code 1 = .ok (.iload_n 1, 1) := by decide +kernel
theorem d_Model_river_2 : decode prog_9_method_77_code 2 = .ok (.invokevirtual 375, 3) := by decide +kernel
theorem d_Model_river_5 : decode prog_9_method_77_code 5 = .ok (.ifCond .eq 17, 3) := by decide +kernel
theorem d_Model_river_8 : decode prog_9_method_77_code 8 = .ok (.iload_n 2, 1) := by decide +kernel
theorem d_Model_river_9 : decode prog_9_method_77_code 9 = .ok (.ifCond .lt 13, 3) := by decide +kernel
theorem d_Model_river_12 : decode prog_9_method_77_code 12 = .ok (.iload_n 2, 1) := by decide +kernel
theorem d_Model_river_13 : decode prog_9_method_77_code 13 = .ok (.aload_n 0, 1) := by decide +kernel
theorem d_Model_river_14 : decode prog_9_method_77_code 14 = .ok (.getfield 28, 3) := by decide +kernel
theorem d_Model_river_17 : decode prog_9_method_77_code 17 = .ok (.iload_n 1, 1) := by decide +kernel
theorem d_Model_river_18 : decode prog_9_method_77_code 18 = .ok (.iaload, 1) := by decide +kernel
theorem d_Model_river_19 : decode prog_9_method_77_code 19 = .ok (.if_icmp .lt 7, 3) := by decide +kernel
theorem d_Model_river_22 : decode prog_9_method_77_code 22 = .ok (.iconst (-1), 1) := by decide +kernel
theorem d_Model_river_23 : decode prog_9_method_77_code 23 = .ok (.goto 14, 3) := by decide +kernel
theorem d_Model_river_26 : decode prog_9_method_77_code 26 = .ok (.aload_n 0, 1) := by decide +kernel
theorem d_Model_river_27 : decode prog_9_method_77_code 27 = .ok (.getfield 31, 3) := by decide +kernel
theorem d_Model_river_30 : decode prog_9_method_77_code 30 = .ok (.bipush 100, 2) := by decide +kernel
theorem d_Model_river_32 : decode prog_9_method_77_code 32 = .ok (.iload_n 1, 1) := by decide +kernel
theorem d_Model_river_33 : decode prog_9_method_77_code 33 = .ok (.imul, 1) := by decide +kernel
theorem d_Model_river_34 : decode prog_9_method_77_code 34 = .ok (.iload_n 2, 1) := by decide +kernel
theorem d_Model_river_35 : decode prog_9_method_77_code 35 = .ok (.iadd, 1) := by decide +kernel
theorem d_Model_river_36 : decode prog_9_method_77_code 36 = .ok (.iaload, 1) := by decide +kernel
theorem d_Model_river_37 : decode prog_9_method_77_code 37 = .ok (.ireturn, 1) := by decide +kernel
theorem d_Model_waits_0 : decode prog_9_method_78_code 0 = .ok (.aload_n 0, 1) := by decide +kernel
theorem d_Model_waits_1 : decode prog_9_method_78_code 1 = .ok (.iload_n 1, 1) := by decide +kernel
theorem d_Model_waits_2 : decode prog_9_method_78_code 2 = .ok (.invokevirtual 375, 3) := by decide +kernel
theorem d_Model_waits_5 : decode prog_9_method_78_code 5 = .ok (.ifCond .eq 11, 3) := by decide +kernel
theorem d_Model_waits_8 : decode prog_9_method_78_code 8 = .ok (.aload_n 0, 1) := by decide +kernel
theorem d_Model_waits_9 : decode prog_9_method_78_code 9 = .ok (.iload_n 1, 1) := by decide +kernel
theorem d_Model_waits_10 : decode prog_9_method_78_code 10 = .ok (.invokevirtual 177, 3) := by decide +kernel
theorem d_Model_waits_13 : decode prog_9_method_78_code 13 = .ok (.goto 4, 3) := by decide +kernel
theorem d_Model_waits_16 : decode prog_9_method_78_code 16 = .ok (.lconst 0, 1) := by decide +kernel
theorem d_Model_waits_17 : decode prog_9_method_78_code 17 = .ok (.lreturn, 1) := by decide +kernel
theorem d_Model_furiten_0 : decode prog_9_method_79_code 0 = .ok (.aload_n 0, 1) := by decide +kernel
theorem d_Model_furiten_1 : decode prog_9_method_79_code 1 = .ok (.iload_n 1, 1) := by decide +kernel
theorem d_Model_furiten_2 : decode prog_9_method_79_code 2 = .ok (.invokevirtual 375, 3) := by decide +kernel
theorem d_Model_furiten_5 : decode prog_9_method_79_code 5 = .ok (.ifCond .eq 15, 3) := by decide +kernel
theorem d_Model_furiten_8 : decode prog_9_method_79_code 8 = .ok (.aload_n 0, 1) := by decide +kernel
theorem d_Model_furiten_9 : decode prog_9_method_79_code 9 = .ok (.iload_n 1, 1) := by decide +kernel
theorem d_Model_furiten_10 : decode prog_9_method_79_code 10 = .ok (.invokevirtual 319, 3) := by decide +kernel
theorem d_Model_furiten_13 : decode prog_9_method_79_code 13 = .ok (.ifCond .eq 7, 3) := by decide +kernel
theorem d_Model_furiten_16 : decode prog_9_method_79_code 16 = .ok (.iconst 1, 1) := by decide +kernel
theorem d_Model_furiten_17 : decode prog_9_method_79_code 17 = .ok (.goto 4, 3) := by decide +kernel
theorem d_Model_furiten_20 : decode prog_9_method_79_code 20 = .ok (.iconst 0, 1) := by decide +kernel
theorem d_Model_furiten_21 : decode prog_9_method_79_code 21 = .ok (.ireturn, 1) := by decide +kernel
theorem d_Model_points_0 : decode prog_9_method_80_code 0 = .ok (.iload_n 1, 1) := by decide +kernel
theorem d_Model_points_1 : decode prog_9_method_80_code 1 = .ok (.ifCond .lt 8, 3) := by decide +kernel
theorem d_Model_points_4 : decode prog_9_method_80_code 4 = .ok (.iload_n 1, 1) := by decide +kernel
theorem d_Model_points_5 : decode prog_9_method_80_code 5 = .ok (.iconst 3, 1) := by decide +kernel
theorem d_Model_points_6 : decode prog_9_method_80_code 6 = .ok (.if_icmp .le 7, 3) := by decide +kernel
theorem d_Model_points_9 : decode prog_9_method_80_code 9 = .ok (.iconst 0, 1) := by decide +kernel
theorem d_Model_points_10 : decode prog_9_method_80_code 10 = .ok (.goto 9, 3) := by decide +kernel
theorem d_Model_points_13 : decode prog_9_method_80_code 13 = .ok (.aload_n 0, 1) := by decide +kernel
theorem d_Model_points_14 : decode prog_9_method_80_code 14 = .ok (.getfield 13, 3) := by decide +kernel
theorem d_Model_points_17 : decode prog_9_method_80_code 17 = .ok (.iload_n 1, 1) := by decide +kernel
theorem d_Model_points_18 : decode prog_9_method_80_code 18 = .ok (.iaload, 1) := by decide +kernel
theorem d_Model_points_19 : decode prog_9_method_80_code 19 = .ok (.ireturn, 1) := by decide +kernel
theorem d_Model_table_0 : decode prog_9_method_81_code 0 = .ok (.aload_n 0, 1) := by decide +kernel
theorem d_Model_table_1 : decode prog_9_method_81_code 1 = .ok (.getfield 90, 3) := by decide +kernel
theorem d_Model_table_4 : decode prog_9_method_81_code 4 = .ok (.iconst 1, 1) := by decide +kernel
theorem d_Model_table_5 : decode prog_9_method_81_code 5 = .ok (.if_icmp .lt 15, 3) := by decide +kernel
theorem d_Model_table_8 : decode prog_9_method_81_code 8 = .ok (.aload_n 0, 1) := by decide +kernel
theorem d_Model_table_9 : decode prog_9_method_81_code 9 = .ok (.getfield 90, 3) := by decide +kernel
theorem d_Model_table_12 : decode prog_9_method_81_code 12 = .ok (.iconst 3, 1) := by decide +kernel
theorem d_Model_table_13 : decode prog_9_method_81_code 13 = .ok (.if_icmp .gt 7, 3) := by decide +kernel
theorem d_Model_table_16 : decode prog_9_method_81_code 16 = .ok (.iconst 1, 1) := by decide +kernel
theorem d_Model_table_17 : decode prog_9_method_81_code 17 = .ok (.goto 4, 3) := by decide +kernel
theorem d_Model_table_20 : decode prog_9_method_81_code 20 = .ok (.iconst 0, 1) := by decide +kernel
theorem d_Model_table_21 : decode prog_9_method_81_code 21 = .ok (.istore_n 2, 1) := by decide +kernel
theorem d_Model_table_22 : decode prog_9_method_81_code 22 = .ok (.iload_n 1, 1) := by decide +kernel
theorem d_Model_table_23 : decode prog_9_method_81_code 23 = .ok (.tableswitch 83 0 5 #[37, 42, 47, 52, 57, 70], 37) := by decide +kernel
theorem d_Model_table_60 : decode prog_9_method_81_code 60 = .ok (.aload_n 0, 1) := by decide +kernel
theorem d_Model_table_61 : decode prog_9_method_81_code 61 = .ok (.getfield 96, 3) := by decide +kernel
theorem d_Model_table_64 : decode prog_9_method_81_code 64 = .ok (.ireturn, 1) := by decide +kernel
theorem d_Model_table_65 : decode prog_9_method_81_code 65 = .ok (.aload_n 0, 1) := by decide +kernel
theorem d_Model_table_66 : decode prog_9_method_81_code 66 = .ok (.getfield 216, 3) := by decide +kernel
theorem d_Model_table_69 : decode prog_9_method_81_code 69 = .ok (.ireturn, 1) := by decide +kernel
theorem d_Model_table_70 : decode prog_9_method_81_code 70 = .ok (.aload_n 0, 1) := by decide +kernel
theorem d_Model_table_71 : decode prog_9_method_81_code 71 = .ok (.getfield 365, 3) := by decide +kernel
theorem d_Model_table_74 : decode prog_9_method_81_code 74 = .ok (.ireturn, 1) := by decide +kernel
theorem d_Model_table_75 : decode prog_9_method_81_code 75 = .ok (.aload_n 0, 1) := by decide +kernel
theorem d_Model_table_76 : decode prog_9_method_81_code 76 = .ok (.getfield 346, 3) := by decide +kernel
theorem d_Model_table_79 : decode prog_9_method_81_code 79 = .ok (.ireturn, 1) := by decide +kernel
theorem d_Model_table_80 : decode prog_9_method_81_code 80 = .ok (.iload_n 2, 1) := by decide +kernel
theorem d_Model_table_81 : decode prog_9_method_81_code 81 = .ok (.ifCond .eq 10, 3) := by decide +kernel
theorem d_Model_table_84 : decode prog_9_method_81_code 84 = .ok (.aload_n 0, 1) := by decide +kernel
theorem d_Model_table_85 : decode prog_9_method_81_code 85 = .ok (.invokevirtual 122, 3) := by decide +kernel
theorem d_Model_table_88 : decode prog_9_method_81_code 88 = .ok (.goto 4, 3) := by decide +kernel
theorem d_Model_table_91 : decode prog_9_method_81_code 91 = .ok (.iconst 0, 1) := by decide +kernel
theorem d_Model_table_92 : decode prog_9_method_81_code 92 = .ok (.ireturn, 1) := by decide +kernel
theorem d_Model_table_93 : decode prog_9_method_81_code 93 = .ok (.iload_n 2, 1) := by decide +kernel
theorem d_Model_table_94 : decode prog_9_method_81_code 94 = .ok (.ifCond .eq 10, 3) := by decide +kernel
theorem d_Model_table_97 : decode prog_9_method_81_code 97 = .ok (.aload_n 0, 1) := by decide +kernel
theorem d_Model_table_98 : decode prog_9_method_81_code 98 = .ok (.getfield 93, 3) := by decide +kernel
theorem d_Model_table_101 : decode prog_9_method_81_code 101 = .ok (.goto 4, 3) := by decide +kernel
theorem d_Model_table_104 : decode prog_9_method_81_code 104 = .ok (.iconst 0, 1) := by decide +kernel
theorem d_Model_table_105 : decode prog_9_method_81_code 105 = .ok (.ireturn, 1) := by decide +kernel
theorem d_Model_table_106 : decode prog_9_method_81_code 106 = .ok (.iconst (-1), 1) := by decide +kernel
theorem d_Model_table_107 : decode prog_9_method_81_code 107 = .ok (.ireturn, 1) := by decide +kernel
theorem d_Model_worth_0 : decode prog_9_method_82_code 0 = .ok (.iload_n 1, 1) := by decide +kernel
theorem d_Model_worth_1 : decode prog_9_method_82_code 1 = .ok (.ifCond .lt 28, 3) := by decide +kernel
theorem d_Model_worth_4 : decode prog_9_method_82_code 4 = .ok (.iload_n 1, 1) := by decide +kernel
theorem d_Model_worth_5 : decode prog_9_method_82_code 5 = .ok (.iconst 3, 1) := by decide +kernel
theorem d_Model_worth_6 : decode prog_9_method_82_code 6 = .ok (.if_icmp .gt 23, 3) := by decide +kernel
theorem d_Model_worth_9 : decode prog_9_method_82_code 9 = .ok (.iload_n 2, 1) := by decide +kernel
theorem d_Model_worth_10 : decode prog_9_method_82_code 10 = .ok (.ifCond .lt 19, 3) := by decide +kernel
theorem d_Model_worth_13 : decode prog_9_method_82_code 13 = .ok (.iload_n 2, 1) := by decide +kernel
theorem d_Model_worth_14 : decode prog_9_method_82_code 14 = .ok (.iconst 3, 1) := by decide +kernel
theorem d_Model_worth_15 : decode prog_9_method_82_code 15 = .ok (.if_icmp .gt 14, 3) := by decide +kernel
theorem d_Model_worth_18 : decode prog_9_method_82_code 18 = .ok (.aload_n 0, 1) := by decide +kernel
theorem d_Model_worth_19 : decode prog_9_method_82_code 19 = .ok (.getfield 53, 3) := by decide +kernel
theorem d_Model_worth_22 : decode prog_9_method_82_code 22 = .ok (.iconst 4, 1) := by decide +kernel
theorem d_Model_worth_23 : decode prog_9_method_82_code 23 = .ok (.iload_n 1, 1) := by decide +kernel
theorem d_Model_worth_24 : decode prog_9_method_82_code 24 = .ok (.imul, 1) := by decide +kernel
theorem d_Model_worth_25 : decode prog_9_method_82_code 25 = .ok (.iaload, 1) := by decide +kernel
theorem d_Model_worth_26 : decode prog_9_method_82_code 26 = .ok (.ifCond .ge 7, 3) := by decide +kernel
theorem d_Model_worth_29 : decode prog_9_method_82_code 29 = .ok (.iconst (-1), 1) := by decide +kernel
theorem d_Model_worth_30 : decode prog_9_method_82_code 30 = .ok (.goto 13, 3) := by decide +kernel
theorem d_Model_worth_33 : decode prog_9_method_82_code 33 = .ok (.aload_n 0, 1) := by decide +kernel
theorem d_Model_worth_34 : decode prog_9_method_82_code 34 = .ok (.getfield 53, 3) := by decide +kernel
theorem d_Model_worth_37 : decode prog_9_method_82_code 37 = .ok (.iconst 4, 1) := by decide +kernel
theorem d_Model_worth_38 : decode prog_9_method_82_code 38 = .ok (.iload_n 1, 1) := by decide +kernel
theorem d_Model_worth_39 : decode prog_9_method_82_code 39 = .ok (.imul, 1) := by decide +kernel
theorem d_Model_worth_40 : decode prog_9_method_82_code 40 = .ok (.iload_n 2, 1) := by decide +kernel
theorem d_Model_worth_41 : decode prog_9_method_82_code 41 = .ok (.iadd, 1) := by decide +kernel
theorem d_Model_worth_42 : decode prog_9_method_82_code 42 = .ok (.iaload, 1) := by decide +kernel
theorem d_Model_worth_43 : decode prog_9_method_82_code 43 = .ok (.ireturn, 1) := by decide +kernel
theorem d_Model_yaku_0 : decode prog_9_method_83_code 0 = .ok (.iload_n 1, 1) := by decide +kernel
theorem d_Model_yaku_1 : decode prog_9_method_83_code 1 = .ok (.ifCond .lt 19, 3) := by decide +kernel
theorem d_Model_yaku_4 : decode prog_9_method_83_code 4 = .ok (.iload_n 1, 1) := by decide +kernel
theorem d_Model_yaku_5 : decode prog_9_method_83_code 5 = .ok (.iconst 3, 1) := by decide +kernel
theorem d_Model_yaku_6 : decode prog_9_method_83_code 6 = .ok (.if_icmp .gt 14, 3) := by decide +kernel
theorem d_Model_yaku_9 : decode prog_9_method_83_code 9 = .ok (.aload_n 0, 1) := by decide +kernel
theorem d_Model_yaku_10 : decode prog_9_method_83_code 10 = .ok (.getfield 53, 3) := by decide +kernel
theorem d_Model_yaku_13 : decode prog_9_method_83_code 13 = .ok (.iconst 4, 1) := by decide +kernel
theorem d_Model_yaku_14 : decode prog_9_method_83_code 14 = .ok (.iload_n 1, 1) := by decide +kernel
theorem d_Model_yaku_15 : decode prog_9_method_83_code 15 = .ok (.imul, 1) := by decide +kernel
theorem d_Model_yaku_16 : decode prog_9_method_83_code 16 = .ok (.iaload, 1) := by decide +kernel
theorem d_Model_yaku_17 : decode prog_9_method_83_code 17 = .ok (.ifCond .ge 7, 3) := by decide +kernel
theorem d_Model_yaku_20 : decode prog_9_method_83_code 20 = .ok (.lconst 0, 1) := by decide +kernel
theorem d_Model_yaku_21 : decode prog_9_method_83_code 21 = .ok (.goto 9, 3) := by decide +kernel
theorem d_Model_yaku_24 : decode prog_9_method_83_code 24 = .ok (.aload_n 0, 1) := by decide +kernel
theorem d_Model_yaku_25 : decode prog_9_method_83_code 25 = .ok (.getfield 56, 3) := by decide +kernel
theorem d_Model_yaku_28 : decode prog_9_method_83_code 28 = .ok (.iload_n 1, 1) := by decide +kernel
theorem d_Model_yaku_29 : decode prog_9_method_83_code 29 = .ok (.laload, 1) := by decide +kernel
theorem d_Model_yaku_30 : decode prog_9_method_83_code 30 = .ok (.lreturn, 1) := by decide +kernel
theorem d_Model_state_0 : decode prog_9_method_84_code 0 = .ok (.aload_n 0, 1) := by decide +kernel
theorem d_Model_state_1 : decode prog_9_method_84_code 1 = .ok (.getfield 78, 3) := by decide +kernel
theorem d_Model_state_4 : decode prog_9_method_84_code 4 = .ok (.ireturn, 1) := by decide +kernel
