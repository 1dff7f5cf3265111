theorem d_Model_judgeSets_190 : decode prog_9_method_45_code 190 = .ok (.iconst 2, 1) := by decide +kernel
theorem d_Model_judgeSets_191 : decode prog_9_method_45_code 191 = .ok (.iadd, 1) := by decide +kernel
theorem d_Model_judgeSets_192 : decode prog_9_method_45_code 192 = .ok (.if_icmp .gt 7, 3) := by decide +kernel
theorem d_Model_judgeSets_195 : decode prog_9_method_45_code 195 = .ok (.iconst 1, 1) := by decide +kernel
theorem d_Model_judgeSets_196 : decode prog_9_method_45_code 196 = .ok (.goto 28, 3) := by decide +kernel
theorem d_Model_judgeSets_199 : decode prog_9_method_45_code 199 = .ok (.iconst 0, 1) := by decide +kernel
theorem d_Model_judgeSets_200 : decode prog_9_method_45_code 200 = .ok (.goto 24, 3) := by decide +kernel
theorem d_Model_judgeSets_203 : decode prog_9_method_45_code 203 = .ok (.aload_n 0, 1) := by decide +kernel
theorem d_Model_judgeSets_204 : decode prog_9_method_45_code 204 = .ok (.getfield 222, 3) := by decide +kernel
theorem d_Model_judgeSets_207 : decode prog_9_method_45_code 207 = .ok (.aload_n 0, 1) := by decide +kernel
theorem d_Model_judgeSets_208 : decode prog_9_method_45_code 208 = .ok (.getfield 69, 3) := by decide +kernel
theorem d_Model_judgeSets_211 : decode prog_9_method_45_code 211 = .ok (.aload_n 0, 1) := by decide +kernel
theorem d_Model_judgeSets_212 : decode prog_9_method_45_code 212 = .ok (.getfield 210, 3) := by decide +kernel
theorem d_Model_judgeSets_215 : decode prog_9_method_45_code 215 = .ok (.iaload, 1) := by decide +kernel
theorem d_Model_judgeSets_216 : decode prog_9_method_45_code 216 = .ok (.if_icmp .ne 7, 3) := by decide +kernel
theorem d_Model_judgeSets_219 : decode prog_9_method_45_code 219 = .ok (.iconst 1, 1) := by decide +kernel
theorem d_Model_judgeSets_220 : decode prog_9_method_45_code 220 = .ok (.goto 4, 3) := by decide +kernel
theorem d_Model_judgeSets_223 : decode prog_9_method_45_code 223 = .ok (.iconst 0, 1) := by decide +kernel
theorem d_Model_judgeSets_224 : decode prog_9_method_45_code 224 = .ok (.istore 4, 2) := by decide +kernel
theorem d_Model_judgeSets_226 : decode prog_9_method_45_code 226 = .ok (.iload 4, 2) := by decide +kernel
theorem d_Model_judgeSets_228 : decode prog_9_method_45_code 228 = .ok (.ifCond .eq 31, 3) := by decide +kernel
theorem d_Model_judgeSets_231 : decode prog_9_method_45_code 231 = .ok (.lload_n 1, 1) := by decide +kernel
theorem d_Model_judgeSets_232 : decode prog_9_method_45_code 232 = .ok (.aload_n 0, 1) := by decide +kernel
theorem d_Model_judgeSets_233 : decode prog_9_method_45_code 233 = .ok (.invokevirtual 270, 3) := by decide +kernel
theorem d_Model_judgeSets_236 : decode prog_9_method_45_code 236 = .ok (.lor, 1) := by decide +kernel
theorem d_Model_judgeSets_237 : decode prog_9_method_45_code 237 = .ok (.aload_n 0, 1) := by decide +kernel
theorem d_Model_judgeSets_238 : decode prog_9_method_45_code 238 = .ok (.invokevirtual 274, 3) := by decide +kernel
theorem d_Model_judgeSets_241 : decode prog_9_method_45_code 241 = .ok (.lor, 1) := by decide +kernel
theorem d_Model_judgeSets_242 : decode prog_9_method_45_code 242 = .ok (.lstore 5, 2) := by decide +kernel
theorem d_Model_judgeSets_244 : decode prog_9_method_45_code 244 = .ok (.aload_n 0, 1) := by decide +kernel
theorem d_Model_judgeSets_245 : decode prog_9_method_45_code 245 = .ok (.lload 5, 2) := by decide +kernel
theorem d_Model_judgeSets_247 : decode prog_9_method_45_code 247 = .ok (.aload_n 0, 1) := by decide +kernel
theorem d_Model_judgeSets_248 : decode prog_9_method_45_code 248 = .ok (.lload 5, 2) := by decide +kernel
theorem d_Model_judgeSets_250 : decode prog_9_method_45_code 250 = .ok (.invokestatic 243, 3) := by decide +kernel
theorem d_Model_judgeSets_253 : decode prog_9_method_45_code 253 = .ok (.invokevirtual 277, 3) := by decide +kernel
theorem d_Model_judgeSets_256 : decode prog_9_method_45_code 256 = .ok (.invokevirtual 281, 3) := by decide +kernel
theorem d_Model_judgeSets_259 : decode prog_9_method_45_code 259 = .ok (.aload_n 0, 1) := by decide +kernel
theorem d_Model_judgeSets_260 : decode prog_9_method_45_code 260 = .ok (.dup, 1) := by decide +kernel
theorem d_Model_judgeSets_261 : decode prog_9_method_45_code 261 = .ok (.getfield 210, 3) := by decide +kernel
theorem d_Model_judgeSets_264 : decode prog_9_method_45_code 264 = .ok (.iconst 1, 1) := by decide +kernel
theorem d_Model_judgeSets_265 : decode prog_9_method_45_code 265 = .ok (.iadd, 1) := by decide +kernel
theorem d_Model_judgeSets_266 : decode prog_9_method_45_code 266 = .ok (.putfield 210, 3) := by decide +kernel
theorem d_Model_judgeSets_269 : decode prog_9_method_45_code 269 = .ok (.goto (-157), 3) := by decide +kernel
theorem d_Model_judgeSets_272 : decode prog_9_method_45_code 272 = .ok (.return_, 1) := by decide +kernel
theorem d_Model_worthy_0 : decode prog_9_method_46_code 0 = .ok (.aload_n 0, 1) := by decide +kernel
theorem d_Model_worthy_1 : decode prog_9_method_46_code 1 = .ok (.iload_n 1, 1) := by decide +kernel
theorem d_Model_worthy_2 : decode prog_9_method_46_code 2 = .ok (.putfield 184, 3) := by decide +kernel
theorem d_Model_worthy_5 : decode prog_9_method_46_code 5 = .ok (.aload_n 0, 1) := by decide +kernel
theorem d_Model_worthy_6 : decode prog_9_method_46_code 6 = .ok (.iload_n 2, 1) := by decide +kernel
theorem d_Model_worthy_7 : decode prog_9_method_46_code 7 = .ok (.putfield 222, 3) := by decide +kernel
theorem d_Model_worthy_10 : decode prog_9_method_46_code 10 = .ok (.aload_n 0, 1) := by decide +kernel
theorem d_Model_worthy_11 : decode prog_9_method_46_code 11 = .ok (.iload_n 3, 1) := by decide +kernel
theorem d_Model_worthy_12 : decode prog_9_method_46_code 12 = .ok (.putfield 191, 3) := by decide +kernel
theorem d_Model_worthy_15 : decode prog_9_method_46_code 15 = .ok (.aload_n 0, 1) := by decide +kernel
theorem d_Model_worthy_16 : decode prog_9_method_46_code 16 = .ok (.iload 4, 2) := by decide +kernel
theorem d_Model_worthy_18 : decode prog_9_method_46_code 18 = .ok (.putfield 197, 3) := by decide +kernel
theorem d_Model_worthy_21 : decode prog_9_method_46_code 21 = .ok (.aload_n 0, 1) := by decide +kernel
theorem d_Model_worthy_22 : decode prog_9_method_46_code 22 = .ok (.iconst 0, 1) := by decide +kernel
theorem d_Model_worthy_23 : decode prog_9_method_46_code 23 = .ok (.putfield 260, 3) := by decide +kernel
theorem d_Model_worthy_26 : decode prog_9_method_46_code 26 = .ok (.aload_n 0, 1) := by decide +kernel
theorem d_Model_worthy_27 : decode prog_9_method_46_code 27 = .ok (.iconst 0, 1) := by decide +kernel
theorem d_Model_worthy_28 : decode prog_9_method_46_code 28 = .ok (.putfield 263, 3) := by decide +kernel
theorem d_Model_worthy_31 : decode prog_9_method_46_code 31 = .ok (.aload_n 0, 1) := by decide +kernel
theorem d_Model_worthy_32 : decode prog_9_method_46_code 32 = .ok (.iconst 0, 1) := by decide +kernel
theorem d_Model_worthy_33 : decode prog_9_method_46_code 33 = .ok (.putfield 257, 3) := by decide +kernel
theorem d_Model_worthy_36 : decode prog_9_method_46_code 36 = .ok (.aload_n 0, 1) := by decide +kernel
theorem d_Model_worthy_37 : decode prog_9_method_46_code 37 = .ok (.lconst 0, 1) := by decide +kernel
theorem d_Model_worthy_38 : decode prog_9_method_46_code 38 = .ok (.putfield 266, 3) := by decide +kernel
theorem d_Model_worthy_41 : decode prog_9_method_46_code 41 = .ok (.iconst 4, 1) := by decide +kernel
theorem d_Model_worthy_42 : decode prog_9_method_46_code 42 = .ok (.aload_n 0, 1) := by decide +kernel
theorem d_Model_worthy_43 : decode prog_9_method_46_code 43 = .ok (.getfield 19, 3) := by decide +kernel
theorem d_Model_worthy_46 : decode prog_9_method_46_code 46 = .ok (.iload_n 1, 1) := by decide +kernel
theorem d_Model_worthy_47 : decode prog_9_method_46_code 47 = .ok (.iaload, 1) := by decide +kernel
theorem d_Model_worthy_48 : decode prog_9_method_46_code 48 = .ok (.isub, 1) := by decide +kernel
theorem d_Model_worthy_49 : decode prog_9_method_46_code 49 = .ok (.istore 5, 2) := by decide +kernel
theorem d_Model_worthy_51 : decode prog_9_method_46_code 51 = .ok (.aload_n 0, 1) := by decide +kernel
theorem d_Model_worthy_52 : decode prog_9_method_46_code 52 = .ok (.iload_n 1, 1) := by decide +kernel
theorem d_Model_worthy_53 : decode prog_9_method_46_code 53 = .ok (.iload_n 3, 1) := by decide +kernel
theorem d_Model_worthy_54 : decode prog_9_method_46_code 54 = .ok (.ifCond .eq 7, 3) := by decide +kernel
theorem d_Model_worthy_57 : decode prog_9_method_46_code 57 = .ok (.iconst (-1), 1) := by decide +kernel
theorem d_Model_worthy_58 : decode prog_9_method_46_code 58 = .ok (.goto 4, 3) := by decide +kernel
theorem d_Model_worthy_61 : decode prog_9_method_46_code 61 = .ok (.iload_n 2, 1) := by decide +kernel
theorem d_Model_worthy_62 : decode prog_9_method_46_code 62 = .ok (.invokevirtual 153, 3) := by decide +kernel
theorem d_Model_worthy_65 : decode prog_9_method_46_code 65 = .ok (.iconst 3, 1) := by decide +kernel
theorem d_Model_worthy_66 : decode prog_9_method_46_code 66 = .ok (.iload 5, 2) := by decide +kernel
theorem d_Model_worthy_68 : decode prog_9_method_46_code 68 = .ok (.imul, 1) := by decide +kernel
theorem d_Model_worthy_69 : decode prog_9_method_46_code 69 = .ok (.iconst 2, 1) := by decide +kernel
theorem d_Model_worthy_70 : decode prog_9_method_46_code 70 = .ok (.iadd, 1) := by decide +kernel
theorem d_Model_worthy_71 : decode prog_9_method_46_code 71 = .ok (.if_icmp .eq 5, 3) := by decide +kernel
theorem d_Model_worthy_74 : decode prog_9_method_46_code 74 = .ok (.iconst 0, 1) := by decide +kernel
theorem d_Model_worthy_75 : decode prog_9_method_46_code 75 = .ok (.ireturn, 1) := by decide +kernel
theorem d_Model_worthy_76 : decode prog_9_method_46_code 76 = .ok (.iconst 0, 1) := by decide +kernel
theorem d_Model_worthy_77 : decode prog_9_method_46_code 77 = .ok (.istore 6, 2) := by decide +kernel
theorem d_Model_worthy_79 : decode prog_9_method_46_code 79 = .ok (.iload 6, 2) := by decide +kernel
theorem d_Model_worthy_81 : decode prog_9_method_46_code 81 = .ok (.bipush 34, 2) := by decide +kernel
theorem d_Model_worthy_83 : decode prog_9_method_46_code 83 = .ok (.if_icmp .ge 39, 3) := by decide +kernel
theorem d_Model_worthy_86 : decode prog_9_method_46_code 86 = .ok (.aload_n 0, 1) := by decide +kernel
theorem d_Model_worthy_87 : decode prog_9_method_46_code 87 = .ok (.getfield 63, 3) := by decide +kernel
theorem d_Model_worthy_90 : decode prog_9_method_46_code 90 = .ok (.iload 6, 2) := by decide +kernel
theorem d_Model_worthy_92 : decode prog_9_method_46_code 92 = .ok (.aload_n 0, 1) := by decide +kernel
theorem d_Model_worthy_93 : decode prog_9_method_46_code 93 = .ok (.iload_n 1, 1) := by decide +kernel
theorem d_Model_worthy_94 : decode prog_9_method_46_code 94 = .ok (.iload 6, 2) := by decide +kernel
theorem d_Model_worthy_96 : decode prog_9_method_46_code 96 = .ok (.invokevirtual 171, 3) := by decide +kernel
theorem d_Model_worthy_99 : decode prog_9_method_46_code 99 = .ok (.iload_n 3, 1) := by decide +kernel
theorem d_Model_worthy_100 : decode prog_9_method_46_code 100 = .ok (.ifCond .ne 13, 3) := by decide +kernel
theorem d_Model_worthy_103 : decode prog_9_method_46_code 103 = .ok (.iload 6, 2) := by decide +kernel
theorem d_Model_worthy_105 : decode prog_9_method_46_code 105 = .ok (.iload_n 2, 1) := by decide +kernel
theorem d_Model_worthy_106 : decode prog_9_method_46_code 106 = .ok (.if_icmp .ne 7, 3) := by decide +kernel
theorem d_Model_worthy_109 : decode prog_9_method_46_code 109 = .ok (.iconst 1, 1) := by decide +kernel
theorem d_Model_worthy_110 : decode prog_9_method_46_code 110 = .ok (.goto 4, 3) := by decide +kernel
theorem d_Model_worthy_113 : decode prog_9_method_46_code 113 = .ok (.iconst 0, 1) := by decide +kernel
theorem d_Model_worthy_114 : decode prog_9_method_46_code 114 = .ok (.iadd, 1) := by decide +kernel
theorem d_Model_worthy_115 : decode prog_9_method_46_code 115 = .ok (.iastore, 1) := by decide +kernel
theorem d_Model_worthy_116 : decode prog_9_method_46_code 116 = .ok (.iinc 6 1, 3) := by decide +kernel
theorem d_Model_worthy_119 : decode prog_9_method_46_code 119 = .ok (.goto (-40), 3) := by decide +kernel
theorem d_Model_worthy_122 : decode prog_9_method_46_code 122 = .ok (.aload_n 0, 1) := by decide +kernel
theorem d_Model_worthy_123 : decode prog_9_method_46_code 123 = .ok (.invokevirtual 285, 3) := by decide +kernel
theorem d_Model_worthy_126 : decode prog_9_method_46_code 126 = .ok (.aload_n 0, 1) := by decide +kernel
theorem d_Model_worthy_127 : decode prog_9_method_46_code 127 = .ok (.invokevirtual 288, 3) := by decide +kernel
theorem d_Model_worthy_130 : decode prog_9_method_46_code 130 = .ok (.lor, 1) := by decide +kernel
theorem d_Model_worthy_131 : decode prog_9_method_46_code 131 = .ok (.lstore 6, 2) := by decide +kernel
theorem d_Model_worthy_133 : decode prog_9_method_46_code 133 = .ok (.iload 5, 2) := by decide +kernel
theorem d_Model_worthy_135 : decode prog_9_method_46_code 135 = .ok (.iconst 4, 1) := by decide +kernel
theorem d_Model_worthy_136 : decode prog_9_method_46_code 136 = .ok (.if_icmp .ne 24, 3) := by decide +kernel
theorem d_Model_worthy_139 : decode prog_9_method_46_code 139 = .ok (.aload_n 0, 1) := by decide +kernel
theorem d_Model_worthy_140 : decode prog_9_method_46_code 140 = .ok (.invokevirtual 161, 3) := by decide +kernel
theorem d_Model_worthy_143 : decode prog_9_method_46_code 143 = .ok (.ifCond .eq 17, 3) := by decide +kernel
theorem d_Model_worthy_146 : decode prog_9_method_46_code 146 = .ok (.aload_n 0, 1) := by decide +kernel
theorem d_Model_worthy_147 : decode prog_9_method_46_code 147 = .ok (.aload_n 0, 1) := by decide +kernel
theorem d_Model_worthy_148 : decode prog_9_method_46_code 148 = .ok (.invokevirtual 285, 3) := by decide +kernel
theorem d_Model_worthy_151 : decode prog_9_method_46_code 151 = .ok (.ldc2_w 291, 3) := by decide +kernel
theorem d_Model_worthy_154 : decode prog_9_method_46_code 154 = .ok (.lor, 1) := by decide +kernel
theorem d_Model_worthy_155 : decode prog_9_method_46_code 155 = .ok (.bipush 30, 2) := by decide +kernel
theorem d_Model_worthy_157 : decode prog_9_method_46_code 157 = .ok (.invokevirtual 281, 3) := by decide +kernel
theorem d_Model_worthy_160 : decode prog_9_method_46_code 160 = .ok (.iload 5, 2) := by decide +kernel
theorem d_Model_worthy_162 : decode prog_9_method_46_code 162 = .ok (.iconst 4, 1) := by decide +kernel
theorem d_Model_worthy_163 : decode prog_9_method_46_code 163 = .ok (.if_icmp .ne 22, 3) := by decide +kernel
theorem d_Model_worthy_166 : decode prog_9_method_46_code 166 = .ok (.aload_n 0, 1) := by decide +kernel
theorem d_Model_worthy_167 : decode prog_9_method_46_code 167 = .ok (.invokevirtual 157, 3) := by decide +kernel
theorem d_Model_worthy_170 : decode prog_9_method_46_code 170 = .ok (.ifCond .eq 15, 3) := by decide +kernel
theorem d_Model_worthy_173 : decode prog_9_method_46_code 173 = .ok (.aload_n 0, 1) := by decide +kernel
theorem d_Model_worthy_174 : decode prog_9_method_46_code 174 = .ok (.lload 6, 2) := by decide +kernel
theorem d_Model_worthy_176 : decode prog_9_method_46_code 176 = .ok (.ldc2_w 293, 3) := by decide +kernel
theorem d_Model_worthy_179 : decode prog_9_method_46_code 179 = .ok (.lor, 1) := by decide +kernel
theorem d_Model_worthy_180 : decode prog_9_method_46_code 180 = .ok (.bipush 25, 2) := by decide +kernel
theorem d_Model_worthy_182 : decode prog_9_method_46_code 182 = .ok (.invokevirtual 281, 3) := by decide +kernel
theorem d_Model_worthy_185 : decode prog_9_method_46_code 185 = .ok (.aload_n 0, 1) := by decide +kernel
theorem d_Model_worthy_186 : decode prog_9_method_46_code 186 = .ok (.iconst 0, 1) := by decide +kernel
theorem d_Model_worthy_187 : decode prog_9_method_46_code 187 = .ok (.putfield 137, 3) := by decide +kernel
theorem d_Model_worthy_190 : decode prog_9_method_46_code 190 = .ok (.aload_n 0, 1) := by decide +kernel
theorem d_Model_worthy_191 : decode prog_9_method_46_code 191 = .ok (.getfield 137, 3) := by decide +kernel
theorem d_Model_worthy_194 : decode prog_9_method_46_code 194 = .ok (.bipush 34, 2) := by decide +kernel
theorem d_Model_worthy_196 : decode prog_9_method_46_code 196 = .ok (.if_icmp .ge 66, 3) := by decide +kernel
theorem d_Model_worthy_199 : decode prog_9_method_46_code 199 = .ok (.iconst 0, 1) := by decide +kernel
theorem d_Model_worthy_200 : decode prog_9_method_46_code 200 = .ok (.istore 8, 2) := by decide +kernel
theorem d_Model_worthy_202 : decode prog_9_method_46_code 202 = .ok (.aload_n 0, 1) := by decide +kernel
theorem d_Model_worthy_203 : decode prog_9_method_46_code 203 = .ok (.getfield 60, 3) := by decide +kernel
theorem d_Model_worthy_206 : decode prog_9_method_46_code 206 = .ok (.aload_n 0, 1) := by decide +kernel
theorem d_Model_worthy_207 : decode prog_9_method_46_code 207 = .ok (.getfield 137, 3) := by decide +kernel
theorem d_Model_worthy_210 : decode prog_9_method_46_code 210 = .ok (.iaload, 1) := by decide +kernel
theorem d_Model_worthy_211 : decode prog_9_method_46_code 211 = .ok (.iconst 2, 1) := by decide +kernel
theorem d_Model_worthy_212 : decode prog_9_method_46_code 212 = .ok (.if_icmp .lt 37, 3) := by decide +kernel
theorem d_Model_worthy_215 : decode prog_9_method_46_code 215 = .ok (.iload 8, 2) := by decide +kernel
theorem d_Model_worthy_217 : decode prog_9_method_46_code 217 = .ok (.iconst 1, 1) := by decide +kernel
theorem d_Model_worthy_218 : decode prog_9_method_46_code 218 = .ok (.aload_n 0, 1) := by decide +kernel
theorem d_Model_worthy_219 : decode prog_9_method_46_code 219 = .ok (.invokevirtual 164, 3) := by decide +kernel
theorem d_Model_worthy_222 : decode prog_9_method_46_code 222 = .ok (.ishl, 1) := by decide +kernel
theorem d_Model_worthy_223 : decode prog_9_method_46_code 223 = .ok (.if_icmp .ge 26, 3) := by decide +kernel
theorem d_Model_worthy_226 : decode prog_9_method_46_code 226 = .ok (.aload_n 0, 1) := by decide +kernel
theorem d_Model_worthy_227 : decode prog_9_method_46_code 227 = .ok (.iload 8, 2) := by decide +kernel
theorem d_Model_worthy_229 : decode prog_9_method_46_code 229 = .ok (.iload 5, 2) := by decide +kernel
theorem d_Model_worthy_231 : decode prog_9_method_46_code 231 = .ok (.invokevirtual 167, 3) := by decide +kernel
theorem d_Model_worthy_234 : decode prog_9_method_46_code 234 = .ok (.ifCond .eq 9, 3) := by decide +kernel
theorem d_Model_worthy_237 : decode prog_9_method_46_code 237 = .ok (.aload_n 0, 1) := by decide +kernel
theorem d_Model_worthy_238 : decode prog_9_method_46_code 238 = .ok (.lload 6, 2) := by decide +kernel
theorem d_Model_worthy_240 : decode prog_9_method_46_code 240 = .ok (.invokevirtual 295, 3) := by decide +kernel
theorem d_Model_worthy_243 : decode prog_9_method_46_code 243 = .ok (.iinc 8 1, 3) := by decide +kernel
theorem d_Model_worthy_246 : decode prog_9_method_46_code 246 = .ok (.goto (-44), 3) := by decide +kernel
theorem d_Model_worthy_249 : decode prog_9_method_46_code 249 = .ok (.aload_n 0, 1) := by decide +kernel
theorem d_Model_worthy_250 : decode prog_9_method_46_code 250 = .ok (.dup, 1) := by decide +kernel
theorem d_Model_worthy_251 : decode prog_9_method_46_code 251 = .ok (.getfield 137, 3) := by decide +kernel
theorem d_Model_worthy_254 : decode prog_9_method_46_code 254 = .ok (.iconst 1, 1) := by decide +kernel
theorem d_Model_worthy_255 : decode prog_9_method_46_code 255 = .ok (.iadd, 1) := by decide +kernel
theorem d_Model_worthy_256 : decode prog_9_method_46_code 256 = .ok (.putfield 137, 3) := by decide +kernel
theorem d_Model_worthy_259 : decode prog_9_method_46_code 259 = .ok (.goto (-69), 3) := by decide +kernel
theorem d_Model_worthy_262 : decode prog_9_method_46_code 262 = .ok (.aload_n 0, 1) := by decide +kernel
theorem d_Model_worthy_263 : decode prog_9_method_46_code 263 = .ok (.getfield 266, 3) := by decide +kernel
theorem d_Model_worthy_266 : decode prog_9_method_46_code 266 = .ok (.lconst 0, 1) := by decide +kernel
theorem d_Model_worthy_267 : decode prog_9_method_46_code 267 = .ok (.lcmp, 1) := by decide +kernel
theorem d_Model_worthy_268 : decode prog_9_method_46_code 268 = .ok (.ifCond .eq 7, 3) := by decide +kernel
theorem d_Model_worthy_271 : decode prog_9_method_46_code 271 = .ok (.iconst 1, 1) := by decide +kernel
theorem d_Model_worthy_272 : decode prog_9_method_46_code 272 = .ok (.goto 4, 3) := by decide +kernel
theorem d_Model_worthy_275 : decode prog_9_method_46_code 275 = .ok (.iconst 0, 1) := by decide +kernel
theorem d_Model_worthy_276 : decode prog_9_method_46_code 276 = .ok (.ireturn, 1) := by decide +kernel
theorem d_Model_isTurn_0 : decode prog_9_method_47_code 0 = .ok (.aload_n 0, 1) := by decide +kernel
theorem d_Model_isTurn_1 : decode prog_9_method_47_code 1 = .ok (.getfield 90, 3) := by decide +kernel
theorem d_Model_isTurn_4 : decode prog_9_method_47_code 4 = .ok (.iconst 1, 1) := by decide +kernel
theorem d_Model_isTurn_5 : decode prog_9_method_47_code 5 = .ok (.if_icmp .ne 7, 3) := by decide +kernel
theorem d_Model_isTurn_8 : decode prog_9_method_47_code 8 = .ok (.iconst 1, 1) := by decide +kernel
theorem d_Model_isTurn_9 : decode prog_9_method_47_code 9 = .ok (.goto 4, 3) := by decide +kernel
theorem d_Model_isTurn_12 : decode prog_9_method_47_code 12 = .ok (.iconst 0, 1) := by decide +kernel
theorem d_Model_isTurn_13 : decode prog_9_method_47_code 13 = .ok (.ireturn, 1) := by decide +kernel
theorem d_Model_canRun_0 : decode prog_9_method_50_code 0 = .ok (.iload_n 3, 1) := by decide +kernel
theorem d_Model_canRun_1 : decode prog_9_method_50_code 1 = .ok (.ifCond .lt 34, 3) := by decide +kernel
theorem d_Model_canRun_4 : decode prog_9_method_50_code 4 = .ok (.iload_n 3, 1) := by decide +kernel
theorem d_Model_canRun_5 : decode prog_9_method_50_code 5 = .ok (.bipush 25, 2) := by decide +kernel
theorem d_Model_canRun_7 : decode prog_9_method_50_code 7 = .ok (.if_icmp .ge 28, 3) := by decide +kernel
theorem d_Model_canRun_10 : decode prog_9_method_50_code 10 = .ok (.iload_n 3, 1) := by decide +kernel
theorem d_Model_canRun_11 : decode prog_9_method_50_code 11 = .ok (.invokestatic 147, 3) := by decide +kernel
theorem d_Model_canRun_14 : decode prog_9_method_50_code 14 = .ok (.bipush 8, 2) := by decide +kernel
theorem d_Model_canRun_16 : decode prog_9_method_50_code 16 = .ok (.if_icmp .ge 19, 3) := by decide +kernel
theorem d_Model_canRun_19 : decode prog_9_method_50_code 19 = .ok (.iload_n 2, 1) := by decide +kernel
theorem d_Model_canRun_20 : decode prog_9_method_50_code 20 = .ok (.iload_n 3, 1) := by decide +kernel
theorem d_Model_canRun_21 : decode prog_9_method_50_code 21 = .ok (.if_icmp .lt 14, 3) := by decide +kernel
theorem d_Model_canRun_24 : decode prog_9_method_50_code 24 = .ok (.iload_n 2, 1) := by decide +kernel
theorem d_Model_canRun_25 : decode prog_9_method_50_code 25 = .ok (.iload_n 3, 1) := by decide +kernel
theorem d_Model_canRun_26 : decode prog_9_method_50_code 26 = .ok (.iconst 2, 1) := by decide +kernel
theorem d_Model_canRun_27 : decode prog_9_method_50_code 27 = .ok (.iadd, 1) := by decide +kernel
theorem d_Model_canRun_28 : decode prog_9_method_50_code 28 = .ok (.if_icmp .gt 7, 3) := by decide +kernel
theorem d_Model_canRun_31 : decode prog_9_method_50_code 31 = .ok (.iconst 1, 1) := by decide +kernel
theorem d_Model_canRun_32 : decode prog_9_method_50_code 32 = .ok (.goto 4, 3) := by decide +kernel
theorem d_Model_canRun_35 : decode prog_9_method_50_code 35 = .ok (.iconst 0, 1) := by decide +kernel
theorem d_Model_canRun_36 : decode prog_9_method_50_code 36 = .ok (.istore 4, 2) := by decide +kernel
theorem d_Model_canRun_38 : decode prog_9_method_50_code 38 = .ok (.iload_n 3, 1) := by decide +kernel
theorem d_Model_canRun_39 : decode prog_9_method_50_code 39 = .ok (.istore 5, 2) := by decide +kernel
theorem d_Model_canRun_41 : decode prog_9_method_50_code 41 = .ok (.iload 5, 2) := by decide +kernel
theorem d_Model_canRun_43 : decode prog_9_method_50_code 43 = .ok (.iload_n 3, 1) := by decide +kernel
theorem d_Model_canRun_44 : decode prog_9_method_50_code 44 = .ok (.iconst 2, 1) := by decide +kernel
theorem d_Model_canRun_45 : decode prog_9_method_50_code 45 = .ok (.iadd, 1) := by decide +kernel
theorem d_Model_canRun_46 : decode prog_9_method_50_code 46 = .ok (.if_icmp .gt 42, 3) := by decide +kernel
theorem d_Model_canRun_49 : decode prog_9_method_50_code 49 = .ok (.iload 4, 2) := by decide +kernel
theorem d_Model_canRun_51 : decode prog_9_method_50_code 51 = .ok (.ifCond .eq 37, 3) := by decide +kernel
theorem d_Model_canRun_54 : decode prog_9_method_50_code 54 = .ok (.iload 5, 2) := by decide +kernel
theorem d_Model_canRun_56 : decode prog_9_method_50_code 56 = .ok (.iload_n 2, 1) := by decide +kernel
theorem d_Model_canRun_57 : decode prog_9_method_50_code 57 = .ok (.if_icmp .eq 18, 3) := by decide +kernel
theorem d_Model_canRun_60 : decode prog_9_method_50_code 60 = .ok (.aload_n 0, 1) := by decide +kernel
theorem d_Model_canRun_61 : decode prog_9_method_50_code 61 = .ok (.getfield 16, 3) := by decide +kernel
theorem d_Model_canRun_64 : decode prog_9_method_50_code 64 = .ok (.bipush 34, 2) := by decide +kernel
theorem d_Model_canRun_66 : decode prog_9_method_50_code 66 = .ok (.iload_n 1, 1) := by decide +kernel
theorem d_Model_canRun_67 : decode prog_9_method_50_code 67 = .ok (.imul, 1) := by decide +kernel
theorem d_Model_canRun_68 : decode prog_9_method_50_code 68 = .ok (.iload 5, 2) := by decide +kernel
theorem d_Model_canRun_70 : decode prog_9_method_50_code 70 = .ok (.iadd, 1) := by decide +kernel
theorem d_Model_canRun_71 : decode prog_9_method_50_code 71 = .ok (.iaload, 1) := by decide +kernel
theorem d_Model_canRun_72 : decode prog_9_method_50_code 72 = .ok (.ifCond .le 7, 3) := by decide +kernel
theorem d_Model_canRun_75 : decode prog_9_method_50_code 75 = .ok (.iconst 1, 1) := by decide +kernel
theorem d_Model_canRun_76 : decode prog_9_method_50_code 76 = .ok (.goto 4, 3) := by decide +kernel
theorem d_Model_canRun_79 : decode prog_9_method_50_code 79 = .ok (.iconst 0, 1) := by decide +kernel
theorem d_Model_canRun_80 : decode prog_9_method_50_code 80 = .ok (.istore 4, 2) := by decide +kernel
theorem d_Model_canRun_82 : decode prog_9_method_50_code 82 = .ok (.iinc 5 1, 3) := by decide +kernel
theorem d_Model_canRun_85 : decode prog_9_method_50_code 85 = .ok (.goto (-44), 3) := by decide +kernel
theorem d_Model_canRun_88 : decode prog_9_method_50_code 88 = .ok (.iload 4, 2) := by decide +kernel
theorem d_Model_canRun_90 : decode prog_9_method_50_code 90 = .ok (.ireturn, 1) := by decide +kernel
theorem d_Model_runOptions_0 : decode prog_9_method_49_code 0 = .ok (.iconst 0, 1) := by decide +kernel
theorem d_Model_runOptions_1 : decode prog_9_method_49_code 1 = .ok (.istore_n 3, 1) := by decide +kernel
theorem d_Model_runOptions_2 : decode prog_9_method_49_code 2 = .ok (.iload_n 2, 1) := by decide +kernel
theorem d_Model_runOptions_3 : decode prog_9_method_49_code 3 = .ok (.iconst 2, 1) := by decide +kernel
theorem d_Model_runOptions_4 : decode prog_9_method_49_code 4 = .ok (.isub, 1) := by decide +kernel
theorem d_Model_runOptions_5 : decode prog_9_method_49_code 5 = .ok (.istore 4, 2) := by decide +kernel
theorem d_Model_runOptions_7 : decode prog_9_method_49_code 7 = .ok (.iload 4, 2) := by decide +kernel
theorem d_Model_runOptions_9 : decode prog_9_method_49_code 9 = .ok (.iload_n 2, 1) := by decide +kernel
theorem d_Model_runOptions_10 : decode prog_9_method_49_code 10 = .ok (.if_icmp .gt 30, 3) := by decide +kernel
theorem d_Model_runOptions_13 : decode prog_9_method_49_code 13 = .ok (.iload_n 3, 1) := by decide +kernel
theorem d_Model_runOptions_14 : decode prog_9_method_49_code 14 = .ok (.ifCond .ne 14, 3) := by decide +kernel
theorem d_Model_runOptions_17 : decode prog_9_method_49_code 17 = .ok (.aload_n 0, 1) := by decide +kernel
theorem d_Model_runOptions_18 : decode prog_9_method_49_code 18 = .ok (.iload_n 1, 1) := by decide +kernel
theorem d_Model_runOptions_19 : decode prog_9_method_49_code 19 = .ok (.iload_n 2, 1) := by decide +kernel
theorem d_Model_runOptions_20 : decode prog_9_method_49_code 20 = .ok (.iload 4, 2) := by decide +kernel
theorem d_Model_runOptions_22 : decode prog_9_method_49_code 22 = .ok (.invokevirtual 306, 3) := by decide +kernel
theorem d_Model_runOptions_25 : decode prog_9_method_49_code 25 = .ok (.ifCond .eq 7, 3) := by decide +kernel
theorem d_Model_runOptions_28 : decode prog_9_method_49_code 28 = .ok (.iconst 1, 1) := by decide +kernel
theorem d_Model_runOptions_29 : decode prog_9_method_49_code 29 = .ok (.goto 4, 3) := by decide +kernel
theorem d_Model_runOptions_32 : decode prog_9_method_49_code 32 = .ok (.iconst 0, 1) := by decide +kernel
theorem d_Model_runOptions_33 : decode prog_9_method_49_code 33 = .ok (.istore_n 3, 1) := by decide +kernel
theorem d_Model_runOptions_34 : decode prog_9_method_49_code 34 = .ok (.iinc 4 1, 3) := by decide +kernel
theorem d_Model_runOptions_37 : decode prog_9_method_49_code 37 = .ok (.goto (-30), 3) := by decide +kernel
theorem d_Model_runOptions_40 : decode prog_9_method_49_code 40 = .ok (.iload_n 3, 1) := by decide +kernel
theorem d_Model_runOptions_41 : decode prog_9_method_49_code 41 = .ok (.ifCond .eq 7, 3) := by decide +kernel
theorem d_Model_runOptions_44 : decode prog_9_method_49_code 44 = .ok (.iconst 2, 1) := by decide +kernel
theorem d_Model_runOptions_45 : decode prog_9_method_49_code 45 = .ok (.goto 4, 3) := by decide +kernel
theorem d_Model_runOptions_48 : decode prog_9_method_49_code 48 = .ok (.iconst 0, 1) := by decide +kernel
theorem d_Model_runOptions_49 : decode prog_9_method_49_code 49 = .ok (.ireturn, 1) := by decide +kernel
theorem d_Model_answered_0 : decode prog_9_method_54_code 0 = .ok (.iconst (-1), 1) := by decide +kernel
theorem d_Model_answered_1 : decode prog_9_method_54_code 1 = .ok (.istore_n 2, 1) := by decide +kernel
theorem d_Model_answered_2 : decode prog_9_method_54_code 2 = .ok (.iconst 3, 1) := by decide +kernel
theorem d_Model_answered_3 : decode prog_9_method_54_code 3 = .ok (.istore_n 3, 1) := by decide +kernel
theorem d_Model_answered_4 : decode prog_9_method_54_code 4 = .ok (.iload_n 3, 1) := by decide +kernel
theorem d_Model_answered_5 : decode prog_9_method_54_code 5 = .ok (.ifCond .le 37, 3) := by decide +kernel
theorem d_Model_answered_8 : decode prog_9_method_54_code 8 = .ok (.aload_n 0, 1) := by decide +kernel
theorem d_Model_answered_9 : decode prog_9_method_54_code 9 = .ok (.getfield 113, 3) := by decide +kernel
theorem d_Model_answered_12 : decode prog_9_method_54_code 12 = .ok (.iload_n 3, 1) := by decide +kernel
theorem d_Model_answered_13 : decode prog_9_method_54_code 13 = .ok (.iadd, 1) := by decide +kernel
theorem d_Model_answered_14 : decode prog_9_method_54_code 14 = .ok (.iconst 4, 1) := by decide +kernel
theorem d_Model_answered_15 : decode prog_9_method_54_code 15 = .ok (.irem, 1) := by decide +kernel
theorem d_Model_answered_16 : decode prog_9_method_54_code 16 = .ok (.istore 4, 2) := by decide +kernel
theorem d_Model_answered_18 : decode prog_9_method_54_code 18 = .ok (.aload_n 0, 1) := by decide +kernel
theorem d_Model_answered_19 : decode prog_9_method_54_code 19 = .ok (.getfield 47, 3) := by decide +kernel
theorem d_Model_answered_22 : decode prog_9_method_54_code 22 = .ok (.iload 4, 2) := by decide +kernel
theorem d_Model_answered_24 : decode prog_9_method_54_code 24 = .ok (.iaload, 1) := by decide +kernel
theorem d_Model_answered_25 : decode prog_9_method_54_code 25 = .ok (.iload_n 1, 1) := by decide +kernel
theorem d_Model_answered_26 : decode prog_9_method_54_code 26 = .ok (.if_icmp .ne 8, 3) := by decide +kernel
theorem d_Model_answered_29 : decode prog_9_method_54_code 29 = .ok (.iload 4, 2) := by decide +kernel
theorem d_Model_answered_31 : decode prog_9_method_54_code 31 = .ok (.goto 4, 3) := by decide +kernel
theorem d_Model_answered_34 : decode prog_9_method_54_code 34 = .ok (.iload_n 2, 1) := by decide +kernel
theorem d_Model_answered_35 : decode prog_9_method_54_code 35 = .ok (.istore_n 2, 1) := by decide +kernel
theorem d_Model_answered_36 : decode prog_9_method_54_code 36 = .ok (.iinc 3 (-1), 3) := by decide +kernel
theorem d_Model_answered_39 : decode prog_9_method_54_code 39 = .ok (.goto (-35), 3) := by decide +kernel
theorem d_Model_answered_42 : decode prog_9_method_54_code 42 = .ok (.iload_n 2, 1) := by decide +kernel
theorem d_Model_answered_43 : decode prog_9_method_54_code 43 = .ok (.ireturn, 1) := by decide +kernel
theorem d_Model_stopEarly_0 : decode prog_9_method_57_code 0 = .ok (.aload_n 0, 1) := by decide +kernel
theorem d_Model_stopEarly_1 : decode prog_9_method_57_code 1 = .ok (.iconst 1, 1) := by decide +kernel
theorem d_Model_stopEarly_2 : decode prog_9_method_57_code 2 = .ok (.putfield 102, 3) := by decide +kernel
theorem d_Model_stopEarly_5 : decode prog_9_method_57_code 5 = .ok (.iconst 0, 1) := by decide +kernel
theorem d_Model_stopEarly_6 : decode prog_9_method_57_code 6 = .ok (.istore_n 1, 1) := by decide +kernel
theorem d_Model_stopEarly_7 : decode prog_9_method_57_code 7 = .ok (.iload_n 1, 1) := by decide +kernel
theorem d_Model_stopEarly_8 : decode prog_9_method_57_code 8 = .ok (.iconst 4, 1) := by decide +kernel
theorem d_Model_stopEarly_9 : decode prog_9_method_57_code 9 = .ok (.if_icmp .ge 16, 3) := by decide +kernel
theorem d_Model_stopEarly_12 : decode prog_9_method_57_code 12 = .ok (.aload_n 0, 1) := by decide +kernel
theorem d_Model_stopEarly_13 : decode prog_9_method_57_code 13 = .ok (.getfield 37, 3) := by decide +kernel
theorem d_Model_stopEarly_16 : decode prog_9_method_57_code 16 = .ok (.iload_n 1, 1) := by decide +kernel
theorem d_Model_stopEarly_17 : decode prog_9_method_57_code 17 = .ok (.iconst 0, 1) := by decide +kernel
theorem d_Model_stopEarly_18 : decode prog_9_method_57_code 18 = .ok (.bastore, 1) := by decide +kernel
theorem d_Model_stopEarly_19 : decode prog_9_method_57_code 19 = .ok (.iinc 1 1, 3) := by decide +kernel
theorem d_Model_stopEarly_22 : decode prog_9_method_57_code 22 = .ok (.goto (-15), 3) := by decide +kernel
theorem d_Model_stopEarly_25 : decode prog_9_method_57_code 25 = .ok (.return_, 1) := by decide +kernel
theorem d_Model_completeQuad_0 : decode prog_9_method_60_code 0 = .ok (.aload_n 0, 1) := by decide +kernel
theorem d_Model_completeQuad_1 : decode prog_9_method_60_code 1 = .ok (.dup, 1) := by decide +kernel
theorem d_Model_completeQuad_2 : decode prog_9_method_60_code 2 = .ok (.getfield 93, 3) := by decide +kernel
theorem d_Model_completeQuad_5 : decode prog_9_method_60_code 5 = .ok (.iconst 1, 1) := by decide +kernel
theorem d_Model_completeQuad_6 : decode prog_9_method_60_code 6 = .ok (.iadd, 1) := by decide +kernel
theorem d_Model_completeQuad_7 : decode prog_9_method_60_code 7 = .ok (.putfield 93, 3) := by decide +kernel
theorem d_Model_completeQuad_10 : decode prog_9_method_60_code 10 = .ok (.aload_n 0, 1) := by decide +kernel
theorem d_Model_completeQuad_11 : decode prog_9_method_60_code 11 = .ok (.invokevirtual 353, 3) := by decide +kernel
theorem d_Model_completeQuad_14 : decode prog_9_method_60_code 14 = .ok (.aload_n 0, 1) := by decide +kernel
theorem d_Model_completeQuad_15 : decode prog_9_method_60_code 15 = .ok (.iload_n 1, 1) := by decide +kernel
theorem d_Model_completeQuad_16 : decode prog_9_method_60_code 16 = .ok (.aload_n 0, 1) := by decide +kernel
theorem d_Model_completeQuad_17 : decode prog_9_method_60_code 17 = .ok (.getfield 7, 3) := by decide +kernel
theorem d_Model_completeQuad_20 : decode prog_9_method_60_code 20 = .ok (.sipush 136, 3) := by decide +kernel
theorem d_Model_completeQuad_23 : decode prog_9_method_60_code 23 = .ok (.aload_n 0, 1) := by decide +kernel
theorem d_Model_completeQuad_24 : decode prog_9_method_60_code 24 = .ok (.getfield 93, 3) := by decide +kernel
theorem d_Model_completeQuad_27 : decode prog_9_method_60_code 27 = .ok (.isub, 1) := by decide +kernel
theorem d_Model_completeQuad_28 : decode prog_9_method_60_code 28 = .ok (.iaload, 1) := by decide +kernel
theorem d_Model_completeQuad_29 : decode prog_9_method_60_code 29 = .ok (.iconst 1, 1) := by decide +kernel
theorem d_Model_completeQuad_30 : decode prog_9_method_60_code 30 = .ok (.invokevirtual 129, 3) := by decide +kernel
theorem d_Model_completeQuad_33 : decode prog_9_method_60_code 33 = .ok (.return_, 1) := by decide +kernel
theorem d_Model_lay_0 : decode prog_9_method_58_code 0 = .ok (.aload_n 0, 1) := by decide +kernel
theorem d_Model_lay_1 : decode prog_9_method_58_code 1 = .ok (.getfield 22, 3) := by decide +kernel
theorem d_Model_lay_4 : decode prog_9_method_58_code 4 = .ok (.iconst 4, 1) := by decide +kernel
theorem d_Model_lay_5 : decode prog_9_method_58_code 5 = .ok (.iload_n 1, 1) := by decide +kernel
theorem d_Model_lay_6 : decode prog_9_method_58_code 6 = .ok (.imul, 1) := by decide +kernel
theorem d_Model_lay_7 : decode prog_9_method_58_code 7 = .ok (.aload_n 0, 1) := by decide +kernel
theorem d_Model_lay_8 : decode prog_9_method_58_code 8 = .ok (.getfield 19, 3) := by decide +kernel
theorem d_Model_lay_11 : decode prog_9_method_58_code 11 = .ok (.iload_n 1, 1) := by decide +kernel
theorem d_Model_lay_12 : decode prog_9_method_58_code 12 = .ok (.iaload, 1) := by decide +kernel
theorem d_Model_lay_13 : decode prog_9_method_58_code 13 = .ok (.iadd, 1) := by decide +kernel
theorem d_Model_lay_14 : decode prog_9_method_58_code 14 = .ok (.iload_n 3, 1) := by decide +kernel
theorem d_Model_lay_15 : decode prog_9_method_58_code 15 = .ok (.iastore, 1) := by decide +kernel
theorem d_Model_lay_16 : decode prog_9_method_58_code 16 = .ok (.aload_n 0, 1) := by decide +kernel
theorem d_Model_lay_17 : decode prog_9_method_58_code 17 = .ok (.getfield 25, 3) := by decide +kernel
theorem d_Model_lay_20 : decode prog_9_method_58_code 20 = .ok (.iconst 4, 1) := by decide +kernel
theorem d_Model_lay_21 : decode prog_9_method_58_code 21 = .ok (.iload_n 1, 1) := by decide +kernel
theorem d_Model_lay_22 : decode prog_9_method_58_code 22 = .ok (.imul, 1) := by decide +kernel
theorem d_Model_lay_23 : decode prog_9_method_58_code 23 = .ok (.aload_n 0, 1) := by decide +kernel
theorem d_Model_lay_24 : decode prog_9_method_58_code 24 = .ok (.getfield 19, 3) := by decide +kernel
theorem d_Model_lay_27 : decode prog_9_method_58_code 27 = .ok (.iload_n 1, 1) := by decide +kernel
theorem d_Model_lay_28 : decode prog_9_method_58_code 28 = .ok (.iaload, 1) := by decide +kernel
theorem d_Model_lay_29 : decode prog_9_method_58_code 29 = .ok (.iadd, 1) := by decide +kernel
theorem d_Model_lay_30 : decode prog_9_method_58_code 30 = .ok (.iload_n 2, 1) := by decide +kernel
theorem d_Model_lay_31 : decode prog_9_method_58_code 31 = .ok (.iastore, 1) := by decide +kernel
theorem d_Model_lay_32 : decode prog_9_method_58_code 32 = .ok (.aload_n 0, 1) := by decide +kernel
theorem d_Model_lay_33 : decode prog_9_method_58_code 33 = .ok (.getfield 19, 3) := by decide +kernel
theorem d_Model_lay_36 : decode prog_9_method_58_code 36 = .ok (.iload_n 1, 1) := by decide +kernel
theorem d_Model_lay_37 : decode prog_9_method_58_code 37 = .ok (.dup2, 1) := by decide +kernel
theorem d_Model_lay_38 : decode prog_9_method_58_code 38 = .ok (.iaload, 1) := by decide +kernel
theorem d_Model_lay_39 : decode prog_9_method_58_code 39 = .ok (.iconst 1, 1) := by decide +kernel
theorem d_Model_lay_40 : decode prog_9_method_58_code 40 = .ok (.iadd, 1) := by decide +kernel
theorem d_Model_lay_41 : decode prog_9_method_58_code 41 = .ok (.iastore, 1) := by decide +kernel
theorem d_Model_lay_42 : decode prog_9_method_58_code 42 = .ok (.return_, 1) := by decide +kernel
theorem d_Model_call_0 : decode prog_9_method_59_code 0 = .ok (.aload_n 0, 1) := by decide +kernel
theorem d_Model_call_1 : decode prog_9_method_59_code 1 = .ok (.iconst 3, 1) := by decide +kernel
theorem d_Model_call_2 : decode prog_9_method_59_code 2 = .ok (.invokevirtual 331, 3) := by decide +kernel
theorem d_Model_call_5 : decode prog_9_method_59_code 5 = .ok (.istore_n 1, 1) := by decide +kernel
theorem d_Model_call_6 : decode prog_9_method_59_code 6 = .ok (.iconst 2, 1) := by decide +kernel
theorem d_Model_call_7 : decode prog_9_method_59_code 7 = .ok (.istore_n 2, 1) := by decide +kernel
theorem d_Model_call_8 : decode prog_9_method_59_code 8 = .ok (.iload_n 1, 1) := by decide +kernel
theorem d_Model_call_9 : decode prog_9_method_59_code 9 = .ok (.ifCond .ge 11, 3) := by decide +kernel
theorem d_Model_call_12 : decode prog_9_method_59_code 12 = .ok (.aload_n 0, 1) := by decide +kernel
theorem d_Model_call_13 : decode prog_9_method_59_code 13 = .ok (.iconst 2, 1) := by decide +kernel
theorem d_Model_call_14 : decode prog_9_method_59_code 14 = .ok (.invokevirtual 331, 3) := by decide +kernel
theorem d_Model_call_17 : decode prog_9_method_59_code 17 = .ok (.istore_n 1, 1) := by decide +kernel
theorem d_Model_call_18 : decode prog_9_method_59_code 18 = .ok (.iconst 1, 1) := by decide +kernel
theorem d_Model_call_19 : decode prog_9_method_59_code 19 = .ok (.istore_n 2, 1) := by decide +kernel
theorem d_Model_call_20 : decode prog_9_method_59_code 20 = .ok (.iload_n 1, 1) := by decide +kernel
theorem d_Model_call_21 : decode prog_9_method_59_code 21 = .ok (.ifCond .ge 11, 3) := by decide +kernel
theorem d_Model_call_24 : decode prog_9_method_59_code 24 = .ok (.aload_n 0, 1) := by decide +kernel
theorem d_Model_call_25 : decode prog_9_method_59_code 25 = .ok (.iconst 1, 1) := by decide +kernel
theorem d_Model_call_26 : decode prog_9_method_59_code 26 = .ok (.invokevirtual 331, 3) := by decide +kernel
theorem d_Model_call_29 : decode prog_9_method_59_code 29 = .ok (.istore_n 1, 1) := by decide +kernel
theorem d_Model_call_30 : decode prog_9_method_59_code 30 = .ok (.iconst 0, 1) := by decide +kernel
theorem d_Model_call_31 : decode prog_9_method_59_code 31 = .ok (.istore_n 2, 1) := by decide +kernel
theorem d_Model_call_32 : decode prog_9_method_59_code 32 = .ok (.iload_n 2, 1) := by decide +kernel
theorem d_Model_call_33 : decode prog_9_method_59_code 33 = .ok (.ifCond .ne 12, 3) := by decide +kernel
theorem d_Model_call_36 : decode prog_9_method_59_code 36 = .ok (.aload_n 0, 1) := by decide +kernel
theorem d_Model_call_37 : decode prog_9_method_59_code 37 = .ok (.getfield 50, 3) := by decide +kernel
theorem d_Model_call_40 : decode prog_9_method_59_code 40 = .ok (.iload_n 1, 1) := by decide +kernel
theorem d_Model_call_41 : decode prog_9_method_59_code 41 = .ok (.iaload, 1) := by decide +kernel
theorem d_Model_call_42 : decode prog_9_method_59_code 42 = .ok (.goto 7, 3) := by decide +kernel
theorem d_Model_call_45 : decode prog_9_method_59_code 45 = .ok (.aload_n 0, 1) := by decide +kernel
theorem d_Model_call_46 : decode prog_9_method_59_code 46 = .ok (.getfield 309, 3) := by decide +kernel
theorem d_Model_call_49 : decode prog_9_method_59_code 49 = .ok (.istore_n 3, 1) := by decide +kernel
theorem d_Model_call_50 : decode prog_9_method_59_code 50 = .ok (.iload_n 3, 1) := by decide +kernel
theorem d_Model_call_51 : decode prog_9_method_59_code 51 = .ok (.istore 4, 2) := by decide +kernel
theorem d_Model_call_53 : decode prog_9_method_59_code 53 = .ok (.iload 4, 2) := by decide +kernel
theorem d_Model_call_55 : decode prog_9_method_59_code 55 = .ok (.iload_n 3, 1) := by decide +kernel
theorem d_Model_call_56 : decode prog_9_method_59_code 56 = .ok (.iconst 3, 1) := by decide +kernel
theorem d_Model_call_57 : decode prog_9_method_59_code 57 = .ok (.iadd, 1) := by decide +kernel
theorem d_Model_call_58 : decode prog_9_method_59_code 58 = .ok (.if_icmp .ge 42, 3) := by decide +kernel
theorem d_Model_call_61 : decode prog_9_method_59_code 61 = .ok (.iload_n 2, 1) := by decide +kernel
theorem d_Model_call_62 : decode prog_9_method_59_code 62 = .ok (.ifCond .ne 38, 3) := by decide +kernel
theorem d_Model_call_65 : decode prog_9_method_59_code 65 = .ok (.aload_n 0, 1) := by decide +kernel
theorem d_Model_call_66 : decode prog_9_method_59_code 66 = .ok (.getfield 16, 3) := by decide +kernel
theorem d_Model_call_69 : decode prog_9_method_59_code 69 = .ok (.bipush 34, 2) := by decide +kernel
theorem d_Model_call_71 : decode prog_9_method_59_code 71 = .ok (.iload_n 1, 1) := by decide +kernel
theorem d_Model_call_72 : decode prog_9_method_59_code 72 = .ok (.imul, 1) := by decide +kernel
theorem d_Model_call_73 : decode prog_9_method_59_code 73 = .ok (.iload 4, 2) := by decide +kernel
theorem d_Model_call_75 : decode prog_9_method_59_code 75 = .ok (.iadd, 1) := by decide +kernel
theorem d_Model_call_76 : decode prog_9_method_59_code 76 = .ok (.dup2, 1) := by decide +kernel
theorem d_Model_call_77 : decode prog_9_method_59_code 77 = .ok (.iaload, 1) := by decide +kernel
theorem d_Model_call_78 : decode prog_9_method_59_code 78 = .ok (.iload 4, 2) := by decide +kernel
theorem d_Model_call_80 : decode prog_9_method_59_code 80 = .ok (.aload_n 0, 1) := by decide +kernel
theorem d_Model_call_81 : decode prog_9_method_59_code 81 = .ok (.getfield 309, 3) := by decide +kernel
theorem d_Model_call_84 : decode prog_9_method_59_code 84 = .ok (.if_icmp .ne 7, 3) := by decide +kernel
theorem d_Model_call_87 : decode prog_9_method_59_code 87 = .ok (.iconst 0, 1) := by decide +kernel
theorem d_Model_call_88 : decode prog_9_method_59_code 88 = .ok (.goto 4, 3) := by decide +kernel
theorem d_Model_call_91 : decode prog_9_method_59_code 91 = .ok (.iconst 1, 1) := by decide +kernel
theorem d_Model_call_92 : decode prog_9_method_59_code 92 = .ok (.isub, 1) := by decide +kernel
theorem d_Model_call_93 : decode prog_9_method_59_code 93 = .ok (.iastore, 1) := by decide +kernel
theorem d_Model_call_94 : decode prog_9_method_59_code 94 = .ok (.iinc 4 1, 3) := by decide +kernel
theorem d_Model_call_97 : decode prog_9_method_59_code 97 = .ok (.goto (-44), 3) := by decide +kernel
theorem d_Model_call_100 : decode prog_9_method_59_code 100 = .ok (.aload_n 0, 1) := by decide +kernel
theorem d_Model_call_101 : decode prog_9_method_59_code 101 = .ok (.getfield 16, 3) := by decide +kernel
theorem d_Model_call_104 : decode prog_9_method_59_code 104 = .ok (.bipush 34, 2) := by decide +kernel
theorem d_Model_call_106 : decode prog_9_method_59_code 106 = .ok (.iload_n 1, 1) := by decide +kernel
theorem d_Model_call_107 : decode prog_9_method_59_code 107 = .ok (.imul, 1) := by decide +kernel
theorem d_Model_call_108 : decode prog_9_method_59_code 108 = .ok (.aload_n 0, 1) := by decide +kernel
theorem d_Model_call_109 : decode prog_9_method_59_code 109 = .ok (.getfield 309, 3) := by decide +kernel
theorem d_Model_call_112 : decode prog_9_method_59_code 112 = .ok (.iadd, 1) := by decide +kernel
theorem d_Model_call_113 : decode prog_9_method_59_code 113 = .ok (.dup2, 1) := by decide +kernel
theorem d_Model_call_114 : decode prog_9_method_59_code 114 = .ok (.iaload, 1) := by decide +kernel
theorem d_Model_call_115 : decode prog_9_method_59_code 115 = .ok (.iload_n 2, 1) := by decide +kernel
theorem d_Model_call_116 : decode prog_9_method_59_code 116 = .ok (.iconst 2, 1) := by decide +kernel
theorem d_Model_call_117 : decode prog_9_method_59_code 117 = .ok (.if_icmp .ne 7, 3) := by decide +kernel
theorem d_Model_call_120 : decode prog_9_method_59_code 120 = .ok (.iconst 3, 1) := by decide +kernel
theorem d_Model_call_121 : decode prog_9_method_59_code 121 = .ok (.goto 13, 3) := by decide +kernel
theorem d_Model_call_124 : decode prog_9_method_59_code 124 = .ok (.iload_n 2, 1) := by decide +kernel
theorem d_Model_call_125 : decode prog_9_method_59_code 125 = .ok (.iconst 1, 1) := by decide +kernel
theorem d_Model_call_126 : decode prog_9_method_59_code 126 = .ok (.if_icmp .ne 7, 3) := by decide +kernel
theorem d_Model_call_129 : decode prog_9_method_59_code 129 = .ok (.iconst 2, 1) := by decide +kernel
theorem d_Model_call_130 : decode prog_9_method_59_code 130 = .ok (.goto 4, 3) := by decide +kernel
theorem d_Model_call_133 : decode prog_9_method_59_code 133 = .ok (.iconst 0, 1) := by decide +kernel
theorem d_Model_call_134 : decode prog_9_method_59_code 134 = .ok (.isub, 1) := by decide +kernel
theorem d_Model_call_135 : decode prog_9_method_59_code 135 = .ok (.iastore, 1) := by decide +kernel
theorem d_Model_call_136 : decode prog_9_method_59_code 136 = .ok (.aload_n 0, 1) := by decide +kernel
theorem d_Model_call_137 : decode prog_9_method_59_code 137 = .ok (.iload_n 1, 1) := by decide +kernel
theorem d_Model_call_138 : decode prog_9_method_59_code 138 = .ok (.iload_n 2, 1) := by decide +kernel
theorem d_Model_call_139 : decode prog_9_method_59_code 139 = .ok (.iload_n 3, 1) := by decide +kernel
theorem d_Model_call_140 : decode prog_9_method_59_code 140 = .ok (.invokevirtual 349, 3) := by decide +kernel
theorem d_Model_call_143 : decode prog_9_method_59_code 143 = .ok (.aload_n 0, 1) := by decide +kernel
theorem d_Model_call_144 : decode prog_9_method_59_code 144 = .ok (.invokevirtual 353, 3) := by decide +kernel
theorem d_Model_call_147 : decode prog_9_method_59_code 147 = .ok (.aload_n 0, 1) := by decide +kernel
theorem d_Model_call_148 : decode prog_9_method_59_code 148 = .ok (.getfield 41, 3) := by decide +kernel
theorem d_Model_call_151 : decode prog_9_method_59_code 151 = .ok (.iload_n 1, 1) := by decide +kernel
theorem d_Model_call_152 : decode prog_9_method_59_code 152 = .ok (.aload_n 0, 1) := by decide +kernel
theorem d_Model_call_153 : decode prog_9_method_59_code 153 = .ok (.getfield 41, 3) := by decide +kernel
theorem d_Model_call_156 : decode prog_9_method_59_code 156 = .ok (.iload_n 1, 1) := by decide +kernel
theorem d_Model_call_157 : decode prog_9_method_59_code 157 = .ok (.baload, 1) := by decide +kernel
theorem d_Model_call_158 : decode prog_9_method_59_code 158 = .ok (.ifCond .eq 16, 3) := by decide +kernel
theorem d_Model_call_161 : decode prog_9_method_59_code 161 = .ok (.aload_n 0, 1) := by decide +kernel
theorem d_Model_call_162 : decode prog_9_method_59_code 162 = .ok (.getfield 34, 3) := by decide +kernel
theorem d_Model_call_165 : decode prog_9_method_59_code 165 = .ok (.iload_n 1, 1) := by decide +kernel
theorem d_Model_call_166 : decode prog_9_method_59_code 166 = .ok (.iaload, 1) := by decide +kernel
theorem d_Model_call_167 : decode prog_9_method_59_code 167 = .ok (.ifCond .le 7, 3) := by decide +kernel
theorem d_Model_call_170 : decode prog_9_method_59_code 170 = .ok (.iconst 1, 1) := by decide +kernel
theorem d_Model_call_171 : decode prog_9_method_59_code 171 = .ok (.goto 4, 3) := by decide +kernel
theorem d_Model_call_174 : decode prog_9_method_59_code 174 = .ok (.iconst 0, 1) := by decide +kernel
theorem d_Model_call_175 : decode prog_9_method_59_code 175 = .ok (.bastore, 1) := by decide +kernel
theorem d_Model_call_176 : decode prog_9_method_59_code 176 = .ok (.iload_n 2, 1) := by decide +kernel
theorem d_Model_call_177 : decode prog_9_method_59_code 177 = .ok (.iconst 2, 1) := by decide +kernel
theorem d_Model_call_178 : decode prog_9_method_59_code 178 = .ok (.if_icmp .ne 11, 3) := by decide +kernel
theorem d_Model_call_181 : decode prog_9_method_59_code 181 = .ok (.aload_n 0, 1) := by decide +kernel
theorem d_Model_call_182 : decode prog_9_method_59_code 182 = .ok (.iload_n 1, 1) := by decide +kernel
theorem d_Model_call_183 : decode prog_9_method_59_code 183 = .ok (.invokevirtual 356, 3) := by decide +kernel
theorem d_Model_call_186 : decode prog_9_method_59_code 186 = .ok (.goto 23, 3) := by decide +kernel
theorem d_Model_call_189 : decode prog_9_method_59_code 189 = .ok (.aload_n 0, 1) := by decide +kernel
theorem d_Model_call_190 : decode prog_9_method_59_code 190 = .ok (.iload_n 1, 1) := by decide +kernel
theorem d_Model_call_191 : decode prog_9_method_59_code 191 = .ok (.putfield 113, 3) := by decide +kernel
theorem d_Model_call_194 : decode prog_9_method_59_code 194 = .ok (.aload_n 0, 1) := by decide +kernel
theorem d_Model_call_195 : decode prog_9_method_59_code 195 = .ok (.iconst (-1), 1) := by decide +kernel
theorem d_Model_call_196 : decode prog_9_method_59_code 196 = .ok (.putfield 116, 3) := by decide +kernel
theorem d_Model_call_199 : decode prog_9_method_59_code 199 = .ok (.aload_n 0, 1) := by decide +kernel
theorem d_Model_call_200 : decode prog_9_method_59_code 200 = .ok (.iconst 0, 1) := by decide +kernel
theorem d_Model_call_201 : decode prog_9_method_59_code 201 = .ok (.putfield 119, 3) := by decide +kernel
theorem d_Model_call_204 : decode prog_9_method_59_code 204 = .ok (.aload_n 0, 1) := by decide +kernel
theorem d_Model_call_205 : decode prog_9_method_59_code 205 = .ok (.iconst 1, 1) := by decide +kernel
theorem d_Model_call_206 : decode prog_9_method_59_code 206 = .ok (.putfield 90, 3) := by decide +kernel
theorem d_Model_call_209 : decode prog_9_method_59_code 209 = .ok (.return_, 1) := by decide +kernel
theorem d_Model_tripletPlace_0 : decode prog_9_method_61_code 0 = .ok (.iconst (-1), 1) := by decide +kernel
theorem d_Model_tripletPlace_1 : decode prog_9_method_61_code 1 = .ok (.istore_n 3, 1) := by decide +kernel
theorem d_Model_tripletPlace_2 : decode prog_9_method_61_code 2 = .ok (.iconst 4, 1) := by decide +kernel
theorem d_Model_tripletPlace_3 : decode prog_9_method_61_code 3 = .ok (.iload_n 1, 1) := by decide +kernel
theorem d_Model_tripletPlace_4 : decode prog_9_method_61_code 4 = .ok (.imul, 1) := by decide +kernel
theorem d_Model_tripletPlace_5 : decode prog_9_method_61_code 5 = .ok (.istore 4, 2) := by decide +kernel
theorem d_Model_tripletPlace_7 : decode prog_9_method_61_code 7 = .ok (.iload 4, 2) := by decide +kernel
theorem d_Model_tripletPlace_9 : decode prog_9_method_61_code 9 = .ok (.iconst 4, 1) := by decide +kernel
theorem d_Model_tripletPlace_10 : decode prog_9_method_61_code 10 = .ok (.iload_n 1, 1) := by decide +kernel
theorem d_Model_tripletPlace_11 : decode prog_9_method_61_code 11 = .ok (.imul, 1) := by decide +kernel
theorem d_Model_tripletPlace_12 : decode prog_9_method_61_code 12 = .ok (.aload_n 0, 1) := by decide +kernel
theorem d_Model_tripletPlace_13 : decode prog_9_method_61_code 13 = .ok (.getfield 19, 3) := by decide +kernel
theorem d_Model_tripletPlace_16 : decode prog_9_method_61_code 16 = .ok (.iload_n 1, 1) := by decide +kernel
theorem d_Model_tripletPlace_17 : decode prog_9_method_61_code 17 = .ok (.iaload, 1) := by decide +kernel
theorem d_Model_tripletPlace_18 : decode prog_9_method_61_code 18 = .ok (.iadd, 1) := by decide +kernel
theorem d_Model_tripletPlace_19 : decode prog_9_method_61_code 19 = .ok (.if_icmp .ge 38, 3) := by decide +kernel
theorem d_Model_tripletPlace_22 : decode prog_9_method_61_code 22 = .ok (.aload_n 0, 1) := by decide +kernel
theorem d_Model_tripletPlace_23 : decode prog_9_method_61_code 23 = .ok (.getfield 25, 3) := by decide +kernel
theorem d_Model_tripletPlace_26 : decode prog_9_method_61_code 26 = .ok (.iload 4, 2) := by decide +kernel
theorem d_Model_tripletPlace_28 : decode prog_9_method_61_code 28 = .ok (.iaload, 1) := by decide +kernel
theorem d_Model_tripletPlace_29 : decode prog_9_method_61_code 29 = .ok (.iconst 1, 1) := by decide +kernel
theorem d_Model_tripletPlace_30 : decode prog_9_method_61_code 30 = .ok (.if_icmp .ne 19, 3) := by decide +kernel
theorem d_Model_tripletPlace_33 : decode prog_9_method_61_code 33 = .ok (.aload_n 0, 1) := by decide +kernel
theorem d_Model_tripletPlace_34 : decode prog_9_method_61_code 34 = .ok (.getfield 22, 3) := by decide +kernel
theorem d_Model_tripletPlace_37 : decode prog_9_method_61_code 37 = .ok (.iload 4, 2) := by decide +kernel
theorem d_Model_tripletPlace_39 : decode prog_9_method_61_code 39 = .ok (.iaload, 1) := by decide +kernel
theorem d_Model_tripletPlace_40 : decode prog_9_method_61_code 40 = .ok (.iload_n 2, 1) := by decide +kernel
theorem d_Model_tripletPlace_41 : decode prog_9_method_61_code 41 = .ok (.if_icmp .ne 8, 3) := by decide +kernel
theorem d_Model_tripletPlace_44 : decode prog_9_method_61_code 44 = .ok (.iload 4, 2) := by decide +kernel
theorem d_Model_tripletPlace_46 : decode prog_9_method_61_code 46 = .ok (.goto 4, 3) := by decide +kernel
theorem d_Model_tripletPlace_49 : decode prog_9_method_61_code 49 = .ok (.iload_n 3, 1) := by decide +kernel
theorem d_Model_tripletPlace_50 : decode prog_9_method_61_code 50 = .ok (.istore_n 3, 1) := by decide +kernel
theorem d_Model_tripletPlace_51 : decode prog_9_method_61_code 51 = .ok (.iinc 4 1, 3) := by decide +kernel
theorem d_Model_tripletPlace_54 : decode prog_9_method_61_code 54 = .ok (.goto (-47), 3) := by decide +kernel
theorem d_Model_tripletPlace_57 : decode prog_9_method_61_code 57 = .ok (.iload_n 3, 1) := by decide +kernel
theorem d_Model_tripletPlace_58 : decode prog_9_method_61_code 58 = .ok (.ireturn, 1) := by decide +kernel
theorem d_Model_completeAdded_0 : decode prog_9_method_62_code 0 = .ok (.aload_n 0, 1) := by decide +kernel
theorem d_Model_completeAdded_1 : decode prog_9_method_62_code 1 = .ok (.aload_n 0, 1) := by decide +kernel
theorem d_Model_completeAdded_2 : decode prog_9_method_62_code 2 = .ok (.getfield 113, 3) := by decide +kernel
theorem d_Model_completeAdded_5 : decode prog_9_method_62_code 5 = .ok (.aload_n 0, 1) := by decide +kernel
theorem d_Model_completeAdded_6 : decode prog_9_method_62_code 6 = .ok (.getfield 309, 3) := by decide +kernel
theorem d_Model_completeAdded_9 : decode prog_9_method_62_code 9 = .ok (.invokevirtual 359, 3) := by decide +kernel
theorem d_Model_completeAdded_12 : decode prog_9_method_62_code 12 = .ok (.istore_n 1, 1) := by decide +kernel
theorem d_Model_completeAdded_13 : decode prog_9_method_62_code 13 = .ok (.aload_n 0, 1) := by decide +kernel
theorem d_Model_completeAdded_14 : decode prog_9_method_62_code 14 = .ok (.getfield 25, 3) := by decide +kernel
theorem d_Model_completeAdded_17 : decode prog_9_method_62_code 17 = .ok (.iload_n 1, 1) := by decide +kernel
theorem d_Model_completeAdded_18 : decode prog_9_method_62_code 18 = .ok (.iconst 2, 1) := by decide +kernel
theorem d_Model_completeAdded_19 : decode prog_9_method_62_code 19 = .ok (.iastore, 1) := by decide +kernel
theorem d_Model_completeAdded_20 : decode prog_9_method_62_code 20 = .ok (.aload_n 0, 1) := by decide +kernel
theorem d_Model_completeAdded_21 : decode prog_9_method_62_code 21 = .ok (.aload_n 0, 1) := by decide +kernel
theorem d_Model_completeAdded_22 : decode prog_9_method_62_code 22 = .ok (.getfield 113, 3) := by decide +kernel
theorem d_Model_completeAdded_25 : decode prog_9_method_62_code 25 = .ok (.invokevirtual 356, 3) := by decide +kernel
theorem d_Model_completeAdded_28 : decode prog_9_method_62_code 28 = .ok (.return_, 1) := by decide +kernel
theorem d_Model_payStick_0 : decode prog_9_method_56_code 0 = .ok (.aload_n 0, 1) := by decide +kernel
theorem d_Model_payStick_1 : decode prog_9_method_56_code 1 = .ok (.getfield 106, 3) := by decide +kernel
theorem d_Model_payStick_4 : decode prog_9_method_56_code 4 = .ok (.ifCond .lt 33, 3) := by decide +kernel
theorem d_Model_payStick_7 : decode prog_9_method_56_code 7 = .ok (.aload_n 0, 1) := by decide +kernel
theorem d_Model_payStick_8 : decode prog_9_method_56_code 8 = .ok (.getfield 13, 3) := by decide +kernel
theorem d_Model_payStick_11 : decode prog_9_method_56_code 11 = .ok (.aload_n 0, 1) := by decide +kernel
theorem d_Model_payStick_12 : decode prog_9_method_56_code 12 = .ok (.getfield 106, 3) := by decide +kernel
theorem d_Model_payStick_15 : decode prog_9_method_56_code 15 = .ok (.dup2, 1) := by decide +kernel
theorem d_Model_payStick_16 : decode prog_9_method_56_code 16 = .ok (.iaload, 1) := by decide +kernel
theorem d_Model_payStick_17 : decode prog_9_method_56_code 17 = .ok (.sipush 1000, 3) := by decide +kernel
theorem d_Model_payStick_20 : decode prog_9_method_56_code 20 = .ok (.isub, 1) := by decide +kernel
theorem d_Model_payStick_21 : decode prog_9_method_56_code 21 = .ok (.iastore, 1) := by decide +kernel
theorem d_Model_payStick_22 : decode prog_9_method_56_code 22 = .ok (.aload_n 0, 1) := by decide +kernel
theorem d_Model_payStick_23 : decode prog_9_method_56_code 23 = .ok (.dup, 1) := by decide +kernel
theorem d_Model_payStick_24 : decode prog_9_method_56_code 24 = .ok (.getfield 346, 3) := by decide +kernel
theorem d_Model_payStick_27 : decode prog_9_method_56_code 27 = .ok (.iconst 1, 1) := by decide +kernel
theorem d_Model_payStick_28 : decode prog_9_method_56_code 28 = .ok (.iadd, 1) := by decide +kernel
theorem d_Model_payStick_29 : decode prog_9_method_56_code 29 = .ok (.putfield 346, 3) := by decide +kernel
theorem d_Model_payStick_32 : decode prog_9_method_56_code 32 = .ok (.aload_n 0, 1) := by decide +kernel
theorem d_Model_payStick_33 : decode prog_9_method_56_code 33 = .ok (.iconst (-1), 1) := by decide +kernel
theorem d_Model_payStick_34 : decode prog_9_method_56_code 34 = .ok (.putfield 106, 3) := by decide +kernel
theorem d_Model_payStick_37 : decode prog_9_method_56_code 37 = .ok (.return_, 1) := by decide +kernel
theorem d_Model_keep_0 : decode prog_9_method_65_code 0 = .ok (.aload_n 0, 1) := by decide +kernel
theorem d_Model_keep_1 : decode prog_9_method_65_code 1 = .ok (.getfield 53, 3) := by decide +kernel
theorem d_Model_keep_4 : decode prog_9_method_65_code 4 = .ok (.iconst 4, 1) := by decide +kernel
theorem d_Model_keep_5 : decode prog_9_method_65_code 5 = .ok (.iload_n 1, 1) := by decide +kernel
theorem d_Model_keep_6 : decode prog_9_method_65_code 6 = .ok (.imul, 1) := by decide +kernel
theorem d_Model_keep_7 : decode prog_9_method_65_code 7 = .ok (.aload_n 0, 1) := by decide +kernel
theorem d_Model_keep_8 : decode prog_9_method_65_code 8 = .ok (.getfield 260, 3) := by decide +kernel
theorem d_Model_keep_11 : decode prog_9_method_65_code 11 = .ok (.iastore, 1) := by decide +kernel
theorem d_Model_keep_12 : decode prog_9_method_65_code 12 = .ok (.aload_n 0, 1) := by decide +kernel
theorem d_Model_keep_13 : decode prog_9_method_65_code 13 = .ok (.getfield 53, 3) := by decide +kernel
theorem d_Model_keep_16 : decode prog_9_method_65_code 16 = .ok (.iconst 4, 1) := by decide +kernel
theorem d_Model_keep_17 : decode prog_9_method_65_code 17 = .ok (.iload_n 1, 1) := by decide +kernel
theorem d_Model_keep_18 : decode prog_9_method_65_code 18 = .ok (.imul, 1) := by decide +kernel
theorem d_Model_keep_19 : decode prog_9_method_65_code 19 = .ok (.iconst 1, 1) := by decide +kernel
theorem d_Model_keep_20 : decode prog_9_method_65_code 20 = .ok (.iadd, 1) := by decide +kernel
theorem d_Model_keep_21 : decode prog_9_method_65_code 21 = .ok (.aload_n 0, 1) := by decide +kernel
theorem d_Model_keep_22 : decode prog_9_method_65_code 22 = .ok (.getfield 263, 3) := by decide +kernel
theorem d_Model_keep_25 : decode prog_9_method_65_code 25 = .ok (.iastore, 1) := by decide +kernel
theorem d_Model_keep_26 : decode prog_9_method_65_code 26 = .ok (.aload_n 0, 1) := by decide +kernel
theorem d_Model_keep_27 : decode prog_9_method_65_code 27 = .ok (.getfield 53, 3) := by decide +kernel
theorem d_Model_keep_30 : decode prog_9_method_65_code 30 = .ok (.iconst 4, 1) := by decide +kernel
theorem d_Model_keep_31 : decode prog_9_method_65_code 31 = .ok (.iload_n 1, 1) := by decide +kernel
theorem d_Model_keep_32 : decode prog_9_method_65_code 32 = .ok (.imul, 1) := by decide +kernel
theorem d_Model_keep_33 : decode prog_9_method_65_code 33 = .ok (.iconst 2, 1) := by decide +kernel
theorem d_Model_keep_34 : decode prog_9_method_65_code 34 = .ok (.iadd, 1) := by decide +kernel
theorem d_Model_keep_35 : decode prog_9_method_65_code 35 = .ok (.aload_n 0, 1) := by decide +kernel
theorem d_Model_keep_36 : decode prog_9_method_65_code 36 = .ok (.getfield 257, 3) := by decide +kernel
theorem d_Model_keep_39 : decode prog_9_method_65_code 39 = .ok (.iastore, 1) := by decide +kernel
theorem d_Model_keep_40 : decode prog_9_method_65_code 40 = .ok (.aload_n 0, 1) := by decide +kernel
theorem d_Model_keep_41 : decode prog_9_method_65_code 41 = .ok (.getfield 53, 3) := by decide +kernel
theorem d_Model_keep_44 : decode prog_9_method_65_code 44 = .ok (.iconst 4, 1) := by decide +kernel
theorem d_Model_keep_45 : decode prog_9_method_65_code 45 = .ok (.iload_n 1, 1) := by decide +kernel
theorem d_Model_keep_46 : decode prog_9_method_65_code 46 = .ok (.imul, 1) := by decide +kernel
theorem d_Model_keep_47 : decode prog_9_method_65_code 47 = .ok (.iconst 3, 1) := by decide +kernel
theorem d_Model_keep_48 : decode prog_9_method_65_code 48 = .ok (.iadd, 1) := by decide +kernel
theorem d_Model_keep_49 : decode prog_9_method_65_code 49 = .ok (.iload_n 2, 1) := by decide +kernel
theorem d_Model_keep_50 : decode prog_9_method_65_code 50 = .ok (.iastore, 1) := by decide +kernel
theorem d_Model_keep_51 : decode prog_9_method_65_code 51 = .ok (.aload_n 0, 1) := by decide +kernel
theorem d_Model_keep_52 : decode prog_9_method_65_code 52 = .ok (.getfield 56, 3) := by decide +kernel
theorem d_Model_keep_55 : decode prog_9_method_65_code 55 = .ok (.iload_n 1, 1) := by decide +kernel
theorem d_Model_keep_56 : decode prog_9_method_65_code 56 = .ok (.aload_n 0, 1) := by decide +kernel
theorem d_Model_keep_57 : decode prog_9_method_65_code 57 = .ok (.getfield 266, 3) := by decide +kernel
theorem d_Model_keep_60 : decode prog_9_method_65_code 60 = .ok (.lastore, 1) := by decide +kernel
theorem d_Model_keep_61 : decode prog_9_method_65_code 61 = .ok (.aload_n 0, 1) := by decide +kernel
theorem d_Model_keep_62 : decode prog_9_method_65_code 62 = .ok (.getfield 13, 3) := by decide +kernel
theorem d_Model_keep_65 : decode prog_9_method_65_code 65 = .ok (.iload_n 1, 1) := by decide +kernel
theorem d_Model_keep_66 : decode prog_9_method_65_code 66 = .ok (.dup2, 1) := by decide +kernel
theorem d_Model_keep_67 : decode prog_9_method_65_code 67 = .ok (.iaload, 1) := by decide +kernel
theorem d_Model_keep_68 : decode prog_9_method_65_code 68 = .ok (.iload_n 2, 1) := by decide +kernel
theorem d_Model_keep_69 : decode prog_9_method_65_code 69 = .ok (.iadd, 1) := by decide +kernel
theorem d_Model_keep_70 : decode prog_9_method_65_code 70 = .ok (.iastore, 1) := by decide +kernel
theorem d_Model_keep_71 : decode prog_9_method_65_code 71 = .ok (.return_, 1) := by decide +kernel
theorem d_Model_rounded_0 : decode prog_9_method_64_code 0 = .ok (.iload_n 0, 1) := by decide +kernel
theorem d_Model_rounded_1 : decode prog_9_method_64_code 1 = .ok (.bipush 99, 2) := by decide +kernel
theorem d_Model_rounded_3 : decode prog_9_method_64_code 3 = .ok (.iadd, 1) := by decide +kernel
theorem d_Model_rounded_4 : decode prog_9_method_64_code 4 = .ok (.bipush 100, 2) := by decide +kernel
theorem d_Model_rounded_6 : decode prog_9_method_64_code 6 = .ok (.idiv, 1) := by decide +kernel
theorem d_Model_rounded_7 : decode prog_9_method_64_code 7 = .ok (.bipush 100, 2) := by decide +kernel
theorem d_Model_rounded_9 : decode prog_9_method_64_code 9 = .ok (.imul, 1) := by decide +kernel
theorem d_Model_rounded_10 : decode prog_9_method_64_code 10 = .ok (.ireturn, 1) := by decide +kernel
theorem d_Model_winByTile_0 : decode prog_9_method_67_code 0 = .ok (.aload_n 0, 1) := by decide +kernel
theorem d_Model_winByTile_1 : decode prog_9_method_67_code 1 = .ok (.iconst 4, 1) := by decide +kernel
theorem d_Model_winByTile_2 : decode prog_9_method_67_code 2 = .ok (.invokevirtual 331, 3) := by decide +kernel
theorem d_Model_winByTile_5 : decode prog_9_method_67_code 5 = .ok (.istore_n 1, 1) := by decide +kernel
theorem d_Model_winByTile_6 : decode prog_9_method_67_code 6 = .ok (.iconst 0, 1) := by decide +kernel
theorem d_Model_winByTile_7 : decode prog_9_method_67_code 7 = .ok (.istore_n 2, 1) := by decide +kernel
theorem d_Model_winByTile_8 : decode prog_9_method_67_code 8 = .ok (.iconst 0, 1) := by decide +kernel
theorem d_Model_winByTile_9 : decode prog_9_method_67_code 9 = .ok (.istore_n 3, 1) := by decide +kernel
theorem d_Model_winByTile_10 : decode prog_9_method_67_code 10 = .ok (.iload_n 3, 1) := by decide +kernel
theorem d_Model_winByTile_11 : decode prog_9_method_67_code 11 = .ok (.iconst 4, 1) := by decide +kernel
theorem d_Model_winByTile_12 : decode prog_9_method_67_code 12 = .ok (.if_icmp .ge 146, 3) := by decide +kernel
theorem d_Model_winByTile_15 : decode prog_9_method_67_code 15 = .ok (.iload_n 3, 1) := by decide +kernel
theorem d_Model_winByTile_16 : decode prog_9_method_67_code 16 = .ok (.aload_n 0, 1) := by decide +kernel
theorem d_Model_winByTile_17 : decode prog_9_method_67_code 17 = .ok (.getfield 113, 3) := by decide +kernel
theorem d_Model_winByTile_20 : decode prog_9_method_67_code 20 = .ok (.if_icmp .eq 132, 3) := by decide +kernel
theorem d_Model_winByTile_23 : decode prog_9_method_67_code 23 = .ok (.aload_n 0, 1) := by decide +kernel
theorem d_Model_winByTile_24 : decode prog_9_method_67_code 24 = .ok (.getfield 47, 3) := by decide +kernel
theorem d_Model_winByTile_27 : decode prog_9_method_67_code 27 = .ok (.iload_n 3, 1) := by decide +kernel
theorem d_Model_winByTile_28 : decode prog_9_method_67_code 28 = .ok (.iaload, 1) := by decide +kernel
theorem d_Model_winByTile_29 : decode prog_9_method_67_code 29 = .ok (.iconst 4, 1) := by decide +kernel
theorem d_Model_winByTile_30 : decode prog_9_method_67_code 30 = .ok (.if_icmp .ne 122, 3) := by decide +kernel
theorem d_Model_winByTile_33 : decode prog_9_method_67_code 33 = .ok (.aload_n 0, 1) := by decide +kernel
theorem d_Model_winByTile_34 : decode prog_9_method_67_code 34 = .ok (.iload_n 3, 1) := by decide +kernel
theorem d_Model_winByTile_35 : decode prog_9_method_67_code 35 = .ok (.aload_n 0, 1) := by decide +kernel
theorem d_Model_winByTile_36 : decode prog_9_method_67_code 36 = .ok (.getfield 309, 3) := by decide +kernel
theorem d_Model_winByTile_39 : decode prog_9_method_67_code 39 = .ok (.iconst 0, 1) := by decide +kernel
theorem d_Model_winByTile_40 : decode prog_9_method_67_code 40 = .ok (.aload_n 0, 1) := by decide +kernel
theorem d_Model_winByTile_41 : decode prog_9_method_67_code 41 = .ok (.getfield 312, 3) := by decide +kernel
theorem d_Model_winByTile_44 : decode prog_9_method_67_code 44 = .ok (.invokevirtual 315, 3) := by decide +kernel
theorem d_Model_winByTile_47 : decode prog_9_method_67_code 47 = .ok (.pop, 1) := by decide +kernel
theorem d_Model_winByTile_48 : decode prog_9_method_67_code 48 = .ok (.iload_n 3, 1) := by decide +kernel
theorem d_Model_winByTile_49 : decode prog_9_method_67_code 49 = .ok (.aload_n 0, 1) := by decide +kernel
theorem d_Model_winByTile_50 : decode prog_9_method_67_code 50 = .ok (.getfield 96, 3) := by decide +kernel
theorem d_Model_winByTile_53 : decode prog_9_method_67_code 53 = .ok (.if_icmp .ne 13, 3) := by decide +kernel
theorem d_Model_winByTile_56 : decode prog_9_method_67_code 56 = .ok (.bipush 6, 2) := by decide +kernel
theorem d_Model_winByTile_58 : decode prog_9_method_67_code 58 = .ok (.aload_n 0, 1) := by decide +kernel
theorem d_Model_winByTile_59 : decode prog_9_method_67_code 59 = .ok (.getfield 257, 3) := by decide +kernel
theorem d_Model_winByTile_62 : decode prog_9_method_67_code 62 = .ok (.imul, 1) := by decide +kernel
theorem d_Model_winByTile_63 : decode prog_9_method_67_code 63 = .ok (.goto 9, 3) := by decide +kernel
theorem d_Model_winByTile_66 : decode prog_9_method_67_code 66 = .ok (.iconst 4, 1) := by decide +kernel
theorem d_Model_winByTile_67 : decode prog_9_method_67_code 67 = .ok (.aload_n 0, 1) := by decide +kernel
theorem d_Model_winByTile_68 : decode prog_9_method_67_code 68 = .ok (.getfield 257, 3) := by decide +kernel
theorem d_Model_winByTile_71 : decode prog_9_method_67_code 71 = .ok (.imul, 1) := by decide +kernel
theorem d_Model_winByTile_72 : decode prog_9_method_67_code 72 = .ok (.invokestatic 362, 3) := by decide +kernel
theorem d_Model_winByTile_75 : decode prog_9_method_67_code 75 = .ok (.iload_n 3, 1) := by decide +kernel
theorem d_Model_winByTile_76 : decode prog_9_method_67_code 76 = .ok (.iload_n 1, 1) := by decide +kernel
theorem d_Model_winByTile_77 : decode prog_9_method_67_code 77 = .ok (.if_icmp .ne 14, 3) := by decide +kernel
theorem d_Model_winByTile_80 : decode prog_9_method_67_code 80 = .ok (.sipush 300, 3) := by decide +kernel
theorem d_Model_winByTile_83 : decode prog_9_method_67_code 83 = .ok (.aload_n 0, 1) := by decide +kernel
theorem d_Model_winByTile_84 : decode prog_9_method_67_code 84 = .ok (.getfield 365, 3) := by decide +kernel
theorem d_Model_winByTile_87 : decode prog_9_method_67_code 87 = .ok (.imul, 1) := by decide +kernel
theorem d_Model_winByTile_88 : decode prog_9_method_67_code 88 = .ok (.goto 4, 3) := by decide +kernel
theorem d_Model_winByTile_91 : decode prog_9_method_67_code 91 = .ok (.iconst 0, 1) := by decide +kernel
theorem d_Model_winByTile_92 : decode prog_9_method_67_code 92 = .ok (.iadd, 1) := by decide +kernel
theorem d_Model_winByTile_93 : decode prog_9_method_67_code 93 = .ok (.istore 4, 2) := by decide +kernel
theorem d_Model_winByTile_95 : decode prog_9_method_67_code 95 = .ok (.aload_n 0, 1) := by decide +kernel
theorem d_Model_winByTile_96 : decode prog_9_method_67_code 96 = .ok (.getfield 13, 3) := by decide +kernel
theorem d_Model_winByTile_99 : decode prog_9_method_67_code 99 = .ok (.aload_n 0, 1) := by decide +kernel
theorem d_Model_winByTile_100 : decode prog_9_method_67_code 100 = .ok (.getfield 113, 3) := by decide +kernel
theorem d_Model_winByTile_103 : decode prog_9_method_67_code 103 = .ok (.dup2, 1) := by decide +kernel
theorem d_Model_winByTile_104 : decode prog_9_method_67_code 104 = .ok (.iaload, 1) := by decide +kernel
theorem d_Model_winByTile_105 : decode prog_9_method_67_code 105 = .ok (.iload 4, 2) := by decide +kernel
theorem d_Model_winByTile_107 : decode prog_9_method_67_code 107 = .ok (.isub, 1) := by decide +kernel
theorem d_Model_winByTile_108 : decode prog_9_method_67_code 108 = .ok (.iastore, 1) := by decide +kernel
theorem d_Model_winByTile_109 : decode prog_9_method_67_code 109 = .ok (.aload_n 0, 1) := by decide +kernel
theorem d_Model_winByTile_110 : decode prog_9_method_67_code 110 = .ok (.iload_n 3, 1) := by decide +kernel
theorem d_Model_winByTile_111 : decode prog_9_method_67_code 111 = .ok (.iload 4, 2) := by decide +kernel
theorem d_Model_winByTile_113 : decode prog_9_method_67_code 113 = .ok (.iload_n 3, 1) := by decide +kernel
theorem d_Model_winByTile_114 : decode prog_9_method_67_code 114 = .ok (.iload_n 1, 1) := by decide +kernel
theorem d_Model_winByTile_115 : decode prog_9_method_67_code 115 = .ok (.if_icmp .ne 14, 3) := by decide +kernel
theorem d_Model_winByTile_118 : decode prog_9_method_67_code 118 = .ok (.sipush 1000, 3) := by decide +kernel
theorem d_Model_winByTile_121 : decode prog_9_method_67_code 121 = .ok (.aload_n 0, 1) := by decide +kernel
theorem d_Model_winByTile_122 : decode prog_9_method_67_code 122 = .ok (.getfield 346, 3) := by decide +kernel
theorem d_Model_winByTile_125 : decode prog_9_method_67_code 125 = .ok (.imul, 1) := by decide +kernel
theorem d_Model_winByTile_126 : decode prog_9_method_67_code 126 = .ok (.goto 4, 3) := by decide +kernel
theorem d_Model_winByTile_129 : decode prog_9_method_67_code 129 = .ok (.iconst 0, 1) := by decide +kernel
theorem d_Model_winByTile_130 : decode prog_9_method_67_code 130 = .ok (.iadd, 1) := by decide +kernel
theorem d_Model_winByTile_131 : decode prog_9_method_67_code 131 = .ok (.invokevirtual 368, 3) := by decide +kernel
theorem d_Model_winByTile_134 : decode prog_9_method_67_code 134 = .ok (.iload_n 2, 1) := by decide +kernel
theorem d_Model_winByTile_135 : decode prog_9_method_67_code 135 = .ok (.ifCond .ne 11, 3) := by decide +kernel
theorem d_Model_winByTile_138 : decode prog_9_method_67_code 138 = .ok (.iload_n 3, 1) := by decide +kernel
theorem d_Model_winByTile_139 : decode prog_9_method_67_code 139 = .ok (.aload_n 0, 1) := by decide +kernel
theorem d_Model_winByTile_140 : decode prog_9_method_67_code 140 = .ok (.getfield 96, 3) := by decide +kernel
theorem d_Model_winByTile_143 : decode prog_9_method_67_code 143 = .ok (.if_icmp .ne 7, 3) := by decide +kernel
theorem d_Model_winByTile_146 : decode prog_9_method_67_code 146 = .ok (.iconst 1, 1) := by decide +kernel
theorem d_Model_winByTile_147 : decode prog_9_method_67_code 147 = .ok (.goto 4, 3) := by decide +kernel
theorem d_Model_winByTile_150 : decode prog_9_method_67_code 150 = .ok (.iconst 0, 1) := by decide +kernel
theorem d_Model_winByTile_151 : decode prog_9_method_67_code 151 = .ok (.istore_n 2, 1) := by decide +kernel
theorem d_Model_winByTile_152 : decode prog_9_method_67_code 152 = .ok (.iinc 3 1, 3) := by decide +kernel
theorem d_Model_winByTile_155 : decode prog_9_method_67_code 155 = .ok (.goto (-145), 3) := by decide +kernel
theorem d_Model_winByTile_158 : decode prog_9_method_67_code 158 = .ok (.aload_n 0, 1) := by decide +kernel
theorem d_Model_winByTile_159 : decode prog_9_method_67_code 159 = .ok (.iconst 0, 1) := by decide +kernel
theorem d_Model_winByTile_160 : decode prog_9_method_67_code 160 = .ok (.putfield 346, 3) := by decide +kernel
theorem d_Model_winByTile_163 : decode prog_9_method_67_code 163 = .ok (.aload_n 0, 1) := by decide +kernel
theorem d_Model_winByTile_164 : decode prog_9_method_67_code 164 = .ok (.iload_n 2, 1) := by decide +kernel
theorem d_Model_winByTile_165 : decode prog_9_method_67_code 165 = .ok (.iload_n 2, 1) := by decide +kernel
theorem d_Model_winByTile_166 : decode prog_9_method_67_code 166 = .ok (.invokevirtual 371, 3) := by decide +kernel
theorem d_Model_winByTile_169 : decode prog_9_method_67_code 169 = .ok (.return_, 1) := by decide +kernel
theorem d_Model_settle_0 : decode prog_9_method_55_code 0 = .ok (.aload_n 0, 1) := by decide +kernel
theorem d_Model_settle_1 : decode prog_9_method_55_code 1 = .ok (.iconst 4, 1) := by decide +kernel
theorem d_Model_settle_2 : decode prog_9_method_55_code 2 = .ok (.invokevirtual 331, 3) := by decide +kernel
theorem d_Model_settle_5 : decode prog_9_method_55_code 5 = .ok (.ifCond .lt 7, 3) := by decide +kernel
theorem d_Model_settle_8 : decode prog_9_method_55_code 8 = .ok (.iconst 1, 1) := by decide +kernel
theorem d_Model_settle_9 : decode prog_9_method_55_code 9 = .ok (.goto 4, 3) := by decide +kernel
theorem d_Model_settle_12 : decode prog_9_method_55_code 12 = .ok (.iconst 0, 1) := by decide +kernel
theorem d_Model_settle_13 : decode prog_9_method_55_code 13 = .ok (.istore_n 1, 1) := by decide +kernel
theorem d_Model_settle_14 : decode prog_9_method_55_code 14 = .ok (.iconst 0, 1) := by decide +kernel
theorem d_Model_settle_15 : decode prog_9_method_55_code 15 = .ok (.istore_n 2, 1) := by decide +kernel
theorem d_Model_settle_16 : decode prog_9_method_55_code 16 = .ok (.iconst 0, 1) := by decide +kernel
theorem d_Model_settle_17 : decode prog_9_method_55_code 17 = .ok (.istore_n 3, 1) := by decide +kernel
theorem d_Model_settle_18 : decode prog_9_method_55_code 18 = .ok (.iload_n 3, 1) := by decide +kernel
theorem d_Model_settle_19 : decode prog_9_method_55_code 19 = .ok (.iconst 4, 1) := by decide +kernel
theorem d_Model_settle_20 : decode prog_9_method_55_code 20 = .ok (.if_icmp .ge 28, 3) := by decide +kernel
theorem d_Model_settle_23 : decode prog_9_method_55_code 23 = .ok (.iload_n 2, 1) := by decide +kernel
theorem d_Model_settle_24 : decode prog_9_method_55_code 24 = .ok (.ifCond .ne 12, 3) := by decide +kernel
theorem d_Model_settle_27 : decode prog_9_method_55_code 27 = .ok (.aload_n 0, 1) := by decide +kernel
theorem d_Model_settle_28 : decode prog_9_method_55_code 28 = .ok (.getfield 47, 3) := by decide +kernel
theorem d_Model_settle_31 : decode prog_9_method_55_code 31 = .ok (.iload_n 3, 1) := by decide +kernel
theorem d_Model_settle_32 : decode prog_9_method_55_code 32 = .ok (.iaload, 1) := by decide +kernel
theorem d_Model_settle_33 : decode prog_9_method_55_code 33 = .ok (.ifCond .le 7, 3) := by decide +kernel
theorem d_Model_settle_36 : decode prog_9_method_55_code 36 = .ok (.iconst 1, 1) := by decide +kernel
theorem d_Model_settle_37 : decode prog_9_method_55_code 37 = .ok (.goto 4, 3) := by decide +kernel
theorem d_Model_settle_40 : decode prog_9_method_55_code 40 = .ok (.iconst 0, 1) := by decide +kernel
theorem d_Model_settle_41 : decode prog_9_method_55_code 41 = .ok (.istore_n 2, 1) := by decide +kernel
theorem d_Model_settle_42 : decode prog_9_method_55_code 42 = .ok (.iinc 3 1, 3) := by decide +kernel
theorem d_Model_settle_45 : decode prog_9_method_55_code 45 = .ok (.goto (-27), 3) := by decide +kernel
theorem d_Model_settle_48 : decode prog_9_method_55_code 48 = .ok (.iconst 0, 1) := by decide +kernel
theorem d_Model_settle_49 : decode prog_9_method_55_code 49 = .ok (.istore_n 3, 1) := by decide +kernel
theorem d_Model_settle_50 : decode prog_9_method_55_code 50 = .ok (.iload_n 3, 1) := by decide +kernel
theorem d_Model_settle_51 : decode prog_9_method_55_code 51 = .ok (.iconst 4, 1) := by decide +kernel
theorem d_Model_settle_52 : decode prog_9_method_55_code 52 = .ok (.if_icmp .ge 90, 3) := by decide +kernel
theorem d_Model_settle_55 : decode prog_9_method_55_code 55 = .ok (.aload_n 0, 1) := by decide +kernel
theorem d_Model_settle_56 : decode prog_9_method_55_code 56 = .ok (.getfield 47, 3) := by decide +kernel
theorem d_Model_settle_59 : decode prog_9_method_55_code 59 = .ok (.iload_n 3, 1) := by decide +kernel
theorem d_Model_settle_60 : decode prog_9_method_55_code 60 = .ok (.iaload, 1) := by decide +kernel
theorem d_Model_settle_61 : decode prog_9_method_55_code 61 = .ok (.iconst 4, 1) := by decide +kernel
theorem d_Model_settle_62 : decode prog_9_method_55_code 62 = .ok (.if_icmp .ne 11, 3) := by decide +kernel
theorem d_Model_settle_65 : decode prog_9_method_55_code 65 = .ok (.iload_n 3, 1) := by decide +kernel
theorem d_Model_settle_66 : decode prog_9_method_55_code 66 = .ok (.aload_n 0, 1) := by decide +kernel
theorem d_Model_settle_67 : decode prog_9_method_55_code 67 = .ok (.getfield 113, 3) := by decide +kernel
theorem d_Model_settle_70 : decode prog_9_method_55_code 70 = .ok (.if_icmp .ne 24, 3) := by decide +kernel
theorem d_Model_settle_73 : decode prog_9_method_55_code 73 = .ok (.aload_n 0, 1) := by decide +kernel
theorem d_Model_settle_74 : decode prog_9_method_55_code 74 = .ok (.iload_n 3, 1) := by decide +kernel
theorem d_Model_settle_75 : decode prog_9_method_55_code 75 = .ok (.invokevirtual 177, 3) := by decide +kernel
theorem d_Model_settle_78 : decode prog_9_method_55_code 78 = .ok (.aload_n 0, 1) := by decide +kernel
theorem d_Model_settle_79 : decode prog_9_method_55_code 79 = .ok (.getfield 309, 3) := by decide +kernel
theorem d_Model_settle_82 : decode prog_9_method_55_code 82 = .ok (.lshr, 1) := by decide +kernel
theorem d_Model_settle_83 : decode prog_9_method_55_code 83 = .ok (.lconst 1, 1) := by decide +kernel
theorem d_Model_settle_84 : decode prog_9_method_55_code 84 = .ok (.land, 1) := by decide +kernel
theorem d_Model_settle_85 : decode prog_9_method_55_code 85 = .ok (.lconst 1, 1) := by decide +kernel
theorem d_Model_settle_86 : decode prog_9_method_55_code 86 = .ok (.lcmp, 1) := by decide +kernel
theorem d_Model_settle_87 : decode prog_9_method_55_code 87 = .ok (.ifCond .ne 7, 3) := by decide +kernel
theorem d_Model_settle_90 : decode prog_9_method_55_code 90 = .ok (.iconst 1, 1) := by decide +kernel
theorem d_Model_settle_91 : decode prog_9_method_55_code 91 = .ok (.goto 4, 3) := by decide +kernel
theorem d_Model_settle_94 : decode prog_9_method_55_code 94 = .ok (.iconst 0, 1) := by decide +kernel
theorem d_Model_settle_95 : decode prog_9_method_55_code 95 = .ok (.istore 4, 2) := by decide +kernel
theorem d_Model_settle_97 : decode prog_9_method_55_code 97 = .ok (.aload_n 0, 1) := by decide +kernel
theorem d_Model_settle_98 : decode prog_9_method_55_code 98 = .ok (.getfield 41, 3) := by decide +kernel
theorem d_Model_settle_101 : decode prog_9_method_55_code 101 = .ok (.iload_n 3, 1) := by decide +kernel
theorem d_Model_settle_102 : decode prog_9_method_55_code 102 = .ok (.aload_n 0, 1) := by decide +kernel
theorem d_Model_settle_103 : decode prog_9_method_55_code 103 = .ok (.getfield 41, 3) := by decide +kernel
theorem d_Model_settle_106 : decode prog_9_method_55_code 106 = .ok (.iload_n 3, 1) := by decide +kernel
theorem d_Model_settle_107 : decode prog_9_method_55_code 107 = .ok (.baload, 1) := by decide +kernel
theorem d_Model_settle_108 : decode prog_9_method_55_code 108 = .ok (.ifCond .ne 22, 3) := by decide +kernel
theorem d_Model_settle_111 : decode prog_9_method_55_code 111 = .ok (.iload 4, 2) := by decide +kernel
theorem d_Model_settle_113 : decode prog_9_method_55_code 113 = .ok (.ifCond .eq 21, 3) := by decide +kernel
theorem d_Model_settle_116 : decode prog_9_method_55_code 116 = .ok (.aload_n 0, 1) := by decide +kernel
theorem d_Model_settle_117 : decode prog_9_method_55_code 117 = .ok (.getfield 312, 3) := by decide +kernel
theorem d_Model_settle_120 : decode prog_9_method_55_code 120 = .ok (.ifCond .eq 10, 3) := by decide +kernel
theorem d_Model_settle_123 : decode prog_9_method_55_code 123 = .ok (.aload_n 0, 1) := by decide +kernel
theorem d_Model_settle_124 : decode prog_9_method_55_code 124 = .ok (.getfield 325, 3) := by decide +kernel
theorem d_Model_settle_127 : decode prog_9_method_55_code 127 = .ok (.ifCond .eq 7, 3) := by decide +kernel
theorem d_Model_settle_130 : decode prog_9_method_55_code 130 = .ok (.iconst 1, 1) := by decide +kernel
theorem d_Model_settle_131 : decode prog_9_method_55_code 131 = .ok (.goto 4, 3) := by decide +kernel
theorem d_Model_settle_134 : decode prog_9_method_55_code 134 = .ok (.iconst 0, 1) := by decide +kernel
theorem d_Model_settle_135 : decode prog_9_method_55_code 135 = .ok (.bastore, 1) := by decide +kernel
theorem d_Model_settle_136 : decode prog_9_method_55_code 136 = .ok (.iinc 3 1, 3) := by decide +kernel
theorem d_Model_settle_139 : decode prog_9_method_55_code 139 = .ok (.goto (-89), 3) := by decide +kernel
theorem d_Model_settle_142 : decode prog_9_method_55_code 142 = .ok (.iload_n 1, 1) := by decide +kernel
theorem d_Model_settle_143 : decode prog_9_method_55_code 143 = .ok (.ifCond .eq 10, 3) := by decide +kernel
theorem d_Model_settle_146 : decode prog_9_method_55_code 146 = .ok (.aload_n 0, 1) := by decide +kernel
theorem d_Model_settle_147 : decode prog_9_method_55_code 147 = .ok (.invokevirtual 334, 3) := by decide +kernel
theorem d_Model_settle_150 : decode prog_9_method_55_code 150 = .ok (.goto 44, 3) := by decide +kernel
theorem d_Model_settle_153 : decode prog_9_method_55_code 153 = .ok (.aload_n 0, 1) := by decide +kernel
theorem d_Model_settle_154 : decode prog_9_method_55_code 154 = .ok (.getfield 312, 3) := by decide +kernel
theorem d_Model_settle_157 : decode prog_9_method_55_code 157 = .ok (.ifCond .eq 10, 3) := by decide +kernel
theorem d_Model_settle_160 : decode prog_9_method_55_code 160 = .ok (.aload_n 0, 1) := by decide +kernel
theorem d_Model_settle_161 : decode prog_9_method_55_code 161 = .ok (.invokevirtual 337, 3) := by decide +kernel
theorem d_Model_settle_164 : decode prog_9_method_55_code 164 = .ok (.goto 30, 3) := by decide +kernel
theorem d_Model_settle_167 : decode prog_9_method_55_code 167 = .ok (.aload_n 0, 1) := by decide +kernel
theorem d_Model_settle_168 : decode prog_9_method_55_code 168 = .ok (.invokevirtual 340, 3) := by decide +kernel
theorem d_Model_settle_171 : decode prog_9_method_55_code 171 = .ok (.iload_n 2, 1) := by decide +kernel
theorem d_Model_settle_172 : decode prog_9_method_55_code 172 = .ok (.ifCond .eq 10, 3) := by decide +kernel
theorem d_Model_settle_175 : decode prog_9_method_55_code 175 = .ok (.aload_n 0, 1) := by decide +kernel
theorem d_Model_settle_176 : decode prog_9_method_55_code 176 = .ok (.invokevirtual 343, 3) := by decide +kernel
theorem d_Model_settle_179 : decode prog_9_method_55_code 179 = .ok (.goto 15, 3) := by decide +kernel
theorem d_Model_settle_182 : decode prog_9_method_55_code 182 = .ok (.aload_n 0, 1) := by decide +kernel
theorem d_Model_settle_183 : decode prog_9_method_55_code 183 = .ok (.aload_n 0, 1) := by decide +kernel
theorem d_Model_settle_184 : decode prog_9_method_55_code 184 = .ok (.getfield 113, 3) := by decide +kernel
theorem d_Model_settle_187 : decode prog_9_method_55_code 187 = .ok (.iconst 1, 1) := by decide +kernel
theorem d_Model_settle_188 : decode prog_9_method_55_code 188 = .ok (.iadd, 1) := by decide +kernel
theorem d_Model_settle_189 : decode prog_9_method_55_code 189 = .ok (.iconst 4, 1) := by decide +kernel
theorem d_Model_settle_190 : decode prog_9_method_55_code 190 = .ok (.irem, 1) := by decide +kernel
theorem d_Model_settle_191 : decode prog_9_method_55_code 191 = .ok (.invokevirtual 109, 3) := by decide +kernel
theorem d_Model_settle_194 : decode prog_9_method_55_code 194 = .ok (.return_, 1) := by decide +kernel
theorem d_Model_ask_0 : decode prog_9_method_51_code 0 = .ok (.aload_n 0, 1) := by decide +kernel
theorem d_Model_ask_1 : decode prog_9_method_51_code 1 = .ok (.iload_n 1, 1) := by decide +kernel
theorem d_Model_ask_2 : decode prog_9_method_51_code 2 = .ok (.putfield 309, 3) := by decide +kernel
theorem d_Model_ask_5 : decode prog_9_method_51_code 5 = .ok (.aload_n 0, 1) := by decide +kernel
theorem d_Model_ask_6 : decode prog_9_method_51_code 6 = .ok (.iload_n 2, 1) := by decide +kernel
theorem d_Model_ask_7 : decode prog_9_method_51_code 7 = .ok (.putfield 312, 3) := by decide +kernel
theorem d_Model_ask_10 : decode prog_9_method_51_code 10 = .ok (.iconst 0, 1) := by decide +kernel
theorem d_Model_ask_11 : decode prog_9_method_51_code 11 = .ok (.istore_n 3, 1) := by decide +kernel
theorem d_Model_ask_12 : decode prog_9_method_51_code 12 = .ok (.iconst 0, 1) := by decide +kernel
theorem d_Model_ask_13 : decode prog_9_method_51_code 13 = .ok (.istore 4, 2) := by decide +kernel
theorem d_Model_ask_15 : decode prog_9_method_51_code 15 = .ok (.iload 4, 2) := by decide +kernel
theorem d_Model_ask_17 : decode prog_9_method_51_code 17 = .ok (.iconst 4, 1) := by decide +kernel
theorem d_Model_ask_18 : decode prog_9_method_51_code 18 = .ok (.if_icmp .ge 191, 3) := by decide +kernel
theorem d_Model_ask_21 : decode prog_9_method_51_code 21 = .ok (.aload_n 0, 1) := by decide +kernel
theorem d_Model_ask_22 : decode prog_9_method_51_code 22 = .ok (.getfield 44, 3) := by decide +kernel
theorem d_Model_ask_25 : decode prog_9_method_51_code 25 = .ok (.iload 4, 2) := by decide +kernel
theorem d_Model_ask_27 : decode prog_9_method_51_code 27 = .ok (.iconst 0, 1) := by decide +kernel
theorem d_Model_ask_28 : decode prog_9_method_51_code 28 = .ok (.iastore, 1) := by decide +kernel
theorem d_Model_ask_29 : decode prog_9_method_51_code 29 = .ok (.aload_n 0, 1) := by decide +kernel
theorem d_Model_ask_30 : decode prog_9_method_51_code 30 = .ok (.getfield 47, 3) := by decide +kernel
theorem d_Model_ask_33 : decode prog_9_method_51_code 33 = .ok (.iload 4, 2) := by decide +kernel
theorem d_Model_ask_35 : decode prog_9_method_51_code 35 = .ok (.iconst 0, 1) := by decide +kernel
theorem d_Model_ask_36 : decode prog_9_method_51_code 36 = .ok (.iastore, 1) := by decide +kernel
theorem d_Model_ask_37 : decode prog_9_method_51_code 37 = .ok (.iload 4, 2) := by decide +kernel
theorem d_Model_ask_39 : decode prog_9_method_51_code 39 = .ok (.aload_n 0, 1) := by decide +kernel
theorem d_Model_ask_40 : decode prog_9_method_51_code 40 = .ok (.getfield 113, 3) := by decide +kernel
theorem d_Model_ask_43 : decode prog_9_method_51_code 43 = .ok (.if_icmp .eq 160, 3) := by decide +kernel
theorem d_Model_ask_46 : decode prog_9_method_51_code 46 = .ok (.aload_n 0, 1) := by decide +kernel
theorem d_Model_ask_47 : decode prog_9_method_51_code 47 = .ok (.getfield 44, 3) := by decide +kernel
theorem d_Model_ask_50 : decode prog_9_method_51_code 50 = .ok (.iload 4, 2) := by decide +kernel
theorem d_Model_ask_52 : decode prog_9_method_51_code 52 = .ok (.aload_n 0, 1) := by decide +kernel
theorem d_Model_ask_53 : decode prog_9_method_51_code 53 = .ok (.iload 4, 2) := by decide +kernel
theorem d_Model_ask_55 : decode prog_9_method_51_code 55 = .ok (.iload_n 1, 1) := by decide +kernel
theorem d_Model_ask_56 : decode prog_9_method_51_code 56 = .ok (.iconst 0, 1) := by decide +kernel
theorem d_Model_ask_57 : decode prog_9_method_51_code 57 = .ok (.iload_n 2, 1) := by decide +kernel
theorem d_Model_ask_58 : decode prog_9_method_51_code 58 = .ok (.invokevirtual 315, 3) := by decide +kernel
theorem d_Model_ask_61 : decode prog_9_method_51_code 61 = .ok (.ifCond .eq 17, 3) := by decide +kernel
theorem d_Model_ask_64 : decode prog_9_method_51_code 64 = .ok (.aload_n 0, 1) := by decide +kernel
theorem d_Model_ask_65 : decode prog_9_method_51_code 65 = .ok (.iload 4, 2) := by decide +kernel
theorem d_Model_ask_67 : decode prog_9_method_51_code 67 = .ok (.invokevirtual 319, 3) := by decide +kernel
theorem d_Model_ask_70 : decode prog_9_method_51_code 70 = .ok (.ifCond .ne 8, 3) := by decide +kernel
theorem d_Model_ask_73 : decode prog_9_method_51_code 73 = .ok (.bipush 16, 2) := by decide +kernel
theorem d_Model_ask_75 : decode prog_9_method_51_code 75 = .ok (.goto 4, 3) := by decide +kernel
theorem d_Model_ask_78 : decode prog_9_method_51_code 78 = .ok (.iconst 0, 1) := by decide +kernel
theorem d_Model_ask_79 : decode prog_9_method_51_code 79 = .ok (.iastore, 1) := by decide +kernel
theorem d_Model_ask_80 : decode prog_9_method_51_code 80 = .ok (.aload_n 0, 1) := by decide +kernel
theorem d_Model_ask_81 : decode prog_9_method_51_code 81 = .ok (.getfield 16, 3) := by decide +kernel
theorem d_Model_ask_84 : decode prog_9_method_51_code 84 = .ok (.bipush 34, 2) := by decide +kernel
theorem d_Model_ask_86 : decode prog_9_method_51_code 86 = .ok (.iload 4, 2) := by decide +kernel
theorem d_Model_ask_88 : decode prog_9_method_51_code 88 = .ok (.imul, 1) := by decide +kernel
theorem d_Model_ask_89 : decode prog_9_method_51_code 89 = .ok (.iload_n 1, 1) := by decide +kernel
theorem d_Model_ask_90 : decode prog_9_method_51_code 90 = .ok (.iadd, 1) := by decide +kernel
theorem d_Model_ask_91 : decode prog_9_method_51_code 91 = .ok (.iaload, 1) := by decide +kernel
theorem d_Model_ask_92 : decode prog_9_method_51_code 92 = .ok (.istore 5, 2) := by decide +kernel
theorem d_Model_ask_94 : decode prog_9_method_51_code 94 = .ok (.iload_n 2, 1) := by decide +kernel
theorem d_Model_ask_95 : decode prog_9_method_51_code 95 = .ok (.ifCond .ne 88, 3) := by decide +kernel
theorem d_Model_ask_98 : decode prog_9_method_51_code 98 = .ok (.aload_n 0, 1) := by decide +kernel
theorem d_Model_ask_99 : decode prog_9_method_51_code 99 = .ok (.invokevirtual 122, 3) := by decide +kernel
theorem d_Model_ask_102 : decode prog_9_method_51_code 102 = .ok (.iconst 1, 1) := by decide +kernel
theorem d_Model_ask_103 : decode prog_9_method_51_code 103 = .ok (.if_icmp .lt 80, 3) := by decide +kernel
theorem d_Model_ask_106 : decode prog_9_method_51_code 106 = .ok (.aload_n 0, 1) := by decide +kernel
theorem d_Model_ask_107 : decode prog_9_method_51_code 107 = .ok (.getfield 34, 3) := by decide +kernel
theorem d_Model_ask_110 : decode prog_9_method_51_code 110 = .ok (.iload 4, 2) := by decide +kernel
theorem d_Model_ask_112 : decode prog_9_method_51_code 112 = .ok (.iaload, 1) := by decide +kernel
theorem d_Model_ask_113 : decode prog_9_method_51_code 113 = .ok (.ifCond .ne 70, 3) := by decide +kernel
theorem d_Model_ask_116 : decode prog_9_method_51_code 116 = .ok (.aload_n 0, 1) := by decide +kernel
theorem d_Model_ask_117 : decode prog_9_method_51_code 117 = .ok (.getfield 44, 3) := by decide +kernel
theorem d_Model_ask_120 : decode prog_9_method_51_code 120 = .ok (.iload 4, 2) := by decide +kernel
theorem d_Model_ask_122 : decode prog_9_method_51_code 122 = .ok (.dup2, 1) := by decide +kernel
theorem d_Model_ask_123 : decode prog_9_method_51_code 123 = .ok (.iaload, 1) := by decide +kernel
theorem d_Model_ask_124 : decode prog_9_method_51_code 124 = .ok (.iload 5, 2) := by decide +kernel
theorem d_Model_ask_126 : decode prog_9_method_51_code 126 = .ok (.iconst 2, 1) := by decide +kernel
theorem d_Model_ask_127 : decode prog_9_method_51_code 127 = .ok (.if_icmp .lt 7, 3) := by decide +kernel
theorem d_Model_ask_130 : decode prog_9_method_51_code 130 = .ok (.iconst 4, 1) := by decide +kernel
theorem d_Model_ask_131 : decode prog_9_method_51_code 131 = .ok (.goto 4, 3) := by decide +kernel
theorem d_Model_ask_134 : decode prog_9_method_51_code 134 = .ok (.iconst 0, 1) := by decide +kernel
theorem d_Model_ask_135 : decode prog_9_method_51_code 135 = .ok (.iload 5, 2) := by decide +kernel
theorem d_Model_ask_137 : decode prog_9_method_51_code 137 = .ok (.iconst 3, 1) := by decide +kernel
theorem d_Model_ask_138 : decode prog_9_method_51_code 138 = .ok (.if_icmp .lt 16, 3) := by decide +kernel
theorem d_Model_ask_141 : decode prog_9_method_51_code 141 = .ok (.aload_n 0, 1) := by decide +kernel
theorem d_Model_ask_142 : decode prog_9_method_51_code 142 = .ok (.getfield 93, 3) := by decide +kernel
theorem d_Model_ask_145 : decode prog_9_method_51_code 145 = .ok (.iconst 4, 1) := by decide +kernel
theorem d_Model_ask_146 : decode prog_9_method_51_code 146 = .ok (.if_icmp .ge 8, 3) := by decide +kernel
theorem d_Model_ask_149 : decode prog_9_method_51_code 149 = .ok (.bipush 8, 2) := by decide +kernel
theorem d_Model_ask_151 : decode prog_9_method_51_code 151 = .ok (.goto 4, 3) := by decide +kernel
theorem d_Model_ask_154 : decode prog_9_method_51_code 154 = .ok (.iconst 0, 1) := by decide +kernel
theorem d_Model_ask_155 : decode prog_9_method_51_code 155 = .ok (.iadd, 1) := by decide +kernel
theorem d_Model_ask_156 : decode prog_9_method_51_code 156 = .ok (.iload 4, 2) := by decide +kernel
theorem d_Model_ask_158 : decode prog_9_method_51_code 158 = .ok (.aload_n 0, 1) := by decide +kernel
theorem d_Model_ask_159 : decode prog_9_method_51_code 159 = .ok (.getfield 113, 3) := by decide +kernel
theorem d_Model_ask_162 : decode prog_9_method_51_code 162 = .ok (.iconst 1, 1) := by decide +kernel
theorem d_Model_ask_163 : decode prog_9_method_51_code 163 = .ok (.iadd, 1) := by decide +kernel
theorem d_Model_ask_164 : decode prog_9_method_51_code 164 = .ok (.iconst 4, 1) := by decide +kernel
theorem d_Model_ask_165 : decode prog_9_method_51_code 165 = .ok (.irem, 1) := by decide +kernel
theorem d_Model_ask_166 : decode prog_9_method_51_code 166 = .ok (.if_icmp .ne 13, 3) := by decide +kernel
theorem d_Model_ask_169 : decode prog_9_method_51_code 169 = .ok (.aload_n 0, 1) := by decide +kernel
theorem d_Model_ask_170 : decode prog_9_method_51_code 170 = .ok (.iload 4, 2) := by decide +kernel
theorem d_Model_ask_172 : decode prog_9_method_51_code 172 = .ok (.iload_n 1, 1) := by decide +kernel
theorem d_Model_ask_173 : decode prog_9_method_51_code 173 = .ok (.invokevirtual 322, 3) := by decide +kernel
theorem d_Model_ask_176 : decode prog_9_method_51_code 176 = .ok (.goto 4, 3) := by decide +kernel
theorem d_Model_ask_179 : decode prog_9_method_51_code 179 = .ok (.iconst 0, 1) := by decide +kernel
theorem d_Model_ask_180 : decode prog_9_method_51_code 180 = .ok (.iadd, 1) := by decide +kernel
theorem d_Model_ask_181 : decode prog_9_method_51_code 181 = .ok (.iadd, 1) := by decide +kernel
theorem d_Model_ask_182 : decode prog_9_method_51_code 182 = .ok (.iastore, 1) := by decide +kernel
theorem d_Model_ask_183 : decode prog_9_method_51_code 183 = .ok (.iload_n 3, 1) := by decide +kernel
theorem d_Model_ask_184 : decode prog_9_method_51_code 184 = .ok (.ifCond .ne 13, 3) := by decide +kernel
theorem d_Model_ask_187 : decode prog_9_method_51_code 187 = .ok (.aload_n 0, 1) := by decide +kernel
theorem d_Model_ask_188 : decode prog_9_method_51_code 188 = .ok (.getfield 44, 3) := by decide +kernel
theorem d_Model_ask_191 : decode prog_9_method_51_code 191 = .ok (.iload 4, 2) := by decide +kernel
theorem d_Model_ask_193 : decode prog_9_method_51_code 193 = .ok (.iaload, 1) := by decide +kernel
theorem d_Model_ask_194 : decode prog_9_method_51_code 194 = .ok (.ifCond .le 7, 3) := by decide +kernel
theorem d_Model_ask_197 : decode prog_9_method_51_code 197 = .ok (.iconst 1, 1) := by decide +kernel
theorem d_Model_ask_198 : decode prog_9_method_51_code 198 = .ok (.goto 4, 3) := by decide +kernel
theorem d_Model_ask_201 : decode prog_9_method_51_code 201 = .ok (.iconst 0, 1) := by decide +kernel
theorem d_Model_ask_202 : decode prog_9_method_51_code 202 = .ok (.istore_n 3, 1) := by decide +kernel
theorem d_Model_ask_203 : decode prog_9_method_51_code 203 = .ok (.iinc 4 1, 3) := by decide +kernel
theorem d_Model_ask_206 : decode prog_9_method_51_code 206 = .ok (.goto (-191), 3) := by decide +kernel
theorem d_Model_ask_209 : decode prog_9_method_51_code 209 = .ok (.aload_n 0, 1) := by decide +kernel
theorem d_Model_ask_210 : decode prog_9_method_51_code 210 = .ok (.iconst 2, 1) := by decide +kernel
theorem d_Model_ask_211 : decode prog_9_method_51_code 211 = .ok (.putfield 90, 3) := by decide +kernel
theorem d_Model_ask_214 : decode prog_9_method_51_code 214 = .ok (.aload_n 0, 1) := by decide +kernel
theorem d_Model_ask_215 : decode prog_9_method_51_code 215 = .ok (.iload_n 3, 1) := by decide +kernel
theorem d_Model_ask_216 : decode prog_9_method_51_code 216 = .ok (.putfield 325, 3) := by decide +kernel
theorem d_Model_ask_219 : decode prog_9_method_51_code 219 = .ok (.iload_n 3, 1) := by decide +kernel
theorem d_Model_ask_220 : decode prog_9_method_51_code 220 = .ok (.ifCond .ne 7, 3) := by decide +kernel
theorem d_Model_ask_223 : decode prog_9_method_51_code 223 = .ok (.aload_n 0, 1) := by decide +kernel
theorem d_Model_ask_224 : decode prog_9_method_51_code 224 = .ok (.invokevirtual 328, 3) := by decide +kernel
theorem d_Model_ask_227 : decode prog_9_method_51_code 227 = .ok (.return_, 1) := by decide +kernel
theorem d_Model_discard_0 : decode prog_9_method_48_code 0 = .ok (.aload_n 0, 1) := by decide +kernel
theorem d_Model_discard_1 : decode prog_9_method_48_code 1 = .ok (.invokevirtual 299, 3) := by decide +kernel
theorem d_Model_discard_4 : decode prog_9_method_48_code 4 = .ok (.ifCond .eq 30, 3) := by decide +kernel
theorem d_Model_discard_7 : decode prog_9_method_48_code 7 = .ok (.iload_n 1, 1) := by decide +kernel
theorem d_Model_discard_8 : decode prog_9_method_48_code 8 = .ok (.ifCond .lt 26, 3) := by decide +kernel
theorem d_Model_discard_11 : decode prog_9_method_48_code 11 = .ok (.iload_n 1, 1) := by decide +kernel
theorem d_Model_discard_12 : decode prog_9_method_48_code 12 = .ok (.bipush 33, 2) := by decide +kernel
theorem d_Model_discard_14 : decode prog_9_method_48_code 14 = .ok (.if_icmp .gt 20, 3) := by decide +kernel
theorem d_Model_discard_17 : decode prog_9_method_48_code 17 = .ok (.aload_n 0, 1) := by decide +kernel
theorem d_Model_discard_18 : decode prog_9_method_48_code 18 = .ok (.getfield 16, 3) := by decide +kernel
theorem d_Model_discard_21 : decode prog_9_method_48_code 21 = .ok (.bipush 34, 2) := by decide +kernel
theorem d_Model_discard_23 : decode prog_9_method_48_code 23 = .ok (.aload_n 0, 1) := by decide +kernel
theorem d_Model_discard_24 : decode prog_9_method_48_code 24 = .ok (.getfield 113, 3) := by decide +kernel
theorem d_Model_discard_27 : decode prog_9_method_48_code 27 = .ok (.imul, 1) := by decide +kernel
theorem d_Model_discard_28 : decode prog_9_method_48_code 28 = .ok (.iload_n 1, 1) := by decide +kernel
theorem d_Model_discard_29 : decode prog_9_method_48_code 29 = .ok (.iadd, 1) := by decide +kernel
theorem d_Model_discard_30 : decode prog_9_method_48_code 30 = .ok (.iaload, 1) := by decide +kernel
theorem d_Model_discard_31 : decode prog_9_method_48_code 31 = .ok (.ifCond .ne 5, 3) := by decide +kernel
theorem d_Model_discard_34 : decode prog_9_method_48_code 34 = .ok (.iconst (-1), 1) := by decide +kernel
theorem d_Model_discard_35 : decode prog_9_method_48_code 35 = .ok (.ireturn, 1) := by decide +kernel
theorem d_Model_discard_36 : decode prog_9_method_48_code 36 = .ok (.aload_n 0, 1) := by decide +kernel
theorem d_Model_discard_37 : decode prog_9_method_48_code 37 = .ok (.getfield 113, 3) := by decide +kernel
theorem d_Model_discard_40 : decode prog_9_method_48_code 40 = .ok (.istore_n 3, 1) := by decide +kernel
theorem d_Model_discard_41 : decode prog_9_method_48_code 41 = .ok (.aload_n 0, 1) := by decide +kernel
theorem d_Model_discard_42 : decode prog_9_method_48_code 42 = .ok (.getfield 34, 3) := by decide +kernel
theorem d_Model_discard_45 : decode prog_9_method_48_code 45 = .ok (.iload_n 3, 1) := by decide +kernel
theorem d_Model_discard_46 : decode prog_9_method_48_code 46 = .ok (.iaload, 1) := by decide +kernel
