theorem dX11_isGiven_167 : decode cX11_isGiven 167 = .ok (.goto 4, 3) := by decide +kernel
theorem dX11_isGiven_170 : decode cX11_isGiven 170 = .ok (.iconst 0, 1) := by decide +kernel
theorem dX11_isGiven_171 : decode cX11_isGiven 171 = .ok (.ireturn, 1) := by decide +kernel
theorem dX11_isGiven_172 : decode cX11_isGiven 172 = .ok (.iload_n 1, 1) := by decide +kernel
theorem dX11_isGiven_173 : decode cX11_isGiven 173 = .ok (.invokestatic 431, 3) := by decide +kernel
theorem dX11_isGiven_176 : decode cX11_isGiven 176 = .ok (.ifCond .eq 18, 3) := by decide +kernel
theorem dX11_isGiven_179 : decode cX11_isGiven 179 = .ok (.iload_n 2, 1) := by decide +kernel
theorem dX11_isGiven_180 : decode cX11_isGiven 180 = .ok (.iconst 0, 1) := by decide +kernel
theorem dX11_isGiven_181 : decode cX11_isGiven 181 = .ok (.sipush 383, 3) := by decide +kernel
theorem dX11_isGiven_184 : decode cX11_isGiven 184 = .ok (.invokestatic 243, 3) := by decide +kernel
theorem dX11_isGiven_187 : decode cX11_isGiven 187 = .ok (.ifCond .eq 7, 3) := by decide +kernel
theorem dX11_isGiven_190 : decode cX11_isGiven 190 = .ok (.iconst 1, 1) := by decide +kernel
theorem dX11_isGiven_191 : decode cX11_isGiven 191 = .ok (.goto 4, 3) := by decide +kernel
theorem dX11_isGiven_194 : decode cX11_isGiven 194 = .ok (.iconst 0, 1) := by decide +kernel
theorem dX11_isGiven_195 : decode cX11_isGiven 195 = .ok (.ireturn, 1) := by decide +kernel
theorem dX11_isGiven_196 : decode cX11_isGiven 196 = .ok (.iload_n 1, 1) := by decide +kernel
theorem dX11_isGiven_197 : decode cX11_isGiven 197 = .ok (.invokestatic 431, 3) := by decide +kernel
theorem dX11_isGiven_200 : decode cX11_isGiven 200 = .ok (.ifCond .eq 18, 3) := by decide +kernel
theorem dX11_isGiven_203 : decode cX11_isGiven 203 = .ok (.iload_n 2, 1) := by decide +kernel
theorem dX11_isGiven_204 : decode cX11_isGiven 204 = .ok (.iconst 0, 1) := by decide +kernel
theorem dX11_isGiven_205 : decode cX11_isGiven 205 = .ok (.sipush 384, 3) := by decide +kernel
theorem dX11_isGiven_208 : decode cX11_isGiven 208 = .ok (.invokestatic 243, 3) := by decide +kernel
theorem dX11_isGiven_211 : decode cX11_isGiven 211 = .ok (.ifCond .eq 7, 3) := by decide +kernel
theorem dX11_isGiven_214 : decode cX11_isGiven 214 = .ok (.iconst 1, 1) := by decide +kernel
theorem dX11_isGiven_215 : decode cX11_isGiven 215 = .ok (.goto 4, 3) := by decide +kernel
theorem dX11_isGiven_218 : decode cX11_isGiven 218 = .ok (.iconst 0, 1) := by decide +kernel
theorem dX11_isGiven_219 : decode cX11_isGiven 219 = .ok (.ireturn, 1) := by decide +kernel
theorem dX11_isGiven_220 : decode cX11_isGiven 220 = .ok (.iload_n 1, 1) := by decide +kernel
theorem dX11_isGiven_221 : decode cX11_isGiven 221 = .ok (.invokestatic 431, 3) := by decide +kernel
theorem dX11_isGiven_224 : decode cX11_isGiven 224 = .ok (.ifCond .eq 18, 3) := by decide +kernel
theorem dX11_isGiven_227 : decode cX11_isGiven 227 = .ok (.iload_n 2, 1) := by decide +kernel
theorem dX11_isGiven_228 : decode cX11_isGiven 228 = .ok (.iconst 0, 1) := by decide +kernel
theorem dX11_isGiven_229 : decode cX11_isGiven 229 = .ok (.sipush 191, 3) := by decide +kernel
theorem dX11_isGiven_232 : decode cX11_isGiven 232 = .ok (.invokestatic 243, 3) := by decide +kernel
theorem dX11_isGiven_235 : decode cX11_isGiven 235 = .ok (.ifCond .eq 7, 3) := by decide +kernel
theorem dX11_isGiven_238 : decode cX11_isGiven 238 = .ok (.iconst 1, 1) := by decide +kernel
theorem dX11_isGiven_239 : decode cX11_isGiven 239 = .ok (.goto 4, 3) := by decide +kernel
theorem dX11_isGiven_242 : decode cX11_isGiven 242 = .ok (.iconst 0, 1) := by decide +kernel
theorem dX11_isGiven_243 : decode cX11_isGiven 243 = .ok (.ireturn, 1) := by decide +kernel
theorem dX11_isGiven_244 : decode cX11_isGiven 244 = .ok (.iload_n 1, 1) := by decide +kernel
theorem dX11_isGiven_245 : decode cX11_isGiven 245 = .ok (.invokestatic 431, 3) := by decide +kernel
theorem dX11_isGiven_248 : decode cX11_isGiven 248 = .ok (.ifCond .eq 16, 3) := by decide +kernel
theorem dX11_isGiven_251 : decode cX11_isGiven 251 = .ok (.iload_n 2, 1) := by decide +kernel
theorem dX11_isGiven_252 : decode cX11_isGiven 252 = .ok (.iconst 0, 1) := by decide +kernel
theorem dX11_isGiven_253 : decode cX11_isGiven 253 = .ok (.iconst 3, 1) := by decide +kernel
theorem dX11_isGiven_254 : decode cX11_isGiven 254 = .ok (.invokestatic 243, 3) := by decide +kernel
theorem dX11_isGiven_257 : decode cX11_isGiven 257 = .ok (.ifCond .eq 7, 3) := by decide +kernel
theorem dX11_isGiven_260 : decode cX11_isGiven 260 = .ok (.iconst 1, 1) := by decide +kernel
theorem dX11_isGiven_261 : decode cX11_isGiven 261 = .ok (.goto 4, 3) := by decide +kernel
theorem dX11_isGiven_264 : decode cX11_isGiven 264 = .ok (.iconst 0, 1) := by decide +kernel
theorem dX11_isGiven_265 : decode cX11_isGiven 265 = .ok (.ireturn, 1) := by decide +kernel
theorem dX11_isGiven_266 : decode cX11_isGiven 266 = .ok (.iload_n 1, 1) := by decide +kernel
theorem dX11_isGiven_267 : decode cX11_isGiven 267 = .ok (.invokestatic 431, 3) := by decide +kernel
theorem dX11_isGiven_270 : decode cX11_isGiven 270 = .ok (.ireturn, 1) := by decide +kernel
theorem dX11_isGiven_271 : decode cX11_isGiven 271 = .ok (.iconst 1, 1) := by decide +kernel
theorem dX11_isGiven_272 : decode cX11_isGiven 272 = .ok (.ireturn, 1) := by decide +kernel
theorem dX11_isGiven_273 : decode cX11_isGiven 273 = .ok (.iconst 0, 1) := by decide +kernel
theorem dX11_isGiven_274 : decode cX11_isGiven 274 = .ok (.ireturn, 1) := by decide +kernel
theorem dX11_isNode_0 : decode cX11_isNode 0 = .ok (.iload_n 1, 1) := by decide +kernel
theorem dX11_isNode_1 : decode cX11_isNode 1 = .ok (.iconst 0, 1) := by decide +kernel
theorem dX11_isNode_2 : decode cX11_isNode 2 = .ok (.aload_n 0, 1) := by decide +kernel
theorem dX11_isNode_3 : decode cX11_isNode 3 = .ok (.getfield 177, 3) := by decide +kernel
theorem dX11_isNode_6 : decode cX11_isNode 6 = .ok (.iconst 1, 1) := by decide +kernel
theorem dX11_isNode_7 : decode cX11_isNode 7 = .ok (.isub, 1) := by decide +kernel
theorem dX11_isNode_8 : decode cX11_isNode 8 = .ok (.invokestatic 243, 3) := by decide +kernel
theorem dX11_isNode_11 : decode cX11_isNode 11 = .ok (.ireturn, 1) := by decide +kernel
theorem dX11_call_0 : decode cX11_call 0 = .ok (.aload_n 0, 1) := by decide +kernel
theorem dX11_call_1 : decode cX11_call 1 = .ok (.iload_n 1, 1) := by decide +kernel
theorem dX11_call_2 : decode cX11_call 2 = .ok (.invokevirtual 434, 3) := by decide +kernel
theorem dX11_call_5 : decode cX11_call 5 = .ok (.ifCond .eq 21, 3) := by decide +kernel
theorem dX11_call_8 : decode cX11_call 8 = .ok (.iload_n 2, 1) := by decide +kernel
theorem dX11_call_9 : decode cX11_call 9 = .ok (.iload_n 3, 1) := by decide +kernel
theorem dX11_call_10 : decode cX11_call 10 = .ok (.iload 4, 2) := by decide +kernel
theorem dX11_call_12 : decode cX11_call 12 = .ok (.iload 5, 2) := by decide +kernel
theorem dX11_call_14 : decode cX11_call 14 = .ok (.iload 6, 2) := by decide +kernel
theorem dX11_call_16 : decode cX11_call 16 = .ok (.invokestatic 437, 3) := by decide +kernel
theorem dX11_call_19 : decode cX11_call 19 = .ok (.ifCond .eq 7, 3) := by decide +kernel
theorem dX11_call_22 : decode cX11_call 22 = .ok (.iconst 1, 1) := by decide +kernel
theorem dX11_call_23 : decode cX11_call 23 = .ok (.goto 4, 3) := by decide +kernel
theorem dX11_call_26 : decode cX11_call 26 = .ok (.iconst 0, 1) := by decide +kernel
theorem dX11_call_27 : decode cX11_call 27 = .ok (.istore 7, 2) := by decide +kernel
theorem dX11_call_29 : decode cX11_call 29 = .ok (.aload_n 0, 1) := by decide +kernel
theorem dX11_call_30 : decode cX11_call 30 = .ok (.iload 7, 2) := by decide +kernel
theorem dX11_call_32 : decode cX11_call 32 = .ok (.ifCond .ne 7, 3) := by decide +kernel
theorem dX11_call_35 : decode cX11_call 35 = .ok (.iconst 1, 1) := by decide +kernel
theorem dX11_call_36 : decode cX11_call 36 = .ok (.goto 4, 3) := by decide +kernel
theorem dX11_call_39 : decode cX11_call 39 = .ok (.iconst 0, 1) := by decide +kernel
theorem dX11_call_40 : decode cX11_call 40 = .ok (.iload 7, 2) := by decide +kernel
theorem dX11_call_42 : decode cX11_call 42 = .ok (.ifCond .eq 24, 3) := by decide +kernel
theorem dX11_call_45 : decode cX11_call 45 = .ok (.aload_n 0, 1) := by decide +kernel
theorem dX11_call_46 : decode cX11_call 46 = .ok (.getfield 13, 3) := by decide +kernel
theorem dX11_call_49 : decode cX11_call 49 = .ok (.iload_n 1, 1) := by decide +kernel
theorem dX11_call_50 : decode cX11_call 50 = .ok (.baload, 1) := by decide +kernel
theorem dX11_call_51 : decode cX11_call 51 = .ok (.ifCond .eq 11, 3) := by decide +kernel
theorem dX11_call_54 : decode cX11_call 54 = .ok (.aload_n 0, 1) := by decide +kernel
theorem dX11_call_55 : decode cX11_call 55 = .ok (.iload_n 1, 1) := by decide +kernel
theorem dX11_call_56 : decode cX11_call 56 = .ok (.invokevirtual 264, 3) := by decide +kernel
theorem dX11_call_59 : decode cX11_call 59 = .ok (.ifCond .eq 7, 3) := by decide +kernel
theorem dX11_call_62 : decode cX11_call 62 = .ok (.iconst 1, 1) := by decide +kernel
theorem dX11_call_63 : decode cX11_call 63 = .ok (.goto 4, 3) := by decide +kernel
theorem dX11_call_66 : decode cX11_call 66 = .ok (.iconst 0, 1) := by decide +kernel
theorem dX11_call_67 : decode cX11_call 67 = .ok (.iconst 0, 1) := by decide +kernel
theorem dX11_call_68 : decode cX11_call 68 = .ok (.invokevirtual 441, 3) := by decide +kernel
theorem dX11_call_71 : decode cX11_call 71 = .ok (.ifCond .eq 5, 3) := by decide +kernel
theorem dX11_call_74 : decode cX11_call 74 = .ok (.iconst 0, 1) := by decide +kernel
theorem dX11_call_75 : decode cX11_call 75 = .ok (.ireturn, 1) := by decide +kernel
theorem dX11_call_76 : decode cX11_call 76 = .ok (.aload_n 0, 1) := by decide +kernel
theorem dX11_call_77 : decode cX11_call 77 = .ok (.getfield 66, 3) := by decide +kernel
theorem dX11_call_80 : decode cX11_call 80 = .ok (.iload_n 1, 1) := by decide +kernel
theorem dX11_call_81 : decode cX11_call 81 = .ok (.iload_n 2, 1) := by decide +kernel
theorem dX11_call_82 : decode cX11_call 82 = .ok (.iastore, 1) := by decide +kernel
theorem dX11_call_83 : decode cX11_call 83 = .ok (.aload_n 0, 1) := by decide +kernel
theorem dX11_call_84 : decode cX11_call 84 = .ok (.getfield 69, 3) := by decide +kernel
theorem dX11_call_87 : decode cX11_call 87 = .ok (.iload_n 1, 1) := by decide +kernel
theorem dX11_call_88 : decode cX11_call 88 = .ok (.iload_n 3, 1) := by decide +kernel
theorem dX11_call_89 : decode cX11_call 89 = .ok (.iastore, 1) := by decide +kernel
theorem dX11_call_90 : decode cX11_call 90 = .ok (.aload_n 0, 1) := by decide +kernel
theorem dX11_call_91 : decode cX11_call 91 = .ok (.getfield 72, 3) := by decide +kernel
theorem dX11_call_94 : decode cX11_call 94 = .ok (.iload_n 1, 1) := by decide +kernel
theorem dX11_call_95 : decode cX11_call 95 = .ok (.iload 4, 2) := by decide +kernel
theorem dX11_call_97 : decode cX11_call 97 = .ok (.iastore, 1) := by decide +kernel
theorem dX11_call_98 : decode cX11_call 98 = .ok (.aload_n 0, 1) := by decide +kernel
theorem dX11_call_99 : decode cX11_call 99 = .ok (.getfield 75, 3) := by decide +kernel
theorem dX11_call_102 : decode cX11_call 102 = .ok (.iload_n 1, 1) := by decide +kernel
theorem dX11_call_103 : decode cX11_call 103 = .ok (.iload 5, 2) := by decide +kernel
theorem dX11_call_105 : decode cX11_call 105 = .ok (.iastore, 1) := by decide +kernel
theorem dX11_call_106 : decode cX11_call 106 = .ok (.aload_n 0, 1) := by decide +kernel
theorem dX11_call_107 : decode cX11_call 107 = .ok (.getfield 78, 3) := by decide +kernel
theorem dX11_call_110 : decode cX11_call 110 = .ok (.iload_n 1, 1) := by decide +kernel
theorem dX11_call_111 : decode cX11_call 111 = .ok (.iload 6, 2) := by decide +kernel
theorem dX11_call_113 : decode cX11_call 113 = .ok (.iastore, 1) := by decide +kernel
theorem dX11_call_114 : decode cX11_call 114 = .ok (.aload_n 0, 1) := by decide +kernel
theorem dX11_call_115 : decode cX11_call 115 = .ok (.getfield 81, 3) := by decide +kernel
theorem dX11_call_118 : decode cX11_call 118 = .ok (.iload_n 1, 1) := by decide +kernel
theorem dX11_call_119 : decode cX11_call 119 = .ok (.iconst 1, 1) := by decide +kernel
theorem dX11_call_120 : decode cX11_call 120 = .ok (.iastore, 1) := by decide +kernel
theorem dX11_call_121 : decode cX11_call 121 = .ok (.aload_n 0, 1) := by decide +kernel
theorem dX11_call_122 : decode cX11_call 122 = .ok (.getfield 84, 3) := by decide +kernel
theorem dX11_call_125 : decode cX11_call 125 = .ok (.iload_n 1, 1) := by decide +kernel
theorem dX11_call_126 : decode cX11_call 126 = .ok (.iconst 0, 1) := by decide +kernel
theorem dX11_call_127 : decode cX11_call 127 = .ok (.iastore, 1) := by decide +kernel
theorem dX11_call_128 : decode cX11_call 128 = .ok (.aload_n 0, 1) := by decide +kernel
theorem dX11_call_129 : decode cX11_call 129 = .ok (.getfield 87, 3) := by decide +kernel
theorem dX11_call_132 : decode cX11_call 132 = .ok (.iload_n 1, 1) := by decide +kernel
theorem dX11_call_133 : decode cX11_call 133 = .ok (.aload_n 0, 1) := by decide +kernel
theorem dX11_call_134 : decode cX11_call 134 = .ok (.getfield 194, 3) := by decide +kernel
theorem dX11_call_137 : decode cX11_call 137 = .ok (.iastore, 1) := by decide +kernel
theorem dX11_call_138 : decode cX11_call 138 = .ok (.aload_n 0, 1) := by decide +kernel
theorem dX11_call_139 : decode cX11_call 139 = .ok (.getfield 90, 3) := by decide +kernel
theorem dX11_call_142 : decode cX11_call 142 = .ok (.iload_n 1, 1) := by decide +kernel
theorem dX11_call_143 : decode cX11_call 143 = .ok (.iconst 0, 1) := by decide +kernel
theorem dX11_call_144 : decode cX11_call 144 = .ok (.iastore, 1) := by decide +kernel
theorem dX11_call_145 : decode cX11_call 145 = .ok (.aload_n 0, 1) := by decide +kernel
theorem dX11_call_146 : decode cX11_call 146 = .ok (.getfield 93, 3) := by decide +kernel
theorem dX11_call_149 : decode cX11_call 149 = .ok (.iload_n 1, 1) := by decide +kernel
theorem dX11_call_150 : decode cX11_call 150 = .ok (.iconst 0, 1) := by decide +kernel
theorem dX11_call_151 : decode cX11_call 151 = .ok (.iastore, 1) := by decide +kernel
theorem dX11_call_152 : decode cX11_call 152 = .ok (.aload_n 0, 1) := by decide +kernel
theorem dX11_call_153 : decode cX11_call 153 = .ok (.getfield 96, 3) := by decide +kernel
theorem dX11_call_156 : decode cX11_call 156 = .ok (.iload_n 1, 1) := by decide +kernel
theorem dX11_call_157 : decode cX11_call 157 = .ok (.iconst 0, 1) := by decide +kernel
theorem dX11_call_158 : decode cX11_call 158 = .ok (.iastore, 1) := by decide +kernel
theorem dX11_call_159 : decode cX11_call 159 = .ok (.aload_n 0, 1) := by decide +kernel
theorem dX11_call_160 : decode cX11_call 160 = .ok (.getfield 99, 3) := by decide +kernel
theorem dX11_call_163 : decode cX11_call 163 = .ok (.iload_n 1, 1) := by decide +kernel
theorem dX11_call_164 : decode cX11_call 164 = .ok (.iconst 0, 1) := by decide +kernel
theorem dX11_call_165 : decode cX11_call 165 = .ok (.bastore, 1) := by decide +kernel
theorem dX11_call_166 : decode cX11_call 166 = .ok (.iconst 0, 1) := by decide +kernel
theorem dX11_call_167 : decode cX11_call 167 = .ok (.istore 8, 2) := by decide +kernel
theorem dX11_call_169 : decode cX11_call 169 = .ok (.iload 8, 2) := by decide +kernel
theorem dX11_call_171 : decode cX11_call 171 = .ok (.sipush 136, 3) := by decide +kernel
theorem dX11_call_174 : decode cX11_call 174 = .ok (.if_icmp .ge 21, 3) := by decide +kernel
theorem dX11_call_177 : decode cX11_call 177 = .ok (.aload_n 0, 1) := by decide +kernel
theorem dX11_call_178 : decode cX11_call 178 = .ok (.getfield 63, 3) := by decide +kernel
theorem dX11_call_181 : decode cX11_call 181 = .ok (.iload_n 1, 1) := by decide +kernel
theorem dX11_call_182 : decode cX11_call 182 = .ok (.iload 8, 2) := by decide +kernel
theorem dX11_call_184 : decode cX11_call 184 = .ok (.invokestatic 208, 3) := by decide +kernel
theorem dX11_call_187 : decode cX11_call 187 = .ok (.iconst 0, 1) := by decide +kernel
theorem dX11_call_188 : decode cX11_call 188 = .ok (.iastore, 1) := by decide +kernel
theorem dX11_call_189 : decode cX11_call 189 = .ok (.iinc 8 1, 3) := by decide +kernel
theorem dX11_call_192 : decode cX11_call 192 = .ok (.goto (-23), 3) := by decide +kernel
theorem dX11_call_195 : decode cX11_call 195 = .ok (.aload_n 0, 1) := by decide +kernel
theorem dX11_call_196 : decode cX11_call 196 = .ok (.iload_n 1, 1) := by decide +kernel
theorem dX11_call_197 : decode cX11_call 197 = .ok (.invokevirtual 212, 3) := by decide +kernel
theorem dX11_call_200 : decode cX11_call 200 = .ok (.aload_n 0, 1) := by decide +kernel
theorem dX11_call_201 : decode cX11_call 201 = .ok (.getfield 81, 3) := by decide +kernel
theorem dX11_call_204 : decode cX11_call 204 = .ok (.iload_n 1, 1) := by decide +kernel
theorem dX11_call_205 : decode cX11_call 205 = .ok (.iaload, 1) := by decide +kernel
theorem dX11_call_206 : decode cX11_call 206 = .ok (.iconst 1, 1) := by decide +kernel
theorem dX11_call_207 : decode cX11_call 207 = .ok (.if_icmp .ne 7, 3) := by decide +kernel
theorem dX11_call_210 : decode cX11_call 210 = .ok (.iconst 0, 1) := by decide +kernel
theorem dX11_call_211 : decode cX11_call 211 = .ok (.goto 4, 3) := by decide +kernel
theorem dX11_call_214 : decode cX11_call 214 = .ok (.iconst 1, 1) := by decide +kernel
theorem dX11_call_215 : decode cX11_call 215 = .ok (.ireturn, 1) := by decide +kernel
theorem dX11_delay_0 : decode cX11_delay 0 = .ok (.aload_n 0, 1) := by decide +kernel
theorem dX11_delay_1 : decode cX11_delay 1 = .ok (.aload_n 0, 1) := by decide +kernel
theorem dX11_delay_2 : decode cX11_delay 2 = .ok (.iload_n 1, 1) := by decide +kernel
theorem dX11_delay_3 : decode cX11_delay 3 = .ok (.invokevirtual 434, 3) := by decide +kernel
theorem dX11_delay_6 : decode cX11_delay 6 = .ok (.ifCond .eq 21, 3) := by decide +kernel
theorem dX11_delay_9 : decode cX11_delay 9 = .ok (.aload_n 0, 1) := by decide +kernel
theorem dX11_delay_10 : decode cX11_delay 10 = .ok (.iload_n 2, 1) := by decide +kernel
theorem dX11_delay_11 : decode cX11_delay 11 = .ok (.invokevirtual 434, 3) := by decide +kernel
theorem dX11_delay_14 : decode cX11_delay 14 = .ok (.ifCond .eq 13, 3) := by decide +kernel
theorem dX11_delay_17 : decode cX11_delay 17 = .ok (.iload_n 3, 1) := by decide +kernel
theorem dX11_delay_18 : decode cX11_delay 18 = .ok (.iconst 1, 1) := by decide +kernel
theorem dX11_delay_19 : decode cX11_delay 19 = .ok (.bipush 20, 2) := by decide +kernel
theorem dX11_delay_21 : decode cX11_delay 21 = .ok (.invokestatic 243, 3) := by decide +kernel
theorem dX11_delay_24 : decode cX11_delay 24 = .ok (.ifCond .ne 7, 3) := by decide +kernel
theorem dX11_delay_27 : decode cX11_delay 27 = .ok (.iconst 1, 1) := by decide +kernel
theorem dX11_delay_28 : decode cX11_delay 28 = .ok (.goto 4, 3) := by decide +kernel
theorem dX11_delay_31 : decode cX11_delay 31 = .ok (.iconst 0, 1) := by decide +kernel
theorem dX11_delay_32 : decode cX11_delay 32 = .ok (.iconst 0, 1) := by decide +kernel
theorem dX11_delay_33 : decode cX11_delay 33 = .ok (.iconst 0, 1) := by decide +kernel
theorem dX11_delay_34 : decode cX11_delay 34 = .ok (.invokevirtual 441, 3) := by decide +kernel
theorem dX11_delay_37 : decode cX11_delay 37 = .ok (.ifCond .ne 14, 3) := by decide +kernel
theorem dX11_delay_40 : decode cX11_delay 40 = .ok (.aload_n 0, 1) := by decide +kernel
theorem dX11_delay_41 : decode cX11_delay 41 = .ok (.getfield 135, 3) := by decide +kernel
theorem dX11_delay_44 : decode cX11_delay 44 = .ok (.iconst 4, 1) := by decide +kernel
theorem dX11_delay_45 : decode cX11_delay 45 = .ok (.iload_n 1, 1) := by decide +kernel
theorem dX11_delay_46 : decode cX11_delay 46 = .ok (.imul, 1) := by decide +kernel
theorem dX11_delay_47 : decode cX11_delay 47 = .ok (.iload_n 2, 1) := by decide +kernel
theorem dX11_delay_48 : decode cX11_delay 48 = .ok (.iadd, 1) := by decide +kernel
theorem dX11_delay_49 : decode cX11_delay 49 = .ok (.iload_n 3, 1) := by decide +kernel
theorem dX11_delay_50 : decode cX11_delay 50 = .ok (.iastore, 1) := by decide +kernel
theorem dX11_delay_51 : decode cX11_delay 51 = .ok (.return_, 1) := by decide +kernel
theorem dX11_putWords_0 : decode cX11_putWords 0 = .ok (.iconst 0, 1) := by decide +kernel
theorem dX11_putWords_1 : decode cX11_putWords 1 = .ok (.istore 4, 2) := by decide +kernel
theorem dX11_putWords_3 : decode cX11_putWords 3 = .ok (.iload 4, 2) := by decide +kernel
theorem dX11_putWords_5 : decode cX11_putWords 5 = .ok (.iload_n 3, 1) := by decide +kernel
theorem dX11_putWords_6 : decode cX11_putWords 6 = .ok (.if_icmp .ge 30, 3) := by decide +kernel
theorem dX11_putWords_9 : decode cX11_putWords 9 = .ok (.aload_n 0, 1) := by decide +kernel
theorem dX11_putWords_10 : decode cX11_putWords 10 = .ok (.getfield 7, 3) := by decide +kernel
theorem dX11_putWords_13 : decode cX11_putWords 13 = .ok (.bipush 16, 2) := by decide +kernel
theorem dX11_putWords_15 : decode cX11_putWords 15 = .ok (.iload_n 1, 1) := by decide +kernel
theorem dX11_putWords_16 : decode cX11_putWords 16 = .ok (.imul, 1) := by decide +kernel
theorem dX11_putWords_17 : decode cX11_putWords 17 = .ok (.iload 4, 2) := by decide +kernel
theorem dX11_putWords_19 : decode cX11_putWords 19 = .ok (.iadd, 1) := by decide +kernel
theorem dX11_putWords_20 : decode cX11_putWords 20 = .ok (.aload_n 0, 1) := by decide +kernel
theorem dX11_putWords_21 : decode cX11_putWords 21 = .ok (.getfield 45, 3) := by decide +kernel
theorem dX11_putWords_24 : decode cX11_putWords 24 = .ok (.iload_n 2, 1) := by decide +kernel
theorem dX11_putWords_25 : decode cX11_putWords 25 = .ok (.iload 4, 2) := by decide +kernel
theorem dX11_putWords_27 : decode cX11_putWords 27 = .ok (.iadd, 1) := by decide +kernel
theorem dX11_putWords_28 : decode cX11_putWords 28 = .ok (.iaload, 1) := by decide +kernel
theorem dX11_putWords_29 : decode cX11_putWords 29 = .ok (.iastore, 1) := by decide +kernel
theorem dX11_putWords_30 : decode cX11_putWords 30 = .ok (.iinc 4 1, 3) := by decide +kernel
theorem dX11_putWords_33 : decode cX11_putWords 33 = .ok (.goto (-30), 3) := by decide +kernel
theorem dX11_putWords_36 : decode cX11_putWords 36 = .ok (.return_, 1) := by decide +kernel
theorem dX11_isCounting_0 : decode cX11_isCounting 0 = .ok (.iconst 2, 1) := by decide +kernel
theorem dX11_isCounting_1 : decode cX11_isCounting 1 = .ok (.aload_n 0, 1) := by decide +kernel
theorem dX11_isCounting_2 : decode cX11_isCounting 2 = .ok (.getfield 39, 3) := by decide +kernel
theorem dX11_isCounting_5 : decode cX11_isCounting 5 = .ok (.iload_n 1, 1) := by decide +kernel
theorem dX11_isCounting_6 : decode cX11_isCounting 6 = .ok (.iaload, 1) := by decide +kernel
theorem dX11_isCounting_7 : decode cX11_isCounting 7 = .ok (.imul, 1) := by decide +kernel
theorem dX11_isCounting_8 : decode cX11_isCounting 8 = .ok (.iconst 1, 1) := by decide +kernel
theorem dX11_isCounting_9 : decode cX11_isCounting 9 = .ok (.iadd, 1) := by decide +kernel
theorem dX11_isCounting_10 : decode cX11_isCounting 10 = .ok (.aload_n 0, 1) := by decide +kernel
theorem dX11_isCounting_11 : decode cX11_isCounting 11 = .ok (.getfield 36, 3) := by decide +kernel
theorem dX11_isCounting_14 : decode cX11_isCounting 14 = .ok (.iload_n 1, 1) := by decide +kernel
theorem dX11_isCounting_15 : decode cX11_isCounting 15 = .ok (.iaload, 1) := by decide +kernel
theorem dX11_isCounting_16 : decode cX11_isCounting 16 = .ok (.if_icmp .ne 7, 3) := by decide +kernel
theorem dX11_isCounting_19 : decode cX11_isCounting 19 = .ok (.iconst 1, 1) := by decide +kernel
theorem dX11_isCounting_20 : decode cX11_isCounting 20 = .ok (.goto 4, 3) := by decide +kernel
theorem dX11_isCounting_23 : decode cX11_isCounting 23 = .ok (.iconst 0, 1) := by decide +kernel
theorem dX11_isCounting_24 : decode cX11_isCounting 24 = .ok (.ireturn, 1) := by decide +kernel
theorem dX11_oneTick_0 : decode cX11_oneTick 0 = .ok (.aload_n 0, 1) := by decide +kernel
theorem dX11_oneTick_1 : decode cX11_oneTick 1 = .ok (.dup, 1) := by decide +kernel
theorem dX11_oneTick_2 : decode cX11_oneTick 2 = .ok (.getfield 194, 3) := by decide +kernel
theorem dX11_oneTick_5 : decode cX11_oneTick 5 = .ok (.iconst 1, 1) := by decide +kernel
theorem dX11_oneTick_6 : decode cX11_oneTick 6 = .ok (.iadd, 1) := by decide +kernel
theorem dX11_oneTick_7 : decode cX11_oneTick 7 = .ok (.putfield 194, 3) := by decide +kernel
theorem dX11_oneTick_10 : decode cX11_oneTick 10 = .ok (.iconst 0, 1) := by decide +kernel
theorem dX11_oneTick_11 : decode cX11_oneTick 11 = .ok (.istore_n 1, 1) := by decide +kernel
theorem dX11_oneTick_12 : decode cX11_oneTick 12 = .ok (.iload_n 1, 1) := by decide +kernel
theorem dX11_oneTick_13 : decode cX11_oneTick 13 = .ok (.aload_n 0, 1) := by decide +kernel
theorem dX11_oneTick_14 : decode cX11_oneTick 14 = .ok (.getfield 197, 3) := by decide +kernel
theorem dX11_oneTick_17 : decode cX11_oneTick 17 = .ok (.if_icmp .ge 80, 3) := by decide +kernel
theorem dX11_oneTick_20 : decode cX11_oneTick 20 = .ok (.aload_n 0, 1) := by decide +kernel
theorem dX11_oneTick_21 : decode cX11_oneTick 21 = .ok (.getfield 132, 3) := by decide +kernel
theorem dX11_oneTick_24 : decode cX11_oneTick 24 = .ok (.iload_n 1, 1) := by decide +kernel
theorem dX11_oneTick_25 : decode cX11_oneTick 25 = .ok (.iaload, 1) := by decide +kernel
theorem dX11_oneTick_26 : decode cX11_oneTick 26 = .ok (.aload_n 0, 1) := by decide +kernel
theorem dX11_oneTick_27 : decode cX11_oneTick 27 = .ok (.getfield 194, 3) := by decide +kernel
theorem dX11_oneTick_30 : decode cX11_oneTick 30 = .ok (.if_icmp .le 9, 3) := by decide +kernel
theorem dX11_oneTick_33 : decode cX11_oneTick 33 = .ok (.iinc 1 1, 3) := by decide +kernel
theorem dX11_oneTick_36 : decode cX11_oneTick 36 = .ok (.goto (-24), 3) := by decide +kernel
theorem dX11_oneTick_39 : decode cX11_oneTick 39 = .ok (.aload_n 0, 1) := by decide +kernel
theorem dX11_oneTick_40 : decode cX11_oneTick 40 = .ok (.getfield 117, 3) := by decide +kernel
theorem dX11_oneTick_43 : decode cX11_oneTick 43 = .ok (.iload_n 1, 1) := by decide +kernel
theorem dX11_oneTick_44 : decode cX11_oneTick 44 = .ok (.iaload, 1) := by decide +kernel
theorem dX11_oneTick_45 : decode cX11_oneTick 45 = .ok (.istore_n 2, 1) := by decide +kernel
theorem dX11_oneTick_46 : decode cX11_oneTick 46 = .ok (.aload_n 0, 1) := by decide +kernel
theorem dX11_oneTick_47 : decode cX11_oneTick 47 = .ok (.getfield 120, 3) := by decide +kernel
theorem dX11_oneTick_50 : decode cX11_oneTick 50 = .ok (.iload_n 1, 1) := by decide +kernel
theorem dX11_oneTick_51 : decode cX11_oneTick 51 = .ok (.iaload, 1) := by decide +kernel
theorem dX11_oneTick_52 : decode cX11_oneTick 52 = .ok (.istore_n 3, 1) := by decide +kernel
theorem dX11_oneTick_53 : decode cX11_oneTick 53 = .ok (.aload_n 0, 1) := by decide +kernel
theorem dX11_oneTick_54 : decode cX11_oneTick 54 = .ok (.getfield 123, 3) := by decide +kernel
theorem dX11_oneTick_57 : decode cX11_oneTick 57 = .ok (.iload_n 1, 1) := by decide +kernel
theorem dX11_oneTick_58 : decode cX11_oneTick 58 = .ok (.iaload, 1) := by decide +kernel
theorem dX11_oneTick_59 : decode cX11_oneTick 59 = .ok (.istore 4, 2) := by decide +kernel
theorem dX11_oneTick_61 : decode cX11_oneTick 61 = .ok (.aload_n 0, 1) := by decide +kernel
theorem dX11_oneTick_62 : decode cX11_oneTick 62 = .ok (.getfield 126, 3) := by decide +kernel
theorem dX11_oneTick_65 : decode cX11_oneTick 65 = .ok (.iload_n 1, 1) := by decide +kernel
theorem dX11_oneTick_66 : decode cX11_oneTick 66 = .ok (.iaload, 1) := by decide +kernel
theorem dX11_oneTick_67 : decode cX11_oneTick 67 = .ok (.istore 5, 2) := by decide +kernel
theorem dX11_oneTick_69 : decode cX11_oneTick 69 = .ok (.aload_n 0, 1) := by decide +kernel
theorem dX11_oneTick_70 : decode cX11_oneTick 70 = .ok (.getfield 129, 3) := by decide +kernel
theorem dX11_oneTick_73 : decode cX11_oneTick 73 = .ok (.iload_n 1, 1) := by decide +kernel
theorem dX11_oneTick_74 : decode cX11_oneTick 74 = .ok (.iaload, 1) := by decide +kernel
theorem dX11_oneTick_75 : decode cX11_oneTick 75 = .ok (.istore 6, 2) := by decide +kernel
theorem dX11_oneTick_77 : decode cX11_oneTick 77 = .ok (.aload_n 0, 1) := by decide +kernel
theorem dX11_oneTick_78 : decode cX11_oneTick 78 = .ok (.iload_n 1, 1) := by decide +kernel
theorem dX11_oneTick_79 : decode cX11_oneTick 79 = .ok (.invokevirtual 445, 3) := by decide +kernel
theorem dX11_oneTick_82 : decode cX11_oneTick 82 = .ok (.aload_n 0, 1) := by decide +kernel
theorem dX11_oneTick_83 : decode cX11_oneTick 83 = .ok (.iload_n 2, 1) := by decide +kernel
theorem dX11_oneTick_84 : decode cX11_oneTick 84 = .ok (.iload_n 3, 1) := by decide +kernel
theorem dX11_oneTick_85 : decode cX11_oneTick 85 = .ok (.iload 4, 2) := by decide +kernel
theorem dX11_oneTick_87 : decode cX11_oneTick 87 = .ok (.iload 5, 2) := by decide +kernel
theorem dX11_oneTick_89 : decode cX11_oneTick 89 = .ok (.iload 6, 2) := by decide +kernel
theorem dX11_oneTick_91 : decode cX11_oneTick 91 = .ok (.invokevirtual 448, 3) := by decide +kernel
theorem dX11_oneTick_94 : decode cX11_oneTick 94 = .ok (.goto (-82), 3) := by decide +kernel
theorem dX11_oneTick_97 : decode cX11_oneTick 97 = .ok (.iconst 0, 1) := by decide +kernel
theorem dX11_oneTick_98 : decode cX11_oneTick 98 = .ok (.istore_n 2, 1) := by decide +kernel
theorem dX11_oneTick_99 : decode cX11_oneTick 99 = .ok (.iload_n 2, 1) := by decide +kernel
theorem dX11_oneTick_100 : decode cX11_oneTick 100 = .ok (.aload_n 0, 1) := by decide +kernel
theorem dX11_oneTick_101 : decode cX11_oneTick 101 = .ok (.getfield 177, 3) := by decide +kernel
theorem dX11_oneTick_104 : decode cX11_oneTick 104 = .ok (.if_icmp .ge 111, 3) := by decide +kernel
theorem dX11_oneTick_107 : decode cX11_oneTick 107 = .ok (.aload_n 0, 1) := by decide +kernel
theorem dX11_oneTick_108 : decode cX11_oneTick 108 = .ok (.getfield 13, 3) := by decide +kernel
theorem dX11_oneTick_111 : decode cX11_oneTick 111 = .ok (.iload_n 2, 1) := by decide +kernel
theorem dX11_oneTick_112 : decode cX11_oneTick 112 = .ok (.baload, 1) := by decide +kernel
theorem dX11_oneTick_113 : decode cX11_oneTick 113 = .ok (.ifCond .eq 96, 3) := by decide +kernel
theorem dX11_oneTick_116 : decode cX11_oneTick 116 = .ok (.aload_n 0, 1) := by decide +kernel
theorem dX11_oneTick_117 : decode cX11_oneTick 117 = .ok (.getfield 36, 3) := by decide +kernel
theorem dX11_oneTick_120 : decode cX11_oneTick 120 = .ok (.iload_n 2, 1) := by decide +kernel
theorem dX11_oneTick_121 : decode cX11_oneTick 121 = .ok (.iaload, 1) := by decide +kernel
theorem dX11_oneTick_122 : decode cX11_oneTick 122 = .ok (.ifCond .ne 6, 3) := by decide +kernel
theorem dX11_oneTick_125 : decode cX11_oneTick 125 = .ok (.goto 84, 3) := by decide +kernel
theorem dX11_oneTick_128 : decode cX11_oneTick 128 = .ok (.bipush 36, 2) := by decide +kernel
theorem dX11_oneTick_130 : decode cX11_oneTick 130 = .ok (.iload_n 2, 1) := by decide +kernel
theorem dX11_oneTick_131 : decode cX11_oneTick 131 = .ok (.imul, 1) := by decide +kernel
theorem dX11_oneTick_132 : decode cX11_oneTick 132 = .ok (.aload_n 0, 1) := by decide +kernel
theorem dX11_oneTick_133 : decode cX11_oneTick 133 = .ok (.getfield 39, 3) := by decide +kernel
theorem dX11_oneTick_136 : decode cX11_oneTick 136 = .ok (.iload_n 2, 1) := by decide +kernel
theorem dX11_oneTick_137 : decode cX11_oneTick 137 = .ok (.iaload, 1) := by decide +kernel
theorem dX11_oneTick_138 : decode cX11_oneTick 138 = .ok (.iadd, 1) := by decide +kernel
theorem dX11_oneTick_139 : decode cX11_oneTick 139 = .ok (.istore_n 3, 1) := by decide +kernel
theorem dX11_oneTick_140 : decode cX11_oneTick 140 = .ok (.aload_n 0, 1) := by decide +kernel
theorem dX11_oneTick_141 : decode cX11_oneTick 141 = .ok (.aload_n 0, 1) := by decide +kernel
theorem dX11_oneTick_142 : decode cX11_oneTick 142 = .ok (.getfield 42, 3) := by decide +kernel
theorem dX11_oneTick_145 : decode cX11_oneTick 145 = .ok (.iload_n 3, 1) := by decide +kernel
theorem dX11_oneTick_146 : decode cX11_oneTick 146 = .ok (.iaload, 1) := by decide +kernel
theorem dX11_oneTick_147 : decode cX11_oneTick 147 = .ok (.bipush 16, 2) := by decide +kernel
theorem dX11_oneTick_149 : decode cX11_oneTick 149 = .ok (.iload_n 3, 1) := by decide +kernel
theorem dX11_oneTick_150 : decode cX11_oneTick 150 = .ok (.imul, 1) := by decide +kernel
theorem dX11_oneTick_151 : decode cX11_oneTick 151 = .ok (.bipush 16, 2) := by decide +kernel
theorem dX11_oneTick_153 : decode cX11_oneTick 153 = .ok (.invokevirtual 451, 3) := by decide +kernel
theorem dX11_oneTick_156 : decode cX11_oneTick 156 = .ok (.aload_n 0, 1) := by decide +kernel
theorem dX11_oneTick_157 : decode cX11_oneTick 157 = .ok (.dup, 1) := by decide +kernel
theorem dX11_oneTick_158 : decode cX11_oneTick 158 = .ok (.getfield 454, 3) := by decide +kernel
theorem dX11_oneTick_161 : decode cX11_oneTick 161 = .ok (.iconst 1, 1) := by decide +kernel
theorem dX11_oneTick_162 : decode cX11_oneTick 162 = .ok (.iadd, 1) := by decide +kernel
theorem dX11_oneTick_163 : decode cX11_oneTick 163 = .ok (.putfield 454, 3) := by decide +kernel
theorem dX11_oneTick_166 : decode cX11_oneTick 166 = .ok (.aload_n 0, 1) := by decide +kernel
theorem dX11_oneTick_167 : decode cX11_oneTick 167 = .ok (.iload_n 2, 1) := by decide +kernel
theorem dX11_oneTick_168 : decode cX11_oneTick 168 = .ok (.invokevirtual 457, 3) := by decide +kernel
theorem dX11_oneTick_171 : decode cX11_oneTick 171 = .ok (.ifCond .eq 8, 3) := by decide +kernel
theorem dX11_oneTick_174 : decode cX11_oneTick 174 = .ok (.aload_n 0, 1) := by decide +kernel
theorem dX11_oneTick_175 : decode cX11_oneTick 175 = .ok (.iload_n 2, 1) := by decide +kernel
theorem dX11_oneTick_176 : decode cX11_oneTick 176 = .ok (.invokevirtual 460, 3) := by decide +kernel
theorem dX11_oneTick_179 : decode cX11_oneTick 179 = .ok (.aload_n 0, 1) := by decide +kernel
theorem dX11_oneTick_180 : decode cX11_oneTick 180 = .ok (.getfield 39, 3) := by decide +kernel
theorem dX11_oneTick_183 : decode cX11_oneTick 183 = .ok (.iload_n 2, 1) := by decide +kernel
theorem dX11_oneTick_184 : decode cX11_oneTick 184 = .ok (.dup2, 1) := by decide +kernel
theorem dX11_oneTick_185 : decode cX11_oneTick 185 = .ok (.iaload, 1) := by decide +kernel
theorem dX11_oneTick_186 : decode cX11_oneTick 186 = .ok (.iconst 1, 1) := by decide +kernel
theorem dX11_oneTick_187 : decode cX11_oneTick 187 = .ok (.iadd, 1) := by decide +kernel
theorem dX11_oneTick_188 : decode cX11_oneTick 188 = .ok (.iastore, 1) := by decide +kernel
theorem dX11_oneTick_189 : decode cX11_oneTick 189 = .ok (.aload_n 0, 1) := by decide +kernel
theorem dX11_oneTick_190 : decode cX11_oneTick 190 = .ok (.getfield 39, 3) := by decide +kernel
theorem dX11_oneTick_193 : decode cX11_oneTick 193 = .ok (.iload_n 2, 1) := by decide +kernel
theorem dX11_oneTick_194 : decode cX11_oneTick 194 = .ok (.iaload, 1) := by decide +kernel
theorem dX11_oneTick_195 : decode cX11_oneTick 195 = .ok (.aload_n 0, 1) := by decide +kernel
theorem dX11_oneTick_196 : decode cX11_oneTick 196 = .ok (.getfield 36, 3) := by decide +kernel
theorem dX11_oneTick_199 : decode cX11_oneTick 199 = .ok (.iload_n 2, 1) := by decide +kernel
theorem dX11_oneTick_200 : decode cX11_oneTick 200 = .ok (.iaload, 1) := by decide +kernel
theorem dX11_oneTick_201 : decode cX11_oneTick 201 = .ok (.if_icmp .ne 8, 3) := by decide +kernel
theorem dX11_oneTick_204 : decode cX11_oneTick 204 = .ok (.aload_n 0, 1) := by decide +kernel
theorem dX11_oneTick_205 : decode cX11_oneTick 205 = .ok (.iload_n 2, 1) := by decide +kernel
theorem dX11_oneTick_206 : decode cX11_oneTick 206 = .ok (.invokevirtual 463, 3) := by decide +kernel
theorem dX11_oneTick_209 : decode cX11_oneTick 209 = .ok (.iinc 2 1, 3) := by decide +kernel
theorem dX11_oneTick_212 : decode cX11_oneTick 212 = .ok (.goto (-113), 3) := by decide +kernel
theorem dX11_oneTick_215 : decode cX11_oneTick 215 = .ok (.return_, 1) := by decide +kernel
theorem dX11_tick_0 : decode cX11_tick 0 = .ok (.aload_n 0, 1) := by decide +kernel
theorem dX11_tick_1 : decode cX11_tick 1 = .ok (.iload_n 1, 1) := by decide +kernel
theorem dX11_tick_2 : decode cX11_tick 2 = .ok (.iconst 0, 1) := by decide +kernel
theorem dX11_tick_3 : decode cX11_tick 3 = .ok (.bipush 100, 2) := by decide +kernel
theorem dX11_tick_5 : decode cX11_tick 5 = .ok (.invokestatic 243, 3) := by decide +kernel
theorem dX11_tick_8 : decode cX11_tick 8 = .ok (.ifCond .ne 7, 3) := by decide +kernel
theorem dX11_tick_11 : decode cX11_tick 11 = .ok (.iconst 1, 1) := by decide +kernel
theorem dX11_tick_12 : decode cX11_tick 12 = .ok (.goto 4, 3) := by decide +kernel
theorem dX11_tick_15 : decode cX11_tick 15 = .ok (.iconst 0, 1) := by decide +kernel
theorem dX11_tick_16 : decode cX11_tick 16 = .ok (.iconst 0, 1) := by decide +kernel
theorem dX11_tick_17 : decode cX11_tick 17 = .ok (.iconst 0, 1) := by decide +kernel
theorem dX11_tick_18 : decode cX11_tick 18 = .ok (.invokevirtual 441, 3) := by decide +kernel
theorem dX11_tick_21 : decode cX11_tick 21 = .ok (.ifCond .eq 5, 3) := by decide +kernel
theorem dX11_tick_24 : decode cX11_tick 24 = .ok (.iconst 0, 1) := by decide +kernel
theorem dX11_tick_25 : decode cX11_tick 25 = .ok (.ireturn, 1) := by decide +kernel
theorem dX11_tick_26 : decode cX11_tick 26 = .ok (.aload_n 0, 1) := by decide +kernel
theorem dX11_tick_27 : decode cX11_tick 27 = .ok (.getfield 268, 3) := by decide +kernel
theorem dX11_tick_30 : decode cX11_tick 30 = .ok (.istore_n 2, 1) := by decide +kernel
theorem dX11_tick_31 : decode cX11_tick 31 = .ok (.iconst 0, 1) := by decide +kernel
theorem dX11_tick_32 : decode cX11_tick 32 = .ok (.istore_n 3, 1) := by decide +kernel
theorem dX11_tick_33 : decode cX11_tick 33 = .ok (.iload_n 3, 1) := by decide +kernel
theorem dX11_tick_34 : decode cX11_tick 34 = .ok (.iload_n 1, 1) := by decide +kernel
theorem dX11_tick_35 : decode cX11_tick 35 = .ok (.if_icmp .ge 13, 3) := by decide +kernel
theorem dX11_tick_38 : decode cX11_tick 38 = .ok (.aload_n 0, 1) := by decide +kernel
theorem dX11_tick_39 : decode cX11_tick 39 = .ok (.invokevirtual 466, 3) := by decide +kernel
theorem dX11_tick_42 : decode cX11_tick 42 = .ok (.iinc 3 1, 3) := by decide +kernel
theorem dX11_tick_45 : decode cX11_tick 45 = .ok (.goto (-12), 3) := by decide +kernel
theorem dX11_tick_48 : decode cX11_tick 48 = .ok (.aload_n 0, 1) := by decide +kernel
theorem dX11_tick_49 : decode cX11_tick 49 = .ok (.getfield 268, 3) := by decide +kernel
theorem dX11_tick_52 : decode cX11_tick 52 = .ok (.iload_n 2, 1) := by decide +kernel
theorem dX11_tick_53 : decode cX11_tick 53 = .ok (.isub, 1) := by decide +kernel
theorem dX11_tick_54 : decode cX11_tick 54 = .ok (.ireturn, 1) := by decide +kernel
theorem dX11_noneOf_0 : decode cX11_noneOf 0 = .ok (.iconst 0, 1) := by decide +kernel
theorem dX11_noneOf_1 : decode cX11_noneOf 1 = .ok (.istore_n 2, 1) := by decide +kernel
theorem dX11_noneOf_2 : decode cX11_noneOf 2 = .ok (.iload_n 2, 1) := by decide +kernel
theorem dX11_noneOf_3 : decode cX11_noneOf 3 = .ok (.sipush 640, 3) := by decide +kernel
theorem dX11_noneOf_6 : decode cX11_noneOf 6 = .ok (.if_icmp .ge 35, 3) := by decide +kernel
theorem dX11_noneOf_9 : decode cX11_noneOf 9 = .ok (.aload_n 0, 1) := by decide +kernel
theorem dX11_noneOf_10 : decode cX11_noneOf 10 = .ok (.getfield 24, 3) := by decide +kernel
theorem dX11_noneOf_13 : decode cX11_noneOf 13 = .ok (.sipush 640, 3) := by decide +kernel
theorem dX11_noneOf_16 : decode cX11_noneOf 16 = .ok (.iload_n 1, 1) := by decide +kernel
theorem dX11_noneOf_17 : decode cX11_noneOf 17 = .ok (.imul, 1) := by decide +kernel
theorem dX11_noneOf_18 : decode cX11_noneOf 18 = .ok (.iload_n 2, 1) := by decide +kernel
theorem dX11_noneOf_19 : decode cX11_noneOf 19 = .ok (.iadd, 1) := by decide +kernel
theorem dX11_noneOf_20 : decode cX11_noneOf 20 = .ok (.iconst 0, 1) := by decide +kernel
theorem dX11_noneOf_21 : decode cX11_noneOf 21 = .ok (.bastore, 1) := by decide +kernel
theorem dX11_noneOf_22 : decode cX11_noneOf 22 = .ok (.aload_n 0, 1) := by decide +kernel
theorem dX11_noneOf_23 : decode cX11_noneOf 23 = .ok (.getfield 27, 3) := by decide +kernel
theorem dX11_noneOf_26 : decode cX11_noneOf 26 = .ok (.sipush 640, 3) := by decide +kernel
theorem dX11_noneOf_29 : decode cX11_noneOf 29 = .ok (.iload_n 1, 1) := by decide +kernel
theorem dX11_noneOf_30 : decode cX11_noneOf 30 = .ok (.imul, 1) := by decide +kernel
theorem dX11_noneOf_31 : decode cX11_noneOf 31 = .ok (.iload_n 2, 1) := by decide +kernel
theorem dX11_noneOf_32 : decode cX11_noneOf 32 = .ok (.iadd, 1) := by decide +kernel
theorem dX11_noneOf_33 : decode cX11_noneOf 33 = .ok (.iconst 0, 1) := by decide +kernel
theorem dX11_noneOf_34 : decode cX11_noneOf 34 = .ok (.bastore, 1) := by decide +kernel
theorem dX11_noneOf_35 : decode cX11_noneOf 35 = .ok (.iinc 2 1, 3) := by decide +kernel
theorem dX11_noneOf_38 : decode cX11_noneOf 38 = .ok (.goto (-36), 3) := by decide +kernel
theorem dX11_noneOf_41 : decode cX11_noneOf 41 = .ok (.aload_n 0, 1) := by decide +kernel
theorem dX11_noneOf_42 : decode cX11_noneOf 42 = .ok (.getfield 30, 3) := by decide +kernel
theorem dX11_noneOf_45 : decode cX11_noneOf 45 = .ok (.iload_n 1, 1) := by decide +kernel
theorem dX11_noneOf_46 : decode cX11_noneOf 46 = .ok (.iconst 0, 1) := by decide +kernel
theorem dX11_noneOf_47 : decode cX11_noneOf 47 = .ok (.iastore, 1) := by decide +kernel
theorem dX11_noneOf_48 : decode cX11_noneOf 48 = .ok (.aload_n 0, 1) := by decide +kernel
theorem dX11_noneOf_49 : decode cX11_noneOf 49 = .ok (.getfield 36, 3) := by decide +kernel
theorem dX11_noneOf_52 : decode cX11_noneOf 52 = .ok (.iload_n 1, 1) := by decide +kernel
theorem dX11_noneOf_53 : decode cX11_noneOf 53 = .ok (.iconst 0, 1) := by decide +kernel
theorem dX11_noneOf_54 : decode cX11_noneOf 54 = .ok (.iastore, 1) := by decide +kernel
theorem dX11_noneOf_55 : decode cX11_noneOf 55 = .ok (.aload_n 0, 1) := by decide +kernel
theorem dX11_noneOf_56 : decode cX11_noneOf 56 = .ok (.getfield 39, 3) := by decide +kernel
theorem dX11_noneOf_59 : decode cX11_noneOf 59 = .ok (.iload_n 1, 1) := by decide +kernel
theorem dX11_noneOf_60 : decode cX11_noneOf 60 = .ok (.iconst 0, 1) := by decide +kernel
theorem dX11_noneOf_61 : decode cX11_noneOf 61 = .ok (.iastore, 1) := by decide +kernel
theorem dX11_noneOf_62 : decode cX11_noneOf 62 = .ok (.aload_n 0, 1) := by decide +kernel
theorem dX11_noneOf_63 : decode cX11_noneOf 63 = .ok (.getfield 99, 3) := by decide +kernel
theorem dX11_noneOf_66 : decode cX11_noneOf 66 = .ok (.iload_n 1, 1) := by decide +kernel
theorem dX11_noneOf_67 : decode cX11_noneOf 67 = .ok (.iconst 0, 1) := by decide +kernel
theorem dX11_noneOf_68 : decode cX11_noneOf 68 = .ok (.bastore, 1) := by decide +kernel
theorem dX11_noneOf_69 : decode cX11_noneOf 69 = .ok (.iconst 0, 1) := by decide +kernel
theorem dX11_noneOf_70 : decode cX11_noneOf 70 = .ok (.istore_n 2, 1) := by decide +kernel
theorem dX11_noneOf_71 : decode cX11_noneOf 71 = .ok (.iload_n 2, 1) := by decide +kernel
theorem dX11_noneOf_72 : decode cX11_noneOf 72 = .ok (.sipush 136, 3) := by decide +kernel
theorem dX11_noneOf_75 : decode cX11_noneOf 75 = .ok (.if_icmp .ge 50, 3) := by decide +kernel
theorem dX11_noneOf_78 : decode cX11_noneOf 78 = .ok (.iload_n 1, 1) := by decide +kernel
theorem dX11_noneOf_79 : decode cX11_noneOf 79 = .ok (.iload_n 2, 1) := by decide +kernel
theorem dX11_noneOf_80 : decode cX11_noneOf 80 = .ok (.invokestatic 208, 3) := by decide +kernel
theorem dX11_noneOf_83 : decode cX11_noneOf 83 = .ok (.istore_n 3, 1) := by decide +kernel
theorem dX11_noneOf_84 : decode cX11_noneOf 84 = .ok (.aload_n 0, 1) := by decide +kernel
theorem dX11_noneOf_85 : decode cX11_noneOf 85 = .ok (.getfield 48, 3) := by decide +kernel
theorem dX11_noneOf_88 : decode cX11_noneOf 88 = .ok (.iload_n 3, 1) := by decide +kernel
theorem dX11_noneOf_89 : decode cX11_noneOf 89 = .ok (.iconst 0, 1) := by decide +kernel
theorem dX11_noneOf_90 : decode cX11_noneOf 90 = .ok (.iastore, 1) := by decide +kernel
theorem dX11_noneOf_91 : decode cX11_noneOf 91 = .ok (.aload_n 0, 1) := by decide +kernel
theorem dX11_noneOf_92 : decode cX11_noneOf 92 = .ok (.getfield 51, 3) := by decide +kernel
theorem dX11_noneOf_95 : decode cX11_noneOf 95 = .ok (.iload_n 3, 1) := by decide +kernel
theorem dX11_noneOf_96 : decode cX11_noneOf 96 = .ok (.iconst 0, 1) := by decide +kernel
theorem dX11_noneOf_97 : decode cX11_noneOf 97 = .ok (.iastore, 1) := by decide +kernel
theorem dX11_noneOf_98 : decode cX11_noneOf 98 = .ok (.aload_n 0, 1) := by decide +kernel
theorem dX11_noneOf_99 : decode cX11_noneOf 99 = .ok (.getfield 54, 3) := by decide +kernel
theorem dX11_noneOf_102 : decode cX11_noneOf 102 = .ok (.iload_n 3, 1) := by decide +kernel
theorem dX11_noneOf_103 : decode cX11_noneOf 103 = .ok (.iconst (-1), 1) := by decide +kernel
theorem dX11_noneOf_104 : decode cX11_noneOf 104 = .ok (.iastore, 1) := by decide +kernel
theorem dX11_noneOf_105 : decode cX11_noneOf 105 = .ok (.aload_n 0, 1) := by decide +kernel
theorem dX11_noneOf_106 : decode cX11_noneOf 106 = .ok (.getfield 57, 3) := by decide +kernel
theorem dX11_noneOf_109 : decode cX11_noneOf 109 = .ok (.iload_n 3, 1) := by decide +kernel
theorem dX11_noneOf_110 : decode cX11_noneOf 110 = .ok (.iconst 0, 1) := by decide +kernel
theorem dX11_noneOf_111 : decode cX11_noneOf 111 = .ok (.bastore, 1) := by decide +kernel
theorem dX11_noneOf_112 : decode cX11_noneOf 112 = .ok (.aload_n 0, 1) := by decide +kernel
theorem dX11_noneOf_113 : decode cX11_noneOf 113 = .ok (.getfield 60, 3) := by decide +kernel
theorem dX11_noneOf_116 : decode cX11_noneOf 116 = .ok (.iload_n 3, 1) := by decide +kernel
theorem dX11_noneOf_117 : decode cX11_noneOf 117 = .ok (.iconst 0, 1) := by decide +kernel
theorem dX11_noneOf_118 : decode cX11_noneOf 118 = .ok (.bastore, 1) := by decide +kernel
theorem dX11_noneOf_119 : decode cX11_noneOf 119 = .ok (.iinc 2 1, 3) := by decide +kernel
theorem dX11_noneOf_122 : decode cX11_noneOf 122 = .ok (.goto (-51), 3) := by decide +kernel
theorem dX11_noneOf_125 : decode cX11_noneOf 125 = .ok (.return_, 1) := by decide +kernel
theorem dX11_noMaster_0 : decode cX11_noMaster 0 = .ok (.aload_n 0, 1) := by decide +kernel
theorem dX11_noMaster_1 : decode cX11_noMaster 1 = .ok (.getfield 108, 3) := by decide +kernel
theorem dX11_noMaster_4 : decode cX11_noMaster 4 = .ok (.iload_n 1, 1) := by decide +kernel
theorem dX11_noMaster_5 : decode cX11_noMaster 5 = .ok (.iconst 0, 1) := by decide +kernel
theorem dX11_noMaster_6 : decode cX11_noMaster 6 = .ok (.iastore, 1) := by decide +kernel
theorem dX11_noMaster_7 : decode cX11_noMaster 7 = .ok (.iconst 0, 1) := by decide +kernel
theorem dX11_noMaster_8 : decode cX11_noMaster 8 = .ok (.istore_n 2, 1) := by decide +kernel
theorem dX11_noMaster_9 : decode cX11_noMaster 9 = .ok (.iload_n 2, 1) := by decide +kernel
theorem dX11_noMaster_10 : decode cX11_noMaster 10 = .ok (.iconst 4, 1) := by decide +kernel
theorem dX11_noMaster_11 : decode cX11_noMaster 11 = .ok (.if_icmp .ge 31, 3) := by decide +kernel
theorem dX11_noMaster_14 : decode cX11_noMaster 14 = .ok (.aload_n 0, 1) := by decide +kernel
theorem dX11_noMaster_15 : decode cX11_noMaster 15 = .ok (.getfield 102, 3) := by decide +kernel
theorem dX11_noMaster_18 : decode cX11_noMaster 18 = .ok (.iconst 4, 1) := by decide +kernel
theorem dX11_noMaster_19 : decode cX11_noMaster 19 = .ok (.iload_n 1, 1) := by decide +kernel
theorem dX11_noMaster_20 : decode cX11_noMaster 20 = .ok (.imul, 1) := by decide +kernel
theorem dX11_noMaster_21 : decode cX11_noMaster 21 = .ok (.iload_n 2, 1) := by decide +kernel
theorem dX11_noMaster_22 : decode cX11_noMaster 22 = .ok (.iadd, 1) := by decide +kernel
theorem dX11_noMaster_23 : decode cX11_noMaster 23 = .ok (.iconst 0, 1) := by decide +kernel
theorem dX11_noMaster_24 : decode cX11_noMaster 24 = .ok (.iastore, 1) := by decide +kernel
theorem dX11_noMaster_25 : decode cX11_noMaster 25 = .ok (.aload_n 0, 1) := by decide +kernel
theorem dX11_noMaster_26 : decode cX11_noMaster 26 = .ok (.getfield 105, 3) := by decide +kernel
theorem dX11_noMaster_29 : decode cX11_noMaster 29 = .ok (.iconst 4, 1) := by decide +kernel
theorem dX11_noMaster_30 : decode cX11_noMaster 30 = .ok (.iload_n 1, 1) := by decide +kernel
theorem dX11_noMaster_31 : decode cX11_noMaster 31 = .ok (.imul, 1) := by decide +kernel
theorem dX11_noMaster_32 : decode cX11_noMaster 32 = .ok (.iload_n 2, 1) := by decide +kernel
theorem dX11_noMaster_33 : decode cX11_noMaster 33 = .ok (.iadd, 1) := by decide +kernel
theorem dX11_noMaster_34 : decode cX11_noMaster 34 = .ok (.iconst (-1), 1) := by decide +kernel
theorem dX11_noMaster_35 : decode cX11_noMaster 35 = .ok (.iastore, 1) := by decide +kernel
theorem dX11_noMaster_36 : decode cX11_noMaster 36 = .ok (.iinc 2 1, 3) := by decide +kernel
theorem dX11_noMaster_39 : decode cX11_noMaster 39 = .ok (.goto (-30), 3) := by decide +kernel
theorem dX11_noMaster_42 : decode cX11_noMaster 42 = .ok (.return_, 1) := by decide +kernel
theorem dX11_crash_0 : decode cX11_crash 0 = .ok (.aload_n 0, 1) := by decide +kernel
theorem dX11_crash_1 : decode cX11_crash 1 = .ok (.iload_n 1, 1) := by decide +kernel
theorem dX11_crash_2 : decode cX11_crash 2 = .ok (.invokevirtual 434, 3) := by decide +kernel
theorem dX11_crash_5 : decode cX11_crash 5 = .ok (.ifCond .eq 17, 3) := by decide +kernel
theorem dX11_crash_8 : decode cX11_crash 8 = .ok (.iload_n 2, 1) := by decide +kernel
theorem dX11_crash_9 : decode cX11_crash 9 = .ok (.iconst 0, 1) := by decide +kernel
theorem dX11_crash_10 : decode cX11_crash 10 = .ok (.bipush 15, 2) := by decide +kernel
theorem dX11_crash_12 : decode cX11_crash 12 = .ok (.invokestatic 243, 3) := by decide +kernel
theorem dX11_crash_15 : decode cX11_crash 15 = .ok (.ifCond .eq 7, 3) := by decide +kernel
theorem dX11_crash_18 : decode cX11_crash 18 = .ok (.iconst 1, 1) := by decide +kernel
theorem dX11_crash_19 : decode cX11_crash 19 = .ok (.goto 4, 3) := by decide +kernel
theorem dX11_crash_22 : decode cX11_crash 22 = .ok (.iconst 0, 1) := by decide +kernel
theorem dX11_crash_23 : decode cX11_crash 23 = .ok (.istore_n 3, 1) := by decide +kernel
theorem dX11_crash_24 : decode cX11_crash 24 = .ok (.aload_n 0, 1) := by decide +kernel
theorem dX11_crash_25 : decode cX11_crash 25 = .ok (.iload_n 3, 1) := by decide +kernel
theorem dX11_crash_26 : decode cX11_crash 26 = .ok (.ifCond .ne 7, 3) := by decide +kernel
theorem dX11_crash_29 : decode cX11_crash 29 = .ok (.iconst 1, 1) := by decide +kernel
theorem dX11_crash_30 : decode cX11_crash 30 = .ok (.goto 4, 3) := by decide +kernel
theorem dX11_crash_33 : decode cX11_crash 33 = .ok (.iconst 0, 1) := by decide +kernel
theorem dX11_crash_34 : decode cX11_crash 34 = .ok (.iload_n 3, 1) := by decide +kernel
theorem dX11_crash_35 : decode cX11_crash 35 = .ok (.ifCond .eq 16, 3) := by decide +kernel
theorem dX11_crash_38 : decode cX11_crash 38 = .ok (.aload_n 0, 1) := by decide +kernel
theorem dX11_crash_39 : decode cX11_crash 39 = .ok (.getfield 13, 3) := by decide +kernel
theorem dX11_crash_42 : decode cX11_crash 42 = .ok (.iload_n 1, 1) := by decide +kernel
theorem dX11_crash_43 : decode cX11_crash 43 = .ok (.baload, 1) := by decide +kernel
theorem dX11_crash_44 : decode cX11_crash 44 = .ok (.ifCond .ne 7, 3) := by decide +kernel
theorem dX11_crash_47 : decode cX11_crash 47 = .ok (.iconst 1, 1) := by decide +kernel
theorem dX11_crash_48 : decode cX11_crash 48 = .ok (.goto 4, 3) := by decide +kernel
theorem dX11_crash_51 : decode cX11_crash 51 = .ok (.iconst 0, 1) := by decide +kernel
theorem dX11_crash_52 : decode cX11_crash 52 = .ok (.iconst 0, 1) := by decide +kernel
theorem dX11_crash_53 : decode cX11_crash 53 = .ok (.invokevirtual 441, 3) := by decide +kernel
theorem dX11_crash_56 : decode cX11_crash 56 = .ok (.ifCond .eq 4, 3) := by decide +kernel
theorem dX11_crash_59 : decode cX11_crash 59 = .ok (.return_, 1) := by decide +kernel
theorem dX11_crash_60 : decode cX11_crash 60 = .ok (.aload_n 0, 1) := by decide +kernel
theorem dX11_crash_61 : decode cX11_crash 61 = .ok (.getfield 36, 3) := by decide +kernel
theorem dX11_crash_64 : decode cX11_crash 64 = .ok (.iload_n 1, 1) := by decide +kernel
theorem dX11_crash_65 : decode cX11_crash 65 = .ok (.iaload, 1) := by decide +kernel
theorem dX11_crash_66 : decode cX11_crash 66 = .ok (.ifCond .le 51, 3) := by decide +kernel
theorem dX11_crash_69 : decode cX11_crash 69 = .ok (.bipush 36, 2) := by decide +kernel
theorem dX11_crash_71 : decode cX11_crash 71 = .ok (.iload_n 1, 1) := by decide +kernel
theorem dX11_crash_72 : decode cX11_crash 72 = .ok (.imul, 1) := by decide +kernel
theorem dX11_crash_73 : decode cX11_crash 73 = .ok (.aload_n 0, 1) := by decide +kernel
theorem dX11_crash_74 : decode cX11_crash 74 = .ok (.getfield 39, 3) := by decide +kernel
theorem dX11_crash_77 : decode cX11_crash 77 = .ok (.iload_n 1, 1) := by decide +kernel
theorem dX11_crash_78 : decode cX11_crash 78 = .ok (.iaload, 1) := by decide +kernel
theorem dX11_crash_79 : decode cX11_crash 79 = .ok (.iadd, 1) := by decide +kernel
theorem dX11_crash_80 : decode cX11_crash 80 = .ok (.istore 4, 2) := by decide +kernel
theorem dX11_crash_82 : decode cX11_crash 82 = .ok (.aload_n 0, 1) := by decide +kernel
theorem dX11_crash_83 : decode cX11_crash 83 = .ok (.aload_n 0, 1) := by decide +kernel
theorem dX11_crash_84 : decode cX11_crash 84 = .ok (.getfield 42, 3) := by decide +kernel
theorem dX11_crash_87 : decode cX11_crash 87 = .ok (.iload 4, 2) := by decide +kernel
theorem dX11_crash_89 : decode cX11_crash 89 = .ok (.iaload, 1) := by decide +kernel
theorem dX11_crash_90 : decode cX11_crash 90 = .ok (.bipush 16, 2) := by decide +kernel
theorem dX11_crash_92 : decode cX11_crash 92 = .ok (.iload 4, 2) := by decide +kernel
theorem dX11_crash_94 : decode cX11_crash 94 = .ok (.imul, 1) := by decide +kernel
theorem dX11_crash_95 : decode cX11_crash 95 = .ok (.iload_n 2, 1) := by decide +kernel
theorem dX11_crash_96 : decode cX11_crash 96 = .ok (.invokevirtual 451, 3) := by decide +kernel
theorem dX11_crash_99 : decode cX11_crash 99 = .ok (.aload_n 0, 1) := by decide +kernel
theorem dX11_crash_100 : decode cX11_crash 100 = .ok (.iload_n 1, 1) := by decide +kernel
theorem dX11_crash_101 : decode cX11_crash 101 = .ok (.invokevirtual 457, 3) := by decide +kernel
theorem dX11_crash_104 : decode cX11_crash 104 = .ok (.ifCond .eq 13, 3) := by decide +kernel
theorem dX11_crash_107 : decode cX11_crash 107 = .ok (.iload_n 2, 1) := by decide +kernel
theorem dX11_crash_108 : decode cX11_crash 108 = .ok (.iconst 2, 1) := by decide +kernel
theorem dX11_crash_109 : decode cX11_crash 109 = .ok (.if_icmp .le 8, 3) := by decide +kernel
theorem dX11_crash_112 : decode cX11_crash 112 = .ok (.aload_n 0, 1) := by decide +kernel
theorem dX11_crash_113 : decode cX11_crash 113 = .ok (.iload_n 1, 1) := by decide +kernel
theorem dX11_crash_114 : decode cX11_crash 114 = .ok (.invokevirtual 460, 3) := by decide +kernel
theorem dX11_crash_117 : decode cX11_crash 117 = .ok (.aload_n 0, 1) := by decide +kernel
theorem dX11_crash_118 : decode cX11_crash 118 = .ok (.iload_n 1, 1) := by decide +kernel
theorem dX11_crash_119 : decode cX11_crash 119 = .ok (.invokevirtual 469, 3) := by decide +kernel
theorem dX11_crash_122 : decode cX11_crash 122 = .ok (.aload_n 0, 1) := by decide +kernel
theorem dX11_crash_123 : decode cX11_crash 123 = .ok (.getfield 33, 3) := by decide +kernel
theorem dX11_crash_126 : decode cX11_crash 126 = .ok (.iload_n 1, 1) := by decide +kernel
theorem dX11_crash_127 : decode cX11_crash 127 = .ok (.iconst 0, 1) := by decide +kernel
theorem dX11_crash_128 : decode cX11_crash 128 = .ok (.iastore, 1) := by decide +kernel
theorem dX11_crash_129 : decode cX11_crash 129 = .ok (.aload_n 0, 1) := by decide +kernel
theorem dX11_crash_130 : decode cX11_crash 130 = .ok (.getfield 13, 3) := by decide +kernel
theorem dX11_crash_133 : decode cX11_crash 133 = .ok (.iload_n 1, 1) := by decide +kernel
theorem dX11_crash_134 : decode cX11_crash 134 = .ok (.iconst 0, 1) := by decide +kernel
theorem dX11_crash_135 : decode cX11_crash 135 = .ok (.bastore, 1) := by decide +kernel
theorem dX11_crash_136 : decode cX11_crash 136 = .ok (.aload_n 0, 1) := by decide +kernel
theorem dX11_crash_137 : decode cX11_crash 137 = .ok (.iload_n 1, 1) := by decide +kernel
theorem dX11_crash_138 : decode cX11_crash 138 = .ok (.invokevirtual 264, 3) := by decide +kernel
theorem dX11_crash_141 : decode cX11_crash 141 = .ok (.ifCond .eq 44, 3) := by decide +kernel
theorem dX11_crash_144 : decode cX11_crash 144 = .ok (.aload_n 0, 1) := by decide +kernel
theorem dX11_crash_145 : decode cX11_crash 145 = .ok (.getfield 81, 3) := by decide +kernel
theorem dX11_crash_148 : decode cX11_crash 148 = .ok (.iload_n 1, 1) := by decide +kernel
theorem dX11_crash_149 : decode cX11_crash 149 = .ok (.iconst 4, 1) := by decide +kernel
theorem dX11_crash_150 : decode cX11_crash 150 = .ok (.iastore, 1) := by decide +kernel
theorem dX11_crash_151 : decode cX11_crash 151 = .ok (.aload_n 0, 1) := by decide +kernel
theorem dX11_crash_152 : decode cX11_crash 152 = .ok (.getfield 84, 3) := by decide +kernel
theorem dX11_crash_155 : decode cX11_crash 155 = .ok (.iload_n 1, 1) := by decide +kernel
theorem dX11_crash_156 : decode cX11_crash 156 = .ok (.iconst 0, 1) := by decide +kernel
theorem dX11_crash_157 : decode cX11_crash 157 = .ok (.iastore, 1) := by decide +kernel
theorem dX11_crash_158 : decode cX11_crash 158 = .ok (.aload_n 0, 1) := by decide +kernel
theorem dX11_crash_159 : decode cX11_crash 159 = .ok (.getfield 90, 3) := by decide +kernel
theorem dX11_crash_162 : decode cX11_crash 162 = .ok (.iload_n 1, 1) := by decide +kernel
theorem dX11_crash_163 : decode cX11_crash 163 = .ok (.aload_n 0, 1) := by decide +kernel
theorem dX11_crash_164 : decode cX11_crash 164 = .ok (.getfield 194, 3) := by decide +kernel
theorem dX11_crash_167 : decode cX11_crash 167 = .ok (.aload_n 0, 1) := by decide +kernel
theorem dX11_crash_168 : decode cX11_crash 168 = .ok (.getfield 87, 3) := by decide +kernel
theorem dX11_crash_171 : decode cX11_crash 171 = .ok (.iload_n 1, 1) := by decide +kernel
theorem dX11_crash_172 : decode cX11_crash 172 = .ok (.iaload, 1) := by decide +kernel
theorem dX11_crash_173 : decode cX11_crash 173 = .ok (.isub, 1) := by decide +kernel
theorem dX11_crash_174 : decode cX11_crash 174 = .ok (.iastore, 1) := by decide +kernel
theorem dX11_crash_175 : decode cX11_crash 175 = .ok (.aload_n 0, 1) := by decide +kernel
theorem dX11_crash_176 : decode cX11_crash 176 = .ok (.dup, 1) := by decide +kernel
theorem dX11_crash_177 : decode cX11_crash 177 = .ok (.getfield 472, 3) := by decide +kernel
theorem dX11_crash_180 : decode cX11_crash 180 = .ok (.iconst 1, 1) := by decide +kernel
theorem dX11_crash_181 : decode cX11_crash 181 = .ok (.iadd, 1) := by decide +kernel
theorem dX11_crash_182 : decode cX11_crash 182 = .ok (.putfield 472, 3) := by decide +kernel
theorem dX11_crash_185 : decode cX11_crash 185 = .ok (.aload_n 0, 1) := by decide +kernel
theorem dX11_crash_186 : decode cX11_crash 186 = .ok (.iload_n 1, 1) := by decide +kernel
theorem dX11_crash_187 : decode cX11_crash 187 = .ok (.invokevirtual 475, 3) := by decide +kernel
theorem dX11_crash_190 : decode cX11_crash 190 = .ok (.iconst 0, 1) := by decide +kernel
theorem dX11_crash_191 : decode cX11_crash 191 = .ok (.istore 4, 2) := by decide +kernel
theorem dX11_crash_193 : decode cX11_crash 193 = .ok (.iload 4, 2) := by decide +kernel
theorem dX11_crash_195 : decode cX11_crash 195 = .ok (.sipush 136, 3) := by decide +kernel
theorem dX11_crash_198 : decode cX11_crash 198 = .ok (.if_icmp .ge 25, 3) := by decide +kernel
theorem dX11_crash_201 : decode cX11_crash 201 = .ok (.aload_n 0, 1) := by decide +kernel
theorem dX11_crash_202 : decode cX11_crash 202 = .ok (.iload 4, 2) := by decide +kernel
theorem dX11_crash_204 : decode cX11_crash 204 = .ok (.invokevirtual 226, 3) := by decide +kernel
theorem dX11_crash_207 : decode cX11_crash 207 = .ok (.iload_n 1, 1) := by decide +kernel
theorem dX11_crash_208 : decode cX11_crash 208 = .ok (.if_icmp .ne 9, 3) := by decide +kernel
theorem dX11_crash_211 : decode cX11_crash 211 = .ok (.aload_n 0, 1) := by decide +kernel
theorem dX11_crash_212 : decode cX11_crash 212 = .ok (.iload 4, 2) := by decide +kernel
theorem dX11_crash_214 : decode cX11_crash 214 = .ok (.invokevirtual 478, 3) := by decide +kernel
theorem dX11_crash_217 : decode cX11_crash 217 = .ok (.iinc 4 1, 3) := by decide +kernel
theorem dX11_crash_220 : decode cX11_crash 220 = .ok (.goto (-27), 3) := by decide +kernel
theorem dX11_crash_223 : decode cX11_crash 223 = .ok (.iconst 0, 1) := by decide +kernel
theorem dX11_crash_224 : decode cX11_crash 224 = .ok (.istore 4, 2) := by decide +kernel
theorem dX11_crash_226 : decode cX11_crash 226 = .ok (.iload 4, 2) := by decide +kernel
theorem dX11_crash_228 : decode cX11_crash 228 = .ok (.aload_n 0, 1) := by decide +kernel
theorem dX11_crash_229 : decode cX11_crash 229 = .ok (.getfield 197, 3) := by decide +kernel
theorem dX11_crash_232 : decode cX11_crash 232 = .ok (.if_icmp .ge 40, 3) := by decide +kernel
theorem dX11_crash_235 : decode cX11_crash 235 = .ok (.aload_n 0, 1) := by decide +kernel
theorem dX11_crash_236 : decode cX11_crash 236 = .ok (.getfield 117, 3) := by decide +kernel
theorem dX11_crash_239 : decode cX11_crash 239 = .ok (.iload 4, 2) := by decide +kernel
theorem dX11_crash_241 : decode cX11_crash 241 = .ok (.iaload, 1) := by decide +kernel
theorem dX11_crash_242 : decode cX11_crash 242 = .ok (.iload_n 1, 1) := by decide +kernel
theorem dX11_crash_243 : decode cX11_crash 243 = .ok (.if_icmp .eq 14, 3) := by decide +kernel
theorem dX11_crash_246 : decode cX11_crash 246 = .ok (.aload_n 0, 1) := by decide +kernel
theorem dX11_crash_247 : decode cX11_crash 247 = .ok (.getfield 120, 3) := by decide +kernel
theorem dX11_crash_250 : decode cX11_crash 250 = .ok (.iload 4, 2) := by decide +kernel
theorem dX11_crash_252 : decode cX11_crash 252 = .ok (.iaload, 1) := by decide +kernel
theorem dX11_crash_253 : decode cX11_crash 253 = .ok (.iload_n 1, 1) := by decide +kernel
theorem dX11_crash_254 : decode cX11_crash 254 = .ok (.if_icmp .ne 12, 3) := by decide +kernel
theorem dX11_crash_257 : decode cX11_crash 257 = .ok (.aload_n 0, 1) := by decide +kernel
theorem dX11_crash_258 : decode cX11_crash 258 = .ok (.iload 4, 2) := by decide +kernel
theorem dX11_crash_260 : decode cX11_crash 260 = .ok (.invokevirtual 445, 3) := by decide +kernel
theorem dX11_crash_263 : decode cX11_crash 263 = .ok (.goto (-37), 3) := by decide +kernel
theorem dX11_crash_266 : decode cX11_crash 266 = .ok (.iinc 4 1, 3) := by decide +kernel
theorem dX11_crash_269 : decode cX11_crash 269 = .ok (.goto (-43), 3) := by decide +kernel
theorem dX11_crash_272 : decode cX11_crash 272 = .ok (.iconst 0, 1) := by decide +kernel
theorem dX11_crash_273 : decode cX11_crash 273 = .ok (.istore 5, 2) := by decide +kernel
theorem dX11_crash_275 : decode cX11_crash 275 = .ok (.iload 5, 2) := by decide +kernel
theorem dX11_crash_277 : decode cX11_crash 277 = .ok (.iconst 4, 1) := by decide +kernel
theorem dX11_crash_278 : decode cX11_crash 278 = .ok (.if_icmp .ge 33, 3) := by decide +kernel
theorem dX11_crash_281 : decode cX11_crash 281 = .ok (.aload_n 0, 1) := by decide +kernel
theorem dX11_crash_282 : decode cX11_crash 282 = .ok (.getfield 138, 3) := by decide +kernel
theorem dX11_crash_285 : decode cX11_crash 285 = .ok (.iconst 4, 1) := by decide +kernel
theorem dX11_crash_286 : decode cX11_crash 286 = .ok (.iload_n 1, 1) := by decide +kernel
theorem dX11_crash_287 : decode cX11_crash 287 = .ok (.imul, 1) := by decide +kernel
theorem dX11_crash_288 : decode cX11_crash 288 = .ok (.iload 5, 2) := by decide +kernel
theorem dX11_crash_290 : decode cX11_crash 290 = .ok (.iadd, 1) := by decide +kernel
theorem dX11_crash_291 : decode cX11_crash 291 = .ok (.iconst 0, 1) := by decide +kernel
theorem dX11_crash_292 : decode cX11_crash 292 = .ok (.iastore, 1) := by decide +kernel
theorem dX11_crash_293 : decode cX11_crash 293 = .ok (.aload_n 0, 1) := by decide +kernel
theorem dX11_crash_294 : decode cX11_crash 294 = .ok (.getfield 138, 3) := by decide +kernel
theorem dX11_crash_297 : decode cX11_crash 297 = .ok (.iconst 4, 1) := by decide +kernel
theorem dX11_crash_298 : decode cX11_crash 298 = .ok (.iload 5, 2) := by decide +kernel
theorem dX11_crash_300 : decode cX11_crash 300 = .ok (.imul, 1) := by decide +kernel
theorem dX11_crash_301 : decode cX11_crash 301 = .ok (.iload_n 1, 1) := by decide +kernel
theorem dX11_crash_302 : decode cX11_crash 302 = .ok (.iadd, 1) := by decide +kernel
theorem dX11_crash_303 : decode cX11_crash 303 = .ok (.iconst 0, 1) := by decide +kernel
theorem dX11_crash_304 : decode cX11_crash 304 = .ok (.iastore, 1) := by decide +kernel
theorem dX11_crash_305 : decode cX11_crash 305 = .ok (.iinc 5 1, 3) := by decide +kernel
theorem dX11_crash_308 : decode cX11_crash 308 = .ok (.goto (-33), 3) := by decide +kernel
theorem dX11_crash_311 : decode cX11_crash 311 = .ok (.return_, 1) := by decide +kernel
theorem dX11_layAnew_0 : decode cX11_layAnew 0 = .ok (.aload_n 0, 1) := by decide +kernel
theorem dX11_layAnew_1 : decode cX11_layAnew 1 = .ok (.invokevirtual 481, 3) := by decide +kernel
theorem dX11_layAnew_4 : decode cX11_layAnew 4 = .ok (.iconst 0, 1) := by decide +kernel
theorem dX11_layAnew_5 : decode cX11_layAnew 5 = .ok (.istore_n 1, 1) := by decide +kernel
theorem dX11_layAnew_6 : decode cX11_layAnew 6 = .ok (.iload_n 1, 1) := by decide +kernel
theorem dX11_layAnew_7 : decode cX11_layAnew 7 = .ok (.sipush 136, 3) := by decide +kernel
theorem dX11_layAnew_10 : decode cX11_layAnew 10 = .ok (.if_icmp .ge 157, 3) := by decide +kernel
theorem dX11_layAnew_13 : decode cX11_layAnew 13 = .ok (.aload_n 0, 1) := by decide +kernel
theorem dX11_layAnew_14 : decode cX11_layAnew 14 = .ok (.iload_n 1, 1) := by decide +kernel
theorem dX11_layAnew_15 : decode cX11_layAnew 15 = .ok (.invokevirtual 478, 3) := by decide +kernel
theorem dX11_layAnew_18 : decode cX11_layAnew 18 = .ok (.aload_n 0, 1) := by decide +kernel
theorem dX11_layAnew_19 : decode cX11_layAnew 19 = .ok (.iload_n 1, 1) := by decide +kernel
theorem dX11_layAnew_20 : decode cX11_layAnew 20 = .ok (.invokevirtual 226, 3) := by decide +kernel
theorem dX11_layAnew_23 : decode cX11_layAnew 23 = .ok (.istore_n 2, 1) := by decide +kernel
theorem dX11_layAnew_24 : decode cX11_layAnew 24 = .ok (.iconst 0, 1) := by decide +kernel
theorem dX11_layAnew_25 : decode cX11_layAnew 25 = .ok (.istore_n 3, 1) := by decide +kernel
theorem dX11_layAnew_26 : decode cX11_layAnew 26 = .ok (.iload_n 3, 1) := by decide +kernel
theorem dX11_layAnew_27 : decode cX11_layAnew 27 = .ok (.aload_n 0, 1) := by decide +kernel
theorem dX11_layAnew_28 : decode cX11_layAnew 28 = .ok (.getfield 177, 3) := by decide +kernel
theorem dX11_layAnew_31 : decode cX11_layAnew 31 = .ok (.if_icmp .ge 130, 3) := by decide +kernel
theorem dX11_layAnew_34 : decode cX11_layAnew 34 = .ok (.aload_n 0, 1) := by decide +kernel
theorem dX11_layAnew_35 : decode cX11_layAnew 35 = .ok (.getfield 54, 3) := by decide +kernel
theorem dX11_layAnew_38 : decode cX11_layAnew 38 = .ok (.iload_n 3, 1) := by decide +kernel
theorem dX11_layAnew_39 : decode cX11_layAnew 39 = .ok (.iload_n 1, 1) := by decide +kernel
theorem dX11_layAnew_40 : decode cX11_layAnew 40 = .ok (.invokestatic 208, 3) := by decide +kernel
theorem dX11_layAnew_43 : decode cX11_layAnew 43 = .ok (.iconst (-1), 1) := by decide +kernel
theorem dX11_layAnew_44 : decode cX11_layAnew 44 = .ok (.iastore, 1) := by decide +kernel
theorem dX11_layAnew_45 : decode cX11_layAnew 45 = .ok (.aload_n 0, 1) := by decide +kernel
theorem dX11_layAnew_46 : decode cX11_layAnew 46 = .ok (.getfield 60, 3) := by decide +kernel
theorem dX11_layAnew_49 : decode cX11_layAnew 49 = .ok (.iload_n 3, 1) := by decide +kernel
theorem dX11_layAnew_50 : decode cX11_layAnew 50 = .ok (.iload_n 1, 1) := by decide +kernel
theorem dX11_layAnew_51 : decode cX11_layAnew 51 = .ok (.invokestatic 208, 3) := by decide +kernel
theorem dX11_layAnew_54 : decode cX11_layAnew 54 = .ok (.iconst 0, 1) := by decide +kernel
theorem dX11_layAnew_55 : decode cX11_layAnew 55 = .ok (.bastore, 1) := by decide +kernel
theorem dX11_layAnew_56 : decode cX11_layAnew 56 = .ok (.aload_n 0, 1) := by decide +kernel
theorem dX11_layAnew_57 : decode cX11_layAnew 57 = .ok (.getfield 102, 3) := by decide +kernel
theorem dX11_layAnew_60 : decode cX11_layAnew 60 = .ok (.iconst 4, 1) := by decide +kernel
theorem dX11_layAnew_61 : decode cX11_layAnew 61 = .ok (.iload_n 1, 1) := by decide +kernel
theorem dX11_layAnew_62 : decode cX11_layAnew 62 = .ok (.imul, 1) := by decide +kernel
theorem dX11_layAnew_63 : decode cX11_layAnew 63 = .ok (.iload_n 3, 1) := by decide +kernel
theorem dX11_layAnew_64 : decode cX11_layAnew 64 = .ok (.iadd, 1) := by decide +kernel
theorem dX11_layAnew_65 : decode cX11_layAnew 65 = .ok (.iload_n 2, 1) := by decide +kernel
theorem dX11_layAnew_66 : decode cX11_layAnew 66 = .ok (.iconst (-1), 1) := by decide +kernel
theorem dX11_layAnew_67 : decode cX11_layAnew 67 = .ok (.if_icmp .eq 34, 3) := by decide +kernel
theorem dX11_layAnew_70 : decode cX11_layAnew 70 = .ok (.aload_n 0, 1) := by decide +kernel
theorem dX11_layAnew_71 : decode cX11_layAnew 71 = .ok (.getfield 13, 3) := by decide +kernel
theorem dX11_layAnew_74 : decode cX11_layAnew 74 = .ok (.iload_n 2, 1) := by decide +kernel
theorem dX11_layAnew_75 : decode cX11_layAnew 75 = .ok (.baload, 1) := by decide +kernel
theorem dX11_layAnew_76 : decode cX11_layAnew 76 = .ok (.ifCond .eq 25, 3) := by decide +kernel
theorem dX11_layAnew_79 : decode cX11_layAnew 79 = .ok (.aload_n 0, 1) := by decide +kernel
theorem dX11_layAnew_80 : decode cX11_layAnew 80 = .ok (.getfield 13, 3) := by decide +kernel
theorem dX11_layAnew_83 : decode cX11_layAnew 83 = .ok (.iload_n 3, 1) := by decide +kernel
theorem dX11_layAnew_84 : decode cX11_layAnew 84 = .ok (.baload, 1) := by decide +kernel
theorem dX11_layAnew_85 : decode cX11_layAnew 85 = .ok (.ifCond .eq 16, 3) := by decide +kernel
theorem dX11_layAnew_88 : decode cX11_layAnew 88 = .ok (.aload_n 0, 1) := by decide +kernel
theorem dX11_layAnew_89 : decode cX11_layAnew 89 = .ok (.getfield 48, 3) := by decide +kernel
theorem dX11_layAnew_92 : decode cX11_layAnew 92 = .ok (.iload_n 3, 1) := by decide +kernel
theorem dX11_layAnew_93 : decode cX11_layAnew 93 = .ok (.iload_n 1, 1) := by decide +kernel
theorem dX11_layAnew_94 : decode cX11_layAnew 94 = .ok (.invokestatic 208, 3) := by decide +kernel
theorem dX11_layAnew_97 : decode cX11_layAnew 97 = .ok (.iaload, 1) := by decide +kernel
theorem dX11_layAnew_98 : decode cX11_layAnew 98 = .ok (.goto 4, 3) := by decide +kernel
theorem dX11_layAnew_101 : decode cX11_layAnew 101 = .ok (.iconst 0, 1) := by decide +kernel
theorem dX11_layAnew_102 : decode cX11_layAnew 102 = .ok (.iastore, 1) := by decide +kernel
theorem dX11_layAnew_103 : decode cX11_layAnew 103 = .ok (.iload_n 2, 1) := by decide +kernel
theorem dX11_layAnew_104 : decode cX11_layAnew 104 = .ok (.iconst (-1), 1) := by decide +kernel
theorem dX11_layAnew_105 : decode cX11_layAnew 105 = .ok (.if_icmp .eq 50, 3) := by decide +kernel
theorem dX11_layAnew_108 : decode cX11_layAnew 108 = .ok (.aload_n 0, 1) := by decide +kernel
theorem dX11_layAnew_109 : decode cX11_layAnew 109 = .ok (.getfield 13, 3) := by decide +kernel
theorem dX11_layAnew_112 : decode cX11_layAnew 112 = .ok (.iload_n 2, 1) := by decide +kernel
theorem dX11_layAnew_113 : decode cX11_layAnew 113 = .ok (.baload, 1) := by decide +kernel
theorem dX11_layAnew_114 : decode cX11_layAnew 114 = .ok (.ifCond .eq 41, 3) := by decide +kernel
theorem dX11_layAnew_117 : decode cX11_layAnew 117 = .ok (.aload_n 0, 1) := by decide +kernel
theorem dX11_layAnew_118 : decode cX11_layAnew 118 = .ok (.getfield 13, 3) := by decide +kernel
theorem dX11_layAnew_121 : decode cX11_layAnew 121 = .ok (.iload_n 3, 1) := by decide +kernel
theorem dX11_layAnew_122 : decode cX11_layAnew 122 = .ok (.baload, 1) := by decide +kernel
theorem dX11_layAnew_123 : decode cX11_layAnew 123 = .ok (.ifCond .eq 32, 3) := by decide +kernel
theorem dX11_layAnew_126 : decode cX11_layAnew 126 = .ok (.aload_n 0, 1) := by decide +kernel
theorem dX11_layAnew_127 : decode cX11_layAnew 127 = .ok (.getfield 51, 3) := by decide +kernel
theorem dX11_layAnew_130 : decode cX11_layAnew 130 = .ok (.iload_n 3, 1) := by decide +kernel
theorem dX11_layAnew_131 : decode cX11_layAnew 131 = .ok (.iload_n 1, 1) := by decide +kernel
theorem dX11_layAnew_132 : decode cX11_layAnew 132 = .ok (.invokestatic 208, 3) := by decide +kernel
theorem dX11_layAnew_135 : decode cX11_layAnew 135 = .ok (.iaload, 1) := by decide +kernel
theorem dX11_layAnew_136 : decode cX11_layAnew 136 = .ok (.ifCond .le 19, 3) := by decide +kernel
theorem dX11_layAnew_139 : decode cX11_layAnew 139 = .ok (.aload_n 0, 1) := by decide +kernel
theorem dX11_layAnew_140 : decode cX11_layAnew 140 = .ok (.iload_n 1, 1) := by decide +kernel
theorem dX11_layAnew_141 : decode cX11_layAnew 141 = .ok (.iload_n 3, 1) := by decide +kernel
theorem dX11_layAnew_142 : decode cX11_layAnew 142 = .ok (.aload_n 0, 1) := by decide +kernel
theorem dX11_layAnew_143 : decode cX11_layAnew 143 = .ok (.getfield 51, 3) := by decide +kernel
theorem dX11_layAnew_146 : decode cX11_layAnew 146 = .ok (.iload_n 3, 1) := by decide +kernel
theorem dX11_layAnew_147 : decode cX11_layAnew 147 = .ok (.iload_n 1, 1) := by decide +kernel
theorem dX11_layAnew_148 : decode cX11_layAnew 148 = .ok (.invokestatic 208, 3) := by decide +kernel
theorem dX11_layAnew_151 : decode cX11_layAnew 151 = .ok (.iaload, 1) := by decide +kernel
theorem dX11_layAnew_152 : decode cX11_layAnew 152 = .ok (.invokevirtual 200, 3) := by decide +kernel
theorem dX11_layAnew_155 : decode cX11_layAnew 155 = .ok (.iinc 3 1, 3) := by decide +kernel
theorem dX11_layAnew_158 : decode cX11_layAnew 158 = .ok (.goto (-132), 3) := by decide +kernel
theorem dX11_layAnew_161 : decode cX11_layAnew 161 = .ok (.iinc 1 1, 3) := by decide +kernel
theorem dX11_layAnew_164 : decode cX11_layAnew 164 = .ok (.goto (-158), 3) := by decide +kernel
theorem dX11_layAnew_167 : decode cX11_layAnew 167 = .ok (.iconst 0, 1) := by decide +kernel
theorem dX11_layAnew_168 : decode cX11_layAnew 168 = .ok (.istore_n 1, 1) := by decide +kernel
theorem dX11_layAnew_169 : decode cX11_layAnew 169 = .ok (.iload_n 1, 1) := by decide +kernel
theorem dX11_layAnew_170 : decode cX11_layAnew 170 = .ok (.sipush 136, 3) := by decide +kernel
theorem dX11_layAnew_173 : decode cX11_layAnew 173 = .ok (.if_icmp .ge 14, 3) := by decide +kernel
theorem dX11_layAnew_176 : decode cX11_layAnew 176 = .ok (.aload_n 0, 1) := by decide +kernel
theorem dX11_layAnew_177 : decode cX11_layAnew 177 = .ok (.iload_n 1, 1) := by decide +kernel
theorem dX11_layAnew_178 : decode cX11_layAnew 178 = .ok (.invokevirtual 204, 3) := by decide +kernel
theorem dX11_layAnew_181 : decode cX11_layAnew 181 = .ok (.iinc 1 1, 3) := by decide +kernel
theorem dX11_layAnew_184 : decode cX11_layAnew 184 = .ok (.goto (-15), 3) := by decide +kernel
theorem dX11_layAnew_187 : decode cX11_layAnew 187 = .ok (.iconst 0, 1) := by decide +kernel
theorem dX11_layAnew_188 : decode cX11_layAnew 188 = .ok (.istore_n 1, 1) := by decide +kernel
theorem dX11_layAnew_189 : decode cX11_layAnew 189 = .ok (.iload_n 1, 1) := by decide +kernel
theorem dX11_layAnew_190 : decode cX11_layAnew 190 = .ok (.aload_n 0, 1) := by decide +kernel
theorem dX11_layAnew_191 : decode cX11_layAnew 191 = .ok (.getfield 177, 3) := by decide +kernel
theorem dX11_layAnew_194 : decode cX11_layAnew 194 = .ok (.if_icmp .ge 23, 3) := by decide +kernel
theorem dX11_layAnew_197 : decode cX11_layAnew 197 = .ok (.aload_n 0, 1) := by decide +kernel
theorem dX11_layAnew_198 : decode cX11_layAnew 198 = .ok (.getfield 13, 3) := by decide +kernel
theorem dX11_layAnew_201 : decode cX11_layAnew 201 = .ok (.iload_n 1, 1) := by decide +kernel
theorem dX11_layAnew_202 : decode cX11_layAnew 202 = .ok (.baload, 1) := by decide +kernel
theorem dX11_layAnew_203 : decode cX11_layAnew 203 = .ok (.ifCond .eq 8, 3) := by decide +kernel
theorem dX11_layAnew_206 : decode cX11_layAnew 206 = .ok (.aload_n 0, 1) := by decide +kernel
theorem dX11_layAnew_207 : decode cX11_layAnew 207 = .ok (.iload_n 1, 1) := by decide +kernel
theorem dX11_layAnew_208 : decode cX11_layAnew 208 = .ok (.invokevirtual 212, 3) := by decide +kernel
theorem dX11_layAnew_211 : decode cX11_layAnew 211 = .ok (.iinc 1 1, 3) := by decide +kernel
theorem dX11_layAnew_214 : decode cX11_layAnew 214 = .ok (.goto (-25), 3) := by decide +kernel
theorem dX11_layAnew_217 : decode cX11_layAnew 217 = .ok (.return_, 1) := by decide +kernel
theorem dX11_isDead_0 : decode cX11_isDead 0 = .ok (.aload_n 0, 1) := by decide +kernel
theorem dX11_isDead_1 : decode cX11_isDead 1 = .ok (.getfield 13, 3) := by decide +kernel
theorem dX11_isDead_4 : decode cX11_isDead 4 = .ok (.iload_n 1, 1) := by decide +kernel
theorem dX11_isDead_5 : decode cX11_isDead 5 = .ok (.baload, 1) := by decide +kernel
theorem dX11_isDead_6 : decode cX11_isDead 6 = .ok (.ifCond .ne 16, 3) := by decide +kernel
theorem dX11_isDead_9 : decode cX11_isDead 9 = .ok (.aload_n 0, 1) := by decide +kernel
theorem dX11_isDead_10 : decode cX11_isDead 10 = .ok (.getfield 17, 3) := by decide +kernel
theorem dX11_isDead_13 : decode cX11_isDead 13 = .ok (.iload_n 1, 1) := by decide +kernel
theorem dX11_isDead_14 : decode cX11_isDead 14 = .ok (.baload, 1) := by decide +kernel
theorem dX11_isDead_15 : decode cX11_isDead 15 = .ok (.ifCond .eq 7, 3) := by decide +kernel
theorem dX11_isDead_18 : decode cX11_isDead 18 = .ok (.iconst 1, 1) := by decide +kernel
theorem dX11_isDead_19 : decode cX11_isDead 19 = .ok (.goto 4, 3) := by decide +kernel
theorem dX11_isDead_22 : decode cX11_isDead 22 = .ok (.iconst 0, 1) := by decide +kernel
theorem dX11_isDead_23 : decode cX11_isDead 23 = .ok (.ireturn, 1) := by decide +kernel
theorem dX11_recover_0 : decode cX11_recover 0 = .ok (.aload_n 0, 1) := by decide +kernel
theorem dX11_recover_1 : decode cX11_recover 1 = .ok (.iload_n 1, 1) := by decide +kernel
theorem dX11_recover_2 : decode cX11_recover 2 = .ok (.invokevirtual 434, 3) := by decide +kernel
theorem dX11_recover_5 : decode cX11_recover 5 = .ok (.istore_n 2, 1) := by decide +kernel
theorem dX11_recover_6 : decode cX11_recover 6 = .ok (.aload_n 0, 1) := by decide +kernel
theorem dX11_recover_7 : decode cX11_recover 7 = .ok (.iload_n 2, 1) := by decide +kernel
theorem dX11_recover_8 : decode cX11_recover 8 = .ok (.ifCond .ne 7, 3) := by decide +kernel
theorem dX11_recover_11 : decode cX11_recover 11 = .ok (.iconst 1, 1) := by decide +kernel
theorem dX11_recover_12 : decode cX11_recover 12 = .ok (.goto 4, 3) := by decide +kernel
theorem dX11_recover_15 : decode cX11_recover 15 = .ok (.iconst 0, 1) := by decide +kernel
theorem dX11_recover_16 : decode cX11_recover 16 = .ok (.iload_n 2, 1) := by decide +kernel
theorem dX11_recover_17 : decode cX11_recover 17 = .ok (.ifCond .eq 15, 3) := by decide +kernel
theorem dX11_recover_20 : decode cX11_recover 20 = .ok (.aload_n 0, 1) := by decide +kernel
theorem dX11_recover_21 : decode cX11_recover 21 = .ok (.iload_n 1, 1) := by decide +kernel
theorem dX11_recover_22 : decode cX11_recover 22 = .ok (.invokevirtual 484, 3) := by decide +kernel
theorem dX11_recover_25 : decode cX11_recover 25 = .ok (.ifCond .ne 7, 3) := by decide +kernel
theorem dX11_recover_28 : decode cX11_recover 28 = .ok (.iconst 1, 1) := by decide +kernel
theorem dX11_recover_29 : decode cX11_recover 29 = .ok (.goto 4, 3) := by decide +kernel
theorem dX11_recover_32 : decode cX11_recover 32 = .ok (.iconst 0, 1) := by decide +kernel
theorem dX11_recover_33 : decode cX11_recover 33 = .ok (.iconst 0, 1) := by decide +kernel
theorem dX11_recover_34 : decode cX11_recover 34 = .ok (.invokevirtual 441, 3) := by decide +kernel
theorem dX11_recover_37 : decode cX11_recover 37 = .ok (.ifCond .eq 5, 3) := by decide +kernel
theorem dX11_recover_40 : decode cX11_recover 40 = .ok (.iconst 0, 1) := by decide +kernel
theorem dX11_recover_41 : decode cX11_recover 41 = .ok (.ireturn, 1) := by decide +kernel
theorem dX11_recover_42 : decode cX11_recover 42 = .ok (.iconst 0, 1) := by decide +kernel
theorem dX11_recover_43 : decode cX11_recover 43 = .ok (.istore_n 3, 1) := by decide +kernel
theorem dX11_recover_44 : decode cX11_recover 44 = .ok (.iconst 0, 1) := by decide +kernel
theorem dX11_recover_45 : decode cX11_recover 45 = .ok (.istore 4, 2) := by decide +kernel
theorem dX11_recover_47 : decode cX11_recover 47 = .ok (.iload 4, 2) := by decide +kernel
theorem dX11_recover_49 : decode cX11_recover 49 = .ok (.aload_n 0, 1) := by decide +kernel
theorem dX11_recover_50 : decode cX11_recover 50 = .ok (.getfield 177, 3) := by decide +kernel
theorem dX11_recover_53 : decode cX11_recover 53 = .ok (.if_icmp .ge 31, 3) := by decide +kernel
theorem dX11_recover_56 : decode cX11_recover 56 = .ok (.aload_n 0, 1) := by decide +kernel
theorem dX11_recover_57 : decode cX11_recover 57 = .ok (.iload 4, 2) := by decide +kernel
theorem dX11_recover_59 : decode cX11_recover 59 = .ok (.invokevirtual 484, 3) := by decide +kernel
theorem dX11_recover_62 : decode cX11_recover 62 = .ok (.ifCond .eq 14, 3) := by decide +kernel
theorem dX11_recover_65 : decode cX11_recover 65 = .ok (.iload_n 3, 1) := by decide +kernel
theorem dX11_recover_66 : decode cX11_recover 66 = .ok (.aload_n 0, 1) := by decide +kernel
theorem dX11_recover_67 : decode cX11_recover 67 = .ok (.iload 4, 2) := by decide +kernel
theorem dX11_recover_69 : decode cX11_recover 69 = .ok (.invokevirtual 487, 3) := by decide +kernel
theorem dX11_recover_72 : decode cX11_recover 72 = .ok (.iadd, 1) := by decide +kernel
theorem dX11_recover_73 : decode cX11_recover 73 = .ok (.goto 4, 3) := by decide +kernel
theorem dX11_recover_76 : decode cX11_recover 76 = .ok (.iload_n 3, 1) := by decide +kernel
theorem dX11_recover_77 : decode cX11_recover 77 = .ok (.istore_n 3, 1) := by decide +kernel
theorem dX11_recover_78 : decode cX11_recover 78 = .ok (.iinc 4 1, 3) := by decide +kernel
theorem dX11_recover_81 : decode cX11_recover 81 = .ok (.goto (-34), 3) := by decide +kernel
theorem dX11_recover_84 : decode cX11_recover 84 = .ok (.aload_n 0, 1) := by decide +kernel
theorem dX11_recover_85 : decode cX11_recover 85 = .ok (.invokevirtual 490, 3) := by decide +kernel
theorem dX11_recover_88 : decode cX11_recover 88 = .ok (.iload_n 3, 1) := by decide +kernel
theorem dX11_recover_89 : decode cX11_recover 89 = .ok (.ireturn, 1) := by decide +kernel
theorem dX11_play_0 : decode cX11_play 0 = .ok (.iconst 1, 1) := by decide +kernel
theorem dX11_play_1 : decode cX11_play 1 = .ok (.bipush 24, 2) := by decide +kernel
theorem dX11_play_3 : decode cX11_play 3 = .ok (.iload_n 1, 1) := by decide +kernel
theorem dX11_play_4 : decode cX11_play 4 = .ok (.imul, 1) := by decide +kernel
theorem dX11_play_5 : decode cX11_play 5 = .ok (.iadd, 1) := by decide +kernel
theorem dX11_play_6 : decode cX11_play 6 = .ok (.istore_n 2, 1) := by decide +kernel
theorem dX11_play_7 : decode cX11_play 7 = .ok (.aload_n 0, 1) := by decide +kernel
theorem dX11_play_8 : decode cX11_play 8 = .ok (.getfield 7, 3) := by decide +kernel
theorem dX11_play_11 : decode cX11_play 11 = .ok (.bipush 16, 2) := by decide +kernel
theorem dX11_play_13 : decode cX11_play 13 = .ok (.iload_n 2, 1) := by decide +kernel
theorem dX11_play_14 : decode cX11_play 14 = .ok (.imul, 1) := by decide +kernel
theorem dX11_play_15 : decode cX11_play 15 = .ok (.iconst 2, 1) := by decide +kernel
theorem dX11_play_16 : decode cX11_play 16 = .ok (.iadd, 1) := by decide +kernel
theorem dX11_play_17 : decode cX11_play 17 = .ok (.iaload, 1) := by decide +kernel
theorem dX11_play_18 : decode cX11_play 18 = .ok (.iconst 1, 1) := by decide +kernel
theorem dX11_play_19 : decode cX11_play 19 = .ok (.if_icmp .ne 17, 3) := by decide +kernel
theorem dX11_play_22 : decode cX11_play 22 = .ok (.aload_n 0, 1) := by decide +kernel
theorem dX11_play_23 : decode cX11_play 23 = .ok (.getfield 7, 3) := by decide +kernel
theorem dX11_play_26 : decode cX11_play 26 = .ok (.bipush 16, 2) := by decide +kernel
theorem dX11_play_28 : decode cX11_play 28 = .ok (.iload_n 2, 1) := by decide +kernel
theorem dX11_play_29 : decode cX11_play 29 = .ok (.imul, 1) := by decide +kernel
theorem dX11_play_30 : decode cX11_play 30 = .ok (.iconst 1, 1) := by decide +kernel
theorem dX11_play_31 : decode cX11_play 31 = .ok (.iadd, 1) := by decide +kernel
theorem dX11_play_32 : decode cX11_play 32 = .ok (.iaload, 1) := by decide +kernel
theorem dX11_play_33 : decode cX11_play 33 = .ok (.goto 4, 3) := by decide +kernel
theorem dX11_play_36 : decode cX11_play 36 = .ok (.iconst 0, 1) := by decide +kernel
theorem dX11_play_37 : decode cX11_play 37 = .ok (.istore_n 3, 1) := by decide +kernel
theorem dX11_play_38 : decode cX11_play 38 = .ok (.iconst 0, 1) := by decide +kernel
theorem dX11_play_39 : decode cX11_play 39 = .ok (.istore 4, 2) := by decide +kernel
theorem dX11_play_41 : decode cX11_play 41 = .ok (.iload 4, 2) := by decide +kernel
theorem dX11_play_43 : decode cX11_play 43 = .ok (.iload_n 3, 1) := by decide +kernel
theorem dX11_play_44 : decode cX11_play 44 = .ok (.if_icmp .ge 71, 3) := by decide +kernel
theorem dX11_play_47 : decode cX11_play 47 = .ok (.aload_n 0, 1) := by decide +kernel
theorem dX11_play_48 : decode cX11_play 48 = .ok (.getfield 7, 3) := by decide +kernel
theorem dX11_play_51 : decode cX11_play 51 = .ok (.bipush 16, 2) := by decide +kernel
theorem dX11_play_53 : decode cX11_play 53 = .ok (.iload_n 2, 1) := by decide +kernel
theorem dX11_play_54 : decode cX11_play 54 = .ok (.iconst 1, 1) := by decide +kernel
theorem dX11_play_55 : decode cX11_play 55 = .ok (.iadd, 1) := by decide +kernel
theorem dX11_play_56 : decode cX11_play 56 = .ok (.imul, 1) := by decide +kernel
theorem dX11_play_57 : decode cX11_play 57 = .ok (.iload 4, 2) := by decide +kernel
theorem dX11_play_59 : decode cX11_play 59 = .ok (.iadd, 1) := by decide +kernel
theorem dX11_play_60 : decode cX11_play 60 = .ok (.iaload, 1) := by decide +kernel
theorem dX11_play_61 : decode cX11_play 61 = .ok (.istore 5, 2) := by decide +kernel
theorem dX11_play_63 : decode cX11_play 63 = .ok (.iconst 0, 1) := by decide +kernel
theorem dX11_play_64 : decode cX11_play 64 = .ok (.istore 6, 2) := by decide +kernel
theorem dX11_play_66 : decode cX11_play 66 = .ok (.iload 6, 2) := by decide +kernel
theorem dX11_play_68 : decode cX11_play 68 = .ok (.bipush 16, 2) := by decide +kernel
theorem dX11_play_70 : decode cX11_play 70 = .ok (.if_icmp .ge 39, 3) := by decide +kernel
theorem dX11_play_73 : decode cX11_play 73 = .ok (.aload_n 0, 1) := by decide +kernel
theorem dX11_play_74 : decode cX11_play 74 = .ok (.getfield 7, 3) := by decide +kernel
theorem dX11_play_77 : decode cX11_play 77 = .ok (.bipush 16, 2) := by decide +kernel
theorem dX11_play_79 : decode cX11_play 79 = .ok (.iload 5, 2) := by decide +kernel
theorem dX11_play_81 : decode cX11_play 81 = .ok (.imul, 1) := by decide +kernel
theorem dX11_play_82 : decode cX11_play 82 = .ok (.iload 6, 2) := by decide +kernel
theorem dX11_play_84 : decode cX11_play 84 = .ok (.iadd, 1) := by decide +kernel
theorem dX11_play_85 : decode cX11_play 85 = .ok (.aload_n 0, 1) := by decide +kernel
theorem dX11_play_86 : decode cX11_play 86 = .ok (.getfield 7, 3) := by decide +kernel
theorem dX11_play_89 : decode cX11_play 89 = .ok (.bipush 16, 2) := by decide +kernel
theorem dX11_play_91 : decode cX11_play 91 = .ok (.iload_n 2, 1) := by decide +kernel
theorem dX11_play_92 : decode cX11_play 92 = .ok (.iconst 2, 1) := by decide +kernel
theorem dX11_play_93 : decode cX11_play 93 = .ok (.iadd, 1) := by decide +kernel
theorem dX11_play_94 : decode cX11_play 94 = .ok (.iload 4, 2) := by decide +kernel
theorem dX11_play_96 : decode cX11_play 96 = .ok (.iadd, 1) := by decide +kernel
theorem dX11_play_97 : decode cX11_play 97 = .ok (.imul, 1) := by decide +kernel
theorem dX11_play_98 : decode cX11_play 98 = .ok (.iload 6, 2) := by decide +kernel
theorem dX11_play_100 : decode cX11_play 100 = .ok (.iadd, 1) := by decide +kernel
theorem dX11_play_101 : decode cX11_play 101 = .ok (.iaload, 1) := by decide +kernel
theorem dX11_play_102 : decode cX11_play 102 = .ok (.iastore, 1) := by decide +kernel
theorem dX11_play_103 : decode cX11_play 103 = .ok (.iinc 6 1, 3) := by decide +kernel
theorem dX11_play_106 : decode cX11_play 106 = .ok (.goto (-40), 3) := by decide +kernel
theorem dX11_play_109 : decode cX11_play 109 = .ok (.iinc 4 1, 3) := by decide +kernel
theorem dX11_play_112 : decode cX11_play 112 = .ok (.goto (-71), 3) := by decide +kernel
theorem dX11_play_115 : decode cX11_play 115 = .ok (.aload_n 0, 1) := by decide +kernel
theorem dX11_play_116 : decode cX11_play 116 = .ok (.getfield 7, 3) := by decide +kernel
theorem dX11_play_119 : decode cX11_play 119 = .ok (.bipush 16, 2) := by decide +kernel
theorem dX11_play_121 : decode cX11_play 121 = .ok (.iload_n 2, 1) := by decide +kernel
theorem dX11_play_122 : decode cX11_play 122 = .ok (.imul, 1) := by decide +kernel
theorem dX11_play_123 : decode cX11_play 123 = .ok (.iconst 2, 1) := by decide +kernel
theorem dX11_play_124 : decode cX11_play 124 = .ok (.iadd, 1) := by decide +kernel
theorem dX11_play_125 : decode cX11_play 125 = .ok (.iconst 0, 1) := by decide +kernel
theorem dX11_play_126 : decode cX11_play 126 = .ok (.iastore, 1) := by decide +kernel
theorem dX11_play_127 : decode cX11_play 127 = .ok (.aload_n 0, 1) := by decide +kernel
theorem dX11_play_128 : decode cX11_play 128 = .ok (.getfield 17, 3) := by decide +kernel
theorem dX11_play_131 : decode cX11_play 131 = .ok (.iload_n 1, 1) := by decide +kernel
theorem dX11_play_132 : decode cX11_play 132 = .ok (.iconst 0, 1) := by decide +kernel
theorem dX11_play_133 : decode cX11_play 133 = .ok (.bastore, 1) := by decide +kernel
theorem dX11_play_134 : decode cX11_play 134 = .ok (.iload_n 3, 1) := by decide +kernel
theorem dX11_play_135 : decode cX11_play 135 = .ok (.ireturn, 1) := by decide +kernel
theorem dX11_start_0 : decode cX11_start 0 = .ok (.aload_n 0, 1) := by decide +kernel
theorem dX11_start_1 : decode cX11_start 1 = .ok (.iload_n 1, 1) := by decide +kernel
theorem dX11_start_2 : decode cX11_start 2 = .ok (.invokevirtual 434, 3) := by decide +kernel
theorem dX11_start_5 : decode cX11_start 5 = .ok (.istore_n 2, 1) := by decide +kernel
theorem dX11_start_6 : decode cX11_start 6 = .ok (.iconst 0, 1) := by decide +kernel
theorem dX11_start_7 : decode cX11_start 7 = .ok (.istore_n 3, 1) := by decide +kernel
theorem dX11_start_8 : decode cX11_start 8 = .ok (.iconst 0, 1) := by decide +kernel
theorem dX11_start_9 : decode cX11_start 9 = .ok (.istore 4, 2) := by decide +kernel
theorem dX11_start_11 : decode cX11_start 11 = .ok (.iload 4, 2) := by decide +kernel
theorem dX11_start_13 : decode cX11_start 13 = .ok (.aload_n 0, 1) := by decide +kernel
theorem dX11_start_14 : decode cX11_start 14 = .ok (.getfield 177, 3) := by decide +kernel
theorem dX11_start_17 : decode cX11_start 17 = .ok (.if_icmp .ge 28, 3) := by decide +kernel
theorem dX11_start_20 : decode cX11_start 20 = .ok (.iload_n 3, 1) := by decide +kernel
theorem dX11_start_21 : decode cX11_start 21 = .ok (.ifCond .ne 12, 3) := by decide +kernel
theorem dX11_start_24 : decode cX11_start 24 = .ok (.aload_n 0, 1) := by decide +kernel
theorem dX11_start_25 : decode cX11_start 25 = .ok (.iload 4, 2) := by decide +kernel
theorem dX11_start_27 : decode cX11_start 27 = .ok (.invokevirtual 484, 3) := by decide +kernel
theorem dX11_start_30 : decode cX11_start 30 = .ok (.ifCond .eq 7, 3) := by decide +kernel
theorem dX11_start_33 : decode cX11_start 33 = .ok (.iconst 1, 1) := by decide +kernel
theorem dX11_start_34 : decode cX11_start 34 = .ok (.goto 4, 3) := by decide +kernel
theorem dX11_start_37 : decode cX11_start 37 = .ok (.iconst 0, 1) := by decide +kernel
theorem dX11_start_38 : decode cX11_start 38 = .ok (.istore_n 3, 1) := by decide +kernel
theorem dX11_start_39 : decode cX11_start 39 = .ok (.iinc 4 1, 3) := by decide +kernel
theorem dX11_start_42 : decode cX11_start 42 = .ok (.goto (-31), 3) := by decide +kernel
theorem dX11_start_45 : decode cX11_start 45 = .ok (.aload_n 0, 1) := by decide +kernel
theorem dX11_start_46 : decode cX11_start 46 = .ok (.iload_n 2, 1) := by decide +kernel
theorem dX11_start_47 : decode cX11_start 47 = .ok (.ifCond .ne 7, 3) := by decide +kernel
theorem dX11_start_50 : decode cX11_start 50 = .ok (.iconst 1, 1) := by decide +kernel
theorem dX11_start_51 : decode cX11_start 51 = .ok (.goto 4, 3) := by decide +kernel
theorem dX11_start_54 : decode cX11_start 54 = .ok (.iconst 0, 1) := by decide +kernel
theorem dX11_start_55 : decode cX11_start 55 = .ok (.iload_n 2, 1) := by decide +kernel
theorem dX11_start_56 : decode cX11_start 56 = .ok (.ifCond .eq 20, 3) := by decide +kernel
theorem dX11_start_59 : decode cX11_start 59 = .ok (.aload_n 0, 1) := by decide +kernel
theorem dX11_start_60 : decode cX11_start 60 = .ok (.getfield 13, 3) := by decide +kernel
theorem dX11_start_63 : decode cX11_start 63 = .ok (.iload_n 1, 1) := by decide +kernel
theorem dX11_start_64 : decode cX11_start 64 = .ok (.baload, 1) := by decide +kernel
theorem dX11_start_65 : decode cX11_start 65 = .ok (.ifCond .ne 7, 3) := by decide +kernel
theorem dX11_start_68 : decode cX11_start 68 = .ok (.iload_n 3, 1) := by decide +kernel
theorem dX11_start_69 : decode cX11_start 69 = .ok (.ifCond .eq 7, 3) := by decide +kernel
theorem dX11_start_72 : decode cX11_start 72 = .ok (.iconst 1, 1) := by decide +kernel
theorem dX11_start_73 : decode cX11_start 73 = .ok (.goto 4, 3) := by decide +kernel
theorem dX11_start_76 : decode cX11_start 76 = .ok (.iconst 0, 1) := by decide +kernel
theorem dX11_start_77 : decode cX11_start 77 = .ok (.iconst 0, 1) := by decide +kernel
theorem dX11_start_78 : decode cX11_start 78 = .ok (.invokevirtual 441, 3) := by decide +kernel
theorem dX11_start_81 : decode cX11_start 81 = .ok (.ifCond .eq 4, 3) := by decide +kernel
theorem dX11_start_84 : decode cX11_start 84 = .ok (.return_, 1) := by decide +kernel
theorem dX11_start_85 : decode cX11_start 85 = .ok (.aload_n 0, 1) := by decide +kernel
theorem dX11_start_86 : decode cX11_start 86 = .ok (.getfield 13, 3) := by decide +kernel
theorem dX11_start_89 : decode cX11_start 89 = .ok (.iload_n 1, 1) := by decide +kernel
theorem dX11_start_90 : decode cX11_start 90 = .ok (.iconst 1, 1) := by decide +kernel
theorem dX11_start_91 : decode cX11_start 91 = .ok (.bastore, 1) := by decide +kernel
theorem dX11_start_92 : decode cX11_start 92 = .ok (.aload_n 0, 1) := by decide +kernel
theorem dX11_start_93 : decode cX11_start 93 = .ok (.getfield 17, 3) := by decide +kernel
theorem dX11_start_96 : decode cX11_start 96 = .ok (.iload_n 1, 1) := by decide +kernel
theorem dX11_start_97 : decode cX11_start 97 = .ok (.iconst 1, 1) := by decide +kernel
theorem dX11_start_98 : decode cX11_start 98 = .ok (.bastore, 1) := by decide +kernel
theorem dX11_start_99 : decode cX11_start 99 = .ok (.aload_n 0, 1) := by decide +kernel
theorem dX11_start_100 : decode cX11_start 100 = .ok (.getfield 33, 3) := by decide +kernel
theorem dX11_start_103 : decode cX11_start 103 = .ok (.iload_n 1, 1) := by decide +kernel
theorem dX11_start_104 : decode cX11_start 104 = .ok (.iconst 0, 1) := by decide +kernel
theorem dX11_start_105 : decode cX11_start 105 = .ok (.iastore, 1) := by decide +kernel
theorem dX11_start_106 : decode cX11_start 106 = .ok (.aload_n 0, 1) := by decide +kernel
theorem dX11_start_107 : decode cX11_start 107 = .ok (.iload_n 1, 1) := by decide +kernel
theorem dX11_start_108 : decode cX11_start 108 = .ok (.invokevirtual 475, 3) := by decide +kernel
theorem dX11_start_111 : decode cX11_start 111 = .ok (.aload_n 0, 1) := by decide +kernel
theorem dX11_start_112 : decode cX11_start 112 = .ok (.invokevirtual 490, 3) := by decide +kernel
theorem dX11_start_115 : decode cX11_start 115 = .ok (.return_, 1) := by decide +kernel
theorem dX11_result_0 : decode cX11_result 0 = .ok (.aload_n 0, 1) := by decide +kernel
theorem dX11_result_1 : decode cX11_result 1 = .ok (.aload_n 0, 1) := by decide +kernel
theorem dX11_result_2 : decode cX11_result 2 = .ok (.iload_n 1, 1) := by decide +kernel
theorem dX11_result_3 : decode cX11_result 3 = .ok (.invokevirtual 434, 3) := by decide +kernel
theorem dX11_result_6 : decode cX11_result 6 = .ok (.ifCond .eq 12, 3) := by decide +kernel
theorem dX11_result_9 : decode cX11_result 9 = .ok (.iload_n 2, 1) := by decide +kernel
theorem dX11_result_10 : decode cX11_result 10 = .ok (.iconst 0, 1) := by decide +kernel
theorem dX11_result_11 : decode cX11_result 11 = .ok (.iconst 4, 1) := by decide +kernel
theorem dX11_result_12 : decode cX11_result 12 = .ok (.invokestatic 243, 3) := by decide +kernel
theorem dX11_result_15 : decode cX11_result 15 = .ok (.ifCond .ne 7, 3) := by decide +kernel
theorem dX11_result_18 : decode cX11_result 18 = .ok (.iconst 1, 1) := by decide +kernel
theorem dX11_result_19 : decode cX11_result 19 = .ok (.goto 4, 3) := by decide +kernel
theorem dX11_result_22 : decode cX11_result 22 = .ok (.iconst 0, 1) := by decide +kernel
theorem dX11_result_23 : decode cX11_result 23 = .ok (.iconst 0, 1) := by decide +kernel
theorem dX11_result_24 : decode cX11_result 24 = .ok (.iconst 0, 1) := by decide +kernel
theorem dX11_result_25 : decode cX11_result 25 = .ok (.invokevirtual 441, 3) := by decide +kernel
theorem dX11_result_28 : decode cX11_result 28 = .ok (.ifCond .eq 5, 3) := by decide +kernel
theorem dX11_result_31 : decode cX11_result 31 = .ok (.iconst 0, 1) := by decide +kernel
theorem dX11_result_32 : decode cX11_result 32 = .ok (.ireturn, 1) := by decide +kernel
theorem dX11_result_33 : decode cX11_result 33 = .ok (.iload_n 2, 1) := by decide +kernel
theorem dX11_result_34 : decode cX11_result 34 = .ok (.tableswitch 106 0 3 #[30, 37, 68, 99], 30) := by decide +kernel
theorem dX11_result_64 : decode cX11_result 64 = .ok (.aload_n 0, 1) := by decide +kernel
theorem dX11_result_65 : decode cX11_result 65 = .ok (.getfield 81, 3) := by decide +kernel
theorem dX11_result_68 : decode cX11_result 68 = .ok (.iload_n 1, 1) := by decide +kernel
theorem dX11_result_69 : decode cX11_result 69 = .ok (.iaload, 1) := by decide +kernel
theorem dX11_result_70 : decode cX11_result 70 = .ok (.ireturn, 1) := by decide +kernel
theorem dX11_result_71 : decode cX11_result 71 = .ok (.aload_n 0, 1) := by decide +kernel
theorem dX11_result_72 : decode cX11_result 72 = .ok (.getfield 81, 3) := by decide +kernel
theorem dX11_result_75 : decode cX11_result 75 = .ok (.iload_n 1, 1) := by decide +kernel
theorem dX11_result_76 : decode cX11_result 76 = .ok (.iaload, 1) := by decide +kernel
theorem dX11_result_77 : decode cX11_result 77 = .ok (.iconst 2, 1) := by decide +kernel
theorem dX11_result_78 : decode cX11_result 78 = .ok (.if_icmp .eq 13, 3) := by decide +kernel
theorem dX11_result_81 : decode cX11_result 81 = .ok (.aload_n 0, 1) := by decide +kernel
theorem dX11_result_82 : decode cX11_result 82 = .ok (.getfield 81, 3) := by decide +kernel
theorem dX11_result_85 : decode cX11_result 85 = .ok (.iload_n 1, 1) := by decide +kernel
theorem dX11_result_86 : decode cX11_result 86 = .ok (.iaload, 1) := by decide +kernel
theorem dX11_result_87 : decode cX11_result 87 = .ok (.iconst 3, 1) := by decide +kernel
theorem dX11_result_88 : decode cX11_result 88 = .ok (.if_icmp .ne 12, 3) := by decide +kernel
theorem dX11_result_91 : decode cX11_result 91 = .ok (.aload_n 0, 1) := by decide +kernel
theorem dX11_result_92 : decode cX11_result 92 = .ok (.getfield 84, 3) := by decide +kernel
theorem dX11_result_95 : decode cX11_result 95 = .ok (.iload_n 1, 1) := by decide +kernel
theorem dX11_result_96 : decode cX11_result 96 = .ok (.iaload, 1) := by decide +kernel
theorem dX11_result_97 : decode cX11_result 97 = .ok (.goto 4, 3) := by decide +kernel
theorem dX11_result_100 : decode cX11_result 100 = .ok (.iconst 0, 1) := by decide +kernel
theorem dX11_result_101 : decode cX11_result 101 = .ok (.ireturn, 1) := by decide +kernel
theorem dX11_result_102 : decode cX11_result 102 = .ok (.aload_n 0, 1) := by decide +kernel
theorem dX11_result_103 : decode cX11_result 103 = .ok (.getfield 81, 3) := by decide +kernel
theorem dX11_result_106 : decode cX11_result 106 = .ok (.iload_n 1, 1) := by decide +kernel
theorem dX11_result_107 : decode cX11_result 107 = .ok (.iaload, 1) := by decide +kernel
theorem dX11_result_108 : decode cX11_result 108 = .ok (.iconst 1, 1) := by decide +kernel
theorem dX11_result_109 : decode cX11_result 109 = .ok (.if_icmp .ne 17, 3) := by decide +kernel
theorem dX11_result_112 : decode cX11_result 112 = .ok (.aload_n 0, 1) := by decide +kernel
theorem dX11_result_113 : decode cX11_result 113 = .ok (.getfield 194, 3) := by decide +kernel
theorem dX11_result_116 : decode cX11_result 116 = .ok (.aload_n 0, 1) := by decide +kernel
theorem dX11_result_117 : decode cX11_result 117 = .ok (.getfield 87, 3) := by decide +kernel
theorem dX11_result_120 : decode cX11_result 120 = .ok (.iload_n 1, 1) := by decide +kernel
theorem dX11_result_121 : decode cX11_result 121 = .ok (.iaload, 1) := by decide +kernel
theorem dX11_result_122 : decode cX11_result 122 = .ok (.isub, 1) := by decide +kernel
theorem dX11_result_123 : decode cX11_result 123 = .ok (.goto 9, 3) := by decide +kernel
theorem dX11_result_126 : decode cX11_result 126 = .ok (.aload_n 0, 1) := by decide +kernel
theorem dX11_result_127 : decode cX11_result 127 = .ok (.getfield 90, 3) := by decide +kernel
theorem dX11_result_130 : decode cX11_result 130 = .ok (.iload_n 1, 1) := by decide +kernel
theorem dX11_result_131 : decode cX11_result 131 = .ok (.iaload, 1) := by decide +kernel
theorem dX11_result_132 : decode cX11_result 132 = .ok (.ireturn, 1) := by decide +kernel
theorem dX11_result_133 : decode cX11_result 133 = .ok (.aload_n 0, 1) := by decide +kernel
theorem dX11_result_134 : decode cX11_result 134 = .ok (.getfield 93, 3) := by decide +kernel
theorem dX11_result_137 : decode cX11_result 137 = .ok (.iload_n 1, 1) := by decide +kernel
theorem dX11_result_138 : decode cX11_result 138 = .ok (.iaload, 1) := by decide +kernel
theorem dX11_result_139 : decode cX11_result 139 = .ok (.ireturn, 1) := by decide +kernel
theorem dX11_result_140 : decode cX11_result 140 = .ok (.aload_n 0, 1) := by decide +kernel
theorem dX11_result_141 : decode cX11_result 141 = .ok (.getfield 96, 3) := by decide +kernel
theorem dX11_result_144 : decode cX11_result 144 = .ok (.iload_n 1, 1) := by decide +kernel
theorem dX11_result_145 : decode cX11_result 145 = .ok (.iaload, 1) := by decide +kernel
theorem dX11_result_146 : decode cX11_result 146 = .ok (.ireturn, 1) := by decide +kernel
theorem dX11_history_0 : decode cX11_history 0 = .ok (.iload_n 1, 1) := by decide +kernel
theorem dX11_history_1 : decode cX11_history 1 = .ok (.iconst 0, 1) := by decide +kernel
theorem dX11_history_2 : decode cX11_history 2 = .ok (.aload_n 0, 1) := by decide +kernel
theorem dX11_history_3 : decode cX11_history 3 = .ok (.getfield 274, 3) := by decide +kernel
theorem dX11_history_6 : decode cX11_history 6 = .ok (.iconst 1, 1) := by decide +kernel
theorem dX11_history_7 : decode cX11_history 7 = .ok (.isub, 1) := by decide +kernel
theorem dX11_history_8 : decode cX11_history 8 = .ok (.invokestatic 243, 3) := by decide +kernel
theorem dX11_history_11 : decode cX11_history 11 = .ok (.istore_n 3, 1) := by decide +kernel
theorem dX11_history_12 : decode cX11_history 12 = .ok (.aload_n 0, 1) := by decide +kernel
theorem dX11_history_13 : decode cX11_history 13 = .ok (.iload_n 3, 1) := by decide +kernel
theorem dX11_history_14 : decode cX11_history 14 = .ok (.ifCond .ne 7, 3) := by decide +kernel
theorem dX11_history_17 : decode cX11_history 17 = .ok (.iconst 1, 1) := by decide +kernel
theorem dX11_history_18 : decode cX11_history 18 = .ok (.goto 4, 3) := by decide +kernel
theorem dX11_history_21 : decode cX11_history 21 = .ok (.iconst 0, 1) := by decide +kernel
theorem dX11_history_22 : decode cX11_history 22 = .ok (.iload_n 3, 1) := by decide +kernel
theorem dX11_history_23 : decode cX11_history 23 = .ok (.ifCond .eq 17, 3) := by decide +kernel
theorem dX11_history_26 : decode cX11_history 26 = .ok (.iload_n 2, 1) := by decide +kernel
theorem dX11_history_27 : decode cX11_history 27 = .ok (.iconst 0, 1) := by decide +kernel
theorem dX11_history_28 : decode cX11_history 28 = .ok (.bipush 9, 2) := by decide +kernel
theorem dX11_history_30 : decode cX11_history 30 = .ok (.invokestatic 243, 3) := by decide +kernel
theorem dX11_history_33 : decode cX11_history 33 = .ok (.ifCond .ne 7, 3) := by decide +kernel
theorem dX11_history_36 : decode cX11_history 36 = .ok (.iconst 1, 1) := by decide +kernel
theorem dX11_history_37 : decode cX11_history 37 = .ok (.goto 4, 3) := by decide +kernel
theorem dX11_history_40 : decode cX11_history 40 = .ok (.iconst 0, 1) := by decide +kernel
theorem dX11_history_41 : decode cX11_history 41 = .ok (.iconst 0, 1) := by decide +kernel
theorem dX11_history_42 : decode cX11_history 42 = .ok (.invokevirtual 441, 3) := by decide +kernel
theorem dX11_history_45 : decode cX11_history 45 = .ok (.ifCond .eq 5, 3) := by decide +kernel
theorem dX11_history_48 : decode cX11_history 48 = .ok (.iconst 0, 1) := by decide +kernel
theorem dX11_history_49 : decode cX11_history 49 = .ok (.ireturn, 1) := by decide +kernel
theorem dX11_history_50 : decode cX11_history 50 = .ok (.aload_n 0, 1) := by decide +kernel
theorem dX11_history_51 : decode cX11_history 51 = .ok (.getfield 156, 3) := by decide +kernel
theorem dX11_history_54 : decode cX11_history 54 = .ok (.bipush 10, 2) := by decide +kernel
theorem dX11_history_56 : decode cX11_history 56 = .ok (.iload_n 1, 1) := by decide +kernel
theorem dX11_history_57 : decode cX11_history 57 = .ok (.imul, 1) := by decide +kernel
theorem dX11_history_58 : decode cX11_history 58 = .ok (.iload_n 2, 1) := by decide +kernel
theorem dX11_history_59 : decode cX11_history 59 = .ok (.iadd, 1) := by decide +kernel
theorem dX11_history_60 : decode cX11_history 60 = .ok (.iaload, 1) := by decide +kernel
theorem dX11_history_61 : decode cX11_history 61 = .ok (.ireturn, 1) := by decide +kernel
theorem dX11_isWord_0 : decode cX11_isWord 0 = .ok (.iload_n 0, 1) := by decide +kernel
theorem dX11_isWord_1 : decode cX11_isWord 1 = .ok (.iconst 0, 1) := by decide +kernel
theorem dX11_isWord_2 : decode cX11_isWord 2 = .ok (.sipush 639, 3) := by decide +kernel
theorem dX11_isWord_5 : decode cX11_isWord 5 = .ok (.invokestatic 243, 3) := by decide +kernel
theorem dX11_isWord_8 : decode cX11_isWord 8 = .ok (.ifCond .eq 17, 3) := by decide +kernel
theorem dX11_isWord_11 : decode cX11_isWord 11 = .ok (.iload_n 1, 1) := by decide +kernel
theorem dX11_isWord_12 : decode cX11_isWord 12 = .ok (.iconst 0, 1) := by decide +kernel
theorem dX11_isWord_13 : decode cX11_isWord 13 = .ok (.bipush 15, 2) := by decide +kernel
theorem dX11_isWord_15 : decode cX11_isWord 15 = .ok (.invokestatic 243, 3) := by decide +kernel
theorem dX11_isWord_18 : decode cX11_isWord 18 = .ok (.ifCond .eq 7, 3) := by decide +kernel
theorem dX11_isWord_21 : decode cX11_isWord 21 = .ok (.iconst 1, 1) := by decide +kernel
theorem dX11_isWord_22 : decode cX11_isWord 22 = .ok (.goto 4, 3) := by decide +kernel
theorem dX11_isWord_25 : decode cX11_isWord 25 = .ok (.iconst 0, 1) := by decide +kernel
theorem dX11_isWord_26 : decode cX11_isWord 26 = .ok (.ireturn, 1) := by decide +kernel
theorem dX11_word_0 : decode cX11_word 0 = .ok (.aload_n 0, 1) := by decide +kernel
theorem dX11_word_1 : decode cX11_word 1 = .ok (.iload_n 1, 1) := by decide +kernel
theorem dX11_word_2 : decode cX11_word 2 = .ok (.iload_n 2, 1) := by decide +kernel
theorem dX11_word_3 : decode cX11_word 3 = .ok (.invokestatic 493, 3) := by decide +kernel
theorem dX11_word_6 : decode cX11_word 6 = .ok (.ifCond .ne 7, 3) := by decide +kernel
theorem dX11_word_9 : decode cX11_word 9 = .ok (.iconst 1, 1) := by decide +kernel
theorem dX11_word_10 : decode cX11_word 10 = .ok (.goto 4, 3) := by decide +kernel
theorem dX11_word_13 : decode cX11_word 13 = .ok (.iconst 0, 1) := by decide +kernel
theorem dX11_word_14 : decode cX11_word 14 = .ok (.iconst 0, 1) := by decide +kernel
theorem dX11_word_15 : decode cX11_word 15 = .ok (.iconst 0, 1) := by decide +kernel
theorem dX11_word_16 : decode cX11_word 16 = .ok (.invokevirtual 441, 3) := by decide +kernel
theorem dX11_word_19 : decode cX11_word 19 = .ok (.ifCond .eq 7, 3) := by decide +kernel
theorem dX11_word_22 : decode cX11_word 22 = .ok (.iconst 0, 1) := by decide +kernel
theorem dX11_word_23 : decode cX11_word 23 = .ok (.goto 14, 3) := by decide +kernel
theorem dX11_word_26 : decode cX11_word 26 = .ok (.aload_n 0, 1) := by decide +kernel
theorem dX11_word_27 : decode cX11_word 27 = .ok (.getfield 7, 3) := by decide +kernel
theorem dX11_word_30 : decode cX11_word 30 = .ok (.bipush 16, 2) := by decide +kernel
theorem dX11_word_32 : decode cX11_word 32 = .ok (.iload_n 1, 1) := by decide +kernel
theorem dX11_word_33 : decode cX11_word 33 = .ok (.imul, 1) := by decide +kernel
theorem dX11_word_34 : decode cX11_word 34 = .ok (.iload_n 2, 1) := by decide +kernel
theorem dX11_word_35 : decode cX11_word 35 = .ok (.iadd, 1) := by decide +kernel
theorem dX11_word_36 : decode cX11_word 36 = .ok (.iaload, 1) := by decide +kernel
theorem dX11_word_37 : decode cX11_word 37 = .ok (.ireturn, 1) := by decide +kernel
theorem dX11_cached_0 : decode cX11_cached 0 = .ok (.aload_n 0, 1) := by decide +kernel
theorem dX11_cached_1 : decode cX11_cached 1 = .ok (.iload_n 1, 1) := by decide +kernel
theorem dX11_cached_2 : decode cX11_cached 2 = .ok (.invokevirtual 434, 3) := by decide +kernel
theorem dX11_cached_5 : decode cX11_cached 5 = .ok (.istore 4, 2) := by decide +kernel
theorem dX11_cached_7 : decode cX11_cached 7 = .ok (.iload_n 2, 1) := by decide +kernel
theorem dX11_cached_8 : decode cX11_cached 8 = .ok (.iload_n 3, 1) := by decide +kernel
theorem dX11_cached_9 : decode cX11_cached 9 = .ok (.invokestatic 493, 3) := by decide +kernel
theorem dX11_cached_12 : decode cX11_cached 12 = .ok (.istore 5, 2) := by decide +kernel
theorem dX11_cached_14 : decode cX11_cached 14 = .ok (.aload_n 0, 1) := by decide +kernel
theorem dX11_cached_15 : decode cX11_cached 15 = .ok (.iload 4, 2) := by decide +kernel
theorem dX11_cached_17 : decode cX11_cached 17 = .ok (.ifCond .ne 7, 3) := by decide +kernel
theorem dX11_cached_20 : decode cX11_cached 20 = .ok (.iconst 1, 1) := by decide +kernel
theorem dX11_cached_21 : decode cX11_cached 21 = .ok (.goto 4, 3) := by decide +kernel
theorem dX11_cached_24 : decode cX11_cached 24 = .ok (.iconst 0, 1) := by decide +kernel
theorem dX11_cached_25 : decode cX11_cached 25 = .ok (.iload 4, 2) := by decide +kernel
theorem dX11_cached_27 : decode cX11_cached 27 = .ok (.ifCond .eq 12, 3) := by decide +kernel
theorem dX11_cached_30 : decode cX11_cached 30 = .ok (.iload 5, 2) := by decide +kernel
theorem dX11_cached_32 : decode cX11_cached 32 = .ok (.ifCond .ne 7, 3) := by decide +kernel
theorem dX11_cached_35 : decode cX11_cached 35 = .ok (.iconst 1, 1) := by decide +kernel
theorem dX11_cached_36 : decode cX11_cached 36 = .ok (.goto 4, 3) := by decide +kernel
theorem dX11_cached_39 : decode cX11_cached 39 = .ok (.iconst 0, 1) := by decide +kernel
theorem dX11_cached_40 : decode cX11_cached 40 = .ok (.iload 4, 2) := by decide +kernel
theorem dX11_cached_42 : decode cX11_cached 42 = .ok (.ifCond .eq 41, 3) := by decide +kernel
theorem dX11_cached_45 : decode cX11_cached 45 = .ok (.iload 5, 2) := by decide +kernel
theorem dX11_cached_47 : decode cX11_cached 47 = .ok (.ifCond .eq 36, 3) := by decide +kernel
theorem dX11_cached_50 : decode cX11_cached 50 = .ok (.aload_n 0, 1) := by decide +kernel
theorem dX11_cached_51 : decode cX11_cached 51 = .ok (.getfield 24, 3) := by decide +kernel
theorem dX11_cached_54 : decode cX11_cached 54 = .ok (.iload 4, 2) := by decide +kernel
theorem dX11_cached_56 : decode cX11_cached 56 = .ok (.ifCond .eq 18, 3) := by decide +kernel
theorem dX11_cached_59 : decode cX11_cached 59 = .ok (.iload 5, 2) := by decide +kernel
theorem dX11_cached_61 : decode cX11_cached 61 = .ok (.ifCond .eq 13, 3) := by decide +kernel
theorem dX11_cached_64 : decode cX11_cached 64 = .ok (.sipush 640, 3) := by decide +kernel
theorem dX11_cached_67 : decode cX11_cached 67 = .ok (.iload_n 1, 1) := by decide +kernel
theorem dX11_cached_68 : decode cX11_cached 68 = .ok (.imul, 1) := by decide +kernel
theorem dX11_cached_69 : decode cX11_cached 69 = .ok (.iload_n 2, 1) := by decide +kernel
theorem dX11_cached_70 : decode cX11_cached 70 = .ok (.iadd, 1) := by decide +kernel
theorem dX11_cached_71 : decode cX11_cached 71 = .ok (.goto 4, 3) := by decide +kernel
theorem dX11_cached_74 : decode cX11_cached 74 = .ok (.iconst 0, 1) := by decide +kernel
theorem dX11_cached_75 : decode cX11_cached 75 = .ok (.baload, 1) := by decide +kernel
theorem dX11_cached_76 : decode cX11_cached 76 = .ok (.ifCond .ne 7, 3) := by decide +kernel
theorem dX11_cached_79 : decode cX11_cached 79 = .ok (.iconst 1, 1) := by decide +kernel
theorem dX11_cached_80 : decode cX11_cached 80 = .ok (.goto 4, 3) := by decide +kernel
theorem dX11_cached_83 : decode cX11_cached 83 = .ok (.iconst 0, 1) := by decide +kernel
theorem dX11_cached_84 : decode cX11_cached 84 = .ok (.invokevirtual 441, 3) := by decide +kernel
theorem dX11_cached_87 : decode cX11_cached 87 = .ok (.ifCond .eq 5, 3) := by decide +kernel
theorem dX11_cached_90 : decode cX11_cached 90 = .ok (.iconst 0, 1) := by decide +kernel
theorem dX11_cached_91 : decode cX11_cached 91 = .ok (.ireturn, 1) := by decide +kernel
theorem dX11_cached_92 : decode cX11_cached 92 = .ok (.aload_n 0, 1) := by decide +kernel
theorem dX11_cached_93 : decode cX11_cached 93 = .ok (.getfield 21, 3) := by decide +kernel
theorem dX11_cached_96 : decode cX11_cached 96 = .ok (.bipush 16, 2) := by decide +kernel
theorem dX11_cached_98 : decode cX11_cached 98 = .ok (.sipush 640, 3) := by decide +kernel
theorem dX11_cached_101 : decode cX11_cached 101 = .ok (.iload_n 1, 1) := by decide +kernel
theorem dX11_cached_102 : decode cX11_cached 102 = .ok (.imul, 1) := by decide +kernel
theorem dX11_cached_103 : decode cX11_cached 103 = .ok (.iload_n 2, 1) := by decide +kernel
theorem dX11_cached_104 : decode cX11_cached 104 = .ok (.iadd, 1) := by decide +kernel
theorem dX11_cached_105 : decode cX11_cached 105 = .ok (.imul, 1) := by decide +kernel
theorem dX11_cached_106 : decode cX11_cached 106 = .ok (.iload_n 3, 1) := by decide +kernel
theorem dX11_cached_107 : decode cX11_cached 107 = .ok (.iadd, 1) := by decide +kernel
theorem dX11_cached_108 : decode cX11_cached 108 = .ok (.iaload, 1) := by decide +kernel
theorem dX11_cached_109 : decode cX11_cached 109 = .ok (.ireturn, 1) := by decide +kernel
theorem dX11_lock_0 : decode cX11_lock 0 = .ok (.aload_n 0, 1) := by decide +kernel
theorem dX11_lock_1 : decode cX11_lock 1 = .ok (.aload_n 0, 1) := by decide +kernel
theorem dX11_lock_2 : decode cX11_lock 2 = .ok (.iload_n 1, 1) := by decide +kernel
theorem dX11_lock_3 : decode cX11_lock 3 = .ok (.invokevirtual 434, 3) := by decide +kernel
theorem dX11_lock_6 : decode cX11_lock 6 = .ok (.ifCond .eq 23, 3) := by decide +kernel
theorem dX11_lock_9 : decode cX11_lock 9 = .ok (.iload_n 2, 1) := by decide +kernel
theorem dX11_lock_10 : decode cX11_lock 10 = .ok (.iconst 0, 1) := by decide +kernel
theorem dX11_lock_11 : decode cX11_lock 11 = .ok (.sipush 135, 3) := by decide +kernel
theorem dX11_lock_14 : decode cX11_lock 14 = .ok (.invokestatic 243, 3) := by decide +kernel
theorem dX11_lock_17 : decode cX11_lock 17 = .ok (.ifCond .eq 12, 3) := by decide +kernel
theorem dX11_lock_20 : decode cX11_lock 20 = .ok (.iload_n 3, 1) := by decide +kernel
theorem dX11_lock_21 : decode cX11_lock 21 = .ok (.iconst 0, 1) := by decide +kernel
theorem dX11_lock_22 : decode cX11_lock 22 = .ok (.iconst 4, 1) := by decide +kernel
theorem dX11_lock_23 : decode cX11_lock 23 = .ok (.invokestatic 243, 3) := by decide +kernel
theorem dX11_lock_26 : decode cX11_lock 26 = .ok (.ifCond .ne 7, 3) := by decide +kernel
theorem dX11_lock_29 : decode cX11_lock 29 = .ok (.iconst 1, 1) := by decide +kernel
theorem dX11_lock_30 : decode cX11_lock 30 = .ok (.goto 4, 3) := by decide +kernel
theorem dX11_lock_33 : decode cX11_lock 33 = .ok (.iconst 0, 1) := by decide +kernel
theorem dX11_lock_34 : decode cX11_lock 34 = .ok (.iconst 0, 1) := by decide +kernel
theorem dX11_lock_35 : decode cX11_lock 35 = .ok (.iconst 0, 1) := by decide +kernel
theorem dX11_lock_36 : decode cX11_lock 36 = .ok (.invokevirtual 441, 3) := by decide +kernel
theorem dX11_lock_39 : decode cX11_lock 39 = .ok (.ifCond .eq 5, 3) := by decide +kernel
theorem dX11_lock_42 : decode cX11_lock 42 = .ok (.iconst 0, 1) := by decide +kernel
theorem dX11_lock_43 : decode cX11_lock 43 = .ok (.ireturn, 1) := by decide +kernel
theorem dX11_lock_44 : decode cX11_lock 44 = .ok (.iload_n 1, 1) := by decide +kernel
theorem dX11_lock_45 : decode cX11_lock 45 = .ok (.iload_n 2, 1) := by decide +kernel
theorem dX11_lock_46 : decode cX11_lock 46 = .ok (.invokestatic 208, 3) := by decide +kernel
theorem dX11_lock_49 : decode cX11_lock 49 = .ok (.istore 4, 2) := by decide +kernel
theorem dX11_lock_51 : decode cX11_lock 51 = .ok (.iload_n 3, 1) := by decide +kernel
theorem dX11_lock_52 : decode cX11_lock 52 = .ok (.tableswitch 76 0 3 #[32, 40, 48, 56], 32) := by decide +kernel
theorem dX11_lock_84 : decode cX11_lock 84 = .ok (.aload_n 0, 1) := by decide +kernel
theorem dX11_lock_85 : decode cX11_lock 85 = .ok (.getfield 48, 3) := by decide +kernel
theorem dX11_lock_88 : decode cX11_lock 88 = .ok (.iload 4, 2) := by decide +kernel
theorem dX11_lock_90 : decode cX11_lock 90 = .ok (.iaload, 1) := by decide +kernel
theorem dX11_lock_91 : decode cX11_lock 91 = .ok (.ireturn, 1) := by decide +kernel
theorem dX11_lock_92 : decode cX11_lock 92 = .ok (.aload_n 0, 1) := by decide +kernel
theorem dX11_lock_93 : decode cX11_lock 93 = .ok (.getfield 51, 3) := by decide +kernel
theorem dX11_lock_96 : decode cX11_lock 96 = .ok (.iload 4, 2) := by decide +kernel
theorem dX11_lock_98 : decode cX11_lock 98 = .ok (.iaload, 1) := by decide +kernel
theorem dX11_lock_99 : decode cX11_lock 99 = .ok (.ireturn, 1) := by decide +kernel
theorem dX11_lock_100 : decode cX11_lock 100 = .ok (.aload_n 0, 1) := by decide +kernel
theorem dX11_lock_101 : decode cX11_lock 101 = .ok (.getfield 54, 3) := by decide +kernel
theorem dX11_lock_104 : decode cX11_lock 104 = .ok (.iload 4, 2) := by decide +kernel
theorem dX11_lock_106 : decode cX11_lock 106 = .ok (.iaload, 1) := by decide +kernel
theorem dX11_lock_107 : decode cX11_lock 107 = .ok (.ireturn, 1) := by decide +kernel
theorem dX11_lock_108 : decode cX11_lock 108 = .ok (.aload_n 0, 1) := by decide +kernel
theorem dX11_lock_109 : decode cX11_lock 109 = .ok (.iload_n 1, 1) := by decide +kernel
theorem dX11_lock_110 : decode cX11_lock 110 = .ok (.invokevirtual 264, 3) := by decide +kernel
theorem dX11_lock_113 : decode cX11_lock 113 = .ok (.ifCond .eq 13, 3) := by decide +kernel
theorem dX11_lock_116 : decode cX11_lock 116 = .ok (.aload_n 0, 1) := by decide +kernel
theorem dX11_lock_117 : decode cX11_lock 117 = .ok (.getfield 63, 3) := by decide +kernel
theorem dX11_lock_120 : decode cX11_lock 120 = .ok (.iload 4, 2) := by decide +kernel
theorem dX11_lock_122 : decode cX11_lock 122 = .ok (.iaload, 1) := by decide +kernel
theorem dX11_lock_123 : decode cX11_lock 123 = .ok (.goto 4, 3) := by decide +kernel
theorem dX11_lock_126 : decode cX11_lock 126 = .ok (.iconst 0, 1) := by decide +kernel
theorem dX11_lock_127 : decode cX11_lock 127 = .ok (.ireturn, 1) := by decide +kernel
theorem dX11_lock_128 : decode cX11_lock 128 = .ok (.aload_n 0, 1) := by decide +kernel
theorem dX11_lock_129 : decode cX11_lock 129 = .ok (.getfield 102, 3) := by decide +kernel
theorem dX11_lock_132 : decode cX11_lock 132 = .ok (.iconst 4, 1) := by decide +kernel
theorem dX11_lock_133 : decode cX11_lock 133 = .ok (.iload_n 2, 1) := by decide +kernel
theorem dX11_lock_134 : decode cX11_lock 134 = .ok (.imul, 1) := by decide +kernel
theorem dX11_lock_135 : decode cX11_lock 135 = .ok (.iload_n 1, 1) := by decide +kernel
theorem dX11_lock_136 : decode cX11_lock 136 = .ok (.iadd, 1) := by decide +kernel
theorem dX11_lock_137 : decode cX11_lock 137 = .ok (.iaload, 1) := by decide +kernel
theorem dX11_lock_138 : decode cX11_lock 138 = .ok (.ireturn, 1) := by decide +kernel
theorem dX11_row_0 : decode cX11_row 0 = .ok (.aload_n 0, 1) := by decide +kernel
theorem dX11_row_1 : decode cX11_row 1 = .ok (.iload_n 1, 1) := by decide +kernel
theorem dX11_row_2 : decode cX11_row 2 = .ok (.iconst 0, 1) := by decide +kernel
theorem dX11_row_3 : decode cX11_row 3 = .ok (.sipush 135, 3) := by decide +kernel
theorem dX11_row_6 : decode cX11_row 6 = .ok (.invokestatic 243, 3) := by decide +kernel
theorem dX11_row_9 : decode cX11_row 9 = .ok (.ifCond .eq 7, 3) := by decide +kernel
theorem dX11_row_12 : decode cX11_row 12 = .ok (.iload_n 2, 1) := by decide +kernel
theorem dX11_row_13 : decode cX11_row 13 = .ok (.ifCond .ge 7, 3) := by decide +kernel
theorem dX11_row_16 : decode cX11_row 16 = .ok (.iconst 1, 1) := by decide +kernel
theorem dX11_row_17 : decode cX11_row 17 = .ok (.goto 4, 3) := by decide +kernel
theorem dX11_row_20 : decode cX11_row 20 = .ok (.iconst 0, 1) := by decide +kernel
theorem dX11_row_21 : decode cX11_row 21 = .ok (.iconst 0, 1) := by decide +kernel
theorem dX11_row_22 : decode cX11_row 22 = .ok (.iconst 0, 1) := by decide +kernel
theorem dX11_row_23 : decode cX11_row 23 = .ok (.invokevirtual 441, 3) := by decide +kernel
theorem dX11_row_26 : decode cX11_row 26 = .ok (.ifCond .eq 5, 3) := by decide +kernel
theorem dX11_row_29 : decode cX11_row 29 = .ok (.iconst 0, 1) := by decide +kernel
theorem dX11_row_30 : decode cX11_row 30 = .ok (.ireturn, 1) := by decide +kernel
theorem dX11_row_31 : decode cX11_row 31 = .ok (.iload_n 2, 1) := by decide +kernel
theorem dX11_row_32 : decode cX11_row 32 = .ok (.iconst 2, 1) := by decide +kernel
theorem dX11_row_33 : decode cX11_row 33 = .ok (.if_icmp .ge 22, 3) := by decide +kernel
theorem dX11_row_36 : decode cX11_row 36 = .ok (.iload_n 2, 1) := by decide +kernel
theorem dX11_row_37 : decode cX11_row 37 = .ok (.ifCond .ne 11, 3) := by decide +kernel
theorem dX11_row_40 : decode cX11_row 40 = .ok (.aload_n 0, 1) := by decide +kernel
theorem dX11_row_41 : decode cX11_row 41 = .ok (.iload_n 1, 1) := by decide +kernel
theorem dX11_row_42 : decode cX11_row 42 = .ok (.invokevirtual 226, 3) := by decide +kernel
theorem dX11_row_45 : decode cX11_row 45 = .ok (.goto 9, 3) := by decide +kernel
theorem dX11_row_48 : decode cX11_row 48 = .ok (.aload_n 0, 1) := by decide +kernel
theorem dX11_row_49 : decode cX11_row 49 = .ok (.getfield 108, 3) := by decide +kernel
theorem dX11_row_52 : decode cX11_row 52 = .ok (.iload_n 1, 1) := by decide +kernel
theorem dX11_row_53 : decode cX11_row 53 = .ok (.iaload, 1) := by decide +kernel
theorem dX11_row_54 : decode cX11_row 54 = .ok (.ireturn, 1) := by decide +kernel
theorem dX11_row_55 : decode cX11_row 55 = .ok (.iload_n 2, 1) := by decide +kernel
theorem dX11_row_56 : decode cX11_row 56 = .ok (.iconst 2, 1) := by decide +kernel
theorem dX11_row_57 : decode cX11_row 57 = .ok (.isub, 1) := by decide +kernel
theorem dX11_row_58 : decode cX11_row 58 = .ok (.iconst 2, 1) := by decide +kernel
theorem dX11_row_59 : decode cX11_row 59 = .ok (.idiv, 1) := by decide +kernel
theorem dX11_row_60 : decode cX11_row 60 = .ok (.istore_n 3, 1) := by decide +kernel
theorem dX11_row_61 : decode cX11_row 61 = .ok (.iload_n 3, 1) := by decide +kernel
theorem dX11_row_62 : decode cX11_row 62 = .ok (.aload_n 0, 1) := by decide +kernel
theorem dX11_row_63 : decode cX11_row 63 = .ok (.getfield 108, 3) := by decide +kernel
theorem dX11_row_66 : decode cX11_row 66 = .ok (.iload_n 1, 1) := by decide +kernel
theorem dX11_row_67 : decode cX11_row 67 = .ok (.iaload, 1) := by decide +kernel
theorem dX11_row_68 : decode cX11_row 68 = .ok (.if_icmp .lt 5, 3) := by decide +kernel
theorem dX11_row_71 : decode cX11_row 71 = .ok (.iconst (-1), 1) := by decide +kernel
theorem dX11_row_72 : decode cX11_row 72 = .ok (.ireturn, 1) := by decide +kernel
theorem dX11_row_73 : decode cX11_row 73 = .ok (.iload_n 2, 1) := by decide +kernel
theorem dX11_row_74 : decode cX11_row 74 = .ok (.iconst 2, 1) := by decide +kernel
theorem dX11_row_75 : decode cX11_row 75 = .ok (.irem, 1) := by decide +kernel
theorem dX11_row_76 : decode cX11_row 76 = .ok (.ifCond .ne 17, 3) := by decide +kernel
theorem dX11_row_79 : decode cX11_row 79 = .ok (.aload_n 0, 1) := by decide +kernel
theorem dX11_row_80 : decode cX11_row 80 = .ok (.getfield 111, 3) := by decide +kernel
theorem dX11_row_83 : decode cX11_row 83 = .ok (.bipush 16, 2) := by decide +kernel
theorem dX11_row_85 : decode cX11_row 85 = .ok (.iload_n 1, 1) := by decide +kernel
theorem dX11_row_86 : decode cX11_row 86 = .ok (.imul, 1) := by decide +kernel
theorem dX11_row_87 : decode cX11_row 87 = .ok (.iload_n 3, 1) := by decide +kernel
theorem dX11_row_88 : decode cX11_row 88 = .ok (.iadd, 1) := by decide +kernel
theorem dX11_row_89 : decode cX11_row 89 = .ok (.iaload, 1) := by decide +kernel
theorem dX11_row_90 : decode cX11_row 90 = .ok (.goto 14, 3) := by decide +kernel
theorem dX11_row_93 : decode cX11_row 93 = .ok (.aload_n 0, 1) := by decide +kernel
theorem dX11_row_94 : decode cX11_row 94 = .ok (.getfield 114, 3) := by decide +kernel
theorem dX11_row_97 : decode cX11_row 97 = .ok (.bipush 16, 2) := by decide +kernel
theorem dX11_row_99 : decode cX11_row 99 = .ok (.iload_n 1, 1) := by decide +kernel
theorem dX11_row_100 : decode cX11_row 100 = .ok (.imul, 1) := by decide +kernel
theorem dX11_row_101 : decode cX11_row 101 = .ok (.iload_n 3, 1) := by decide +kernel
theorem dX11_row_102 : decode cX11_row 102 = .ok (.iadd, 1) := by decide +kernel
theorem dX11_row_103 : decode cX11_row 103 = .ok (.iaload, 1) := by decide +kernel
theorem dX11_row_104 : decode cX11_row 104 = .ok (.ireturn, 1) := by decide +kernel
theorem dX11_message_0 : decode cX11_message 0 = .ok (.iload_n 1, 1) := by decide +kernel
theorem dX11_message_1 : decode cX11_message 1 = .ok (.iconst 0, 1) := by decide +kernel
theorem dX11_message_2 : decode cX11_message 2 = .ok (.aload_n 0, 1) := by decide +kernel
theorem dX11_message_3 : decode cX11_message 3 = .ok (.getfield 197, 3) := by decide +kernel
theorem dX11_message_6 : decode cX11_message 6 = .ok (.iconst 1, 1) := by decide +kernel
theorem dX11_message_7 : decode cX11_message 7 = .ok (.isub, 1) := by decide +kernel
theorem dX11_message_8 : decode cX11_message 8 = .ok (.invokestatic 243, 3) := by decide +kernel
theorem dX11_message_11 : decode cX11_message 11 = .ok (.istore_n 3, 1) := by decide +kernel
theorem dX11_message_12 : decode cX11_message 12 = .ok (.aload_n 0, 1) := by decide +kernel
theorem dX11_message_13 : decode cX11_message 13 = .ok (.iload_n 3, 1) := by decide +kernel
theorem dX11_message_14 : decode cX11_message 14 = .ok (.ifCond .ne 7, 3) := by decide +kernel
theorem dX11_message_17 : decode cX11_message 17 = .ok (.iconst 1, 1) := by decide +kernel
theorem dX11_message_18 : decode cX11_message 18 = .ok (.goto 4, 3) := by decide +kernel
theorem dX11_message_21 : decode cX11_message 21 = .ok (.iconst 0, 1) := by decide +kernel
theorem dX11_message_22 : decode cX11_message 22 = .ok (.iload_n 3, 1) := by decide +kernel
theorem dX11_message_23 : decode cX11_message 23 = .ok (.ifCond .eq 16, 3) := by decide +kernel
theorem dX11_message_26 : decode cX11_message 26 = .ok (.iload_n 2, 1) := by decide +kernel
theorem dX11_message_27 : decode cX11_message 27 = .ok (.iconst 0, 1) := by decide +kernel
theorem dX11_message_28 : decode cX11_message 28 = .ok (.iconst 5, 1) := by decide +kernel
theorem dX11_message_29 : decode cX11_message 29 = .ok (.invokestatic 243, 3) := by decide +kernel
theorem dX11_message_32 : decode cX11_message 32 = .ok (.ifCond .ne 7, 3) := by decide +kernel
theorem dX11_message_35 : decode cX11_message 35 = .ok (.iconst 1, 1) := by decide +kernel
theorem dX11_message_36 : decode cX11_message 36 = .ok (.goto 4, 3) := by decide +kernel
theorem dX11_message_39 : decode cX11_message 39 = .ok (.iconst 0, 1) := by decide +kernel
theorem dX11_message_40 : decode cX11_message 40 = .ok (.iconst 0, 1) := by decide +kernel
theorem dX11_message_41 : decode cX11_message 41 = .ok (.invokevirtual 441, 3) := by decide +kernel
theorem dX11_message_44 : decode cX11_message 44 = .ok (.ifCond .eq 5, 3) := by decide +kernel
theorem dX11_message_47 : decode cX11_message 47 = .ok (.iconst 0, 1) := by decide +kernel
theorem dX11_message_48 : decode cX11_message 48 = .ok (.ireturn, 1) := by decide +kernel
theorem dX11_message_49 : decode cX11_message 49 = .ok (.iload_n 2, 1) := by decide +kernel
theorem dX11_message_50 : decode cX11_message 50 = .ok (.tableswitch 69 0 4 #[34, 41, 48, 55, 62], 34) := by decide +kernel
theorem dX11_message_84 : decode cX11_message 84 = .ok (.aload_n 0, 1) := by decide +kernel
theorem dX11_message_85 : decode cX11_message 85 = .ok (.getfield 117, 3) := by decide +kernel
theorem dX11_message_88 : decode cX11_message 88 = .ok (.iload_n 1, 1) := by decide +kernel
theorem dX11_message_89 : decode cX11_message 89 = .ok (.iaload, 1) := by decide +kernel
theorem dX11_message_90 : decode cX11_message 90 = .ok (.ireturn, 1) := by decide +kernel
theorem dX11_message_91 : decode cX11_message 91 = .ok (.aload_n 0, 1) := by decide +kernel
theorem dX11_message_92 : decode cX11_message 92 = .ok (.getfield 120, 3) := by decide +kernel
theorem dX11_message_95 : decode cX11_message 95 = .ok (.iload_n 1, 1) := by decide +kernel
theorem dX11_message_96 : decode cX11_message 96 = .ok (.iaload, 1) := by decide +kernel
theorem dX11_message_97 : decode cX11_message 97 = .ok (.ireturn, 1) := by decide +kernel
theorem dX11_message_98 : decode cX11_message 98 = .ok (.aload_n 0, 1) := by decide +kernel
theorem dX11_message_99 : decode cX11_message 99 = .ok (.getfield 123, 3) := by decide +kernel
theorem dX11_message_102 : decode cX11_message 102 = .ok (.iload_n 1, 1) := by decide +kernel
theorem dX11_message_103 : decode cX11_message 103 = .ok (.iaload, 1) := by decide +kernel
theorem dX11_message_104 : decode cX11_message 104 = .ok (.ireturn, 1) := by decide +kernel
theorem dX11_message_105 : decode cX11_message 105 = .ok (.aload_n 0, 1) := by decide +kernel
theorem dX11_message_106 : decode cX11_message 106 = .ok (.getfield 126, 3) := by decide +kernel
theorem dX11_message_109 : decode cX11_message 109 = .ok (.iload_n 1, 1) := by decide +kernel
theorem dX11_message_110 : decode cX11_message 110 = .ok (.iaload, 1) := by decide +kernel
theorem dX11_message_111 : decode cX11_message 111 = .ok (.ireturn, 1) := by decide +kernel
theorem dX11_message_112 : decode cX11_message 112 = .ok (.aload_n 0, 1) := by decide +kernel
theorem dX11_message_113 : decode cX11_message 113 = .ok (.getfield 129, 3) := by decide +kernel
theorem dX11_message_116 : decode cX11_message 116 = .ok (.iload_n 1, 1) := by decide +kernel
theorem dX11_message_117 : decode cX11_message 117 = .ok (.iaload, 1) := by decide +kernel
theorem dX11_message_118 : decode cX11_message 118 = .ok (.ireturn, 1) := by decide +kernel
theorem dX11_message_119 : decode cX11_message 119 = .ok (.aload_n 0, 1) := by decide +kernel
theorem dX11_message_120 : decode cX11_message 120 = .ok (.getfield 132, 3) := by decide +kernel
theorem dX11_message_123 : decode cX11_message 123 = .ok (.iload_n 1, 1) := by decide +kernel
theorem dX11_message_124 : decode cX11_message 124 = .ok (.iaload, 1) := by decide +kernel
theorem dX11_message_125 : decode cX11_message 125 = .ok (.ireturn, 1) := by decide +kernel
theorem dX11_node_0 : decode cX11_node 0 = .ok (.aload_n 0, 1) := by decide +kernel
theorem dX11_node_1 : decode cX11_node 1 = .ok (.aload_n 0, 1) := by decide +kernel
theorem dX11_node_2 : decode cX11_node 2 = .ok (.iload_n 1, 1) := by decide +kernel
theorem dX11_node_3 : decode cX11_node 3 = .ok (.invokevirtual 434, 3) := by decide +kernel
theorem dX11_node_6 : decode cX11_node 6 = .ok (.ifCond .eq 13, 3) := by decide +kernel
theorem dX11_node_9 : decode cX11_node 9 = .ok (.iload_n 2, 1) := by decide +kernel
theorem dX11_node_10 : decode cX11_node 10 = .ok (.iconst 0, 1) := by decide +kernel
theorem dX11_node_11 : decode cX11_node 11 = .ok (.bipush 6, 2) := by decide +kernel
theorem dX11_node_13 : decode cX11_node 13 = .ok (.invokestatic 243, 3) := by decide +kernel
theorem dX11_node_16 : decode cX11_node 16 = .ok (.ifCond .ne 7, 3) := by decide +kernel
theorem dX11_node_19 : decode cX11_node 19 = .ok (.iconst 1, 1) := by decide +kernel
theorem dX11_node_20 : decode cX11_node 20 = .ok (.goto 4, 3) := by decide +kernel
theorem dX11_node_23 : decode cX11_node 23 = .ok (.iconst 0, 1) := by decide +kernel
theorem dX11_node_24 : decode cX11_node 24 = .ok (.iconst 0, 1) := by decide +kernel
theorem dX11_node_25 : decode cX11_node 25 = .ok (.iconst 0, 1) := by decide +kernel
theorem dX11_node_26 : decode cX11_node 26 = .ok (.invokevirtual 441, 3) := by decide +kernel
theorem dX11_node_29 : decode cX11_node 29 = .ok (.ifCond .eq 5, 3) := by decide +kernel
theorem dX11_node_32 : decode cX11_node 32 = .ok (.iconst 0, 1) := by decide +kernel
theorem dX11_node_33 : decode cX11_node 33 = .ok (.ireturn, 1) := by decide +kernel
theorem dX11_node_34 : decode cX11_node 34 = .ok (.iconst 0, 1) := by decide +kernel
theorem dX11_node_35 : decode cX11_node 35 = .ok (.istore_n 3, 1) := by decide +kernel
theorem dX11_node_36 : decode cX11_node 36 = .ok (.iload_n 2, 1) := by decide +kernel
theorem dX11_node_37 : decode cX11_node 37 = .ok (.tableswitch 140 0 5 #[39, 54, 69, 76, 90, 97], 39) := by decide +kernel
theorem dX11_node_76 : decode cX11_node 76 = .ok (.aload_n 0, 1) := by decide +kernel
theorem dX11_node_77 : decode cX11_node 77 = .ok (.getfield 13, 3) := by decide +kernel
theorem dX11_node_80 : decode cX11_node 80 = .ok (.iload_n 1, 1) := by decide +kernel
theorem dX11_node_81 : decode cX11_node 81 = .ok (.baload, 1) := by decide +kernel
theorem dX11_node_82 : decode cX11_node 82 = .ok (.ifCond .eq 7, 3) := by decide +kernel
theorem dX11_node_85 : decode cX11_node 85 = .ok (.iconst 1, 1) := by decide +kernel
theorem dX11_node_86 : decode cX11_node 86 = .ok (.goto 4, 3) := by decide +kernel
theorem dX11_node_89 : decode cX11_node 89 = .ok (.iconst 0, 1) := by decide +kernel
theorem dX11_node_90 : decode cX11_node 90 = .ok (.ireturn, 1) := by decide +kernel
theorem dX11_node_91 : decode cX11_node 91 = .ok (.aload_n 0, 1) := by decide +kernel
theorem dX11_node_92 : decode cX11_node 92 = .ok (.getfield 17, 3) := by decide +kernel
theorem dX11_node_95 : decode cX11_node 95 = .ok (.iload_n 1, 1) := by decide +kernel
theorem dX11_node_96 : decode cX11_node 96 = .ok (.baload, 1) := by decide +kernel
theorem dX11_node_97 : decode cX11_node 97 = .ok (.ifCond .eq 7, 3) := by decide +kernel
theorem dX11_node_100 : decode cX11_node 100 = .ok (.iconst 1, 1) := by decide +kernel
theorem dX11_node_101 : decode cX11_node 101 = .ok (.goto 4, 3) := by decide +kernel
theorem dX11_node_104 : decode cX11_node 104 = .ok (.iconst 0, 1) := by decide +kernel
theorem dX11_node_105 : decode cX11_node 105 = .ok (.ireturn, 1) := by decide +kernel
theorem dX11_node_106 : decode cX11_node 106 = .ok (.aload_n 0, 1) := by decide +kernel
theorem dX11_node_107 : decode cX11_node 107 = .ok (.getfield 30, 3) := by decide +kernel
theorem dX11_node_110 : decode cX11_node 110 = .ok (.iload_n 1, 1) := by decide +kernel
theorem dX11_node_111 : decode cX11_node 111 = .ok (.iaload, 1) := by decide +kernel
theorem dX11_node_112 : decode cX11_node 112 = .ok (.ireturn, 1) := by decide +kernel
theorem dX11_node_113 : decode cX11_node 113 = .ok (.aload_n 0, 1) := by decide +kernel
theorem dX11_node_114 : decode cX11_node 114 = .ok (.getfield 36, 3) := by decide +kernel
theorem dX11_node_117 : decode cX11_node 117 = .ok (.iload_n 1, 1) := by decide +kernel
theorem dX11_node_118 : decode cX11_node 118 = .ok (.iaload, 1) := by decide +kernel
theorem dX11_node_119 : decode cX11_node 119 = .ok (.aload_n 0, 1) := by decide +kernel
theorem dX11_node_120 : decode cX11_node 120 = .ok (.getfield 39, 3) := by decide +kernel
theorem dX11_node_123 : decode cX11_node 123 = .ok (.iload_n 1, 1) := by decide +kernel
theorem dX11_node_124 : decode cX11_node 124 = .ok (.iaload, 1) := by decide +kernel
theorem dX11_node_125 : decode cX11_node 125 = .ok (.isub, 1) := by decide +kernel
theorem dX11_node_126 : decode cX11_node 126 = .ok (.ireturn, 1) := by decide +kernel
theorem dX11_node_127 : decode cX11_node 127 = .ok (.aload_n 0, 1) := by decide +kernel
theorem dX11_node_128 : decode cX11_node 128 = .ok (.getfield 33, 3) := by decide +kernel
theorem dX11_node_131 : decode cX11_node 131 = .ok (.iload_n 1, 1) := by decide +kernel
theorem dX11_node_132 : decode cX11_node 132 = .ok (.iaload, 1) := by decide +kernel
theorem dX11_node_133 : decode cX11_node 133 = .ok (.ireturn, 1) := by decide +kernel
theorem dX11_node_134 : decode cX11_node 134 = .ok (.iconst 0, 1) := by decide +kernel
theorem dX11_node_135 : decode cX11_node 135 = .ok (.istore 4, 2) := by decide +kernel
theorem dX11_node_137 : decode cX11_node 137 = .ok (.iload 4, 2) := by decide +kernel
theorem dX11_node_139 : decode cX11_node 139 = .ok (.sipush 640, 3) := by decide +kernel
theorem dX11_node_142 : decode cX11_node 142 = .ok (.if_icmp .ge 33, 3) := by decide +kernel
theorem dX11_node_145 : decode cX11_node 145 = .ok (.aload_n 0, 1) := by decide +kernel
theorem dX11_node_146 : decode cX11_node 146 = .ok (.getfield 24, 3) := by decide +kernel
theorem dX11_node_149 : decode cX11_node 149 = .ok (.sipush 640, 3) := by decide +kernel
theorem dX11_node_152 : decode cX11_node 152 = .ok (.iload_n 1, 1) := by decide +kernel
theorem dX11_node_153 : decode cX11_node 153 = .ok (.imul, 1) := by decide +kernel
theorem dX11_node_154 : decode cX11_node 154 = .ok (.iload 4, 2) := by decide +kernel
theorem dX11_node_156 : decode cX11_node 156 = .ok (.iadd, 1) := by decide +kernel
theorem dX11_node_157 : decode cX11_node 157 = .ok (.baload, 1) := by decide +kernel
theorem dX11_node_158 : decode cX11_node 158 = .ok (.ifCond .eq 9, 3) := by decide +kernel
theorem dX11_node_161 : decode cX11_node 161 = .ok (.iload_n 3, 1) := by decide +kernel
theorem dX11_node_162 : decode cX11_node 162 = .ok (.iconst 1, 1) := by decide +kernel
theorem dX11_node_163 : decode cX11_node 163 = .ok (.iadd, 1) := by decide +kernel
theorem dX11_node_164 : decode cX11_node 164 = .ok (.goto 4, 3) := by decide +kernel
theorem dX11_node_167 : decode cX11_node 167 = .ok (.iload_n 3, 1) := by decide +kernel
theorem dX11_node_168 : decode cX11_node 168 = .ok (.istore_n 3, 1) := by decide +kernel
theorem dX11_node_169 : decode cX11_node 169 = .ok (.iinc 4 1, 3) := by decide +kernel
theorem dX11_node_172 : decode cX11_node 172 = .ok (.goto (-35), 3) := by decide +kernel
theorem dX11_node_175 : decode cX11_node 175 = .ok (.iload_n 3, 1) := by decide +kernel
theorem dX11_node_176 : decode cX11_node 176 = .ok (.ireturn, 1) := by decide +kernel
theorem dX11_node_177 : decode cX11_node 177 = .ok (.aload_n 0, 1) := by decide +kernel
theorem dX11_node_178 : decode cX11_node 178 = .ok (.getfield 36, 3) := by decide +kernel
theorem dX11_node_181 : decode cX11_node 181 = .ok (.iload_n 1, 1) := by decide +kernel
theorem dX11_node_182 : decode cX11_node 182 = .ok (.iaload, 1) := by decide +kernel
theorem dX11_node_183 : decode cX11_node 183 = .ok (.ifCond .le 22, 3) := by decide +kernel
theorem dX11_node_186 : decode cX11_node 186 = .ok (.aload_n 0, 1) := by decide +kernel
theorem dX11_node_187 : decode cX11_node 187 = .ok (.getfield 42, 3) := by decide +kernel
theorem dX11_node_190 : decode cX11_node 190 = .ok (.bipush 36, 2) := by decide +kernel
theorem dX11_node_192 : decode cX11_node 192 = .ok (.iload_n 1, 1) := by decide +kernel
theorem dX11_node_193 : decode cX11_node 193 = .ok (.imul, 1) := by decide +kernel
theorem dX11_node_194 : decode cX11_node 194 = .ok (.aload_n 0, 1) := by decide +kernel
theorem dX11_node_195 : decode cX11_node 195 = .ok (.getfield 39, 3) := by decide +kernel
theorem dX11_node_198 : decode cX11_node 198 = .ok (.iload_n 1, 1) := by decide +kernel
theorem dX11_node_199 : decode cX11_node 199 = .ok (.iaload, 1) := by decide +kernel
theorem dX11_node_200 : decode cX11_node 200 = .ok (.iadd, 1) := by decide +kernel
theorem dX11_node_201 : decode cX11_node 201 = .ok (.iaload, 1) := by decide +kernel
theorem dX11_node_202 : decode cX11_node 202 = .ok (.goto 4, 3) := by decide +kernel
theorem dX11_node_205 : decode cX11_node 205 = .ok (.iconst (-1), 1) := by decide +kernel
theorem dX11_node_206 : decode cX11_node 206 = .ok (.ireturn, 1) := by decide +kernel
theorem dX11_asRecovered_0 : decode cX11_asRecovered 0 = .ok (.iconst 0, 1) := by decide +kernel
theorem dX11_asRecovered_1 : decode cX11_asRecovered 1 = .ok (.istore_n 1, 1) := by decide +kernel
theorem dX11_asRecovered_2 : decode cX11_asRecovered 2 = .ok (.iload_n 1, 1) := by decide +kernel
theorem dX11_asRecovered_3 : decode cX11_asRecovered 3 = .ok (.sipush 10240, 3) := by decide +kernel
theorem dX11_asRecovered_6 : decode cX11_asRecovered 6 = .ok (.if_icmp .ge 21, 3) := by decide +kernel
theorem dX11_asRecovered_9 : decode cX11_asRecovered 9 = .ok (.aload_n 0, 1) := by decide +kernel
theorem dX11_asRecovered_10 : decode cX11_asRecovered 10 = .ok (.getfield 162, 3) := by decide +kernel
theorem dX11_asRecovered_13 : decode cX11_asRecovered 13 = .ok (.iload_n 1, 1) := by decide +kernel
theorem dX11_asRecovered_14 : decode cX11_asRecovered 14 = .ok (.aload_n 0, 1) := by decide +kernel
theorem dX11_asRecovered_15 : decode cX11_asRecovered 15 = .ok (.getfield 7, 3) := by decide +kernel
theorem dX11_asRecovered_18 : decode cX11_asRecovered 18 = .ok (.iload_n 1, 1) := by decide +kernel
theorem dX11_asRecovered_19 : decode cX11_asRecovered 19 = .ok (.iaload, 1) := by decide +kernel
theorem dX11_asRecovered_20 : decode cX11_asRecovered 20 = .ok (.iastore, 1) := by decide +kernel
theorem dX11_asRecovered_21 : decode cX11_asRecovered 21 = .ok (.iinc 1 1, 3) := by decide +kernel
theorem dX11_asRecovered_24 : decode cX11_asRecovered 24 = .ok (.goto (-22), 3) := by decide +kernel
theorem dX11_asRecovered_27 : decode cX11_asRecovered 27 = .ok (.iconst 0, 1) := by decide +kernel
theorem dX11_asRecovered_28 : decode cX11_asRecovered 28 = .ok (.istore_n 1, 1) := by decide +kernel
theorem dX11_asRecovered_29 : decode cX11_asRecovered 29 = .ok (.iload_n 1, 1) := by decide +kernel
theorem dX11_asRecovered_30 : decode cX11_asRecovered 30 = .ok (.aload_n 0, 1) := by decide +kernel
theorem dX11_asRecovered_31 : decode cX11_asRecovered 31 = .ok (.getfield 177, 3) := by decide +kernel
theorem dX11_asRecovered_34 : decode cX11_asRecovered 34 = .ok (.if_icmp .ge 133, 3) := by decide +kernel
theorem dX11_asRecovered_37 : decode cX11_asRecovered 37 = .ok (.iconst 1, 1) := by decide +kernel
theorem dX11_asRecovered_38 : decode cX11_asRecovered 38 = .ok (.bipush 24, 2) := by decide +kernel
theorem dX11_asRecovered_40 : decode cX11_asRecovered 40 = .ok (.iload_n 1, 1) := by decide +kernel
theorem dX11_asRecovered_41 : decode cX11_asRecovered 41 = .ok (.imul, 1) := by decide +kernel
theorem dX11_asRecovered_42 : decode cX11_asRecovered 42 = .ok (.iadd, 1) := by decide +kernel
theorem dX11_asRecovered_43 : decode cX11_asRecovered 43 = .ok (.istore_n 2, 1) := by decide +kernel
theorem dX11_asRecovered_44 : decode cX11_asRecovered 44 = .ok (.aload_n 0, 1) := by decide +kernel
theorem dX11_asRecovered_45 : decode cX11_asRecovered 45 = .ok (.getfield 17, 3) := by decide +kernel
theorem dX11_asRecovered_48 : decode cX11_asRecovered 48 = .ok (.iload_n 1, 1) := by decide +kernel
theorem dX11_asRecovered_49 : decode cX11_asRecovered 49 = .ok (.baload, 1) := by decide +kernel
theorem dX11_asRecovered_50 : decode cX11_asRecovered 50 = .ok (.ifCond .eq 32, 3) := by decide +kernel
theorem dX11_asRecovered_53 : decode cX11_asRecovered 53 = .ok (.aload_n 0, 1) := by decide +kernel
theorem dX11_asRecovered_54 : decode cX11_asRecovered 54 = .ok (.getfield 7, 3) := by decide +kernel
theorem dX11_asRecovered_57 : decode cX11_asRecovered 57 = .ok (.bipush 16, 2) := by decide +kernel
theorem dX11_asRecovered_59 : decode cX11_asRecovered 59 = .ok (.iload_n 2, 1) := by decide +kernel
theorem dX11_asRecovered_60 : decode cX11_asRecovered 60 = .ok (.imul, 1) := by decide +kernel
theorem dX11_asRecovered_61 : decode cX11_asRecovered 61 = .ok (.iconst 2, 1) := by decide +kernel
theorem dX11_asRecovered_62 : decode cX11_asRecovered 62 = .ok (.iadd, 1) := by decide +kernel
theorem dX11_asRecovered_63 : decode cX11_asRecovered 63 = .ok (.iaload, 1) := by decide +kernel
theorem dX11_asRecovered_64 : decode cX11_asRecovered 64 = .ok (.iconst 1, 1) := by decide +kernel
theorem dX11_asRecovered_65 : decode cX11_asRecovered 65 = .ok (.if_icmp .ne 17, 3) := by decide +kernel
theorem dX11_asRecovered_68 : decode cX11_asRecovered 68 = .ok (.aload_n 0, 1) := by decide +kernel
theorem dX11_asRecovered_69 : decode cX11_asRecovered 69 = .ok (.getfield 7, 3) := by decide +kernel
theorem dX11_asRecovered_72 : decode cX11_asRecovered 72 = .ok (.bipush 16, 2) := by decide +kernel
theorem dX11_asRecovered_74 : decode cX11_asRecovered 74 = .ok (.iload_n 2, 1) := by decide +kernel
theorem dX11_asRecovered_75 : decode cX11_asRecovered 75 = .ok (.imul, 1) := by decide +kernel
theorem dX11_asRecovered_76 : decode cX11_asRecovered 76 = .ok (.iconst 1, 1) := by decide +kernel
theorem dX11_asRecovered_77 : decode cX11_asRecovered 77 = .ok (.iadd, 1) := by decide +kernel
theorem dX11_asRecovered_78 : decode cX11_asRecovered 78 = .ok (.iaload, 1) := by decide +kernel
theorem dX11_asRecovered_79 : decode cX11_asRecovered 79 = .ok (.goto 4, 3) := by decide +kernel
theorem dX11_asRecovered_82 : decode cX11_asRecovered 82 = .ok (.iconst 0, 1) := by decide +kernel
theorem dX11_asRecovered_83 : decode cX11_asRecovered 83 = .ok (.istore_n 3, 1) := by decide +kernel
theorem dX11_asRecovered_84 : decode cX11_asRecovered 84 = .ok (.iconst 0, 1) := by decide +kernel
theorem dX11_asRecovered_85 : decode cX11_asRecovered 85 = .ok (.istore 4, 2) := by decide +kernel
theorem dX11_asRecovered_87 : decode cX11_asRecovered 87 = .ok (.iload 4, 2) := by decide +kernel
theorem dX11_asRecovered_89 : decode cX11_asRecovered 89 = .ok (.iload_n 3, 1) := by decide +kernel
theorem dX11_asRecovered_90 : decode cX11_asRecovered 90 = .ok (.if_icmp .ge 71, 3) := by decide +kernel
theorem dX11_asRecovered_93 : decode cX11_asRecovered 93 = .ok (.aload_n 0, 1) := by decide +kernel
theorem dX11_asRecovered_94 : decode cX11_asRecovered 94 = .ok (.getfield 7, 3) := by decide +kernel
theorem dX11_asRecovered_97 : decode cX11_asRecovered 97 = .ok (.bipush 16, 2) := by decide +kernel
theorem dX11_asRecovered_99 : decode cX11_asRecovered 99 = .ok (.iload_n 2, 1) := by decide +kernel
theorem dX11_asRecovered_100 : decode cX11_asRecovered 100 = .ok (.iconst 1, 1) := by decide +kernel
theorem dX11_asRecovered_101 : decode cX11_asRecovered 101 = .ok (.iadd, 1) := by decide +kernel
theorem dX11_asRecovered_102 : decode cX11_asRecovered 102 = .ok (.imul, 1) := by decide +kernel
theorem dX11_asRecovered_103 : decode cX11_asRecovered 103 = .ok (.iload 4, 2) := by decide +kernel
theorem dX11_asRecovered_105 : decode cX11_asRecovered 105 = .ok (.iadd, 1) := by decide +kernel
theorem dX11_asRecovered_106 : decode cX11_asRecovered 106 = .ok (.iaload, 1) := by decide +kernel
theorem dX11_asRecovered_107 : decode cX11_asRecovered 107 = .ok (.istore 5, 2) := by decide +kernel
theorem dX11_asRecovered_109 : decode cX11_asRecovered 109 = .ok (.iconst 0, 1) := by decide +kernel
theorem dX11_asRecovered_110 : decode cX11_asRecovered 110 = .ok (.istore 6, 2) := by decide +kernel
theorem dX11_asRecovered_112 : decode cX11_asRecovered 112 = .ok (.iload 6, 2) := by decide +kernel
theorem dX11_asRecovered_114 : decode cX11_asRecovered 114 = .ok (.bipush 16, 2) := by decide +kernel
theorem dX11_asRecovered_116 : decode cX11_asRecovered 116 = .ok (.if_icmp .ge 39, 3) := by decide +kernel
theorem dX11_asRecovered_119 : decode cX11_asRecovered 119 = .ok (.aload_n 0, 1) := by decide +kernel
theorem dX11_asRecovered_120 : decode cX11_asRecovered 120 = .ok (.getfield 162, 3) := by decide +kernel
theorem dX11_asRecovered_123 : decode cX11_asRecovered 123 = .ok (.bipush 16, 2) := by decide +kernel
theorem dX11_asRecovered_125 : decode cX11_asRecovered 125 = .ok (.iload 5, 2) := by decide +kernel
theorem dX11_asRecovered_127 : decode cX11_asRecovered 127 = .ok (.imul, 1) := by decide +kernel
theorem dX11_asRecovered_128 : decode cX11_asRecovered 128 = .ok (.iload 6, 2) := by decide +kernel
theorem dX11_asRecovered_130 : decode cX11_asRecovered 130 = .ok (.iadd, 1) := by decide +kernel
theorem dX11_asRecovered_131 : decode cX11_asRecovered 131 = .ok (.aload_n 0, 1) := by decide +kernel
theorem dX11_asRecovered_132 : decode cX11_asRecovered 132 = .ok (.getfield 7, 3) := by decide +kernel
theorem dX11_asRecovered_135 : decode cX11_asRecovered 135 = .ok (.bipush 16, 2) := by decide +kernel
theorem dX11_asRecovered_137 : decode cX11_asRecovered 137 = .ok (.iload_n 2, 1) := by decide +kernel
theorem dX11_asRecovered_138 : decode cX11_asRecovered 138 = .ok (.iconst 2, 1) := by decide +kernel
theorem dX11_asRecovered_139 : decode cX11_asRecovered 139 = .ok (.iadd, 1) := by decide +kernel
theorem dX11_asRecovered_140 : decode cX11_asRecovered 140 = .ok (.iload 4, 2) := by decide +kernel
theorem dX11_asRecovered_142 : decode cX11_asRecovered 142 = .ok (.iadd, 1) := by decide +kernel
theorem dX11_asRecovered_143 : decode cX11_asRecovered 143 = .ok (.imul, 1) := by decide +kernel
theorem dX11_asRecovered_144 : decode cX11_asRecovered 144 = .ok (.iload 6, 2) := by decide +kernel
theorem dX11_asRecovered_146 : decode cX11_asRecovered 146 = .ok (.iadd, 1) := by decide +kernel
theorem dX11_asRecovered_147 : decode cX11_asRecovered 147 = .ok (.iaload, 1) := by decide +kernel
theorem dX11_asRecovered_148 : decode cX11_asRecovered 148 = .ok (.iastore, 1) := by decide +kernel
theorem dX11_asRecovered_149 : decode cX11_asRecovered 149 = .ok (.iinc 6 1, 3) := by decide +kernel
theorem dX11_asRecovered_152 : decode cX11_asRecovered 152 = .ok (.goto (-40), 3) := by decide +kernel
theorem dX11_asRecovered_155 : decode cX11_asRecovered 155 = .ok (.iinc 4 1, 3) := by decide +kernel
theorem dX11_asRecovered_158 : decode cX11_asRecovered 158 = .ok (.goto (-71), 3) := by decide +kernel
theorem dX11_asRecovered_161 : decode cX11_asRecovered 161 = .ok (.iinc 1 1, 3) := by decide +kernel
theorem dX11_asRecovered_164 : decode cX11_asRecovered 164 = .ok (.goto (-135), 3) := by decide +kernel
theorem dX11_asRecovered_167 : decode cX11_asRecovered 167 = .ok (.return_, 1) := by decide +kernel
theorem dX11_allInode_0 : decode cX11_allInode 0 = .ok (.aload_n 0, 1) := by decide +kernel
theorem dX11_allInode_1 : decode cX11_allInode 1 = .ok (.getfield 162, 3) := by decide +kernel
theorem dX11_allInode_4 : decode cX11_allInode 4 = .ok (.bipush 16, 2) := by decide +kernel
theorem dX11_allInode_6 : decode cX11_allInode 6 = .ok (.iload_n 1, 1) := by decide +kernel
theorem dX11_allInode_7 : decode cX11_allInode 7 = .ok (.invokestatic 185, 3) := by decide +kernel
theorem dX11_allInode_10 : decode cX11_allInode 10 = .ok (.imul, 1) := by decide +kernel
theorem dX11_allInode_11 : decode cX11_allInode 11 = .ok (.iload_n 2, 1) := by decide +kernel
theorem dX11_allInode_12 : decode cX11_allInode 12 = .ok (.iadd, 1) := by decide +kernel
theorem dX11_allInode_13 : decode cX11_allInode 13 = .ok (.iaload, 1) := by decide +kernel
theorem dX11_allInode_14 : decode cX11_allInode 14 = .ok (.ireturn, 1) := by decide +kernel
theorem dX11_isData_0 : decode cX11_isData 0 = .ok (.iload_n 0, 1) := by decide +kernel
theorem dX11_isData_1 : decode cX11_isData 1 = .ok (.sipush 128, 3) := by decide +kernel
theorem dX11_isData_4 : decode cX11_isData 4 = .ok (.sipush 639, 3) := by decide +kernel
theorem dX11_isData_7 : decode cX11_isData 7 = .ok (.invokestatic 243, 3) := by decide +kernel
theorem dX11_isData_10 : decode cX11_isData 10 = .ok (.ifCond .eq 20, 3) := by decide +kernel
theorem dX11_isData_13 : decode cX11_isData 13 = .ok (.iload_n 0, 1) := by decide +kernel
theorem dX11_isData_14 : decode cX11_isData 14 = .ok (.sipush 128, 3) := by decide +kernel
theorem dX11_isData_17 : decode cX11_isData 17 = .ok (.isub, 1) := by decide +kernel
theorem dX11_isData_18 : decode cX11_isData 18 = .ok (.bipush 64, 2) := by decide +kernel
theorem dX11_isData_20 : decode cX11_isData 20 = .ok (.irem, 1) := by decide +kernel
theorem dX11_isData_21 : decode cX11_isData 21 = .ok (.bipush 16, 2) := by decide +kernel
theorem dX11_isData_23 : decode cX11_isData 23 = .ok (.if_icmp .le 7, 3) := by decide +kernel
theorem dX11_isData_26 : decode cX11_isData 26 = .ok (.iconst 1, 1) := by decide +kernel
theorem dX11_isData_27 : decode cX11_isData 27 = .ok (.goto 4, 3) := by decide +kernel
theorem dX11_isData_30 : decode cX11_isData 30 = .ok (.iconst 0, 1) := by decide +kernel
theorem dX11_isData_31 : decode cX11_isData 31 = .ok (.ireturn, 1) := by decide +kernel
theorem dX11_allWord_0 : decode cX11_allWord 0 = .ok (.iconst 0, 1) := by decide +kernel
theorem dX11_allWord_1 : decode cX11_allWord 1 = .ok (.istore_n 3, 1) := by decide +kernel
theorem dX11_allWord_2 : decode cX11_allWord 2 = .ok (.iload_n 2, 1) := by decide +kernel
theorem dX11_allWord_3 : decode cX11_allWord 3 = .ok (.sipush 128, 3) := by decide +kernel
theorem dX11_allWord_6 : decode cX11_allWord 6 = .ok (.if_icmp .ge 18, 3) := by decide +kernel
theorem dX11_allWord_9 : decode cX11_allWord 9 = .ok (.aload_n 0, 1) := by decide +kernel
theorem dX11_allWord_10 : decode cX11_allWord 10 = .ok (.iload_n 1, 1) := by decide +kernel
theorem dX11_allWord_11 : decode cX11_allWord 11 = .ok (.iconst 3, 1) := by decide +kernel
theorem dX11_allWord_12 : decode cX11_allWord 12 = .ok (.iload_n 2, 1) := by decide +kernel
theorem dX11_allWord_13 : decode cX11_allWord 13 = .ok (.bipush 16, 2) := by decide +kernel
theorem dX11_allWord_15 : decode cX11_allWord 15 = .ok (.idiv, 1) := by decide +kernel
theorem dX11_allWord_16 : decode cX11_allWord 16 = .ok (.iadd, 1) := by decide +kernel
theorem dX11_allWord_17 : decode cX11_allWord 17 = .ok (.invokevirtual 496, 3) := by decide +kernel
theorem dX11_allWord_20 : decode cX11_allWord 20 = .ok (.istore_n 3, 1) := by decide +kernel
theorem dX11_allWord_21 : decode cX11_allWord 21 = .ok (.goto 40, 3) := by decide +kernel
theorem dX11_allWord_24 : decode cX11_allWord 24 = .ok (.aload_n 0, 1) := by decide +kernel
theorem dX11_allWord_25 : decode cX11_allWord 25 = .ok (.iload_n 1, 1) := by decide +kernel
theorem dX11_allWord_26 : decode cX11_allWord 26 = .ok (.bipush 11, 2) := by decide +kernel
theorem dX11_allWord_28 : decode cX11_allWord 28 = .ok (.invokevirtual 496, 3) := by decide +kernel
theorem dX11_allWord_31 : decode cX11_allWord 31 = .ok (.invokestatic 499, 3) := by decide +kernel
theorem dX11_allWord_34 : decode cX11_allWord 34 = .ok (.ifCond .eq 27, 3) := by decide +kernel
theorem dX11_allWord_37 : decode cX11_allWord 37 = .ok (.aload_n 0, 1) := by decide +kernel
theorem dX11_allWord_38 : decode cX11_allWord 38 = .ok (.getfield 162, 3) := by decide +kernel
theorem dX11_allWord_41 : decode cX11_allWord 41 = .ok (.bipush 16, 2) := by decide +kernel
theorem dX11_allWord_43 : decode cX11_allWord 43 = .ok (.aload_n 0, 1) := by decide +kernel
theorem dX11_allWord_44 : decode cX11_allWord 44 = .ok (.iload_n 1, 1) := by decide +kernel
theorem dX11_allWord_45 : decode cX11_allWord 45 = .ok (.bipush 11, 2) := by decide +kernel
theorem dX11_allWord_47 : decode cX11_allWord 47 = .ok (.invokevirtual 496, 3) := by decide +kernel
theorem dX11_allWord_50 : decode cX11_allWord 50 = .ok (.imul, 1) := by decide +kernel
theorem dX11_allWord_51 : decode cX11_allWord 51 = .ok (.iload_n 2, 1) := by decide +kernel
theorem dX11_allWord_52 : decode cX11_allWord 52 = .ok (.bipush 16, 2) := by decide +kernel
theorem dX11_allWord_54 : decode cX11_allWord 54 = .ok (.idiv, 1) := by decide +kernel
theorem dX11_allWord_55 : decode cX11_allWord 55 = .ok (.iadd, 1) := by decide +kernel
theorem dX11_allWord_56 : decode cX11_allWord 56 = .ok (.bipush 8, 2) := by decide +kernel
theorem dX11_allWord_58 : decode cX11_allWord 58 = .ok (.isub, 1) := by decide +kernel
theorem dX11_allWord_59 : decode cX11_allWord 59 = .ok (.iaload, 1) := by decide +kernel
theorem dX11_allWord_60 : decode cX11_allWord 60 = .ok (.istore_n 3, 1) := by decide +kernel
theorem dX11_allWord_61 : decode cX11_allWord 61 = .ok (.iload_n 3, 1) := by decide +kernel
theorem dX11_allWord_62 : decode cX11_allWord 62 = .ok (.iconst 1, 1) := by decide +kernel
theorem dX11_allWord_63 : decode cX11_allWord 63 = .ok (.sipush 639, 3) := by decide +kernel
theorem dX11_allWord_66 : decode cX11_allWord 66 = .ok (.invokestatic 243, 3) := by decide +kernel
theorem dX11_allWord_69 : decode cX11_allWord 69 = .ok (.ifCond .eq 20, 3) := by decide +kernel
theorem dX11_allWord_72 : decode cX11_allWord 72 = .ok (.aload_n 0, 1) := by decide +kernel
theorem dX11_allWord_73 : decode cX11_allWord 73 = .ok (.getfield 162, 3) := by decide +kernel
theorem dX11_allWord_76 : decode cX11_allWord 76 = .ok (.bipush 16, 2) := by decide +kernel
theorem dX11_allWord_78 : decode cX11_allWord 78 = .ok (.iload_n 3, 1) := by decide +kernel
theorem dX11_allWord_79 : decode cX11_allWord 79 = .ok (.imul, 1) := by decide +kernel
theorem dX11_allWord_80 : decode cX11_allWord 80 = .ok (.iload_n 2, 1) := by decide +kernel
theorem dX11_allWord_81 : decode cX11_allWord 81 = .ok (.bipush 16, 2) := by decide +kernel
theorem dX11_allWord_83 : decode cX11_allWord 83 = .ok (.irem, 1) := by decide +kernel
theorem dX11_allWord_84 : decode cX11_allWord 84 = .ok (.iadd, 1) := by decide +kernel
theorem dX11_allWord_85 : decode cX11_allWord 85 = .ok (.iaload, 1) := by decide +kernel
theorem dX11_allWord_86 : decode cX11_allWord 86 = .ok (.goto 4, 3) := by decide +kernel
theorem dX11_allWord_89 : decode cX11_allWord 89 = .ok (.iconst 0, 1) := by decide +kernel
theorem dX11_allWord_90 : decode cX11_allWord 90 = .ok (.ireturn, 1) := by decide +kernel
theorem dX11_reach_0 : decode cX11_reach 0 = .ok (.iconst 0, 1) := by decide +kernel
theorem dX11_reach_1 : decode cX11_reach 1 = .ok (.istore_n 1, 1) := by decide +kernel
theorem dX11_reach_2 : decode cX11_reach 2 = .ok (.iload_n 1, 1) := by decide +kernel
theorem dX11_reach_3 : decode cX11_reach 3 = .ok (.sipush 128, 3) := by decide +kernel
theorem dX11_reach_6 : decode cX11_reach 6 = .ok (.if_icmp .ge 23, 3) := by decide +kernel
theorem dX11_reach_9 : decode cX11_reach 9 = .ok (.aload_n 0, 1) := by decide +kernel
theorem dX11_reach_10 : decode cX11_reach 10 = .ok (.getfield 165, 3) := by decide +kernel
theorem dX11_reach_13 : decode cX11_reach 13 = .ok (.iload_n 1, 1) := by decide +kernel
theorem dX11_reach_14 : decode cX11_reach 14 = .ok (.iconst 0, 1) := by decide +kernel
theorem dX11_reach_15 : decode cX11_reach 15 = .ok (.bastore, 1) := by decide +kernel
theorem dX11_reach_16 : decode cX11_reach 16 = .ok (.aload_n 0, 1) := by decide +kernel
theorem dX11_reach_17 : decode cX11_reach 17 = .ok (.getfield 168, 3) := by decide +kernel
theorem dX11_reach_20 : decode cX11_reach 20 = .ok (.iload_n 1, 1) := by decide +kernel
theorem dX11_reach_21 : decode cX11_reach 21 = .ok (.iconst 0, 1) := by decide +kernel
theorem dX11_reach_22 : decode cX11_reach 22 = .ok (.iastore, 1) := by decide +kernel
theorem dX11_reach_23 : decode cX11_reach 23 = .ok (.iinc 1 1, 3) := by decide +kernel
theorem dX11_reach_26 : decode cX11_reach 26 = .ok (.goto (-24), 3) := by decide +kernel
theorem dX11_reach_29 : decode cX11_reach 29 = .ok (.iconst 0, 1) := by decide +kernel
theorem dX11_reach_30 : decode cX11_reach 30 = .ok (.istore_n 1, 1) := by decide +kernel
theorem dX11_reach_31 : decode cX11_reach 31 = .ok (.iconst 1, 1) := by decide +kernel
theorem dX11_reach_32 : decode cX11_reach 32 = .ok (.istore_n 2, 1) := by decide +kernel
theorem dX11_reach_33 : decode cX11_reach 33 = .ok (.aload_n 0, 1) := by decide +kernel
theorem dX11_reach_34 : decode cX11_reach 34 = .ok (.getfield 171, 3) := by decide +kernel
theorem dX11_reach_37 : decode cX11_reach 37 = .ok (.iconst 0, 1) := by decide +kernel
theorem dX11_reach_38 : decode cX11_reach 38 = .ok (.iconst 0, 1) := by decide +kernel
theorem dX11_reach_39 : decode cX11_reach 39 = .ok (.iastore, 1) := by decide +kernel
theorem dX11_reach_40 : decode cX11_reach 40 = .ok (.aload_n 0, 1) := by decide +kernel
theorem dX11_reach_41 : decode cX11_reach 41 = .ok (.getfield 165, 3) := by decide +kernel
theorem dX11_reach_44 : decode cX11_reach 44 = .ok (.iconst 0, 1) := by decide +kernel
theorem dX11_reach_45 : decode cX11_reach 45 = .ok (.iconst 1, 1) := by decide +kernel
theorem dX11_reach_46 : decode cX11_reach 46 = .ok (.bastore, 1) := by decide +kernel
theorem dX11_reach_47 : decode cX11_reach 47 = .ok (.iconst 0, 1) := by decide +kernel
theorem dX11_reach_48 : decode cX11_reach 48 = .ok (.istore_n 3, 1) := by decide +kernel
theorem dX11_reach_49 : decode cX11_reach 49 = .ok (.iload_n 3, 1) := by decide +kernel
theorem dX11_reach_50 : decode cX11_reach 50 = .ok (.iload_n 2, 1) := by decide +kernel
theorem dX11_reach_51 : decode cX11_reach 51 = .ok (.if_icmp .ge 150, 3) := by decide +kernel
theorem dX11_reach_54 : decode cX11_reach 54 = .ok (.aload_n 0, 1) := by decide +kernel
theorem dX11_reach_55 : decode cX11_reach 55 = .ok (.getfield 171, 3) := by decide +kernel
theorem dX11_reach_58 : decode cX11_reach 58 = .ok (.iload_n 3, 1) := by decide +kernel
theorem dX11_reach_59 : decode cX11_reach 59 = .ok (.iaload, 1) := by decide +kernel
theorem dX11_reach_60 : decode cX11_reach 60 = .ok (.istore 4, 2) := by decide +kernel
theorem dX11_reach_62 : decode cX11_reach 62 = .ok (.aload_n 0, 1) := by decide +kernel
theorem dX11_reach_63 : decode cX11_reach 63 = .ok (.iload 4, 2) := by decide +kernel
theorem dX11_reach_65 : decode cX11_reach 65 = .ok (.iconst 2, 1) := by decide +kernel
theorem dX11_reach_66 : decode cX11_reach 66 = .ok (.invokevirtual 496, 3) := by decide +kernel
theorem dX11_reach_69 : decode cX11_reach 69 = .ok (.istore 5, 2) := by decide +kernel
theorem dX11_reach_71 : decode cX11_reach 71 = .ok (.iconst 0, 1) := by decide +kernel
theorem dX11_reach_72 : decode cX11_reach 72 = .ok (.istore 6, 2) := by decide +kernel
theorem dX11_reach_74 : decode cX11_reach 74 = .ok (.aload_n 0, 1) := by decide +kernel
theorem dX11_reach_75 : decode cX11_reach 75 = .ok (.iload 4, 2) := by decide +kernel
theorem dX11_reach_77 : decode cX11_reach 77 = .ok (.iconst 0, 1) := by decide +kernel
theorem dX11_reach_78 : decode cX11_reach 78 = .ok (.invokevirtual 496, 3) := by decide +kernel
theorem dX11_reach_81 : decode cX11_reach 81 = .ok (.iconst 2, 1) := by decide +kernel
theorem dX11_reach_82 : decode cX11_reach 82 = .ok (.if_icmp .ne 113, 3) := by decide +kernel
theorem dX11_reach_85 : decode cX11_reach 85 = .ok (.iload 6, 2) := by decide +kernel
theorem dX11_reach_87 : decode cX11_reach 87 = .ok (.iload 5, 2) := by decide +kernel
theorem dX11_reach_89 : decode cX11_reach 89 = .ok (.if_icmp .ge 106, 3) := by decide +kernel
theorem dX11_reach_92 : decode cX11_reach 92 = .ok (.iload 6, 2) := by decide +kernel
theorem dX11_reach_94 : decode cX11_reach 94 = .ok (.sipush 384, 3) := by decide +kernel
theorem dX11_reach_97 : decode cX11_reach 97 = .ok (.if_icmp .ge 98, 3) := by decide +kernel
theorem dX11_reach_100 : decode cX11_reach 100 = .ok (.aload_n 0, 1) := by decide +kernel
theorem dX11_reach_101 : decode cX11_reach 101 = .ok (.iload 4, 2) := by decide +kernel
theorem dX11_reach_103 : decode cX11_reach 103 = .ok (.iload 6, 2) := by decide +kernel
theorem dX11_reach_105 : decode cX11_reach 105 = .ok (.invokevirtual 502, 3) := by decide +kernel
theorem dX11_reach_108 : decode cX11_reach 108 = .ok (.ifCond .ne 6, 3) := by decide +kernel
theorem dX11_reach_111 : decode cX11_reach 111 = .ok (.goto 78, 3) := by decide +kernel
theorem dX11_reach_114 : decode cX11_reach 114 = .ok (.aload_n 0, 1) := by decide +kernel
theorem dX11_reach_115 : decode cX11_reach 115 = .ok (.iload 4, 2) := by decide +kernel
theorem dX11_reach_117 : decode cX11_reach 117 = .ok (.iload 6, 2) := by decide +kernel
theorem dX11_reach_119 : decode cX11_reach 119 = .ok (.iconst 1, 1) := by decide +kernel
theorem dX11_reach_120 : decode cX11_reach 120 = .ok (.iadd, 1) := by decide +kernel
theorem dX11_reach_121 : decode cX11_reach 121 = .ok (.invokevirtual 502, 3) := by decide +kernel
theorem dX11_reach_124 : decode cX11_reach 124 = .ok (.istore 7, 2) := by decide +kernel
theorem dX11_reach_126 : decode cX11_reach 126 = .ok (.iload 7, 2) := by decide +kernel
theorem dX11_reach_128 : decode cX11_reach 128 = .ok (.invokestatic 431, 3) := by decide +kernel
theorem dX11_reach_131 : decode cX11_reach 131 = .ok (.ifCond .eq 13, 3) := by decide +kernel
theorem dX11_reach_134 : decode cX11_reach 134 = .ok (.aload_n 0, 1) := by decide +kernel
theorem dX11_reach_135 : decode cX11_reach 135 = .ok (.iload 7, 2) := by decide +kernel
theorem dX11_reach_137 : decode cX11_reach 137 = .ok (.iconst 0, 1) := by decide +kernel
theorem dX11_reach_138 : decode cX11_reach 138 = .ok (.invokevirtual 496, 3) := by decide +kernel
theorem dX11_reach_141 : decode cX11_reach 141 = .ok (.ifCond .ne 8, 3) := by decide +kernel
theorem dX11_reach_144 : decode cX11_reach 144 = .ok (.iconst 1, 1) := by decide +kernel
theorem dX11_reach_145 : decode cX11_reach 145 = .ok (.istore_n 1, 1) := by decide +kernel
theorem dX11_reach_146 : decode cX11_reach 146 = .ok (.goto 43, 3) := by decide +kernel
theorem dX11_reach_149 : decode cX11_reach 149 = .ok (.aload_n 0, 1) := by decide +kernel
theorem dX11_reach_150 : decode cX11_reach 150 = .ok (.getfield 168, 3) := by decide +kernel
theorem dX11_reach_153 : decode cX11_reach 153 = .ok (.iload 7, 2) := by decide +kernel
theorem dX11_reach_155 : decode cX11_reach 155 = .ok (.dup2, 1) := by decide +kernel
theorem dX11_reach_156 : decode cX11_reach 156 = .ok (.iaload, 1) := by decide +kernel
theorem dX11_reach_157 : decode cX11_reach 157 = .ok (.iconst 1, 1) := by decide +kernel
theorem dX11_reach_158 : decode cX11_reach 158 = .ok (.iadd, 1) := by decide +kernel
theorem dX11_reach_159 : decode cX11_reach 159 = .ok (.iastore, 1) := by decide +kernel
theorem dX11_reach_160 : decode cX11_reach 160 = .ok (.aload_n 0, 1) := by decide +kernel
theorem dX11_reach_161 : decode cX11_reach 161 = .ok (.getfield 165, 3) := by decide +kernel
theorem dX11_reach_164 : decode cX11_reach 164 = .ok (.iload 7, 2) := by decide +kernel
theorem dX11_reach_166 : decode cX11_reach 166 = .ok (.baload, 1) := by decide +kernel
theorem dX11_reach_167 : decode cX11_reach 167 = .ok (.ifCond .ne 22, 3) := by decide +kernel
theorem dX11_reach_170 : decode cX11_reach 170 = .ok (.aload_n 0, 1) := by decide +kernel
theorem dX11_reach_171 : decode cX11_reach 171 = .ok (.getfield 165, 3) := by decide +kernel
theorem dX11_reach_174 : decode cX11_reach 174 = .ok (.iload 7, 2) := by decide +kernel
theorem dX11_reach_176 : decode cX11_reach 176 = .ok (.iconst 1, 1) := by decide +kernel
theorem dX11_reach_177 : decode cX11_reach 177 = .ok (.bastore, 1) := by decide +kernel
theorem dX11_reach_178 : decode cX11_reach 178 = .ok (.aload_n 0, 1) := by decide +kernel
theorem dX11_reach_179 : decode cX11_reach 179 = .ok (.getfield 171, 3) := by decide +kernel
theorem dX11_reach_182 : decode cX11_reach 182 = .ok (.iload_n 2, 1) := by decide +kernel
theorem dX11_reach_183 : decode cX11_reach 183 = .ok (.iload 7, 2) := by decide +kernel
theorem dX11_reach_185 : decode cX11_reach 185 = .ok (.iastore, 1) := by decide +kernel
theorem dX11_reach_186 : decode cX11_reach 186 = .ok (.iinc 2 1, 3) := by decide +kernel
theorem dX11_reach_189 : decode cX11_reach 189 = .ok (.iinc 6 2, 3) := by decide +kernel
theorem dX11_reach_192 : decode cX11_reach 192 = .ok (.goto (-118), 3) := by decide +kernel
theorem dX11_reach_195 : decode cX11_reach 195 = .ok (.iinc 3 1, 3) := by decide +kernel
theorem dX11_reach_198 : decode cX11_reach 198 = .ok (.goto (-149), 3) := by decide +kernel
theorem dX11_reach_201 : decode cX11_reach 201 = .ok (.iload_n 1, 1) := by decide +kernel
theorem dX11_reach_202 : decode cX11_reach 202 = .ok (.ireturn, 1) := by decide +kernel
theorem dX11_hold_0 : decode cX11_hold 0 = .ok (.iload_n 1, 1) := by decide +kernel
theorem dX11_hold_1 : decode cX11_hold 1 = .ok (.invokestatic 499, 3) := by decide +kernel
theorem dX11_hold_4 : decode cX11_hold 4 = .ok (.ifCond .eq 16, 3) := by decide +kernel
theorem dX11_hold_7 : decode cX11_hold 7 = .ok (.aload_n 0, 1) := by decide +kernel
theorem dX11_hold_8 : decode cX11_hold 8 = .ok (.getfield 174, 3) := by decide +kernel
theorem dX11_hold_11 : decode cX11_hold 11 = .ok (.iload_n 1, 1) := by decide +kernel
theorem dX11_hold_12 : decode cX11_hold 12 = .ok (.dup2, 1) := by decide +kernel
theorem dX11_hold_13 : decode cX11_hold 13 = .ok (.iaload, 1) := by decide +kernel
theorem dX11_hold_14 : decode cX11_hold 14 = .ok (.iconst 1, 1) := by decide +kernel
theorem dX11_hold_15 : decode cX11_hold 15 = .ok (.iadd, 1) := by decide +kernel
theorem dX11_hold_16 : decode cX11_hold 16 = .ok (.iastore, 1) := by decide +kernel
theorem dX11_hold_17 : decode cX11_hold 17 = .ok (.goto 17, 3) := by decide +kernel
theorem dX11_hold_20 : decode cX11_hold 20 = .ok (.iload_n 1, 1) := by decide +kernel
theorem dX11_hold_21 : decode cX11_hold 21 = .ok (.ifCond .eq 13, 3) := by decide +kernel
theorem dX11_hold_24 : decode cX11_hold 24 = .ok (.aload_n 0, 1) := by decide +kernel
theorem dX11_hold_25 : decode cX11_hold 25 = .ok (.getfield 174, 3) := by decide +kernel
theorem dX11_hold_28 : decode cX11_hold 28 = .ok (.iconst 0, 1) := by decide +kernel
theorem dX11_hold_29 : decode cX11_hold 29 = .ok (.dup2, 1) := by decide +kernel
theorem dX11_hold_30 : decode cX11_hold 30 = .ok (.iaload, 1) := by decide +kernel
theorem dX11_hold_31 : decode cX11_hold 31 = .ok (.iconst 1, 1) := by decide +kernel
theorem dX11_hold_32 : decode cX11_hold 32 = .ok (.iadd, 1) := by decide +kernel
theorem dX11_hold_33 : decode cX11_hold 33 = .ok (.iastore, 1) := by decide +kernel
theorem dX11_hold_34 : decode cX11_hold 34 = .ok (.return_, 1) := by decide +kernel
theorem dX11_findHolders_0 : decode cX11_findHolders 0 = .ok (.iconst 0, 1) := by decide +kernel
theorem dX11_findHolders_1 : decode cX11_findHolders 1 = .ok (.istore_n 1, 1) := by decide +kernel
theorem dX11_findHolders_2 : decode cX11_findHolders 2 = .ok (.iload_n 1, 1) := by decide +kernel
theorem dX11_findHolders_3 : decode cX11_findHolders 3 = .ok (.sipush 640, 3) := by decide +kernel
theorem dX11_findHolders_6 : decode cX11_findHolders 6 = .ok (.if_icmp .ge 16, 3) := by decide +kernel
theorem dX11_findHolders_9 : decode cX11_findHolders 9 = .ok (.aload_n 0, 1) := by decide +kernel
theorem dX11_findHolders_10 : decode cX11_findHolders 10 = .ok (.getfield 174, 3) := by decide +kernel
theorem dX11_findHolders_13 : decode cX11_findHolders 13 = .ok (.iload_n 1, 1) := by decide +kernel
theorem dX11_findHolders_14 : decode cX11_findHolders 14 = .ok (.iconst 0, 1) := by decide +kernel
theorem dX11_findHolders_15 : decode cX11_findHolders 15 = .ok (.iastore, 1) := by decide +kernel
theorem dX11_findHolders_16 : decode cX11_findHolders 16 = .ok (.iinc 1 1, 3) := by decide +kernel
theorem dX11_findHolders_19 : decode cX11_findHolders 19 = .ok (.goto (-17), 3) := by decide +kernel
theorem dX11_findHolders_22 : decode cX11_findHolders 22 = .ok (.iconst 0, 1) := by decide +kernel
theorem dX11_findHolders_23 : decode cX11_findHolders 23 = .ok (.istore_n 1, 1) := by decide +kernel
theorem dX11_findHolders_24 : decode cX11_findHolders 24 = .ok (.iload_n 1, 1) := by decide +kernel
theorem dX11_findHolders_25 : decode cX11_findHolders 25 = .ok (.sipush 128, 3) := by decide +kernel
theorem dX11_findHolders_28 : decode cX11_findHolders 28 = .ok (.if_icmp .ge 89, 3) := by decide +kernel
theorem dX11_findHolders_31 : decode cX11_findHolders 31 = .ok (.aload_n 0, 1) := by decide +kernel
theorem dX11_findHolders_32 : decode cX11_findHolders 32 = .ok (.iload_n 1, 1) := by decide +kernel
theorem dX11_findHolders_33 : decode cX11_findHolders 33 = .ok (.iconst 0, 1) := by decide +kernel
theorem dX11_findHolders_34 : decode cX11_findHolders 34 = .ok (.invokevirtual 496, 3) := by decide +kernel
theorem dX11_findHolders_37 : decode cX11_findHolders 37 = .ok (.ifCond .ne 6, 3) := by decide +kernel
theorem dX11_findHolders_40 : decode cX11_findHolders 40 = .ok (.goto 71, 3) := by decide +kernel
theorem dX11_findHolders_43 : decode cX11_findHolders 43 = .ok (.iconst 3, 1) := by decide +kernel
theorem dX11_findHolders_44 : decode cX11_findHolders 44 = .ok (.istore_n 2, 1) := by decide +kernel
theorem dX11_findHolders_45 : decode cX11_findHolders 45 = .ok (.iload_n 2, 1) := by decide +kernel
theorem dX11_findHolders_46 : decode cX11_findHolders 46 = .ok (.bipush 11, 2) := by decide +kernel
theorem dX11_findHolders_48 : decode cX11_findHolders 48 = .ok (.if_icmp .gt 19, 3) := by decide +kernel
theorem dX11_findHolders_51 : decode cX11_findHolders 51 = .ok (.aload_n 0, 1) := by decide +kernel
theorem dX11_findHolders_52 : decode cX11_findHolders 52 = .ok (.aload_n 0, 1) := by decide +kernel
theorem dX11_findHolders_53 : decode cX11_findHolders 53 = .ok (.iload_n 1, 1) := by decide +kernel
theorem dX11_findHolders_54 : decode cX11_findHolders 54 = .ok (.iload_n 2, 1) := by decide +kernel
theorem dX11_findHolders_55 : decode cX11_findHolders 55 = .ok (.invokevirtual 496, 3) := by decide +kernel
theorem dX11_findHolders_58 : decode cX11_findHolders 58 = .ok (.invokevirtual 505, 3) := by decide +kernel
theorem dX11_findHolders_61 : decode cX11_findHolders 61 = .ok (.iinc 2 1, 3) := by decide +kernel
theorem dX11_findHolders_64 : decode cX11_findHolders 64 = .ok (.goto (-19), 3) := by decide +kernel
theorem dX11_findHolders_67 : decode cX11_findHolders 67 = .ok (.aload_n 0, 1) := by decide +kernel
theorem dX11_findHolders_68 : decode cX11_findHolders 68 = .ok (.iload_n 1, 1) := by decide +kernel
theorem dX11_findHolders_69 : decode cX11_findHolders 69 = .ok (.bipush 11, 2) := by decide +kernel
theorem dX11_findHolders_71 : decode cX11_findHolders 71 = .ok (.invokevirtual 496, 3) := by decide +kernel
theorem dX11_findHolders_74 : decode cX11_findHolders 74 = .ok (.istore_n 2, 1) := by decide +kernel
theorem dX11_findHolders_75 : decode cX11_findHolders 75 = .ok (.iconst 0, 1) := by decide +kernel
theorem dX11_findHolders_76 : decode cX11_findHolders 76 = .ok (.istore_n 3, 1) := by decide +kernel
theorem dX11_findHolders_77 : decode cX11_findHolders 77 = .ok (.iload_n 2, 1) := by decide +kernel
theorem dX11_findHolders_78 : decode cX11_findHolders 78 = .ok (.invokestatic 499, 3) := by decide +kernel
theorem dX11_findHolders_81 : decode cX11_findHolders 81 = .ok (.ifCond .eq 30, 3) := by decide +kernel
theorem dX11_findHolders_84 : decode cX11_findHolders 84 = .ok (.iload_n 3, 1) := by decide +kernel
theorem dX11_findHolders_85 : decode cX11_findHolders 85 = .ok (.bipush 16, 2) := by decide +kernel
theorem dX11_findHolders_87 : decode cX11_findHolders 87 = .ok (.if_icmp .ge 24, 3) := by decide +kernel
theorem dX11_findHolders_90 : decode cX11_findHolders 90 = .ok (.aload_n 0, 1) := by decide +kernel
theorem dX11_findHolders_91 : decode cX11_findHolders 91 = .ok (.aload_n 0, 1) := by decide +kernel
theorem dX11_findHolders_92 : decode cX11_findHolders 92 = .ok (.getfield 162, 3) := by decide +kernel
theorem dX11_findHolders_95 : decode cX11_findHolders 95 = .ok (.bipush 16, 2) := by decide +kernel
theorem dX11_findHolders_97 : decode cX11_findHolders 97 = .ok (.iload_n 2, 1) := by decide +kernel
theorem dX11_findHolders_98 : decode cX11_findHolders 98 = .ok (.imul, 1) := by decide +kernel
theorem dX11_findHolders_99 : decode cX11_findHolders 99 = .ok (.iload_n 3, 1) := by decide +kernel
theorem dX11_findHolders_100 : decode cX11_findHolders 100 = .ok (.iadd, 1) := by decide +kernel
theorem dX11_findHolders_101 : decode cX11_findHolders 101 = .ok (.iaload, 1) := by decide +kernel
theorem dX11_findHolders_102 : decode cX11_findHolders 102 = .ok (.invokevirtual 505, 3) := by decide +kernel
theorem dX11_findHolders_105 : decode cX11_findHolders 105 = .ok (.iinc 3 1, 3) := by decide +kernel
theorem dX11_findHolders_108 : decode cX11_findHolders 108 = .ok (.goto (-31), 3) := by decide +kernel
theorem dX11_findHolders_111 : decode cX11_findHolders 111 = .ok (.iinc 1 1, 3) := by decide +kernel
theorem dX11_findHolders_114 : decode cX11_findHolders 114 = .ok (.goto (-90), 3) := by decide +kernel
theorem dX11_findHolders_117 : decode cX11_findHolders 117 = .ok (.return_, 1) := by decide +kernel
theorem dX11_areMapsWrong_0 : decode cX11_areMapsWrong 0 = .ok (.iconst 0, 1) := by decide +kernel
theorem dX11_areMapsWrong_1 : decode cX11_areMapsWrong 1 = .ok (.istore_n 1, 1) := by decide +kernel
theorem dX11_areMapsWrong_2 : decode cX11_areMapsWrong 2 = .ok (.iconst 0, 1) := by decide +kernel
theorem dX11_areMapsWrong_3 : decode cX11_areMapsWrong 3 = .ok (.istore_n 2, 1) := by decide +kernel
theorem dX11_areMapsWrong_4 : decode cX11_areMapsWrong 4 = .ok (.iload_n 2, 1) := by decide +kernel
theorem dX11_areMapsWrong_5 : decode cX11_areMapsWrong 5 = .ok (.bipush 8, 2) := by decide +kernel
theorem dX11_areMapsWrong_7 : decode cX11_areMapsWrong 7 = .ok (.if_icmp .ge 168, 3) := by decide +kernel
theorem dX11_areMapsWrong_10 : decode cX11_areMapsWrong 10 = .ok (.iconst 0, 1) := by decide +kernel
theorem dX11_areMapsWrong_11 : decode cX11_areMapsWrong 11 = .ok (.istore_n 3, 1) := by decide +kernel
theorem dX11_areMapsWrong_12 : decode cX11_areMapsWrong 12 = .ok (.iload_n 3, 1) := by decide +kernel
theorem dX11_areMapsWrong_13 : decode cX11_areMapsWrong 13 = .ok (.bipush 16, 2) := by decide +kernel
theorem dX11_areMapsWrong_15 : decode cX11_areMapsWrong 15 = .ok (.if_icmp .ge 70, 3) := by decide +kernel
theorem dX11_areMapsWrong_18 : decode cX11_areMapsWrong 18 = .ok (.aload_n 0, 1) := by decide +kernel
theorem dX11_areMapsWrong_19 : decode cX11_areMapsWrong 19 = .ok (.getfield 162, 3) := by decide +kernel
theorem dX11_areMapsWrong_22 : decode cX11_areMapsWrong 22 = .ok (.bipush 16, 2) := by decide +kernel
theorem dX11_areMapsWrong_24 : decode cX11_areMapsWrong 24 = .ok (.iload_n 2, 1) := by decide +kernel
theorem dX11_areMapsWrong_25 : decode cX11_areMapsWrong 25 = .ok (.invokestatic 181, 3) := by decide +kernel
theorem dX11_areMapsWrong_28 : decode cX11_areMapsWrong 28 = .ok (.imul, 1) := by decide +kernel
theorem dX11_areMapsWrong_29 : decode cX11_areMapsWrong 29 = .ok (.iaload, 1) := by decide +kernel
theorem dX11_areMapsWrong_30 : decode cX11_areMapsWrong 30 = .ok (.iload_n 3, 1) := by decide +kernel
theorem dX11_areMapsWrong_31 : decode cX11_areMapsWrong 31 = .ok (.ishr, 1) := by decide +kernel
theorem dX11_areMapsWrong_32 : decode cX11_areMapsWrong 32 = .ok (.iconst 1, 1) := by decide +kernel
theorem dX11_areMapsWrong_33 : decode cX11_areMapsWrong 33 = .ok (.iand, 1) := by decide +kernel
theorem dX11_areMapsWrong_34 : decode cX11_areMapsWrong 34 = .ok (.iconst 1, 1) := by decide +kernel
theorem dX11_areMapsWrong_35 : decode cX11_areMapsWrong 35 = .ok (.if_icmp .ne 7, 3) := by decide +kernel
theorem dX11_areMapsWrong_38 : decode cX11_areMapsWrong 38 = .ok (.iconst 1, 1) := by decide +kernel
theorem dX11_areMapsWrong_39 : decode cX11_areMapsWrong 39 = .ok (.goto 4, 3) := by decide +kernel
theorem dX11_areMapsWrong_42 : decode cX11_areMapsWrong 42 = .ok (.iconst 0, 1) := by decide +kernel
theorem dX11_areMapsWrong_43 : decode cX11_areMapsWrong 43 = .ok (.istore 4, 2) := by decide +kernel
theorem dX11_areMapsWrong_45 : decode cX11_areMapsWrong 45 = .ok (.iload_n 1, 1) := by decide +kernel
theorem dX11_areMapsWrong_46 : decode cX11_areMapsWrong 46 = .ok (.ifCond .ne 27, 3) := by decide +kernel
theorem dX11_areMapsWrong_49 : decode cX11_areMapsWrong 49 = .ok (.iload 4, 2) := by decide +kernel
theorem dX11_areMapsWrong_51 : decode cX11_areMapsWrong 51 = .ok (.aload_n 0, 1) := by decide +kernel
theorem dX11_areMapsWrong_52 : decode cX11_areMapsWrong 52 = .ok (.bipush 16, 2) := by decide +kernel
theorem dX11_areMapsWrong_54 : decode cX11_areMapsWrong 54 = .ok (.iload_n 2, 1) := by decide +kernel
theorem dX11_areMapsWrong_55 : decode cX11_areMapsWrong 55 = .ok (.imul, 1) := by decide +kernel
theorem dX11_areMapsWrong_56 : decode cX11_areMapsWrong 56 = .ok (.iload_n 3, 1) := by decide +kernel
theorem dX11_areMapsWrong_57 : decode cX11_areMapsWrong 57 = .ok (.iadd, 1) := by decide +kernel
theorem dX11_areMapsWrong_58 : decode cX11_areMapsWrong 58 = .ok (.iconst 0, 1) := by decide +kernel
theorem dX11_areMapsWrong_59 : decode cX11_areMapsWrong 59 = .ok (.invokevirtual 496, 3) := by decide +kernel
theorem dX11_areMapsWrong_62 : decode cX11_areMapsWrong 62 = .ok (.ifCond .eq 7, 3) := by decide +kernel
theorem dX11_areMapsWrong_65 : decode cX11_areMapsWrong 65 = .ok (.iconst 1, 1) := by decide +kernel
theorem dX11_areMapsWrong_66 : decode cX11_areMapsWrong 66 = .ok (.goto 4, 3) := by decide +kernel
theorem dX11_areMapsWrong_69 : decode cX11_areMapsWrong 69 = .ok (.iconst 0, 1) := by decide +kernel
theorem dX11_areMapsWrong_70 : decode cX11_areMapsWrong 70 = .ok (.if_icmp .eq 7, 3) := by decide +kernel
theorem dX11_areMapsWrong_73 : decode cX11_areMapsWrong 73 = .ok (.iconst 1, 1) := by decide +kernel
theorem dX11_areMapsWrong_74 : decode cX11_areMapsWrong 74 = .ok (.goto 4, 3) := by decide +kernel
theorem dX11_areMapsWrong_77 : decode cX11_areMapsWrong 77 = .ok (.iconst 0, 1) := by decide +kernel
theorem dX11_areMapsWrong_78 : decode cX11_areMapsWrong 78 = .ok (.istore_n 1, 1) := by decide +kernel
theorem dX11_areMapsWrong_79 : decode cX11_areMapsWrong 79 = .ok (.iinc 3 1, 3) := by decide +kernel
theorem dX11_areMapsWrong_82 : decode cX11_areMapsWrong 82 = .ok (.goto (-70), 3) := by decide +kernel
theorem dX11_areMapsWrong_85 : decode cX11_areMapsWrong 85 = .ok (.iconst 0, 1) := by decide +kernel
theorem dX11_areMapsWrong_86 : decode cX11_areMapsWrong 86 = .ok (.istore_n 3, 1) := by decide +kernel
theorem dX11_areMapsWrong_87 : decode cX11_areMapsWrong 87 = .ok (.iload_n 3, 1) := by decide +kernel
theorem dX11_areMapsWrong_88 : decode cX11_areMapsWrong 88 = .ok (.bipush 47, 2) := by decide +kernel
theorem dX11_areMapsWrong_90 : decode cX11_areMapsWrong 90 = .ok (.if_icmp .ge 79, 3) := by decide +kernel
theorem dX11_areMapsWrong_93 : decode cX11_areMapsWrong 93 = .ok (.aload_n 0, 1) := by decide +kernel
theorem dX11_areMapsWrong_94 : decode cX11_areMapsWrong 94 = .ok (.getfield 162, 3) := by decide +kernel
theorem dX11_areMapsWrong_97 : decode cX11_areMapsWrong 97 = .ok (.bipush 16, 2) := by decide +kernel
theorem dX11_areMapsWrong_99 : decode cX11_areMapsWrong 99 = .ok (.iload_n 2, 1) := by decide +kernel
theorem dX11_areMapsWrong_100 : decode cX11_areMapsWrong 100 = .ok (.invokestatic 181, 3) := by decide +kernel
theorem dX11_areMapsWrong_103 : decode cX11_areMapsWrong 103 = .ok (.imul, 1) := by decide +kernel
theorem dX11_areMapsWrong_104 : decode cX11_areMapsWrong 104 = .ok (.iconst 1, 1) := by decide +kernel
theorem dX11_areMapsWrong_105 : decode cX11_areMapsWrong 105 = .ok (.iadd, 1) := by decide +kernel
theorem dX11_areMapsWrong_106 : decode cX11_areMapsWrong 106 = .ok (.iload_n 3, 1) := by decide +kernel
theorem dX11_areMapsWrong_107 : decode cX11_areMapsWrong 107 = .ok (.bipush 32, 2) := by decide +kernel
theorem dX11_areMapsWrong_109 : decode cX11_areMapsWrong 109 = .ok (.idiv, 1) := by decide +kernel
theorem dX11_areMapsWrong_110 : decode cX11_areMapsWrong 110 = .ok (.iadd, 1) := by decide +kernel
theorem dX11_areMapsWrong_111 : decode cX11_areMapsWrong 111 = .ok (.iaload, 1) := by decide +kernel
theorem dX11_areMapsWrong_112 : decode cX11_areMapsWrong 112 = .ok (.iload_n 3, 1) := by decide +kernel
theorem dX11_areMapsWrong_113 : decode cX11_areMapsWrong 113 = .ok (.bipush 32, 2) := by decide +kernel
theorem dX11_areMapsWrong_115 : decode cX11_areMapsWrong 115 = .ok (.irem, 1) := by decide +kernel
theorem dX11_areMapsWrong_116 : decode cX11_areMapsWrong 116 = .ok (.ishr, 1) := by decide +kernel
theorem dX11_areMapsWrong_117 : decode cX11_areMapsWrong 117 = .ok (.iconst 1, 1) := by decide +kernel
theorem dX11_areMapsWrong_118 : decode cX11_areMapsWrong 118 = .ok (.iand, 1) := by decide +kernel
theorem dX11_areMapsWrong_119 : decode cX11_areMapsWrong 119 = .ok (.iconst 1, 1) := by decide +kernel
theorem dX11_areMapsWrong_120 : decode cX11_areMapsWrong 120 = .ok (.if_icmp .ne 7, 3) := by decide +kernel
theorem dX11_areMapsWrong_123 : decode cX11_areMapsWrong 123 = .ok (.iconst 1, 1) := by decide +kernel
theorem dX11_areMapsWrong_124 : decode cX11_areMapsWrong 124 = .ok (.goto 4, 3) := by decide +kernel
theorem dX11_areMapsWrong_127 : decode cX11_areMapsWrong 127 = .ok (.iconst 0, 1) := by decide +kernel
theorem dX11_areMapsWrong_128 : decode cX11_areMapsWrong 128 = .ok (.istore 4, 2) := by decide +kernel
theorem dX11_areMapsWrong_130 : decode cX11_areMapsWrong 130 = .ok (.iload_n 1, 1) := by decide +kernel
theorem dX11_areMapsWrong_131 : decode cX11_areMapsWrong 131 = .ok (.ifCond .ne 26, 3) := by decide +kernel
theorem dX11_areMapsWrong_134 : decode cX11_areMapsWrong 134 = .ok (.iload 4, 2) := by decide +kernel
theorem dX11_areMapsWrong_136 : decode cX11_areMapsWrong 136 = .ok (.aload_n 0, 1) := by decide +kernel
theorem dX11_areMapsWrong_137 : decode cX11_areMapsWrong 137 = .ok (.getfield 174, 3) := by decide +kernel
theorem dX11_areMapsWrong_140 : decode cX11_areMapsWrong 140 = .ok (.iload_n 2, 1) := by decide +kernel
theorem dX11_areMapsWrong_141 : decode cX11_areMapsWrong 141 = .ok (.iload_n 3, 1) := by decide +kernel
theorem dX11_areMapsWrong_142 : decode cX11_areMapsWrong 142 = .ok (.invokestatic 342, 3) := by decide +kernel
theorem dX11_areMapsWrong_145 : decode cX11_areMapsWrong 145 = .ok (.iaload, 1) := by decide +kernel
theorem dX11_areMapsWrong_146 : decode cX11_areMapsWrong 146 = .ok (.ifCond .le 7, 3) := by decide +kernel
theorem dX11_areMapsWrong_149 : decode cX11_areMapsWrong 149 = .ok (.iconst 1, 1) := by decide +kernel
theorem dX11_areMapsWrong_150 : decode cX11_areMapsWrong 150 = .ok (.goto 4, 3) := by decide +kernel
theorem dX11_areMapsWrong_153 : decode cX11_areMapsWrong 153 = .ok (.iconst 0, 1) := by decide +kernel
theorem dX11_areMapsWrong_154 : decode cX11_areMapsWrong 154 = .ok (.if_icmp .eq 7, 3) := by decide +kernel
theorem dX11_areMapsWrong_157 : decode cX11_areMapsWrong 157 = .ok (.iconst 1, 1) := by decide +kernel
theorem dX11_areMapsWrong_158 : decode cX11_areMapsWrong 158 = .ok (.goto 4, 3) := by decide +kernel
theorem dX11_areMapsWrong_161 : decode cX11_areMapsWrong 161 = .ok (.iconst 0, 1) := by decide +kernel
theorem dX11_areMapsWrong_162 : decode cX11_areMapsWrong 162 = .ok (.istore_n 1, 1) := by decide +kernel
theorem dX11_areMapsWrong_163 : decode cX11_areMapsWrong 163 = .ok (.iinc 3 1, 3) := by decide +kernel
theorem dX11_areMapsWrong_166 : decode cX11_areMapsWrong 166 = .ok (.goto (-79), 3) := by decide +kernel
theorem dX11_areMapsWrong_169 : decode cX11_areMapsWrong 169 = .ok (.iinc 2 1, 3) := by decide +kernel
theorem dX11_areMapsWrong_172 : decode cX11_areMapsWrong 172 = .ok (.goto (-168), 3) := by decide +kernel
theorem dX11_areMapsWrong_175 : decode cX11_areMapsWrong 175 = .ok (.iload_n 1, 1) := by decide +kernel
theorem dX11_areMapsWrong_176 : decode cX11_areMapsWrong 176 = .ok (.ireturn, 1) := by decide +kernel
theorem dX11_whole_0 : decode cX11_whole 0 = .ok (.aload_n 0, 1) := by decide +kernel
theorem dX11_whole_1 : decode cX11_whole 1 = .ok (.invokevirtual 508, 3) := by decide +kernel
theorem dX11_whole_4 : decode cX11_whole 4 = .ok (.aload_n 0, 1) := by decide +kernel
theorem dX11_whole_5 : decode cX11_whole 5 = .ok (.invokevirtual 511, 3) := by decide +kernel
theorem dX11_whole_8 : decode cX11_whole 8 = .ok (.ifCond .eq 5, 3) := by decide +kernel
theorem dX11_whole_11 : decode cX11_whole 11 = .ok (.iconst 1, 1) := by decide +kernel
theorem dX11_whole_12 : decode cX11_whole 12 = .ok (.ireturn, 1) := by decide +kernel
theorem dX11_whole_13 : decode cX11_whole 13 = .ok (.aload_n 0, 1) := by decide +kernel
theorem dX11_whole_14 : decode cX11_whole 14 = .ok (.getfield 168, 3) := by decide +kernel
theorem dX11_whole_17 : decode cX11_whole 17 = .ok (.iconst 0, 1) := by decide +kernel
theorem dX11_whole_18 : decode cX11_whole 18 = .ok (.iaload, 1) := by decide +kernel
theorem dX11_whole_19 : decode cX11_whole 19 = .ok (.ifCond .le 7, 3) := by decide +kernel
theorem dX11_whole_22 : decode cX11_whole 22 = .ok (.iconst 1, 1) := by decide +kernel
theorem dX11_whole_23 : decode cX11_whole 23 = .ok (.goto 4, 3) := by decide +kernel
theorem dX11_whole_26 : decode cX11_whole 26 = .ok (.iconst 0, 1) := by decide +kernel
theorem dX11_whole_27 : decode cX11_whole 27 = .ok (.istore_n 1, 1) := by decide +kernel
theorem dX11_whole_28 : decode cX11_whole 28 = .ok (.iconst 0, 1) := by decide +kernel
theorem dX11_whole_29 : decode cX11_whole 29 = .ok (.istore_n 2, 1) := by decide +kernel
theorem dX11_whole_30 : decode cX11_whole 30 = .ok (.aload_n 0, 1) := by decide +kernel
theorem dX11_whole_31 : decode cX11_whole 31 = .ok (.iconst 0, 1) := by decide +kernel
theorem dX11_whole_32 : decode cX11_whole 32 = .ok (.iconst 1, 1) := by decide +kernel
theorem dX11_whole_33 : decode cX11_whole 33 = .ok (.invokevirtual 496, 3) := by decide +kernel
theorem dX11_whole_36 : decode cX11_whole 36 = .ok (.iconst 1, 1) := by decide +kernel
theorem dX11_whole_37 : decode cX11_whole 37 = .ok (.if_icmp .eq 7, 3) := by decide +kernel
theorem dX11_whole_40 : decode cX11_whole 40 = .ok (.iconst 1, 1) := by decide +kernel
theorem dX11_whole_41 : decode cX11_whole 41 = .ok (.goto 4, 3) := by decide +kernel
theorem dX11_whole_44 : decode cX11_whole 44 = .ok (.iconst 0, 1) := by decide +kernel
theorem dX11_whole_45 : decode cX11_whole 45 = .ok (.istore_n 3, 1) := by decide +kernel
theorem dX11_whole_46 : decode cX11_whole 46 = .ok (.iconst 1, 1) := by decide +kernel
theorem dX11_whole_47 : decode cX11_whole 47 = .ok (.istore 4, 2) := by decide +kernel
theorem dX11_whole_49 : decode cX11_whole 49 = .ok (.iload 4, 2) := by decide +kernel
theorem dX11_whole_51 : decode cX11_whole 51 = .ok (.sipush 128, 3) := by decide +kernel
theorem dX11_whole_54 : decode cX11_whole 54 = .ok (.if_icmp .ge 108, 3) := by decide +kernel
theorem dX11_whole_57 : decode cX11_whole 57 = .ok (.iload_n 1, 1) := by decide +kernel
theorem dX11_whole_58 : decode cX11_whole 58 = .ok (.ifCond .ne 25, 3) := by decide +kernel
theorem dX11_whole_61 : decode cX11_whole 61 = .ok (.aload_n 0, 1) := by decide +kernel
theorem dX11_whole_62 : decode cX11_whole 62 = .ok (.iload 4, 2) := by decide +kernel
theorem dX11_whole_64 : decode cX11_whole 64 = .ok (.iconst 0, 1) := by decide +kernel
theorem dX11_whole_65 : decode cX11_whole 65 = .ok (.invokevirtual 496, 3) := by decide +kernel
theorem dX11_whole_68 : decode cX11_whole 68 = .ok (.iconst 2, 1) := by decide +kernel
theorem dX11_whole_69 : decode cX11_whole 69 = .ok (.if_icmp .ne 18, 3) := by decide +kernel
theorem dX11_whole_72 : decode cX11_whole 72 = .ok (.aload_n 0, 1) := by decide +kernel
theorem dX11_whole_73 : decode cX11_whole 73 = .ok (.getfield 168, 3) := by decide +kernel
theorem dX11_whole_76 : decode cX11_whole 76 = .ok (.iload 4, 2) := by decide +kernel
theorem dX11_whole_78 : decode cX11_whole 78 = .ok (.iaload, 1) := by decide +kernel
theorem dX11_whole_79 : decode cX11_whole 79 = .ok (.iconst 1, 1) := by decide +kernel
theorem dX11_whole_80 : decode cX11_whole 80 = .ok (.if_icmp .le 7, 3) := by decide +kernel
theorem dX11_whole_83 : decode cX11_whole 83 = .ok (.iconst 1, 1) := by decide +kernel
theorem dX11_whole_84 : decode cX11_whole 84 = .ok (.goto 4, 3) := by decide +kernel
theorem dX11_whole_87 : decode cX11_whole 87 = .ok (.iconst 0, 1) := by decide +kernel
theorem dX11_whole_88 : decode cX11_whole 88 = .ok (.istore_n 1, 1) := by decide +kernel
theorem dX11_whole_89 : decode cX11_whole 89 = .ok (.iload_n 2, 1) := by decide +kernel
theorem dX11_whole_90 : decode cX11_whole 90 = .ok (.ifCond .ne 23, 3) := by decide +kernel
theorem dX11_whole_93 : decode cX11_whole 93 = .ok (.aload_n 0, 1) := by decide +kernel
theorem dX11_whole_94 : decode cX11_whole 94 = .ok (.iload 4, 2) := by decide +kernel
theorem dX11_whole_96 : decode cX11_whole 96 = .ok (.iconst 0, 1) := by decide +kernel
theorem dX11_whole_97 : decode cX11_whole 97 = .ok (.invokevirtual 496, 3) := by decide +kernel
theorem dX11_whole_100 : decode cX11_whole 100 = .ok (.ifCond .eq 17, 3) := by decide +kernel
theorem dX11_whole_103 : decode cX11_whole 103 = .ok (.aload_n 0, 1) := by decide +kernel
theorem dX11_whole_104 : decode cX11_whole 104 = .ok (.getfield 165, 3) := by decide +kernel
theorem dX11_whole_107 : decode cX11_whole 107 = .ok (.iload 4, 2) := by decide +kernel
theorem dX11_whole_109 : decode cX11_whole 109 = .ok (.baload, 1) := by decide +kernel
theorem dX11_whole_110 : decode cX11_whole 110 = .ok (.ifCond .ne 7, 3) := by decide +kernel
theorem dX11_whole_113 : decode cX11_whole 113 = .ok (.iconst 1, 1) := by decide +kernel
theorem dX11_whole_114 : decode cX11_whole 114 = .ok (.goto 4, 3) := by decide +kernel
theorem dX11_whole_117 : decode cX11_whole 117 = .ok (.iconst 0, 1) := by decide +kernel
theorem dX11_whole_118 : decode cX11_whole 118 = .ok (.istore_n 2, 1) := by decide +kernel
theorem dX11_whole_119 : decode cX11_whole 119 = .ok (.iload_n 3, 1) := by decide +kernel
theorem dX11_whole_120 : decode cX11_whole 120 = .ok (.ifCond .ne 30, 3) := by decide +kernel
theorem dX11_whole_123 : decode cX11_whole 123 = .ok (.aload_n 0, 1) := by decide +kernel
theorem dX11_whole_124 : decode cX11_whole 124 = .ok (.iload 4, 2) := by decide +kernel
theorem dX11_whole_126 : decode cX11_whole 126 = .ok (.iconst 0, 1) := by decide +kernel
theorem dX11_whole_127 : decode cX11_whole 127 = .ok (.invokevirtual 496, 3) := by decide +kernel
theorem dX11_whole_130 : decode cX11_whole 130 = .ok (.ifCond .eq 24, 3) := by decide +kernel
theorem dX11_whole_133 : decode cX11_whole 133 = .ok (.aload_n 0, 1) := by decide +kernel
theorem dX11_whole_134 : decode cX11_whole 134 = .ok (.iload 4, 2) := by decide +kernel
theorem dX11_whole_136 : decode cX11_whole 136 = .ok (.iconst 1, 1) := by decide +kernel
theorem dX11_whole_137 : decode cX11_whole 137 = .ok (.invokevirtual 496, 3) := by decide +kernel
theorem dX11_whole_140 : decode cX11_whole 140 = .ok (.aload_n 0, 1) := by decide +kernel
theorem dX11_whole_141 : decode cX11_whole 141 = .ok (.getfield 168, 3) := by decide +kernel
theorem dX11_whole_144 : decode cX11_whole 144 = .ok (.iload 4, 2) := by decide +kernel
theorem dX11_whole_146 : decode cX11_whole 146 = .ok (.iaload, 1) := by decide +kernel
theorem dX11_whole_147 : decode cX11_whole 147 = .ok (.if_icmp .eq 7, 3) := by decide +kernel
theorem dX11_whole_150 : decode cX11_whole 150 = .ok (.iconst 1, 1) := by decide +kernel
theorem dX11_whole_151 : decode cX11_whole 151 = .ok (.goto 4, 3) := by decide +kernel
theorem dX11_whole_154 : decode cX11_whole 154 = .ok (.iconst 0, 1) := by decide +kernel
theorem dX11_whole_155 : decode cX11_whole 155 = .ok (.istore_n 3, 1) := by decide +kernel
theorem dX11_whole_156 : decode cX11_whole 156 = .ok (.iinc 4 1, 3) := by decide +kernel
theorem dX11_whole_159 : decode cX11_whole 159 = .ok (.goto (-110), 3) := by decide +kernel
theorem dX11_whole_162 : decode cX11_whole 162 = .ok (.iload_n 1, 1) := by decide +kernel
theorem dX11_whole_163 : decode cX11_whole 163 = .ok (.ifCond .ne 11, 3) := by decide +kernel
theorem dX11_whole_166 : decode cX11_whole 166 = .ok (.iload_n 2, 1) := by decide +kernel
theorem dX11_whole_167 : decode cX11_whole 167 = .ok (.ifCond .ne 7, 3) := by decide +kernel
theorem dX11_whole_170 : decode cX11_whole 170 = .ok (.iload_n 3, 1) := by decide +kernel
theorem dX11_whole_171 : decode cX11_whole 171 = .ok (.ifCond .eq 21, 3) := by decide +kernel
theorem dX11_whole_174 : decode cX11_whole 174 = .ok (.iload_n 1, 1) := by decide +kernel
theorem dX11_whole_175 : decode cX11_whole 175 = .ok (.ifCond .eq 7, 3) := by decide +kernel
theorem dX11_whole_178 : decode cX11_whole 178 = .ok (.iconst 2, 1) := by decide +kernel
theorem dX11_whole_179 : decode cX11_whole 179 = .ok (.goto 12, 3) := by decide +kernel
theorem dX11_whole_182 : decode cX11_whole 182 = .ok (.iload_n 2, 1) := by decide +kernel
theorem dX11_whole_183 : decode cX11_whole 183 = .ok (.ifCond .eq 7, 3) := by decide +kernel
theorem dX11_whole_186 : decode cX11_whole 186 = .ok (.iconst 3, 1) := by decide +kernel
theorem dX11_whole_187 : decode cX11_whole 187 = .ok (.goto 4, 3) := by decide +kernel
theorem dX11_whole_190 : decode cX11_whole 190 = .ok (.iconst 4, 1) := by decide +kernel
theorem dX11_whole_191 : decode cX11_whole 191 = .ok (.ireturn, 1) := by decide +kernel
theorem dX11_whole_192 : decode cX11_whole 192 = .ok (.aload_n 0, 1) := by decide +kernel
theorem dX11_whole_193 : decode cX11_whole 193 = .ok (.invokevirtual 514, 3) := by decide +kernel
theorem dX11_whole_196 : decode cX11_whole 196 = .ok (.aload_n 0, 1) := by decide +kernel
theorem dX11_whole_197 : decode cX11_whole 197 = .ok (.getfield 174, 3) := by decide +kernel
theorem dX11_whole_200 : decode cX11_whole 200 = .ok (.iconst 0, 1) := by decide +kernel
theorem dX11_whole_201 : decode cX11_whole 201 = .ok (.iaload, 1) := by decide +kernel
theorem dX11_whole_202 : decode cX11_whole 202 = .ok (.ifCond .le 7, 3) := by decide +kernel
theorem dX11_whole_205 : decode cX11_whole 205 = .ok (.iconst 1, 1) := by decide +kernel
theorem dX11_whole_206 : decode cX11_whole 206 = .ok (.goto 4, 3) := by decide +kernel
theorem dX11_whole_209 : decode cX11_whole 209 = .ok (.iconst 0, 1) := by decide +kernel
theorem dX11_whole_210 : decode cX11_whole 210 = .ok (.istore 4, 2) := by decide +kernel
theorem dX11_whole_212 : decode cX11_whole 212 = .ok (.iconst 1, 1) := by decide +kernel
theorem dX11_whole_213 : decode cX11_whole 213 = .ok (.istore 5, 2) := by decide +kernel
theorem dX11_whole_215 : decode cX11_whole 215 = .ok (.iload 5, 2) := by decide +kernel
theorem dX11_whole_217 : decode cX11_whole 217 = .ok (.sipush 640, 3) := by decide +kernel
theorem dX11_whole_220 : decode cX11_whole 220 = .ok (.if_icmp .ge 32, 3) := by decide +kernel
theorem dX11_whole_223 : decode cX11_whole 223 = .ok (.iload 4, 2) := by decide +kernel
theorem dX11_whole_225 : decode cX11_whole 225 = .ok (.ifCond .ne 14, 3) := by decide +kernel
theorem dX11_whole_228 : decode cX11_whole 228 = .ok (.aload_n 0, 1) := by decide +kernel
theorem dX11_whole_229 : decode cX11_whole 229 = .ok (.getfield 174, 3) := by decide +kernel
theorem dX11_whole_232 : decode cX11_whole 232 = .ok (.iload 5, 2) := by decide +kernel
theorem dX11_whole_234 : decode cX11_whole 234 = .ok (.iaload, 1) := by decide +kernel
theorem dX11_whole_235 : decode cX11_whole 235 = .ok (.iconst 1, 1) := by decide +kernel
theorem dX11_whole_236 : decode cX11_whole 236 = .ok (.if_icmp .le 7, 3) := by decide +kernel
theorem dX11_whole_239 : decode cX11_whole 239 = .ok (.iconst 1, 1) := by decide +kernel
theorem dX11_whole_240 : decode cX11_whole 240 = .ok (.goto 4, 3) := by decide +kernel
theorem dX11_whole_243 : decode cX11_whole 243 = .ok (.iconst 0, 1) := by decide +kernel
theorem dX11_whole_244 : decode cX11_whole 244 = .ok (.istore 4, 2) := by decide +kernel
theorem dX11_whole_246 : decode cX11_whole 246 = .ok (.iinc 5 1, 3) := by decide +kernel
theorem dX11_whole_249 : decode cX11_whole 249 = .ok (.goto (-34), 3) := by decide +kernel
theorem dX11_whole_252 : decode cX11_whole 252 = .ok (.iload 4, 2) := by decide +kernel
theorem dX11_whole_254 : decode cX11_whole 254 = .ok (.ifCond .eq 7, 3) := by decide +kernel
theorem dX11_whole_257 : decode cX11_whole 257 = .ok (.iconst 5, 1) := by decide +kernel
theorem dX11_whole_258 : decode cX11_whole 258 = .ok (.goto 16, 3) := by decide +kernel
theorem dX11_whole_261 : decode cX11_whole 261 = .ok (.aload_n 0, 1) := by decide +kernel
theorem dX11_whole_262 : decode cX11_whole 262 = .ok (.invokevirtual 517, 3) := by decide +kernel
theorem dX11_whole_265 : decode cX11_whole 265 = .ok (.ifCond .eq 8, 3) := by decide +kernel
theorem dX11_whole_268 : decode cX11_whole 268 = .ok (.bipush 6, 2) := by decide +kernel
theorem dX11_whole_270 : decode cX11_whole 270 = .ok (.goto 4, 3) := by decide +kernel
theorem dX11_whole_273 : decode cX11_whole 273 = .ok (.iconst 0, 1) := by decide +kernel
theorem dX11_whole_274 : decode cX11_whole 274 = .ok (.ireturn, 1) := by decide +kernel
theorem dX11_used_0 : decode cX11_used 0 = .ok (.iconst 0, 1) := by decide +kernel
theorem dX11_used_1 : decode cX11_used 1 = .ok (.istore_n 2, 1) := by decide +kernel
theorem dX11_used_2 : decode cX11_used 2 = .ok (.iconst 0, 1) := by decide +kernel
theorem dX11_used_3 : decode cX11_used 3 = .ok (.istore_n 3, 1) := by decide +kernel
theorem dX11_used_4 : decode cX11_used 4 = .ok (.iload_n 3, 1) := by decide +kernel
theorem dX11_used_5 : decode cX11_used 5 = .ok (.bipush 8, 2) := by decide +kernel
theorem dX11_used_7 : decode cX11_used 7 = .ok (.if_icmp .ge 86, 3) := by decide +kernel
theorem dX11_used_10 : decode cX11_used 10 = .ok (.iconst 0, 1) := by decide +kernel
theorem dX11_used_11 : decode cX11_used 11 = .ok (.istore 4, 2) := by decide +kernel
theorem dX11_used_13 : decode cX11_used 13 = .ok (.iload 4, 2) := by decide +kernel
theorem dX11_used_15 : decode cX11_used 15 = .ok (.iload_n 1, 1) := by decide +kernel
theorem dX11_used_16 : decode cX11_used 16 = .ok (.ifCond .eq 8, 3) := by decide +kernel
theorem dX11_used_19 : decode cX11_used 19 = .ok (.bipush 16, 2) := by decide +kernel
theorem dX11_used_21 : decode cX11_used 21 = .ok (.goto 5, 3) := by decide +kernel
theorem dX11_used_24 : decode cX11_used 24 = .ok (.bipush 47, 2) := by decide +kernel
theorem dX11_used_26 : decode cX11_used 26 = .ok (.if_icmp .ge 61, 3) := by decide +kernel
theorem dX11_used_29 : decode cX11_used 29 = .ok (.aload_n 0, 1) := by decide +kernel
theorem dX11_used_30 : decode cX11_used 30 = .ok (.getfield 7, 3) := by decide +kernel
theorem dX11_used_33 : decode cX11_used 33 = .ok (.bipush 16, 2) := by decide +kernel
theorem dX11_used_35 : decode cX11_used 35 = .ok (.iload_n 3, 1) := by decide +kernel
theorem dX11_used_36 : decode cX11_used 36 = .ok (.invokestatic 181, 3) := by decide +kernel
theorem dX11_used_39 : decode cX11_used 39 = .ok (.imul, 1) := by decide +kernel
theorem dX11_used_40 : decode cX11_used 40 = .ok (.iload_n 1, 1) := by decide +kernel
theorem dX11_used_41 : decode cX11_used 41 = .ok (.ifCond .eq 7, 3) := by decide +kernel
theorem dX11_used_44 : decode cX11_used 44 = .ok (.iconst 0, 1) := by decide +kernel
theorem dX11_used_45 : decode cX11_used 45 = .ok (.goto 10, 3) := by decide +kernel
theorem dX11_used_48 : decode cX11_used 48 = .ok (.iconst 1, 1) := by decide +kernel
theorem dX11_used_49 : decode cX11_used 49 = .ok (.iload 4, 2) := by decide +kernel
theorem dX11_used_51 : decode cX11_used 51 = .ok (.bipush 32, 2) := by decide +kernel
theorem dX11_used_53 : decode cX11_used 53 = .ok (.idiv, 1) := by decide +kernel
theorem dX11_used_54 : decode cX11_used 54 = .ok (.iadd, 1) := by decide +kernel
theorem dX11_used_55 : decode cX11_used 55 = .ok (.iadd, 1) := by decide +kernel
theorem dX11_used_56 : decode cX11_used 56 = .ok (.iaload, 1) := by decide +kernel
theorem dX11_used_57 : decode cX11_used 57 = .ok (.istore 5, 2) := by decide +kernel
theorem dX11_used_59 : decode cX11_used 59 = .ok (.iload 5, 2) := by decide +kernel
theorem dX11_used_61 : decode cX11_used 61 = .ok (.iload 4, 2) := by decide +kernel
theorem dX11_used_63 : decode cX11_used 63 = .ok (.bipush 32, 2) := by decide +kernel
theorem dX11_used_65 : decode cX11_used 65 = .ok (.irem, 1) := by decide +kernel
theorem dX11_used_66 : decode cX11_used 66 = .ok (.ishr, 1) := by decide +kernel
theorem dX11_used_67 : decode cX11_used 67 = .ok (.iconst 1, 1) := by decide +kernel
theorem dX11_used_68 : decode cX11_used 68 = .ok (.iand, 1) := by decide +kernel
theorem dX11_used_69 : decode cX11_used 69 = .ok (.iconst 1, 1) := by decide +kernel
theorem dX11_used_70 : decode cX11_used 70 = .ok (.if_icmp .ne 9, 3) := by decide +kernel
theorem dX11_used_73 : decode cX11_used 73 = .ok (.iload_n 2, 1) := by decide +kernel
theorem dX11_used_74 : decode cX11_used 74 = .ok (.iconst 1, 1) := by decide +kernel
theorem dX11_used_75 : decode cX11_used 75 = .ok (.iadd, 1) := by decide +kernel
theorem dX11_used_76 : decode cX11_used 76 = .ok (.goto 4, 3) := by decide +kernel
theorem dX11_used_79 : decode cX11_used 79 = .ok (.iload_n 2, 1) := by decide +kernel
theorem dX11_used_80 : decode cX11_used 80 = .ok (.istore_n 2, 1) := by decide +kernel
theorem dX11_used_81 : decode cX11_used 81 = .ok (.iinc 4 1, 3) := by decide +kernel
theorem dX11_used_84 : decode cX11_used 84 = .ok (.goto (-71), 3) := by decide +kernel
theorem dX11_used_87 : decode cX11_used 87 = .ok (.iinc 3 1, 3) := by decide +kernel
theorem dX11_used_90 : decode cX11_used 90 = .ok (.goto (-86), 3) := by decide +kernel
theorem dX11_used_93 : decode cX11_used 93 = .ok (.iload_n 2, 1) := by decide +kernel
theorem dX11_used_94 : decode cX11_used 94 = .ok (.ireturn, 1) := by decide +kernel
theorem dX11_about_0 : decode cX11_about 0 = .ok (.aload_n 0, 1) := by decide +kernel
theorem dX11_about_1 : decode cX11_about 1 = .ok (.iload_n 1, 1) := by decide +kernel
theorem dX11_about_2 : decode cX11_about 2 = .ok (.iconst 0, 1) := by decide +kernel
theorem dX11_about_3 : decode cX11_about 3 = .ok (.bipush 9, 2) := by decide +kernel
theorem dX11_about_5 : decode cX11_about 5 = .ok (.invokestatic 243, 3) := by decide +kernel
theorem dX11_about_8 : decode cX11_about 8 = .ok (.ifCond .ne 7, 3) := by decide +kernel
theorem dX11_about_11 : decode cX11_about 11 = .ok (.iconst 1, 1) := by decide +kernel
theorem dX11_about_12 : decode cX11_about 12 = .ok (.goto 4, 3) := by decide +kernel
theorem dX11_about_15 : decode cX11_about 15 = .ok (.iconst 0, 1) := by decide +kernel
theorem dX11_about_16 : decode cX11_about 16 = .ok (.iconst 0, 1) := by decide +kernel
theorem dX11_about_17 : decode cX11_about 17 = .ok (.iconst 0, 1) := by decide +kernel
theorem dX11_about_18 : decode cX11_about 18 = .ok (.invokevirtual 441, 3) := by decide +kernel
theorem dX11_about_21 : decode cX11_about 21 = .ok (.ifCond .eq 5, 3) := by decide +kernel
theorem dX11_about_24 : decode cX11_about 24 = .ok (.iconst 0, 1) := by decide +kernel
theorem dX11_about_25 : decode cX11_about 25 = .ok (.ireturn, 1) := by decide +kernel
theorem dX11_about_26 : decode cX11_about 26 = .ok (.iload_n 1, 1) := by decide +kernel
theorem dX11_about_27 : decode cX11_about 27 = .ok (.tableswitch 96 0 8 #[49, 54, 59, 64, 69, 74, 79, 84, 90], 49) := by decide +kernel
theorem dX11_about_76 : decode cX11_about 76 = .ok (.aload_n 0, 1) := by decide +kernel
theorem dX11_about_77 : decode cX11_about 77 = .ok (.getfield 194, 3) := by decide +kernel
theorem dX11_about_80 : decode cX11_about 80 = .ok (.ireturn, 1) := by decide +kernel
theorem dX11_about_81 : decode cX11_about 81 = .ok (.aload_n 0, 1) := by decide +kernel
theorem dX11_about_82 : decode cX11_about 82 = .ok (.getfield 197, 3) := by decide +kernel
theorem dX11_about_85 : decode cX11_about 85 = .ok (.ireturn, 1) := by decide +kernel
theorem dX11_about_86 : decode cX11_about 86 = .ok (.aload_n 0, 1) := by decide +kernel
theorem dX11_about_87 : decode cX11_about 87 = .ok (.getfield 191, 3) := by decide +kernel
theorem dX11_about_90 : decode cX11_about 90 = .ok (.ireturn, 1) := by decide +kernel
theorem dX11_about_91 : decode cX11_about 91 = .ok (.aload_n 0, 1) := by decide +kernel
theorem dX11_about_92 : decode cX11_about 92 = .ok (.getfield 454, 3) := by decide +kernel
theorem dX11_about_95 : decode cX11_about 95 = .ok (.ireturn, 1) := by decide +kernel
theorem dX11_about_96 : decode cX11_about 96 = .ok (.aload_n 0, 1) := by decide +kernel
theorem dX11_about_97 : decode cX11_about 97 = .ok (.getfield 268, 3) := by decide +kernel
theorem dX11_about_100 : decode cX11_about 100 = .ok (.ireturn, 1) := by decide +kernel
theorem dX11_about_101 : decode cX11_about 101 = .ok (.aload_n 0, 1) := by decide +kernel
theorem dX11_about_102 : decode cX11_about 102 = .ok (.getfield 472, 3) := by decide +kernel
theorem dX11_about_105 : decode cX11_about 105 = .ok (.ireturn, 1) := by decide +kernel
theorem dX11_about_106 : decode cX11_about 106 = .ok (.aload_n 0, 1) := by decide +kernel
theorem dX11_about_107 : decode cX11_about 107 = .ok (.getfield 177, 3) := by decide +kernel
theorem dX11_about_110 : decode cX11_about 110 = .ok (.ireturn, 1) := by decide +kernel
theorem dX11_about_111 : decode cX11_about 111 = .ok (.aload_n 0, 1) := by decide +kernel
theorem dX11_about_112 : decode cX11_about 112 = .ok (.iconst 0, 1) := by decide +kernel
theorem dX11_about_113 : decode cX11_about 113 = .ok (.invokevirtual 520, 3) := by decide +kernel
theorem dX11_about_116 : decode cX11_about 116 = .ok (.ireturn, 1) := by decide +kernel
theorem dX11_about_117 : decode cX11_about 117 = .ok (.aload_n 0, 1) := by decide +kernel
theorem dX11_about_118 : decode cX11_about 118 = .ok (.iconst 1, 1) := by decide +kernel
theorem dX11_about_119 : decode cX11_about 119 = .ok (.invokevirtual 520, 3) := by decide +kernel
theorem dX11_about_122 : decode cX11_about 122 = .ok (.ireturn, 1) := by decide +kernel
theorem dX11_about_123 : decode cX11_about 123 = .ok (.aload_n 0, 1) := by decide +kernel
theorem dX11_about_124 : decode cX11_about 124 = .ok (.invokevirtual 524, 3) := by decide +kernel
theorem dX11_about_127 : decode cX11_about 127 = .ok (.ireturn, 1) := by decide +kernel
theorem dL_cell_0 : decode cL_cell 0 = .ok (.iload_n 1, 1) := by decide +kernel
theorem dL_cell_1 : decode cL_cell 1 = .ok (.aload_n 0, 1) := by decide +kernel
theorem dL_cell_2 : decode cL_cell 2 = .ok (.arraylength, 1) := by decide +kernel
theorem dL_cell_3 : decode cL_cell 3 = .ok (.if_icmp .ge 9, 3) := by decide +kernel
theorem dL_cell_6 : decode cL_cell 6 = .ok (.aload_n 0, 1) := by decide +kernel
theorem dL_cell_7 : decode cL_cell 7 = .ok (.iload_n 1, 1) := by decide +kernel
theorem dL_cell_8 : decode cL_cell 8 = .ok (.iaload, 1) := by decide +kernel
theorem dL_cell_9 : decode cL_cell 9 = .ok (.goto 4, 3) := by decide +kernel
theorem dL_cell_12 : decode cL_cell 12 = .ok (.iconst 0, 1) := by decide +kernel
theorem dL_cell_13 : decode cL_cell 13 = .ok (.ireturn, 1) := by decide +kernel
theorem dL_call_0 : decode cL_call 0 = .ok (.aload 7, 2) := by decide +kernel
theorem dL_call_2 : decode cL_call 2 = .ok (.iconst 0, 1) := by decide +kernel
theorem dL_call_3 : decode cL_call 3 = .ok (.aload_n 0, 1) := by decide +kernel
theorem dL_call_4 : decode cL_call 4 = .ok (.iload_n 1, 1) := by decide +kernel
theorem dL_call_5 : decode cL_call 5 = .ok (.iload_n 2, 1) := by decide +kernel
theorem dL_call_6 : decode cL_call 6 = .ok (.iload_n 3, 1) := by decide +kernel
theorem dL_call_7 : decode cL_call 7 = .ok (.iload 4, 2) := by decide +kernel
theorem dL_call_9 : decode cL_call 9 = .ok (.iload 5, 2) := by decide +kernel
theorem dL_call_11 : decode cL_call 11 = .ok (.iload 6, 2) := by decide +kernel
theorem dL_call_13 : decode cL_call 13 = .ok (.invokevirtual 7, 3) := by decide +kernel
theorem dL_call_16 : decode cL_call 16 = .ok (.i2l, 1) := by decide +kernel
theorem dL_call_17 : decode cL_call 17 = .ok (.lastore, 1) := by decide +kernel
theorem dL_call_18 : decode cL_call 18 = .ok (.goto 11, 3) := by decide +kernel
theorem dL_call_21 : decode cL_call 21 = .ok (.astore 8, 2) := by decide +kernel
theorem dL_call_23 : decode cL_call 23 = .ok (.iconst 1, 1) := by decide +kernel
theorem dL_call_24 : decode cL_call 24 = .ok (.ireturn, 1) := by decide +kernel
theorem dL_call_25 : decode cL_call 25 = .ok (.astore 8, 2) := by decide +kernel
theorem dL_call_27 : decode cL_call 27 = .ok (.iconst 2, 1) := by decide +kernel
theorem dL_call_28 : decode cL_call 28 = .ok (.ireturn, 1) := by decide +kernel
theorem dL_call_29 : decode cL_call 29 = .ok (.iconst 0, 1) := by decide +kernel
theorem dL_call_30 : decode cL_call 30 = .ok (.ireturn, 1) := by decide +kernel
theorem dL_delay_0 : decode cL_delay 0 = .ok (.aload_n 0, 1) := by decide +kernel
theorem dL_delay_1 : decode cL_delay 1 = .ok (.iload_n 1, 1) := by decide +kernel
theorem dL_delay_2 : decode cL_delay 2 = .ok (.iload_n 2, 1) := by decide +kernel
theorem dL_delay_3 : decode cL_delay 3 = .ok (.iload_n 3, 1) := by decide +kernel
theorem dL_delay_4 : decode cL_delay 4 = .ok (.invokevirtual 17, 3) := by decide +kernel
theorem dL_delay_7 : decode cL_delay 7 = .ok (.goto 7, 3) := by decide +kernel
theorem dL_delay_10 : decode cL_delay 10 = .ok (.astore 4, 2) := by decide +kernel
theorem dL_delay_12 : decode cL_delay 12 = .ok (.iconst 1, 1) := by decide +kernel
theorem dL_delay_13 : decode cL_delay 13 = .ok (.ireturn, 1) := by decide +kernel
theorem dL_delay_14 : decode cL_delay 14 = .ok (.iconst 0, 1) := by decide +kernel
theorem dL_delay_15 : decode cL_delay 15 = .ok (.ireturn, 1) := by decide +kernel
theorem dL_tick_0 : decode cL_tick 0 = .ok (.aload_n 2, 1) := by decide +kernel
theorem dL_tick_1 : decode cL_tick 1 = .ok (.iconst 0, 1) := by decide +kernel
theorem dL_tick_2 : decode cL_tick 2 = .ok (.aload_n 0, 1) := by decide +kernel
theorem dL_tick_3 : decode cL_tick 3 = .ok (.iload_n 1, 1) := by decide +kernel
theorem dL_tick_4 : decode cL_tick 4 = .ok (.invokevirtual 21, 3) := by decide +kernel
theorem dL_tick_7 : decode cL_tick 7 = .ok (.i2l, 1) := by decide +kernel
theorem dL_tick_8 : decode cL_tick 8 = .ok (.lastore, 1) := by decide +kernel
theorem dL_tick_9 : decode cL_tick 9 = .ok (.goto 6, 3) := by decide +kernel
theorem dL_tick_12 : decode cL_tick 12 = .ok (.astore_n 3, 1) := by decide +kernel
theorem dL_tick_13 : decode cL_tick 13 = .ok (.iconst 1, 1) := by decide +kernel
theorem dL_tick_14 : decode cL_tick 14 = .ok (.ireturn, 1) := by decide +kernel
theorem dL_tick_15 : decode cL_tick 15 = .ok (.iconst 0, 1) := by decide +kernel
theorem dL_tick_16 : decode cL_tick 16 = .ok (.ireturn, 1) := by decide +kernel
theorem dL_crash_0 : decode cL_crash 0 = .ok (.aload_n 0, 1) := by decide +kernel
theorem dL_crash_1 : decode cL_crash 1 = .ok (.iload_n 1, 1) := by decide +kernel
theorem dL_crash_2 : decode cL_crash 2 = .ok (.iload_n 2, 1) := by decide +kernel
theorem dL_crash_3 : decode cL_crash 3 = .ok (.invokevirtual 25, 3) := by decide +kernel
theorem dL_crash_6 : decode cL_crash 6 = .ok (.goto 9, 3) := by decide +kernel
theorem dL_crash_9 : decode cL_crash 9 = .ok (.astore_n 3, 1) := by decide +kernel
theorem dL_crash_10 : decode cL_crash 10 = .ok (.iconst 1, 1) := by decide +kernel
theorem dL_crash_11 : decode cL_crash 11 = .ok (.ireturn, 1) := by decide +kernel
theorem dL_crash_12 : decode cL_crash 12 = .ok (.astore_n 3, 1) := by decide +kernel
theorem dL_crash_13 : decode cL_crash 13 = .ok (.iconst 2, 1) := by decide +kernel
theorem dL_crash_14 : decode cL_crash 14 = .ok (.ireturn, 1) := by decide +kernel
theorem dL_crash_15 : decode cL_crash 15 = .ok (.iconst 0, 1) := by decide +kernel
theorem dL_crash_16 : decode cL_crash 16 = .ok (.ireturn, 1) := by decide +kernel
theorem dL_recover_0 : decode cL_recover 0 = .ok (.aload_n 2, 1) := by decide +kernel
theorem dL_recover_1 : decode cL_recover 1 = .ok (.iconst 0, 1) := by decide +kernel
theorem dL_recover_2 : decode cL_recover 2 = .ok (.aload_n 0, 1) := by decide +kernel
theorem dL_recover_3 : decode cL_recover 3 = .ok (.iload_n 1, 1) := by decide +kernel
theorem dL_recover_4 : decode cL_recover 4 = .ok (.invokevirtual 29, 3) := by decide +kernel
theorem dL_recover_7 : decode cL_recover 7 = .ok (.i2l, 1) := by decide +kernel
theorem dL_recover_8 : decode cL_recover 8 = .ok (.lastore, 1) := by decide +kernel
theorem dL_recover_9 : decode cL_recover 9 = .ok (.goto 9, 3) := by decide +kernel
theorem dL_recover_12 : decode cL_recover 12 = .ok (.astore_n 3, 1) := by decide +kernel
theorem dL_recover_13 : decode cL_recover 13 = .ok (.iconst 1, 1) := by decide +kernel
theorem dL_recover_14 : decode cL_recover 14 = .ok (.ireturn, 1) := by decide +kernel
theorem dL_recover_15 : decode cL_recover 15 = .ok (.astore_n 3, 1) := by decide +kernel
theorem dL_recover_16 : decode cL_recover 16 = .ok (.iconst 2, 1) := by decide +kernel
theorem dL_recover_17 : decode cL_recover 17 = .ok (.ireturn, 1) := by decide +kernel
theorem dL_recover_18 : decode cL_recover 18 = .ok (.iconst 0, 1) := by decide +kernel
theorem dL_recover_19 : decode cL_recover 19 = .ok (.ireturn, 1) := by decide +kernel
theorem dL_start_0 : decode cL_start 0 = .ok (.aload_n 0, 1) := by decide +kernel
theorem dL_start_1 : decode cL_start 1 = .ok (.iload_n 1, 1) := by decide +kernel
theorem dL_start_2 : decode cL_start 2 = .ok (.invokevirtual 32, 3) := by decide +kernel
theorem dL_start_5 : decode cL_start 5 = .ok (.goto 9, 3) := by decide +kernel
theorem dL_start_8 : decode cL_start 8 = .ok (.astore_n 2, 1) := by decide +kernel
theorem dL_start_9 : decode cL_start 9 = .ok (.iconst 1, 1) := by decide +kernel
theorem dL_start_10 : decode cL_start 10 = .ok (.ireturn, 1) := by decide +kernel
theorem dL_start_11 : decode cL_start 11 = .ok (.astore_n 2, 1) := by decide +kernel
theorem dL_start_12 : decode cL_start 12 = .ok (.iconst 2, 1) := by decide +kernel
theorem dL_start_13 : decode cL_start 13 = .ok (.ireturn, 1) := by decide +kernel
theorem dL_start_14 : decode cL_start 14 = .ok (.iconst 0, 1) := by decide +kernel
theorem dL_start_15 : decode cL_start 15 = .ok (.ireturn, 1) := by decide +kernel
theorem dL_result_0 : decode cL_result 0 = .ok (.aload_n 3, 1) := by decide +kernel
theorem dL_result_1 : decode cL_result 1 = .ok (.iconst 0, 1) := by decide +kernel
theorem dL_result_2 : decode cL_result 2 = .ok (.aload_n 0, 1) := by decide +kernel
theorem dL_result_3 : decode cL_result 3 = .ok (.iload_n 1, 1) := by decide +kernel
theorem dL_result_4 : decode cL_result 4 = .ok (.iload_n 2, 1) := by decide +kernel
theorem dL_result_5 : decode cL_result 5 = .ok (.invokevirtual 36, 3) := by decide +kernel
theorem dL_result_8 : decode cL_result 8 = .ok (.i2l, 1) := by decide +kernel
theorem dL_result_9 : decode cL_result 9 = .ok (.lastore, 1) := by decide +kernel
theorem dL_result_10 : decode cL_result 10 = .ok (.goto 7, 3) := by decide +kernel
theorem dL_result_13 : decode cL_result 13 = .ok (.astore 4, 2) := by decide +kernel
theorem dL_result_15 : decode cL_result 15 = .ok (.iconst 1, 1) := by decide +kernel
theorem dL_result_16 : decode cL_result 16 = .ok (.ireturn, 1) := by decide +kernel
theorem dL_result_17 : decode cL_result 17 = .ok (.iconst 0, 1) := by decide +kernel
theorem dL_result_18 : decode cL_result 18 = .ok (.ireturn, 1) := by decide +kernel
theorem dL_history_0 : decode cL_history 0 = .ok (.aload_n 3, 1) := by decide +kernel
theorem dL_history_1 : decode cL_history 1 = .ok (.iconst 0, 1) := by decide +kernel
theorem dL_history_2 : decode cL_history 2 = .ok (.aload_n 0, 1) := by decide +kernel
theorem dL_history_3 : decode cL_history 3 = .ok (.iload_n 1, 1) := by decide +kernel
theorem dL_history_4 : decode cL_history 4 = .ok (.iload_n 2, 1) := by decide +kernel
theorem dL_history_5 : decode cL_history 5 = .ok (.invokevirtual 40, 3) := by decide +kernel
theorem dL_history_8 : decode cL_history 8 = .ok (.i2l, 1) := by decide +kernel
theorem dL_history_9 : decode cL_history 9 = .ok (.lastore, 1) := by decide +kernel
theorem dL_history_10 : decode cL_history 10 = .ok (.goto 11, 3) := by decide +kernel
theorem dL_history_13 : decode cL_history 13 = .ok (.astore 4, 2) := by decide +kernel
theorem dL_history_15 : decode cL_history 15 = .ok (.iconst 1, 1) := by decide +kernel
theorem dL_history_16 : decode cL_history 16 = .ok (.ireturn, 1) := by decide +kernel
theorem dL_history_17 : decode cL_history 17 = .ok (.astore 4, 2) := by decide +kernel
theorem dL_history_19 : decode cL_history 19 = .ok (.iconst 2, 1) := by decide +kernel
theorem dL_history_20 : decode cL_history 20 = .ok (.ireturn, 1) := by decide +kernel
theorem dL_history_21 : decode cL_history 21 = .ok (.iconst 0, 1) := by decide +kernel
theorem dL_history_22 : decode cL_history 22 = .ok (.ireturn, 1) := by decide +kernel
theorem dL_word_0 : decode cL_word 0 = .ok (.aload_n 3, 1) := by decide +kernel
theorem dL_word_1 : decode cL_word 1 = .ok (.iconst 0, 1) := by decide +kernel
theorem dL_word_2 : decode cL_word 2 = .ok (.aload_n 0, 1) := by decide +kernel
theorem dL_word_3 : decode cL_word 3 = .ok (.iload_n 1, 1) := by decide +kernel
theorem dL_word_4 : decode cL_word 4 = .ok (.iload_n 2, 1) := by decide +kernel
theorem dL_word_5 : decode cL_word 5 = .ok (.invokevirtual 45, 3) := by decide +kernel
theorem dL_word_8 : decode cL_word 8 = .ok (.i2l, 1) := by decide +kernel
theorem dL_word_9 : decode cL_word 9 = .ok (.lastore, 1) := by decide +kernel
theorem dL_word_10 : decode cL_word 10 = .ok (.goto 7, 3) := by decide +kernel
theorem dL_word_13 : decode cL_word 13 = .ok (.astore 4, 2) := by decide +kernel
theorem dL_word_15 : decode cL_word 15 = .ok (.iconst 1, 1) := by decide +kernel
theorem dL_word_16 : decode cL_word 16 = .ok (.ireturn, 1) := by decide +kernel
theorem dL_word_17 : decode cL_word 17 = .ok (.iconst 0, 1) := by decide +kernel
theorem dL_word_18 : decode cL_word 18 = .ok (.ireturn, 1) := by decide +kernel
theorem dL_cached_0 : decode cL_cached 0 = .ok (.aload 4, 2) := by decide +kernel
theorem dL_cached_2 : decode cL_cached 2 = .ok (.iconst 0, 1) := by decide +kernel
theorem dL_cached_3 : decode cL_cached 3 = .ok (.aload_n 0, 1) := by decide +kernel
theorem dL_cached_4 : decode cL_cached 4 = .ok (.iload_n 1, 1) := by decide +kernel
theorem dL_cached_5 : decode cL_cached 5 = .ok (.iload_n 2, 1) := by decide +kernel
theorem dL_cached_6 : decode cL_cached 6 = .ok (.iload_n 3, 1) := by decide +kernel
theorem dL_cached_7 : decode cL_cached 7 = .ok (.invokevirtual 48, 3) := by decide +kernel
theorem dL_cached_10 : decode cL_cached 10 = .ok (.i2l, 1) := by decide +kernel
theorem dL_cached_11 : decode cL_cached 11 = .ok (.lastore, 1) := by decide +kernel
theorem dL_cached_12 : decode cL_cached 12 = .ok (.goto 15, 3) := by decide +kernel
theorem dL_cached_15 : decode cL_cached 15 = .ok (.astore 5, 2) := by decide +kernel
theorem dL_cached_17 : decode cL_cached 17 = .ok (.iconst 1, 1) := by decide +kernel
theorem dL_cached_18 : decode cL_cached 18 = .ok (.ireturn, 1) := by decide +kernel
theorem dL_cached_19 : decode cL_cached 19 = .ok (.astore 5, 2) := by decide +kernel
theorem dL_cached_21 : decode cL_cached 21 = .ok (.iconst 2, 1) := by decide +kernel
theorem dL_cached_22 : decode cL_cached 22 = .ok (.ireturn, 1) := by decide +kernel
theorem dL_cached_23 : decode cL_cached 23 = .ok (.astore 5, 2) := by decide +kernel
theorem dL_cached_25 : decode cL_cached 25 = .ok (.iconst 3, 1) := by decide +kernel
theorem dL_cached_26 : decode cL_cached 26 = .ok (.ireturn, 1) := by decide +kernel
theorem dL_cached_27 : decode cL_cached 27 = .ok (.iconst 0, 1) := by decide +kernel
theorem dL_cached_28 : decode cL_cached 28 = .ok (.ireturn, 1) := by decide +kernel
theorem dL_lock_0 : decode cL_lock 0 = .ok (.aload 4, 2) := by decide +kernel
theorem dL_lock_2 : decode cL_lock 2 = .ok (.iconst 0, 1) := by decide +kernel
theorem dL_lock_3 : decode cL_lock 3 = .ok (.aload_n 0, 1) := by decide +kernel
theorem dL_lock_4 : decode cL_lock 4 = .ok (.iload_n 1, 1) := by decide +kernel
theorem dL_lock_5 : decode cL_lock 5 = .ok (.iload_n 2, 1) := by decide +kernel
theorem dL_lock_6 : decode cL_lock 6 = .ok (.iload_n 3, 1) := by decide +kernel
theorem dL_lock_7 : decode cL_lock 7 = .ok (.invokevirtual 54, 3) := by decide +kernel
theorem dL_lock_10 : decode cL_lock 10 = .ok (.i2l, 1) := by decide +kernel
theorem dL_lock_11 : decode cL_lock 11 = .ok (.lastore, 1) := by decide +kernel
theorem dL_lock_12 : decode cL_lock 12 = .ok (.goto 7, 3) := by decide +kernel
theorem dL_lock_15 : decode cL_lock 15 = .ok (.astore 5, 2) := by decide +kernel
theorem dL_lock_17 : decode cL_lock 17 = .ok (.iconst 1, 1) := by decide +kernel
theorem dL_lock_18 : decode cL_lock 18 = .ok (.ireturn, 1) := by decide +kernel
theorem dL_lock_19 : decode cL_lock 19 = .ok (.iconst 0, 1) := by decide +kernel
theorem dL_lock_20 : decode cL_lock 20 = .ok (.ireturn, 1) := by decide +kernel
theorem dL_row_0 : decode cL_row 0 = .ok (.aload_n 3, 1) := by decide +kernel
theorem dL_row_1 : decode cL_row 1 = .ok (.iconst 0, 1) := by decide +kernel
theorem dL_row_2 : decode cL_row 2 = .ok (.aload_n 0, 1) := by decide +kernel
theorem dL_row_3 : decode cL_row 3 = .ok (.iload_n 1, 1) := by decide +kernel
theorem dL_row_4 : decode cL_row 4 = .ok (.iload_n 2, 1) := by decide +kernel
theorem dL_row_5 : decode cL_row 5 = .ok (.invokevirtual 57, 3) := by decide +kernel
theorem dL_row_8 : decode cL_row 8 = .ok (.i2l, 1) := by decide +kernel
theorem dL_row_9 : decode cL_row 9 = .ok (.lastore, 1) := by decide +kernel
theorem dL_row_10 : decode cL_row 10 = .ok (.goto 7, 3) := by decide +kernel
theorem dL_row_13 : decode cL_row 13 = .ok (.astore 4, 2) := by decide +kernel
theorem dL_row_15 : decode cL_row 15 = .ok (.iconst 1, 1) := by decide +kernel
theorem dL_row_16 : decode cL_row 16 = .ok (.ireturn, 1) := by decide +kernel
theorem dL_row_17 : decode cL_row 17 = .ok (.iconst 0, 1) := by decide +kernel
theorem dL_row_18 : decode cL_row 18 = .ok (.ireturn, 1) := by decide +kernel
theorem dL_message_0 : decode cL_message 0 = .ok (.aload_n 3, 1) := by decide +kernel
theorem dL_message_1 : decode cL_message 1 = .ok (.iconst 0, 1) := by decide +kernel
theorem dL_message_2 : decode cL_message 2 = .ok (.aload_n 0, 1) := by decide +kernel
theorem dL_message_3 : decode cL_message 3 = .ok (.iload_n 1, 1) := by decide +kernel
theorem dL_message_4 : decode cL_message 4 = .ok (.iload_n 2, 1) := by decide +kernel
