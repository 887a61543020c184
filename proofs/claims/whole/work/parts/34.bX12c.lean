/-! blocks of the class's code, printed by program -/
section Blk34_bX12c
theorem dX12_makePiece_0 : decode cX12_makePiece 0 = .ok (.aload_n 0, 1) := by decide +kernel
theorem dX12_makePiece_1 : decode cX12_makePiece 1 = .ok (.invokevirtual 312, 3) := by decide +kernel
theorem dX12_makePiece_4 : decode cX12_makePiece 4 = .ok (.aload_n 0, 1) := by decide +kernel
theorem dX12_makePiece_5 : decode cX12_makePiece 5 = .ok (.iload_n 3, 1) := by decide +kernel
theorem dX12_makePiece_6 : decode cX12_makePiece 6 = .ok (.iload 4, 2) := by decide +kernel
theorem dX12_makePiece_8 : decode cX12_makePiece 8 = .ok (.iload 5, 2) := by decide +kernel
theorem dX12_makePiece_10 : decode cX12_makePiece 10 = .ok (.invokevirtual 315, 3) := by decide +kernel
theorem dX12_makePiece_13 : decode cX12_makePiece 13 = .ok (.iload_n 1, 1) := by decide +kernel
theorem dX12_makePiece_14 : decode cX12_makePiece 14 = .ok (.iload_n 2, 1) := by decide +kernel
theorem dX12_makePiece_15 : decode cX12_makePiece 15 = .ok (.if_icmp .ne 88, 3) := by decide +kernel
theorem dX12_makePiece_18 : decode cX12_makePiece 18 = .ok (.aload_n 0, 1) := by decide +kernel
theorem dX12_makePiece_19 : decode cX12_makePiece 19 = .ok (.invokevirtual 301, 3) := by decide +kernel
theorem dX12_makePiece_22 : decode cX12_makePiece 22 = .ok (.aload_n 0, 1) := by decide +kernel
theorem dX12_makePiece_23 : decode cX12_makePiece 23 = .ok (.invokevirtual 269, 3) := by decide +kernel
theorem dX12_makePiece_26 : decode cX12_makePiece 26 = .ok (.aload_n 0, 1) := by decide +kernel
theorem dX12_makePiece_27 : decode cX12_makePiece 27 = .ok (.bipush 108, 2) := by decide +kernel
theorem dX12_makePiece_29 : decode cX12_makePiece 29 = .ok (.invokevirtual 250, 3) := by decide +kernel
theorem dX12_makePiece_32 : decode cX12_makePiece 32 = .ok (.aload_n 0, 1) := by decide +kernel
theorem dX12_makePiece_33 : decode cX12_makePiece 33 = .ok (.bipush 65, 2) := by decide +kernel
theorem dX12_makePiece_35 : decode cX12_makePiece 35 = .ok (.iload_n 1, 1) := by decide +kernel
theorem dX12_makePiece_36 : decode cX12_makePiece 36 = .ok (.iadd, 1) := by decide +kernel
theorem dX12_makePiece_37 : decode cX12_makePiece 37 = .ok (.invokevirtual 250, 3) := by decide +kernel
theorem dX12_makePiece_40 : decode cX12_makePiece 40 = .ok (.aload_n 0, 1) := by decide +kernel
theorem dX12_makePiece_41 : decode cX12_makePiece 41 = .ok (.aload_n 0, 1) := by decide +kernel
theorem dX12_makePiece_42 : decode cX12_makePiece 42 = .ok (.aload_n 0, 1) := by decide +kernel
theorem dX12_makePiece_43 : decode cX12_makePiece 43 = .ok (.getfield 95, 3) := by decide +kernel
theorem dX12_makePiece_46 : decode cX12_makePiece 46 = .ok (.iload_n 1, 1) := by decide +kernel
theorem dX12_makePiece_47 : decode cX12_makePiece 47 = .ok (.iaload, 1) := by decide +kernel
theorem dX12_makePiece_48 : decode cX12_makePiece 48 = .ok (.iconst 0, 1) := by decide +kernel
theorem dX12_makePiece_49 : decode cX12_makePiece 49 = .ok (.iconst 0, 1) := by decide +kernel
theorem dX12_makePiece_50 : decode cX12_makePiece 50 = .ok (.invokevirtual 259, 3) := by decide +kernel
theorem dX12_makePiece_53 : decode cX12_makePiece 53 = .ok (.ifCond .eq 7, 3) := by decide +kernel
theorem dX12_makePiece_56 : decode cX12_makePiece 56 = .ok (.iconst 1, 1) := by decide +kernel
theorem dX12_makePiece_57 : decode cX12_makePiece 57 = .ok (.goto 4, 3) := by decide +kernel
theorem dX12_makePiece_60 : decode cX12_makePiece 60 = .ok (.iconst 0, 1) := by decide +kernel
theorem dX12_makePiece_61 : decode cX12_makePiece 61 = .ok (.iconst 2, 1) := by decide +kernel
theorem dX12_makePiece_62 : decode cX12_makePiece 62 = .ok (.invokevirtual 280, 3) := by decide +kernel
theorem dX12_makePiece_65 : decode cX12_makePiece 65 = .ok (.aload_n 0, 1) := by decide +kernel
theorem dX12_makePiece_66 : decode cX12_makePiece 66 = .ok (.invokevirtual 269, 3) := by decide +kernel
theorem dX12_makePiece_69 : decode cX12_makePiece 69 = .ok (.aload_n 0, 1) := by decide +kernel
theorem dX12_makePiece_70 : decode cX12_makePiece 70 = .ok (.bipush 109, 2) := by decide +kernel
theorem dX12_makePiece_72 : decode cX12_makePiece 72 = .ok (.invokevirtual 250, 3) := by decide +kernel
theorem dX12_makePiece_75 : decode cX12_makePiece 75 = .ok (.aload_n 0, 1) := by decide +kernel
theorem dX12_makePiece_76 : decode cX12_makePiece 76 = .ok (.bipush 65, 2) := by decide +kernel
theorem dX12_makePiece_78 : decode cX12_makePiece 78 = .ok (.iload_n 1, 1) := by decide +kernel
theorem dX12_makePiece_79 : decode cX12_makePiece 79 = .ok (.iadd, 1) := by decide +kernel
theorem dX12_makePiece_80 : decode cX12_makePiece 80 = .ok (.invokevirtual 250, 3) := by decide +kernel
theorem dX12_makePiece_83 : decode cX12_makePiece 83 = .ok (.aload_n 0, 1) := by decide +kernel
theorem dX12_makePiece_84 : decode cX12_makePiece 84 = .ok (.aload_n 0, 1) := by decide +kernel
theorem dX12_makePiece_85 : decode cX12_makePiece 85 = .ok (.aload_n 0, 1) := by decide +kernel
theorem dX12_makePiece_86 : decode cX12_makePiece 86 = .ok (.getfield 95, 3) := by decide +kernel
theorem dX12_makePiece_89 : decode cX12_makePiece 89 = .ok (.iload_n 1, 1) := by decide +kernel
theorem dX12_makePiece_90 : decode cX12_makePiece 90 = .ok (.iaload, 1) := by decide +kernel
theorem dX12_makePiece_91 : decode cX12_makePiece 91 = .ok (.iconst 0, 1) := by decide +kernel
theorem dX12_makePiece_92 : decode cX12_makePiece 92 = .ok (.iconst 0, 1) := by decide +kernel
theorem dX12_makePiece_93 : decode cX12_makePiece 93 = .ok (.invokevirtual 304, 3) := by decide +kernel
theorem dX12_makePiece_96 : decode cX12_makePiece 96 = .ok (.iconst 1, 1) := by decide +kernel
theorem dX12_makePiece_97 : decode cX12_makePiece 97 = .ok (.invokevirtual 280, 3) := by decide +kernel
theorem dX12_makePiece_100 : decode cX12_makePiece 100 = .ok (.goto 127, 3) := by decide +kernel
theorem dX12_makePiece_103 : decode cX12_makePiece 103 = .ok (.aload_n 0, 1) := by decide +kernel
theorem dX12_makePiece_104 : decode cX12_makePiece 104 = .ok (.iload_n 1, 1) := by decide +kernel
theorem dX12_makePiece_105 : decode cX12_makePiece 105 = .ok (.iload_n 1, 1) := by decide +kernel
theorem dX12_makePiece_106 : decode cX12_makePiece 106 = .ok (.iconst 1, 1) := by decide +kernel
theorem dX12_makePiece_107 : decode cX12_makePiece 107 = .ok (.iadd, 1) := by decide +kernel
theorem dX12_makePiece_108 : decode cX12_makePiece 108 = .ok (.iload_n 2, 1) := by decide +kernel
theorem dX12_makePiece_109 : decode cX12_makePiece 109 = .ok (.iload_n 3, 1) := by decide +kernel
theorem dX12_makePiece_110 : decode cX12_makePiece 110 = .ok (.iload 4, 2) := by decide +kernel
theorem dX12_makePiece_112 : decode cX12_makePiece 112 = .ok (.iload 5, 2) := by decide +kernel
theorem dX12_makePiece_114 : decode cX12_makePiece 114 = .ok (.invokevirtual 319, 3) := by decide +kernel
theorem dX12_makePiece_117 : decode cX12_makePiece 117 = .ok (.aload_n 0, 1) := by decide +kernel
theorem dX12_makePiece_118 : decode cX12_makePiece 118 = .ok (.iload_n 2, 1) := by decide +kernel
theorem dX12_makePiece_119 : decode cX12_makePiece 119 = .ok (.iload_n 1, 1) := by decide +kernel
theorem dX12_makePiece_120 : decode cX12_makePiece 120 = .ok (.iload_n 2, 1) := by decide +kernel
theorem dX12_makePiece_121 : decode cX12_makePiece 121 = .ok (.iconst 1, 1) := by decide +kernel
theorem dX12_makePiece_122 : decode cX12_makePiece 122 = .ok (.isub, 1) := by decide +kernel
theorem dX12_makePiece_123 : decode cX12_makePiece 123 = .ok (.iload_n 3, 1) := by decide +kernel
theorem dX12_makePiece_124 : decode cX12_makePiece 124 = .ok (.iload 4, 2) := by decide +kernel
theorem dX12_makePiece_126 : decode cX12_makePiece 126 = .ok (.iload 5, 2) := by decide +kernel
theorem dX12_makePiece_128 : decode cX12_makePiece 128 = .ok (.invokevirtual 319, 3) := by decide +kernel
theorem dX12_makePiece_131 : decode cX12_makePiece 131 = .ok (.iload_n 2, 1) := by decide +kernel
theorem dX12_makePiece_132 : decode cX12_makePiece 132 = .ok (.iload_n 1, 1) := by decide +kernel
theorem dX12_makePiece_133 : decode cX12_makePiece 133 = .ok (.iconst 1, 1) := by decide +kernel
theorem dX12_makePiece_134 : decode cX12_makePiece 134 = .ok (.iadd, 1) := by decide +kernel
theorem dX12_makePiece_135 : decode cX12_makePiece 135 = .ok (.if_icmp .le 44, 3) := by decide +kernel
theorem dX12_makePiece_138 : decode cX12_makePiece 138 = .ok (.aload_n 0, 1) := by decide +kernel
theorem dX12_makePiece_139 : decode cX12_makePiece 139 = .ok (.getfield 56, 3) := by decide +kernel
theorem dX12_makePiece_142 : decode cX12_makePiece 142 = .ok (.aload_n 0, 1) := by decide +kernel
theorem dX12_makePiece_143 : decode cX12_makePiece 143 = .ok (.getfield 95, 3) := by decide +kernel
theorem dX12_makePiece_146 : decode cX12_makePiece 146 = .ok (.iload_n 2, 1) := by decide +kernel
theorem dX12_makePiece_147 : decode cX12_makePiece 147 = .ok (.iconst 1, 1) := by decide +kernel
theorem dX12_makePiece_148 : decode cX12_makePiece 148 = .ok (.isub, 1) := by decide +kernel
theorem dX12_makePiece_149 : decode cX12_makePiece 149 = .ok (.iaload, 1) := by decide +kernel
theorem dX12_makePiece_150 : decode cX12_makePiece 150 = .ok (.iaload, 1) := by decide +kernel
theorem dX12_makePiece_151 : decode cX12_makePiece 151 = .ok (.bipush 7, 2) := by decide +kernel
theorem dX12_makePiece_153 : decode cX12_makePiece 153 = .ok (.ishr, 1) := by decide +kernel
theorem dX12_makePiece_154 : decode cX12_makePiece 154 = .ok (.iconst 1, 1) := by decide +kernel
theorem dX12_makePiece_155 : decode cX12_makePiece 155 = .ok (.iand, 1) := by decide +kernel
theorem dX12_makePiece_156 : decode cX12_makePiece 156 = .ok (.iconst 1, 1) := by decide +kernel
theorem dX12_makePiece_157 : decode cX12_makePiece 157 = .ok (.if_icmp .ne 22, 3) := by decide +kernel
theorem dX12_makePiece_160 : decode cX12_makePiece 160 = .ok (.aload_n 0, 1) := by decide +kernel
theorem dX12_makePiece_161 : decode cX12_makePiece 161 = .ok (.bipush 105, 2) := by decide +kernel
theorem dX12_makePiece_163 : decode cX12_makePiece 163 = .ok (.iload_n 2, 1) := by decide +kernel
theorem dX12_makePiece_164 : decode cX12_makePiece 164 = .ok (.iconst 1, 1) := by decide +kernel
theorem dX12_makePiece_165 : decode cX12_makePiece 165 = .ok (.isub, 1) := by decide +kernel
theorem dX12_makePiece_166 : decode cX12_makePiece 166 = .ok (.iload_n 2, 1) := by decide +kernel
theorem dX12_makePiece_167 : decode cX12_makePiece 167 = .ok (.iload_n 1, 1) := by decide +kernel
theorem dX12_makePiece_168 : decode cX12_makePiece 168 = .ok (.iload_n 2, 1) := by decide +kernel
theorem dX12_makePiece_169 : decode cX12_makePiece 169 = .ok (.iconst 2, 1) := by decide +kernel
theorem dX12_makePiece_170 : decode cX12_makePiece 170 = .ok (.isub, 1) := by decide +kernel
theorem dX12_makePiece_171 : decode cX12_makePiece 171 = .ok (.iload_n 3, 1) := by decide +kernel
theorem dX12_makePiece_172 : decode cX12_makePiece 172 = .ok (.iload 4, 2) := by decide +kernel
theorem dX12_makePiece_174 : decode cX12_makePiece 174 = .ok (.iload 5, 2) := by decide +kernel
theorem dX12_makePiece_176 : decode cX12_makePiece 176 = .ok (.invokevirtual 323, 3) := by decide +kernel
theorem dX12_makePiece_179 : decode cX12_makePiece 179 = .ok (.iload_n 2, 1) := by decide +kernel
theorem dX12_makePiece_180 : decode cX12_makePiece 180 = .ok (.iload_n 1, 1) := by decide +kernel
theorem dX12_makePiece_181 : decode cX12_makePiece 181 = .ok (.iconst 1, 1) := by decide +kernel
theorem dX12_makePiece_182 : decode cX12_makePiece 182 = .ok (.iadd, 1) := by decide +kernel
theorem dX12_makePiece_183 : decode cX12_makePiece 183 = .ok (.if_icmp .le 44, 3) := by decide +kernel
theorem dX12_makePiece_186 : decode cX12_makePiece 186 = .ok (.aload_n 0, 1) := by decide +kernel
theorem dX12_makePiece_187 : decode cX12_makePiece 187 = .ok (.getfield 56, 3) := by decide +kernel
theorem dX12_makePiece_190 : decode cX12_makePiece 190 = .ok (.aload_n 0, 1) := by decide +kernel
theorem dX12_makePiece_191 : decode cX12_makePiece 191 = .ok (.getfield 95, 3) := by decide +kernel
theorem dX12_makePiece_194 : decode cX12_makePiece 194 = .ok (.iload_n 1, 1) := by decide +kernel
theorem dX12_makePiece_195 : decode cX12_makePiece 195 = .ok (.iconst 1, 1) := by decide +kernel
theorem dX12_makePiece_196 : decode cX12_makePiece 196 = .ok (.iadd, 1) := by decide +kernel
theorem dX12_makePiece_197 : decode cX12_makePiece 197 = .ok (.iaload, 1) := by decide +kernel
theorem dX12_makePiece_198 : decode cX12_makePiece 198 = .ok (.iaload, 1) := by decide +kernel
theorem dX12_makePiece_199 : decode cX12_makePiece 199 = .ok (.bipush 8, 2) := by decide +kernel
theorem dX12_makePiece_201 : decode cX12_makePiece 201 = .ok (.ishr, 1) := by decide +kernel
theorem dX12_makePiece_202 : decode cX12_makePiece 202 = .ok (.iconst 1, 1) := by decide +kernel
theorem dX12_makePiece_203 : decode cX12_makePiece 203 = .ok (.iand, 1) := by decide +kernel
theorem dX12_makePiece_204 : decode cX12_makePiece 204 = .ok (.iconst 1, 1) := by decide +kernel
theorem dX12_makePiece_205 : decode cX12_makePiece 205 = .ok (.if_icmp .ne 22, 3) := by decide +kernel
theorem dX12_makePiece_208 : decode cX12_makePiece 208 = .ok (.aload_n 0, 1) := by decide +kernel
theorem dX12_makePiece_209 : decode cX12_makePiece 209 = .ok (.bipush 97, 2) := by decide +kernel
theorem dX12_makePiece_211 : decode cX12_makePiece 211 = .ok (.iload_n 1, 1) := by decide +kernel
theorem dX12_makePiece_212 : decode cX12_makePiece 212 = .ok (.iconst 1, 1) := by decide +kernel
theorem dX12_makePiece_213 : decode cX12_makePiece 213 = .ok (.iadd, 1) := by decide +kernel
theorem dX12_makePiece_214 : decode cX12_makePiece 214 = .ok (.iload_n 1, 1) := by decide +kernel
theorem dX12_makePiece_215 : decode cX12_makePiece 215 = .ok (.iload_n 1, 1) := by decide +kernel
theorem dX12_makePiece_216 : decode cX12_makePiece 216 = .ok (.iconst 2, 1) := by decide +kernel
theorem dX12_makePiece_217 : decode cX12_makePiece 217 = .ok (.iadd, 1) := by decide +kernel
theorem dX12_makePiece_218 : decode cX12_makePiece 218 = .ok (.iload_n 2, 1) := by decide +kernel
theorem dX12_makePiece_219 : decode cX12_makePiece 219 = .ok (.iload_n 3, 1) := by decide +kernel
theorem dX12_makePiece_220 : decode cX12_makePiece 220 = .ok (.iload 4, 2) := by decide +kernel
theorem dX12_makePiece_222 : decode cX12_makePiece 222 = .ok (.iload 5, 2) := by decide +kernel
theorem dX12_makePiece_224 : decode cX12_makePiece 224 = .ok (.invokevirtual 323, 3) := by decide +kernel
theorem dX12_makePiece_227 : decode cX12_makePiece 227 = .ok (.iload_n 1, 1) := by decide +kernel
theorem dX12_makePiece_228 : decode cX12_makePiece 228 = .ok (.iload_n 2, 1) := by decide +kernel
theorem dX12_makePiece_229 : decode cX12_makePiece 229 = .ok (.iload_n 3, 1) := by decide +kernel
theorem dX12_makePiece_230 : decode cX12_makePiece 230 = .ok (.iload 4, 2) := by decide +kernel
theorem dX12_makePiece_232 : decode cX12_makePiece 232 = .ok (.iload 5, 2) := by decide +kernel
theorem dX12_makePiece_234 : decode cX12_makePiece 234 = .ok (.invokestatic 290, 3) := by decide +kernel
theorem dX12_makePiece_237 : decode cX12_makePiece 237 = .ok (.istore 6, 2) := by decide +kernel
theorem dX12_makePiece_239 : decode cX12_makePiece 239 = .ok (.aload_n 0, 1) := by decide +kernel
theorem dX12_makePiece_240 : decode cX12_makePiece 240 = .ok (.getfield 70, 3) := by decide +kernel
theorem dX12_makePiece_243 : decode cX12_makePiece 243 = .ok (.iload 6, 2) := by decide +kernel
theorem dX12_makePiece_245 : decode cX12_makePiece 245 = .ok (.aload_n 0, 1) := by decide +kernel
theorem dX12_makePiece_246 : decode cX12_makePiece 246 = .ok (.getfield 237, 3) := by decide +kernel
theorem dX12_makePiece_249 : decode cX12_makePiece 249 = .ok (.iastore, 1) := by decide +kernel
theorem dX12_makePiece_250 : decode cX12_makePiece 250 = .ok (.aload_n 0, 1) := by decide +kernel
theorem dX12_makePiece_251 : decode cX12_makePiece 251 = .ok (.getfield 73, 3) := by decide +kernel
theorem dX12_makePiece_254 : decode cX12_makePiece 254 = .ok (.iload 6, 2) := by decide +kernel
theorem dX12_makePiece_256 : decode cX12_makePiece 256 = .ok (.aload_n 0, 1) := by decide +kernel
theorem dX12_makePiece_257 : decode cX12_makePiece 257 = .ok (.getfield 241, 3) := by decide +kernel
theorem dX12_makePiece_260 : decode cX12_makePiece 260 = .ok (.iastore, 1) := by decide +kernel
theorem dX12_makePiece_261 : decode cX12_makePiece 261 = .ok (.aload_n 0, 1) := by decide +kernel
theorem dX12_makePiece_262 : decode cX12_makePiece 262 = .ok (.getfield 76, 3) := by decide +kernel
theorem dX12_makePiece_265 : decode cX12_makePiece 265 = .ok (.iload 6, 2) := by decide +kernel
theorem dX12_makePiece_267 : decode cX12_makePiece 267 = .ok (.aload_n 0, 1) := by decide +kernel
theorem dX12_makePiece_268 : decode cX12_makePiece 268 = .ok (.getfield 244, 3) := by decide +kernel
theorem dX12_makePiece_271 : decode cX12_makePiece 271 = .ok (.iastore, 1) := by decide +kernel
theorem dX12_makePiece_272 : decode cX12_makePiece 272 = .ok (.iconst 0, 1) := by decide +kernel
theorem dX12_makePiece_273 : decode cX12_makePiece 273 = .ok (.istore 7, 2) := by decide +kernel
theorem dX12_makePiece_275 : decode cX12_makePiece 275 = .ok (.iload 7, 2) := by decide +kernel
theorem dX12_makePiece_277 : decode cX12_makePiece 277 = .ok (.aload_n 0, 1) := by decide +kernel
theorem dX12_makePiece_278 : decode cX12_makePiece 278 = .ok (.getfield 244, 3) := by decide +kernel
theorem dX12_makePiece_281 : decode cX12_makePiece 281 = .ok (.if_icmp .ge 29, 3) := by decide +kernel
theorem dX12_makePiece_284 : decode cX12_makePiece 284 = .ok (.aload_n 0, 1) := by decide +kernel
theorem dX12_makePiece_285 : decode cX12_makePiece 285 = .ok (.getfield 89, 3) := by decide +kernel
theorem dX12_makePiece_288 : decode cX12_makePiece 288 = .ok (.bipush 40, 2) := by decide +kernel
theorem dX12_makePiece_290 : decode cX12_makePiece 290 = .ok (.iload 6, 2) := by decide +kernel
theorem dX12_makePiece_292 : decode cX12_makePiece 292 = .ok (.imul, 1) := by decide +kernel
theorem dX12_makePiece_293 : decode cX12_makePiece 293 = .ok (.iload 7, 2) := by decide +kernel
theorem dX12_makePiece_295 : decode cX12_makePiece 295 = .ok (.iadd, 1) := by decide +kernel
theorem dX12_makePiece_296 : decode cX12_makePiece 296 = .ok (.aload_n 0, 1) := by decide +kernel
theorem dX12_makePiece_297 : decode cX12_makePiece 297 = .ok (.getfield 110, 3) := by decide +kernel
theorem dX12_makePiece_300 : decode cX12_makePiece 300 = .ok (.iload 7, 2) := by decide +kernel
theorem dX12_makePiece_302 : decode cX12_makePiece 302 = .ok (.baload, 1) := by decide +kernel
theorem dX12_makePiece_303 : decode cX12_makePiece 303 = .ok (.bastore, 1) := by decide +kernel
theorem dX12_makePiece_304 : decode cX12_makePiece 304 = .ok (.iinc 7 1, 3) := by decide +kernel
theorem dX12_makePiece_307 : decode cX12_makePiece 307 = .ok (.goto (-32), 3) := by decide +kernel
theorem dX12_makePiece_310 : decode cX12_makePiece 310 = .ok (.return_, 1) := by decide +kernel
def K_X12_makePiece_179 (G : xG) (l : Launch) (d : Nat) (P : xMem → Prop) (v1 v2 v3 v4 v5 : Int) (μ : xMem) : Prop := RR G l d 0 0 false mX12_makePiece (qV P) 179 [some (xr G 74), some (xi v1), some (xi v2), some (xi v3), some (xi v4), some (xi v5), none, none] [] LAY μ 0 0
def K_X12_makePiece_61 (G : xG) (l : Launch) (d : Nat) (P : xMem → Prop) (v1 v2 v3 v4 v5 s1 : Int) (μ : xMem) : Prop := RR G l d 0 0 false mX12_makePiece (qV P) 61 [some (xr G 74), some (xi v1), some (xi v2), some (xi v3), some (xi v4), some (xi v5), none, none] [xi s1, xr G 74] LAY μ 0 0
def K_X12_makePiece_227 (G : xG) (l : Launch) (d : Nat) (P : xMem → Prop) (v1 v2 v3 v4 v5 : Int) (μ : xMem) : Prop := RR G l d 0 0 false mX12_makePiece (qV P) 227 [some (xr G 74), some (xi v1), some (xi v2), some (xi v3), some (xi v4), some (xi v5), none, none] [] LAY μ 0 0
def K_X12_makePiece_275 (G : xG) (l : Launch) (d : Nat) (P : xMem → Prop) (v6 v7 : Int) (μ : xMem) : Prop := RR G l d 0 0 false mX12_makePiece (qV P) 275 [some (xr G 74), none, none, none, none, none, some (xi v6), some (xi v7)] [] LAY μ 0 0
set_option maxRecDepth 20000 in
theorem E_X12_makePiece {G : xG} {l : Launch} {d : Nat} {P : xMem → Prop} {v1 v2 v3 v4 v5 : Int} {μ : xMem} (h : CV G l d mX12_clear [xr G 74] μ (fun m2 => CV G l d mX12_takeRun [xr G 74, xi v3, xi v4, xi v5] m2 (fun m4 => (iR v1 ∧ iR v2 ∧ (v1 ≠ v2 → CV G l d mX12_bySign [xr G 74, xi v1, xi (v1 + 1), xi v2, xi v3, xi v4, xi v5] m4 (fun m10 => CV G l d mX12_bySign [xr G 74, xi v2, xi v1, xi (v2 - 1), xi v3, xi v4, xi v5] m10 (fun m12 => (iR (v1 + 1) ∧ (v2 ≤ (v1 + 1) → K_X12_makePiece_179 G l (d + 1) P v1 v2 v3 v4 v5 m12) ∧ ((v1 + 1) < v2 → ((0 ≤ v2 - 1 ∧ v2 - 1 < 8) ∧ ((0 ≤ m12 100 (v2 - 1) ∧ m12 100 (v2 - 1) < 120) ∧ (((jand (jshr (m12 90 (m12 100 (v2 - 1))) 7) 1) ≠ 1 → K_X12_makePiece_179 G l (d + 1) P v1 v2 v3 v4 v5 m12) ∧ ((jand (jshr (m12 90 (m12 100 (v2 - 1))) 7) 1) = 1 → CV G l d mX12_putIn [xr G 74, xi 105, xi (v2 - 1), xi v2, xi v1, xi (v2 - 2), xi v3, xi v4, xi v5] m12 (fun m21 => K_X12_makePiece_179 G l (d + 1) P v1 v2 v3 v4 v5 m21)))))))))) ∧ (v1 = v2 → CV G l d mX12_runAround [xr G 74] m4 (fun m23 => CV G l d mX12_open [xr G 74] m23 (fun m25 => CV G l d mX12_say [xr G 74, xi 108] m25 (fun m27 => CV G l d mX12_say [xr G 74, xi (65 + v1)] m27 (fun m29 => ((0 ≤ v1 ∧ v1 < 8) ∧ CI G l d mX12_isAround [xr G 74, xi (m29 100 v1), xi 0, xi 0] m29 (fun r31 m32 => ((r31 = 0 → K_X12_makePiece_61 G l (d + 1) P v1 v2 v3 v4 v5 0 m32) ∧ (r31 ≠ 0 → K_X12_makePiece_61 G l (d + 1) P v1 v2 v3 v4 v5 1 m32))))))))))))) : CV G l (d + 1) mX12_makePiece [xr G 74, xi v1, xi v2, xi v3, xi v4, xi v5] μ P := by
  refine CC.ofRR (ll := [some (xr G 74), some (xi v1), some (xi v2), some (xi v3), some (xi v4), some (xi v5), none, none]) (by decide +kernel) (Nat.le_of_ble_eq_true rfl) rfl (fun h => by cases h) ?_
  refine xr_aload_n dX12_makePiece_0 rfl ?_
  refine xr_cvV (As := []) dX12_makePiece_1 mi_X12_clear ml_X12_312 se_X12_clear L_74 rfl rfl rfl (Nat.le_of_ble_eq_true rfl) h (fun m2 h => ?_)
  refine xr_aload_n dX12_makePiece_4 rfl ?_
  refine xr_iload_n dX12_makePiece_5 rfl ?_
  refine xr_iload dX12_makePiece_6 rfl ?_
  refine xr_iload dX12_makePiece_8 rfl ?_
  refine xr_cvV (As := [xi v3, xi v4, xi v5]) dX12_makePiece_10 mi_X12_takeRun ml_X12_315 se_X12_takeRun L_74 rfl rfl rfl (Nat.le_of_ble_eq_true rfl) h (fun m4 h => ?_)
  refine xr_iload_n dX12_makePiece_13 rfl ?_
  refine xr_iload_n dX12_makePiece_14 rfl ?_
  obtain ⟨q5, q6, hT7, hF8⟩ := h
  refine xr_icmp_ne (tgt := 103) dX12_makePiece_15 (by decide) q5 q6 (fun c => ?_) (fun c => ?_)
  · have h := hT7 c
    refine xr_aload_n dX12_makePiece_103 rfl ?_
    refine xr_iload_n dX12_makePiece_104 rfl ?_
    refine xr_iload_n dX12_makePiece_105 rfl ?_
    refine xr_iconst dX12_makePiece_106 ?_
    refine xr_iadd dX12_makePiece_107 ?_
    refine xr_iload_n dX12_makePiece_108 rfl ?_
    refine xr_iload_n dX12_makePiece_109 rfl ?_
    refine xr_iload dX12_makePiece_110 rfl ?_
    refine xr_iload dX12_makePiece_112 rfl ?_
    refine xr_cvV (As := [xi v1, xi (v1 + 1), xi v2, xi v3, xi v4, xi v5]) dX12_makePiece_114 mi_X12_bySign ml_X12_319 se_X12_bySign L_74 rfl rfl rfl (Nat.le_of_ble_eq_true rfl) h (fun m10 h => ?_)
    refine xr_aload_n dX12_makePiece_117 rfl ?_
    refine xr_iload_n dX12_makePiece_118 rfl ?_
    refine xr_iload_n dX12_makePiece_119 rfl ?_
    refine xr_iload_n dX12_makePiece_120 rfl ?_
    refine xr_iconst dX12_makePiece_121 ?_
    refine xr_isub dX12_makePiece_122 ?_
    refine xr_iload_n dX12_makePiece_123 rfl ?_
    refine xr_iload dX12_makePiece_124 rfl ?_
    refine xr_iload dX12_makePiece_126 rfl ?_
    refine xr_cvV (As := [xi v2, xi v1, xi (v2 - 1), xi v3, xi v4, xi v5]) dX12_makePiece_128 mi_X12_bySign ml_X12_319 se_X12_bySign L_74 rfl rfl rfl (Nat.le_of_ble_eq_true rfl) h (fun m12 h => ?_)
    refine xr_iload_n dX12_makePiece_131 rfl ?_
    refine xr_iload_n dX12_makePiece_132 rfl ?_
    refine xr_iconst dX12_makePiece_133 ?_
    refine xr_iadd dX12_makePiece_134 ?_
    obtain ⟨q13, hT14, hF15⟩ := h
    refine xr_icmp_le (tgt := 179) dX12_makePiece_135 (by decide) q6 q13 (fun c => ?_) (fun c => ?_)
    · have h := hT14 c
      exact h
    · have h := hF15 (Int.not_le.mp c)
      refine xr_aload_n dX12_makePiece_138 rfl ?_
      refine xr_getR dX12_makePiece_139 fl_X12_56 L_74 rfl ?_
      refine xr_aload_n dX12_makePiece_142 rfl ?_
      refine xr_getR dX12_makePiece_143 fl_X12_95 L_74 rfl ?_
      refine xr_iload_n dX12_makePiece_146 rfl ?_
      refine xr_iconst dX12_makePiece_147 ?_
      refine xr_isub dX12_makePiece_148 ?_
      obtain ⟨q16, h⟩ := h
      refine xr_iaload' (v := m12 100 (v2 - 1)) dX12_makePiece_149 L_100 rfl (by decide) q16 rfl ?_
      obtain ⟨q17, h⟩ := h
      refine xr_iaload' (v := m12 90 (m12 100 (v2 - 1))) dX12_makePiece_150 L_90 rfl (by decide) q17 rfl ?_
      refine xr_bipush dX12_makePiece_151 (by decide) ?_
      refine xr_ishr dX12_makePiece_153 ?_
      refine xr_iconst dX12_makePiece_154 ?_
      refine xr_iand dX12_makePiece_155 ?_
      refine xr_iconst dX12_makePiece_156 ?_
      obtain ⟨hT18, hF19⟩ := h
      refine xr_icmp_ne (tgt := 179) dX12_makePiece_157 (by decide) (jR_and _ _) (by decide) (fun c => ?_) (fun c => ?_)
      · have h := hT18 c
        exact h
      · have h := hF19 c
        refine xr_aload_n dX12_makePiece_160 rfl ?_
        refine xr_bipush dX12_makePiece_161 (by decide) ?_
        refine xr_iload_n dX12_makePiece_163 rfl ?_
        refine xr_iconst dX12_makePiece_164 ?_
        refine xr_isub dX12_makePiece_165 ?_
        refine xr_iload_n dX12_makePiece_166 rfl ?_
        refine xr_iload_n dX12_makePiece_167 rfl ?_
        refine xr_iload_n dX12_makePiece_168 rfl ?_
        refine xr_iconst dX12_makePiece_169 ?_
        refine xr_isub dX12_makePiece_170 ?_
        refine xr_iload_n dX12_makePiece_171 rfl ?_
        refine xr_iload dX12_makePiece_172 rfl ?_
        refine xr_iload dX12_makePiece_174 rfl ?_
        refine xr_cvV (As := [xi 105, xi (v2 - 1), xi v2, xi v1, xi (v2 - 2), xi v3, xi v4, xi v5]) dX12_makePiece_176 mi_X12_putIn ml_X12_323 se_X12_putIn L_74 rfl rfl rfl (Nat.le_of_ble_eq_true rfl) h (fun m21 h => ?_)
        exact h
  · have h := hF8 c
    refine xr_aload_n dX12_makePiece_18 rfl ?_
    refine xr_cvV (As := []) dX12_makePiece_19 mi_X12_runAround ml_X12_301 se_X12_runAround L_74 rfl rfl rfl (Nat.le_of_ble_eq_true rfl) h (fun m23 h => ?_)
    refine xr_aload_n dX12_makePiece_22 rfl ?_
    refine xr_cvV (As := []) dX12_makePiece_23 mi_X12_open ml_X12_269 se_X12_open L_74 rfl rfl rfl (Nat.le_of_ble_eq_true rfl) h (fun m25 h => ?_)
    refine xr_aload_n dX12_makePiece_26 rfl ?_
    refine xr_bipush dX12_makePiece_27 (by decide) ?_
    refine xr_cvV (As := [xi 108]) dX12_makePiece_29 mi_X12_say ml_X12_250 se_X12_say L_74 rfl rfl rfl (Nat.le_of_ble_eq_true rfl) h (fun m27 h => ?_)
    refine xr_aload_n dX12_makePiece_32 rfl ?_
    refine xr_bipush dX12_makePiece_33 (by decide) ?_
    refine xr_iload_n dX12_makePiece_35 rfl ?_
    refine xr_iadd dX12_makePiece_36 ?_
    refine xr_cvV (As := [xi (65 + v1)]) dX12_makePiece_37 mi_X12_say ml_X12_250 se_X12_say L_74 rfl rfl rfl (Nat.le_of_ble_eq_true rfl) h (fun m29 h => ?_)
    refine xr_aload_n dX12_makePiece_40 rfl ?_
    refine xr_aload_n dX12_makePiece_41 rfl ?_
    refine xr_aload_n dX12_makePiece_42 rfl ?_
    refine xr_getR dX12_makePiece_43 fl_X12_95 L_74 rfl ?_
    refine xr_iload_n dX12_makePiece_46 rfl ?_
    obtain ⟨q30, h⟩ := h
    refine xr_iaload' (v := m29 100 v1) dX12_makePiece_47 L_100 rfl (by decide) q30 rfl ?_
    refine xr_iconst dX12_makePiece_48 ?_
    refine xr_iconst dX12_makePiece_49 ?_
    refine xr_cvI (As := [xi (m29 100 v1), xi 0, xi 0]) dX12_makePiece_50 mi_X12_isAround ml_X12_259 se_X12_isAround L_74 rfl rfl rfl (Nat.le_of_ble_eq_true rfl) h (fun r31 m32 hr31 h => ?_)
    obtain ⟨hT33, hF34⟩ := h
    refine xr_if_eq (tgt := 60) dX12_makePiece_53 (by decide) hr31  (fun c => ?_) (fun c => ?_)
    · have h := hT33 c
      refine xr_iconst dX12_makePiece_60 ?_
      exact h
    · have h := hF34 c
      refine xr_iconst dX12_makePiece_56 ?_
      refine xr_goto (tgt := 61) dX12_makePiece_57 (by decide) ?_
      exact h
set_option maxRecDepth 20000 in
theorem B_X12_makePiece_179 {G : xG} {l : Launch} {d : Nat} {P : xMem → Prop} {v1 v2 v3 v4 v5 : Int} {μ : xMem} (h : (iR v2 ∧ iR (v1 + 1) ∧ (v2 ≤ (v1 + 1) → K_X12_makePiece_227 G l (d + 1) P v1 v2 v3 v4 v5 μ) ∧ ((v1 + 1) < v2 → ((0 ≤ v1 + 1 ∧ v1 + 1 < 8) ∧ ((0 ≤ μ 100 (v1 + 1) ∧ μ 100 (v1 + 1) < 120) ∧ (((jand (jshr (μ 90 (μ 100 (v1 + 1))) 8) 1) ≠ 1 → K_X12_makePiece_227 G l (d + 1) P v1 v2 v3 v4 v5 μ) ∧ ((jand (jshr (μ 90 (μ 100 (v1 + 1))) 8) 1) = 1 → CV G l d mX12_putIn [xr G 74, xi 97, xi (v1 + 1), xi v1, xi (v1 + 2), xi v2, xi v3, xi v4, xi v5] μ (fun m10 => K_X12_makePiece_227 G l (d + 1) P v1 v2 v3 v4 v5 m10)))))))) : K_X12_makePiece_179 G l (d + 1) P v1 v2 v3 v4 v5 μ := by
  unfold K_X12_makePiece_179
  refine xr_iload_n dX12_makePiece_179 rfl ?_
  refine xr_iload_n dX12_makePiece_180 rfl ?_
  refine xr_iconst dX12_makePiece_181 ?_
  refine xr_iadd dX12_makePiece_182 ?_
  obtain ⟨q1, q2, hT3, hF4⟩ := h
  refine xr_icmp_le (tgt := 227) dX12_makePiece_183 (by decide) q1 q2 (fun c => ?_) (fun c => ?_)
  · have h := hT3 c
    exact h
  · have h := hF4 (Int.not_le.mp c)
    refine xr_aload_n dX12_makePiece_186 rfl ?_
    refine xr_getR dX12_makePiece_187 fl_X12_56 L_74 rfl ?_
    refine xr_aload_n dX12_makePiece_190 rfl ?_
    refine xr_getR dX12_makePiece_191 fl_X12_95 L_74 rfl ?_
    refine xr_iload_n dX12_makePiece_194 rfl ?_
    refine xr_iconst dX12_makePiece_195 ?_
    refine xr_iadd dX12_makePiece_196 ?_
    obtain ⟨q5, h⟩ := h
    refine xr_iaload' (v := μ 100 (v1 + 1)) dX12_makePiece_197 L_100 rfl (by decide) q5 rfl ?_
    obtain ⟨q6, h⟩ := h
    refine xr_iaload' (v := μ 90 (μ 100 (v1 + 1))) dX12_makePiece_198 L_90 rfl (by decide) q6 rfl ?_
    refine xr_bipush dX12_makePiece_199 (by decide) ?_
    refine xr_ishr dX12_makePiece_201 ?_
    refine xr_iconst dX12_makePiece_202 ?_
    refine xr_iand dX12_makePiece_203 ?_
    refine xr_iconst dX12_makePiece_204 ?_
    obtain ⟨hT7, hF8⟩ := h
    refine xr_icmp_ne (tgt := 227) dX12_makePiece_205 (by decide) (jR_and _ _) (by decide) (fun c => ?_) (fun c => ?_)
    · have h := hT7 c
      exact h
    · have h := hF8 c
      refine xr_aload_n dX12_makePiece_208 rfl ?_
      refine xr_bipush dX12_makePiece_209 (by decide) ?_
      refine xr_iload_n dX12_makePiece_211 rfl ?_
      refine xr_iconst dX12_makePiece_212 ?_
      refine xr_iadd dX12_makePiece_213 ?_
      refine xr_iload_n dX12_makePiece_214 rfl ?_
      refine xr_iload_n dX12_makePiece_215 rfl ?_
      refine xr_iconst dX12_makePiece_216 ?_
      refine xr_iadd dX12_makePiece_217 ?_
      refine xr_iload_n dX12_makePiece_218 rfl ?_
      refine xr_iload_n dX12_makePiece_219 rfl ?_
      refine xr_iload dX12_makePiece_220 rfl ?_
      refine xr_iload dX12_makePiece_222 rfl ?_
      refine xr_cvV (As := [xi 97, xi (v1 + 1), xi v1, xi (v1 + 2), xi v2, xi v3, xi v4, xi v5]) dX12_makePiece_224 mi_X12_putIn ml_X12_323 se_X12_putIn L_74 rfl rfl rfl (Nat.le_of_ble_eq_true rfl) h (fun m10 h => ?_)
      exact h
set_option maxRecDepth 20000 in
theorem B_X12_makePiece_61 {G : xG} {l : Launch} {d : Nat} {P : xMem → Prop} {v1 v2 v3 v4 v5 s1 : Int} {μ : xMem} (h : CV G l d mX12_offer [xr G 74, xi s1, xi 2] μ (fun m2 => CV G l d mX12_open [xr G 74] m2 (fun m4 => CV G l d mX12_say [xr G 74, xi 109] m4 (fun m6 => CV G l d mX12_say [xr G 74, xi (65 + v1)] m6 (fun m8 => ((0 ≤ v1 ∧ v1 < 8) ∧ CI G l d mX12_meant [xr G 74, xi (m8 100 v1), xi 0, xi 0] m8 (fun r10 m11 => CV G l d mX12_offer [xr G 74, xi r10, xi 1] m11 (fun m13 => K_X12_makePiece_227 G l (d + 1) P v1 v2 v3 v4 v5 m13)))))))) : K_X12_makePiece_61 G l (d + 1) P v1 v2 v3 v4 v5 s1 μ := by
  unfold K_X12_makePiece_61
  refine xr_iconst dX12_makePiece_61 ?_
  refine xr_cvV (As := [xi s1, xi 2]) dX12_makePiece_62 mi_X12_offer ml_X12_280 se_X12_offer L_74 rfl rfl rfl (Nat.le_of_ble_eq_true rfl) h (fun m2 h => ?_)
  refine xr_aload_n dX12_makePiece_65 rfl ?_
  refine xr_cvV (As := []) dX12_makePiece_66 mi_X12_open ml_X12_269 se_X12_open L_74 rfl rfl rfl (Nat.le_of_ble_eq_true rfl) h (fun m4 h => ?_)
  refine xr_aload_n dX12_makePiece_69 rfl ?_
  refine xr_bipush dX12_makePiece_70 (by decide) ?_
  refine xr_cvV (As := [xi 109]) dX12_makePiece_72 mi_X12_say ml_X12_250 se_X12_say L_74 rfl rfl rfl (Nat.le_of_ble_eq_true rfl) h (fun m6 h => ?_)
  refine xr_aload_n dX12_makePiece_75 rfl ?_
  refine xr_bipush dX12_makePiece_76 (by decide) ?_
  refine xr_iload_n dX12_makePiece_78 rfl ?_
  refine xr_iadd dX12_makePiece_79 ?_
  refine xr_cvV (As := [xi (65 + v1)]) dX12_makePiece_80 mi_X12_say ml_X12_250 se_X12_say L_74 rfl rfl rfl (Nat.le_of_ble_eq_true rfl) h (fun m8 h => ?_)
  refine xr_aload_n dX12_makePiece_83 rfl ?_
  refine xr_aload_n dX12_makePiece_84 rfl ?_
  refine xr_aload_n dX12_makePiece_85 rfl ?_
  refine xr_getR dX12_makePiece_86 fl_X12_95 L_74 rfl ?_
  refine xr_iload_n dX12_makePiece_89 rfl ?_
  obtain ⟨q9, h⟩ := h
  refine xr_iaload' (v := m8 100 v1) dX12_makePiece_90 L_100 rfl (by decide) q9 rfl ?_
  refine xr_iconst dX12_makePiece_91 ?_
  refine xr_iconst dX12_makePiece_92 ?_
  refine xr_cvI (As := [xi (m8 100 v1), xi 0, xi 0]) dX12_makePiece_93 mi_X12_meant ml_X12_304 se_X12_meant L_74 rfl rfl rfl (Nat.le_of_ble_eq_true rfl) h (fun r10 m11 hr10 h => ?_)
  refine xr_iconst dX12_makePiece_96 ?_
  refine xr_cvV (As := [xi r10, xi 1]) dX12_makePiece_97 mi_X12_offer ml_X12_280 se_X12_offer L_74 rfl rfl rfl (Nat.le_of_ble_eq_true rfl) h (fun m13 h => ?_)
  refine xr_goto (tgt := 227) dX12_makePiece_100 (by decide) ?_
  exact h
set_option maxRecDepth 20000 in
theorem B_X12_makePiece_227 {G : xG} {l : Launch} {d : Nat} {P : xMem → Prop} {v1 v2 v3 v4 v5 : Int} {μ : xMem} (h : CI G l d mX12_at [xi v1, xi v2, xi v3, xi v4, xi v5] μ (fun r1 m2 => ((0 ≤ r1 ∧ r1 < 3960) ∧ K_X12_makePiece_275 G l (d + 1) P r1 0 (st2 (st2 (st2 m2 92 r1 (m2 74 46)) 93 r1 (m2 74 47)) 94 r1 (m2 74 48))))) : K_X12_makePiece_227 G l (d + 1) P v1 v2 v3 v4 v5 μ := by
  unfold K_X12_makePiece_227
  refine xr_iload_n dX12_makePiece_227 rfl ?_
  refine xr_iload_n dX12_makePiece_228 rfl ?_
  refine xr_iload_n dX12_makePiece_229 rfl ?_
  refine xr_iload dX12_makePiece_230 rfl ?_
  refine xr_iload dX12_makePiece_232 rfl ?_
  refine xr_csI (As := [xi v1, xi v2, xi v3, xi v4, xi v5]) dX12_makePiece_234 ms_X12_at ml_X12_290 rfl rfl (Nat.le_of_ble_eq_true rfl) h (fun r1 m2 hr1 h => ?_)
  refine xr_istore' (ll' := [some (xr G 74), some (xi v1), some (xi v2), some (xi v3), some (xi v4), some (xi v5), some (xi r1), none]) dX12_makePiece_237 (by decide) rfl rfl ?_
  refine xr_aload_n dX12_makePiece_239 rfl ?_
  refine xr_getR dX12_makePiece_240 fl_X12_70 L_74 rfl ?_
  refine xr_iload dX12_makePiece_243 rfl ?_
  refine xr_aload_n dX12_makePiece_245 rfl ?_
  refine xr_getI' (v := m2 74 46) dX12_makePiece_246 fl_X12_237 L_74 rfl rfl rfl ?_
  obtain ⟨q3, h⟩ := h
  refine xr_iastore dX12_makePiece_249 L_92 rfl (by decide) q3 ?_
  refine xr_aload_n dX12_makePiece_250 rfl ?_
  refine xr_getR dX12_makePiece_251 fl_X12_73 L_74 rfl ?_
  refine xr_iload dX12_makePiece_254 rfl ?_
  refine xr_aload_n dX12_makePiece_256 rfl ?_
  refine xr_getI' (v := m2 74 47) dX12_makePiece_257 fl_X12_241 L_74 rfl rfl (by simp [st2, cpy]) ?_
  refine xr_iastore dX12_makePiece_260 L_93 rfl (by decide) q3 ?_
  refine xr_aload_n dX12_makePiece_261 rfl ?_
  refine xr_getR dX12_makePiece_262 fl_X12_76 L_74 rfl ?_
  refine xr_iload dX12_makePiece_265 rfl ?_
  refine xr_aload_n dX12_makePiece_267 rfl ?_
  refine xr_getI' (v := m2 74 48) dX12_makePiece_268 fl_X12_244 L_74 rfl rfl (by simp [st2, cpy]) ?_
  refine xr_iastore dX12_makePiece_271 L_94 rfl (by decide) q3 ?_
  refine xr_iconst dX12_makePiece_272 ?_
  refine xr_istore' (ll' := [some (xr G 74), some (xi v1), some (xi v2), some (xi v3), some (xi v4), some (xi v5), some (xi r1), some (xi 0)]) dX12_makePiece_273 (by decide) rfl rfl ?_
  refine xr_wk (ll' := [some (xr G 74), none, none, none, none, none, some (xi r1), some (xi 0)]) ⟨rfl, ⟨rfl, ⟨rfl, trivial⟩⟩⟩ ?_
  exact h
set_option maxRecDepth 20000 in
theorem B_X12_makePiece_275 {G : xG} {l : Launch} {d : Nat} {P : xMem → Prop} {v6 v7 : Int} {μ : xMem} (h : (iR v7 ∧ iR (μ 74 48) ∧ ((μ 74 48) ≤ v7 → P μ) ∧ (v7 < (μ 74 48) → ((0 ≤ v7 ∧ v7 < 40) ∧ ((0 ≤ (40 * v6) + v7 ∧ (40 * v6) + v7 < 158400) ∧ K_X12_makePiece_275 G l (d + 1) P v6 (v7 + 1) (st2 μ 98 ((40 * v6) + v7) (j8 (μ 105 v7)))))))) : K_X12_makePiece_275 G l (d + 1) P v6 v7 μ := by
  unfold K_X12_makePiece_275
  refine xr_iload dX12_makePiece_275 rfl ?_
  refine xr_aload_n dX12_makePiece_277 rfl ?_
  refine xr_getI' (v := μ 74 48) dX12_makePiece_278 fl_X12_244 L_74 rfl rfl rfl ?_
  obtain ⟨q1, q2, hT3, hF4⟩ := h
  refine xr_icmp_ge (tgt := 310) dX12_makePiece_281 (by decide) q1 q2 (fun c => ?_) (fun c => ?_)
  · have h := hT3 c
    exact xr_ret dX12_makePiece_310 rfl ⟨rfl, rfl, h⟩
  · have h := hF4 (Int.not_le.mp c)
    refine xr_aload_n dX12_makePiece_284 rfl ?_
    refine xr_getR dX12_makePiece_285 fl_X12_89 L_74 rfl ?_
    refine xr_bipush dX12_makePiece_288 (by decide) ?_
    refine xr_iload dX12_makePiece_290 rfl ?_
    refine xr_imul dX12_makePiece_292 ?_
    refine xr_iload dX12_makePiece_293 rfl ?_
    refine xr_iadd dX12_makePiece_295 ?_
    refine xr_aload_n dX12_makePiece_296 rfl ?_
    refine xr_getR dX12_makePiece_297 fl_X12_110 L_74 rfl ?_
    refine xr_iload dX12_makePiece_300 rfl ?_
    obtain ⟨q5, h⟩ := h
    refine xr_baload' (v := μ 105 v7) dX12_makePiece_302 L_105 rfl (by decide) q5 rfl ?_
    obtain ⟨q6, h⟩ := h
    refine xr_bastore dX12_makePiece_303 L_98 rfl (by decide) q6 ?_
    refine xr_iinc' (ll' := [some (xr G 74), none, none, none, none, none, some (xi v6), some (xi (v7 + 1))]) dX12_makePiece_304 rfl (by decide) rfl rfl ?_
    refine xr_goto (tgt := 275) dX12_makePiece_307 (by decide) ?_
    exact h
theorem dX12_makeRow_0 : decode cX12_makeRow 0 = .ok (.aload_n 0, 1) := by decide +kernel
theorem dX12_makeRow_1 : decode cX12_makeRow 1 = .ok (.invokevirtual 312, 3) := by decide +kernel
theorem dX12_makeRow_4 : decode cX12_makeRow 4 = .ok (.iload_n 1, 1) := by decide +kernel
theorem dX12_makeRow_5 : decode cX12_makeRow 5 = .ok (.iload_n 2, 1) := by decide +kernel
theorem dX12_makeRow_6 : decode cX12_makeRow 6 = .ok (.iload_n 3, 1) := by decide +kernel
theorem dX12_makeRow_7 : decode cX12_makeRow 7 = .ok (.iload 4, 2) := by decide +kernel
theorem dX12_makeRow_9 : decode cX12_makeRow 9 = .ok (.iload 5, 2) := by decide +kernel
theorem dX12_makeRow_11 : decode cX12_makeRow 11 = .ok (.invokestatic 290, 3) := by decide +kernel
theorem dX12_makeRow_14 : decode cX12_makeRow 14 = .ok (.istore 6, 2) := by decide +kernel
theorem dX12_makeRow_16 : decode cX12_makeRow 16 = .ok (.aload_n 0, 1) := by decide +kernel
theorem dX12_makeRow_17 : decode cX12_makeRow 17 = .ok (.invokevirtual 269, 3) := by decide +kernel
theorem dX12_makeRow_20 : decode cX12_makeRow 20 = .ok (.aload_n 0, 1) := by decide +kernel
theorem dX12_makeRow_21 : decode cX12_makeRow 21 = .ok (.iload 6, 2) := by decide +kernel
theorem dX12_makeRow_23 : decode cX12_makeRow 23 = .ok (.invokevirtual 327, 3) := by decide +kernel
theorem dX12_makeRow_26 : decode cX12_makeRow 26 = .ok (.aload_n 0, 1) := by decide +kernel
theorem dX12_makeRow_27 : decode cX12_makeRow 27 = .ok (.aload_n 0, 1) := by decide +kernel
theorem dX12_makeRow_28 : decode cX12_makeRow 28 = .ok (.getfield 70, 3) := by decide +kernel
theorem dX12_makeRow_31 : decode cX12_makeRow 31 = .ok (.iload 6, 2) := by decide +kernel
theorem dX12_makeRow_33 : decode cX12_makeRow 33 = .ok (.iaload, 1) := by decide +kernel
theorem dX12_makeRow_34 : decode cX12_makeRow 34 = .ok (.aload_n 0, 1) := by decide +kernel
theorem dX12_makeRow_35 : decode cX12_makeRow 35 = .ok (.getfield 73, 3) := by decide +kernel
theorem dX12_makeRow_38 : decode cX12_makeRow 38 = .ok (.iload 6, 2) := by decide +kernel
theorem dX12_makeRow_40 : decode cX12_makeRow 40 = .ok (.iaload, 1) := by decide +kernel
theorem dX12_makeRow_41 : decode cX12_makeRow 41 = .ok (.invokevirtual 280, 3) := by decide +kernel
theorem dX12_makeRow_44 : decode cX12_makeRow 44 = .ok (.iload_n 1, 1) := by decide +kernel
theorem dX12_makeRow_45 : decode cX12_makeRow 45 = .ok (.istore 7, 2) := by decide +kernel
theorem dX12_makeRow_47 : decode cX12_makeRow 47 = .ok (.iload 7, 2) := by decide +kernel
theorem dX12_makeRow_49 : decode cX12_makeRow 49 = .ok (.iload_n 2, 1) := by decide +kernel
theorem dX12_makeRow_50 : decode cX12_makeRow 50 = .ok (.if_icmp .ge 186, 3) := by decide +kernel
theorem dX12_makeRow_53 : decode cX12_makeRow 53 = .ok (.iconst 1, 1) := by decide +kernel
theorem dX12_makeRow_54 : decode cX12_makeRow 54 = .ok (.istore 8, 2) := by decide +kernel
theorem dX12_makeRow_56 : decode cX12_makeRow 56 = .ok (.iload 8, 2) := by decide +kernel
theorem dX12_makeRow_58 : decode cX12_makeRow 58 = .ok (.iload 4, 2) := by decide +kernel
theorem dX12_makeRow_60 : decode cX12_makeRow 60 = .ok (.iload_n 3, 1) := by decide +kernel
theorem dX12_makeRow_61 : decode cX12_makeRow 61 = .ok (.isub, 1) := by decide +kernel
theorem dX12_makeRow_62 : decode cX12_makeRow 62 = .ok (.if_icmp .ge 168, 3) := by decide +kernel
theorem dX12_makeRow_65 : decode cX12_makeRow 65 = .ok (.iload 5, 2) := by decide +kernel
theorem dX12_makeRow_67 : decode cX12_makeRow 67 = .ok (.ifCond .ne 19, 3) := by decide +kernel
theorem dX12_makeRow_70 : decode cX12_makeRow 70 = .ok (.iload_n 1, 1) := by decide +kernel
theorem dX12_makeRow_71 : decode cX12_makeRow 71 = .ok (.iload 7, 2) := by decide +kernel
theorem dX12_makeRow_73 : decode cX12_makeRow 73 = .ok (.iload_n 3, 1) := by decide +kernel
theorem dX12_makeRow_74 : decode cX12_makeRow 74 = .ok (.iload_n 3, 1) := by decide +kernel
theorem dX12_makeRow_75 : decode cX12_makeRow 75 = .ok (.iload 8, 2) := by decide +kernel
theorem dX12_makeRow_77 : decode cX12_makeRow 77 = .ok (.iadd, 1) := by decide +kernel
theorem dX12_makeRow_78 : decode cX12_makeRow 78 = .ok (.iload 5, 2) := by decide +kernel
theorem dX12_makeRow_80 : decode cX12_makeRow 80 = .ok (.invokestatic 290, 3) := by decide +kernel
theorem dX12_makeRow_83 : decode cX12_makeRow 83 = .ok (.goto 18, 3) := by decide +kernel
theorem dX12_makeRow_86 : decode cX12_makeRow 86 = .ok (.iload_n 1, 1) := by decide +kernel
theorem dX12_makeRow_87 : decode cX12_makeRow 87 = .ok (.iload 7, 2) := by decide +kernel
theorem dX12_makeRow_89 : decode cX12_makeRow 89 = .ok (.iload 4, 2) := by decide +kernel
theorem dX12_makeRow_91 : decode cX12_makeRow 91 = .ok (.iload 8, 2) := by decide +kernel
theorem dX12_makeRow_93 : decode cX12_makeRow 93 = .ok (.isub, 1) := by decide +kernel
theorem dX12_makeRow_94 : decode cX12_makeRow 94 = .ok (.iload 4, 2) := by decide +kernel
theorem dX12_makeRow_96 : decode cX12_makeRow 96 = .ok (.iload 5, 2) := by decide +kernel
theorem dX12_makeRow_98 : decode cX12_makeRow 98 = .ok (.invokestatic 290, 3) := by decide +kernel
theorem dX12_makeRow_101 : decode cX12_makeRow 101 = .ok (.istore 9, 2) := by decide +kernel
theorem dX12_makeRow_103 : decode cX12_makeRow 103 = .ok (.aload_n 0, 1) := by decide +kernel
theorem dX12_makeRow_104 : decode cX12_makeRow 104 = .ok (.getfield 70, 3) := by decide +kernel
theorem dX12_makeRow_107 : decode cX12_makeRow 107 = .ok (.iload 9, 2) := by decide +kernel
theorem dX12_makeRow_109 : decode cX12_makeRow 109 = .ok (.iaload, 1) := by decide +kernel
theorem dX12_makeRow_110 : decode cX12_makeRow 110 = .ok (.ifCond .ne 6, 3) := by decide +kernel
theorem dX12_makeRow_113 : decode cX12_makeRow 113 = .ok (.goto 111, 3) := by decide +kernel
theorem dX12_makeRow_116 : decode cX12_makeRow 116 = .ok (.iload 5, 2) := by decide +kernel
theorem dX12_makeRow_118 : decode cX12_makeRow 118 = .ok (.ifCond .ne 10, 3) := by decide +kernel
theorem dX12_makeRow_121 : decode cX12_makeRow 121 = .ok (.iload_n 3, 1) := by decide +kernel
theorem dX12_makeRow_122 : decode cX12_makeRow 122 = .ok (.iload 8, 2) := by decide +kernel
theorem dX12_makeRow_124 : decode cX12_makeRow 124 = .ok (.iadd, 1) := by decide +kernel
theorem dX12_makeRow_125 : decode cX12_makeRow 125 = .ok (.goto 4, 3) := by decide +kernel
theorem dX12_makeRow_128 : decode cX12_makeRow 128 = .ok (.iload_n 3, 1) := by decide +kernel
theorem dX12_makeRow_129 : decode cX12_makeRow 129 = .ok (.istore 10, 2) := by decide +kernel
theorem dX12_makeRow_131 : decode cX12_makeRow 131 = .ok (.iload 5, 2) := by decide +kernel
theorem dX12_makeRow_133 : decode cX12_makeRow 133 = .ok (.ifCond .ne 8, 3) := by decide +kernel
theorem dX12_makeRow_136 : decode cX12_makeRow 136 = .ok (.iload 4, 2) := by decide +kernel
theorem dX12_makeRow_138 : decode cX12_makeRow 138 = .ok (.goto 8, 3) := by decide +kernel
theorem dX12_makeRow_141 : decode cX12_makeRow 141 = .ok (.iload 4, 2) := by decide +kernel
theorem dX12_makeRow_143 : decode cX12_makeRow 143 = .ok (.iload 8, 2) := by decide +kernel
theorem dX12_makeRow_145 : decode cX12_makeRow 145 = .ok (.isub, 1) := by decide +kernel
theorem dX12_makeRow_146 : decode cX12_makeRow 146 = .ok (.istore 11, 2) := by decide +kernel
theorem dX12_makeRow_148 : decode cX12_makeRow 148 = .ok (.aload_n 0, 1) := by decide +kernel
theorem dX12_makeRow_149 : decode cX12_makeRow 149 = .ok (.iload 9, 2) := by decide +kernel
theorem dX12_makeRow_151 : decode cX12_makeRow 151 = .ok (.iload 7, 2) := by decide +kernel
theorem dX12_makeRow_153 : decode cX12_makeRow 153 = .ok (.iconst 1, 1) := by decide +kernel
theorem dX12_makeRow_154 : decode cX12_makeRow 154 = .ok (.iadd, 1) := by decide +kernel
theorem dX12_makeRow_155 : decode cX12_makeRow 155 = .ok (.iload_n 2, 1) := by decide +kernel
theorem dX12_makeRow_156 : decode cX12_makeRow 156 = .ok (.iload 10, 2) := by decide +kernel
theorem dX12_makeRow_158 : decode cX12_makeRow 158 = .ok (.iload 11, 2) := by decide +kernel
theorem dX12_makeRow_160 : decode cX12_makeRow 160 = .ok (.iload 5, 2) := by decide +kernel
theorem dX12_makeRow_162 : decode cX12_makeRow 162 = .ok (.invokestatic 290, 3) := by decide +kernel
theorem dX12_makeRow_165 : decode cX12_makeRow 165 = .ok (.iconst (-1), 1) := by decide +kernel
theorem dX12_makeRow_166 : decode cX12_makeRow 166 = .ok (.invokevirtual 330, 3) := by decide +kernel
theorem dX12_makeRow_169 : decode cX12_makeRow 169 = .ok (.iload 7, 2) := by decide +kernel
theorem dX12_makeRow_171 : decode cX12_makeRow 171 = .ok (.iconst 2, 1) := by decide +kernel
theorem dX12_makeRow_172 : decode cX12_makeRow 172 = .ok (.iadd, 1) := by decide +kernel
theorem dX12_makeRow_173 : decode cX12_makeRow 173 = .ok (.iload_n 2, 1) := by decide +kernel
theorem dX12_makeRow_174 : decode cX12_makeRow 174 = .ok (.if_icmp .gt 50, 3) := by decide +kernel
theorem dX12_makeRow_177 : decode cX12_makeRow 177 = .ok (.aload_n 0, 1) := by decide +kernel
theorem dX12_makeRow_178 : decode cX12_makeRow 178 = .ok (.getfield 56, 3) := by decide +kernel
theorem dX12_makeRow_181 : decode cX12_makeRow 181 = .ok (.aload_n 0, 1) := by decide +kernel
theorem dX12_makeRow_182 : decode cX12_makeRow 182 = .ok (.getfield 95, 3) := by decide +kernel
theorem dX12_makeRow_185 : decode cX12_makeRow 185 = .ok (.iload 7, 2) := by decide +kernel
theorem dX12_makeRow_187 : decode cX12_makeRow 187 = .ok (.iconst 1, 1) := by decide +kernel
theorem dX12_makeRow_188 : decode cX12_makeRow 188 = .ok (.iadd, 1) := by decide +kernel
theorem dX12_makeRow_189 : decode cX12_makeRow 189 = .ok (.iaload, 1) := by decide +kernel
theorem dX12_makeRow_190 : decode cX12_makeRow 190 = .ok (.iaload, 1) := by decide +kernel
theorem dX12_makeRow_191 : decode cX12_makeRow 191 = .ok (.bipush 9, 2) := by decide +kernel
theorem dX12_makeRow_193 : decode cX12_makeRow 193 = .ok (.ishr, 1) := by decide +kernel
theorem dX12_makeRow_194 : decode cX12_makeRow 194 = .ok (.iconst 1, 1) := by decide +kernel
theorem dX12_makeRow_195 : decode cX12_makeRow 195 = .ok (.iand, 1) := by decide +kernel
theorem dX12_makeRow_196 : decode cX12_makeRow 196 = .ok (.iconst 1, 1) := by decide +kernel
theorem dX12_makeRow_197 : decode cX12_makeRow 197 = .ok (.if_icmp .ne 27, 3) := by decide +kernel
theorem dX12_makeRow_200 : decode cX12_makeRow 200 = .ok (.aload_n 0, 1) := by decide +kernel
theorem dX12_makeRow_201 : decode cX12_makeRow 201 = .ok (.iload 9, 2) := by decide +kernel
theorem dX12_makeRow_203 : decode cX12_makeRow 203 = .ok (.iload 7, 2) := by decide +kernel
theorem dX12_makeRow_205 : decode cX12_makeRow 205 = .ok (.iconst 2, 1) := by decide +kernel
theorem dX12_makeRow_206 : decode cX12_makeRow 206 = .ok (.iadd, 1) := by decide +kernel
theorem dX12_makeRow_207 : decode cX12_makeRow 207 = .ok (.iload_n 2, 1) := by decide +kernel
theorem dX12_makeRow_208 : decode cX12_makeRow 208 = .ok (.iload 10, 2) := by decide +kernel
theorem dX12_makeRow_210 : decode cX12_makeRow 210 = .ok (.iload 11, 2) := by decide +kernel
theorem dX12_makeRow_212 : decode cX12_makeRow 212 = .ok (.iload 5, 2) := by decide +kernel
theorem dX12_makeRow_214 : decode cX12_makeRow 214 = .ok (.invokestatic 290, 3) := by decide +kernel
theorem dX12_makeRow_217 : decode cX12_makeRow 217 = .ok (.iload 7, 2) := by decide +kernel
theorem dX12_makeRow_219 : decode cX12_makeRow 219 = .ok (.iconst 1, 1) := by decide +kernel
theorem dX12_makeRow_220 : decode cX12_makeRow 220 = .ok (.iadd, 1) := by decide +kernel
theorem dX12_makeRow_221 : decode cX12_makeRow 221 = .ok (.invokevirtual 330, 3) := by decide +kernel
theorem dX12_makeRow_224 : decode cX12_makeRow 224 = .ok (.iinc 8 1, 3) := by decide +kernel
theorem dX12_makeRow_227 : decode cX12_makeRow 227 = .ok (.goto (-171), 3) := by decide +kernel
theorem dX12_makeRow_230 : decode cX12_makeRow 230 = .ok (.iinc 7 1, 3) := by decide +kernel
theorem dX12_makeRow_233 : decode cX12_makeRow 233 = .ok (.goto (-186), 3) := by decide +kernel
theorem dX12_makeRow_236 : decode cX12_makeRow 236 = .ok (.aload_n 0, 1) := by decide +kernel
theorem dX12_makeRow_237 : decode cX12_makeRow 237 = .ok (.getfield 79, 3) := by decide +kernel
theorem dX12_makeRow_240 : decode cX12_makeRow 240 = .ok (.iload 6, 2) := by decide +kernel
theorem dX12_makeRow_242 : decode cX12_makeRow 242 = .ok (.aload_n 0, 1) := by decide +kernel
theorem dX12_makeRow_243 : decode cX12_makeRow 243 = .ok (.getfield 237, 3) := by decide +kernel
theorem dX12_makeRow_246 : decode cX12_makeRow 246 = .ok (.iastore, 1) := by decide +kernel
theorem dX12_makeRow_247 : decode cX12_makeRow 247 = .ok (.aload_n 0, 1) := by decide +kernel
theorem dX12_makeRow_248 : decode cX12_makeRow 248 = .ok (.getfield 82, 3) := by decide +kernel
theorem dX12_makeRow_251 : decode cX12_makeRow 251 = .ok (.iload 6, 2) := by decide +kernel
theorem dX12_makeRow_253 : decode cX12_makeRow 253 = .ok (.aload_n 0, 1) := by decide +kernel
theorem dX12_makeRow_254 : decode cX12_makeRow 254 = .ok (.getfield 241, 3) := by decide +kernel
theorem dX12_makeRow_257 : decode cX12_makeRow 257 = .ok (.iastore, 1) := by decide +kernel
theorem dX12_makeRow_258 : decode cX12_makeRow 258 = .ok (.aload_n 0, 1) := by decide +kernel
theorem dX12_makeRow_259 : decode cX12_makeRow 259 = .ok (.getfield 85, 3) := by decide +kernel
theorem dX12_makeRow_262 : decode cX12_makeRow 262 = .ok (.iload 6, 2) := by decide +kernel
theorem dX12_makeRow_264 : decode cX12_makeRow 264 = .ok (.aload_n 0, 1) := by decide +kernel
theorem dX12_makeRow_265 : decode cX12_makeRow 265 = .ok (.getfield 244, 3) := by decide +kernel
theorem dX12_makeRow_268 : decode cX12_makeRow 268 = .ok (.iastore, 1) := by decide +kernel
theorem dX12_makeRow_269 : decode cX12_makeRow 269 = .ok (.iconst 0, 1) := by decide +kernel
theorem dX12_makeRow_270 : decode cX12_makeRow 270 = .ok (.istore 7, 2) := by decide +kernel
theorem dX12_makeRow_272 : decode cX12_makeRow 272 = .ok (.iload 7, 2) := by decide +kernel
theorem dX12_makeRow_274 : decode cX12_makeRow 274 = .ok (.aload_n 0, 1) := by decide +kernel
theorem dX12_makeRow_275 : decode cX12_makeRow 275 = .ok (.getfield 244, 3) := by decide +kernel
theorem dX12_makeRow_278 : decode cX12_makeRow 278 = .ok (.if_icmp .ge 29, 3) := by decide +kernel
theorem dX12_makeRow_281 : decode cX12_makeRow 281 = .ok (.aload_n 0, 1) := by decide +kernel
theorem dX12_makeRow_282 : decode cX12_makeRow 282 = .ok (.getfield 92, 3) := by decide +kernel
theorem dX12_makeRow_285 : decode cX12_makeRow 285 = .ok (.bipush 40, 2) := by decide +kernel
theorem dX12_makeRow_287 : decode cX12_makeRow 287 = .ok (.iload 6, 2) := by decide +kernel
theorem dX12_makeRow_289 : decode cX12_makeRow 289 = .ok (.imul, 1) := by decide +kernel
theorem dX12_makeRow_290 : decode cX12_makeRow 290 = .ok (.iload 7, 2) := by decide +kernel
theorem dX12_makeRow_292 : decode cX12_makeRow 292 = .ok (.iadd, 1) := by decide +kernel
theorem dX12_makeRow_293 : decode cX12_makeRow 293 = .ok (.aload_n 0, 1) := by decide +kernel
theorem dX12_makeRow_294 : decode cX12_makeRow 294 = .ok (.getfield 110, 3) := by decide +kernel
theorem dX12_makeRow_297 : decode cX12_makeRow 297 = .ok (.iload 7, 2) := by decide +kernel
theorem dX12_makeRow_299 : decode cX12_makeRow 299 = .ok (.baload, 1) := by decide +kernel
theorem dX12_makeRow_300 : decode cX12_makeRow 300 = .ok (.bastore, 1) := by decide +kernel
theorem dX12_makeRow_301 : decode cX12_makeRow 301 = .ok (.iinc 7 1, 3) := by decide +kernel
theorem dX12_makeRow_304 : decode cX12_makeRow 304 = .ok (.goto (-32), 3) := by decide +kernel
theorem dX12_makeRow_307 : decode cX12_makeRow 307 = .ok (.return_, 1) := by decide +kernel
def K_X12_makeRow_47 (G : xG) (l : Launch) (d : Nat) (P : xMem → Prop) (v1 v2 v3 v4 v5 v6 v7 : Int) (μ : xMem) : Prop := RR G l d 0 0 false mX12_makeRow (qV P) 47 [some (xr G 74), some (xi v1), some (xi v2), some (xi v3), some (xi v4), some (xi v5), some (xi v6), some (xi v7), none, none, none, none] [] LAY μ 0 0
def K_X12_makeRow_272 (G : xG) (l : Launch) (d : Nat) (P : xMem → Prop) (v6 v7 : Int) (μ : xMem) : Prop := RR G l d 0 0 false mX12_makeRow (qV P) 272 [some (xr G 74), none, none, none, none, none, some (xi v6), some (xi v7), none, none, none, none] [] LAY μ 0 0
def K_X12_makeRow_56 (G : xG) (l : Launch) (d : Nat) (P : xMem → Prop) (v1 v2 v3 v4 v5 v6 v7 v8 : Int) (μ : xMem) : Prop := RR G l d 0 0 false mX12_makeRow (qV P) 56 [some (xr G 74), some (xi v1), some (xi v2), some (xi v3), some (xi v4), some (xi v5), some (xi v6), some (xi v7), some (xi v8), none, none, none] [] LAY μ 0 0
def K_X12_makeRow_101 (G : xG) (l : Launch) (d : Nat) (P : xMem → Prop) (v1 v2 v3 v4 v5 v6 v7 v8 s0 : Int) (μ : xMem) : Prop := RR G l d 0 0 false mX12_makeRow (qV P) 101 [some (xr G 74), some (xi v1), some (xi v2), some (xi v3), some (xi v4), some (xi v5), some (xi v6), some (xi v7), some (xi v8), none, none, none] [xi s0] LAY μ 0 0
def K_X12_makeRow_129 (G : xG) (l : Launch) (d : Nat) (P : xMem → Prop) (v1 v2 v3 v4 v5 v6 v7 v8 v9 s0 : Int) (μ : xMem) : Prop := RR G l d 0 0 false mX12_makeRow (qV P) 129 [some (xr G 74), some (xi v1), some (xi v2), some (xi v3), some (xi v4), some (xi v5), some (xi v6), some (xi v7), some (xi v8), some (xi v9), none, none] [xi s0] LAY μ 0 0
def K_X12_makeRow_146 (G : xG) (l : Launch) (d : Nat) (P : xMem → Prop) (v1 v2 v3 v4 v5 v6 v7 v8 v9 v10 s0 : Int) (μ : xMem) : Prop := RR G l d 0 0 false mX12_makeRow (qV P) 146 [some (xr G 74), some (xi v1), some (xi v2), some (xi v3), some (xi v4), some (xi v5), some (xi v6), some (xi v7), some (xi v8), some (xi v9), some (xi v10), none] [xi s0] LAY μ 0 0
set_option maxRecDepth 20000 in
theorem E_X12_makeRow {G : xG} {l : Launch} {d : Nat} {P : xMem → Prop} {v1 v2 v3 v4 v5 : Int} {μ : xMem} (h : CV G l d mX12_clear [xr G 74] μ (fun m2 => CI G l d mX12_at [xi v1, xi v2, xi v3, xi v4, xi v5] m2 (fun r3 m4 => CV G l d mX12_open [xr G 74] m4 (fun m6 => CV G l d mX12_sayPiece [xr G 74, xi r3] m6 (fun m8 => ((0 ≤ r3 ∧ r3 < 3960) ∧ CV G l d mX12_offer [xr G 74, xi (m8 92 r3), xi (m8 93 r3)] m8 (fun m11 => K_X12_makeRow_47 G l (d + 1) P v1 v2 v3 v4 v5 r3 v1 m11))))))) : CV G l (d + 1) mX12_makeRow [xr G 74, xi v1, xi v2, xi v3, xi v4, xi v5] μ P := by
  refine CC.ofRR (ll := [some (xr G 74), some (xi v1), some (xi v2), some (xi v3), some (xi v4), some (xi v5), none, none, none, none, none, none]) (by decide +kernel) (Nat.le_of_ble_eq_true rfl) rfl (fun h => by cases h) ?_
  refine xr_aload_n dX12_makeRow_0 rfl ?_
  refine xr_cvV (As := []) dX12_makeRow_1 mi_X12_clear ml_X12_312 se_X12_clear L_74 rfl rfl rfl (Nat.le_of_ble_eq_true rfl) h (fun m2 h => ?_)
  refine xr_iload_n dX12_makeRow_4 rfl ?_
  refine xr_iload_n dX12_makeRow_5 rfl ?_
  refine xr_iload_n dX12_makeRow_6 rfl ?_
  refine xr_iload dX12_makeRow_7 rfl ?_
  refine xr_iload dX12_makeRow_9 rfl ?_
  refine xr_csI (As := [xi v1, xi v2, xi v3, xi v4, xi v5]) dX12_makeRow_11 ms_X12_at ml_X12_290 rfl rfl (Nat.le_of_ble_eq_true rfl) h (fun r3 m4 hr3 h => ?_)
  refine xr_istore' (ll' := [some (xr G 74), some (xi v1), some (xi v2), some (xi v3), some (xi v4), some (xi v5), some (xi r3), none, none, none, none, none]) dX12_makeRow_14 (by decide) rfl rfl ?_
  refine xr_aload_n dX12_makeRow_16 rfl ?_
  refine xr_cvV (As := []) dX12_makeRow_17 mi_X12_open ml_X12_269 se_X12_open L_74 rfl rfl rfl (Nat.le_of_ble_eq_true rfl) h (fun m6 h => ?_)
  refine xr_aload_n dX12_makeRow_20 rfl ?_
  refine xr_iload dX12_makeRow_21 rfl ?_
  refine xr_cvV (As := [xi r3]) dX12_makeRow_23 mi_X12_sayPiece ml_X12_327 se_X12_sayPiece L_74 rfl rfl rfl (Nat.le_of_ble_eq_true rfl) h (fun m8 h => ?_)
  refine xr_aload_n dX12_makeRow_26 rfl ?_
  refine xr_aload_n dX12_makeRow_27 rfl ?_
  refine xr_getR dX12_makeRow_28 fl_X12_70 L_74 rfl ?_
  refine xr_iload dX12_makeRow_31 rfl ?_
  obtain ⟨q9, h⟩ := h
  refine xr_iaload' (v := m8 92 r3) dX12_makeRow_33 L_92 rfl (by decide) q9 rfl ?_
  refine xr_aload_n dX12_makeRow_34 rfl ?_
  refine xr_getR dX12_makeRow_35 fl_X12_73 L_74 rfl ?_
  refine xr_iload dX12_makeRow_38 rfl ?_
  refine xr_iaload' (v := m8 93 r3) dX12_makeRow_40 L_93 rfl (by decide) q9 rfl ?_
  refine xr_cvV (As := [xi (m8 92 r3), xi (m8 93 r3)]) dX12_makeRow_41 mi_X12_offer ml_X12_280 se_X12_offer L_74 rfl rfl rfl (Nat.le_of_ble_eq_true rfl) h (fun m11 h => ?_)
  refine xr_iload_n dX12_makeRow_44 rfl ?_
  refine xr_istore' (ll' := [some (xr G 74), some (xi v1), some (xi v2), some (xi v3), some (xi v4), some (xi v5), some (xi r3), some (xi v1), none, none, none, none]) dX12_makeRow_45 (by decide) rfl rfl ?_
  exact h
set_option maxRecDepth 20000 in
theorem B_X12_makeRow_47 {G : xG} {l : Launch} {d : Nat} {P : xMem → Prop} {v1 v2 v3 v4 v5 v6 v7 : Int} {μ : xMem} (h : (iR v7 ∧ iR v2 ∧ (v2 ≤ v7 → ((0 ≤ v6 ∧ v6 < 3960) ∧ K_X12_makeRow_272 G l (d + 1) P v6 0 (st2 (st2 (st2 μ 95 v6 (μ 74 46)) 96 v6 (μ 74 47)) 97 v6 (μ 74 48)))) ∧ (v7 < v2 → K_X12_makeRow_56 G l (d + 1) P v1 v2 v3 v4 v5 v6 v7 1 μ))) : K_X12_makeRow_47 G l (d + 1) P v1 v2 v3 v4 v5 v6 v7 μ := by
  unfold K_X12_makeRow_47
  refine xr_iload dX12_makeRow_47 rfl ?_
  refine xr_iload_n dX12_makeRow_49 rfl ?_
  obtain ⟨q1, q2, hT3, hF4⟩ := h
  refine xr_icmp_ge (tgt := 236) dX12_makeRow_50 (by decide) q1 q2 (fun c => ?_) (fun c => ?_)
  · have h := hT3 c
    refine xr_aload_n dX12_makeRow_236 rfl ?_
    refine xr_getR dX12_makeRow_237 fl_X12_79 L_74 rfl ?_
    refine xr_iload dX12_makeRow_240 rfl ?_
    refine xr_aload_n dX12_makeRow_242 rfl ?_
    refine xr_getI' (v := μ 74 46) dX12_makeRow_243 fl_X12_237 L_74 rfl rfl rfl ?_
    obtain ⟨q5, h⟩ := h
    refine xr_iastore dX12_makeRow_246 L_95 rfl (by decide) q5 ?_
    refine xr_aload_n dX12_makeRow_247 rfl ?_
    refine xr_getR dX12_makeRow_248 fl_X12_82 L_74 rfl ?_
    refine xr_iload dX12_makeRow_251 rfl ?_
    refine xr_aload_n dX12_makeRow_253 rfl ?_
    refine xr_getI' (v := μ 74 47) dX12_makeRow_254 fl_X12_241 L_74 rfl rfl (by simp [st2, cpy]) ?_
    refine xr_iastore dX12_makeRow_257 L_96 rfl (by decide) q5 ?_
    refine xr_aload_n dX12_makeRow_258 rfl ?_
    refine xr_getR dX12_makeRow_259 fl_X12_85 L_74 rfl ?_
    refine xr_iload dX12_makeRow_262 rfl ?_
    refine xr_aload_n dX12_makeRow_264 rfl ?_
    refine xr_getI' (v := μ 74 48) dX12_makeRow_265 fl_X12_244 L_74 rfl rfl (by simp [st2, cpy]) ?_
    refine xr_iastore dX12_makeRow_268 L_97 rfl (by decide) q5 ?_
    refine xr_iconst dX12_makeRow_269 ?_
    refine xr_istore' (ll' := [some (xr G 74), some (xi v1), some (xi v2), some (xi v3), some (xi v4), some (xi v5), some (xi v6), some (xi 0), none, none, none, none]) dX12_makeRow_270 (by decide) rfl rfl ?_
    refine xr_wk (ll' := [some (xr G 74), none, none, none, none, none, some (xi v6), some (xi 0), none, none, none, none]) ⟨rfl, ⟨rfl, ⟨rfl, trivial⟩⟩⟩ ?_
    exact h
  · have h := hF4 (Int.not_le.mp c)
    refine xr_iconst dX12_makeRow_53 ?_
    refine xr_istore' (ll' := [some (xr G 74), some (xi v1), some (xi v2), some (xi v3), some (xi v4), some (xi v5), some (xi v6), some (xi v7), some (xi 1), none, none, none]) dX12_makeRow_54 (by decide) rfl rfl ?_
    exact h
set_option maxRecDepth 20000 in
theorem B_X12_makeRow_272 {G : xG} {l : Launch} {d : Nat} {P : xMem → Prop} {v6 v7 : Int} {μ : xMem} (h : (iR v7 ∧ iR (μ 74 48) ∧ ((μ 74 48) ≤ v7 → P μ) ∧ (v7 < (μ 74 48) → ((0 ≤ v7 ∧ v7 < 40) ∧ ((0 ≤ (40 * v6) + v7 ∧ (40 * v6) + v7 < 158400) ∧ K_X12_makeRow_272 G l (d + 1) P v6 (v7 + 1) (st2 μ 99 ((40 * v6) + v7) (j8 (μ 105 v7)))))))) : K_X12_makeRow_272 G l (d + 1) P v6 v7 μ := by
  unfold K_X12_makeRow_272
  refine xr_iload dX12_makeRow_272 rfl ?_
  refine xr_aload_n dX12_makeRow_274 rfl ?_
  refine xr_getI' (v := μ 74 48) dX12_makeRow_275 fl_X12_244 L_74 rfl rfl rfl ?_
  obtain ⟨q1, q2, hT3, hF4⟩ := h
  refine xr_icmp_ge (tgt := 307) dX12_makeRow_278 (by decide) q1 q2 (fun c => ?_) (fun c => ?_)
  · have h := hT3 c
    exact xr_ret dX12_makeRow_307 rfl ⟨rfl, rfl, h⟩
  · have h := hF4 (Int.not_le.mp c)
    refine xr_aload_n dX12_makeRow_281 rfl ?_
    refine xr_getR dX12_makeRow_282 fl_X12_92 L_74 rfl ?_
    refine xr_bipush dX12_makeRow_285 (by decide) ?_
    refine xr_iload dX12_makeRow_287 rfl ?_
    refine xr_imul dX12_makeRow_289 ?_
    refine xr_iload dX12_makeRow_290 rfl ?_
    refine xr_iadd dX12_makeRow_292 ?_
    refine xr_aload_n dX12_makeRow_293 rfl ?_
    refine xr_getR dX12_makeRow_294 fl_X12_110 L_74 rfl ?_
    refine xr_iload dX12_makeRow_297 rfl ?_
    obtain ⟨q5, h⟩ := h
    refine xr_baload' (v := μ 105 v7) dX12_makeRow_299 L_105 rfl (by decide) q5 rfl ?_
    obtain ⟨q6, h⟩ := h
    refine xr_bastore dX12_makeRow_300 L_99 rfl (by decide) q6 ?_
    refine xr_iinc' (ll' := [some (xr G 74), none, none, none, none, none, some (xi v6), some (xi (v7 + 1)), none, none, none, none]) dX12_makeRow_301 rfl (by decide) rfl rfl ?_
    refine xr_goto (tgt := 272) dX12_makeRow_304 (by decide) ?_
    exact h
set_option maxRecDepth 20000 in
theorem B_X12_makeRow_56 {G : xG} {l : Launch} {d : Nat} {P : xMem → Prop} {v1 v2 v3 v4 v5 v6 v7 v8 : Int} {μ : xMem} (h : (iR v8 ∧ iR (v4 - v3) ∧ ((v4 - v3) ≤ v8 → K_X12_makeRow_47 G l (d + 1) P v1 v2 v3 v4 v5 v6 (v7 + 1) μ) ∧ (v8 < (v4 - v3) → (iR v5 ∧ (v5 ≠ 0 → CI G l d mX12_at [xi v1, xi v7, xi (v4 - v8), xi v4, xi v5] μ (fun r8 m9 => K_X12_makeRow_101 G l (d + 1) P v1 v2 v3 v4 v5 v6 v7 v8 r8 m9)) ∧ (v5 = 0 → CI G l d mX12_at [xi v1, xi v7, xi v3, xi (v3 + v8), xi v5] μ (fun r10 m11 => K_X12_makeRow_101 G l (d + 1) P v1 v2 v3 v4 v5 v6 v7 v8 r10 m11)))))) : K_X12_makeRow_56 G l (d + 1) P v1 v2 v3 v4 v5 v6 v7 v8 μ := by
  unfold K_X12_makeRow_56
  refine xr_iload dX12_makeRow_56 rfl ?_
  refine xr_iload dX12_makeRow_58 rfl ?_
  refine xr_iload_n dX12_makeRow_60 rfl ?_
  refine xr_isub dX12_makeRow_61 ?_
  obtain ⟨q1, q2, hT3, hF4⟩ := h
  refine xr_icmp_ge (tgt := 230) dX12_makeRow_62 (by decide) q1 q2 (fun c => ?_) (fun c => ?_)
  · have h := hT3 c
    refine xr_iinc' (ll' := [some (xr G 74), some (xi v1), some (xi v2), some (xi v3), some (xi v4), some (xi v5), some (xi v6), some (xi (v7 + 1)), some (xi v8), none, none, none]) dX12_makeRow_230 rfl (by decide) rfl rfl ?_
    refine xr_goto (tgt := 47) dX12_makeRow_233 (by decide) ?_
    refine xr_wk (ll' := [some (xr G 74), some (xi v1), some (xi v2), some (xi v3), some (xi v4), some (xi v5), some (xi v6), some (xi (v7 + 1)), none, none, none, none]) ⟨rfl, ⟨rfl, ⟨rfl, ⟨rfl, ⟨rfl, ⟨rfl, ⟨rfl, ⟨rfl, trivial⟩⟩⟩⟩⟩⟩⟩⟩ ?_
    exact h
  · have h := hF4 (Int.not_le.mp c)
    refine xr_iload dX12_makeRow_65 rfl ?_
    obtain ⟨q5, hT6, hF7⟩ := h
    refine xr_if_ne (tgt := 86) dX12_makeRow_67 (by decide) q5  (fun c => ?_) (fun c => ?_)
    · have h := hT6 c
      refine xr_iload_n dX12_makeRow_86 rfl ?_
      refine xr_iload dX12_makeRow_87 rfl ?_
      refine xr_iload dX12_makeRow_89 rfl ?_
      refine xr_iload dX12_makeRow_91 rfl ?_
      refine xr_isub dX12_makeRow_93 ?_
      refine xr_iload dX12_makeRow_94 rfl ?_
      refine xr_iload dX12_makeRow_96 rfl ?_
      refine xr_csI (As := [xi v1, xi v7, xi (v4 - v8), xi v4, xi v5]) dX12_makeRow_98 ms_X12_at ml_X12_290 rfl rfl (Nat.le_of_ble_eq_true rfl) h (fun r8 m9 hr8 h => ?_)
      exact h
    · have h := hF7 c
      refine xr_iload_n dX12_makeRow_70 rfl ?_
      refine xr_iload dX12_makeRow_71 rfl ?_
      refine xr_iload_n dX12_makeRow_73 rfl ?_
      refine xr_iload_n dX12_makeRow_74 rfl ?_
      refine xr_iload dX12_makeRow_75 rfl ?_
      refine xr_iadd dX12_makeRow_77 ?_
      refine xr_iload dX12_makeRow_78 rfl ?_
      refine xr_csI (As := [xi v1, xi v7, xi v3, xi (v3 + v8), xi v5]) dX12_makeRow_80 ms_X12_at ml_X12_290 rfl rfl (Nat.le_of_ble_eq_true rfl) h (fun r10 m11 hr10 h => ?_)
      refine xr_goto (tgt := 101) dX12_makeRow_83 (by decide) ?_
      exact h
set_option maxRecDepth 20000 in
theorem B_X12_makeRow_101 {G : xG} {l : Launch} {d : Nat} {P : xMem → Prop} {v1 v2 v3 v4 v5 v6 v7 v8 s0 : Int} {μ : xMem} (h : ((0 ≤ s0 ∧ s0 < 3960) ∧ (iR (μ 92 s0) ∧ ((μ 92 s0) ≠ 0 → (iR v5 ∧ (v5 ≠ 0 → K_X12_makeRow_129 G l (d + 1) P v1 v2 v3 v4 v5 v6 v7 v8 s0 v3 μ) ∧ (v5 = 0 → K_X12_makeRow_129 G l (d + 1) P v1 v2 v3 v4 v5 v6 v7 v8 s0 (v3 + v8) μ))) ∧ ((μ 92 s0) = 0 → K_X12_makeRow_56 G l (d + 1) P v1 v2 v3 v4 v5 v6 v7 (v8 + 1) μ)))) : K_X12_makeRow_101 G l (d + 1) P v1 v2 v3 v4 v5 v6 v7 v8 s0 μ := by
  unfold K_X12_makeRow_101
  refine xr_istore' (ll' := [some (xr G 74), some (xi v1), some (xi v2), some (xi v3), some (xi v4), some (xi v5), some (xi v6), some (xi v7), some (xi v8), some (xi s0), none, none]) dX12_makeRow_101 (by decide) rfl rfl ?_
  refine xr_aload_n dX12_makeRow_103 rfl ?_
  refine xr_getR dX12_makeRow_104 fl_X12_70 L_74 rfl ?_
  refine xr_iload dX12_makeRow_107 rfl ?_
  obtain ⟨q1, h⟩ := h
  refine xr_iaload' (v := μ 92 s0) dX12_makeRow_109 L_92 rfl (by decide) q1 rfl ?_
  obtain ⟨q2, hT3, hF4⟩ := h
  refine xr_if_ne (tgt := 116) dX12_makeRow_110 (by decide) q2  (fun c => ?_) (fun c => ?_)
  · have h := hT3 c
    refine xr_iload dX12_makeRow_116 rfl ?_
    obtain ⟨q5, hT6, hF7⟩ := h
    refine xr_if_ne (tgt := 128) dX12_makeRow_118 (by decide) q5  (fun c => ?_) (fun c => ?_)
    · have h := hT6 c
      refine xr_iload_n dX12_makeRow_128 rfl ?_
      exact h
    · have h := hF7 c
      refine xr_iload_n dX12_makeRow_121 rfl ?_
      refine xr_iload dX12_makeRow_122 rfl ?_
      refine xr_iadd dX12_makeRow_124 ?_
      refine xr_goto (tgt := 129) dX12_makeRow_125 (by decide) ?_
      exact h
  · have h := hF4 c
    refine xr_goto (tgt := 224) dX12_makeRow_113 (by decide) ?_
    refine xr_iinc' (ll' := [some (xr G 74), some (xi v1), some (xi v2), some (xi v3), some (xi v4), some (xi v5), some (xi v6), some (xi v7), some (xi (v8 + 1)), some (xi s0), none, none]) dX12_makeRow_224 rfl (by decide) rfl rfl ?_
    refine xr_goto (tgt := 56) dX12_makeRow_227 (by decide) ?_
    refine xr_wk (ll' := [some (xr G 74), some (xi v1), some (xi v2), some (xi v3), some (xi v4), some (xi v5), some (xi v6), some (xi v7), some (xi (v8 + 1)), none, none, none]) ⟨rfl, ⟨rfl, ⟨rfl, ⟨rfl, ⟨rfl, ⟨rfl, ⟨rfl, ⟨rfl, ⟨rfl, trivial⟩⟩⟩⟩⟩⟩⟩⟩⟩ ?_
    exact h
set_option maxRecDepth 20000 in
theorem B_X12_makeRow_129 {G : xG} {l : Launch} {d : Nat} {P : xMem → Prop} {v1 v2 v3 v4 v5 v6 v7 v8 v9 s0 : Int} {μ : xMem} (h : (iR v5 ∧ (v5 ≠ 0 → K_X12_makeRow_146 G l (d + 1) P v1 v2 v3 v4 v5 v6 v7 v8 v9 s0 (v4 - v8) μ) ∧ (v5 = 0 → K_X12_makeRow_146 G l (d + 1) P v1 v2 v3 v4 v5 v6 v7 v8 v9 s0 v4 μ))) : K_X12_makeRow_129 G l (d + 1) P v1 v2 v3 v4 v5 v6 v7 v8 v9 s0 μ := by
  unfold K_X12_makeRow_129
  refine xr_istore' (ll' := [some (xr G 74), some (xi v1), some (xi v2), some (xi v3), some (xi v4), some (xi v5), some (xi v6), some (xi v7), some (xi v8), some (xi v9), some (xi s0), none]) dX12_makeRow_129 (by decide) rfl rfl ?_
  refine xr_iload dX12_makeRow_131 rfl ?_
  obtain ⟨q1, hT2, hF3⟩ := h
  refine xr_if_ne (tgt := 141) dX12_makeRow_133 (by decide) q1  (fun c => ?_) (fun c => ?_)
  · have h := hT2 c
    refine xr_iload dX12_makeRow_141 rfl ?_
    refine xr_iload dX12_makeRow_143 rfl ?_
    refine xr_isub dX12_makeRow_145 ?_
    exact h
  · have h := hF3 c
    refine xr_iload dX12_makeRow_136 rfl ?_
    refine xr_goto (tgt := 146) dX12_makeRow_138 (by decide) ?_
    exact h
set_option maxRecDepth 20000 in
theorem B_X12_makeRow_146 {G : xG} {l : Launch} {d : Nat} {P : xMem → Prop} {v1 v2 v3 v4 v5 v6 v7 v8 v9 v10 s0 : Int} {μ : xMem} (h : CI G l d mX12_at [xi (v7 + 1), xi v2, xi v10, xi s0, xi v5] μ (fun r1 m2 => CV G l d mX12_follow [xr G 74, xi v9, xi r1, xi (-1)] m2 (fun m4 => (iR (v7 + 2) ∧ iR v2 ∧ (v2 < (v7 + 2) → K_X12_makeRow_56 G l (d + 1) P v1 v2 v3 v4 v5 v6 v7 (v8 + 1) m4) ∧ ((v7 + 2) ≤ v2 → ((0 ≤ v7 + 1 ∧ v7 + 1 < 8) ∧ ((0 ≤ m4 100 (v7 + 1) ∧ m4 100 (v7 + 1) < 120) ∧ (((jand (jshr (m4 90 (m4 100 (v7 + 1))) 9) 1) ≠ 1 → K_X12_makeRow_56 G l (d + 1) P v1 v2 v3 v4 v5 v6 v7 (v8 + 1) m4) ∧ ((jand (jshr (m4 90 (m4 100 (v7 + 1))) 9) 1) = 1 → CI G l d mX12_at [xi (v7 + 2), xi v2, xi v10, xi s0, xi v5] m4 (fun r13 m14 => CV G l d mX12_follow [xr G 74, xi v9, xi r13, xi (v7 + 1)] m14 (fun m16 => K_X12_makeRow_56 G l (d + 1) P v1 v2 v3 v4 v5 v6 v7 (v8 + 1) m16))))))))))) : K_X12_makeRow_146 G l (d + 1) P v1 v2 v3 v4 v5 v6 v7 v8 v9 v10 s0 μ := by
  unfold K_X12_makeRow_146
  refine xr_istore' (ll' := [some (xr G 74), some (xi v1), some (xi v2), some (xi v3), some (xi v4), some (xi v5), some (xi v6), some (xi v7), some (xi v8), some (xi v9), some (xi v10), some (xi s0)]) dX12_makeRow_146 (by decide) rfl rfl ?_
  refine xr_aload_n dX12_makeRow_148 rfl ?_
  refine xr_iload dX12_makeRow_149 rfl ?_
  refine xr_iload dX12_makeRow_151 rfl ?_
  refine xr_iconst dX12_makeRow_153 ?_
  refine xr_iadd dX12_makeRow_154 ?_
  refine xr_iload_n dX12_makeRow_155 rfl ?_
  refine xr_iload dX12_makeRow_156 rfl ?_
  refine xr_iload dX12_makeRow_158 rfl ?_
  refine xr_iload dX12_makeRow_160 rfl ?_
  refine xr_csI (As := [xi (v7 + 1), xi v2, xi v10, xi s0, xi v5]) dX12_makeRow_162 ms_X12_at ml_X12_290 rfl rfl (Nat.le_of_ble_eq_true rfl) h (fun r1 m2 hr1 h => ?_)
  refine xr_iconst dX12_makeRow_165 ?_
  refine xr_cvV (As := [xi v9, xi r1, xi (-1)]) dX12_makeRow_166 mi_X12_follow ml_X12_330 se_X12_follow L_74 rfl rfl rfl (Nat.le_of_ble_eq_true rfl) h (fun m4 h => ?_)
  refine xr_iload dX12_makeRow_169 rfl ?_
  refine xr_iconst dX12_makeRow_171 ?_
  refine xr_iadd dX12_makeRow_172 ?_
  refine xr_iload_n dX12_makeRow_173 rfl ?_
  obtain ⟨q5, q6, hT7, hF8⟩ := h
  refine xr_icmp_gt (tgt := 224) dX12_makeRow_174 (by decide) q5 q6 (fun c => ?_) (fun c => ?_)
  · have h := hT7 c
    refine xr_iinc' (ll' := [some (xr G 74), some (xi v1), some (xi v2), some (xi v3), some (xi v4), some (xi v5), some (xi v6), some (xi v7), some (xi (v8 + 1)), some (xi v9), some (xi v10), some (xi s0)]) dX12_makeRow_224 rfl (by decide) rfl rfl ?_
    refine xr_goto (tgt := 56) dX12_makeRow_227 (by decide) ?_
    refine xr_wk (ll' := [some (xr G 74), some (xi v1), some (xi v2), some (xi v3), some (xi v4), some (xi v5), some (xi v6), some (xi v7), some (xi (v8 + 1)), none, none, none]) ⟨rfl, ⟨rfl, ⟨rfl, ⟨rfl, ⟨rfl, ⟨rfl, ⟨rfl, ⟨rfl, ⟨rfl, trivial⟩⟩⟩⟩⟩⟩⟩⟩⟩ ?_
    exact h
  · have h := hF8 (Int.not_lt.mp c)
    refine xr_aload_n dX12_makeRow_177 rfl ?_
    refine xr_getR dX12_makeRow_178 fl_X12_56 L_74 rfl ?_
    refine xr_aload_n dX12_makeRow_181 rfl ?_
    refine xr_getR dX12_makeRow_182 fl_X12_95 L_74 rfl ?_
    refine xr_iload dX12_makeRow_185 rfl ?_
    refine xr_iconst dX12_makeRow_187 ?_
    refine xr_iadd dX12_makeRow_188 ?_
    obtain ⟨q9, h⟩ := h
    refine xr_iaload' (v := m4 100 (v7 + 1)) dX12_makeRow_189 L_100 rfl (by decide) q9 rfl ?_
    obtain ⟨q10, h⟩ := h
    refine xr_iaload' (v := m4 90 (m4 100 (v7 + 1))) dX12_makeRow_190 L_90 rfl (by decide) q10 rfl ?_
    refine xr_bipush dX12_makeRow_191 (by decide) ?_
    refine xr_ishr dX12_makeRow_193 ?_
    refine xr_iconst dX12_makeRow_194 ?_
    refine xr_iand dX12_makeRow_195 ?_
    refine xr_iconst dX12_makeRow_196 ?_
    obtain ⟨hT11, hF12⟩ := h
    refine xr_icmp_ne (tgt := 224) dX12_makeRow_197 (by decide) (jR_and _ _) (by decide) (fun c => ?_) (fun c => ?_)
    · have h := hT11 c
      refine xr_iinc' (ll' := [some (xr G 74), some (xi v1), some (xi v2), some (xi v3), some (xi v4), some (xi v5), some (xi v6), some (xi v7), some (xi (v8 + 1)), some (xi v9), some (xi v10), some (xi s0)]) dX12_makeRow_224 rfl (by decide) rfl rfl ?_
      refine xr_goto (tgt := 56) dX12_makeRow_227 (by decide) ?_
      refine xr_wk (ll' := [some (xr G 74), some (xi v1), some (xi v2), some (xi v3), some (xi v4), some (xi v5), some (xi v6), some (xi v7), some (xi (v8 + 1)), none, none, none]) ⟨rfl, ⟨rfl, ⟨rfl, ⟨rfl, ⟨rfl, ⟨rfl, ⟨rfl, ⟨rfl, ⟨rfl, trivial⟩⟩⟩⟩⟩⟩⟩⟩⟩ ?_
      exact h
    · have h := hF12 c
      refine xr_aload_n dX12_makeRow_200 rfl ?_
      refine xr_iload dX12_makeRow_201 rfl ?_
      refine xr_iload dX12_makeRow_203 rfl ?_
      refine xr_iconst dX12_makeRow_205 ?_
      refine xr_iadd dX12_makeRow_206 ?_
      refine xr_iload_n dX12_makeRow_207 rfl ?_
      refine xr_iload dX12_makeRow_208 rfl ?_
      refine xr_iload dX12_makeRow_210 rfl ?_
      refine xr_iload dX12_makeRow_212 rfl ?_
      refine xr_csI (As := [xi (v7 + 2), xi v2, xi v10, xi s0, xi v5]) dX12_makeRow_214 ms_X12_at ml_X12_290 rfl rfl (Nat.le_of_ble_eq_true rfl) h (fun r13 m14 hr13 h => ?_)
      refine xr_iload dX12_makeRow_217 rfl ?_
      refine xr_iconst dX12_makeRow_219 ?_
      refine xr_iadd dX12_makeRow_220 ?_
      refine xr_cvV (As := [xi v9, xi r13, xi (v7 + 1)]) dX12_makeRow_221 mi_X12_follow ml_X12_330 se_X12_follow L_74 rfl rfl rfl (Nat.le_of_ble_eq_true rfl) h (fun m16 h => ?_)
      refine xr_iinc' (ll' := [some (xr G 74), some (xi v1), some (xi v2), some (xi v3), some (xi v4), some (xi v5), some (xi v6), some (xi v7), some (xi (v8 + 1)), some (xi v9), some (xi v10), some (xi s0)]) dX12_makeRow_224 rfl (by decide) rfl rfl ?_
      refine xr_goto (tgt := 56) dX12_makeRow_227 (by decide) ?_
      refine xr_wk (ll' := [some (xr G 74), some (xi v1), some (xi v2), some (xi v3), some (xi v4), some (xi v5), some (xi v6), some (xi v7), some (xi (v8 + 1)), none, none, none]) ⟨rfl, ⟨rfl, ⟨rfl, ⟨rfl, ⟨rfl, ⟨rfl, ⟨rfl, ⟨rfl, ⟨rfl, trivial⟩⟩⟩⟩⟩⟩⟩⟩⟩ ?_
      exact h
theorem dX12_follow_0 : decode cX12_follow 0 = .ok (.aload_n 0, 1) := by decide +kernel
theorem dX12_follow_1 : decode cX12_follow 1 = .ok (.getfield 79, 3) := by decide +kernel
theorem dX12_follow_4 : decode cX12_follow 4 = .ok (.iload_n 2, 1) := by decide +kernel
theorem dX12_follow_5 : decode cX12_follow 5 = .ok (.iaload, 1) := by decide +kernel
theorem dX12_follow_6 : decode cX12_follow 6 = .ok (.ifCond .ne 4, 3) := by decide +kernel
theorem dX12_follow_9 : decode cX12_follow 9 = .ok (.return_, 1) := by decide +kernel
theorem dX12_follow_10 : decode cX12_follow 10 = .ok (.aload_n 0, 1) := by decide +kernel
theorem dX12_follow_11 : decode cX12_follow 11 = .ok (.invokevirtual 269, 3) := by decide +kernel
theorem dX12_follow_14 : decode cX12_follow 14 = .ok (.aload_n 0, 1) := by decide +kernel
theorem dX12_follow_15 : decode cX12_follow 15 = .ok (.iload_n 1, 1) := by decide +kernel
theorem dX12_follow_16 : decode cX12_follow 16 = .ok (.invokevirtual 327, 3) := by decide +kernel
theorem dX12_follow_19 : decode cX12_follow 19 = .ok (.iload_n 3, 1) := by decide +kernel
theorem dX12_follow_20 : decode cX12_follow 20 = .ok (.ifCond .lt 17, 3) := by decide +kernel
theorem dX12_follow_23 : decode cX12_follow 23 = .ok (.aload_n 0, 1) := by decide +kernel
theorem dX12_follow_24 : decode cX12_follow 24 = .ok (.bipush 107, 2) := by decide +kernel
theorem dX12_follow_26 : decode cX12_follow 26 = .ok (.invokevirtual 250, 3) := by decide +kernel
theorem dX12_follow_29 : decode cX12_follow 29 = .ok (.aload_n 0, 1) := by decide +kernel
theorem dX12_follow_30 : decode cX12_follow 30 = .ok (.bipush 65, 2) := by decide +kernel
theorem dX12_follow_32 : decode cX12_follow 32 = .ok (.iload_n 3, 1) := by decide +kernel
theorem dX12_follow_33 : decode cX12_follow 33 = .ok (.iadd, 1) := by decide +kernel
theorem dX12_follow_34 : decode cX12_follow 34 = .ok (.invokevirtual 250, 3) := by decide +kernel
theorem dX12_follow_37 : decode cX12_follow 37 = .ok (.aload_n 0, 1) := by decide +kernel
theorem dX12_follow_38 : decode cX12_follow 38 = .ok (.iload_n 2, 1) := by decide +kernel
theorem dX12_follow_39 : decode cX12_follow 39 = .ok (.invokevirtual 294, 3) := by decide +kernel
theorem dX12_follow_42 : decode cX12_follow 42 = .ok (.aload_n 0, 1) := by decide +kernel
theorem dX12_follow_43 : decode cX12_follow 43 = .ok (.aload_n 0, 1) := by decide +kernel
theorem dX12_follow_44 : decode cX12_follow 44 = .ok (.getfield 70, 3) := by decide +kernel
theorem dX12_follow_47 : decode cX12_follow 47 = .ok (.iload_n 1, 1) := by decide +kernel
theorem dX12_follow_48 : decode cX12_follow 48 = .ok (.iaload, 1) := by decide +kernel
theorem dX12_follow_49 : decode cX12_follow 49 = .ok (.aload_n 0, 1) := by decide +kernel
theorem dX12_follow_50 : decode cX12_follow 50 = .ok (.getfield 79, 3) := by decide +kernel
theorem dX12_follow_53 : decode cX12_follow 53 = .ok (.iload_n 2, 1) := by decide +kernel
theorem dX12_follow_54 : decode cX12_follow 54 = .ok (.iaload, 1) := by decide +kernel
theorem dX12_follow_55 : decode cX12_follow 55 = .ok (.invokestatic 308, 3) := by decide +kernel
theorem dX12_follow_58 : decode cX12_follow 58 = .ok (.aload_n 0, 1) := by decide +kernel
theorem dX12_follow_59 : decode cX12_follow 59 = .ok (.getfield 73, 3) := by decide +kernel
theorem dX12_follow_62 : decode cX12_follow 62 = .ok (.iload_n 1, 1) := by decide +kernel
theorem dX12_follow_63 : decode cX12_follow 63 = .ok (.iaload, 1) := by decide +kernel
theorem dX12_follow_64 : decode cX12_follow 64 = .ok (.aload_n 0, 1) := by decide +kernel
theorem dX12_follow_65 : decode cX12_follow 65 = .ok (.getfield 82, 3) := by decide +kernel
theorem dX12_follow_68 : decode cX12_follow 68 = .ok (.iload_n 2, 1) := by decide +kernel
theorem dX12_follow_69 : decode cX12_follow 69 = .ok (.iaload, 1) := by decide +kernel
theorem dX12_follow_70 : decode cX12_follow 70 = .ok (.iadd, 1) := by decide +kernel
theorem dX12_follow_71 : decode cX12_follow 71 = .ok (.invokevirtual 280, 3) := by decide +kernel
theorem dX12_follow_74 : decode cX12_follow 74 = .ok (.return_, 1) := by decide +kernel
def K_X12_follow_37 (G : xG) (l : Launch) (d : Nat) (P : xMem → Prop) (v1 v2 : Int) (μ : xMem) : Prop := RR G l d 0 0 false mX12_follow (qV P) 37 [some (xr G 74), some (xi v1), some (xi v2), none] [] LAY μ 0 0
set_option maxRecDepth 20000 in
theorem E_X12_follow {G : xG} {l : Launch} {d : Nat} {P : xMem → Prop} {v1 v2 v3 : Int} {μ : xMem} (h : ((0 ≤ v2 ∧ v2 < 3960) ∧ (iR (μ 95 v2) ∧ ((μ 95 v2) ≠ 0 → CV G l d mX12_open [xr G 74] μ (fun m6 => CV G l d mX12_sayPiece [xr G 74, xi v1] m6 (fun m8 => (iR v3 ∧ (v3 < 0 → K_X12_follow_37 G l (d + 1) P v1 v2 m8) ∧ (0 ≤ v3 → CV G l d mX12_say [xr G 74, xi 107] m8 (fun m13 => CV G l d mX12_say [xr G 74, xi (65 + v3)] m13 (fun m15 => K_X12_follow_37 G l (d + 1) P v1 v2 m15))))))) ∧ ((μ 95 v2) = 0 → P μ)))) : CV G l (d + 1) mX12_follow [xr G 74, xi v1, xi v2, xi v3] μ P := by
  refine CC.ofRR (ll := [some (xr G 74), some (xi v1), some (xi v2), some (xi v3)]) (by decide +kernel) (Nat.le_of_ble_eq_true rfl) rfl (fun h => by cases h) ?_
  refine xr_aload_n dX12_follow_0 rfl ?_
  refine xr_getR dX12_follow_1 fl_X12_79 L_74 rfl ?_
  refine xr_iload_n dX12_follow_4 rfl ?_
  obtain ⟨q1, h⟩ := h
  refine xr_iaload' (v := μ 95 v2) dX12_follow_5 L_95 rfl (by decide) q1 rfl ?_
  obtain ⟨q2, hT3, hF4⟩ := h
  refine xr_if_ne (tgt := 10) dX12_follow_6 (by decide) q2  (fun c => ?_) (fun c => ?_)
  · have h := hT3 c
    refine xr_aload_n dX12_follow_10 rfl ?_
    refine xr_cvV (As := []) dX12_follow_11 mi_X12_open ml_X12_269 se_X12_open L_74 rfl rfl rfl (Nat.le_of_ble_eq_true rfl) h (fun m6 h => ?_)
    refine xr_aload_n dX12_follow_14 rfl ?_
    refine xr_iload_n dX12_follow_15 rfl ?_
    refine xr_cvV (As := [xi v1]) dX12_follow_16 mi_X12_sayPiece ml_X12_327 se_X12_sayPiece L_74 rfl rfl rfl (Nat.le_of_ble_eq_true rfl) h (fun m8 h => ?_)
    refine xr_iload_n dX12_follow_19 rfl ?_
    obtain ⟨q9, hT10, hF11⟩ := h
    refine xr_if_lt (tgt := 37) dX12_follow_20 (by decide) q9  (fun c => ?_) (fun c => ?_)
    · have h := hT10 c
      refine xr_wk (ll' := [some (xr G 74), some (xi v1), some (xi v2), none]) ⟨rfl, ⟨rfl, ⟨rfl, trivial⟩⟩⟩ ?_
      exact h
    · have h := hF11 (Int.not_lt.mp c)
      refine xr_aload_n dX12_follow_23 rfl ?_
      refine xr_bipush dX12_follow_24 (by decide) ?_
      refine xr_cvV (As := [xi 107]) dX12_follow_26 mi_X12_say ml_X12_250 se_X12_say L_74 rfl rfl rfl (Nat.le_of_ble_eq_true rfl) h (fun m13 h => ?_)
      refine xr_aload_n dX12_follow_29 rfl ?_
      refine xr_bipush dX12_follow_30 (by decide) ?_
      refine xr_iload_n dX12_follow_32 rfl ?_
      refine xr_iadd dX12_follow_33 ?_
      refine xr_cvV (As := [xi (65 + v3)]) dX12_follow_34 mi_X12_say ml_X12_250 se_X12_say L_74 rfl rfl rfl (Nat.le_of_ble_eq_true rfl) h (fun m15 h => ?_)
      refine xr_wk (ll' := [some (xr G 74), some (xi v1), some (xi v2), none]) ⟨rfl, ⟨rfl, ⟨rfl, trivial⟩⟩⟩ ?_
      exact h
  · have h := hF4 c
    exact xr_ret dX12_follow_9 rfl ⟨rfl, rfl, h⟩
set_option maxRecDepth 20000 in
theorem B_X12_follow_37 {G : xG} {l : Launch} {d : Nat} {P : xMem → Prop} {v1 v2 : Int} {μ : xMem} (h : CV G l d mX12_sayRow [xr G 74, xi v2] μ (fun m2 => ((0 ≤ v1 ∧ v1 < 3960) ∧ ((0 ≤ v2 ∧ v2 < 3960) ∧ CI G l d mX12_times [xi (m2 92 v1), xi (m2 95 v2)] m2 (fun r5 m6 => CV G l d mX12_offer [xr G 74, xi r5, xi ((m6 93 v1) + (m6 96 v2))] m6 (fun m8 => P m8)))))) : K_X12_follow_37 G l (d + 1) P v1 v2 μ := by
  unfold K_X12_follow_37
  refine xr_aload_n dX12_follow_37 rfl ?_
  refine xr_iload_n dX12_follow_38 rfl ?_
  refine xr_cvV (As := [xi v2]) dX12_follow_39 mi_X12_sayRow ml_X12_294 se_X12_sayRow L_74 rfl rfl rfl (Nat.le_of_ble_eq_true rfl) h (fun m2 h => ?_)
  refine xr_aload_n dX12_follow_42 rfl ?_
  refine xr_aload_n dX12_follow_43 rfl ?_
  refine xr_getR dX12_follow_44 fl_X12_70 L_74 rfl ?_
  refine xr_iload_n dX12_follow_47 rfl ?_
  obtain ⟨q3, h⟩ := h
  refine xr_iaload' (v := m2 92 v1) dX12_follow_48 L_92 rfl (by decide) q3 rfl ?_
  refine xr_aload_n dX12_follow_49 rfl ?_
  refine xr_getR dX12_follow_50 fl_X12_79 L_74 rfl ?_
  refine xr_iload_n dX12_follow_53 rfl ?_
  obtain ⟨q4, h⟩ := h
  refine xr_iaload' (v := m2 95 v2) dX12_follow_54 L_95 rfl (by decide) q4 rfl ?_
  refine xr_csI (As := [xi (m2 92 v1), xi (m2 95 v2)]) dX12_follow_55 ms_X12_times ml_X12_308 rfl rfl (Nat.le_of_ble_eq_true rfl) h (fun r5 m6 hr5 h => ?_)
  refine xr_aload_n dX12_follow_58 rfl ?_
  refine xr_getR dX12_follow_59 fl_X12_73 L_74 rfl ?_
  refine xr_iload_n dX12_follow_62 rfl ?_
  refine xr_iaload' (v := m6 93 v1) dX12_follow_63 L_93 rfl (by decide) q3 rfl ?_
  refine xr_aload_n dX12_follow_64 rfl ?_
  refine xr_getR dX12_follow_65 fl_X12_82 L_74 rfl ?_
  refine xr_iload_n dX12_follow_68 rfl ?_
  refine xr_iaload' (v := m6 96 v2) dX12_follow_69 L_96 rfl (by decide) q4 rfl ?_
  refine xr_iadd dX12_follow_70 ?_
  refine xr_cvV (As := [xi r5, xi ((m6 93 v1) + (m6 96 v2))]) dX12_follow_71 mi_X12_offer ml_X12_280 se_X12_offer L_74 rfl rfl rfl (Nat.le_of_ble_eq_true rfl) h (fun m8 h => ?_)
  exact xr_ret dX12_follow_74 rfl ⟨rfl, rfl, h⟩
theorem dX12_makeAll_0 : decode cX12_makeAll 0 = .ok (.iconst 0, 1) := by decide +kernel
theorem dX12_makeAll_1 : decode cX12_makeAll 1 = .ok (.istore_n 1, 1) := by decide +kernel
theorem dX12_makeAll_2 : decode cX12_makeAll 2 = .ok (.iload_n 1, 1) := by decide +kernel
theorem dX12_makeAll_3 : decode cX12_makeAll 3 = .ok (.aload_n 0, 1) := by decide +kernel
theorem dX12_makeAll_4 : decode cX12_makeAll 4 = .ok (.getfield 333, 3) := by decide +kernel
theorem dX12_makeAll_7 : decode cX12_makeAll 7 = .ok (.if_icmp .ge 155, 3) := by decide +kernel
theorem dX12_makeAll_10 : decode cX12_makeAll 10 = .ok (.iconst 0, 1) := by decide +kernel
theorem dX12_makeAll_11 : decode cX12_makeAll 11 = .ok (.istore_n 2, 1) := by decide +kernel
theorem dX12_makeAll_12 : decode cX12_makeAll 12 = .ok (.iload_n 2, 1) := by decide +kernel
theorem dX12_makeAll_13 : decode cX12_makeAll 13 = .ok (.iload_n 1, 1) := by decide +kernel
theorem dX12_makeAll_14 : decode cX12_makeAll 14 = .ok (.iadd, 1) := by decide +kernel
theorem dX12_makeAll_15 : decode cX12_makeAll 15 = .ok (.aload_n 0, 1) := by decide +kernel
theorem dX12_makeAll_16 : decode cX12_makeAll 16 = .ok (.getfield 333, 3) := by decide +kernel
theorem dX12_makeAll_19 : decode cX12_makeAll 19 = .ok (.if_icmp .ge 137, 3) := by decide +kernel
theorem dX12_makeAll_22 : decode cX12_makeAll 22 = .ok (.iconst 0, 1) := by decide +kernel
theorem dX12_makeAll_23 : decode cX12_makeAll 23 = .ok (.istore_n 3, 1) := by decide +kernel
theorem dX12_makeAll_24 : decode cX12_makeAll 24 = .ok (.iload_n 3, 1) := by decide +kernel
theorem dX12_makeAll_25 : decode cX12_makeAll 25 = .ok (.aload_n 0, 1) := by decide +kernel
theorem dX12_makeAll_26 : decode cX12_makeAll 26 = .ok (.getfield 336, 3) := by decide +kernel
theorem dX12_makeAll_29 : decode cX12_makeAll 29 = .ok (.if_icmp .ge 57, 3) := by decide +kernel
theorem dX12_makeAll_32 : decode cX12_makeAll 32 = .ok (.iload_n 3, 1) := by decide +kernel
theorem dX12_makeAll_33 : decode cX12_makeAll 33 = .ok (.iconst 1, 1) := by decide +kernel
theorem dX12_makeAll_34 : decode cX12_makeAll 34 = .ok (.iadd, 1) := by decide +kernel
theorem dX12_makeAll_35 : decode cX12_makeAll 35 = .ok (.istore 4, 2) := by decide +kernel
theorem dX12_makeAll_37 : decode cX12_makeAll 37 = .ok (.iload 4, 2) := by decide +kernel
theorem dX12_makeAll_39 : decode cX12_makeAll 39 = .ok (.aload_n 0, 1) := by decide +kernel
theorem dX12_makeAll_40 : decode cX12_makeAll 40 = .ok (.getfield 336, 3) := by decide +kernel
theorem dX12_makeAll_43 : decode cX12_makeAll 43 = .ok (.if_icmp .gt 37, 3) := by decide +kernel
theorem dX12_makeAll_46 : decode cX12_makeAll 46 = .ok (.iconst 0, 1) := by decide +kernel
theorem dX12_makeAll_47 : decode cX12_makeAll 47 = .ok (.istore 5, 2) := by decide +kernel
theorem dX12_makeAll_49 : decode cX12_makeAll 49 = .ok (.iload 5, 2) := by decide +kernel
theorem dX12_makeAll_51 : decode cX12_makeAll 51 = .ok (.iconst 2, 1) := by decide +kernel
theorem dX12_makeAll_52 : decode cX12_makeAll 52 = .ok (.if_icmp .ge 22, 3) := by decide +kernel
theorem dX12_makeAll_55 : decode cX12_makeAll 55 = .ok (.aload_n 0, 1) := by decide +kernel
theorem dX12_makeAll_56 : decode cX12_makeAll 56 = .ok (.iload_n 2, 1) := by decide +kernel
theorem dX12_makeAll_57 : decode cX12_makeAll 57 = .ok (.iload_n 2, 1) := by decide +kernel
theorem dX12_makeAll_58 : decode cX12_makeAll 58 = .ok (.iload_n 1, 1) := by decide +kernel
theorem dX12_makeAll_59 : decode cX12_makeAll 59 = .ok (.iadd, 1) := by decide +kernel
theorem dX12_makeAll_60 : decode cX12_makeAll 60 = .ok (.iload_n 3, 1) := by decide +kernel
theorem dX12_makeAll_61 : decode cX12_makeAll 61 = .ok (.iload 4, 2) := by decide +kernel
theorem dX12_makeAll_63 : decode cX12_makeAll 63 = .ok (.iload 5, 2) := by decide +kernel
theorem dX12_makeAll_65 : decode cX12_makeAll 65 = .ok (.invokevirtual 339, 3) := by decide +kernel
theorem dX12_makeAll_68 : decode cX12_makeAll 68 = .ok (.iinc 5 1, 3) := by decide +kernel
theorem dX12_makeAll_71 : decode cX12_makeAll 71 = .ok (.goto (-22), 3) := by decide +kernel
theorem dX12_makeAll_74 : decode cX12_makeAll 74 = .ok (.iinc 4 1, 3) := by decide +kernel
theorem dX12_makeAll_77 : decode cX12_makeAll 77 = .ok (.goto (-40), 3) := by decide +kernel
theorem dX12_makeAll_80 : decode cX12_makeAll 80 = .ok (.iinc 3 1, 3) := by decide +kernel
theorem dX12_makeAll_83 : decode cX12_makeAll 83 = .ok (.goto (-59), 3) := by decide +kernel
theorem dX12_makeAll_86 : decode cX12_makeAll 86 = .ok (.iconst 0, 1) := by decide +kernel
theorem dX12_makeAll_87 : decode cX12_makeAll 87 = .ok (.istore_n 3, 1) := by decide +kernel
theorem dX12_makeAll_88 : decode cX12_makeAll 88 = .ok (.iload_n 3, 1) := by decide +kernel
theorem dX12_makeAll_89 : decode cX12_makeAll 89 = .ok (.aload_n 0, 1) := by decide +kernel
theorem dX12_makeAll_90 : decode cX12_makeAll 90 = .ok (.getfield 336, 3) := by decide +kernel
theorem dX12_makeAll_93 : decode cX12_makeAll 93 = .ok (.if_icmp .ge 57, 3) := by decide +kernel
theorem dX12_makeAll_96 : decode cX12_makeAll 96 = .ok (.iload_n 3, 1) := by decide +kernel
theorem dX12_makeAll_97 : decode cX12_makeAll 97 = .ok (.iconst 1, 1) := by decide +kernel
theorem dX12_makeAll_98 : decode cX12_makeAll 98 = .ok (.iadd, 1) := by decide +kernel
theorem dX12_makeAll_99 : decode cX12_makeAll 99 = .ok (.istore 4, 2) := by decide +kernel
theorem dX12_makeAll_101 : decode cX12_makeAll 101 = .ok (.iload 4, 2) := by decide +kernel
theorem dX12_makeAll_103 : decode cX12_makeAll 103 = .ok (.aload_n 0, 1) := by decide +kernel
theorem dX12_makeAll_104 : decode cX12_makeAll 104 = .ok (.getfield 336, 3) := by decide +kernel
theorem dX12_makeAll_107 : decode cX12_makeAll 107 = .ok (.if_icmp .gt 37, 3) := by decide +kernel
theorem dX12_makeAll_110 : decode cX12_makeAll 110 = .ok (.iconst 0, 1) := by decide +kernel
theorem dX12_makeAll_111 : decode cX12_makeAll 111 = .ok (.istore 5, 2) := by decide +kernel
theorem dX12_makeAll_113 : decode cX12_makeAll 113 = .ok (.iload 5, 2) := by decide +kernel
theorem dX12_makeAll_115 : decode cX12_makeAll 115 = .ok (.iconst 2, 1) := by decide +kernel
theorem dX12_makeAll_116 : decode cX12_makeAll 116 = .ok (.if_icmp .ge 22, 3) := by decide +kernel
theorem dX12_makeAll_119 : decode cX12_makeAll 119 = .ok (.aload_n 0, 1) := by decide +kernel
theorem dX12_makeAll_120 : decode cX12_makeAll 120 = .ok (.iload_n 2, 1) := by decide +kernel
theorem dX12_makeAll_121 : decode cX12_makeAll 121 = .ok (.iload_n 2, 1) := by decide +kernel
theorem dX12_makeAll_122 : decode cX12_makeAll 122 = .ok (.iload_n 1, 1) := by decide +kernel
theorem dX12_makeAll_123 : decode cX12_makeAll 123 = .ok (.iadd, 1) := by decide +kernel
theorem dX12_makeAll_124 : decode cX12_makeAll 124 = .ok (.iload_n 3, 1) := by decide +kernel
theorem dX12_makeAll_125 : decode cX12_makeAll 125 = .ok (.iload 4, 2) := by decide +kernel
theorem dX12_makeAll_127 : decode cX12_makeAll 127 = .ok (.iload 5, 2) := by decide +kernel
theorem dX12_makeAll_129 : decode cX12_makeAll 129 = .ok (.invokevirtual 342, 3) := by decide +kernel
theorem dX12_makeAll_132 : decode cX12_makeAll 132 = .ok (.iinc 5 1, 3) := by decide +kernel
theorem dX12_makeAll_135 : decode cX12_makeAll 135 = .ok (.goto (-22), 3) := by decide +kernel
theorem dX12_makeAll_138 : decode cX12_makeAll 138 = .ok (.iinc 4 1, 3) := by decide +kernel
theorem dX12_makeAll_141 : decode cX12_makeAll 141 = .ok (.goto (-40), 3) := by decide +kernel
theorem dX12_makeAll_144 : decode cX12_makeAll 144 = .ok (.iinc 3 1, 3) := by decide +kernel
theorem dX12_makeAll_147 : decode cX12_makeAll 147 = .ok (.goto (-59), 3) := by decide +kernel
theorem dX12_makeAll_150 : decode cX12_makeAll 150 = .ok (.iinc 2 1, 3) := by decide +kernel
theorem dX12_makeAll_153 : decode cX12_makeAll 153 = .ok (.goto (-141), 3) := by decide +kernel
theorem dX12_makeAll_156 : decode cX12_makeAll 156 = .ok (.iinc 1 1, 3) := by decide +kernel
theorem dX12_makeAll_159 : decode cX12_makeAll 159 = .ok (.goto (-157), 3) := by decide +kernel
theorem dX12_makeAll_162 : decode cX12_makeAll 162 = .ok (.return_, 1) := by decide +kernel
def K_X12_makeAll_2 (G : xG) (l : Launch) (d : Nat) (P : xMem → Prop) (v1 : Int) (μ : xMem) : Prop := RR G l d 0 0 false mX12_makeAll (qV P) 2 [some (xr G 74), some (xi v1), none, none, none, none] [] LAY μ 0 0
def K_X12_makeAll_12 (G : xG) (l : Launch) (d : Nat) (P : xMem → Prop) (v1 v2 : Int) (μ : xMem) : Prop := RR G l d 0 0 false mX12_makeAll (qV P) 12 [some (xr G 74), some (xi v1), some (xi v2), none, none, none] [] LAY μ 0 0
def K_X12_makeAll_24 (G : xG) (l : Launch) (d : Nat) (P : xMem → Prop) (v1 v2 v3 : Int) (μ : xMem) : Prop := RR G l d 0 0 false mX12_makeAll (qV P) 24 [some (xr G 74), some (xi v1), some (xi v2), some (xi v3), none, none] [] LAY μ 0 0
def K_X12_makeAll_88 (G : xG) (l : Launch) (d : Nat) (P : xMem → Prop) (v1 v2 v3 : Int) (μ : xMem) : Prop := RR G l d 0 0 false mX12_makeAll (qV P) 88 [some (xr G 74), some (xi v1), some (xi v2), some (xi v3), none, none] [] LAY μ 0 0
def K_X12_makeAll_37 (G : xG) (l : Launch) (d : Nat) (P : xMem → Prop) (v1 v2 v3 v4 : Int) (μ : xMem) : Prop := RR G l d 0 0 false mX12_makeAll (qV P) 37 [some (xr G 74), some (xi v1), some (xi v2), some (xi v3), some (xi v4), none] [] LAY μ 0 0
def K_X12_makeAll_101 (G : xG) (l : Launch) (d : Nat) (P : xMem → Prop) (v1 v2 v3 v4 : Int) (μ : xMem) : Prop := RR G l d 0 0 false mX12_makeAll (qV P) 101 [some (xr G 74), some (xi v1), some (xi v2), some (xi v3), some (xi v4), none] [] LAY μ 0 0
def K_X12_makeAll_49 (G : xG) (l : Launch) (d : Nat) (P : xMem → Prop) (v1 v2 v3 v4 v5 : Int) (μ : xMem) : Prop := RR G l d 0 0 false mX12_makeAll (qV P) 49 [some (xr G 74), some (xi v1), some (xi v2), some (xi v3), some (xi v4), some (xi v5)] [] LAY μ 0 0
def K_X12_makeAll_113 (G : xG) (l : Launch) (d : Nat) (P : xMem → Prop) (v1 v2 v3 v4 v5 : Int) (μ : xMem) : Prop := RR G l d 0 0 false mX12_makeAll (qV P) 113 [some (xr G 74), some (xi v1), some (xi v2), some (xi v3), some (xi v4), some (xi v5)] [] LAY μ 0 0
set_option maxRecDepth 20000 in
theorem E_X12_makeAll {G : xG} {l : Launch} {d : Nat} {P : xMem → Prop} {μ : xMem} (h : K_X12_makeAll_2 G l (d + 1) P 0 μ) : CV G l (d + 1) mX12_makeAll [xr G 74] μ P := by
  refine CC.ofRR (ll := [some (xr G 74), none, none, none, none, none]) (by decide +kernel) (Nat.le_of_ble_eq_true rfl) rfl (fun h => by cases h) ?_
  refine xr_iconst dX12_makeAll_0 ?_
  refine xr_istore_n' (ll' := [some (xr G 74), some (xi 0), none, none, none, none]) dX12_makeAll_1 (by decide) rfl rfl ?_
  exact h
set_option maxRecDepth 20000 in
theorem B_X12_makeAll_2 {G : xG} {l : Launch} {d : Nat} {P : xMem → Prop} {v1 : Int} {μ : xMem} (h : (iR v1 ∧ iR (μ 74 41) ∧ ((μ 74 41) ≤ v1 → P μ) ∧ (v1 < (μ 74 41) → K_X12_makeAll_12 G l (d + 1) P v1 0 μ))) : K_X12_makeAll_2 G l (d + 1) P v1 μ := by
  unfold K_X12_makeAll_2
  refine xr_iload_n dX12_makeAll_2 rfl ?_
  refine xr_aload_n dX12_makeAll_3 rfl ?_
  refine xr_getI' (v := μ 74 41) dX12_makeAll_4 fl_X12_333 L_74 rfl rfl rfl ?_
  obtain ⟨q1, q2, hT3, hF4⟩ := h
  refine xr_icmp_ge (tgt := 162) dX12_makeAll_7 (by decide) q1 q2 (fun c => ?_) (fun c => ?_)
  · have h := hT3 c
    exact xr_ret dX12_makeAll_162 rfl ⟨rfl, rfl, h⟩
  · have h := hF4 (Int.not_le.mp c)
    refine xr_iconst dX12_makeAll_10 ?_
    refine xr_istore_n' (ll' := [some (xr G 74), some (xi v1), some (xi 0), none, none, none]) dX12_makeAll_11 (by decide) rfl rfl ?_
    exact h
set_option maxRecDepth 20000 in
theorem B_X12_makeAll_12 {G : xG} {l : Launch} {d : Nat} {P : xMem → Prop} {v1 v2 : Int} {μ : xMem} (h : (iR (v2 + v1) ∧ iR (μ 74 41) ∧ ((μ 74 41) ≤ (v2 + v1) → K_X12_makeAll_2 G l (d + 1) P (v1 + 1) μ) ∧ ((v2 + v1) < (μ 74 41) → K_X12_makeAll_24 G l (d + 1) P v1 v2 0 μ))) : K_X12_makeAll_12 G l (d + 1) P v1 v2 μ := by
  unfold K_X12_makeAll_12
  refine xr_iload_n dX12_makeAll_12 rfl ?_
  refine xr_iload_n dX12_makeAll_13 rfl ?_
  refine xr_iadd dX12_makeAll_14 ?_
  refine xr_aload_n dX12_makeAll_15 rfl ?_
  refine xr_getI' (v := μ 74 41) dX12_makeAll_16 fl_X12_333 L_74 rfl rfl rfl ?_
  obtain ⟨q1, q2, hT3, hF4⟩ := h
  refine xr_icmp_ge (tgt := 156) dX12_makeAll_19 (by decide) q1 q2 (fun c => ?_) (fun c => ?_)
  · have h := hT3 c
    refine xr_iinc' (ll' := [some (xr G 74), some (xi (v1 + 1)), some (xi v2), none, none, none]) dX12_makeAll_156 rfl (by decide) rfl rfl ?_
    refine xr_goto (tgt := 2) dX12_makeAll_159 (by decide) ?_
    refine xr_wk (ll' := [some (xr G 74), some (xi (v1 + 1)), none, none, none, none]) ⟨rfl, ⟨rfl, trivial⟩⟩ ?_
    exact h
  · have h := hF4 (Int.not_le.mp c)
    refine xr_iconst dX12_makeAll_22 ?_
    refine xr_istore_n' (ll' := [some (xr G 74), some (xi v1), some (xi v2), some (xi 0), none, none]) dX12_makeAll_23 (by decide) rfl rfl ?_
    exact h
set_option maxRecDepth 20000 in
theorem B_X12_makeAll_24 {G : xG} {l : Launch} {d : Nat} {P : xMem → Prop} {v1 v2 v3 : Int} {μ : xMem} (h : (iR v3 ∧ iR (μ 74 42) ∧ ((μ 74 42) ≤ v3 → K_X12_makeAll_88 G l (d + 1) P v1 v2 0 μ) ∧ (v3 < (μ 74 42) → K_X12_makeAll_37 G l (d + 1) P v1 v2 v3 (v3 + 1) μ))) : K_X12_makeAll_24 G l (d + 1) P v1 v2 v3 μ := by
  unfold K_X12_makeAll_24
  refine xr_iload_n dX12_makeAll_24 rfl ?_
  refine xr_aload_n dX12_makeAll_25 rfl ?_
  refine xr_getI' (v := μ 74 42) dX12_makeAll_26 fl_X12_336 L_74 rfl rfl rfl ?_
  obtain ⟨q1, q2, hT3, hF4⟩ := h
  refine xr_icmp_ge (tgt := 86) dX12_makeAll_29 (by decide) q1 q2 (fun c => ?_) (fun c => ?_)
  · have h := hT3 c
    refine xr_iconst dX12_makeAll_86 ?_
    refine xr_istore_n' (ll' := [some (xr G 74), some (xi v1), some (xi v2), some (xi 0), none, none]) dX12_makeAll_87 (by decide) rfl rfl ?_
    exact h
  · have h := hF4 (Int.not_le.mp c)
    refine xr_iload_n dX12_makeAll_32 rfl ?_
    refine xr_iconst dX12_makeAll_33 ?_
    refine xr_iadd dX12_makeAll_34 ?_
    refine xr_istore' (ll' := [some (xr G 74), some (xi v1), some (xi v2), some (xi v3), some (xi (v3 + 1)), none]) dX12_makeAll_35 (by decide) rfl rfl ?_
    exact h
set_option maxRecDepth 20000 in
theorem B_X12_makeAll_88 {G : xG} {l : Launch} {d : Nat} {P : xMem → Prop} {v1 v2 v3 : Int} {μ : xMem} (h : (iR v3 ∧ iR (μ 74 42) ∧ ((μ 74 42) ≤ v3 → K_X12_makeAll_12 G l (d + 1) P v1 (v2 + 1) μ) ∧ (v3 < (μ 74 42) → K_X12_makeAll_101 G l (d + 1) P v1 v2 v3 (v3 + 1) μ))) : K_X12_makeAll_88 G l (d + 1) P v1 v2 v3 μ := by
  unfold K_X12_makeAll_88
  refine xr_iload_n dX12_makeAll_88 rfl ?_
  refine xr_aload_n dX12_makeAll_89 rfl ?_
  refine xr_getI' (v := μ 74 42) dX12_makeAll_90 fl_X12_336 L_74 rfl rfl rfl ?_
  obtain ⟨q1, q2, hT3, hF4⟩ := h
  refine xr_icmp_ge (tgt := 150) dX12_makeAll_93 (by decide) q1 q2 (fun c => ?_) (fun c => ?_)
  · have h := hT3 c
    refine xr_iinc' (ll' := [some (xr G 74), some (xi v1), some (xi (v2 + 1)), some (xi v3), none, none]) dX12_makeAll_150 rfl (by decide) rfl rfl ?_
    refine xr_goto (tgt := 12) dX12_makeAll_153 (by decide) ?_
    refine xr_wk (ll' := [some (xr G 74), some (xi v1), some (xi (v2 + 1)), none, none, none]) ⟨rfl, ⟨rfl, ⟨rfl, trivial⟩⟩⟩ ?_
    exact h
  · have h := hF4 (Int.not_le.mp c)
    refine xr_iload_n dX12_makeAll_96 rfl ?_
    refine xr_iconst dX12_makeAll_97 ?_
    refine xr_iadd dX12_makeAll_98 ?_
    refine xr_istore' (ll' := [some (xr G 74), some (xi v1), some (xi v2), some (xi v3), some (xi (v3 + 1)), none]) dX12_makeAll_99 (by decide) rfl rfl ?_
    exact h
set_option maxRecDepth 20000 in
theorem B_X12_makeAll_37 {G : xG} {l : Launch} {d : Nat} {P : xMem → Prop} {v1 v2 v3 v4 : Int} {μ : xMem} (h : (iR v4 ∧ iR (μ 74 42) ∧ ((μ 74 42) < v4 → K_X12_makeAll_24 G l (d + 1) P v1 v2 (v3 + 1) μ) ∧ (v4 ≤ (μ 74 42) → K_X12_makeAll_49 G l (d + 1) P v1 v2 v3 v4 0 μ))) : K_X12_makeAll_37 G l (d + 1) P v1 v2 v3 v4 μ := by
  unfold K_X12_makeAll_37
  refine xr_iload dX12_makeAll_37 rfl ?_
  refine xr_aload_n dX12_makeAll_39 rfl ?_
  refine xr_getI' (v := μ 74 42) dX12_makeAll_40 fl_X12_336 L_74 rfl rfl rfl ?_
  obtain ⟨q1, q2, hT3, hF4⟩ := h
  refine xr_icmp_gt (tgt := 80) dX12_makeAll_43 (by decide) q1 q2 (fun c => ?_) (fun c => ?_)
  · have h := hT3 c
    refine xr_iinc' (ll' := [some (xr G 74), some (xi v1), some (xi v2), some (xi (v3 + 1)), some (xi v4), none]) dX12_makeAll_80 rfl (by decide) rfl rfl ?_
    refine xr_goto (tgt := 24) dX12_makeAll_83 (by decide) ?_
    refine xr_wk (ll' := [some (xr G 74), some (xi v1), some (xi v2), some (xi (v3 + 1)), none, none]) ⟨rfl, ⟨rfl, ⟨rfl, ⟨rfl, trivial⟩⟩⟩⟩ ?_
    exact h
  · have h := hF4 (Int.not_lt.mp c)
    refine xr_iconst dX12_makeAll_46 ?_
    refine xr_istore' (ll' := [some (xr G 74), some (xi v1), some (xi v2), some (xi v3), some (xi v4), some (xi 0)]) dX12_makeAll_47 (by decide) rfl rfl ?_
    exact h
set_option maxRecDepth 20000 in
theorem B_X12_makeAll_101 {G : xG} {l : Launch} {d : Nat} {P : xMem → Prop} {v1 v2 v3 v4 : Int} {μ : xMem} (h : (iR v4 ∧ iR (μ 74 42) ∧ ((μ 74 42) < v4 → K_X12_makeAll_88 G l (d + 1) P v1 v2 (v3 + 1) μ) ∧ (v4 ≤ (μ 74 42) → K_X12_makeAll_113 G l (d + 1) P v1 v2 v3 v4 0 μ))) : K_X12_makeAll_101 G l (d + 1) P v1 v2 v3 v4 μ := by
  unfold K_X12_makeAll_101
  refine xr_iload dX12_makeAll_101 rfl ?_
  refine xr_aload_n dX12_makeAll_103 rfl ?_
  refine xr_getI' (v := μ 74 42) dX12_makeAll_104 fl_X12_336 L_74 rfl rfl rfl ?_
  obtain ⟨q1, q2, hT3, hF4⟩ := h
  refine xr_icmp_gt (tgt := 144) dX12_makeAll_107 (by decide) q1 q2 (fun c => ?_) (fun c => ?_)
  · have h := hT3 c
    refine xr_iinc' (ll' := [some (xr G 74), some (xi v1), some (xi v2), some (xi (v3 + 1)), some (xi v4), none]) dX12_makeAll_144 rfl (by decide) rfl rfl ?_
    refine xr_goto (tgt := 88) dX12_makeAll_147 (by decide) ?_
    refine xr_wk (ll' := [some (xr G 74), some (xi v1), some (xi v2), some (xi (v3 + 1)), none, none]) ⟨rfl, ⟨rfl, ⟨rfl, ⟨rfl, trivial⟩⟩⟩⟩ ?_
    exact h
  · have h := hF4 (Int.not_lt.mp c)
    refine xr_iconst dX12_makeAll_110 ?_
    refine xr_istore' (ll' := [some (xr G 74), some (xi v1), some (xi v2), some (xi v3), some (xi v4), some (xi 0)]) dX12_makeAll_111 (by decide) rfl rfl ?_
    exact h
set_option maxRecDepth 20000 in
theorem B_X12_makeAll_49 {G : xG} {l : Launch} {d : Nat} {P : xMem → Prop} {v1 v2 v3 v4 v5 : Int} {μ : xMem} (h : (iR v5 ∧ (2 ≤ v5 → K_X12_makeAll_37 G l (d + 1) P v1 v2 v3 (v4 + 1) μ) ∧ (v5 < 2 → CV G l d mX12_makePiece [xr G 74, xi v2, xi (v2 + v1), xi v3, xi v4, xi v5] μ (fun m5 => K_X12_makeAll_49 G l (d + 1) P v1 v2 v3 v4 (v5 + 1) m5)))) : K_X12_makeAll_49 G l (d + 1) P v1 v2 v3 v4 v5 μ := by
  unfold K_X12_makeAll_49
  refine xr_iload dX12_makeAll_49 rfl ?_
  refine xr_iconst dX12_makeAll_51 ?_
  obtain ⟨q1, hT2, hF3⟩ := h
  refine xr_icmp_ge (tgt := 74) dX12_makeAll_52 (by decide) q1 (by decide) (fun c => ?_) (fun c => ?_)
  · have h := hT2 c
    refine xr_iinc' (ll' := [some (xr G 74), some (xi v1), some (xi v2), some (xi v3), some (xi (v4 + 1)), some (xi v5)]) dX12_makeAll_74 rfl (by decide) rfl rfl ?_
    refine xr_goto (tgt := 37) dX12_makeAll_77 (by decide) ?_
    refine xr_wk (ll' := [some (xr G 74), some (xi v1), some (xi v2), some (xi v3), some (xi (v4 + 1)), none]) ⟨rfl, ⟨rfl, ⟨rfl, ⟨rfl, ⟨rfl, trivial⟩⟩⟩⟩⟩ ?_
    exact h
  · have h := hF3 (Int.not_le.mp c)
    refine xr_aload_n dX12_makeAll_55 rfl ?_
    refine xr_iload_n dX12_makeAll_56 rfl ?_
    refine xr_iload_n dX12_makeAll_57 rfl ?_
    refine xr_iload_n dX12_makeAll_58 rfl ?_
    refine xr_iadd dX12_makeAll_59 ?_
    refine xr_iload_n dX12_makeAll_60 rfl ?_
    refine xr_iload dX12_makeAll_61 rfl ?_
    refine xr_iload dX12_makeAll_63 rfl ?_
    refine xr_cvV (As := [xi v2, xi (v2 + v1), xi v3, xi v4, xi v5]) dX12_makeAll_65 mi_X12_makePiece ml_X12_339 se_X12_makePiece L_74 rfl rfl rfl (Nat.le_of_ble_eq_true rfl) h (fun m5 h => ?_)
    refine xr_iinc' (ll' := [some (xr G 74), some (xi v1), some (xi v2), some (xi v3), some (xi v4), some (xi (v5 + 1))]) dX12_makeAll_68 rfl (by decide) rfl rfl ?_
    refine xr_goto (tgt := 49) dX12_makeAll_71 (by decide) ?_
    exact h
set_option maxRecDepth 20000 in
theorem B_X12_makeAll_113 {G : xG} {l : Launch} {d : Nat} {P : xMem → Prop} {v1 v2 v3 v4 v5 : Int} {μ : xMem} (h : (iR v5 ∧ (2 ≤ v5 → K_X12_makeAll_101 G l (d + 1) P v1 v2 v3 (v4 + 1) μ) ∧ (v5 < 2 → CV G l d mX12_makeRow [xr G 74, xi v2, xi (v2 + v1), xi v3, xi v4, xi v5] μ (fun m5 => K_X12_makeAll_113 G l (d + 1) P v1 v2 v3 v4 (v5 + 1) m5)))) : K_X12_makeAll_113 G l (d + 1) P v1 v2 v3 v4 v5 μ := by
  unfold K_X12_makeAll_113
  refine xr_iload dX12_makeAll_113 rfl ?_
  refine xr_iconst dX12_makeAll_115 ?_
  obtain ⟨q1, hT2, hF3⟩ := h
  refine xr_icmp_ge (tgt := 138) dX12_makeAll_116 (by decide) q1 (by decide) (fun c => ?_) (fun c => ?_)
  · have h := hT2 c
    refine xr_iinc' (ll' := [some (xr G 74), some (xi v1), some (xi v2), some (xi v3), some (xi (v4 + 1)), some (xi v5)]) dX12_makeAll_138 rfl (by decide) rfl rfl ?_
    refine xr_goto (tgt := 101) dX12_makeAll_141 (by decide) ?_
    refine xr_wk (ll' := [some (xr G 74), some (xi v1), some (xi v2), some (xi v3), some (xi (v4 + 1)), none]) ⟨rfl, ⟨rfl, ⟨rfl, ⟨rfl, ⟨rfl, trivial⟩⟩⟩⟩⟩ ?_
    exact h
  · have h := hF3 (Int.not_le.mp c)
    refine xr_aload_n dX12_makeAll_119 rfl ?_
    refine xr_iload_n dX12_makeAll_120 rfl ?_
    refine xr_iload_n dX12_makeAll_121 rfl ?_
    refine xr_iload_n dX12_makeAll_122 rfl ?_
    refine xr_iadd dX12_makeAll_123 ?_
    refine xr_iload_n dX12_makeAll_124 rfl ?_
    refine xr_iload dX12_makeAll_125 rfl ?_
    refine xr_iload dX12_makeAll_127 rfl ?_
    refine xr_cvV (As := [xi v2, xi (v2 + v1), xi v3, xi v4, xi v5]) dX12_makeAll_129 mi_X12_makeRow ml_X12_342 se_X12_makeRow L_74 rfl rfl rfl (Nat.le_of_ble_eq_true rfl) h (fun m5 h => ?_)
    refine xr_iinc' (ll' := [some (xr G 74), some (xi v1), some (xi v2), some (xi v3), some (xi v4), some (xi (v5 + 1))]) dX12_makeAll_132 rfl (by decide) rfl rfl ?_
    refine xr_goto (tgt := 113) dX12_makeAll_135 (by decide) ?_
    exact h
theorem dX12_isMeant_0 : decode cX12_isMeant 0 = .ok (.aload_n 0, 1) := by decide +kernel
theorem dX12_isMeant_1 : decode cX12_isMeant 1 = .ok (.getfield 59, 3) := by decide +kernel
theorem dX12_isMeant_4 : decode cX12_isMeant 4 = .ok (.bipush 120, 2) := by decide +kernel
theorem dX12_isMeant_6 : decode cX12_isMeant 6 = .ok (.aload_n 0, 1) := by decide +kernel
theorem dX12_isMeant_7 : decode cX12_isMeant 7 = .ok (.getfield 95, 3) := by decide +kernel
theorem dX12_isMeant_10 : decode cX12_isMeant 10 = .ok (.iload_n 1, 1) := by decide +kernel
theorem dX12_isMeant_11 : decode cX12_isMeant 11 = .ok (.iaload, 1) := by decide +kernel
theorem dX12_isMeant_12 : decode cX12_isMeant 12 = .ok (.imul, 1) := by decide +kernel
theorem dX12_isMeant_13 : decode cX12_isMeant 13 = .ok (.iload_n 2, 1) := by decide +kernel
theorem dX12_isMeant_14 : decode cX12_isMeant 14 = .ok (.iadd, 1) := by decide +kernel
theorem dX12_isMeant_15 : decode cX12_isMeant 15 = .ok (.baload, 1) := by decide +kernel
theorem dX12_isMeant_16 : decode cX12_isMeant 16 = .ok (.ireturn, 1) := by decide +kernel
set_option maxRecDepth 20000 in
theorem E_X12_isMeant {G : xG} {l : Launch} {d : Nat} {P : Int → xMem → Prop} {v1 v2 : Int} {μ : xMem} (h : ((0 ≤ v1 ∧ v1 < 8) ∧ ((0 ≤ (120 * (μ 100 v1)) + v2 ∧ (120 * (μ 100 v1)) + v2 < 14400) ∧ ((μ 91 ((120 * (μ 100 v1)) + v2) = 0 ∨ μ 91 ((120 * (μ 100 v1)) + v2) = 1) ∧ P (μ 91 ((120 * (μ 100 v1)) + v2)) μ)))) : CI G l (d + 1) mX12_isMeant [xr G 74, xi v1, xi v2] μ P := by
  refine CC.ofRR (ll := [some (xr G 74), some (xi v1), some (xi v2)]) (by decide +kernel) (Nat.le_of_ble_eq_true rfl) rfl (fun h => by cases h) ?_
  refine xr_aload_n dX12_isMeant_0 rfl ?_
  refine xr_getR dX12_isMeant_1 fl_X12_59 L_74 rfl ?_
  refine xr_bipush dX12_isMeant_4 (by decide) ?_
  refine xr_aload_n dX12_isMeant_6 rfl ?_
  refine xr_getR dX12_isMeant_7 fl_X12_95 L_74 rfl ?_
  refine xr_iload_n dX12_isMeant_10 rfl ?_
  obtain ⟨q1, h⟩ := h
  refine xr_iaload' (v := μ 100 v1) dX12_isMeant_11 L_100 rfl (by decide) q1 rfl ?_
  refine xr_imul dX12_isMeant_12 ?_
  refine xr_iload_n dX12_isMeant_13 rfl ?_
  refine xr_iadd dX12_isMeant_14 ?_
  obtain ⟨q2, h⟩ := h
  refine xr_zaload' (v := μ 91 ((120 * (μ 100 v1)) + v2)) dX12_isMeant_15 L_91 rfl (by decide) q2 rfl ?_
  obtain ⟨q3, h⟩ := h
  exact xr_zret dX12_isMeant_16 rfl (x_nz q3).1 ⟨rfl, _, rfl, x_01 q3, h⟩
theorem dX12_isLink_0 : decode cX12_isLink 0 = .ok (.aload_n 0, 1) := by decide +kernel
theorem dX12_isLink_1 : decode cX12_isLink 1 = .ok (.getfield 56, 3) := by decide +kernel
theorem dX12_isLink_4 : decode cX12_isLink 4 = .ok (.aload_n 0, 1) := by decide +kernel
theorem dX12_isLink_5 : decode cX12_isLink 5 = .ok (.getfield 95, 3) := by decide +kernel
theorem dX12_isLink_8 : decode cX12_isLink 8 = .ok (.iload_n 1, 1) := by decide +kernel
theorem dX12_isLink_9 : decode cX12_isLink 9 = .ok (.iaload, 1) := by decide +kernel
theorem dX12_isLink_10 : decode cX12_isLink 10 = .ok (.iaload, 1) := by decide +kernel
theorem dX12_isLink_11 : decode cX12_isLink 11 = .ok (.bipush 9, 2) := by decide +kernel
theorem dX12_isLink_13 : decode cX12_isLink 13 = .ok (.ishr, 1) := by decide +kernel
theorem dX12_isLink_14 : decode cX12_isLink 14 = .ok (.iconst 1, 1) := by decide +kernel
theorem dX12_isLink_15 : decode cX12_isLink 15 = .ok (.iand, 1) := by decide +kernel
theorem dX12_isLink_16 : decode cX12_isLink 16 = .ok (.iconst 1, 1) := by decide +kernel
theorem dX12_isLink_17 : decode cX12_isLink 17 = .ok (.if_icmp .ne 7, 3) := by decide +kernel
theorem dX12_isLink_20 : decode cX12_isLink 20 = .ok (.iconst 1, 1) := by decide +kernel
theorem dX12_isLink_21 : decode cX12_isLink 21 = .ok (.goto 4, 3) := by decide +kernel
theorem dX12_isLink_24 : decode cX12_isLink 24 = .ok (.iconst 0, 1) := by decide +kernel
theorem dX12_isLink_25 : decode cX12_isLink 25 = .ok (.ireturn, 1) := by decide +kernel
set_option maxRecDepth 20000 in
theorem E_X12_isLink {G : xG} {l : Launch} {d : Nat} {P : Int → xMem → Prop} {v1 : Int} {μ : xMem} (h : ((0 ≤ v1 ∧ v1 < 8) ∧ ((0 ≤ μ 100 v1 ∧ μ 100 v1 < 120) ∧ (((jand (jshr (μ 90 (μ 100 v1)) 9) 1) ≠ 1 → P 0 μ) ∧ ((jand (jshr (μ 90 (μ 100 v1)) 9) 1) = 1 → P 1 μ))))) : CI G l (d + 1) mX12_isLink [xr G 74, xi v1] μ P := by
  refine CC.ofRR (ll := [some (xr G 74), some (xi v1)]) (by decide +kernel) (Nat.le_of_ble_eq_true rfl) rfl (fun h => by cases h) ?_
  refine xr_aload_n dX12_isLink_0 rfl ?_
  refine xr_getR dX12_isLink_1 fl_X12_56 L_74 rfl ?_
  refine xr_aload_n dX12_isLink_4 rfl ?_
  refine xr_getR dX12_isLink_5 fl_X12_95 L_74 rfl ?_
  refine xr_iload_n dX12_isLink_8 rfl ?_
  obtain ⟨q1, h⟩ := h
  refine xr_iaload' (v := μ 100 v1) dX12_isLink_9 L_100 rfl (by decide) q1 rfl ?_
  obtain ⟨q2, h⟩ := h
  refine xr_iaload' (v := μ 90 (μ 100 v1)) dX12_isLink_10 L_90 rfl (by decide) q2 rfl ?_
  refine xr_bipush dX12_isLink_11 (by decide) ?_
  refine xr_ishr dX12_isLink_13 ?_
  refine xr_iconst dX12_isLink_14 ?_
  refine xr_iand dX12_isLink_15 ?_
  refine xr_iconst dX12_isLink_16 ?_
  obtain ⟨hT3, hF4⟩ := h
  refine xr_icmp_ne (tgt := 24) dX12_isLink_17 (by decide) (jR_and _ _) (by decide) (fun c => ?_) (fun c => ?_)
  · have h := hT3 c
    refine xr_iconst dX12_isLink_24 ?_
    exact xr_zret dX12_isLink_25 rfl (x_nz (by decide)).1 ⟨rfl, _, rfl, x_01 (by decide), h⟩
  · have h := hF4 c
    refine xr_iconst dX12_isLink_20 ?_
    refine xr_goto (tgt := 25) dX12_isLink_21 (by decide) ?_
    exact xr_zret dX12_isLink_25 rfl (x_nz (by decide)).1 ⟨rfl, _, rfl, x_01 (by decide), h⟩
theorem dX12_read_0 : decode cX12_read 0 = .ok (.aload_n 0, 1) := by decide +kernel
theorem dX12_read_1 : decode cX12_read 1 = .ok (.aload_n 0, 1) := by decide +kernel
theorem dX12_read_2 : decode cX12_read 2 = .ok (.getfield 47, 3) := by decide +kernel
theorem dX12_read_5 : decode cX12_read 5 = .ok (.iload_n 1, 1) := by decide +kernel
theorem dX12_read_6 : decode cX12_read 6 = .ok (.iaload, 1) := by decide +kernel
theorem dX12_read_7 : decode cX12_read 7 = .ok (.putfield 333, 3) := by decide +kernel
theorem dX12_read_10 : decode cX12_read 10 = .ok (.iconst 0, 1) := by decide +kernel
theorem dX12_read_11 : decode cX12_read 11 = .ok (.istore_n 3, 1) := by decide +kernel
theorem dX12_read_12 : decode cX12_read 12 = .ok (.iload_n 3, 1) := by decide +kernel
theorem dX12_read_13 : decode cX12_read 13 = .ok (.aload_n 0, 1) := by decide +kernel
theorem dX12_read_14 : decode cX12_read 14 = .ok (.getfield 333, 3) := by decide +kernel
theorem dX12_read_17 : decode cX12_read 17 = .ok (.if_icmp .ge 26, 3) := by decide +kernel
theorem dX12_read_20 : decode cX12_read 20 = .ok (.aload_n 0, 1) := by decide +kernel
theorem dX12_read_21 : decode cX12_read 21 = .ok (.getfield 95, 3) := by decide +kernel
theorem dX12_read_24 : decode cX12_read 24 = .ok (.iload_n 3, 1) := by decide +kernel
theorem dX12_read_25 : decode cX12_read 25 = .ok (.aload_n 0, 1) := by decide +kernel
theorem dX12_read_26 : decode cX12_read 26 = .ok (.getfield 50, 3) := by decide +kernel
theorem dX12_read_29 : decode cX12_read 29 = .ok (.bipush 8, 2) := by decide +kernel
theorem dX12_read_31 : decode cX12_read 31 = .ok (.iload_n 1, 1) := by decide +kernel
theorem dX12_read_32 : decode cX12_read 32 = .ok (.imul, 1) := by decide +kernel
theorem dX12_read_33 : decode cX12_read 33 = .ok (.iload_n 3, 1) := by decide +kernel
theorem dX12_read_34 : decode cX12_read 34 = .ok (.iadd, 1) := by decide +kernel
theorem dX12_read_35 : decode cX12_read 35 = .ok (.iaload, 1) := by decide +kernel
theorem dX12_read_36 : decode cX12_read 36 = .ok (.iastore, 1) := by decide +kernel
theorem dX12_read_37 : decode cX12_read 37 = .ok (.iinc 3 1, 3) := by decide +kernel
theorem dX12_read_40 : decode cX12_read 40 = .ok (.goto (-28), 3) := by decide +kernel
theorem dX12_read_43 : decode cX12_read 43 = .ok (.aload_n 0, 1) := by decide +kernel
theorem dX12_read_44 : decode cX12_read 44 = .ok (.aload_n 0, 1) := by decide +kernel
theorem dX12_read_45 : decode cX12_read 45 = .ok (.getfield 16, 3) := by decide +kernel
theorem dX12_read_48 : decode cX12_read 48 = .ok (.iload_n 2, 1) := by decide +kernel
theorem dX12_read_49 : decode cX12_read 49 = .ok (.iaload, 1) := by decide +kernel
theorem dX12_read_50 : decode cX12_read 50 = .ok (.putfield 336, 3) := by decide +kernel
theorem dX12_read_53 : decode cX12_read 53 = .ok (.iconst 0, 1) := by decide +kernel
theorem dX12_read_54 : decode cX12_read 54 = .ok (.istore_n 3, 1) := by decide +kernel
theorem dX12_read_55 : decode cX12_read 55 = .ok (.iload_n 3, 1) := by decide +kernel
theorem dX12_read_56 : decode cX12_read 56 = .ok (.aload_n 0, 1) := by decide +kernel
theorem dX12_read_57 : decode cX12_read 57 = .ok (.getfield 336, 3) := by decide +kernel
theorem dX12_read_60 : decode cX12_read 60 = .ok (.if_icmp .ge 26, 3) := by decide +kernel
theorem dX12_read_63 : decode cX12_read 63 = .ok (.aload_n 0, 1) := by decide +kernel
theorem dX12_read_64 : decode cX12_read 64 = .ok (.getfield 98, 3) := by decide +kernel
theorem dX12_read_67 : decode cX12_read 67 = .ok (.iload_n 3, 1) := by decide +kernel
theorem dX12_read_68 : decode cX12_read 68 = .ok (.aload_n 0, 1) := by decide +kernel
theorem dX12_read_69 : decode cX12_read 69 = .ok (.getfield 13, 3) := by decide +kernel
theorem dX12_read_72 : decode cX12_read 72 = .ok (.bipush 10, 2) := by decide +kernel
theorem dX12_read_74 : decode cX12_read 74 = .ok (.iload_n 2, 1) := by decide +kernel
theorem dX12_read_75 : decode cX12_read 75 = .ok (.imul, 1) := by decide +kernel
theorem dX12_read_76 : decode cX12_read 76 = .ok (.iload_n 3, 1) := by decide +kernel
theorem dX12_read_77 : decode cX12_read 77 = .ok (.iadd, 1) := by decide +kernel
theorem dX12_read_78 : decode cX12_read 78 = .ok (.baload, 1) := by decide +kernel
theorem dX12_read_79 : decode cX12_read 79 = .ok (.iastore, 1) := by decide +kernel
theorem dX12_read_80 : decode cX12_read 80 = .ok (.iinc 3 1, 3) := by decide +kernel
theorem dX12_read_83 : decode cX12_read 83 = .ok (.goto (-28), 3) := by decide +kernel
theorem dX12_read_86 : decode cX12_read 86 = .ok (.aload_n 0, 1) := by decide +kernel
theorem dX12_read_87 : decode cX12_read 87 = .ok (.getfield 333, 3) := by decide +kernel
theorem dX12_read_90 : decode cX12_read 90 = .ok (.istore_n 3, 1) := by decide +kernel
theorem dX12_read_91 : decode cX12_read 91 = .ok (.aload_n 0, 1) := by decide +kernel
theorem dX12_read_92 : decode cX12_read 92 = .ok (.invokevirtual 312, 3) := by decide +kernel
theorem dX12_read_95 : decode cX12_read 95 = .ok (.aload_n 0, 1) := by decide +kernel
theorem dX12_read_96 : decode cX12_read 96 = .ok (.iconst 0, 1) := by decide +kernel
theorem dX12_read_97 : decode cX12_read 97 = .ok (.iload_n 2, 1) := by decide +kernel
theorem dX12_read_98 : decode cX12_read 98 = .ok (.invokevirtual 345, 3) := by decide +kernel
theorem dX12_read_101 : decode cX12_read 101 = .ok (.ifCond .ne 16, 3) := by decide +kernel
theorem dX12_read_104 : decode cX12_read 104 = .ok (.aload_n 0, 1) := by decide +kernel
theorem dX12_read_105 : decode cX12_read 105 = .ok (.iload_n 3, 1) := by decide +kernel
theorem dX12_read_106 : decode cX12_read 106 = .ok (.iconst 1, 1) := by decide +kernel
theorem dX12_read_107 : decode cX12_read 107 = .ok (.isub, 1) := by decide +kernel
theorem dX12_read_108 : decode cX12_read 108 = .ok (.iload_n 2, 1) := by decide +kernel
theorem dX12_read_109 : decode cX12_read 109 = .ok (.invokevirtual 345, 3) := by decide +kernel
theorem dX12_read_112 : decode cX12_read 112 = .ok (.ifCond .ne 5, 3) := by decide +kernel
theorem dX12_read_115 : decode cX12_read 115 = .ok (.iconst 0, 1) := by decide +kernel
theorem dX12_read_116 : decode cX12_read 116 = .ok (.ireturn, 1) := by decide +kernel
theorem dX12_read_117 : decode cX12_read 117 = .ok (.aload_n 0, 1) := by decide +kernel
theorem dX12_read_118 : decode cX12_read 118 = .ok (.invokevirtual 348, 3) := by decide +kernel
theorem dX12_read_121 : decode cX12_read 121 = .ok (.aload_n 0, 1) := by decide +kernel
theorem dX12_read_122 : decode cX12_read 122 = .ok (.invokevirtual 312, 3) := by decide +kernel
theorem dX12_read_125 : decode cX12_read 125 = .ok (.aload_n 0, 1) := by decide +kernel
theorem dX12_read_126 : decode cX12_read 126 = .ok (.iconst 0, 1) := by decide +kernel
theorem dX12_read_127 : decode cX12_read 127 = .ok (.iload_n 2, 1) := by decide +kernel
theorem dX12_read_128 : decode cX12_read 128 = .ok (.invokevirtual 345, 3) := by decide +kernel
theorem dX12_read_131 : decode cX12_read 131 = .ok (.ifCond .eq 84, 3) := by decide +kernel
theorem dX12_read_134 : decode cX12_read 134 = .ok (.aload_n 0, 1) := by decide +kernel
theorem dX12_read_135 : decode cX12_read 135 = .ok (.iload_n 3, 1) := by decide +kernel
theorem dX12_read_136 : decode cX12_read 136 = .ok (.iconst 1, 1) := by decide +kernel
theorem dX12_read_137 : decode cX12_read 137 = .ok (.isub, 1) := by decide +kernel
theorem dX12_read_138 : decode cX12_read 138 = .ok (.iload_n 2, 1) := by decide +kernel
theorem dX12_read_139 : decode cX12_read 139 = .ok (.invokevirtual 345, 3) := by decide +kernel
theorem dX12_read_142 : decode cX12_read 142 = .ok (.ifCond .eq 73, 3) := by decide +kernel
theorem dX12_read_145 : decode cX12_read 145 = .ok (.iload_n 3, 1) := by decide +kernel
theorem dX12_read_146 : decode cX12_read 146 = .ok (.iconst 2, 1) := by decide +kernel
theorem dX12_read_147 : decode cX12_read 147 = .ok (.if_icmp .eq 16, 3) := by decide +kernel
theorem dX12_read_150 : decode cX12_read 150 = .ok (.iload_n 3, 1) := by decide +kernel
theorem dX12_read_151 : decode cX12_read 151 = .ok (.iconst 3, 1) := by decide +kernel
theorem dX12_read_152 : decode cX12_read 152 = .ok (.if_icmp .ne 63, 3) := by decide +kernel
theorem dX12_read_155 : decode cX12_read 155 = .ok (.aload_n 0, 1) := by decide +kernel
theorem dX12_read_156 : decode cX12_read 156 = .ok (.iconst 1, 1) := by decide +kernel
theorem dX12_read_157 : decode cX12_read 157 = .ok (.invokevirtual 351, 3) := by decide +kernel
theorem dX12_read_160 : decode cX12_read 160 = .ok (.ifCond .eq 55, 3) := by decide +kernel
theorem dX12_read_163 : decode cX12_read 163 = .ok (.aload_n 0, 1) := by decide +kernel
theorem dX12_read_164 : decode cX12_read 164 = .ok (.invokevirtual 269, 3) := by decide +kernel
theorem dX12_read_167 : decode cX12_read 167 = .ok (.aload_n 0, 1) := by decide +kernel
theorem dX12_read_168 : decode cX12_read 168 = .ok (.bipush 109, 2) := by decide +kernel
theorem dX12_read_170 : decode cX12_read 170 = .ok (.invokevirtual 250, 3) := by decide +kernel
theorem dX12_read_173 : decode cX12_read 173 = .ok (.aload_n 0, 1) := by decide +kernel
theorem dX12_read_174 : decode cX12_read 174 = .ok (.bipush 65, 2) := by decide +kernel
theorem dX12_read_176 : decode cX12_read 176 = .ok (.invokevirtual 250, 3) := by decide +kernel
theorem dX12_read_179 : decode cX12_read 179 = .ok (.iload_n 3, 1) := by decide +kernel
theorem dX12_read_180 : decode cX12_read 180 = .ok (.iconst 3, 1) := by decide +kernel
theorem dX12_read_181 : decode cX12_read 181 = .ok (.if_icmp .ne 8, 3) := by decide +kernel
theorem dX12_read_184 : decode cX12_read 184 = .ok (.aload_n 0, 1) := by decide +kernel
theorem dX12_read_185 : decode cX12_read 185 = .ok (.iconst 1, 1) := by decide +kernel
theorem dX12_read_186 : decode cX12_read 186 = .ok (.invokevirtual 354, 3) := by decide +kernel
theorem dX12_read_189 : decode cX12_read 189 = .ok (.aload_n 0, 1) := by decide +kernel
theorem dX12_read_190 : decode cX12_read 190 = .ok (.bipush 61, 2) := by decide +kernel
theorem dX12_read_192 : decode cX12_read 192 = .ok (.invokevirtual 250, 3) := by decide +kernel
theorem dX12_read_195 : decode cX12_read 195 = .ok (.aload_n 0, 1) := by decide +kernel
theorem dX12_read_196 : decode cX12_read 196 = .ok (.bipush 109, 2) := by decide +kernel
theorem dX12_read_198 : decode cX12_read 198 = .ok (.invokevirtual 250, 3) := by decide +kernel
theorem dX12_read_201 : decode cX12_read 201 = .ok (.aload_n 0, 1) := by decide +kernel
theorem dX12_read_202 : decode cX12_read 202 = .ok (.bipush 64, 2) := by decide +kernel
theorem dX12_read_204 : decode cX12_read 204 = .ok (.iload_n 3, 1) := by decide +kernel
theorem dX12_read_205 : decode cX12_read 205 = .ok (.iadd, 1) := by decide +kernel
theorem dX12_read_206 : decode cX12_read 206 = .ok (.invokevirtual 250, 3) := by decide +kernel
theorem dX12_read_209 : decode cX12_read 209 = .ok (.aload_n 0, 1) := by decide +kernel
theorem dX12_read_210 : decode cX12_read 210 = .ok (.iconst 1, 1) := by decide +kernel
theorem dX12_read_211 : decode cX12_read 211 = .ok (.iconst 2, 1) := by decide +kernel
theorem dX12_read_212 : decode cX12_read 212 = .ok (.invokevirtual 280, 3) := by decide +kernel
theorem dX12_read_215 : decode cX12_read 215 = .ok (.aload_n 0, 1) := by decide +kernel
theorem dX12_read_216 : decode cX12_read 216 = .ok (.iconst 0, 1) := by decide +kernel
theorem dX12_read_217 : decode cX12_read 217 = .ok (.iload_n 2, 1) := by decide +kernel
theorem dX12_read_218 : decode cX12_read 218 = .ok (.invokevirtual 345, 3) := by decide +kernel
theorem dX12_read_221 : decode cX12_read 221 = .ok (.ifCond .eq 52, 3) := by decide +kernel
theorem dX12_read_224 : decode cX12_read 224 = .ok (.aload_n 0, 1) := by decide +kernel
theorem dX12_read_225 : decode cX12_read 225 = .ok (.iconst (-1), 1) := by decide +kernel
theorem dX12_read_226 : decode cX12_read 226 = .ok (.iconst 1, 1) := by decide +kernel
theorem dX12_read_227 : decode cX12_read 227 = .ok (.iload_n 3, 1) := by decide +kernel
theorem dX12_read_228 : decode cX12_read 228 = .ok (.iconst 1, 1) := by decide +kernel
theorem dX12_read_229 : decode cX12_read 229 = .ok (.isub, 1) := by decide +kernel
theorem dX12_read_230 : decode cX12_read 230 = .ok (.iconst 0, 1) := by decide +kernel
theorem dX12_read_231 : decode cX12_read 231 = .ok (.aload_n 0, 1) := by decide +kernel
theorem dX12_read_232 : decode cX12_read 232 = .ok (.getfield 336, 3) := by decide +kernel
theorem dX12_read_235 : decode cX12_read 235 = .ok (.iconst 0, 1) := by decide +kernel
theorem dX12_read_236 : decode cX12_read 236 = .ok (.invokestatic 290, 3) := by decide +kernel
theorem dX12_read_239 : decode cX12_read 239 = .ok (.invokevirtual 357, 3) := by decide +kernel
theorem dX12_read_242 : decode cX12_read 242 = .ok (.iload_n 3, 1) := by decide +kernel
theorem dX12_read_243 : decode cX12_read 243 = .ok (.iconst 2, 1) := by decide +kernel
theorem dX12_read_244 : decode cX12_read 244 = .ok (.if_icmp .le 29, 3) := by decide +kernel
theorem dX12_read_247 : decode cX12_read 247 = .ok (.aload_n 0, 1) := by decide +kernel
theorem dX12_read_248 : decode cX12_read 248 = .ok (.iconst 1, 1) := by decide +kernel
theorem dX12_read_249 : decode cX12_read 249 = .ok (.invokevirtual 351, 3) := by decide +kernel
theorem dX12_read_252 : decode cX12_read 252 = .ok (.ifCond .eq 21, 3) := by decide +kernel
theorem dX12_read_255 : decode cX12_read 255 = .ok (.aload_n 0, 1) := by decide +kernel
theorem dX12_read_256 : decode cX12_read 256 = .ok (.iconst 1, 1) := by decide +kernel
theorem dX12_read_257 : decode cX12_read 257 = .ok (.iconst 2, 1) := by decide +kernel
theorem dX12_read_258 : decode cX12_read 258 = .ok (.iload_n 3, 1) := by decide +kernel
theorem dX12_read_259 : decode cX12_read 259 = .ok (.iconst 1, 1) := by decide +kernel
theorem dX12_read_260 : decode cX12_read 260 = .ok (.isub, 1) := by decide +kernel
theorem dX12_read_261 : decode cX12_read 261 = .ok (.iconst 0, 1) := by decide +kernel
theorem dX12_read_262 : decode cX12_read 262 = .ok (.aload_n 0, 1) := by decide +kernel
theorem dX12_read_263 : decode cX12_read 263 = .ok (.getfield 336, 3) := by decide +kernel
theorem dX12_read_266 : decode cX12_read 266 = .ok (.iconst 0, 1) := by decide +kernel
theorem dX12_read_267 : decode cX12_read 267 = .ok (.invokestatic 290, 3) := by decide +kernel
theorem dX12_read_270 : decode cX12_read 270 = .ok (.invokevirtual 357, 3) := by decide +kernel
theorem dX12_read_273 : decode cX12_read 273 = .ok (.aload_n 0, 1) := by decide +kernel
theorem dX12_read_274 : decode cX12_read 274 = .ok (.iload_n 3, 1) := by decide +kernel
theorem dX12_read_275 : decode cX12_read 275 = .ok (.iconst 1, 1) := by decide +kernel
theorem dX12_read_276 : decode cX12_read 276 = .ok (.isub, 1) := by decide +kernel
theorem dX12_read_277 : decode cX12_read 277 = .ok (.iload_n 2, 1) := by decide +kernel
theorem dX12_read_278 : decode cX12_read 278 = .ok (.invokevirtual 345, 3) := by decide +kernel
theorem dX12_read_281 : decode cX12_read 281 = .ok (.ifCond .eq 58, 3) := by decide +kernel
theorem dX12_read_284 : decode cX12_read 284 = .ok (.aload_n 0, 1) := by decide +kernel
theorem dX12_read_285 : decode cX12_read 285 = .ok (.iconst (-1), 1) := by decide +kernel
theorem dX12_read_286 : decode cX12_read 286 = .ok (.iconst 0, 1) := by decide +kernel
theorem dX12_read_287 : decode cX12_read 287 = .ok (.iload_n 3, 1) := by decide +kernel
theorem dX12_read_288 : decode cX12_read 288 = .ok (.iconst 2, 1) := by decide +kernel
theorem dX12_read_289 : decode cX12_read 289 = .ok (.isub, 1) := by decide +kernel
theorem dX12_read_290 : decode cX12_read 290 = .ok (.iconst 0, 1) := by decide +kernel
theorem dX12_read_291 : decode cX12_read 291 = .ok (.aload_n 0, 1) := by decide +kernel
theorem dX12_read_292 : decode cX12_read 292 = .ok (.getfield 336, 3) := by decide +kernel
theorem dX12_read_295 : decode cX12_read 295 = .ok (.iconst 0, 1) := by decide +kernel
theorem dX12_read_296 : decode cX12_read 296 = .ok (.invokestatic 290, 3) := by decide +kernel
theorem dX12_read_299 : decode cX12_read 299 = .ok (.iload_n 3, 1) := by decide +kernel
theorem dX12_read_300 : decode cX12_read 300 = .ok (.invokevirtual 360, 3) := by decide +kernel
theorem dX12_read_303 : decode cX12_read 303 = .ok (.iload_n 3, 1) := by decide +kernel
theorem dX12_read_304 : decode cX12_read 304 = .ok (.iconst 2, 1) := by decide +kernel
theorem dX12_read_305 : decode cX12_read 305 = .ok (.if_icmp .le 34, 3) := by decide +kernel
theorem dX12_read_308 : decode cX12_read 308 = .ok (.aload_n 0, 1) := by decide +kernel
theorem dX12_read_309 : decode cX12_read 309 = .ok (.iload_n 3, 1) := by decide +kernel
theorem dX12_read_310 : decode cX12_read 310 = .ok (.iconst 2, 1) := by decide +kernel
theorem dX12_read_311 : decode cX12_read 311 = .ok (.isub, 1) := by decide +kernel
theorem dX12_read_312 : decode cX12_read 312 = .ok (.invokevirtual 351, 3) := by decide +kernel
theorem dX12_read_315 : decode cX12_read 315 = .ok (.ifCond .eq 24, 3) := by decide +kernel
theorem dX12_read_318 : decode cX12_read 318 = .ok (.aload_n 0, 1) := by decide +kernel
theorem dX12_read_319 : decode cX12_read 319 = .ok (.iload_n 3, 1) := by decide +kernel
theorem dX12_read_320 : decode cX12_read 320 = .ok (.iconst 2, 1) := by decide +kernel
theorem dX12_read_321 : decode cX12_read 321 = .ok (.isub, 1) := by decide +kernel
theorem dX12_read_322 : decode cX12_read 322 = .ok (.iconst 0, 1) := by decide +kernel
theorem dX12_read_323 : decode cX12_read 323 = .ok (.iload_n 3, 1) := by decide +kernel
theorem dX12_read_324 : decode cX12_read 324 = .ok (.iconst 3, 1) := by decide +kernel
theorem dX12_read_325 : decode cX12_read 325 = .ok (.isub, 1) := by decide +kernel
theorem dX12_read_326 : decode cX12_read 326 = .ok (.iconst 0, 1) := by decide +kernel
theorem dX12_read_327 : decode cX12_read 327 = .ok (.aload_n 0, 1) := by decide +kernel
theorem dX12_read_328 : decode cX12_read 328 = .ok (.getfield 336, 3) := by decide +kernel
theorem dX12_read_331 : decode cX12_read 331 = .ok (.iconst 0, 1) := by decide +kernel
theorem dX12_read_332 : decode cX12_read 332 = .ok (.invokestatic 290, 3) := by decide +kernel
theorem dX12_read_335 : decode cX12_read 335 = .ok (.iload_n 3, 1) := by decide +kernel
theorem dX12_read_336 : decode cX12_read 336 = .ok (.invokevirtual 360, 3) := by decide +kernel
theorem dX12_read_339 : decode cX12_read 339 = .ok (.aload_n 0, 1) := by decide +kernel
theorem dX12_read_340 : decode cX12_read 340 = .ok (.getfield 237, 3) := by decide +kernel
theorem dX12_read_343 : decode cX12_read 343 = .ok (.ireturn, 1) := by decide +kernel
def K_X12_read_12 (G : xG) (l : Launch) (d : Nat) (P : Int → xMem → Prop) (v1 v2 v3 : Int) (μ : xMem) : Prop := RR G l d 0 0 false mX12_read (qI P) 12 [some (xr G 74), some (xi v1), some (xi v2), some (xi v3)] [] LAY μ 0 0
def K_X12_read_55 (G : xG) (l : Launch) (d : Nat) (P : Int → xMem → Prop) (v2 v3 : Int) (μ : xMem) : Prop := RR G l d 0 0 false mX12_read (qI P) 55 [some (xr G 74), none, some (xi v2), some (xi v3)] [] LAY μ 0 0
def K_X12_read_117 (G : xG) (l : Launch) (d : Nat) (P : Int → xMem → Prop) (v2 v3 : Int) (μ : xMem) : Prop := RR G l d 0 0 false mX12_read (qI P) 117 [some (xr G 74), none, some (xi v2), some (xi v3)] [] LAY μ 0 0
def K_X12_read_215 (G : xG) (l : Launch) (d : Nat) (P : Int → xMem → Prop) (v2 v3 : Int) (μ : xMem) : Prop := RR G l d 0 0 false mX12_read (qI P) 215 [some (xr G 74), none, some (xi v2), some (xi v3)] [] LAY μ 0 0
def K_X12_read_163 (G : xG) (l : Launch) (d : Nat) (P : Int → xMem → Prop) (v2 v3 : Int) (μ : xMem) : Prop := RR G l d 0 0 false mX12_read (qI P) 163 [some (xr G 74), none, some (xi v2), some (xi v3)] [] LAY μ 0 0
def K_X12_read_273 (G : xG) (l : Launch) (d : Nat) (P : Int → xMem → Prop) (v2 v3 : Int) (μ : xMem) : Prop := RR G l d 0 0 false mX12_read (qI P) 273 [some (xr G 74), none, some (xi v2), some (xi v3)] [] LAY μ 0 0
def K_X12_read_189 (G : xG) (l : Launch) (d : Nat) (P : Int → xMem → Prop) (v2 v3 : Int) (μ : xMem) : Prop := RR G l d 0 0 false mX12_read (qI P) 189 [some (xr G 74), none, some (xi v2), some (xi v3)] [] LAY μ 0 0
set_option maxRecDepth 20000 in
theorem E_X12_read {G : xG} {l : Launch} {d : Nat} {P : Int → xMem → Prop} {v1 v2 : Int} {μ : xMem} (h : ((0 ≤ v1 ∧ v1 < 60) ∧ K_X12_read_12 G l (d + 1) P v1 v2 0 (st2 μ 74 41 (μ 87 v1)))) : CI G l (d + 1) mX12_read [xr G 74, xi v1, xi v2] μ P := by
  refine CC.ofRR (ll := [some (xr G 74), some (xi v1), some (xi v2), none]) (by decide +kernel) (Nat.le_of_ble_eq_true rfl) rfl (fun h => by cases h) ?_
  refine xr_aload_n dX12_read_0 rfl ?_
  refine xr_aload_n dX12_read_1 rfl ?_
  refine xr_getR dX12_read_2 fl_X12_47 L_74 rfl ?_
  refine xr_iload_n dX12_read_5 rfl ?_
  obtain ⟨q1, h⟩ := h
  refine xr_iaload' (v := μ 87 v1) dX12_read_6 L_87 rfl (by decide) q1 rfl ?_
  refine xr_putI dX12_read_7 fp_X12_333 L_74 rfl rfl ⟨rfl, rfl⟩ ?_
  refine xr_iconst dX12_read_10 ?_
  refine xr_istore_n' (ll' := [some (xr G 74), some (xi v1), some (xi v2), some (xi 0)]) dX12_read_11 (by decide) rfl rfl ?_
  exact h
set_option maxRecDepth 20000 in
theorem B_X12_read_12 {G : xG} {l : Launch} {d : Nat} {P : Int → xMem → Prop} {v1 v2 v3 : Int} {μ : xMem} (h : (iR v3 ∧ iR (μ 74 41) ∧ ((μ 74 41) ≤ v3 → ((0 ≤ v2 ∧ v2 < 120) ∧ K_X12_read_55 G l (d + 1) P v2 0 (st2 μ 74 42 (μ 77 v2)))) ∧ (v3 < (μ 74 41) → ((0 ≤ (8 * v1) + v3 ∧ (8 * v1) + v3 < 480) ∧ ((0 ≤ v3 ∧ v3 < 8) ∧ K_X12_read_12 G l (d + 1) P v1 v2 (v3 + 1) (st2 μ 100 v3 (μ 88 ((8 * v1) + v3)))))))) : K_X12_read_12 G l (d + 1) P v1 v2 v3 μ := by
  unfold K_X12_read_12
  refine xr_iload_n dX12_read_12 rfl ?_
  refine xr_aload_n dX12_read_13 rfl ?_
  refine xr_getI' (v := μ 74 41) dX12_read_14 fl_X12_333 L_74 rfl rfl rfl ?_
  obtain ⟨q1, q2, hT3, hF4⟩ := h
  refine xr_icmp_ge (tgt := 43) dX12_read_17 (by decide) q1 q2 (fun c => ?_) (fun c => ?_)
  · have h := hT3 c
    refine xr_aload_n dX12_read_43 rfl ?_
    refine xr_aload_n dX12_read_44 rfl ?_
    refine xr_getR dX12_read_45 fl_X12_16 L_74 rfl ?_
    refine xr_iload_n dX12_read_48 rfl ?_
    obtain ⟨q5, h⟩ := h
    refine xr_iaload' (v := μ 77 v2) dX12_read_49 L_77 rfl (by decide) q5 rfl ?_
    refine xr_putI dX12_read_50 fp_X12_336 L_74 rfl rfl ⟨rfl, rfl⟩ ?_
    refine xr_iconst dX12_read_53 ?_
    refine xr_istore_n' (ll' := [some (xr G 74), some (xi v1), some (xi v2), some (xi 0)]) dX12_read_54 (by decide) rfl rfl ?_
    refine xr_wk (ll' := [some (xr G 74), none, some (xi v2), some (xi 0)]) ⟨rfl, ⟨rfl, ⟨rfl, trivial⟩⟩⟩ ?_
    exact h
  · have h := hF4 (Int.not_le.mp c)
    refine xr_aload_n dX12_read_20 rfl ?_
    refine xr_getR dX12_read_21 fl_X12_95 L_74 rfl ?_
    refine xr_iload_n dX12_read_24 rfl ?_
    refine xr_aload_n dX12_read_25 rfl ?_
    refine xr_getR dX12_read_26 fl_X12_50 L_74 rfl ?_
    refine xr_bipush dX12_read_29 (by decide) ?_
    refine xr_iload_n dX12_read_31 rfl ?_
    refine xr_imul dX12_read_32 ?_
    refine xr_iload_n dX12_read_33 rfl ?_
    refine xr_iadd dX12_read_34 ?_
    obtain ⟨q6, h⟩ := h
    refine xr_iaload' (v := μ 88 ((8 * v1) + v3)) dX12_read_35 L_88 rfl (by decide) q6 rfl ?_
    obtain ⟨q7, h⟩ := h
    refine xr_iastore dX12_read_36 L_100 rfl (by decide) q7 ?_
    refine xr_iinc' (ll' := [some (xr G 74), some (xi v1), some (xi v2), some (xi (v3 + 1))]) dX12_read_37 rfl (by decide) rfl rfl ?_
    refine xr_goto (tgt := 12) dX12_read_40 (by decide) ?_
    exact h
set_option maxRecDepth 20000 in
theorem B_X12_read_55 {G : xG} {l : Launch} {d : Nat} {P : Int → xMem → Prop} {v2 v3 : Int} {μ : xMem} (h : (iR v3 ∧ iR (μ 74 42) ∧ ((μ 74 42) ≤ v3 → CV G l d mX12_clear [xr G 74] μ (fun m6 => CI G l d mX12_isMeant [xr G 74, xi 0, xi v2] m6 (fun r7 m8 => ((r7 ≠ 0 → K_X12_read_117 G l (d + 1) P v2 (μ 74 41) m8) ∧ (r7 = 0 → CI G l d mX12_isMeant [xr G 74, xi ((μ 74 41) - 1), xi v2] m8 (fun r11 m12 => ((r11 ≠ 0 → K_X12_read_117 G l (d + 1) P v2 (μ 74 41) m12) ∧ (r11 = 0 → P 0 m12)))))))) ∧ (v3 < (μ 74 42) → ((0 ≤ (10 * v2) + v3 ∧ (10 * v2) + v3 < 1200) ∧ ((0 ≤ v3 ∧ v3 < 10) ∧ K_X12_read_55 G l (d + 1) P v2 (v3 + 1) (st2 μ 101 v3 (μ 76 ((10 * v2) + v3)))))))) : K_X12_read_55 G l (d + 1) P v2 v3 μ := by
  unfold K_X12_read_55
  refine xr_iload_n dX12_read_55 rfl ?_
  refine xr_aload_n dX12_read_56 rfl ?_
  refine xr_getI' (v := μ 74 42) dX12_read_57 fl_X12_336 L_74 rfl rfl rfl ?_
  obtain ⟨q1, q2, hT3, hF4⟩ := h
  refine xr_icmp_ge (tgt := 86) dX12_read_60 (by decide) q1 q2 (fun c => ?_) (fun c => ?_)
  · have h := hT3 c
    refine xr_aload_n dX12_read_86 rfl ?_
    refine xr_getI' (v := μ 74 41) dX12_read_87 fl_X12_333 L_74 rfl rfl rfl ?_
    refine xr_istore_n' (ll' := [some (xr G 74), none, some (xi v2), some (xi (μ 74 41))]) dX12_read_90 (by decide) rfl rfl ?_
    refine xr_aload_n dX12_read_91 rfl ?_
    refine xr_cvV (As := []) dX12_read_92 mi_X12_clear ml_X12_312 se_X12_clear L_74 rfl rfl rfl (Nat.le_of_ble_eq_true rfl) h (fun m6 h => ?_)
    refine xr_aload_n dX12_read_95 rfl ?_
    refine xr_iconst dX12_read_96 ?_
    refine xr_iload_n dX12_read_97 rfl ?_
    refine xr_cvI (As := [xi 0, xi v2]) dX12_read_98 mi_X12_isMeant ml_X12_345 se_X12_isMeant L_74 rfl rfl rfl (Nat.le_of_ble_eq_true rfl) h (fun r7 m8 hr7 h => ?_)
    obtain ⟨hT9, hF10⟩ := h
    refine xr_if_ne (tgt := 117) dX12_read_101 (by decide) hr7  (fun c => ?_) (fun c => ?_)
    · have h := hT9 c
      exact h
    · have h := hF10 c
      refine xr_aload_n dX12_read_104 rfl ?_
      refine xr_iload_n dX12_read_105 rfl ?_
      refine xr_iconst dX12_read_106 ?_
      refine xr_isub dX12_read_107 ?_
      refine xr_iload_n dX12_read_108 rfl ?_
      refine xr_cvI (As := [xi ((μ 74 41) - 1), xi v2]) dX12_read_109 mi_X12_isMeant ml_X12_345 se_X12_isMeant L_74 rfl rfl rfl (Nat.le_of_ble_eq_true rfl) h (fun r11 m12 hr11 h => ?_)
      obtain ⟨hT13, hF14⟩ := h
      refine xr_if_ne (tgt := 117) dX12_read_112 (by decide) hr11  (fun c => ?_) (fun c => ?_)
      · have h := hT13 c
        exact h
      · have h := hF14 c
        refine xr_iconst dX12_read_115 ?_
        exact xr_iret dX12_read_116 rfl ⟨rfl, _, rfl, (by decide), h⟩
  · have h := hF4 (Int.not_le.mp c)
    refine xr_aload_n dX12_read_63 rfl ?_
    refine xr_getR dX12_read_64 fl_X12_98 L_74 rfl ?_
    refine xr_iload_n dX12_read_67 rfl ?_
    refine xr_aload_n dX12_read_68 rfl ?_
    refine xr_getR dX12_read_69 fl_X12_13 L_74 rfl ?_
    refine xr_bipush dX12_read_72 (by decide) ?_
    refine xr_iload_n dX12_read_74 rfl ?_
    refine xr_imul dX12_read_75 ?_
    refine xr_iload_n dX12_read_76 rfl ?_
    refine xr_iadd dX12_read_77 ?_
    obtain ⟨q15, h⟩ := h
    refine xr_baload' (v := μ 76 ((10 * v2) + v3)) dX12_read_78 L_76 rfl (by decide) q15 rfl ?_
    obtain ⟨q16, h⟩ := h
    refine xr_iastore dX12_read_79 L_101 rfl (by decide) q16 ?_
    refine xr_iinc' (ll' := [some (xr G 74), none, some (xi v2), some (xi (v3 + 1))]) dX12_read_80 rfl (by decide) rfl rfl ?_
    refine xr_goto (tgt := 55) dX12_read_83 (by decide) ?_
    exact h
set_option maxRecDepth 20000 in
theorem B_X12_read_117 {G : xG} {l : Launch} {d : Nat} {P : Int → xMem → Prop} {v2 v3 : Int} {μ : xMem} (h : CV G l d mX12_makeAll [xr G 74] μ (fun m2 => CV G l d mX12_clear [xr G 74] m2 (fun m4 => CI G l d mX12_isMeant [xr G 74, xi 0, xi v2] m4 (fun r5 m6 => ((r5 = 0 → K_X12_read_215 G l (d + 1) P v2 v3 m6) ∧ (r5 ≠ 0 → CI G l d mX12_isMeant [xr G 74, xi (v3 - 1), xi v2] m6 (fun r9 m10 => ((r9 = 0 → K_X12_read_215 G l (d + 1) P v2 v3 m10) ∧ (r9 ≠ 0 → (iR v3 ∧ (v3 = 2 → K_X12_read_163 G l (d + 1) P v2 v3 m10) ∧ (v3 ≠ 2 → ((v3 ≠ 3 → K_X12_read_215 G l (d + 1) P v2 v3 m10) ∧ (v3 = 3 → CI G l d mX12_isLink [xr G 74, xi 1] m10 (fun r18 m19 => ((r18 = 0 → K_X12_read_215 G l (d + 1) P v2 v3 m19) ∧ (r18 ≠ 0 → K_X12_read_163 G l (d + 1) P v2 v3 m19)))))))))))))))) : K_X12_read_117 G l (d + 1) P v2 v3 μ := by
  unfold K_X12_read_117
  refine xr_aload_n dX12_read_117 rfl ?_
  refine xr_cvV (As := []) dX12_read_118 mi_X12_makeAll ml_X12_348 se_X12_makeAll L_74 rfl rfl rfl (Nat.le_of_ble_eq_true rfl) h (fun m2 h => ?_)
  refine xr_aload_n dX12_read_121 rfl ?_
  refine xr_cvV (As := []) dX12_read_122 mi_X12_clear ml_X12_312 se_X12_clear L_74 rfl rfl rfl (Nat.le_of_ble_eq_true rfl) h (fun m4 h => ?_)
  refine xr_aload_n dX12_read_125 rfl ?_
  refine xr_iconst dX12_read_126 ?_
  refine xr_iload_n dX12_read_127 rfl ?_
  refine xr_cvI (As := [xi 0, xi v2]) dX12_read_128 mi_X12_isMeant ml_X12_345 se_X12_isMeant L_74 rfl rfl rfl (Nat.le_of_ble_eq_true rfl) h (fun r5 m6 hr5 h => ?_)
  obtain ⟨hT7, hF8⟩ := h
  refine xr_if_eq (tgt := 215) dX12_read_131 (by decide) hr5  (fun c => ?_) (fun c => ?_)
  · have h := hT7 c
    exact h
  · have h := hF8 c
    refine xr_aload_n dX12_read_134 rfl ?_
    refine xr_iload_n dX12_read_135 rfl ?_
    refine xr_iconst dX12_read_136 ?_
    refine xr_isub dX12_read_137 ?_
    refine xr_iload_n dX12_read_138 rfl ?_
    refine xr_cvI (As := [xi (v3 - 1), xi v2]) dX12_read_139 mi_X12_isMeant ml_X12_345 se_X12_isMeant L_74 rfl rfl rfl (Nat.le_of_ble_eq_true rfl) h (fun r9 m10 hr9 h => ?_)
    obtain ⟨hT11, hF12⟩ := h
    refine xr_if_eq (tgt := 215) dX12_read_142 (by decide) hr9  (fun c => ?_) (fun c => ?_)
    · have h := hT11 c
      exact h
    · have h := hF12 c
      refine xr_iload_n dX12_read_145 rfl ?_
      refine xr_iconst dX12_read_146 ?_
      obtain ⟨q13, hT14, hF15⟩ := h
      refine xr_icmp_eq (tgt := 163) dX12_read_147 (by decide) q13 (by decide) (fun c => ?_) (fun c => ?_)
      · have h := hT14 c
        exact h
      · have h := hF15 c
        refine xr_iload_n dX12_read_150 rfl ?_
        refine xr_iconst dX12_read_151 ?_
        obtain ⟨hT16, hF17⟩ := h
        refine xr_icmp_ne (tgt := 215) dX12_read_152 (by decide) q13 (by decide) (fun c => ?_) (fun c => ?_)
        · have h := hT16 c
          exact h
        · have h := hF17 c
          refine xr_aload_n dX12_read_155 rfl ?_
          refine xr_iconst dX12_read_156 ?_
          refine xr_cvI (As := [xi 1]) dX12_read_157 mi_X12_isLink ml_X12_351 se_X12_isLink L_74 rfl rfl rfl (Nat.le_of_ble_eq_true rfl) h (fun r18 m19 hr18 h => ?_)
          obtain ⟨hT20, hF21⟩ := h
          refine xr_if_eq (tgt := 215) dX12_read_160 (by decide) hr18  (fun c => ?_) (fun c => ?_)
          · have h := hT20 c
            exact h
          · have h := hF21 c
            exact h
set_option maxRecDepth 20000 in
theorem B_X12_read_215 {G : xG} {l : Launch} {d : Nat} {P : Int → xMem → Prop} {v2 v3 : Int} {μ : xMem} (h : CI G l d mX12_isMeant [xr G 74, xi 0, xi v2] μ (fun r1 m2 => ((r1 = 0 → K_X12_read_273 G l (d + 1) P v2 v3 m2) ∧ (r1 ≠ 0 → CI G l d mX12_at [xi 1, xi (v3 - 1), xi 0, xi (m2 74 42), xi 0] m2 (fun r5 m6 => CV G l d mX12_front [xr G 74, xi (-1), xi r5] m6 (fun m8 => (iR v3 ∧ (v3 ≤ 2 → K_X12_read_273 G l (d + 1) P v2 v3 m8) ∧ (2 < v3 → CI G l d mX12_isLink [xr G 74, xi 1] m8 (fun r12 m13 => ((r12 = 0 → K_X12_read_273 G l (d + 1) P v2 v3 m13) ∧ (r12 ≠ 0 → CI G l d mX12_at [xi 2, xi (v3 - 1), xi 0, xi (m13 74 42), xi 0] m13 (fun r16 m17 => CV G l d mX12_front [xr G 74, xi 1, xi r16] m17 (fun m19 => K_X12_read_273 G l (d + 1) P v2 v3 m19))))))))))))) : K_X12_read_215 G l (d + 1) P v2 v3 μ := by
  unfold K_X12_read_215
  refine xr_aload_n dX12_read_215 rfl ?_
  refine xr_iconst dX12_read_216 ?_
  refine xr_iload_n dX12_read_217 rfl ?_
  refine xr_cvI (As := [xi 0, xi v2]) dX12_read_218 mi_X12_isMeant ml_X12_345 se_X12_isMeant L_74 rfl rfl rfl (Nat.le_of_ble_eq_true rfl) h (fun r1 m2 hr1 h => ?_)
  obtain ⟨hT3, hF4⟩ := h
  refine xr_if_eq (tgt := 273) dX12_read_221 (by decide) hr1  (fun c => ?_) (fun c => ?_)
  · have h := hT3 c
    exact h
  · have h := hF4 c
    refine xr_aload_n dX12_read_224 rfl ?_
    refine xr_iconst dX12_read_225 ?_
    refine xr_iconst dX12_read_226 ?_
    refine xr_iload_n dX12_read_227 rfl ?_
    refine xr_iconst dX12_read_228 ?_
    refine xr_isub dX12_read_229 ?_
    refine xr_iconst dX12_read_230 ?_
    refine xr_aload_n dX12_read_231 rfl ?_
    refine xr_getI' (v := m2 74 42) dX12_read_232 fl_X12_336 L_74 rfl rfl rfl ?_
    refine xr_iconst dX12_read_235 ?_
    refine xr_csI (As := [xi 1, xi (v3 - 1), xi 0, xi (m2 74 42), xi 0]) dX12_read_236 ms_X12_at ml_X12_290 rfl rfl (Nat.le_of_ble_eq_true rfl) h (fun r5 m6 hr5 h => ?_)
    refine xr_cvV (As := [xi (-1), xi r5]) dX12_read_239 mi_X12_front ml_X12_357 se_X12_front L_74 rfl rfl rfl (Nat.le_of_ble_eq_true rfl) h (fun m8 h => ?_)
    refine xr_iload_n dX12_read_242 rfl ?_
    refine xr_iconst dX12_read_243 ?_
    obtain ⟨q9, hT10, hF11⟩ := h
    refine xr_icmp_le (tgt := 273) dX12_read_244 (by decide) q9 (by decide) (fun c => ?_) (fun c => ?_)
    · have h := hT10 c
      exact h
    · have h := hF11 (Int.not_le.mp c)
      refine xr_aload_n dX12_read_247 rfl ?_
      refine xr_iconst dX12_read_248 ?_
      refine xr_cvI (As := [xi 1]) dX12_read_249 mi_X12_isLink ml_X12_351 se_X12_isLink L_74 rfl rfl rfl (Nat.le_of_ble_eq_true rfl) h (fun r12 m13 hr12 h => ?_)
      obtain ⟨hT14, hF15⟩ := h
      refine xr_if_eq (tgt := 273) dX12_read_252 (by decide) hr12  (fun c => ?_) (fun c => ?_)
      · have h := hT14 c
        exact h
      · have h := hF15 c
        refine xr_aload_n dX12_read_255 rfl ?_
        refine xr_iconst dX12_read_256 ?_
        refine xr_iconst dX12_read_257 ?_
        refine xr_iload_n dX12_read_258 rfl ?_
        refine xr_iconst dX12_read_259 ?_
        refine xr_isub dX12_read_260 ?_
        refine xr_iconst dX12_read_261 ?_
        refine xr_aload_n dX12_read_262 rfl ?_
        refine xr_getI' (v := m13 74 42) dX12_read_263 fl_X12_336 L_74 rfl rfl rfl ?_
        refine xr_iconst dX12_read_266 ?_
        refine xr_csI (As := [xi 2, xi (v3 - 1), xi 0, xi (m13 74 42), xi 0]) dX12_read_267 ms_X12_at ml_X12_290 rfl rfl (Nat.le_of_ble_eq_true rfl) h (fun r16 m17 hr16 h => ?_)
        refine xr_cvV (As := [xi 1, xi r16]) dX12_read_270 mi_X12_front ml_X12_357 se_X12_front L_74 rfl rfl rfl (Nat.le_of_ble_eq_true rfl) h (fun m19 h => ?_)
        exact h
set_option maxRecDepth 20000 in
theorem B_X12_read_163 {G : xG} {l : Launch} {d : Nat} {P : Int → xMem → Prop} {v2 v3 : Int} {μ : xMem} (h : CV G l d mX12_open [xr G 74] μ (fun m2 => CV G l d mX12_say [xr G 74, xi 109] m2 (fun m4 => CV G l d mX12_say [xr G 74, xi 65] m4 (fun m6 => (iR v3 ∧ (v3 ≠ 3 → K_X12_read_189 G l (d + 1) P v2 v3 m6) ∧ (v3 = 3 → CV G l d mX12_sayLink [xr G 74, xi 1] m6 (fun m11 => K_X12_read_189 G l (d + 1) P v2 v3 m11))))))) : K_X12_read_163 G l (d + 1) P v2 v3 μ := by
  unfold K_X12_read_163
  refine xr_aload_n dX12_read_163 rfl ?_
  refine xr_cvV (As := []) dX12_read_164 mi_X12_open ml_X12_269 se_X12_open L_74 rfl rfl rfl (Nat.le_of_ble_eq_true rfl) h (fun m2 h => ?_)
  refine xr_aload_n dX12_read_167 rfl ?_
  refine xr_bipush dX12_read_168 (by decide) ?_
  refine xr_cvV (As := [xi 109]) dX12_read_170 mi_X12_say ml_X12_250 se_X12_say L_74 rfl rfl rfl (Nat.le_of_ble_eq_true rfl) h (fun m4 h => ?_)
  refine xr_aload_n dX12_read_173 rfl ?_
  refine xr_bipush dX12_read_174 (by decide) ?_
  refine xr_cvV (As := [xi 65]) dX12_read_176 mi_X12_say ml_X12_250 se_X12_say L_74 rfl rfl rfl (Nat.le_of_ble_eq_true rfl) h (fun m6 h => ?_)
  refine xr_iload_n dX12_read_179 rfl ?_
  refine xr_iconst dX12_read_180 ?_
  obtain ⟨q7, hT8, hF9⟩ := h
  refine xr_icmp_ne (tgt := 189) dX12_read_181 (by decide) q7 (by decide) (fun c => ?_) (fun c => ?_)
  · have h := hT8 c
    exact h
  · have h := hF9 c
    refine xr_aload_n dX12_read_184 rfl ?_
    refine xr_iconst dX12_read_185 ?_
    refine xr_cvV (As := [xi 1]) dX12_read_186 mi_X12_sayLink ml_X12_354 se_X12_sayLink L_74 rfl rfl rfl (Nat.le_of_ble_eq_true rfl) h (fun m11 h => ?_)
    exact h
set_option maxRecDepth 20000 in
theorem B_X12_read_273 {G : xG} {l : Launch} {d : Nat} {P : Int → xMem → Prop} {v2 v3 : Int} {μ : xMem} (h : CI G l d mX12_isMeant [xr G 74, xi (v3 - 1), xi v2] μ (fun r1 m2 => ((r1 = 0 → (iR (m2 74 46) ∧ P (m2 74 46) m2)) ∧ (r1 ≠ 0 → CI G l d mX12_at [xi 0, xi (v3 - 2), xi 0, xi (m2 74 42), xi 0] m2 (fun r6 m7 => CV G l d mX12_back [xr G 74, xi (-1), xi r6, xi v3] m7 (fun m9 => (iR v3 ∧ (v3 ≤ 2 → (iR (m9 74 46) ∧ P (m9 74 46) m9)) ∧ (2 < v3 → CI G l d mX12_isLink [xr G 74, xi (v3 - 2)] m9 (fun r14 m15 => ((r14 = 0 → (iR (m15 74 46) ∧ P (m15 74 46) m15)) ∧ (r14 ≠ 0 → CI G l d mX12_at [xi 0, xi (v3 - 3), xi 0, xi (m15 74 42), xi 0] m15 (fun r19 m20 => CV G l d mX12_back [xr G 74, xi (v3 - 2), xi r19, xi v3] m20 (fun m22 => (iR (m22 74 46) ∧ P (m22 74 46) m22)))))))))))))) : K_X12_read_273 G l (d + 1) P v2 v3 μ := by
  unfold K_X12_read_273
  refine xr_aload_n dX12_read_273 rfl ?_
  refine xr_iload_n dX12_read_274 rfl ?_
  refine xr_iconst dX12_read_275 ?_
  refine xr_isub dX12_read_276 ?_
  refine xr_iload_n dX12_read_277 rfl ?_
  refine xr_cvI (As := [xi (v3 - 1), xi v2]) dX12_read_278 mi_X12_isMeant ml_X12_345 se_X12_isMeant L_74 rfl rfl rfl (Nat.le_of_ble_eq_true rfl) h (fun r1 m2 hr1 h => ?_)
  obtain ⟨hT3, hF4⟩ := h
  refine xr_if_eq (tgt := 339) dX12_read_281 (by decide) hr1  (fun c => ?_) (fun c => ?_)
  · have h := hT3 c
    refine xr_aload_n dX12_read_339 rfl ?_
    refine xr_getI' (v := m2 74 46) dX12_read_340 fl_X12_237 L_74 rfl rfl rfl ?_
    obtain ⟨q5, h⟩ := h
    exact xr_iret dX12_read_343 rfl ⟨rfl, _, rfl, q5, h⟩
  · have h := hF4 c
    refine xr_aload_n dX12_read_284 rfl ?_
    refine xr_iconst dX12_read_285 ?_
    refine xr_iconst dX12_read_286 ?_
    refine xr_iload_n dX12_read_287 rfl ?_
    refine xr_iconst dX12_read_288 ?_
    refine xr_isub dX12_read_289 ?_
    refine xr_iconst dX12_read_290 ?_
    refine xr_aload_n dX12_read_291 rfl ?_
    refine xr_getI' (v := m2 74 42) dX12_read_292 fl_X12_336 L_74 rfl rfl rfl ?_
    refine xr_iconst dX12_read_295 ?_
    refine xr_csI (As := [xi 0, xi (v3 - 2), xi 0, xi (m2 74 42), xi 0]) dX12_read_296 ms_X12_at ml_X12_290 rfl rfl (Nat.le_of_ble_eq_true rfl) h (fun r6 m7 hr6 h => ?_)
    refine xr_iload_n dX12_read_299 rfl ?_
    refine xr_cvV (As := [xi (-1), xi r6, xi v3]) dX12_read_300 mi_X12_back ml_X12_360 se_X12_back L_74 rfl rfl rfl (Nat.le_of_ble_eq_true rfl) h (fun m9 h => ?_)
    refine xr_iload_n dX12_read_303 rfl ?_
    refine xr_iconst dX12_read_304 ?_
    obtain ⟨q10, hT11, hF12⟩ := h
    refine xr_icmp_le (tgt := 339) dX12_read_305 (by decide) q10 (by decide) (fun c => ?_) (fun c => ?_)
    · have h := hT11 c
      refine xr_aload_n dX12_read_339 rfl ?_
      refine xr_getI' (v := m9 74 46) dX12_read_340 fl_X12_237 L_74 rfl rfl rfl ?_
      obtain ⟨q13, h⟩ := h
      exact xr_iret dX12_read_343 rfl ⟨rfl, _, rfl, q13, h⟩
    · have h := hF12 (Int.not_le.mp c)
      refine xr_aload_n dX12_read_308 rfl ?_
      refine xr_iload_n dX12_read_309 rfl ?_
      refine xr_iconst dX12_read_310 ?_
      refine xr_isub dX12_read_311 ?_
      refine xr_cvI (As := [xi (v3 - 2)]) dX12_read_312 mi_X12_isLink ml_X12_351 se_X12_isLink L_74 rfl rfl rfl (Nat.le_of_ble_eq_true rfl) h (fun r14 m15 hr14 h => ?_)
      obtain ⟨hT16, hF17⟩ := h
      refine xr_if_eq (tgt := 339) dX12_read_315 (by decide) hr14  (fun c => ?_) (fun c => ?_)
      · have h := hT16 c
        refine xr_aload_n dX12_read_339 rfl ?_
        refine xr_getI' (v := m15 74 46) dX12_read_340 fl_X12_237 L_74 rfl rfl rfl ?_
        obtain ⟨q18, h⟩ := h
        exact xr_iret dX12_read_343 rfl ⟨rfl, _, rfl, q18, h⟩
      · have h := hF17 c
        refine xr_aload_n dX12_read_318 rfl ?_
        refine xr_iload_n dX12_read_319 rfl ?_
        refine xr_iconst dX12_read_320 ?_
        refine xr_isub dX12_read_321 ?_
        refine xr_iconst dX12_read_322 ?_
        refine xr_iload_n dX12_read_323 rfl ?_
        refine xr_iconst dX12_read_324 ?_
        refine xr_isub dX12_read_325 ?_
        refine xr_iconst dX12_read_326 ?_
        refine xr_aload_n dX12_read_327 rfl ?_
        refine xr_getI' (v := m15 74 42) dX12_read_328 fl_X12_336 L_74 rfl rfl rfl ?_
        refine xr_iconst dX12_read_331 ?_
        refine xr_csI (As := [xi 0, xi (v3 - 3), xi 0, xi (m15 74 42), xi 0]) dX12_read_332 ms_X12_at ml_X12_290 rfl rfl (Nat.le_of_ble_eq_true rfl) h (fun r19 m20 hr19 h => ?_)
        refine xr_iload_n dX12_read_335 rfl ?_
        refine xr_cvV (As := [xi (v3 - 2), xi r19, xi v3]) dX12_read_336 mi_X12_back ml_X12_360 se_X12_back L_74 rfl rfl rfl (Nat.le_of_ble_eq_true rfl) h (fun m22 h => ?_)
        refine xr_aload_n dX12_read_339 rfl ?_
        refine xr_getI' (v := m22 74 46) dX12_read_340 fl_X12_237 L_74 rfl rfl rfl ?_
        obtain ⟨q23, h⟩ := h
        exact xr_iret dX12_read_343 rfl ⟨rfl, _, rfl, q23, h⟩
set_option maxRecDepth 20000 in
theorem B_X12_read_189 {G : xG} {l : Launch} {d : Nat} {P : Int → xMem → Prop} {v2 v3 : Int} {μ : xMem} (h : CV G l d mX12_say [xr G 74, xi 61] μ (fun m2 => CV G l d mX12_say [xr G 74, xi 109] m2 (fun m4 => CV G l d mX12_say [xr G 74, xi (64 + v3)] m4 (fun m6 => CV G l d mX12_offer [xr G 74, xi 1, xi 2] m6 (fun m8 => K_X12_read_215 G l (d + 1) P v2 v3 m8))))) : K_X12_read_189 G l (d + 1) P v2 v3 μ := by
  unfold K_X12_read_189
  refine xr_aload_n dX12_read_189 rfl ?_
  refine xr_bipush dX12_read_190 (by decide) ?_
  refine xr_cvV (As := [xi 61]) dX12_read_192 mi_X12_say ml_X12_250 se_X12_say L_74 rfl rfl rfl (Nat.le_of_ble_eq_true rfl) h (fun m2 h => ?_)
  refine xr_aload_n dX12_read_195 rfl ?_
  refine xr_bipush dX12_read_196 (by decide) ?_
  refine xr_cvV (As := [xi 109]) dX12_read_198 mi_X12_say ml_X12_250 se_X12_say L_74 rfl rfl rfl (Nat.le_of_ble_eq_true rfl) h (fun m4 h => ?_)
  refine xr_aload_n dX12_read_201 rfl ?_
  refine xr_bipush dX12_read_202 (by decide) ?_
  refine xr_iload_n dX12_read_204 rfl ?_
  refine xr_iadd dX12_read_205 ?_
  refine xr_cvV (As := [xi (64 + v3)]) dX12_read_206 mi_X12_say ml_X12_250 se_X12_say L_74 rfl rfl rfl (Nat.le_of_ble_eq_true rfl) h (fun m6 h => ?_)
  refine xr_aload_n dX12_read_209 rfl ?_
  refine xr_iconst dX12_read_210 ?_
  refine xr_iconst dX12_read_211 ?_
  refine xr_cvV (As := [xi 1, xi 2]) dX12_read_212 mi_X12_offer ml_X12_280 se_X12_offer L_74 rfl rfl rfl (Nat.le_of_ble_eq_true rfl) h (fun m8 h => ?_)
  exact h
theorem dX12_sayLink_0 : decode cX12_sayLink 0 = .ok (.aload_n 0, 1) := by decide +kernel
theorem dX12_sayLink_1 : decode cX12_sayLink 1 = .ok (.bipush 107, 2) := by decide +kernel
theorem dX12_sayLink_3 : decode cX12_sayLink 3 = .ok (.invokevirtual 250, 3) := by decide +kernel
theorem dX12_sayLink_6 : decode cX12_sayLink 6 = .ok (.aload_n 0, 1) := by decide +kernel
theorem dX12_sayLink_7 : decode cX12_sayLink 7 = .ok (.bipush 65, 2) := by decide +kernel
theorem dX12_sayLink_9 : decode cX12_sayLink 9 = .ok (.iload_n 1, 1) := by decide +kernel
theorem dX12_sayLink_10 : decode cX12_sayLink 10 = .ok (.iadd, 1) := by decide +kernel
theorem dX12_sayLink_11 : decode cX12_sayLink 11 = .ok (.invokevirtual 250, 3) := by decide +kernel
theorem dX12_sayLink_14 : decode cX12_sayLink 14 = .ok (.return_, 1) := by decide +kernel
set_option maxRecDepth 20000 in
theorem E_X12_sayLink {G : xG} {l : Launch} {d : Nat} {P : xMem → Prop} {v1 : Int} {μ : xMem} (h : CV G l d mX12_say [xr G 74, xi 107] μ (fun m2 => CV G l d mX12_say [xr G 74, xi (65 + v1)] m2 (fun m4 => P m4))) : CV G l (d + 1) mX12_sayLink [xr G 74, xi v1] μ P := by
  refine CC.ofRR (ll := [some (xr G 74), some (xi v1)]) (by decide +kernel) (Nat.le_of_ble_eq_true rfl) rfl (fun h => by cases h) ?_
  refine xr_aload_n dX12_sayLink_0 rfl ?_
  refine xr_bipush dX12_sayLink_1 (by decide) ?_
  refine xr_cvV (As := [xi 107]) dX12_sayLink_3 mi_X12_say ml_X12_250 se_X12_say L_74 rfl rfl rfl (Nat.le_of_ble_eq_true rfl) h (fun m2 h => ?_)
  refine xr_aload_n dX12_sayLink_6 rfl ?_
  refine xr_bipush dX12_sayLink_7 (by decide) ?_
  refine xr_iload_n dX12_sayLink_9 rfl ?_
  refine xr_iadd dX12_sayLink_10 ?_
  refine xr_cvV (As := [xi (65 + v1)]) dX12_sayLink_11 mi_X12_say ml_X12_250 se_X12_say L_74 rfl rfl rfl (Nat.le_of_ble_eq_true rfl) h (fun m4 h => ?_)
  exact xr_ret dX12_sayLink_14 rfl ⟨rfl, rfl, h⟩
theorem dX12_front_0 : decode cX12_front 0 = .ok (.aload_n 0, 1) := by decide +kernel
theorem dX12_front_1 : decode cX12_front 1 = .ok (.invokevirtual 269, 3) := by decide +kernel
theorem dX12_front_4 : decode cX12_front 4 = .ok (.aload_n 0, 1) := by decide +kernel
theorem dX12_front_5 : decode cX12_front 5 = .ok (.bipush 109, 2) := by decide +kernel
theorem dX12_front_7 : decode cX12_front 7 = .ok (.invokevirtual 250, 3) := by decide +kernel
theorem dX12_front_10 : decode cX12_front 10 = .ok (.aload_n 0, 1) := by decide +kernel
theorem dX12_front_11 : decode cX12_front 11 = .ok (.bipush 65, 2) := by decide +kernel
theorem dX12_front_13 : decode cX12_front 13 = .ok (.invokevirtual 250, 3) := by decide +kernel
theorem dX12_front_16 : decode cX12_front 16 = .ok (.aload_n 0, 1) := by decide +kernel
theorem dX12_front_17 : decode cX12_front 17 = .ok (.bipush 61, 2) := by decide +kernel
theorem dX12_front_19 : decode cX12_front 19 = .ok (.invokevirtual 250, 3) := by decide +kernel
theorem dX12_front_22 : decode cX12_front 22 = .ok (.iload_n 1, 1) := by decide +kernel
theorem dX12_front_23 : decode cX12_front 23 = .ok (.ifCond .lt 8, 3) := by decide +kernel
theorem dX12_front_26 : decode cX12_front 26 = .ok (.aload_n 0, 1) := by decide +kernel
theorem dX12_front_27 : decode cX12_front 27 = .ok (.iload_n 1, 1) := by decide +kernel
theorem dX12_front_28 : decode cX12_front 28 = .ok (.invokevirtual 354, 3) := by decide +kernel
theorem dX12_front_31 : decode cX12_front 31 = .ok (.aload_n 0, 1) := by decide +kernel
theorem dX12_front_32 : decode cX12_front 32 = .ok (.iload_n 2, 1) := by decide +kernel
theorem dX12_front_33 : decode cX12_front 33 = .ok (.invokevirtual 294, 3) := by decide +kernel
theorem dX12_front_36 : decode cX12_front 36 = .ok (.aload_n 0, 1) := by decide +kernel
theorem dX12_front_37 : decode cX12_front 37 = .ok (.aload_n 0, 1) := by decide +kernel
theorem dX12_front_38 : decode cX12_front 38 = .ok (.getfield 79, 3) := by decide +kernel
theorem dX12_front_41 : decode cX12_front 41 = .ok (.iload_n 2, 1) := by decide +kernel
theorem dX12_front_42 : decode cX12_front 42 = .ok (.iaload, 1) := by decide +kernel
theorem dX12_front_43 : decode cX12_front 43 = .ok (.iconst 1, 1) := by decide +kernel
theorem dX12_front_44 : decode cX12_front 44 = .ok (.aload_n 0, 1) := by decide +kernel
theorem dX12_front_45 : decode cX12_front 45 = .ok (.getfield 82, 3) := by decide +kernel
theorem dX12_front_48 : decode cX12_front 48 = .ok (.iload_n 2, 1) := by decide +kernel
theorem dX12_front_49 : decode cX12_front 49 = .ok (.iaload, 1) := by decide +kernel
theorem dX12_front_50 : decode cX12_front 50 = .ok (.iadd, 1) := by decide +kernel
theorem dX12_front_51 : decode cX12_front 51 = .ok (.invokevirtual 280, 3) := by decide +kernel
theorem dX12_front_54 : decode cX12_front 54 = .ok (.return_, 1) := by decide +kernel
def K_X12_front_31 (G : xG) (l : Launch) (d : Nat) (P : xMem → Prop) (v2 : Int) (μ : xMem) : Prop := RR G l d 0 0 false mX12_front (qV P) 31 [some (xr G 74), none, some (xi v2)] [] LAY μ 0 0
set_option maxRecDepth 20000 in
theorem E_X12_front {G : xG} {l : Launch} {d : Nat} {P : xMem → Prop} {v1 v2 : Int} {μ : xMem} (h : CV G l d mX12_open [xr G 74] μ (fun m2 => CV G l d mX12_say [xr G 74, xi 109] m2 (fun m4 => CV G l d mX12_say [xr G 74, xi 65] m4 (fun m6 => CV G l d mX12_say [xr G 74, xi 61] m6 (fun m8 => (iR v1 ∧ (v1 < 0 → K_X12_front_31 G l (d + 1) P v2 m8) ∧ (0 ≤ v1 → CV G l d mX12_sayLink [xr G 74, xi v1] m8 (fun m13 => K_X12_front_31 G l (d + 1) P v2 m13)))))))) : CV G l (d + 1) mX12_front [xr G 74, xi v1, xi v2] μ P := by
  refine CC.ofRR (ll := [some (xr G 74), some (xi v1), some (xi v2)]) (by decide +kernel) (Nat.le_of_ble_eq_true rfl) rfl (fun h => by cases h) ?_
  refine xr_aload_n dX12_front_0 rfl ?_
  refine xr_cvV (As := []) dX12_front_1 mi_X12_open ml_X12_269 se_X12_open L_74 rfl rfl rfl (Nat.le_of_ble_eq_true rfl) h (fun m2 h => ?_)
  refine xr_aload_n dX12_front_4 rfl ?_
  refine xr_bipush dX12_front_5 (by decide) ?_
  refine xr_cvV (As := [xi 109]) dX12_front_7 mi_X12_say ml_X12_250 se_X12_say L_74 rfl rfl rfl (Nat.le_of_ble_eq_true rfl) h (fun m4 h => ?_)
  refine xr_aload_n dX12_front_10 rfl ?_
  refine xr_bipush dX12_front_11 (by decide) ?_
  refine xr_cvV (As := [xi 65]) dX12_front_13 mi_X12_say ml_X12_250 se_X12_say L_74 rfl rfl rfl (Nat.le_of_ble_eq_true rfl) h (fun m6 h => ?_)
  refine xr_aload_n dX12_front_16 rfl ?_
  refine xr_bipush dX12_front_17 (by decide) ?_
  refine xr_cvV (As := [xi 61]) dX12_front_19 mi_X12_say ml_X12_250 se_X12_say L_74 rfl rfl rfl (Nat.le_of_ble_eq_true rfl) h (fun m8 h => ?_)
  refine xr_iload_n dX12_front_22 rfl ?_
  obtain ⟨q9, hT10, hF11⟩ := h
  refine xr_if_lt (tgt := 31) dX12_front_23 (by decide) q9  (fun c => ?_) (fun c => ?_)
  · have h := hT10 c
    refine xr_wk (ll' := [some (xr G 74), none, some (xi v2)]) ⟨rfl, ⟨rfl, trivial⟩⟩ ?_
    exact h
  · have h := hF11 (Int.not_lt.mp c)
    refine xr_aload_n dX12_front_26 rfl ?_
    refine xr_iload_n dX12_front_27 rfl ?_
    refine xr_cvV (As := [xi v1]) dX12_front_28 mi_X12_sayLink ml_X12_354 se_X12_sayLink L_74 rfl rfl rfl (Nat.le_of_ble_eq_true rfl) h (fun m13 h => ?_)
    refine xr_wk (ll' := [some (xr G 74), none, some (xi v2)]) ⟨rfl, ⟨rfl, trivial⟩⟩ ?_
    exact h
set_option maxRecDepth 20000 in
theorem B_X12_front_31 {G : xG} {l : Launch} {d : Nat} {P : xMem → Prop} {v2 : Int} {μ : xMem} (h : CV G l d mX12_sayRow [xr G 74, xi v2] μ (fun m2 => ((0 ≤ v2 ∧ v2 < 3960) ∧ CV G l d mX12_offer [xr G 74, xi (m2 95 v2), xi (1 + (m2 96 v2))] m2 (fun m5 => P m5)))) : K_X12_front_31 G l (d + 1) P v2 μ := by
  unfold K_X12_front_31
  refine xr_aload_n dX12_front_31 rfl ?_
  refine xr_iload_n dX12_front_32 rfl ?_
  refine xr_cvV (As := [xi v2]) dX12_front_33 mi_X12_sayRow ml_X12_294 se_X12_sayRow L_74 rfl rfl rfl (Nat.le_of_ble_eq_true rfl) h (fun m2 h => ?_)
  refine xr_aload_n dX12_front_36 rfl ?_
  refine xr_aload_n dX12_front_37 rfl ?_
  refine xr_getR dX12_front_38 fl_X12_79 L_74 rfl ?_
  refine xr_iload_n dX12_front_41 rfl ?_
  obtain ⟨q3, h⟩ := h
  refine xr_iaload' (v := m2 95 v2) dX12_front_42 L_95 rfl (by decide) q3 rfl ?_
  refine xr_iconst dX12_front_43 ?_
  refine xr_aload_n dX12_front_44 rfl ?_
  refine xr_getR dX12_front_45 fl_X12_82 L_74 rfl ?_
  refine xr_iload_n dX12_front_48 rfl ?_
  refine xr_iaload' (v := m2 96 v2) dX12_front_49 L_96 rfl (by decide) q3 rfl ?_
  refine xr_iadd dX12_front_50 ?_
  refine xr_cvV (As := [xi (m2 95 v2), xi (1 + (m2 96 v2))]) dX12_front_51 mi_X12_offer ml_X12_280 se_X12_offer L_74 rfl rfl rfl (Nat.le_of_ble_eq_true rfl) h (fun m5 h => ?_)
  exact xr_ret dX12_front_54 rfl ⟨rfl, rfl, h⟩
theorem dX12_back_0 : decode cX12_back 0 = .ok (.aload_n 0, 1) := by decide +kernel
theorem dX12_back_1 : decode cX12_back 1 = .ok (.invokevirtual 269, 3) := by decide +kernel
theorem dX12_back_4 : decode cX12_back 4 = .ok (.aload_n 0, 1) := by decide +kernel
theorem dX12_back_5 : decode cX12_back 5 = .ok (.iload_n 2, 1) := by decide +kernel
theorem dX12_back_6 : decode cX12_back 6 = .ok (.invokevirtual 294, 3) := by decide +kernel
theorem dX12_back_9 : decode cX12_back 9 = .ok (.iload_n 1, 1) := by decide +kernel
theorem dX12_back_10 : decode cX12_back 10 = .ok (.ifCond .lt 8, 3) := by decide +kernel
theorem dX12_back_13 : decode cX12_back 13 = .ok (.aload_n 0, 1) := by decide +kernel
theorem dX12_back_14 : decode cX12_back 14 = .ok (.iload_n 1, 1) := by decide +kernel
theorem dX12_back_15 : decode cX12_back 15 = .ok (.invokevirtual 354, 3) := by decide +kernel
theorem dX12_back_18 : decode cX12_back 18 = .ok (.aload_n 0, 1) := by decide +kernel
theorem dX12_back_19 : decode cX12_back 19 = .ok (.bipush 61, 2) := by decide +kernel
theorem dX12_back_21 : decode cX12_back 21 = .ok (.invokevirtual 250, 3) := by decide +kernel
theorem dX12_back_24 : decode cX12_back 24 = .ok (.aload_n 0, 1) := by decide +kernel
theorem dX12_back_25 : decode cX12_back 25 = .ok (.bipush 109, 2) := by decide +kernel
theorem dX12_back_27 : decode cX12_back 27 = .ok (.invokevirtual 250, 3) := by decide +kernel
theorem dX12_back_30 : decode cX12_back 30 = .ok (.aload_n 0, 1) := by decide +kernel
theorem dX12_back_31 : decode cX12_back 31 = .ok (.bipush 64, 2) := by decide +kernel
theorem dX12_back_33 : decode cX12_back 33 = .ok (.iload_n 3, 1) := by decide +kernel
theorem dX12_back_34 : decode cX12_back 34 = .ok (.iadd, 1) := by decide +kernel
theorem dX12_back_35 : decode cX12_back 35 = .ok (.invokevirtual 250, 3) := by decide +kernel
theorem dX12_back_38 : decode cX12_back 38 = .ok (.aload_n 0, 1) := by decide +kernel
theorem dX12_back_39 : decode cX12_back 39 = .ok (.aload_n 0, 1) := by decide +kernel
theorem dX12_back_40 : decode cX12_back 40 = .ok (.getfield 79, 3) := by decide +kernel
theorem dX12_back_43 : decode cX12_back 43 = .ok (.iload_n 2, 1) := by decide +kernel
theorem dX12_back_44 : decode cX12_back 44 = .ok (.iaload, 1) := by decide +kernel
theorem dX12_back_45 : decode cX12_back 45 = .ok (.iconst 1, 1) := by decide +kernel
theorem dX12_back_46 : decode cX12_back 46 = .ok (.aload_n 0, 1) := by decide +kernel
theorem dX12_back_47 : decode cX12_back 47 = .ok (.getfield 82, 3) := by decide +kernel
theorem dX12_back_50 : decode cX12_back 50 = .ok (.iload_n 2, 1) := by decide +kernel
theorem dX12_back_51 : decode cX12_back 51 = .ok (.iaload, 1) := by decide +kernel
theorem dX12_back_52 : decode cX12_back 52 = .ok (.iadd, 1) := by decide +kernel
theorem dX12_back_53 : decode cX12_back 53 = .ok (.invokevirtual 280, 3) := by decide +kernel
theorem dX12_back_56 : decode cX12_back 56 = .ok (.return_, 1) := by decide +kernel
def K_X12_back_18 (G : xG) (l : Launch) (d : Nat) (P : xMem → Prop) (v2 v3 : Int) (μ : xMem) : Prop := RR G l d 0 0 false mX12_back (qV P) 18 [some (xr G 74), none, some (xi v2), some (xi v3)] [] LAY μ 0 0
set_option maxRecDepth 20000 in
theorem E_X12_back {G : xG} {l : Launch} {d : Nat} {P : xMem → Prop} {v1 v2 v3 : Int} {μ : xMem} (h : CV G l d mX12_open [xr G 74] μ (fun m2 => CV G l d mX12_sayRow [xr G 74, xi v2] m2 (fun m4 => (iR v1 ∧ (v1 < 0 → K_X12_back_18 G l (d + 1) P v2 v3 m4) ∧ (0 ≤ v1 → CV G l d mX12_sayLink [xr G 74, xi v1] m4 (fun m9 => K_X12_back_18 G l (d + 1) P v2 v3 m9)))))) : CV G l (d + 1) mX12_back [xr G 74, xi v1, xi v2, xi v3] μ P := by
  refine CC.ofRR (ll := [some (xr G 74), some (xi v1), some (xi v2), some (xi v3)]) (by decide +kernel) (Nat.le_of_ble_eq_true rfl) rfl (fun h => by cases h) ?_
  refine xr_aload_n dX12_back_0 rfl ?_
  refine xr_cvV (As := []) dX12_back_1 mi_X12_open ml_X12_269 se_X12_open L_74 rfl rfl rfl (Nat.le_of_ble_eq_true rfl) h (fun m2 h => ?_)
  refine xr_aload_n dX12_back_4 rfl ?_
  refine xr_iload_n dX12_back_5 rfl ?_
  refine xr_cvV (As := [xi v2]) dX12_back_6 mi_X12_sayRow ml_X12_294 se_X12_sayRow L_74 rfl rfl rfl (Nat.le_of_ble_eq_true rfl) h (fun m4 h => ?_)
  refine xr_iload_n dX12_back_9 rfl ?_
  obtain ⟨q5, hT6, hF7⟩ := h
  refine xr_if_lt (tgt := 18) dX12_back_10 (by decide) q5  (fun c => ?_) (fun c => ?_)
  · have h := hT6 c
    refine xr_wk (ll' := [some (xr G 74), none, some (xi v2), some (xi v3)]) ⟨rfl, ⟨rfl, ⟨rfl, trivial⟩⟩⟩ ?_
    exact h
  · have h := hF7 (Int.not_lt.mp c)
    refine xr_aload_n dX12_back_13 rfl ?_
    refine xr_iload_n dX12_back_14 rfl ?_
    refine xr_cvV (As := [xi v1]) dX12_back_15 mi_X12_sayLink ml_X12_354 se_X12_sayLink L_74 rfl rfl rfl (Nat.le_of_ble_eq_true rfl) h (fun m9 h => ?_)
    refine xr_wk (ll' := [some (xr G 74), none, some (xi v2), some (xi v3)]) ⟨rfl, ⟨rfl, ⟨rfl, trivial⟩⟩⟩ ?_
    exact h
set_option maxRecDepth 20000 in
theorem B_X12_back_18 {G : xG} {l : Launch} {d : Nat} {P : xMem → Prop} {v2 v3 : Int} {μ : xMem} (h : CV G l d mX12_say [xr G 74, xi 61] μ (fun m2 => CV G l d mX12_say [xr G 74, xi 109] m2 (fun m4 => CV G l d mX12_say [xr G 74, xi (64 + v3)] m4 (fun m6 => ((0 ≤ v2 ∧ v2 < 3960) ∧ CV G l d mX12_offer [xr G 74, xi (m6 95 v2), xi (1 + (m6 96 v2))] m6 (fun m9 => P m9)))))) : K_X12_back_18 G l (d + 1) P v2 v3 μ := by
  unfold K_X12_back_18
  refine xr_aload_n dX12_back_18 rfl ?_
  refine xr_bipush dX12_back_19 (by decide) ?_
  refine xr_cvV (As := [xi 61]) dX12_back_21 mi_X12_say ml_X12_250 se_X12_say L_74 rfl rfl rfl (Nat.le_of_ble_eq_true rfl) h (fun m2 h => ?_)
  refine xr_aload_n dX12_back_24 rfl ?_
  refine xr_bipush dX12_back_25 (by decide) ?_
  refine xr_cvV (As := [xi 109]) dX12_back_27 mi_X12_say ml_X12_250 se_X12_say L_74 rfl rfl rfl (Nat.le_of_ble_eq_true rfl) h (fun m4 h => ?_)
  refine xr_aload_n dX12_back_30 rfl ?_
  refine xr_bipush dX12_back_31 (by decide) ?_
  refine xr_iload_n dX12_back_33 rfl ?_
  refine xr_iadd dX12_back_34 ?_
  refine xr_cvV (As := [xi (64 + v3)]) dX12_back_35 mi_X12_say ml_X12_250 se_X12_say L_74 rfl rfl rfl (Nat.le_of_ble_eq_true rfl) h (fun m6 h => ?_)
  refine xr_aload_n dX12_back_38 rfl ?_
  refine xr_aload_n dX12_back_39 rfl ?_
  refine xr_getR dX12_back_40 fl_X12_79 L_74 rfl ?_
  refine xr_iload_n dX12_back_43 rfl ?_
  obtain ⟨q7, h⟩ := h
  refine xr_iaload' (v := m6 95 v2) dX12_back_44 L_95 rfl (by decide) q7 rfl ?_
  refine xr_iconst dX12_back_45 ?_
  refine xr_aload_n dX12_back_46 rfl ?_
  refine xr_getR dX12_back_47 fl_X12_82 L_74 rfl ?_
  refine xr_iload_n dX12_back_50 rfl ?_
  refine xr_iaload' (v := m6 96 v2) dX12_back_51 L_96 rfl (by decide) q7 rfl ?_
  refine xr_iadd dX12_back_52 ?_
  refine xr_cvV (As := [xi (m6 95 v2), xi (1 + (m6 96 v2))]) dX12_back_53 mi_X12_offer ml_X12_280 se_X12_offer L_74 rfl rfl rfl (Nat.le_of_ble_eq_true rfl) h (fun m9 h => ?_)
  exact xr_ret dX12_back_56 rfl ⟨rfl, rfl, h⟩
theorem dX12_isAsked_0 : decode cX12_isAsked 0 = .ok (.iload_n 1, 1) := by decide +kernel
theorem dX12_isAsked_1 : decode cX12_isAsked 1 = .ok (.iconst 0, 1) := by decide +kernel
theorem dX12_isAsked_2 : decode cX12_isAsked 2 = .ok (.bipush 15, 2) := by decide +kernel
theorem dX12_isAsked_4 : decode cX12_isAsked 4 = .ok (.invokestatic 198, 3) := by decide +kernel
theorem dX12_isAsked_7 : decode cX12_isAsked 7 = .ok (.ifCond .ne 5, 3) := by decide +kernel
theorem dX12_isAsked_10 : decode cX12_isAsked 10 = .ok (.iconst 0, 1) := by decide +kernel
theorem dX12_isAsked_11 : decode cX12_isAsked 11 = .ok (.ireturn, 1) := by decide +kernel
theorem dX12_isAsked_12 : decode cX12_isAsked 12 = .ok (.aload_n 0, 1) := by decide +kernel
theorem dX12_isAsked_13 : decode cX12_isAsked 13 = .ok (.aload_n 0, 1) := by decide +kernel
theorem dX12_isAsked_14 : decode cX12_isAsked 14 = .ok (.iload_n 1, 1) := by decide +kernel
theorem dX12_isAsked_15 : decode cX12_isAsked 15 = .ok (.iload_n 3, 1) := by decide +kernel
theorem dX12_isAsked_16 : decode cX12_isAsked 16 = .ok (.invokevirtual 363, 3) := by decide +kernel
theorem dX12_isAsked_19 : decode cX12_isAsked 19 = .ok (.putfield 366, 3) := by decide +kernel
theorem dX12_isAsked_22 : decode cX12_isAsked 22 = .ok (.aload_n 0, 1) := by decide +kernel
theorem dX12_isAsked_23 : decode cX12_isAsked 23 = .ok (.getfield 366, 3) := by decide +kernel
theorem dX12_isAsked_26 : decode cX12_isAsked 26 = .ok (.ifCond .lt 31, 3) := by decide +kernel
theorem dX12_isAsked_29 : decode cX12_isAsked 29 = .ok (.aload_n 0, 1) := by decide +kernel
theorem dX12_isAsked_30 : decode cX12_isAsked 30 = .ok (.iload_n 2, 1) := by decide +kernel
theorem dX12_isAsked_31 : decode cX12_isAsked 31 = .ok (.iload_n 3, 1) := by decide +kernel
theorem dX12_isAsked_32 : decode cX12_isAsked 32 = .ok (.invokevirtual 369, 3) := by decide +kernel
theorem dX12_isAsked_35 : decode cX12_isAsked 35 = .ok (.ifCond .eq 22, 3) := by decide +kernel
theorem dX12_isAsked_38 : decode cX12_isAsked 38 = .ok (.aload_n 0, 1) := by decide +kernel
theorem dX12_isAsked_39 : decode cX12_isAsked 39 = .ok (.getfield 16, 3) := by decide +kernel
theorem dX12_isAsked_42 : decode cX12_isAsked 42 = .ok (.iload_n 2, 1) := by decide +kernel
theorem dX12_isAsked_43 : decode cX12_isAsked 43 = .ok (.iaload, 1) := by decide +kernel
theorem dX12_isAsked_44 : decode cX12_isAsked 44 = .ok (.aload_n 0, 1) := by decide +kernel
theorem dX12_isAsked_45 : decode cX12_isAsked 45 = .ok (.getfield 53, 3) := by decide +kernel
theorem dX12_isAsked_48 : decode cX12_isAsked 48 = .ok (.iload_n 1, 1) := by decide +kernel
theorem dX12_isAsked_49 : decode cX12_isAsked 49 = .ok (.iaload, 1) := by decide +kernel
theorem dX12_isAsked_50 : decode cX12_isAsked 50 = .ok (.if_icmp .ne 7, 3) := by decide +kernel
theorem dX12_isAsked_53 : decode cX12_isAsked 53 = .ok (.iconst 1, 1) := by decide +kernel
theorem dX12_isAsked_54 : decode cX12_isAsked 54 = .ok (.goto 4, 3) := by decide +kernel
theorem dX12_isAsked_57 : decode cX12_isAsked 57 = .ok (.iconst 0, 1) := by decide +kernel
theorem dX12_isAsked_58 : decode cX12_isAsked 58 = .ok (.ireturn, 1) := by decide +kernel
set_option maxRecDepth 20000 in
theorem E_X12_isAsked {G : xG} {l : Launch} {d : Nat} {P : Int → xMem → Prop} {v1 v2 v3 : Int} {μ : xMem} (h : CI G l d mX12_isIn [xi v1, xi 0, xi 15] μ (fun r1 m2 => ((r1 ≠ 0 → CI G l d mX12_tellingOf [xr G 74, xi v1, xi v3] m2 (fun r5 m6 => (iR r5 ∧ (r5 < 0 → P 0 (st2 m6 74 52 r5)) ∧ (0 ≤ r5 → CI G l d mX12_isKnown [xr G 74, xi v2, xi v3] (st2 m6 74 52 r5) (fun r10 m11 => ((r10 = 0 → P 0 m11) ∧ (r10 ≠ 0 → ((0 ≤ v2 ∧ v2 < 120) ∧ ((0 ≤ v1 ∧ v1 < 16) ∧ (iR (m11 77 v2) ∧ iR (m11 89 v1) ∧ ((m11 77 v2) ≠ (m11 89 v1) → P 0 m11) ∧ ((m11 77 v2) = (m11 89 v1) → P 1 m11))))))))))) ∧ (r1 = 0 → P 0 m2)))) : CI G l (d + 1) mX12_isAsked [xr G 74, xi v1, xi v2, xi v3] μ P := by
  refine CC.ofRR (ll := [some (xr G 74), some (xi v1), some (xi v2), some (xi v3)]) (by decide +kernel) (Nat.le_of_ble_eq_true rfl) rfl (fun h => by cases h) ?_
  refine xr_iload_n dX12_isAsked_0 rfl ?_
  refine xr_iconst dX12_isAsked_1 ?_
  refine xr_bipush dX12_isAsked_2 (by decide) ?_
  refine xr_csI (As := [xi v1, xi 0, xi 15]) dX12_isAsked_4 ms_X12_isIn ml_X12_198 rfl rfl (Nat.le_of_ble_eq_true rfl) h (fun r1 m2 hr1 h => ?_)
  obtain ⟨hT3, hF4⟩ := h
  refine xr_if_ne (tgt := 12) dX12_isAsked_7 (by decide) hr1  (fun c => ?_) (fun c => ?_)
  · have h := hT3 c
    refine xr_aload_n dX12_isAsked_12 rfl ?_
    refine xr_aload_n dX12_isAsked_13 rfl ?_
    refine xr_iload_n dX12_isAsked_14 rfl ?_
    refine xr_iload_n dX12_isAsked_15 rfl ?_
    refine xr_cvI (As := [xi v1, xi v3]) dX12_isAsked_16 mi_X12_tellingOf ml_X12_363 se_X12_tellingOf L_74 rfl rfl rfl (Nat.le_of_ble_eq_true rfl) h (fun r5 m6 hr5 h => ?_)
    refine xr_putI dX12_isAsked_19 fp_X12_366 L_74 rfl rfl ⟨rfl, rfl⟩ ?_
    refine xr_aload_n dX12_isAsked_22 rfl ?_
    refine xr_getI' (v := r5) dX12_isAsked_23 fl_X12_366 L_74 rfl rfl (by simp [st2, cpy]) ?_
    obtain ⟨q7, hT8, hF9⟩ := h
    refine xr_if_lt (tgt := 57) dX12_isAsked_26 (by decide) q7  (fun c => ?_) (fun c => ?_)
    · have h := hT8 c
      refine xr_iconst dX12_isAsked_57 ?_
      exact xr_zret dX12_isAsked_58 rfl (x_nz (by decide)).1 ⟨rfl, _, rfl, x_01 (by decide), h⟩
    · have h := hF9 (Int.not_lt.mp c)
      refine xr_aload_n dX12_isAsked_29 rfl ?_
      refine xr_iload_n dX12_isAsked_30 rfl ?_
      refine xr_iload_n dX12_isAsked_31 rfl ?_
      refine xr_cvI (As := [xi v2, xi v3]) dX12_isAsked_32 mi_X12_isKnown ml_X12_369 se_X12_isKnown L_74 rfl rfl rfl (Nat.le_of_ble_eq_true rfl) h (fun r10 m11 hr10 h => ?_)
      obtain ⟨hT12, hF13⟩ := h
      refine xr_if_eq (tgt := 57) dX12_isAsked_35 (by decide) hr10  (fun c => ?_) (fun c => ?_)
      · have h := hT12 c
        refine xr_iconst dX12_isAsked_57 ?_
        exact xr_zret dX12_isAsked_58 rfl (x_nz (by decide)).1 ⟨rfl, _, rfl, x_01 (by decide), h⟩
      · have h := hF13 c
        refine xr_aload_n dX12_isAsked_38 rfl ?_
        refine xr_getR dX12_isAsked_39 fl_X12_16 L_74 rfl ?_
        refine xr_iload_n dX12_isAsked_42 rfl ?_
        obtain ⟨q14, h⟩ := h
        refine xr_iaload' (v := m11 77 v2) dX12_isAsked_43 L_77 rfl (by decide) q14 rfl ?_
        refine xr_aload_n dX12_isAsked_44 rfl ?_
        refine xr_getR dX12_isAsked_45 fl_X12_53 L_74 rfl ?_
        refine xr_iload_n dX12_isAsked_48 rfl ?_
        obtain ⟨q15, h⟩ := h
        refine xr_iaload' (v := m11 89 v1) dX12_isAsked_49 L_89 rfl (by decide) q15 rfl ?_
        obtain ⟨q16, q17, hT18, hF19⟩ := h
        refine xr_icmp_ne (tgt := 57) dX12_isAsked_50 (by decide) q16 q17 (fun c => ?_) (fun c => ?_)
        · have h := hT18 c
          refine xr_iconst dX12_isAsked_57 ?_
          exact xr_zret dX12_isAsked_58 rfl (x_nz (by decide)).1 ⟨rfl, _, rfl, x_01 (by decide), h⟩
        · have h := hF19 c
          refine xr_iconst dX12_isAsked_53 ?_
          refine xr_goto (tgt := 58) dX12_isAsked_54 (by decide) ?_
          exact xr_zret dX12_isAsked_58 rfl (x_nz (by decide)).1 ⟨rfl, _, rfl, x_01 (by decide), h⟩
  · have h := hF4 c
    refine xr_iconst dX12_isAsked_10 ?_
    exact xr_zret dX12_isAsked_11 rfl (x_nz (by decide)).1 ⟨rfl, _, rfl, x_01 (by decide), h⟩
theorem dX12_readings_0 : decode cX12_readings 0 = .ok (.aload_n 0, 1) := by decide +kernel
theorem dX12_readings_1 : decode cX12_readings 1 = .ok (.iconst 0, 1) := by decide +kernel
theorem dX12_readings_2 : decode cX12_readings 2 = .ok (.putfield 185, 3) := by decide +kernel
theorem dX12_readings_5 : decode cX12_readings 5 = .ok (.aload_n 0, 1) := by decide +kernel
theorem dX12_readings_6 : decode cX12_readings 6 = .ok (.iload_n 1, 1) := by decide +kernel
theorem dX12_readings_7 : decode cX12_readings 7 = .ok (.iload_n 2, 1) := by decide +kernel
theorem dX12_readings_8 : decode cX12_readings 8 = .ok (.iload_n 3, 1) := by decide +kernel
theorem dX12_readings_9 : decode cX12_readings 9 = .ok (.invokevirtual 372, 3) := by decide +kernel
theorem dX12_readings_12 : decode cX12_readings 12 = .ok (.ifCond .ne 5, 3) := by decide +kernel
theorem dX12_readings_15 : decode cX12_readings 15 = .ok (.iconst (-1), 1) := by decide +kernel
theorem dX12_readings_16 : decode cX12_readings 16 = .ok (.ireturn, 1) := by decide +kernel
theorem dX12_readings_17 : decode cX12_readings 17 = .ok (.aload_n 0, 1) := by decide +kernel
theorem dX12_readings_18 : decode cX12_readings 18 = .ok (.iload_n 3, 1) := by decide +kernel
theorem dX12_readings_19 : decode cX12_readings 19 = .ok (.invokevirtual 375, 3) := by decide +kernel
theorem dX12_readings_22 : decode cX12_readings 22 = .ok (.aload_n 0, 1) := by decide +kernel
theorem dX12_readings_23 : decode cX12_readings 23 = .ok (.aload_n 0, 1) := by decide +kernel
theorem dX12_readings_24 : decode cX12_readings 24 = .ok (.getfield 366, 3) := by decide +kernel
theorem dX12_readings_27 : decode cX12_readings 27 = .ok (.iload_n 2, 1) := by decide +kernel
theorem dX12_readings_28 : decode cX12_readings 28 = .ok (.invokevirtual 378, 3) := by decide +kernel
theorem dX12_readings_31 : decode cX12_readings 31 = .ok (.ireturn, 1) := by decide +kernel
set_option maxRecDepth 20000 in
theorem E_X12_readings {G : xG} {l : Launch} {d : Nat} {P : Int → xMem → Prop} {v1 v2 v3 : Int} {μ : xMem} (h : CI G l d mX12_isAsked [xr G 74, xi v1, xi v2, xi v3] (st2 μ 74 0 0) (fun r1 m2 => ((r1 ≠ 0 → CV G l d mX12_know [xr G 74, xi v3] m2 (fun m6 => CI G l d mX12_read [xr G 74, xi (m6 74 52), xi v2] m6 (fun r7 m8 => P r7 m8))) ∧ (r1 = 0 → P (-1) m2)))) : CI G l (d + 1) mX12_readings [xr G 74, xi v1, xi v2, xi v3] μ P := by
  refine CC.ofRR (ll := [some (xr G 74), some (xi v1), some (xi v2), some (xi v3)]) (by decide +kernel) (Nat.le_of_ble_eq_true rfl) rfl (fun h => by cases h) ?_
  refine xr_aload_n dX12_readings_0 rfl ?_
  refine xr_iconst dX12_readings_1 ?_
  refine xr_putI dX12_readings_2 fp_X12_185 L_74 rfl rfl ⟨rfl, rfl⟩ ?_
  refine xr_aload_n dX12_readings_5 rfl ?_
  refine xr_iload_n dX12_readings_6 rfl ?_
  refine xr_iload_n dX12_readings_7 rfl ?_
  refine xr_iload_n dX12_readings_8 rfl ?_
  refine xr_cvI (As := [xi v1, xi v2, xi v3]) dX12_readings_9 mi_X12_isAsked ml_X12_372 se_X12_isAsked L_74 rfl rfl rfl (Nat.le_of_ble_eq_true rfl) h (fun r1 m2 hr1 h => ?_)
  obtain ⟨hT3, hF4⟩ := h
  refine xr_if_ne (tgt := 17) dX12_readings_12 (by decide) hr1  (fun c => ?_) (fun c => ?_)
  · have h := hT3 c
    refine xr_aload_n dX12_readings_17 rfl ?_
    refine xr_iload_n dX12_readings_18 rfl ?_
    refine xr_cvV (As := [xi v3]) dX12_readings_19 mi_X12_know ml_X12_375 se_X12_know L_74 rfl rfl rfl (Nat.le_of_ble_eq_true rfl) h (fun m6 h => ?_)
    refine xr_aload_n dX12_readings_22 rfl ?_
    refine xr_aload_n dX12_readings_23 rfl ?_
    refine xr_getI' (v := m6 74 52) dX12_readings_24 fl_X12_366 L_74 rfl rfl rfl ?_
    refine xr_iload_n dX12_readings_27 rfl ?_
    refine xr_cvI (As := [xi (m6 74 52), xi v2]) dX12_readings_28 mi_X12_read ml_X12_378 se_X12_read L_74 rfl rfl rfl (Nat.le_of_ble_eq_true rfl) h (fun r7 m8 hr7 h => ?_)
    exact xr_iret dX12_readings_31 rfl ⟨rfl, _, rfl, hr7, h⟩
  · have h := hF4 c
    refine xr_iconst dX12_readings_15 ?_
    exact xr_iret dX12_readings_16 rfl ⟨rfl, _, rfl, (by decide), h⟩
theorem dX12_best_0 : decode cX12_best 0 = .ok (.aload_n 0, 1) := by decide +kernel
theorem dX12_best_1 : decode cX12_best 1 = .ok (.iconst 0, 1) := by decide +kernel
theorem dX12_best_2 : decode cX12_best 2 = .ok (.putfield 185, 3) := by decide +kernel
theorem dX12_best_5 : decode cX12_best 5 = .ok (.aload_n 0, 1) := by decide +kernel
theorem dX12_best_6 : decode cX12_best 6 = .ok (.iload_n 1, 1) := by decide +kernel
theorem dX12_best_7 : decode cX12_best 7 = .ok (.iload_n 2, 1) := by decide +kernel
theorem dX12_best_8 : decode cX12_best 8 = .ok (.iload_n 3, 1) := by decide +kernel
theorem dX12_best_9 : decode cX12_best 9 = .ok (.invokevirtual 372, 3) := by decide +kernel
theorem dX12_best_12 : decode cX12_best 12 = .ok (.ifCond .ne 5, 3) := by decide +kernel
theorem dX12_best_15 : decode cX12_best 15 = .ok (.iconst (-1), 1) := by decide +kernel
theorem dX12_best_16 : decode cX12_best 16 = .ok (.ireturn, 1) := by decide +kernel
theorem dX12_best_17 : decode cX12_best 17 = .ok (.aload_n 0, 1) := by decide +kernel
theorem dX12_best_18 : decode cX12_best 18 = .ok (.iload_n 3, 1) := by decide +kernel
theorem dX12_best_19 : decode cX12_best 19 = .ok (.invokevirtual 375, 3) := by decide +kernel
theorem dX12_best_22 : decode cX12_best 22 = .ok (.aload_n 0, 1) := by decide +kernel
theorem dX12_best_23 : decode cX12_best 23 = .ok (.aload_n 0, 1) := by decide +kernel
theorem dX12_best_24 : decode cX12_best 24 = .ok (.getfield 366, 3) := by decide +kernel
theorem dX12_best_27 : decode cX12_best 27 = .ok (.iload_n 2, 1) := by decide +kernel
theorem dX12_best_28 : decode cX12_best 28 = .ok (.invokevirtual 378, 3) := by decide +kernel
theorem dX12_best_31 : decode cX12_best 31 = .ok (.ifCond .ne 5, 3) := by decide +kernel
theorem dX12_best_34 : decode cX12_best 34 = .ok (.iconst 0, 1) := by decide +kernel
theorem dX12_best_35 : decode cX12_best 35 = .ok (.ireturn, 1) := by decide +kernel
theorem dX12_best_36 : decode cX12_best 36 = .ok (.aload_n 0, 1) := by decide +kernel
theorem dX12_best_37 : decode cX12_best 37 = .ok (.aload_n 0, 1) := by decide +kernel
theorem dX12_best_38 : decode cX12_best 38 = .ok (.getfield 244, 3) := by decide +kernel
theorem dX12_best_41 : decode cX12_best 41 = .ok (.putfield 381, 3) := by decide +kernel
theorem dX12_best_44 : decode cX12_best 44 = .ok (.iconst 0, 1) := by decide +kernel
theorem dX12_best_45 : decode cX12_best 45 = .ok (.istore 4, 2) := by decide +kernel
theorem dX12_best_47 : decode cX12_best 47 = .ok (.iload 4, 2) := by decide +kernel
theorem dX12_best_49 : decode cX12_best 49 = .ok (.aload_n 0, 1) := by decide +kernel
theorem dX12_best_50 : decode cX12_best 50 = .ok (.getfield 244, 3) := by decide +kernel
theorem dX12_best_53 : decode cX12_best 53 = .ok (.if_icmp .ge 23, 3) := by decide +kernel
theorem dX12_best_56 : decode cX12_best 56 = .ok (.aload_n 0, 1) := by decide +kernel
theorem dX12_best_57 : decode cX12_best 57 = .ok (.getfield 116, 3) := by decide +kernel
theorem dX12_best_60 : decode cX12_best 60 = .ok (.iload 4, 2) := by decide +kernel
theorem dX12_best_62 : decode cX12_best 62 = .ok (.aload_n 0, 1) := by decide +kernel
theorem dX12_best_63 : decode cX12_best 63 = .ok (.getfield 110, 3) := by decide +kernel
theorem dX12_best_66 : decode cX12_best 66 = .ok (.iload 4, 2) := by decide +kernel
theorem dX12_best_68 : decode cX12_best 68 = .ok (.baload, 1) := by decide +kernel
theorem dX12_best_69 : decode cX12_best 69 = .ok (.bastore, 1) := by decide +kernel
theorem dX12_best_70 : decode cX12_best 70 = .ok (.iinc 4 1, 3) := by decide +kernel
theorem dX12_best_73 : decode cX12_best 73 = .ok (.goto (-26), 3) := by decide +kernel
theorem dX12_best_76 : decode cX12_best 76 = .ok (.aload_n 0, 1) := by decide +kernel
theorem dX12_best_77 : decode cX12_best 77 = .ok (.getfield 241, 3) := by decide +kernel
theorem dX12_best_80 : decode cX12_best 80 = .ok (.ireturn, 1) := by decide +kernel
def K_X12_best_47 (G : xG) (l : Launch) (d : Nat) (P : Int → xMem → Prop) (v4 : Int) (μ : xMem) : Prop := RR G l d 0 0 false mX12_best (qI P) 47 [some (xr G 74), none, none, none, some (xi v4)] [] LAY μ 0 0
set_option maxRecDepth 20000 in
theorem E_X12_best {G : xG} {l : Launch} {d : Nat} {P : Int → xMem → Prop} {v1 v2 v3 : Int} {μ : xMem} (h : CI G l d mX12_isAsked [xr G 74, xi v1, xi v2, xi v3] (st2 μ 74 0 0) (fun r1 m2 => ((r1 ≠ 0 → CV G l d mX12_know [xr G 74, xi v3] m2 (fun m6 => CI G l d mX12_read [xr G 74, xi (m6 74 52), xi v2] m6 (fun r7 m8 => ((r7 ≠ 0 → K_X12_best_47 G l (d + 1) P 0 (st2 m8 74 54 (m8 74 48))) ∧ (r7 = 0 → P 0 m8))))) ∧ (r1 = 0 → P (-1) m2)))) : CI G l (d + 1) mX12_best [xr G 74, xi v1, xi v2, xi v3] μ P := by
  refine CC.ofRR (ll := [some (xr G 74), some (xi v1), some (xi v2), some (xi v3), none]) (by decide +kernel) (Nat.le_of_ble_eq_true rfl) rfl (fun h => by cases h) ?_
  refine xr_aload_n dX12_best_0 rfl ?_
  refine xr_iconst dX12_best_1 ?_
  refine xr_putI dX12_best_2 fp_X12_185 L_74 rfl rfl ⟨rfl, rfl⟩ ?_
  refine xr_aload_n dX12_best_5 rfl ?_
  refine xr_iload_n dX12_best_6 rfl ?_
  refine xr_iload_n dX12_best_7 rfl ?_
  refine xr_iload_n dX12_best_8 rfl ?_
  refine xr_cvI (As := [xi v1, xi v2, xi v3]) dX12_best_9 mi_X12_isAsked ml_X12_372 se_X12_isAsked L_74 rfl rfl rfl (Nat.le_of_ble_eq_true rfl) h (fun r1 m2 hr1 h => ?_)
  obtain ⟨hT3, hF4⟩ := h
  refine xr_if_ne (tgt := 17) dX12_best_12 (by decide) hr1  (fun c => ?_) (fun c => ?_)
  · have h := hT3 c
    refine xr_aload_n dX12_best_17 rfl ?_
    refine xr_iload_n dX12_best_18 rfl ?_
    refine xr_cvV (As := [xi v3]) dX12_best_19 mi_X12_know ml_X12_375 se_X12_know L_74 rfl rfl rfl (Nat.le_of_ble_eq_true rfl) h (fun m6 h => ?_)
    refine xr_aload_n dX12_best_22 rfl ?_
    refine xr_aload_n dX12_best_23 rfl ?_
    refine xr_getI' (v := m6 74 52) dX12_best_24 fl_X12_366 L_74 rfl rfl rfl ?_
    refine xr_iload_n dX12_best_27 rfl ?_
    refine xr_cvI (As := [xi (m6 74 52), xi v2]) dX12_best_28 mi_X12_read ml_X12_378 se_X12_read L_74 rfl rfl rfl (Nat.le_of_ble_eq_true rfl) h (fun r7 m8 hr7 h => ?_)
    obtain ⟨hT9, hF10⟩ := h
    refine xr_if_ne (tgt := 36) dX12_best_31 (by decide) hr7  (fun c => ?_) (fun c => ?_)
    · have h := hT9 c
      refine xr_aload_n dX12_best_36 rfl ?_
      refine xr_aload_n dX12_best_37 rfl ?_
      refine xr_getI' (v := m8 74 48) dX12_best_38 fl_X12_244 L_74 rfl rfl rfl ?_
      refine xr_putI dX12_best_41 fp_X12_381 L_74 rfl rfl ⟨rfl, rfl⟩ ?_
      refine xr_iconst dX12_best_44 ?_
      refine xr_istore' (ll' := [some (xr G 74), some (xi v1), some (xi v2), some (xi v3), some (xi 0)]) dX12_best_45 (by decide) rfl rfl ?_
      refine xr_wk (ll' := [some (xr G 74), none, none, none, some (xi 0)]) ⟨rfl, ⟨rfl, trivial⟩⟩ ?_
      exact h
    · have h := hF10 c
      refine xr_iconst dX12_best_34 ?_
      exact xr_iret dX12_best_35 rfl ⟨rfl, _, rfl, (by decide), h⟩
  · have h := hF4 c
    refine xr_iconst dX12_best_15 ?_
    exact xr_iret dX12_best_16 rfl ⟨rfl, _, rfl, (by decide), h⟩
set_option maxRecDepth 20000 in
theorem B_X12_best_47 {G : xG} {l : Launch} {d : Nat} {P : Int → xMem → Prop} {v4 : Int} {μ : xMem} (h : (iR v4 ∧ iR (μ 74 48) ∧ ((μ 74 48) ≤ v4 → (iR (μ 74 47) ∧ P (μ 74 47) μ)) ∧ (v4 < (μ 74 48) → ((0 ≤ v4 ∧ v4 < 40) ∧ K_X12_best_47 G l (d + 1) P (v4 + 1) (st2 μ 107 v4 (j8 (μ 105 v4))))))) : K_X12_best_47 G l (d + 1) P v4 μ := by
  unfold K_X12_best_47
  refine xr_iload dX12_best_47 rfl ?_
  refine xr_aload_n dX12_best_49 rfl ?_
  refine xr_getI' (v := μ 74 48) dX12_best_50 fl_X12_244 L_74 rfl rfl rfl ?_
  obtain ⟨q1, q2, hT3, hF4⟩ := h
  refine xr_icmp_ge (tgt := 76) dX12_best_53 (by decide) q1 q2 (fun c => ?_) (fun c => ?_)
  · have h := hT3 c
    refine xr_aload_n dX12_best_76 rfl ?_
    refine xr_getI' (v := μ 74 47) dX12_best_77 fl_X12_241 L_74 rfl rfl rfl ?_
    obtain ⟨q5, h⟩ := h
    exact xr_iret dX12_best_80 rfl ⟨rfl, _, rfl, q5, h⟩
  · have h := hF4 (Int.not_le.mp c)
    refine xr_aload_n dX12_best_56 rfl ?_
    refine xr_getR dX12_best_57 fl_X12_116 L_74 rfl ?_
    refine xr_iload dX12_best_60 rfl ?_
    refine xr_aload_n dX12_best_62 rfl ?_
    refine xr_getR dX12_best_63 fl_X12_110 L_74 rfl ?_
    refine xr_iload dX12_best_66 rfl ?_
    obtain ⟨q6, h⟩ := h
    refine xr_baload' (v := μ 105 v4) dX12_best_68 L_105 rfl (by decide) q6 rfl ?_
    refine xr_bastore dX12_best_69 L_107 rfl (by decide) q6 ?_
    refine xr_iinc' (ll' := [some (xr G 74), none, none, none, some (xi (v4 + 1))]) dX12_best_70 rfl (by decide) rfl rfl ?_
    refine xr_goto (tgt := 47) dX12_best_73 (by decide) ?_
    exact h
theorem dX12_octet_0 : decode cX12_octet 0 = .ok (.aload_n 0, 1) := by decide +kernel
theorem dX12_octet_1 : decode cX12_octet 1 = .ok (.iload_n 1, 1) := by decide +kernel
theorem dX12_octet_2 : decode cX12_octet 2 = .ok (.ifCond .lt 11, 3) := by decide +kernel
theorem dX12_octet_5 : decode cX12_octet 5 = .ok (.iload_n 1, 1) := by decide +kernel
theorem dX12_octet_6 : decode cX12_octet 6 = .ok (.aload_n 0, 1) := by decide +kernel
theorem dX12_octet_7 : decode cX12_octet 7 = .ok (.getfield 381, 3) := by decide +kernel
theorem dX12_octet_10 : decode cX12_octet 10 = .ok (.if_icmp .lt 7, 3) := by decide +kernel
theorem dX12_octet_13 : decode cX12_octet 13 = .ok (.iconst 1, 1) := by decide +kernel
theorem dX12_octet_14 : decode cX12_octet 14 = .ok (.goto 4, 3) := by decide +kernel
theorem dX12_octet_17 : decode cX12_octet 17 = .ok (.iconst 0, 1) := by decide +kernel
theorem dX12_octet_18 : decode cX12_octet 18 = .ok (.invokevirtual 384, 3) := by decide +kernel
theorem dX12_octet_21 : decode cX12_octet 21 = .ok (.ifCond .eq 7, 3) := by decide +kernel
theorem dX12_octet_24 : decode cX12_octet 24 = .ok (.iconst 0, 1) := by decide +kernel
theorem dX12_octet_25 : decode cX12_octet 25 = .ok (.goto 9, 3) := by decide +kernel
theorem dX12_octet_28 : decode cX12_octet 28 = .ok (.aload_n 0, 1) := by decide +kernel
theorem dX12_octet_29 : decode cX12_octet 29 = .ok (.getfield 116, 3) := by decide +kernel
theorem dX12_octet_32 : decode cX12_octet 32 = .ok (.iload_n 1, 1) := by decide +kernel
theorem dX12_octet_33 : decode cX12_octet 33 = .ok (.baload, 1) := by decide +kernel
theorem dX12_octet_34 : decode cX12_octet 34 = .ok (.ireturn, 1) := by decide +kernel
def K_X12_octet_18 (G : xG) (l : Launch) (d : Nat) (P : Int → xMem → Prop) (v1 s1 : Int) (μ : xMem) : Prop := RR G l d 0 0 false mX12_octet (qI P) 18 [some (xr G 74), some (xi v1)] [xi s1, xr G 74] LAY μ 0 0
set_option maxRecDepth 20000 in
theorem E_X12_octet {G : xG} {l : Launch} {d : Nat} {P : Int → xMem → Prop} {v1 : Int} {μ : xMem} (h : (iR v1 ∧ (v1 < 0 → K_X12_octet_18 G l (d + 1) P v1 1 μ) ∧ (0 ≤ v1 → (iR (μ 74 54) ∧ (v1 < (μ 74 54) → K_X12_octet_18 G l (d + 1) P v1 0 μ) ∧ ((μ 74 54) ≤ v1 → K_X12_octet_18 G l (d + 1) P v1 1 μ))))) : CI G l (d + 1) mX12_octet [xr G 74, xi v1] μ P := by
  refine CC.ofRR (ll := [some (xr G 74), some (xi v1)]) (by decide +kernel) (Nat.le_of_ble_eq_true rfl) rfl (fun h => by cases h) ?_
  refine xr_aload_n dX12_octet_0 rfl ?_
  refine xr_iload_n dX12_octet_1 rfl ?_
  obtain ⟨q1, hT2, hF3⟩ := h
  refine xr_if_lt (tgt := 13) dX12_octet_2 (by decide) q1  (fun c => ?_) (fun c => ?_)
  · have h := hT2 c
    refine xr_iconst dX12_octet_13 ?_
    refine xr_goto (tgt := 18) dX12_octet_14 (by decide) ?_
    exact h
  · have h := hF3 (Int.not_lt.mp c)
    refine xr_iload_n dX12_octet_5 rfl ?_
    refine xr_aload_n dX12_octet_6 rfl ?_
    refine xr_getI' (v := μ 74 54) dX12_octet_7 fl_X12_381 L_74 rfl rfl rfl ?_
    obtain ⟨q4, hT5, hF6⟩ := h
    refine xr_icmp_lt (tgt := 17) dX12_octet_10 (by decide) q1 q4 (fun c => ?_) (fun c => ?_)
    · have h := hT5 c
      refine xr_iconst dX12_octet_17 ?_
      exact h
    · have h := hF6 (Int.not_lt.mp c)
      refine xr_iconst dX12_octet_13 ?_
      refine xr_goto (tgt := 18) dX12_octet_14 (by decide) ?_
      exact h
set_option maxRecDepth 20000 in
theorem B_X12_octet_18 {G : xG} {l : Launch} {d : Nat} {P : Int → xMem → Prop} {v1 s1 : Int} {μ : xMem} (h : CI G l d mX12_throwsIf [xr G 74, xi s1] μ (fun r1 m2 => ((r1 = 0 → ((0 ≤ v1 ∧ v1 < 40) ∧ (iR (m2 107 v1) ∧ P (m2 107 v1) m2))) ∧ (r1 ≠ 0 → P 0 m2)))) : K_X12_octet_18 G l (d + 1) P v1 s1 μ := by
  unfold K_X12_octet_18
  refine xr_cvI (As := [xi s1]) dX12_octet_18 mi_X12_throwsIf ml_X12_384 se_X12_throwsIf L_74 rfl rfl rfl (Nat.le_of_ble_eq_true rfl) h (fun r1 m2 hr1 h => ?_)
  obtain ⟨hT3, hF4⟩ := h
  refine xr_if_eq (tgt := 28) dX12_octet_21 (by decide) hr1  (fun c => ?_) (fun c => ?_)
  · have h := hT3 c
    refine xr_aload_n dX12_octet_28 rfl ?_
    refine xr_getR dX12_octet_29 fl_X12_116 L_74 rfl ?_
    refine xr_iload_n dX12_octet_32 rfl ?_
    obtain ⟨q5, h⟩ := h
    refine xr_baload' (v := m2 107 v1) dX12_octet_33 L_107 rfl (by decide) q5 rfl ?_
    obtain ⟨q6, h⟩ := h
    exact xr_iret dX12_octet_34 rfl ⟨rfl, _, rfl, q6, h⟩
  · have h := hF4 c
    refine xr_iconst dX12_octet_24 ?_
    refine xr_goto (tgt := 34) dX12_octet_25 (by decide) ?_
    exact xr_iret dX12_octet_34 rfl ⟨rfl, _, rfl, (by decide), h⟩
theorem dX12_find_0 : decode cX12_find 0 = .ok (.aload_n 0, 1) := by decide +kernel
theorem dX12_find_1 : decode cX12_find 1 = .ok (.iload_n 1, 1) := by decide +kernel
theorem dX12_find_2 : decode cX12_find 2 = .ok (.invokevirtual 375, 3) := by decide +kernel
theorem dX12_find_5 : decode cX12_find 5 = .ok (.aload_n 0, 1) := by decide +kernel
theorem dX12_find_6 : decode cX12_find 6 = .ok (.getfield 233, 3) := by decide +kernel
theorem dX12_find_9 : decode cX12_find 9 = .ok (.ifCond .eq 4, 3) := by decide +kernel
theorem dX12_find_12 : decode cX12_find 12 = .ok (.return_, 1) := by decide +kernel
theorem dX12_find_13 : decode cX12_find 13 = .ok (.iconst 0, 1) := by decide +kernel
theorem dX12_find_14 : decode cX12_find 14 = .ok (.istore_n 2, 1) := by decide +kernel
theorem dX12_find_15 : decode cX12_find 15 = .ok (.iload_n 2, 1) := by decide +kernel
theorem dX12_find_16 : decode cX12_find 16 = .ok (.bipush 16, 2) := by decide +kernel
theorem dX12_find_18 : decode cX12_find 18 = .ok (.if_icmp .ge 89, 3) := by decide +kernel
theorem dX12_find_21 : decode cX12_find 21 = .ok (.aload_n 0, 1) := by decide +kernel
theorem dX12_find_22 : decode cX12_find 22 = .ok (.iload_n 2, 1) := by decide +kernel
theorem dX12_find_23 : decode cX12_find 23 = .ok (.iload_n 1, 1) := by decide +kernel
theorem dX12_find_24 : decode cX12_find 24 = .ok (.invokevirtual 363, 3) := by decide +kernel
theorem dX12_find_27 : decode cX12_find 27 = .ok (.istore_n 3, 1) := by decide +kernel
theorem dX12_find_28 : decode cX12_find 28 = .ok (.iconst 0, 1) := by decide +kernel
theorem dX12_find_29 : decode cX12_find 29 = .ok (.istore 4, 2) := by decide +kernel
theorem dX12_find_31 : decode cX12_find 31 = .ok (.iload 4, 2) := by decide +kernel
theorem dX12_find_33 : decode cX12_find 33 = .ok (.bipush 120, 2) := by decide +kernel
theorem dX12_find_35 : decode cX12_find 35 = .ok (.if_icmp .ge 66, 3) := by decide +kernel
theorem dX12_find_38 : decode cX12_find 38 = .ok (.aload_n 0, 1) := by decide +kernel
theorem dX12_find_39 : decode cX12_find 39 = .ok (.getfield 119, 3) := by decide +kernel
theorem dX12_find_42 : decode cX12_find 42 = .ok (.bipush 120, 2) := by decide +kernel
theorem dX12_find_44 : decode cX12_find 44 = .ok (.iload_n 2, 1) := by decide +kernel
theorem dX12_find_45 : decode cX12_find 45 = .ok (.imul, 1) := by decide +kernel
theorem dX12_find_46 : decode cX12_find 46 = .ok (.iload 4, 2) := by decide +kernel
theorem dX12_find_48 : decode cX12_find 48 = .ok (.iadd, 1) := by decide +kernel
theorem dX12_find_49 : decode cX12_find 49 = .ok (.iload_n 3, 1) := by decide +kernel
theorem dX12_find_50 : decode cX12_find 50 = .ok (.ifCond .lt 43, 3) := by decide +kernel
theorem dX12_find_53 : decode cX12_find 53 = .ok (.aload_n 0, 1) := by decide +kernel
theorem dX12_find_54 : decode cX12_find 54 = .ok (.iload 4, 2) := by decide +kernel
theorem dX12_find_56 : decode cX12_find 56 = .ok (.iload_n 1, 1) := by decide +kernel
theorem dX12_find_57 : decode cX12_find 57 = .ok (.invokevirtual 369, 3) := by decide +kernel
theorem dX12_find_60 : decode cX12_find 60 = .ok (.ifCond .eq 33, 3) := by decide +kernel
theorem dX12_find_63 : decode cX12_find 63 = .ok (.aload_n 0, 1) := by decide +kernel
theorem dX12_find_64 : decode cX12_find 64 = .ok (.getfield 16, 3) := by decide +kernel
theorem dX12_find_67 : decode cX12_find 67 = .ok (.iload 4, 2) := by decide +kernel
theorem dX12_find_69 : decode cX12_find 69 = .ok (.iaload, 1) := by decide +kernel
theorem dX12_find_70 : decode cX12_find 70 = .ok (.aload_n 0, 1) := by decide +kernel
theorem dX12_find_71 : decode cX12_find 71 = .ok (.getfield 53, 3) := by decide +kernel
theorem dX12_find_74 : decode cX12_find 74 = .ok (.iload_n 2, 1) := by decide +kernel
theorem dX12_find_75 : decode cX12_find 75 = .ok (.iaload, 1) := by decide +kernel
theorem dX12_find_76 : decode cX12_find 76 = .ok (.if_icmp .ne 17, 3) := by decide +kernel
theorem dX12_find_79 : decode cX12_find 79 = .ok (.aload_n 0, 1) := by decide +kernel
theorem dX12_find_80 : decode cX12_find 80 = .ok (.iload_n 3, 1) := by decide +kernel
theorem dX12_find_81 : decode cX12_find 81 = .ok (.iload 4, 2) := by decide +kernel
theorem dX12_find_83 : decode cX12_find 83 = .ok (.invokevirtual 378, 3) := by decide +kernel
theorem dX12_find_86 : decode cX12_find 86 = .ok (.ifCond .le 7, 3) := by decide +kernel
theorem dX12_find_89 : decode cX12_find 89 = .ok (.iconst 1, 1) := by decide +kernel
theorem dX12_find_90 : decode cX12_find 90 = .ok (.goto 4, 3) := by decide +kernel
theorem dX12_find_93 : decode cX12_find 93 = .ok (.iconst 0, 1) := by decide +kernel
theorem dX12_find_94 : decode cX12_find 94 = .ok (.bastore, 1) := by decide +kernel
theorem dX12_find_95 : decode cX12_find 95 = .ok (.iinc 4 1, 3) := by decide +kernel
theorem dX12_find_98 : decode cX12_find 98 = .ok (.goto (-67), 3) := by decide +kernel
theorem dX12_find_101 : decode cX12_find 101 = .ok (.iinc 2 1, 3) := by decide +kernel
theorem dX12_find_104 : decode cX12_find 104 = .ok (.goto (-89), 3) := by decide +kernel
theorem dX12_find_107 : decode cX12_find 107 = .ok (.aload_n 0, 1) := by decide +kernel
theorem dX12_find_108 : decode cX12_find 108 = .ok (.iconst 1, 1) := by decide +kernel
theorem dX12_find_109 : decode cX12_find 109 = .ok (.putfield 233, 3) := by decide +kernel
theorem dX12_find_112 : decode cX12_find 112 = .ok (.return_, 1) := by decide +kernel
def K_X12_find_15 (G : xG) (l : Launch) (d : Nat) (P : xMem → Prop) (v1 v2 : Int) (μ : xMem) : Prop := RR G l d 0 0 false mX12_find (qV P) 15 [some (xr G 74), some (xi v1), some (xi v2), none, none] [] LAY μ 0 0
def K_X12_find_31 (G : xG) (l : Launch) (d : Nat) (P : xMem → Prop) (v1 v2 v3 v4 : Int) (μ : xMem) : Prop := RR G l d 0 0 false mX12_find (qV P) 31 [some (xr G 74), some (xi v1), some (xi v2), some (xi v3), some (xi v4)] [] LAY μ 0 0
set_option maxRecDepth 20000 in
theorem E_X12_find {G : xG} {l : Launch} {d : Nat} {P : xMem → Prop} {v1 : Int} {μ : xMem} (h : CV G l d mX12_know [xr G 74, xi v1] μ (fun m2 => (iR (m2 74 56) ∧ ((m2 74 56) = 0 → K_X12_find_15 G l (d + 1) P v1 0 m2) ∧ ((m2 74 56) ≠ 0 → P m2)))) : CV G l (d + 1) mX12_find [xr G 74, xi v1] μ P := by
  refine CC.ofRR (ll := [some (xr G 74), some (xi v1), none, none, none]) (by decide +kernel) (Nat.le_of_ble_eq_true rfl) rfl (fun h => by cases h) ?_
  refine xr_aload_n dX12_find_0 rfl ?_
  refine xr_iload_n dX12_find_1 rfl ?_
  refine xr_cvV (As := [xi v1]) dX12_find_2 mi_X12_know ml_X12_375 se_X12_know L_74 rfl rfl rfl (Nat.le_of_ble_eq_true rfl) h (fun m2 h => ?_)
  refine xr_aload_n dX12_find_5 rfl ?_
  refine xr_getI' (v := m2 74 56) dX12_find_6 fl_X12_233 L_74 rfl rfl rfl ?_
  obtain ⟨q3, hT4, hF5⟩ := h
  refine xr_if_eq (tgt := 13) dX12_find_9 (by decide) q3  (fun c => ?_) (fun c => ?_)
  · have h := hT4 c
    refine xr_iconst dX12_find_13 ?_
    refine xr_istore_n' (ll' := [some (xr G 74), some (xi v1), some (xi 0), none, none]) dX12_find_14 (by decide) rfl rfl ?_
    exact h
  · have h := hF5 c
    exact xr_ret dX12_find_12 rfl ⟨rfl, rfl, h⟩
set_option maxRecDepth 20000 in
theorem B_X12_find_15 {G : xG} {l : Launch} {d : Nat} {P : xMem → Prop} {v1 v2 : Int} {μ : xMem} (h : (iR v2 ∧ (16 ≤ v2 → P (st2 μ 74 56 1)) ∧ (v2 < 16 → CI G l d mX12_tellingOf [xr G 74, xi v2, xi v1] μ (fun r4 m5 => K_X12_find_31 G l (d + 1) P v1 v2 r4 0 m5)))) : K_X12_find_15 G l (d + 1) P v1 v2 μ := by
  unfold K_X12_find_15
  refine xr_iload_n dX12_find_15 rfl ?_
  refine xr_bipush dX12_find_16 (by decide) ?_
  obtain ⟨q1, hT2, hF3⟩ := h
  refine xr_icmp_ge (tgt := 107) dX12_find_18 (by decide) q1 (by decide) (fun c => ?_) (fun c => ?_)
  · have h := hT2 c
    refine xr_aload_n dX12_find_107 rfl ?_
    refine xr_iconst dX12_find_108 ?_
    refine xr_putI dX12_find_109 fp_X12_233 L_74 rfl rfl (x_nz (by decide)) ?_
    exact xr_ret dX12_find_112 rfl ⟨rfl, rfl, h⟩
  · have h := hF3 (Int.not_le.mp c)
    refine xr_aload_n dX12_find_21 rfl ?_
    refine xr_iload_n dX12_find_22 rfl ?_
    refine xr_iload_n dX12_find_23 rfl ?_
    refine xr_cvI (As := [xi v2, xi v1]) dX12_find_24 mi_X12_tellingOf ml_X12_363 se_X12_tellingOf L_74 rfl rfl rfl (Nat.le_of_ble_eq_true rfl) h (fun r4 m5 hr4 h => ?_)
    refine xr_istore_n' (ll' := [some (xr G 74), some (xi v1), some (xi v2), some (xi r4), none]) dX12_find_27 (by decide) rfl rfl ?_
    refine xr_iconst dX12_find_28 ?_
    refine xr_istore' (ll' := [some (xr G 74), some (xi v1), some (xi v2), some (xi r4), some (xi 0)]) dX12_find_29 (by decide) rfl rfl ?_
    exact h
set_option maxRecDepth 20000 in
theorem B_X12_find_31 {G : xG} {l : Launch} {d : Nat} {P : xMem → Prop} {v1 v2 v3 v4 : Int} {μ : xMem} (h : (iR v4 ∧ (120 ≤ v4 → K_X12_find_15 G l (d + 1) P v1 (v2 + 1) μ) ∧ (v4 < 120 → (iR v3 ∧ (v3 < 0 → ((0 ≤ (120 * v2) + v4 ∧ (120 * v2) + v4 < 1920) ∧ K_X12_find_31 G l (d + 1) P v1 v2 v3 (v4 + 1) (st2 μ 108 ((120 * v2) + v4) 0))) ∧ (0 ≤ v3 → CI G l d mX12_isKnown [xr G 74, xi v4, xi v1] μ (fun r8 m9 => ((r8 = 0 → ((0 ≤ (120 * v2) + v4 ∧ (120 * v2) + v4 < 1920) ∧ K_X12_find_31 G l (d + 1) P v1 v2 v3 (v4 + 1) (st2 m9 108 ((120 * v2) + v4) 0))) ∧ (r8 ≠ 0 → ((0 ≤ v4 ∧ v4 < 120) ∧ ((0 ≤ v2 ∧ v2 < 16) ∧ (iR (m9 77 v4) ∧ iR (m9 89 v2) ∧ ((m9 77 v4) ≠ (m9 89 v2) → ((0 ≤ (120 * v2) + v4 ∧ (120 * v2) + v4 < 1920) ∧ K_X12_find_31 G l (d + 1) P v1 v2 v3 (v4 + 1) (st2 m9 108 ((120 * v2) + v4) 0))) ∧ ((m9 77 v4) = (m9 89 v2) → CI G l d mX12_read [xr G 74, xi v3, xi v4] m9 (fun r20 m21 => ((r20 ≤ 0 → ((0 ≤ (120 * v2) + v4 ∧ (120 * v2) + v4 < 1920) ∧ K_X12_find_31 G l (d + 1) P v1 v2 v3 (v4 + 1) (st2 m21 108 ((120 * v2) + v4) 0))) ∧ (0 < r20 → ((0 ≤ (120 * v2) + v4 ∧ (120 * v2) + v4 < 1920) ∧ K_X12_find_31 G l (d + 1) P v1 v2 v3 (v4 + 1) (st2 m21 108 ((120 * v2) + v4) 1))))))))))))))))) : K_X12_find_31 G l (d + 1) P v1 v2 v3 v4 μ := by
  unfold K_X12_find_31
  refine xr_iload dX12_find_31 rfl ?_
  refine xr_bipush dX12_find_33 (by decide) ?_
  obtain ⟨q1, hT2, hF3⟩ := h
  refine xr_icmp_ge (tgt := 101) dX12_find_35 (by decide) q1 (by decide) (fun c => ?_) (fun c => ?_)
  · have h := hT2 c
    refine xr_iinc' (ll' := [some (xr G 74), some (xi v1), some (xi (v2 + 1)), some (xi v3), some (xi v4)]) dX12_find_101 rfl (by decide) rfl rfl ?_
    refine xr_goto (tgt := 15) dX12_find_104 (by decide) ?_
    refine xr_wk (ll' := [some (xr G 74), some (xi v1), some (xi (v2 + 1)), none, none]) ⟨rfl, ⟨rfl, ⟨rfl, trivial⟩⟩⟩ ?_
    exact h
  · have h := hF3 (Int.not_le.mp c)
    refine xr_aload_n dX12_find_38 rfl ?_
    refine xr_getR dX12_find_39 fl_X12_119 L_74 rfl ?_
    refine xr_bipush dX12_find_42 (by decide) ?_
    refine xr_iload_n dX12_find_44 rfl ?_
    refine xr_imul dX12_find_45 ?_
    refine xr_iload dX12_find_46 rfl ?_
    refine xr_iadd dX12_find_48 ?_
    refine xr_iload_n dX12_find_49 rfl ?_
    obtain ⟨q4, hT5, hF6⟩ := h
    refine xr_if_lt (tgt := 93) dX12_find_50 (by decide) q4  (fun c => ?_) (fun c => ?_)
    · have h := hT5 c
      refine xr_iconst dX12_find_93 ?_
      obtain ⟨q7, h⟩ := h
      refine xr_zastore dX12_find_94 L_108 rfl (by decide) q7 (by decide) ?_
      refine xr_iinc' (ll' := [some (xr G 74), some (xi v1), some (xi v2), some (xi v3), some (xi (v4 + 1))]) dX12_find_95 rfl (by decide) rfl rfl ?_
      refine xr_goto (tgt := 31) dX12_find_98 (by decide) ?_
      exact h
    · have h := hF6 (Int.not_lt.mp c)
      refine xr_aload_n dX12_find_53 rfl ?_
      refine xr_iload dX12_find_54 rfl ?_
      refine xr_iload_n dX12_find_56 rfl ?_
      refine xr_cvI (As := [xi v4, xi v1]) dX12_find_57 mi_X12_isKnown ml_X12_369 se_X12_isKnown L_74 rfl rfl rfl (Nat.le_of_ble_eq_true rfl) h (fun r8 m9 hr8 h => ?_)
      obtain ⟨hT10, hF11⟩ := h
      refine xr_if_eq (tgt := 93) dX12_find_60 (by decide) hr8  (fun c => ?_) (fun c => ?_)
      · have h := hT10 c
        refine xr_iconst dX12_find_93 ?_
        obtain ⟨q12, h⟩ := h
        refine xr_zastore dX12_find_94 L_108 rfl (by decide) q12 (by decide) ?_
        refine xr_iinc' (ll' := [some (xr G 74), some (xi v1), some (xi v2), some (xi v3), some (xi (v4 + 1))]) dX12_find_95 rfl (by decide) rfl rfl ?_
        refine xr_goto (tgt := 31) dX12_find_98 (by decide) ?_
        exact h
      · have h := hF11 c
        refine xr_aload_n dX12_find_63 rfl ?_
        refine xr_getR dX12_find_64 fl_X12_16 L_74 rfl ?_
        refine xr_iload dX12_find_67 rfl ?_
        obtain ⟨q13, h⟩ := h
        refine xr_iaload' (v := m9 77 v4) dX12_find_69 L_77 rfl (by decide) q13 rfl ?_
        refine xr_aload_n dX12_find_70 rfl ?_
        refine xr_getR dX12_find_71 fl_X12_53 L_74 rfl ?_
        refine xr_iload_n dX12_find_74 rfl ?_
        obtain ⟨q14, h⟩ := h
        refine xr_iaload' (v := m9 89 v2) dX12_find_75 L_89 rfl (by decide) q14 rfl ?_
        obtain ⟨q15, q16, hT17, hF18⟩ := h
        refine xr_icmp_ne (tgt := 93) dX12_find_76 (by decide) q15 q16 (fun c => ?_) (fun c => ?_)
        · have h := hT17 c
          refine xr_iconst dX12_find_93 ?_
          obtain ⟨q19, h⟩ := h
          refine xr_zastore dX12_find_94 L_108 rfl (by decide) q19 (by decide) ?_
          refine xr_iinc' (ll' := [some (xr G 74), some (xi v1), some (xi v2), some (xi v3), some (xi (v4 + 1))]) dX12_find_95 rfl (by decide) rfl rfl ?_
          refine xr_goto (tgt := 31) dX12_find_98 (by decide) ?_
          exact h
        · have h := hF18 c
          refine xr_aload_n dX12_find_79 rfl ?_
          refine xr_iload_n dX12_find_80 rfl ?_
          refine xr_iload dX12_find_81 rfl ?_
          refine xr_cvI (As := [xi v3, xi v4]) dX12_find_83 mi_X12_read ml_X12_378 se_X12_read L_74 rfl rfl rfl (Nat.le_of_ble_eq_true rfl) h (fun r20 m21 hr20 h => ?_)
          obtain ⟨hT22, hF23⟩ := h
          refine xr_if_le (tgt := 93) dX12_find_86 (by decide) hr20  (fun c => ?_) (fun c => ?_)
          · have h := hT22 c
            refine xr_iconst dX12_find_93 ?_
            obtain ⟨q24, h⟩ := h
            refine xr_zastore dX12_find_94 L_108 rfl (by decide) q24 (by decide) ?_
            refine xr_iinc' (ll' := [some (xr G 74), some (xi v1), some (xi v2), some (xi v3), some (xi (v4 + 1))]) dX12_find_95 rfl (by decide) rfl rfl ?_
            refine xr_goto (tgt := 31) dX12_find_98 (by decide) ?_
            exact h
          · have h := hF23 (Int.not_le.mp c)
            refine xr_iconst dX12_find_89 ?_
            refine xr_goto (tgt := 94) dX12_find_90 (by decide) ?_
            obtain ⟨q25, h⟩ := h
            refine xr_zastore dX12_find_94 L_108 rfl (by decide) q25 (by decide) ?_
            refine xr_iinc' (ll' := [some (xr G 74), some (xi v1), some (xi v2), some (xi v3), some (xi (v4 + 1))]) dX12_find_95 rfl (by decide) rfl rfl ?_
            refine xr_goto (tgt := 31) dX12_find_98 (by decide) ?_
            exact h
theorem dX12_possible_0 : decode cX12_possible 0 = .ok (.aload_n 0, 1) := by decide +kernel
theorem dX12_possible_1 : decode cX12_possible 1 = .ok (.iconst 0, 1) := by decide +kernel
theorem dX12_possible_2 : decode cX12_possible 2 = .ok (.putfield 185, 3) := by decide +kernel
theorem dX12_possible_5 : decode cX12_possible 5 = .ok (.iload_n 1, 1) := by decide +kernel
theorem dX12_possible_6 : decode cX12_possible 6 = .ok (.iconst 0, 1) := by decide +kernel
theorem dX12_possible_7 : decode cX12_possible 7 = .ok (.bipush 15, 2) := by decide +kernel
theorem dX12_possible_9 : decode cX12_possible 9 = .ok (.invokestatic 198, 3) := by decide +kernel
theorem dX12_possible_12 : decode cX12_possible 12 = .ok (.ifCond .eq 12, 3) := by decide +kernel
theorem dX12_possible_15 : decode cX12_possible 15 = .ok (.aload_n 0, 1) := by decide +kernel
theorem dX12_possible_16 : decode cX12_possible 16 = .ok (.iload_n 1, 1) := by decide +kernel
theorem dX12_possible_17 : decode cX12_possible 17 = .ok (.iload_n 2, 1) := by decide +kernel
theorem dX12_possible_18 : decode cX12_possible 18 = .ok (.invokevirtual 363, 3) := by decide +kernel
theorem dX12_possible_21 : decode cX12_possible 21 = .ok (.ifCond .ge 5, 3) := by decide +kernel
theorem dX12_possible_24 : decode cX12_possible 24 = .ok (.iconst (-1), 1) := by decide +kernel
theorem dX12_possible_25 : decode cX12_possible 25 = .ok (.ireturn, 1) := by decide +kernel
theorem dX12_possible_26 : decode cX12_possible 26 = .ok (.aload_n 0, 1) := by decide +kernel
theorem dX12_possible_27 : decode cX12_possible 27 = .ok (.iload_n 2, 1) := by decide +kernel
theorem dX12_possible_28 : decode cX12_possible 28 = .ok (.invokevirtual 388, 3) := by decide +kernel
theorem dX12_possible_31 : decode cX12_possible 31 = .ok (.iconst 0, 1) := by decide +kernel
theorem dX12_possible_32 : decode cX12_possible 32 = .ok (.istore_n 3, 1) := by decide +kernel
theorem dX12_possible_33 : decode cX12_possible 33 = .ok (.iconst 0, 1) := by decide +kernel
theorem dX12_possible_34 : decode cX12_possible 34 = .ok (.istore 4, 2) := by decide +kernel
theorem dX12_possible_36 : decode cX12_possible 36 = .ok (.iload 4, 2) := by decide +kernel
theorem dX12_possible_38 : decode cX12_possible 38 = .ok (.aload_n 0, 1) := by decide +kernel
theorem dX12_possible_39 : decode cX12_possible 39 = .ok (.getfield 208, 3) := by decide +kernel
theorem dX12_possible_42 : decode cX12_possible 42 = .ok (.if_icmp .ge 32, 3) := by decide +kernel
theorem dX12_possible_45 : decode cX12_possible 45 = .ok (.iload_n 3, 1) := by decide +kernel
theorem dX12_possible_46 : decode cX12_possible 46 = .ok (.aload_n 0, 1) := by decide +kernel
theorem dX12_possible_47 : decode cX12_possible 47 = .ok (.getfield 119, 3) := by decide +kernel
theorem dX12_possible_50 : decode cX12_possible 50 = .ok (.bipush 120, 2) := by decide +kernel
theorem dX12_possible_52 : decode cX12_possible 52 = .ok (.iload_n 1, 1) := by decide +kernel
theorem dX12_possible_53 : decode cX12_possible 53 = .ok (.imul, 1) := by decide +kernel
theorem dX12_possible_54 : decode cX12_possible 54 = .ok (.iload 4, 2) := by decide +kernel
theorem dX12_possible_56 : decode cX12_possible 56 = .ok (.iadd, 1) := by decide +kernel
theorem dX12_possible_57 : decode cX12_possible 57 = .ok (.baload, 1) := by decide +kernel
theorem dX12_possible_58 : decode cX12_possible 58 = .ok (.ifCond .eq 7, 3) := by decide +kernel
theorem dX12_possible_61 : decode cX12_possible 61 = .ok (.iconst 1, 1) := by decide +kernel
theorem dX12_possible_62 : decode cX12_possible 62 = .ok (.goto 4, 3) := by decide +kernel
theorem dX12_possible_65 : decode cX12_possible 65 = .ok (.iconst 0, 1) := by decide +kernel
theorem dX12_possible_66 : decode cX12_possible 66 = .ok (.iadd, 1) := by decide +kernel
theorem dX12_possible_67 : decode cX12_possible 67 = .ok (.istore_n 3, 1) := by decide +kernel
theorem dX12_possible_68 : decode cX12_possible 68 = .ok (.iinc 4 1, 3) := by decide +kernel
theorem dX12_possible_71 : decode cX12_possible 71 = .ok (.goto (-35), 3) := by decide +kernel
theorem dX12_possible_74 : decode cX12_possible 74 = .ok (.iload_n 3, 1) := by decide +kernel
theorem dX12_possible_75 : decode cX12_possible 75 = .ok (.ireturn, 1) := by decide +kernel
def K_X12_possible_36 (G : xG) (l : Launch) (d : Nat) (P : Int → xMem → Prop) (v1 v3 v4 : Int) (μ : xMem) : Prop := RR G l d 0 0 false mX12_possible (qI P) 36 [some (xr G 74), some (xi v1), none, some (xi v3), some (xi v4)] [] LAY μ 0 0
set_option maxRecDepth 20000 in
theorem E_X12_possible {G : xG} {l : Launch} {d : Nat} {P : Int → xMem → Prop} {v1 v2 : Int} {μ : xMem} (h : CI G l d mX12_isIn [xi v1, xi 0, xi 15] (st2 μ 74 0 0) (fun r1 m2 => ((r1 = 0 → P (-1) m2) ∧ (r1 ≠ 0 → CI G l d mX12_tellingOf [xr G 74, xi v1, xi v2] m2 (fun r5 m6 => ((0 ≤ r5 → CV G l d mX12_find [xr G 74, xi v2] m6 (fun m10 => K_X12_possible_36 G l (d + 1) P v1 0 0 m10)) ∧ (r5 < 0 → P (-1) m6))))))) : CI G l (d + 1) mX12_possible [xr G 74, xi v1, xi v2] μ P := by
  refine CC.ofRR (ll := [some (xr G 74), some (xi v1), some (xi v2), none, none]) (by decide +kernel) (Nat.le_of_ble_eq_true rfl) rfl (fun h => by cases h) ?_
  refine xr_aload_n dX12_possible_0 rfl ?_
  refine xr_iconst dX12_possible_1 ?_
  refine xr_putI dX12_possible_2 fp_X12_185 L_74 rfl rfl ⟨rfl, rfl⟩ ?_
  refine xr_iload_n dX12_possible_5 rfl ?_
  refine xr_iconst dX12_possible_6 ?_
  refine xr_bipush dX12_possible_7 (by decide) ?_
  refine xr_csI (As := [xi v1, xi 0, xi 15]) dX12_possible_9 ms_X12_isIn ml_X12_198 rfl rfl (Nat.le_of_ble_eq_true rfl) h (fun r1 m2 hr1 h => ?_)
  obtain ⟨hT3, hF4⟩ := h
  refine xr_if_eq (tgt := 24) dX12_possible_12 (by decide) hr1  (fun c => ?_) (fun c => ?_)
  · have h := hT3 c
    refine xr_iconst dX12_possible_24 ?_
    exact xr_iret dX12_possible_25 rfl ⟨rfl, _, rfl, (by decide), h⟩
  · have h := hF4 c
    refine xr_aload_n dX12_possible_15 rfl ?_
    refine xr_iload_n dX12_possible_16 rfl ?_
    refine xr_iload_n dX12_possible_17 rfl ?_
    refine xr_cvI (As := [xi v1, xi v2]) dX12_possible_18 mi_X12_tellingOf ml_X12_363 se_X12_tellingOf L_74 rfl rfl rfl (Nat.le_of_ble_eq_true rfl) h (fun r5 m6 hr5 h => ?_)
    obtain ⟨hT7, hF8⟩ := h
    refine xr_if_ge (tgt := 26) dX12_possible_21 (by decide) hr5  (fun c => ?_) (fun c => ?_)
    · have h := hT7 c
      refine xr_aload_n dX12_possible_26 rfl ?_
      refine xr_iload_n dX12_possible_27 rfl ?_
      refine xr_cvV (As := [xi v2]) dX12_possible_28 mi_X12_find ml_X12_388 se_X12_find L_74 rfl rfl rfl (Nat.le_of_ble_eq_true rfl) h (fun m10 h => ?_)
      refine xr_iconst dX12_possible_31 ?_
      refine xr_istore_n' (ll' := [some (xr G 74), some (xi v1), some (xi v2), some (xi 0), none]) dX12_possible_32 (by decide) rfl rfl ?_
      refine xr_iconst dX12_possible_33 ?_
      refine xr_istore' (ll' := [some (xr G 74), some (xi v1), some (xi v2), some (xi 0), some (xi 0)]) dX12_possible_34 (by decide) rfl rfl ?_
      refine xr_wk (ll' := [some (xr G 74), some (xi v1), none, some (xi 0), some (xi 0)]) ⟨rfl, ⟨rfl, ⟨rfl, ⟨rfl, trivial⟩⟩⟩⟩ ?_
      exact h
    · have h := hF8 (Int.not_le.mp c)
      refine xr_iconst dX12_possible_24 ?_
      exact xr_iret dX12_possible_25 rfl ⟨rfl, _, rfl, (by decide), h⟩
set_option maxRecDepth 20000 in
theorem B_X12_possible_36 {G : xG} {l : Launch} {d : Nat} {P : Int → xMem → Prop} {v1 v3 v4 : Int} {μ : xMem} (h : (iR v4 ∧ iR (μ 74 20) ∧ ((μ 74 20) ≤ v4 → (iR v3 ∧ P v3 μ)) ∧ (v4 < (μ 74 20) → ((0 ≤ (120 * v1) + v4 ∧ (120 * v1) + v4 < 1920) ∧ (iR (μ 108 ((120 * v1) + v4)) ∧ ((μ 108 ((120 * v1) + v4)) = 0 → K_X12_possible_36 G l (d + 1) P v1 (v3 + 0) (v4 + 1) μ) ∧ ((μ 108 ((120 * v1) + v4)) ≠ 0 → K_X12_possible_36 G l (d + 1) P v1 (v3 + 1) (v4 + 1) μ)))))) : K_X12_possible_36 G l (d + 1) P v1 v3 v4 μ := by
  unfold K_X12_possible_36
  refine xr_iload dX12_possible_36 rfl ?_
  refine xr_aload_n dX12_possible_38 rfl ?_
  refine xr_getI' (v := μ 74 20) dX12_possible_39 fl_X12_208 L_74 rfl rfl rfl ?_
  obtain ⟨q1, q2, hT3, hF4⟩ := h
  refine xr_icmp_ge (tgt := 74) dX12_possible_42 (by decide) q1 q2 (fun c => ?_) (fun c => ?_)
  · have h := hT3 c
    refine xr_iload_n dX12_possible_74 rfl ?_
    obtain ⟨q5, h⟩ := h
    exact xr_iret dX12_possible_75 rfl ⟨rfl, _, rfl, q5, h⟩
  · have h := hF4 (Int.not_le.mp c)
    refine xr_iload_n dX12_possible_45 rfl ?_
    refine xr_aload_n dX12_possible_46 rfl ?_
    refine xr_getR dX12_possible_47 fl_X12_119 L_74 rfl ?_
    refine xr_bipush dX12_possible_50 (by decide) ?_
    refine xr_iload_n dX12_possible_52 rfl ?_
    refine xr_imul dX12_possible_53 ?_
    refine xr_iload dX12_possible_54 rfl ?_
    refine xr_iadd dX12_possible_56 ?_
    obtain ⟨q6, h⟩ := h
    refine xr_zaload' (v := μ 108 ((120 * v1) + v4)) dX12_possible_57 L_108 rfl (by decide) q6 rfl ?_
    obtain ⟨q7, hT8, hF9⟩ := h
    refine xr_if_eq (tgt := 65) dX12_possible_58 (by decide) q7  (fun c => ?_) (fun c => ?_)
    · have h := hT8 c
      refine xr_iconst dX12_possible_65 ?_
      refine xr_iadd dX12_possible_66 ?_
      refine xr_istore_n' (ll' := [some (xr G 74), some (xi v1), none, some (xi (v3 + 0)), some (xi v4)]) dX12_possible_67 (by decide) rfl rfl ?_
      refine xr_iinc' (ll' := [some (xr G 74), some (xi v1), none, some (xi (v3 + 0)), some (xi (v4 + 1))]) dX12_possible_68 rfl (by decide) rfl rfl ?_
      refine xr_goto (tgt := 36) dX12_possible_71 (by decide) ?_
      exact h
    · have h := hF9 c
      refine xr_iconst dX12_possible_61 ?_
      refine xr_goto (tgt := 66) dX12_possible_62 (by decide) ?_
      refine xr_iadd dX12_possible_66 ?_
      refine xr_istore_n' (ll' := [some (xr G 74), some (xi v1), none, some (xi (v3 + 1)), some (xi v4)]) dX12_possible_67 (by decide) rfl rfl ?_
      refine xr_iinc' (ll' := [some (xr G 74), some (xi v1), none, some (xi (v3 + 1)), some (xi (v4 + 1))]) dX12_possible_68 rfl (by decide) rfl rfl ?_
      refine xr_goto (tgt := 36) dX12_possible_71 (by decide) ?_
      exact h
theorem dX12_possibleAt_0 : decode cX12_possibleAt 0 = .ok (.aload_n 0, 1) := by decide +kernel
theorem dX12_possibleAt_1 : decode cX12_possibleAt 1 = .ok (.iconst 0, 1) := by decide +kernel
theorem dX12_possibleAt_2 : decode cX12_possibleAt 2 = .ok (.putfield 185, 3) := by decide +kernel
theorem dX12_possibleAt_5 : decode cX12_possibleAt 5 = .ok (.iload_n 2, 1) := by decide +kernel
theorem dX12_possibleAt_6 : decode cX12_possibleAt 6 = .ok (.ifCond .lt 22, 3) := by decide +kernel
theorem dX12_possibleAt_9 : decode cX12_possibleAt 9 = .ok (.iload_n 1, 1) := by decide +kernel
theorem dX12_possibleAt_10 : decode cX12_possibleAt 10 = .ok (.iconst 0, 1) := by decide +kernel
theorem dX12_possibleAt_11 : decode cX12_possibleAt 11 = .ok (.bipush 15, 2) := by decide +kernel
theorem dX12_possibleAt_13 : decode cX12_possibleAt 13 = .ok (.invokestatic 198, 3) := by decide +kernel
theorem dX12_possibleAt_16 : decode cX12_possibleAt 16 = .ok (.ifCond .eq 12, 3) := by decide +kernel
theorem dX12_possibleAt_19 : decode cX12_possibleAt 19 = .ok (.aload_n 0, 1) := by decide +kernel
theorem dX12_possibleAt_20 : decode cX12_possibleAt 20 = .ok (.iload_n 1, 1) := by decide +kernel
theorem dX12_possibleAt_21 : decode cX12_possibleAt 21 = .ok (.iload_n 3, 1) := by decide +kernel
theorem dX12_possibleAt_22 : decode cX12_possibleAt 22 = .ok (.invokevirtual 363, 3) := by decide +kernel
theorem dX12_possibleAt_25 : decode cX12_possibleAt 25 = .ok (.ifCond .ge 5, 3) := by decide +kernel
theorem dX12_possibleAt_28 : decode cX12_possibleAt 28 = .ok (.iconst (-1), 1) := by decide +kernel
theorem dX12_possibleAt_29 : decode cX12_possibleAt 29 = .ok (.ireturn, 1) := by decide +kernel
theorem dX12_possibleAt_30 : decode cX12_possibleAt 30 = .ok (.aload_n 0, 1) := by decide +kernel
theorem dX12_possibleAt_31 : decode cX12_possibleAt 31 = .ok (.iload_n 3, 1) := by decide +kernel
theorem dX12_possibleAt_32 : decode cX12_possibleAt 32 = .ok (.invokevirtual 388, 3) := by decide +kernel
theorem dX12_possibleAt_35 : decode cX12_possibleAt 35 = .ok (.iload_n 2, 1) := by decide +kernel
theorem dX12_possibleAt_36 : decode cX12_possibleAt 36 = .ok (.istore 4, 2) := by decide +kernel
theorem dX12_possibleAt_38 : decode cX12_possibleAt 38 = .ok (.iconst 0, 1) := by decide +kernel
theorem dX12_possibleAt_39 : decode cX12_possibleAt 39 = .ok (.istore 5, 2) := by decide +kernel
theorem dX12_possibleAt_41 : decode cX12_possibleAt 41 = .ok (.iload 5, 2) := by decide +kernel
theorem dX12_possibleAt_43 : decode cX12_possibleAt 43 = .ok (.aload_n 0, 1) := by decide +kernel
theorem dX12_possibleAt_44 : decode cX12_possibleAt 44 = .ok (.getfield 208, 3) := by decide +kernel
theorem dX12_possibleAt_47 : decode cX12_possibleAt 47 = .ok (.if_icmp .ge 38, 3) := by decide +kernel
theorem dX12_possibleAt_50 : decode cX12_possibleAt 50 = .ok (.aload_n 0, 1) := by decide +kernel
theorem dX12_possibleAt_51 : decode cX12_possibleAt 51 = .ok (.getfield 119, 3) := by decide +kernel
theorem dX12_possibleAt_54 : decode cX12_possibleAt 54 = .ok (.bipush 120, 2) := by decide +kernel
theorem dX12_possibleAt_56 : decode cX12_possibleAt 56 = .ok (.iload_n 1, 1) := by decide +kernel
theorem dX12_possibleAt_57 : decode cX12_possibleAt 57 = .ok (.imul, 1) := by decide +kernel
theorem dX12_possibleAt_58 : decode cX12_possibleAt 58 = .ok (.iload 5, 2) := by decide +kernel
theorem dX12_possibleAt_60 : decode cX12_possibleAt 60 = .ok (.iadd, 1) := by decide +kernel
theorem dX12_possibleAt_61 : decode cX12_possibleAt 61 = .ok (.baload, 1) := by decide +kernel
theorem dX12_possibleAt_62 : decode cX12_possibleAt 62 = .ok (.ifCond .ne 6, 3) := by decide +kernel
theorem dX12_possibleAt_65 : decode cX12_possibleAt 65 = .ok (.goto 14, 3) := by decide +kernel
theorem dX12_possibleAt_68 : decode cX12_possibleAt 68 = .ok (.iload 4, 2) := by decide +kernel
theorem dX12_possibleAt_70 : decode cX12_possibleAt 70 = .ok (.ifCond .ne 6, 3) := by decide +kernel
theorem dX12_possibleAt_73 : decode cX12_possibleAt 73 = .ok (.iload 5, 2) := by decide +kernel
theorem dX12_possibleAt_75 : decode cX12_possibleAt 75 = .ok (.ireturn, 1) := by decide +kernel
theorem dX12_possibleAt_76 : decode cX12_possibleAt 76 = .ok (.iinc 4 (-1), 3) := by decide +kernel
theorem dX12_possibleAt_79 : decode cX12_possibleAt 79 = .ok (.iinc 5 1, 3) := by decide +kernel
theorem dX12_possibleAt_82 : decode cX12_possibleAt 82 = .ok (.goto (-41), 3) := by decide +kernel
theorem dX12_possibleAt_85 : decode cX12_possibleAt 85 = .ok (.iconst (-1), 1) := by decide +kernel
theorem dX12_possibleAt_86 : decode cX12_possibleAt 86 = .ok (.ireturn, 1) := by decide +kernel
def K_X12_possibleAt_41 (G : xG) (l : Launch) (d : Nat) (P : Int → xMem → Prop) (v1 v4 v5 : Int) (μ : xMem) : Prop := RR G l d 0 0 false mX12_possibleAt (qI P) 41 [some (xr G 74), some (xi v1), none, none, some (xi v4), some (xi v5)] [] LAY μ 0 0
set_option maxRecDepth 20000 in
theorem E_X12_possibleAt {G : xG} {l : Launch} {d : Nat} {P : Int → xMem → Prop} {v1 v2 v3 : Int} {μ : xMem} (h : (iR v2 ∧ (v2 < 0 → P (-1) (st2 μ 74 0 0)) ∧ (0 ≤ v2 → CI G l d mX12_isIn [xi v1, xi 0, xi 15] (st2 μ 74 0 0) (fun r4 m5 => ((r4 = 0 → P (-1) m5) ∧ (r4 ≠ 0 → CI G l d mX12_tellingOf [xr G 74, xi v1, xi v3] m5 (fun r8 m9 => ((0 ≤ r8 → CV G l d mX12_find [xr G 74, xi v3] m9 (fun m13 => K_X12_possibleAt_41 G l (d + 1) P v1 v2 0 m13)) ∧ (r8 < 0 → P (-1) m9))))))))) : CI G l (d + 1) mX12_possibleAt [xr G 74, xi v1, xi v2, xi v3] μ P := by
  refine CC.ofRR (ll := [some (xr G 74), some (xi v1), some (xi v2), some (xi v3), none, none]) (by decide +kernel) (Nat.le_of_ble_eq_true rfl) rfl (fun h => by cases h) ?_
  refine xr_aload_n dX12_possibleAt_0 rfl ?_
  refine xr_iconst dX12_possibleAt_1 ?_
  refine xr_putI dX12_possibleAt_2 fp_X12_185 L_74 rfl rfl ⟨rfl, rfl⟩ ?_
  refine xr_iload_n dX12_possibleAt_5 rfl ?_
  obtain ⟨q1, hT2, hF3⟩ := h
  refine xr_if_lt (tgt := 28) dX12_possibleAt_6 (by decide) q1  (fun c => ?_) (fun c => ?_)
  · have h := hT2 c
    refine xr_iconst dX12_possibleAt_28 ?_
    exact xr_iret dX12_possibleAt_29 rfl ⟨rfl, _, rfl, (by decide), h⟩
  · have h := hF3 (Int.not_lt.mp c)
    refine xr_iload_n dX12_possibleAt_9 rfl ?_
    refine xr_iconst dX12_possibleAt_10 ?_
    refine xr_bipush dX12_possibleAt_11 (by decide) ?_
    refine xr_csI (As := [xi v1, xi 0, xi 15]) dX12_possibleAt_13 ms_X12_isIn ml_X12_198 rfl rfl (Nat.le_of_ble_eq_true rfl) h (fun r4 m5 hr4 h => ?_)
    obtain ⟨hT6, hF7⟩ := h
    refine xr_if_eq (tgt := 28) dX12_possibleAt_16 (by decide) hr4  (fun c => ?_) (fun c => ?_)
    · have h := hT6 c
      refine xr_iconst dX12_possibleAt_28 ?_
      exact xr_iret dX12_possibleAt_29 rfl ⟨rfl, _, rfl, (by decide), h⟩
    · have h := hF7 c
      refine xr_aload_n dX12_possibleAt_19 rfl ?_
      refine xr_iload_n dX12_possibleAt_20 rfl ?_
      refine xr_iload_n dX12_possibleAt_21 rfl ?_
      refine xr_cvI (As := [xi v1, xi v3]) dX12_possibleAt_22 mi_X12_tellingOf ml_X12_363 se_X12_tellingOf L_74 rfl rfl rfl (Nat.le_of_ble_eq_true rfl) h (fun r8 m9 hr8 h => ?_)
      obtain ⟨hT10, hF11⟩ := h
      refine xr_if_ge (tgt := 30) dX12_possibleAt_25 (by decide) hr8  (fun c => ?_) (fun c => ?_)
      · have h := hT10 c
        refine xr_aload_n dX12_possibleAt_30 rfl ?_
        refine xr_iload_n dX12_possibleAt_31 rfl ?_
        refine xr_cvV (As := [xi v3]) dX12_possibleAt_32 mi_X12_find ml_X12_388 se_X12_find L_74 rfl rfl rfl (Nat.le_of_ble_eq_true rfl) h (fun m13 h => ?_)
        refine xr_iload_n dX12_possibleAt_35 rfl ?_
        refine xr_istore' (ll' := [some (xr G 74), some (xi v1), some (xi v2), some (xi v3), some (xi v2), none]) dX12_possibleAt_36 (by decide) rfl rfl ?_
        refine xr_iconst dX12_possibleAt_38 ?_
        refine xr_istore' (ll' := [some (xr G 74), some (xi v1), some (xi v2), some (xi v3), some (xi v2), some (xi 0)]) dX12_possibleAt_39 (by decide) rfl rfl ?_
        refine xr_wk (ll' := [some (xr G 74), some (xi v1), none, none, some (xi v2), some (xi 0)]) ⟨rfl, ⟨rfl, ⟨rfl, ⟨rfl, trivial⟩⟩⟩⟩ ?_
        exact h
      · have h := hF11 (Int.not_le.mp c)
        refine xr_iconst dX12_possibleAt_28 ?_
        exact xr_iret dX12_possibleAt_29 rfl ⟨rfl, _, rfl, (by decide), h⟩
set_option maxRecDepth 20000 in
theorem B_X12_possibleAt_41 {G : xG} {l : Launch} {d : Nat} {P : Int → xMem → Prop} {v1 v4 v5 : Int} {μ : xMem} (h : (iR v5 ∧ iR (μ 74 20) ∧ ((μ 74 20) ≤ v5 → P (-1) μ) ∧ (v5 < (μ 74 20) → ((0 ≤ (120 * v1) + v5 ∧ (120 * v1) + v5 < 1920) ∧ (iR (μ 108 ((120 * v1) + v5)) ∧ ((μ 108 ((120 * v1) + v5)) ≠ 0 → (iR v4 ∧ (v4 ≠ 0 → K_X12_possibleAt_41 G l (d + 1) P v1 (v4 + (-1)) (v5 + 1) μ) ∧ (v4 = 0 → P v5 μ))) ∧ ((μ 108 ((120 * v1) + v5)) = 0 → K_X12_possibleAt_41 G l (d + 1) P v1 v4 (v5 + 1) μ)))))) : K_X12_possibleAt_41 G l (d + 1) P v1 v4 v5 μ := by
  unfold K_X12_possibleAt_41
  refine xr_iload dX12_possibleAt_41 rfl ?_
  refine xr_aload_n dX12_possibleAt_43 rfl ?_
  refine xr_getI' (v := μ 74 20) dX12_possibleAt_44 fl_X12_208 L_74 rfl rfl rfl ?_
  obtain ⟨q1, q2, hT3, hF4⟩ := h
  refine xr_icmp_ge (tgt := 85) dX12_possibleAt_47 (by decide) q1 q2 (fun c => ?_) (fun c => ?_)
  · have h := hT3 c
    refine xr_iconst dX12_possibleAt_85 ?_
    exact xr_iret dX12_possibleAt_86 rfl ⟨rfl, _, rfl, (by decide), h⟩
  · have h := hF4 (Int.not_le.mp c)
    refine xr_aload_n dX12_possibleAt_50 rfl ?_
    refine xr_getR dX12_possibleAt_51 fl_X12_119 L_74 rfl ?_
    refine xr_bipush dX12_possibleAt_54 (by decide) ?_
    refine xr_iload_n dX12_possibleAt_56 rfl ?_
    refine xr_imul dX12_possibleAt_57 ?_
    refine xr_iload dX12_possibleAt_58 rfl ?_
    refine xr_iadd dX12_possibleAt_60 ?_
    obtain ⟨q5, h⟩ := h
    refine xr_zaload' (v := μ 108 ((120 * v1) + v5)) dX12_possibleAt_61 L_108 rfl (by decide) q5 rfl ?_
    obtain ⟨q6, hT7, hF8⟩ := h
    refine xr_if_ne (tgt := 68) dX12_possibleAt_62 (by decide) q6  (fun c => ?_) (fun c => ?_)
    · have h := hT7 c
      refine xr_iload dX12_possibleAt_68 rfl ?_
      obtain ⟨q9, hT10, hF11⟩ := h
      refine xr_if_ne (tgt := 76) dX12_possibleAt_70 (by decide) q9  (fun c => ?_) (fun c => ?_)
      · have h := hT10 c
        refine xr_iinc' (ll' := [some (xr G 74), some (xi v1), none, none, some (xi (v4 + (-1))), some (xi v5)]) dX12_possibleAt_76 rfl (by decide) rfl rfl ?_
        refine xr_iinc' (ll' := [some (xr G 74), some (xi v1), none, none, some (xi (v4 + (-1))), some (xi (v5 + 1))]) dX12_possibleAt_79 rfl (by decide) rfl rfl ?_
        refine xr_goto (tgt := 41) dX12_possibleAt_82 (by decide) ?_
        exact h
      · have h := hF11 c
        refine xr_iload dX12_possibleAt_73 rfl ?_
        exact xr_iret dX12_possibleAt_75 rfl ⟨rfl, _, rfl, q1, h⟩
    · have h := hF8 c
      refine xr_goto (tgt := 79) dX12_possibleAt_65 (by decide) ?_
      refine xr_iinc' (ll' := [some (xr G 74), some (xi v1), none, none, some (xi v4), some (xi (v5 + 1))]) dX12_possibleAt_79 rfl (by decide) rfl rfl ?_
      refine xr_goto (tgt := 41) dX12_possibleAt_82 (by decide) ?_
      exact h
theorem dX12_cellOf_0 : decode cX12_cellOf 0 = .ok (.aload_n 0, 1) := by decide +kernel
theorem dX12_cellOf_1 : decode cX12_cellOf 1 = .ok (.getfield 149, 3) := by decide +kernel
theorem dX12_cellOf_4 : decode cX12_cellOf 4 = .ok (.iload_n 1, 1) := by decide +kernel
theorem dX12_cellOf_5 : decode cX12_cellOf 5 = .ok (.baload, 1) := by decide +kernel
theorem dX12_cellOf_6 : decode cX12_cellOf 6 = .ok (.ifCond .eq 24, 3) := by decide +kernel
theorem dX12_cellOf_9 : decode cX12_cellOf 9 = .ok (.bipush 9, 2) := by decide +kernel
theorem dX12_cellOf_11 : decode cX12_cellOf 11 = .ok (.aload_n 0, 1) := by decide +kernel
theorem dX12_cellOf_12 : decode cX12_cellOf 12 = .ok (.getfield 122, 3) := by decide +kernel
theorem dX12_cellOf_15 : decode cX12_cellOf 15 = .ok (.iload_n 1, 1) := by decide +kernel
theorem dX12_cellOf_16 : decode cX12_cellOf 16 = .ok (.iaload, 1) := by decide +kernel
theorem dX12_cellOf_17 : decode cX12_cellOf 17 = .ok (.iload_n 2, 1) := by decide +kernel
theorem dX12_cellOf_18 : decode cX12_cellOf 18 = .ok (.iadd, 1) := by decide +kernel
theorem dX12_cellOf_19 : decode cX12_cellOf 19 = .ok (.imul, 1) := by decide +kernel
theorem dX12_cellOf_20 : decode cX12_cellOf 20 = .ok (.aload_n 0, 1) := by decide +kernel
theorem dX12_cellOf_21 : decode cX12_cellOf 21 = .ok (.getfield 125, 3) := by decide +kernel
theorem dX12_cellOf_24 : decode cX12_cellOf 24 = .ok (.iload_n 1, 1) := by decide +kernel
theorem dX12_cellOf_25 : decode cX12_cellOf 25 = .ok (.iaload, 1) := by decide +kernel
theorem dX12_cellOf_26 : decode cX12_cellOf 26 = .ok (.iadd, 1) := by decide +kernel
theorem dX12_cellOf_27 : decode cX12_cellOf 27 = .ok (.goto 21, 3) := by decide +kernel
theorem dX12_cellOf_30 : decode cX12_cellOf 30 = .ok (.bipush 9, 2) := by decide +kernel
theorem dX12_cellOf_32 : decode cX12_cellOf 32 = .ok (.aload_n 0, 1) := by decide +kernel
theorem dX12_cellOf_33 : decode cX12_cellOf 33 = .ok (.getfield 122, 3) := by decide +kernel
theorem dX12_cellOf_36 : decode cX12_cellOf 36 = .ok (.iload_n 1, 1) := by decide +kernel
theorem dX12_cellOf_37 : decode cX12_cellOf 37 = .ok (.iaload, 1) := by decide +kernel
theorem dX12_cellOf_38 : decode cX12_cellOf 38 = .ok (.imul, 1) := by decide +kernel
theorem dX12_cellOf_39 : decode cX12_cellOf 39 = .ok (.aload_n 0, 1) := by decide +kernel
theorem dX12_cellOf_40 : decode cX12_cellOf 40 = .ok (.getfield 125, 3) := by decide +kernel
theorem dX12_cellOf_43 : decode cX12_cellOf 43 = .ok (.iload_n 1, 1) := by decide +kernel
theorem dX12_cellOf_44 : decode cX12_cellOf 44 = .ok (.iaload, 1) := by decide +kernel
theorem dX12_cellOf_45 : decode cX12_cellOf 45 = .ok (.iadd, 1) := by decide +kernel
theorem dX12_cellOf_46 : decode cX12_cellOf 46 = .ok (.iload_n 2, 1) := by decide +kernel
theorem dX12_cellOf_47 : decode cX12_cellOf 47 = .ok (.iadd, 1) := by decide +kernel
theorem dX12_cellOf_48 : decode cX12_cellOf 48 = .ok (.ireturn, 1) := by decide +kernel
set_option maxRecDepth 20000 in
theorem E_X12_cellOf {G : xG} {l : Launch} {d : Nat} {P : Int → xMem → Prop} {v1 v2 : Int} {μ : xMem} (h : ((0 ≤ v1 ∧ v1 < 16) ∧ (iR (μ 118 v1) ∧ ((μ 118 v1) = 0 → (iR (((9 * (μ 109 v1)) + (μ 110 v1)) + v2) ∧ P (((9 * (μ 109 v1)) + (μ 110 v1)) + v2) μ)) ∧ ((μ 118 v1) ≠ 0 → (iR ((9 * ((μ 109 v1) + v2)) + (μ 110 v1)) ∧ P ((9 * ((μ 109 v1) + v2)) + (μ 110 v1)) μ))))) : CI G l (d + 1) mX12_cellOf [xr G 74, xi v1, xi v2] μ P := by
  refine CC.ofRR (ll := [some (xr G 74), some (xi v1), some (xi v2)]) (by decide +kernel) (Nat.le_of_ble_eq_true rfl) rfl (fun h => by cases h) ?_
  refine xr_aload_n dX12_cellOf_0 rfl ?_
  refine xr_getR dX12_cellOf_1 fl_X12_149 L_74 rfl ?_
  refine xr_iload_n dX12_cellOf_4 rfl ?_
  obtain ⟨q1, h⟩ := h
  refine xr_zaload' (v := μ 118 v1) dX12_cellOf_5 L_118 rfl (by decide) q1 rfl ?_
  obtain ⟨q2, hT3, hF4⟩ := h
  refine xr_if_eq (tgt := 30) dX12_cellOf_6 (by decide) q2  (fun c => ?_) (fun c => ?_)
  · have h := hT3 c
    refine xr_bipush dX12_cellOf_30 (by decide) ?_
    refine xr_aload_n dX12_cellOf_32 rfl ?_
    refine xr_getR dX12_cellOf_33 fl_X12_122 L_74 rfl ?_
    refine xr_iload_n dX12_cellOf_36 rfl ?_
    refine xr_iaload' (v := μ 109 v1) dX12_cellOf_37 L_109 rfl (by decide) q1 rfl ?_
    refine xr_imul dX12_cellOf_38 ?_
    refine xr_aload_n dX12_cellOf_39 rfl ?_
    refine xr_getR dX12_cellOf_40 fl_X12_125 L_74 rfl ?_
    refine xr_iload_n dX12_cellOf_43 rfl ?_
    refine xr_iaload' (v := μ 110 v1) dX12_cellOf_44 L_110 rfl (by decide) q1 rfl ?_
    refine xr_iadd dX12_cellOf_45 ?_
    refine xr_iload_n dX12_cellOf_46 rfl ?_
    refine xr_iadd dX12_cellOf_47 ?_
    obtain ⟨q5, h⟩ := h
    exact xr_iret dX12_cellOf_48 rfl ⟨rfl, _, rfl, q5, h⟩
  · have h := hF4 c
    refine xr_bipush dX12_cellOf_9 (by decide) ?_
    refine xr_aload_n dX12_cellOf_11 rfl ?_
    refine xr_getR dX12_cellOf_12 fl_X12_122 L_74 rfl ?_
    refine xr_iload_n dX12_cellOf_15 rfl ?_
    refine xr_iaload' (v := μ 109 v1) dX12_cellOf_16 L_109 rfl (by decide) q1 rfl ?_
    refine xr_iload_n dX12_cellOf_17 rfl ?_
    refine xr_iadd dX12_cellOf_18 ?_
    refine xr_imul dX12_cellOf_19 ?_
    refine xr_aload_n dX12_cellOf_20 rfl ?_
    refine xr_getR dX12_cellOf_21 fl_X12_125 L_74 rfl ?_
    refine xr_iload_n dX12_cellOf_24 rfl ?_
    refine xr_iaload' (v := μ 110 v1) dX12_cellOf_25 L_110 rfl (by decide) q1 rfl ?_
    refine xr_iadd dX12_cellOf_26 ?_
    refine xr_goto (tgt := 48) dX12_cellOf_27 (by decide) ?_
    obtain ⟨q6, h⟩ := h
    exact xr_iret dX12_cellOf_48 rfl ⟨rfl, _, rfl, q6, h⟩
theorem dX12_light_0 : decode cX12_light 0 = .ok (.aload_n 0, 1) := by decide +kernel
theorem dX12_light_1 : decode cX12_light 1 = .ok (.iconst 0, 1) := by decide +kernel
theorem dX12_light_2 : decode cX12_light 2 = .ok (.putfield 185, 3) := by decide +kernel
theorem dX12_light_5 : decode cX12_light 5 = .ok (.iload_n 1, 1) := by decide +kernel
theorem dX12_light_6 : decode cX12_light 6 = .ok (.iconst 0, 1) := by decide +kernel
theorem dX12_light_7 : decode cX12_light 7 = .ok (.bipush 15, 2) := by decide +kernel
theorem dX12_light_9 : decode cX12_light 9 = .ok (.invokestatic 198, 3) := by decide +kernel
theorem dX12_light_12 : decode cX12_light 12 = .ok (.ifCond .eq 63, 3) := by decide +kernel
theorem dX12_light_15 : decode cX12_light 15 = .ok (.aload_n 0, 1) := by decide +kernel
theorem dX12_light_16 : decode cX12_light 16 = .ok (.getfield 53, 3) := by decide +kernel
theorem dX12_light_19 : decode cX12_light 19 = .ok (.iload_n 1, 1) := by decide +kernel
theorem dX12_light_20 : decode cX12_light 20 = .ok (.iaload, 1) := by decide +kernel
theorem dX12_light_21 : decode cX12_light 21 = .ok (.ifCond .eq 54, 3) := by decide +kernel
theorem dX12_light_24 : decode cX12_light 24 = .ok (.aload_n 0, 1) := by decide +kernel
theorem dX12_light_25 : decode cX12_light 25 = .ok (.getfield 146, 3) := by decide +kernel
theorem dX12_light_28 : decode cX12_light 28 = .ok (.iload_n 1, 1) := by decide +kernel
theorem dX12_light_29 : decode cX12_light 29 = .ok (.baload, 1) := by decide +kernel
theorem dX12_light_30 : decode cX12_light 30 = .ok (.ifCond .ne 45, 3) := by decide +kernel
theorem dX12_light_33 : decode cX12_light 33 = .ok (.iload_n 2, 1) := by decide +kernel
theorem dX12_light_34 : decode cX12_light 34 = .ok (.iconst 0, 1) := by decide +kernel
theorem dX12_light_35 : decode cX12_light 35 = .ok (.bipush 8, 2) := by decide +kernel
theorem dX12_light_37 : decode cX12_light 37 = .ok (.invokestatic 198, 3) := by decide +kernel
theorem dX12_light_40 : decode cX12_light 40 = .ok (.ifCond .eq 35, 3) := by decide +kernel
theorem dX12_light_43 : decode cX12_light 43 = .ok (.iload_n 3, 1) := by decide +kernel
theorem dX12_light_44 : decode cX12_light 44 = .ok (.iconst 0, 1) := by decide +kernel
theorem dX12_light_45 : decode cX12_light 45 = .ok (.bipush 8, 2) := by decide +kernel
theorem dX12_light_47 : decode cX12_light 47 = .ok (.invokestatic 198, 3) := by decide +kernel
theorem dX12_light_50 : decode cX12_light 50 = .ok (.ifCond .eq 25, 3) := by decide +kernel
theorem dX12_light_53 : decode cX12_light 53 = .ok (.iload 4, 2) := by decide +kernel
theorem dX12_light_55 : decode cX12_light 55 = .ok (.ifCond .eq 7, 3) := by decide +kernel
theorem dX12_light_58 : decode cX12_light 58 = .ok (.iload_n 2, 1) := by decide +kernel
theorem dX12_light_59 : decode cX12_light 59 = .ok (.goto 4, 3) := by decide +kernel
theorem dX12_light_62 : decode cX12_light 62 = .ok (.iload_n 3, 1) := by decide +kernel
theorem dX12_light_63 : decode cX12_light 63 = .ok (.aload_n 0, 1) := by decide +kernel
theorem dX12_light_64 : decode cX12_light 64 = .ok (.getfield 53, 3) := by decide +kernel
theorem dX12_light_67 : decode cX12_light 67 = .ok (.iload_n 1, 1) := by decide +kernel
theorem dX12_light_68 : decode cX12_light 68 = .ok (.iaload, 1) := by decide +kernel
theorem dX12_light_69 : decode cX12_light 69 = .ok (.iadd, 1) := by decide +kernel
theorem dX12_light_70 : decode cX12_light 70 = .ok (.bipush 9, 2) := by decide +kernel
theorem dX12_light_72 : decode cX12_light 72 = .ok (.if_icmp .le 5, 3) := by decide +kernel
theorem dX12_light_75 : decode cX12_light 75 = .ok (.iconst 0, 1) := by decide +kernel
theorem dX12_light_76 : decode cX12_light 76 = .ok (.ireturn, 1) := by decide +kernel
theorem dX12_light_77 : decode cX12_light 77 = .ok (.iconst 0, 1) := by decide +kernel
theorem dX12_light_78 : decode cX12_light 78 = .ok (.istore 5, 2) := by decide +kernel
theorem dX12_light_80 : decode cX12_light 80 = .ok (.iload 5, 2) := by decide +kernel
theorem dX12_light_82 : decode cX12_light 82 = .ok (.aload_n 0, 1) := by decide +kernel
theorem dX12_light_83 : decode cX12_light 83 = .ok (.getfield 53, 3) := by decide +kernel
theorem dX12_light_86 : decode cX12_light 86 = .ok (.iload_n 1, 1) := by decide +kernel
theorem dX12_light_87 : decode cX12_light 87 = .ok (.iaload, 1) := by decide +kernel
theorem dX12_light_88 : decode cX12_light 88 = .ok (.if_icmp .ge 64, 3) := by decide +kernel
theorem dX12_light_91 : decode cX12_light 91 = .ok (.iload 4, 2) := by decide +kernel
theorem dX12_light_93 : decode cX12_light 93 = .ok (.ifCond .eq 15, 3) := by decide +kernel
theorem dX12_light_96 : decode cX12_light 96 = .ok (.bipush 9, 2) := by decide +kernel
theorem dX12_light_98 : decode cX12_light 98 = .ok (.iload_n 2, 1) := by decide +kernel
theorem dX12_light_99 : decode cX12_light 99 = .ok (.iload 5, 2) := by decide +kernel
theorem dX12_light_101 : decode cX12_light 101 = .ok (.iadd, 1) := by decide +kernel
theorem dX12_light_102 : decode cX12_light 102 = .ok (.imul, 1) := by decide +kernel
theorem dX12_light_103 : decode cX12_light 103 = .ok (.iload_n 3, 1) := by decide +kernel
theorem dX12_light_104 : decode cX12_light 104 = .ok (.iadd, 1) := by decide +kernel
theorem dX12_light_105 : decode cX12_light 105 = .ok (.goto 12, 3) := by decide +kernel
theorem dX12_light_108 : decode cX12_light 108 = .ok (.bipush 9, 2) := by decide +kernel
theorem dX12_light_110 : decode cX12_light 110 = .ok (.iload_n 2, 1) := by decide +kernel
theorem dX12_light_111 : decode cX12_light 111 = .ok (.imul, 1) := by decide +kernel
theorem dX12_light_112 : decode cX12_light 112 = .ok (.iload_n 3, 1) := by decide +kernel
theorem dX12_light_113 : decode cX12_light 113 = .ok (.iadd, 1) := by decide +kernel
theorem dX12_light_114 : decode cX12_light 114 = .ok (.iload 5, 2) := by decide +kernel
theorem dX12_light_116 : decode cX12_light 116 = .ok (.iadd, 1) := by decide +kernel
theorem dX12_light_117 : decode cX12_light 117 = .ok (.istore 6, 2) := by decide +kernel
theorem dX12_light_119 : decode cX12_light 119 = .ok (.iload 4, 2) := by decide +kernel
theorem dX12_light_121 : decode cX12_light 121 = .ok (.ifCond .eq 13, 3) := by decide +kernel
theorem dX12_light_124 : decode cX12_light 124 = .ok (.aload_n 0, 1) := by decide +kernel
theorem dX12_light_125 : decode cX12_light 125 = .ok (.getfield 131, 3) := by decide +kernel
theorem dX12_light_128 : decode cX12_light 128 = .ok (.iload 6, 2) := by decide +kernel
theorem dX12_light_130 : decode cX12_light 130 = .ok (.iaload, 1) := by decide +kernel
theorem dX12_light_131 : decode cX12_light 131 = .ok (.goto 10, 3) := by decide +kernel
theorem dX12_light_134 : decode cX12_light 134 = .ok (.aload_n 0, 1) := by decide +kernel
theorem dX12_light_135 : decode cX12_light 135 = .ok (.getfield 128, 3) := by decide +kernel
theorem dX12_light_138 : decode cX12_light 138 = .ok (.iload 6, 2) := by decide +kernel
theorem dX12_light_140 : decode cX12_light 140 = .ok (.iaload, 1) := by decide +kernel
theorem dX12_light_141 : decode cX12_light 141 = .ok (.ifCond .le 5, 3) := by decide +kernel
theorem dX12_light_144 : decode cX12_light 144 = .ok (.iconst 0, 1) := by decide +kernel
theorem dX12_light_145 : decode cX12_light 145 = .ok (.ireturn, 1) := by decide +kernel
theorem dX12_light_146 : decode cX12_light 146 = .ok (.iinc 5 1, 3) := by decide +kernel
theorem dX12_light_149 : decode cX12_light 149 = .ok (.goto (-69), 3) := by decide +kernel
theorem dX12_light_152 : decode cX12_light 152 = .ok (.aload_n 0, 1) := by decide +kernel
theorem dX12_light_153 : decode cX12_light 153 = .ok (.getfield 146, 3) := by decide +kernel
theorem dX12_light_156 : decode cX12_light 156 = .ok (.iload_n 1, 1) := by decide +kernel
theorem dX12_light_157 : decode cX12_light 157 = .ok (.iconst 1, 1) := by decide +kernel
theorem dX12_light_158 : decode cX12_light 158 = .ok (.bastore, 1) := by decide +kernel
theorem dX12_light_159 : decode cX12_light 159 = .ok (.aload_n 0, 1) := by decide +kernel
theorem dX12_light_160 : decode cX12_light 160 = .ok (.getfield 122, 3) := by decide +kernel
theorem dX12_light_163 : decode cX12_light 163 = .ok (.iload_n 1, 1) := by decide +kernel
theorem dX12_light_164 : decode cX12_light 164 = .ok (.iload_n 2, 1) := by decide +kernel
theorem dX12_light_165 : decode cX12_light 165 = .ok (.iastore, 1) := by decide +kernel
theorem dX12_light_166 : decode cX12_light 166 = .ok (.aload_n 0, 1) := by decide +kernel
theorem dX12_light_167 : decode cX12_light 167 = .ok (.getfield 125, 3) := by decide +kernel
theorem dX12_light_170 : decode cX12_light 170 = .ok (.iload_n 1, 1) := by decide +kernel
theorem dX12_light_171 : decode cX12_light 171 = .ok (.iload_n 3, 1) := by decide +kernel
theorem dX12_light_172 : decode cX12_light 172 = .ok (.iastore, 1) := by decide +kernel
theorem dX12_light_173 : decode cX12_light 173 = .ok (.aload_n 0, 1) := by decide +kernel
theorem dX12_light_174 : decode cX12_light 174 = .ok (.getfield 149, 3) := by decide +kernel
theorem dX12_light_177 : decode cX12_light 177 = .ok (.iload_n 1, 1) := by decide +kernel
theorem dX12_light_178 : decode cX12_light 178 = .ok (.iload 4, 2) := by decide +kernel
theorem dX12_light_180 : decode cX12_light 180 = .ok (.bastore, 1) := by decide +kernel
theorem dX12_light_181 : decode cX12_light 181 = .ok (.iconst 0, 1) := by decide +kernel
theorem dX12_light_182 : decode cX12_light 182 = .ok (.istore 5, 2) := by decide +kernel
theorem dX12_light_184 : decode cX12_light 184 = .ok (.iload 5, 2) := by decide +kernel
theorem dX12_light_186 : decode cX12_light 186 = .ok (.aload_n 0, 1) := by decide +kernel
theorem dX12_light_187 : decode cX12_light 187 = .ok (.getfield 53, 3) := by decide +kernel
theorem dX12_light_190 : decode cX12_light 190 = .ok (.iload_n 1, 1) := by decide +kernel
theorem dX12_light_191 : decode cX12_light 191 = .ok (.iaload, 1) := by decide +kernel
theorem dX12_light_192 : decode cX12_light 192 = .ok (.if_icmp .ge 47, 3) := by decide +kernel
theorem dX12_light_195 : decode cX12_light 195 = .ok (.iload 4, 2) := by decide +kernel
theorem dX12_light_197 : decode cX12_light 197 = .ok (.ifCond .eq 21, 3) := by decide +kernel
theorem dX12_light_200 : decode cX12_light 200 = .ok (.aload_n 0, 1) := by decide +kernel
theorem dX12_light_201 : decode cX12_light 201 = .ok (.getfield 131, 3) := by decide +kernel
theorem dX12_light_204 : decode cX12_light 204 = .ok (.aload_n 0, 1) := by decide +kernel
theorem dX12_light_205 : decode cX12_light 205 = .ok (.iload_n 1, 1) := by decide +kernel
theorem dX12_light_206 : decode cX12_light 206 = .ok (.iload 5, 2) := by decide +kernel
theorem dX12_light_208 : decode cX12_light 208 = .ok (.invokevirtual 391, 3) := by decide +kernel
theorem dX12_light_211 : decode cX12_light 211 = .ok (.iload_n 1, 1) := by decide +kernel
theorem dX12_light_212 : decode cX12_light 212 = .ok (.iconst 1, 1) := by decide +kernel
theorem dX12_light_213 : decode cX12_light 213 = .ok (.iadd, 1) := by decide +kernel
theorem dX12_light_214 : decode cX12_light 214 = .ok (.iastore, 1) := by decide +kernel
theorem dX12_light_215 : decode cX12_light 215 = .ok (.goto 18, 3) := by decide +kernel
theorem dX12_light_218 : decode cX12_light 218 = .ok (.aload_n 0, 1) := by decide +kernel
theorem dX12_light_219 : decode cX12_light 219 = .ok (.getfield 128, 3) := by decide +kernel
theorem dX12_light_222 : decode cX12_light 222 = .ok (.aload_n 0, 1) := by decide +kernel
theorem dX12_light_223 : decode cX12_light 223 = .ok (.iload_n 1, 1) := by decide +kernel
theorem dX12_light_224 : decode cX12_light 224 = .ok (.iload 5, 2) := by decide +kernel
theorem dX12_light_226 : decode cX12_light 226 = .ok (.invokevirtual 391, 3) := by decide +kernel
theorem dX12_light_229 : decode cX12_light 229 = .ok (.iload_n 1, 1) := by decide +kernel
theorem dX12_light_230 : decode cX12_light 230 = .ok (.iconst 1, 1) := by decide +kernel
theorem dX12_light_231 : decode cX12_light 231 = .ok (.iadd, 1) := by decide +kernel
theorem dX12_light_232 : decode cX12_light 232 = .ok (.iastore, 1) := by decide +kernel
theorem dX12_light_233 : decode cX12_light 233 = .ok (.iinc 5 1, 3) := by decide +kernel
theorem dX12_light_236 : decode cX12_light 236 = .ok (.goto (-52), 3) := by decide +kernel
theorem dX12_light_239 : decode cX12_light 239 = .ok (.iconst 1, 1) := by decide +kernel
theorem dX12_light_240 : decode cX12_light 240 = .ok (.ireturn, 1) := by decide +kernel
def K_X12_light_63 (G : xG) (l : Launch) (d : Nat) (P : Int → xMem → Prop) (v1 v2 v3 v4 s0 : Int) (μ : xMem) : Prop := RR G l d 0 0 false mX12_light (qI P) 63 [some (xr G 74), some (xi v1), some (xi v2), some (xi v3), some (xi v4), none, none] [xi s0] LAY μ 0 0
def K_X12_light_80 (G : xG) (l : Launch) (d : Nat) (P : Int → xMem → Prop) (v1 v2 v3 v4 v5 : Int) (μ : xMem) : Prop := RR G l d 0 0 false mX12_light (qI P) 80 [some (xr G 74), some (xi v1), some (xi v2), some (xi v3), some (xi v4), some (xi v5), none] [] LAY μ 0 0
def K_X12_light_184 (G : xG) (l : Launch) (d : Nat) (P : Int → xMem → Prop) (v1 v4 v5 : Int) (μ : xMem) : Prop := RR G l d 0 0 false mX12_light (qI P) 184 [some (xr G 74), some (xi v1), none, none, some (xi v4), some (xi v5), none] [] LAY μ 0 0
def K_X12_light_117 (G : xG) (l : Launch) (d : Nat) (P : Int → xMem → Prop) (v1 v2 v3 v4 v5 s0 : Int) (μ : xMem) : Prop := RR G l d 0 0 false mX12_light (qI P) 117 [some (xr G 74), some (xi v1), some (xi v2), some (xi v3), some (xi v4), some (xi v5), none] [xi s0] LAY μ 0 0
set_option maxRecDepth 20000 in
theorem E_X12_light {G : xG} {l : Launch} {d : Nat} {P : Int → xMem → Prop} {v1 v2 v3 v4 : Int} {μ : xMem} (h : CI G l d mX12_isIn [xi v1, xi 0, xi 15] (st2 μ 74 0 0) (fun r1 m2 => ((r1 = 0 → P 0 m2) ∧ (r1 ≠ 0 → ((0 ≤ v1 ∧ v1 < 16) ∧ (iR (m2 89 v1) ∧ ((m2 89 v1) = 0 → P 0 m2) ∧ ((m2 89 v1) ≠ 0 → (iR (m2 117 v1) ∧ ((m2 117 v1) ≠ 0 → P 0 m2) ∧ ((m2 117 v1) = 0 → CI G l d mX12_isIn [xi v2, xi 0, xi 8] m2 (fun r12 m13 => ((r12 = 0 → P 0 m13) ∧ (r12 ≠ 0 → CI G l d mX12_isIn [xi v3, xi 0, xi 8] m13 (fun r16 m17 => ((r16 = 0 → P 0 m17) ∧ (r16 ≠ 0 → (iR v4 ∧ (v4 = 0 → K_X12_light_63 G l (d + 1) P v1 v2 v3 v4 v3 m17) ∧ (v4 ≠ 0 → K_X12_light_63 G l (d + 1) P v1 v2 v3 v4 v2 m17))))))))))))))))) : CI G l (d + 1) mX12_light [xr G 74, xi v1, xi v2, xi v3, xi v4] μ P := by
  refine CC.ofRR (ll := [some (xr G 74), some (xi v1), some (xi v2), some (xi v3), some (xi v4), none, none]) (by decide +kernel) (Nat.le_of_ble_eq_true rfl) rfl (fun h => by cases h) ?_
  refine xr_aload_n dX12_light_0 rfl ?_
  refine xr_iconst dX12_light_1 ?_
  refine xr_putI dX12_light_2 fp_X12_185 L_74 rfl rfl ⟨rfl, rfl⟩ ?_
  refine xr_iload_n dX12_light_5 rfl ?_
  refine xr_iconst dX12_light_6 ?_
  refine xr_bipush dX12_light_7 (by decide) ?_
  refine xr_csI (As := [xi v1, xi 0, xi 15]) dX12_light_9 ms_X12_isIn ml_X12_198 rfl rfl (Nat.le_of_ble_eq_true rfl) h (fun r1 m2 hr1 h => ?_)
  obtain ⟨hT3, hF4⟩ := h
  refine xr_if_eq (tgt := 75) dX12_light_12 (by decide) hr1  (fun c => ?_) (fun c => ?_)
  · have h := hT3 c
    refine xr_iconst dX12_light_75 ?_
    exact xr_zret dX12_light_76 rfl (x_nz (by decide)).1 ⟨rfl, _, rfl, x_01 (by decide), h⟩
  · have h := hF4 c
    refine xr_aload_n dX12_light_15 rfl ?_
    refine xr_getR dX12_light_16 fl_X12_53 L_74 rfl ?_
    refine xr_iload_n dX12_light_19 rfl ?_
    obtain ⟨q5, h⟩ := h
    refine xr_iaload' (v := m2 89 v1) dX12_light_20 L_89 rfl (by decide) q5 rfl ?_
    obtain ⟨q6, hT7, hF8⟩ := h
    refine xr_if_eq (tgt := 75) dX12_light_21 (by decide) q6  (fun c => ?_) (fun c => ?_)
    · have h := hT7 c
      refine xr_iconst dX12_light_75 ?_
      exact xr_zret dX12_light_76 rfl (x_nz (by decide)).1 ⟨rfl, _, rfl, x_01 (by decide), h⟩
    · have h := hF8 c
      refine xr_aload_n dX12_light_24 rfl ?_
      refine xr_getR dX12_light_25 fl_X12_146 L_74 rfl ?_
      refine xr_iload_n dX12_light_28 rfl ?_
      refine xr_zaload' (v := m2 117 v1) dX12_light_29 L_117 rfl (by decide) q5 rfl ?_
      obtain ⟨q9, hT10, hF11⟩ := h
      refine xr_if_ne (tgt := 75) dX12_light_30 (by decide) q9  (fun c => ?_) (fun c => ?_)
      · have h := hT10 c
        refine xr_iconst dX12_light_75 ?_
        exact xr_zret dX12_light_76 rfl (x_nz (by decide)).1 ⟨rfl, _, rfl, x_01 (by decide), h⟩
      · have h := hF11 c
        refine xr_iload_n dX12_light_33 rfl ?_
        refine xr_iconst dX12_light_34 ?_
        refine xr_bipush dX12_light_35 (by decide) ?_
        refine xr_csI (As := [xi v2, xi 0, xi 8]) dX12_light_37 ms_X12_isIn ml_X12_198 rfl rfl (Nat.le_of_ble_eq_true rfl) h (fun r12 m13 hr12 h => ?_)
        obtain ⟨hT14, hF15⟩ := h
        refine xr_if_eq (tgt := 75) dX12_light_40 (by decide) hr12  (fun c => ?_) (fun c => ?_)
        · have h := hT14 c
          refine xr_iconst dX12_light_75 ?_
          exact xr_zret dX12_light_76 rfl (x_nz (by decide)).1 ⟨rfl, _, rfl, x_01 (by decide), h⟩
        · have h := hF15 c
          refine xr_iload_n dX12_light_43 rfl ?_
          refine xr_iconst dX12_light_44 ?_
          refine xr_bipush dX12_light_45 (by decide) ?_
          refine xr_csI (As := [xi v3, xi 0, xi 8]) dX12_light_47 ms_X12_isIn ml_X12_198 rfl rfl (Nat.le_of_ble_eq_true rfl) h (fun r16 m17 hr16 h => ?_)
          obtain ⟨hT18, hF19⟩ := h
          refine xr_if_eq (tgt := 75) dX12_light_50 (by decide) hr16  (fun c => ?_) (fun c => ?_)
          · have h := hT18 c
            refine xr_iconst dX12_light_75 ?_
            exact xr_zret dX12_light_76 rfl (x_nz (by decide)).1 ⟨rfl, _, rfl, x_01 (by decide), h⟩
          · have h := hF19 c
            refine xr_iload dX12_light_53 rfl ?_
            obtain ⟨q20, hT21, hF22⟩ := h
            refine xr_if_eq (tgt := 62) dX12_light_55 (by decide) q20  (fun c => ?_) (fun c => ?_)
            · have h := hT21 c
              refine xr_iload_n dX12_light_62 rfl ?_
              exact h
            · have h := hF22 c
              refine xr_iload_n dX12_light_58 rfl ?_
              refine xr_goto (tgt := 63) dX12_light_59 (by decide) ?_
              exact h
set_option maxRecDepth 20000 in
theorem B_X12_light_63 {G : xG} {l : Launch} {d : Nat} {P : Int → xMem → Prop} {v1 v2 v3 v4 s0 : Int} {μ : xMem} (h : ((0 ≤ v1 ∧ v1 < 16) ∧ (iR (s0 + (μ 89 v1)) ∧ ((s0 + (μ 89 v1)) ≤ 9 → K_X12_light_80 G l (d + 1) P v1 v2 v3 v4 0 μ) ∧ (9 < (s0 + (μ 89 v1)) → P 0 μ)))) : K_X12_light_63 G l (d + 1) P v1 v2 v3 v4 s0 μ := by
  unfold K_X12_light_63
  refine xr_aload_n dX12_light_63 rfl ?_
  refine xr_getR dX12_light_64 fl_X12_53 L_74 rfl ?_
  refine xr_iload_n dX12_light_67 rfl ?_
  obtain ⟨q1, h⟩ := h
  refine xr_iaload' (v := μ 89 v1) dX12_light_68 L_89 rfl (by decide) q1 rfl ?_
  refine xr_iadd dX12_light_69 ?_
  refine xr_bipush dX12_light_70 (by decide) ?_
  obtain ⟨q2, hT3, hF4⟩ := h
  refine xr_icmp_le (tgt := 77) dX12_light_72 (by decide) q2 (by decide) (fun c => ?_) (fun c => ?_)
  · have h := hT3 c
    refine xr_iconst dX12_light_77 ?_
    refine xr_istore' (ll' := [some (xr G 74), some (xi v1), some (xi v2), some (xi v3), some (xi v4), some (xi 0), none]) dX12_light_78 (by decide) rfl rfl ?_
    exact h
  · have h := hF4 (Int.not_le.mp c)
    refine xr_iconst dX12_light_75 ?_
    exact xr_zret dX12_light_76 rfl (x_nz (by decide)).1 ⟨rfl, _, rfl, x_01 (by decide), h⟩
set_option maxRecDepth 20000 in
theorem B_X12_light_80 {G : xG} {l : Launch} {d : Nat} {P : Int → xMem → Prop} {v1 v2 v3 v4 v5 : Int} {μ : xMem} (h : ((0 ≤ v1 ∧ v1 < 16) ∧ (iR v5 ∧ iR (μ 89 v1) ∧ ((μ 89 v1) ≤ v5 → ((v4 = 0 ∨ v4 = 1) ∧ K_X12_light_184 G l (d + 1) P v1 v4 0 (st2 (st2 (st2 (st2 μ 117 v1 1) 109 v1 v2) 110 v1 v3) 118 v1 v4))) ∧ (v5 < (μ 89 v1) → (iR v4 ∧ (v4 = 0 → K_X12_light_117 G l (d + 1) P v1 v2 v3 v4 v5 (((9 * v2) + v3) + v5) μ) ∧ (v4 ≠ 0 → K_X12_light_117 G l (d + 1) P v1 v2 v3 v4 v5 ((9 * (v2 + v5)) + v3) μ)))))) : K_X12_light_80 G l (d + 1) P v1 v2 v3 v4 v5 μ := by
  unfold K_X12_light_80
  refine xr_iload dX12_light_80 rfl ?_
  refine xr_aload_n dX12_light_82 rfl ?_
  refine xr_getR dX12_light_83 fl_X12_53 L_74 rfl ?_
  refine xr_iload_n dX12_light_86 rfl ?_
  obtain ⟨q1, h⟩ := h
  refine xr_iaload' (v := μ 89 v1) dX12_light_87 L_89 rfl (by decide) q1 rfl ?_
  obtain ⟨q2, q3, hT4, hF5⟩ := h
  refine xr_icmp_ge (tgt := 152) dX12_light_88 (by decide) q2 q3 (fun c => ?_) (fun c => ?_)
  · have h := hT4 c
    refine xr_aload_n dX12_light_152 rfl ?_
    refine xr_getR dX12_light_153 fl_X12_146 L_74 rfl ?_
    refine xr_iload_n dX12_light_156 rfl ?_
    refine xr_iconst dX12_light_157 ?_
    refine xr_zastore dX12_light_158 L_117 rfl (by decide) q1 (by decide) ?_
    refine xr_aload_n dX12_light_159 rfl ?_
    refine xr_getR dX12_light_160 fl_X12_122 L_74 rfl ?_
    refine xr_iload_n dX12_light_163 rfl ?_
    refine xr_iload_n dX12_light_164 rfl ?_
    refine xr_iastore dX12_light_165 L_109 rfl (by decide) q1 ?_
    refine xr_aload_n dX12_light_166 rfl ?_
    refine xr_getR dX12_light_167 fl_X12_125 L_74 rfl ?_
    refine xr_iload_n dX12_light_170 rfl ?_
    refine xr_iload_n dX12_light_171 rfl ?_
    refine xr_iastore dX12_light_172 L_110 rfl (by decide) q1 ?_
    refine xr_aload_n dX12_light_173 rfl ?_
    refine xr_getR dX12_light_174 fl_X12_149 L_74 rfl ?_
    refine xr_iload_n dX12_light_177 rfl ?_
    refine xr_iload dX12_light_178 rfl ?_
    obtain ⟨q6, h⟩ := h
    refine xr_zastore dX12_light_180 L_118 rfl (by decide) q1 q6 ?_
    refine xr_iconst dX12_light_181 ?_
    refine xr_istore' (ll' := [some (xr G 74), some (xi v1), some (xi v2), some (xi v3), some (xi v4), some (xi 0), none]) dX12_light_182 (by decide) rfl rfl ?_
    refine xr_wk (ll' := [some (xr G 74), some (xi v1), none, none, some (xi v4), some (xi 0), none]) ⟨rfl, ⟨rfl, ⟨rfl, ⟨rfl, trivial⟩⟩⟩⟩ ?_
    exact h
  · have h := hF5 (Int.not_le.mp c)
    refine xr_iload dX12_light_91 rfl ?_
    obtain ⟨q7, hT8, hF9⟩ := h
    refine xr_if_eq (tgt := 108) dX12_light_93 (by decide) q7  (fun c => ?_) (fun c => ?_)
    · have h := hT8 c
      refine xr_bipush dX12_light_108 (by decide) ?_
      refine xr_iload_n dX12_light_110 rfl ?_
      refine xr_imul dX12_light_111 ?_
      refine xr_iload_n dX12_light_112 rfl ?_
      refine xr_iadd dX12_light_113 ?_
      refine xr_iload dX12_light_114 rfl ?_
      refine xr_iadd dX12_light_116 ?_
      exact h
    · have h := hF9 c
      refine xr_bipush dX12_light_96 (by decide) ?_
      refine xr_iload_n dX12_light_98 rfl ?_
      refine xr_iload dX12_light_99 rfl ?_
      refine xr_iadd dX12_light_101 ?_
      refine xr_imul dX12_light_102 ?_
      refine xr_iload_n dX12_light_103 rfl ?_
      refine xr_iadd dX12_light_104 ?_
      refine xr_goto (tgt := 117) dX12_light_105 (by decide) ?_
      exact h
set_option maxRecDepth 20000 in
theorem B_X12_light_184 {G : xG} {l : Launch} {d : Nat} {P : Int → xMem → Prop} {v1 v4 v5 : Int} {μ : xMem} (h : ((0 ≤ v1 ∧ v1 < 16) ∧ (iR v5 ∧ iR (μ 89 v1) ∧ ((μ 89 v1) ≤ v5 → P 1 μ) ∧ (v5 < (μ 89 v1) → (iR v4 ∧ (v4 = 0 → CI G l d mX12_cellOf [xr G 74, xi v1, xi v5] μ (fun r9 m10 => ((0 ≤ r9 ∧ r9 < 81) ∧ K_X12_light_184 G l (d + 1) P v1 v4 (v5 + 1) (st2 m10 111 r9 (v1 + 1))))) ∧ (v4 ≠ 0 → CI G l d mX12_cellOf [xr G 74, xi v1, xi v5] μ (fun r12 m13 => ((0 ≤ r12 ∧ r12 < 81) ∧ K_X12_light_184 G l (d + 1) P v1 v4 (v5 + 1) (st2 m13 112 r12 (v1 + 1)))))))))) : K_X12_light_184 G l (d + 1) P v1 v4 v5 μ := by
  unfold K_X12_light_184
  refine xr_iload dX12_light_184 rfl ?_
  refine xr_aload_n dX12_light_186 rfl ?_
  refine xr_getR dX12_light_187 fl_X12_53 L_74 rfl ?_
  refine xr_iload_n dX12_light_190 rfl ?_
  obtain ⟨q1, h⟩ := h
  refine xr_iaload' (v := μ 89 v1) dX12_light_191 L_89 rfl (by decide) q1 rfl ?_
  obtain ⟨q2, q3, hT4, hF5⟩ := h
  refine xr_icmp_ge (tgt := 239) dX12_light_192 (by decide) q2 q3 (fun c => ?_) (fun c => ?_)
  · have h := hT4 c
    refine xr_iconst dX12_light_239 ?_
    exact xr_zret dX12_light_240 rfl (x_nz (by decide)).1 ⟨rfl, _, rfl, x_01 (by decide), h⟩
  · have h := hF5 (Int.not_le.mp c)
    refine xr_iload dX12_light_195 rfl ?_
    obtain ⟨q6, hT7, hF8⟩ := h
    refine xr_if_eq (tgt := 218) dX12_light_197 (by decide) q6  (fun c => ?_) (fun c => ?_)
    · have h := hT7 c
      refine xr_aload_n dX12_light_218 rfl ?_
      refine xr_getR dX12_light_219 fl_X12_128 L_74 rfl ?_
      refine xr_aload_n dX12_light_222 rfl ?_
      refine xr_iload_n dX12_light_223 rfl ?_
      refine xr_iload dX12_light_224 rfl ?_
      refine xr_cvI (As := [xi v1, xi v5]) dX12_light_226 mi_X12_cellOf ml_X12_391 se_X12_cellOf L_74 rfl rfl rfl (Nat.le_of_ble_eq_true rfl) h (fun r9 m10 hr9 h => ?_)
      refine xr_iload_n dX12_light_229 rfl ?_
      refine xr_iconst dX12_light_230 ?_
      refine xr_iadd dX12_light_231 ?_
      obtain ⟨q11, h⟩ := h
      refine xr_iastore dX12_light_232 L_111 rfl (by decide) q11 ?_
      refine xr_iinc' (ll' := [some (xr G 74), some (xi v1), none, none, some (xi v4), some (xi (v5 + 1)), none]) dX12_light_233 rfl (by decide) rfl rfl ?_
      refine xr_goto (tgt := 184) dX12_light_236 (by decide) ?_
      exact h
    · have h := hF8 c
      refine xr_aload_n dX12_light_200 rfl ?_
      refine xr_getR dX12_light_201 fl_X12_131 L_74 rfl ?_
      refine xr_aload_n dX12_light_204 rfl ?_
      refine xr_iload_n dX12_light_205 rfl ?_
      refine xr_iload dX12_light_206 rfl ?_
      refine xr_cvI (As := [xi v1, xi v5]) dX12_light_208 mi_X12_cellOf ml_X12_391 se_X12_cellOf L_74 rfl rfl rfl (Nat.le_of_ble_eq_true rfl) h (fun r12 m13 hr12 h => ?_)
      refine xr_iload_n dX12_light_211 rfl ?_
      refine xr_iconst dX12_light_212 ?_
      refine xr_iadd dX12_light_213 ?_
      obtain ⟨q14, h⟩ := h
      refine xr_iastore dX12_light_214 L_112 rfl (by decide) q14 ?_
      refine xr_goto (tgt := 233) dX12_light_215 (by decide) ?_
      refine xr_iinc' (ll' := [some (xr G 74), some (xi v1), none, none, some (xi v4), some (xi (v5 + 1)), none]) dX12_light_233 rfl (by decide) rfl rfl ?_
      refine xr_goto (tgt := 184) dX12_light_236 (by decide) ?_
      exact h
set_option maxRecDepth 20000 in
theorem B_X12_light_117 {G : xG} {l : Launch} {d : Nat} {P : Int → xMem → Prop} {v1 v2 v3 v4 v5 s0 : Int} {μ : xMem} (h : (iR v4 ∧ (v4 = 0 → ((0 ≤ s0 ∧ s0 < 81) ∧ (iR (μ 111 s0) ∧ ((μ 111 s0) ≤ 0 → K_X12_light_80 G l (d + 1) P v1 v2 v3 v4 (v5 + 1) μ) ∧ (0 < (μ 111 s0) → P 0 μ)))) ∧ (v4 ≠ 0 → ((0 ≤ s0 ∧ s0 < 81) ∧ (iR (μ 112 s0) ∧ ((μ 112 s0) ≤ 0 → K_X12_light_80 G l (d + 1) P v1 v2 v3 v4 (v5 + 1) μ) ∧ (0 < (μ 112 s0) → P 0 μ)))))) : K_X12_light_117 G l (d + 1) P v1 v2 v3 v4 v5 s0 μ := by
  unfold K_X12_light_117
  refine xr_istore' (ll' := [some (xr G 74), some (xi v1), some (xi v2), some (xi v3), some (xi v4), some (xi v5), some (xi s0)]) dX12_light_117 (by decide) rfl rfl ?_
  refine xr_iload dX12_light_119 rfl ?_
  obtain ⟨q1, hT2, hF3⟩ := h
  refine xr_if_eq (tgt := 134) dX12_light_121 (by decide) q1  (fun c => ?_) (fun c => ?_)
  · have h := hT2 c
    refine xr_aload_n dX12_light_134 rfl ?_
    refine xr_getR dX12_light_135 fl_X12_128 L_74 rfl ?_
    refine xr_iload dX12_light_138 rfl ?_
    obtain ⟨q4, h⟩ := h
    refine xr_iaload' (v := μ 111 s0) dX12_light_140 L_111 rfl (by decide) q4 rfl ?_
    obtain ⟨q5, hT6, hF7⟩ := h
    refine xr_if_le (tgt := 146) dX12_light_141 (by decide) q5  (fun c => ?_) (fun c => ?_)
    · have h := hT6 c
      refine xr_iinc' (ll' := [some (xr G 74), some (xi v1), some (xi v2), some (xi v3), some (xi v4), some (xi (v5 + 1)), some (xi s0)]) dX12_light_146 rfl (by decide) rfl rfl ?_
      refine xr_goto (tgt := 80) dX12_light_149 (by decide) ?_
      refine xr_wk (ll' := [some (xr G 74), some (xi v1), some (xi v2), some (xi v3), some (xi v4), some (xi (v5 + 1)), none]) ⟨rfl, ⟨rfl, ⟨rfl, ⟨rfl, ⟨rfl, ⟨rfl, trivial⟩⟩⟩⟩⟩⟩ ?_
      exact h
    · have h := hF7 (Int.not_le.mp c)
      refine xr_iconst dX12_light_144 ?_
      exact xr_zret dX12_light_145 rfl (x_nz (by decide)).1 ⟨rfl, _, rfl, x_01 (by decide), h⟩
  · have h := hF3 c
    refine xr_aload_n dX12_light_124 rfl ?_
    refine xr_getR dX12_light_125 fl_X12_131 L_74 rfl ?_
    refine xr_iload dX12_light_128 rfl ?_
    obtain ⟨q8, h⟩ := h
    refine xr_iaload' (v := μ 112 s0) dX12_light_130 L_112 rfl (by decide) q8 rfl ?_
    refine xr_goto (tgt := 141) dX12_light_131 (by decide) ?_
    obtain ⟨q9, hT10, hF11⟩ := h
    refine xr_if_le (tgt := 146) dX12_light_141 (by decide) q9  (fun c => ?_) (fun c => ?_)
    · have h := hT10 c
      refine xr_iinc' (ll' := [some (xr G 74), some (xi v1), some (xi v2), some (xi v3), some (xi v4), some (xi (v5 + 1)), some (xi s0)]) dX12_light_146 rfl (by decide) rfl rfl ?_
      refine xr_goto (tgt := 80) dX12_light_149 (by decide) ?_
      refine xr_wk (ll' := [some (xr G 74), some (xi v1), some (xi v2), some (xi v3), some (xi v4), some (xi (v5 + 1)), none]) ⟨rfl, ⟨rfl, ⟨rfl, ⟨rfl, ⟨rfl, ⟨rfl, trivial⟩⟩⟩⟩⟩⟩ ?_
      exact h
    · have h := hF11 (Int.not_le.mp c)
      refine xr_iconst dX12_light_144 ?_
      exact xr_zret dX12_light_145 rfl (x_nz (by decide)).1 ⟨rfl, _, rfl, x_01 (by decide), h⟩
end Blk34_bX12c
