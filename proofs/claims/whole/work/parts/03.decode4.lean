theorem dX12_wantedBy_65 : decode cX12_wantedBy 65 = .ok (.ireturn, 1) := by decide +kernel
theorem dX12_reason_0 : decode cX12_reason 0 = .ok (.aload_n 0, 1) := by decide +kernel
theorem dX12_reason_1 : decode cX12_reason 1 = .ok (.bipush (-9), 2) := by decide +kernel
theorem dX12_reason_3 : decode cX12_reason 3 = .ok (.putfield 297, 3) := by decide +kernel
theorem dX12_reason_6 : decode cX12_reason 6 = .ok (.aload_n 0, 1) := by decide +kernel
theorem dX12_reason_7 : decode cX12_reason 7 = .ok (.iconst 0, 1) := by decide +kernel
theorem dX12_reason_8 : decode cX12_reason 8 = .ok (.putfield 300, 3) := by decide +kernel
theorem dX12_reason_11 : decode cX12_reason 11 = .ok (.iconst 0, 1) := by decide +kernel
theorem dX12_reason_12 : decode cX12_reason 12 = .ok (.istore_n 1, 1) := by decide +kernel
theorem dX12_reason_13 : decode cX12_reason 13 = .ok (.iload_n 1, 1) := by decide +kernel
theorem dX12_reason_14 : decode cX12_reason 14 = .ok (.bipush 8, 2) := by decide +kernel
theorem dX12_reason_16 : decode cX12_reason 16 = .ok (.if_icmp .ge 21, 3) := by decide +kernel
theorem dX12_reason_19 : decode cX12_reason 19 = .ok (.aload_n 0, 1) := by decide +kernel
theorem dX12_reason_20 : decode cX12_reason 20 = .ok (.getfield 93, 3) := by decide +kernel
theorem dX12_reason_23 : decode cX12_reason 23 = .ok (.iload_n 1, 1) := by decide +kernel
theorem dX12_reason_24 : decode cX12_reason 24 = .ok (.aload_n 0, 1) := by decide +kernel
theorem dX12_reason_25 : decode cX12_reason 25 = .ok (.getfield 25, 3) := by decide +kernel
theorem dX12_reason_28 : decode cX12_reason 28 = .ok (.iload_n 1, 1) := by decide +kernel
theorem dX12_reason_29 : decode cX12_reason 29 = .ok (.iaload, 1) := by decide +kernel
theorem dX12_reason_30 : decode cX12_reason 30 = .ok (.iastore, 1) := by decide +kernel
theorem dX12_reason_31 : decode cX12_reason 31 = .ok (.iinc 1 1, 3) := by decide +kernel
theorem dX12_reason_34 : decode cX12_reason 34 = .ok (.goto (-21), 3) := by decide +kernel
theorem dX12_reason_37 : decode cX12_reason 37 = .ok (.iconst 0, 1) := by decide +kernel
theorem dX12_reason_38 : decode cX12_reason 38 = .ok (.istore_n 1, 1) := by decide +kernel
theorem dX12_reason_39 : decode cX12_reason 39 = .ok (.iload_n 1, 1) := by decide +kernel
theorem dX12_reason_40 : decode cX12_reason 40 = .ok (.aload_n 0, 1) := by decide +kernel
theorem dX12_reason_41 : decode cX12_reason 41 = .ok (.getfield 185, 3) := by decide +kernel
theorem dX12_reason_44 : decode cX12_reason 44 = .ok (.if_icmp .ge 165, 3) := by decide +kernel
theorem dX12_reason_47 : decode cX12_reason 47 = .ok (.aload_n 0, 1) := by decide +kernel
theorem dX12_reason_48 : decode cX12_reason 48 = .ok (.getfield 41, 3) := by decide +kernel
theorem dX12_reason_51 : decode cX12_reason 51 = .ok (.iload_n 1, 1) := by decide +kernel
theorem dX12_reason_52 : decode cX12_reason 52 = .ok (.iaload, 1) := by decide +kernel
theorem dX12_reason_53 : decode cX12_reason 53 = .ok (.istore_n 2, 1) := by decide +kernel
theorem dX12_reason_54 : decode cX12_reason 54 = .ok (.aload_n 0, 1) := by decide +kernel
theorem dX12_reason_55 : decode cX12_reason 55 = .ok (.iload_n 1, 1) := by decide +kernel
theorem dX12_reason_56 : decode cX12_reason 56 = .ok (.putfield 303, 3) := by decide +kernel
theorem dX12_reason_59 : decode cX12_reason 59 = .ok (.aload_n 0, 1) := by decide +kernel
theorem dX12_reason_60 : decode cX12_reason 60 = .ok (.getfield 25, 3) := by decide +kernel
theorem dX12_reason_63 : decode cX12_reason 63 = .ok (.bipush 8, 2) := by decide +kernel
theorem dX12_reason_65 : decode cX12_reason 65 = .ok (.iaload, 1) := by decide +kernel
theorem dX12_reason_66 : decode cX12_reason 66 = .ok (.iload_n 2, 1) := by decide +kernel
theorem dX12_reason_67 : decode cX12_reason 67 = .ok (.invokestatic 149, 3) := by decide +kernel
theorem dX12_reason_70 : decode cX12_reason 70 = .ok (.ifCond .eq 5, 3) := by decide +kernel
theorem dX12_reason_73 : decode cX12_reason 73 = .ok (.iconst 1, 1) := by decide +kernel
theorem dX12_reason_74 : decode cX12_reason 74 = .ok (.ireturn, 1) := by decide +kernel
theorem dX12_reason_75 : decode cX12_reason 75 = .ok (.iload_n 1, 1) := by decide +kernel
theorem dX12_reason_76 : decode cX12_reason 76 = .ok (.ifCond .ne 13, 3) := by decide +kernel
theorem dX12_reason_79 : decode cX12_reason 79 = .ok (.aload_n 0, 1) := by decide +kernel
theorem dX12_reason_80 : decode cX12_reason 80 = .ok (.getfield 25, 3) := by decide +kernel
theorem dX12_reason_83 : decode cX12_reason 83 = .ok (.bipush 19, 2) := by decide +kernel
theorem dX12_reason_85 : decode cX12_reason 85 = .ok (.iaload, 1) := by decide +kernel
theorem dX12_reason_86 : decode cX12_reason 86 = .ok (.goto 24, 3) := by decide +kernel
theorem dX12_reason_89 : decode cX12_reason 89 = .ok (.aload_n 0, 1) := by decide +kernel
theorem dX12_reason_90 : decode cX12_reason 90 = .ok (.getfield 25, 3) := by decide +kernel
theorem dX12_reason_93 : decode cX12_reason 93 = .ok (.bipush 21, 2) := by decide +kernel
theorem dX12_reason_95 : decode cX12_reason 95 = .ok (.aload_n 0, 1) := by decide +kernel
theorem dX12_reason_96 : decode cX12_reason 96 = .ok (.getfield 19, 3) := by decide +kernel
theorem dX12_reason_99 : decode cX12_reason 99 = .ok (.aload_n 0, 1) := by decide +kernel
theorem dX12_reason_100 : decode cX12_reason 100 = .ok (.getfield 41, 3) := by decide +kernel
theorem dX12_reason_103 : decode cX12_reason 103 = .ok (.iload_n 1, 1) := by decide +kernel
theorem dX12_reason_104 : decode cX12_reason 104 = .ok (.iconst 1, 1) := by decide +kernel
theorem dX12_reason_105 : decode cX12_reason 105 = .ok (.isub, 1) := by decide +kernel
theorem dX12_reason_106 : decode cX12_reason 106 = .ok (.iaload, 1) := by decide +kernel
theorem dX12_reason_107 : decode cX12_reason 107 = .ok (.iaload, 1) := by decide +kernel
theorem dX12_reason_108 : decode cX12_reason 108 = .ok (.iadd, 1) := by decide +kernel
theorem dX12_reason_109 : decode cX12_reason 109 = .ok (.iaload, 1) := by decide +kernel
theorem dX12_reason_110 : decode cX12_reason 110 = .ok (.aload_n 0, 1) := by decide +kernel
theorem dX12_reason_111 : decode cX12_reason 111 = .ok (.getfield 19, 3) := by decide +kernel
theorem dX12_reason_114 : decode cX12_reason 114 = .ok (.iload_n 2, 1) := by decide +kernel
theorem dX12_reason_115 : decode cX12_reason 115 = .ok (.iaload, 1) := by decide +kernel
theorem dX12_reason_116 : decode cX12_reason 116 = .ok (.invokestatic 149, 3) := by decide +kernel
theorem dX12_reason_119 : decode cX12_reason 119 = .ok (.ifCond .ne 5, 3) := by decide +kernel
theorem dX12_reason_122 : decode cX12_reason 122 = .ok (.iconst 2, 1) := by decide +kernel
theorem dX12_reason_123 : decode cX12_reason 123 = .ok (.ireturn, 1) := by decide +kernel
theorem dX12_reason_124 : decode cX12_reason 124 = .ok (.aload_n 0, 1) := by decide +kernel
theorem dX12_reason_125 : decode cX12_reason 125 = .ok (.iload_n 2, 1) := by decide +kernel
theorem dX12_reason_126 : decode cX12_reason 126 = .ok (.invokevirtual 306, 3) := by decide +kernel
theorem dX12_reason_129 : decode cX12_reason 129 = .ok (.istore_n 3, 1) := by decide +kernel
theorem dX12_reason_130 : decode cX12_reason 130 = .ok (.iload_n 3, 1) := by decide +kernel
theorem dX12_reason_131 : decode cX12_reason 131 = .ok (.bipush (-9), 2) := by decide +kernel
theorem dX12_reason_133 : decode cX12_reason 133 = .ok (.if_icmp .eq 32, 3) := by decide +kernel
theorem dX12_reason_136 : decode cX12_reason 136 = .ok (.aload_n 0, 1) := by decide +kernel
theorem dX12_reason_137 : decode cX12_reason 137 = .ok (.iload_n 3, 1) := by decide +kernel
theorem dX12_reason_138 : decode cX12_reason 138 = .ok (.putfield 297, 3) := by decide +kernel
theorem dX12_reason_141 : decode cX12_reason 141 = .ok (.aload_n 0, 1) := by decide +kernel
theorem dX12_reason_142 : decode cX12_reason 142 = .ok (.aload_n 0, 1) := by decide +kernel
theorem dX12_reason_143 : decode cX12_reason 143 = .ok (.getfield 22, 3) := by decide +kernel
theorem dX12_reason_146 : decode cX12_reason 146 = .ok (.bipush 8, 2) := by decide +kernel
theorem dX12_reason_148 : decode cX12_reason 148 = .ok (.iload_n 2, 1) := by decide +kernel
theorem dX12_reason_149 : decode cX12_reason 149 = .ok (.imul, 1) := by decide +kernel
theorem dX12_reason_150 : decode cX12_reason 150 = .ok (.iload_n 3, 1) := by decide +kernel
theorem dX12_reason_151 : decode cX12_reason 151 = .ok (.iadd, 1) := by decide +kernel
theorem dX12_reason_152 : decode cX12_reason 152 = .ok (.iaload, 1) := by decide +kernel
theorem dX12_reason_153 : decode cX12_reason 153 = .ok (.aload_n 0, 1) := by decide +kernel
theorem dX12_reason_154 : decode cX12_reason 154 = .ok (.getfield 93, 3) := by decide +kernel
theorem dX12_reason_157 : decode cX12_reason 157 = .ok (.iload_n 3, 1) := by decide +kernel
theorem dX12_reason_158 : decode cX12_reason 158 = .ok (.iaload, 1) := by decide +kernel
theorem dX12_reason_159 : decode cX12_reason 159 = .ok (.isub, 1) := by decide +kernel
theorem dX12_reason_160 : decode cX12_reason 160 = .ok (.putfield 300, 3) := by decide +kernel
theorem dX12_reason_163 : decode cX12_reason 163 = .ok (.iconst 3, 1) := by decide +kernel
theorem dX12_reason_164 : decode cX12_reason 164 = .ok (.ireturn, 1) := by decide +kernel
theorem dX12_reason_165 : decode cX12_reason 165 = .ok (.iconst 0, 1) := by decide +kernel
theorem dX12_reason_166 : decode cX12_reason 166 = .ok (.istore 4, 2) := by decide +kernel
theorem dX12_reason_168 : decode cX12_reason 168 = .ok (.iload 4, 2) := by decide +kernel
theorem dX12_reason_170 : decode cX12_reason 170 = .ok (.bipush 8, 2) := by decide +kernel
theorem dX12_reason_172 : decode cX12_reason 172 = .ok (.if_icmp .ge 31, 3) := by decide +kernel
theorem dX12_reason_175 : decode cX12_reason 175 = .ok (.aload_n 0, 1) := by decide +kernel
theorem dX12_reason_176 : decode cX12_reason 176 = .ok (.getfield 93, 3) := by decide +kernel
theorem dX12_reason_179 : decode cX12_reason 179 = .ok (.iload 4, 2) := by decide +kernel
theorem dX12_reason_181 : decode cX12_reason 181 = .ok (.dup2, 1) := by decide +kernel
theorem dX12_reason_182 : decode cX12_reason 182 = .ok (.iaload, 1) := by decide +kernel
theorem dX12_reason_183 : decode cX12_reason 183 = .ok (.aload_n 0, 1) := by decide +kernel
theorem dX12_reason_184 : decode cX12_reason 184 = .ok (.getfield 22, 3) := by decide +kernel
theorem dX12_reason_187 : decode cX12_reason 187 = .ok (.bipush 8, 2) := by decide +kernel
theorem dX12_reason_189 : decode cX12_reason 189 = .ok (.iload_n 2, 1) := by decide +kernel
theorem dX12_reason_190 : decode cX12_reason 190 = .ok (.imul, 1) := by decide +kernel
theorem dX12_reason_191 : decode cX12_reason 191 = .ok (.iload 4, 2) := by decide +kernel
theorem dX12_reason_193 : decode cX12_reason 193 = .ok (.iadd, 1) := by decide +kernel
theorem dX12_reason_194 : decode cX12_reason 194 = .ok (.iaload, 1) := by decide +kernel
theorem dX12_reason_195 : decode cX12_reason 195 = .ok (.isub, 1) := by decide +kernel
theorem dX12_reason_196 : decode cX12_reason 196 = .ok (.iastore, 1) := by decide +kernel
theorem dX12_reason_197 : decode cX12_reason 197 = .ok (.iinc 4 1, 3) := by decide +kernel
theorem dX12_reason_200 : decode cX12_reason 200 = .ok (.goto (-32), 3) := by decide +kernel
theorem dX12_reason_203 : decode cX12_reason 203 = .ok (.iinc 1 1, 3) := by decide +kernel
theorem dX12_reason_206 : decode cX12_reason 206 = .ok (.goto (-167), 3) := by decide +kernel
theorem dX12_reason_209 : decode cX12_reason 209 = .ok (.aload_n 0, 1) := by decide +kernel
theorem dX12_reason_210 : decode cX12_reason 210 = .ok (.aload_n 0, 1) := by decide +kernel
theorem dX12_reason_211 : decode cX12_reason 211 = .ok (.getfield 185, 3) := by decide +kernel
theorem dX12_reason_214 : decode cX12_reason 214 = .ok (.putfield 303, 3) := by decide +kernel
theorem dX12_reason_217 : decode cX12_reason 217 = .ok (.aload_n 0, 1) := by decide +kernel
theorem dX12_reason_218 : decode cX12_reason 218 = .ok (.getfield 185, 3) := by decide +kernel
theorem dX12_reason_221 : decode cX12_reason 221 = .ok (.ifCond .ne 6, 3) := by decide +kernel
theorem dX12_reason_224 : decode cX12_reason 224 = .ok (.bipush 6, 2) := by decide +kernel
theorem dX12_reason_226 : decode cX12_reason 226 = .ok (.ireturn, 1) := by decide +kernel
theorem dX12_reason_227 : decode cX12_reason 227 = .ok (.iconst 0, 1) := by decide +kernel
theorem dX12_reason_228 : decode cX12_reason 228 = .ok (.istore_n 1, 1) := by decide +kernel
theorem dX12_reason_229 : decode cX12_reason 229 = .ok (.iload_n 1, 1) := by decide +kernel
theorem dX12_reason_230 : decode cX12_reason 230 = .ok (.bipush 8, 2) := by decide +kernel
theorem dX12_reason_232 : decode cX12_reason 232 = .ok (.if_icmp .ge 35, 3) := by decide +kernel
theorem dX12_reason_235 : decode cX12_reason 235 = .ok (.aload_n 0, 1) := by decide +kernel
theorem dX12_reason_236 : decode cX12_reason 236 = .ok (.getfield 93, 3) := by decide +kernel
theorem dX12_reason_239 : decode cX12_reason 239 = .ok (.iload_n 1, 1) := by decide +kernel
theorem dX12_reason_240 : decode cX12_reason 240 = .ok (.iaload, 1) := by decide +kernel
theorem dX12_reason_241 : decode cX12_reason 241 = .ok (.ifCond .le 20, 3) := by decide +kernel
theorem dX12_reason_244 : decode cX12_reason 244 = .ok (.aload_n 0, 1) := by decide +kernel
theorem dX12_reason_245 : decode cX12_reason 245 = .ok (.iload_n 1, 1) := by decide +kernel
theorem dX12_reason_246 : decode cX12_reason 246 = .ok (.putfield 297, 3) := by decide +kernel
theorem dX12_reason_249 : decode cX12_reason 249 = .ok (.aload_n 0, 1) := by decide +kernel
theorem dX12_reason_250 : decode cX12_reason 250 = .ok (.aload_n 0, 1) := by decide +kernel
theorem dX12_reason_251 : decode cX12_reason 251 = .ok (.getfield 93, 3) := by decide +kernel
theorem dX12_reason_254 : decode cX12_reason 254 = .ok (.iload_n 1, 1) := by decide +kernel
theorem dX12_reason_255 : decode cX12_reason 255 = .ok (.iaload, 1) := by decide +kernel
theorem dX12_reason_256 : decode cX12_reason 256 = .ok (.putfield 300, 3) := by decide +kernel
theorem dX12_reason_259 : decode cX12_reason 259 = .ok (.iconst 4, 1) := by decide +kernel
theorem dX12_reason_260 : decode cX12_reason 260 = .ok (.ireturn, 1) := by decide +kernel
theorem dX12_reason_261 : decode cX12_reason 261 = .ok (.iinc 1 1, 3) := by decide +kernel
theorem dX12_reason_264 : decode cX12_reason 264 = .ok (.goto (-35), 3) := by decide +kernel
theorem dX12_reason_267 : decode cX12_reason 267 = .ok (.aload_n 0, 1) := by decide +kernel
theorem dX12_reason_268 : decode cX12_reason 268 = .ok (.getfield 25, 3) := by decide +kernel
theorem dX12_reason_271 : decode cX12_reason 271 = .ok (.bipush 20, 2) := by decide +kernel
theorem dX12_reason_273 : decode cX12_reason 273 = .ok (.iaload, 1) := by decide +kernel
theorem dX12_reason_274 : decode cX12_reason 274 = .ok (.aload_n 0, 1) := by decide +kernel
theorem dX12_reason_275 : decode cX12_reason 275 = .ok (.getfield 19, 3) := by decide +kernel
theorem dX12_reason_278 : decode cX12_reason 278 = .ok (.aload_n 0, 1) := by decide +kernel
theorem dX12_reason_279 : decode cX12_reason 279 = .ok (.getfield 41, 3) := by decide +kernel
theorem dX12_reason_282 : decode cX12_reason 282 = .ok (.aload_n 0, 1) := by decide +kernel
theorem dX12_reason_283 : decode cX12_reason 283 = .ok (.getfield 185, 3) := by decide +kernel
theorem dX12_reason_286 : decode cX12_reason 286 = .ok (.iconst 1, 1) := by decide +kernel
theorem dX12_reason_287 : decode cX12_reason 287 = .ok (.isub, 1) := by decide +kernel
theorem dX12_reason_288 : decode cX12_reason 288 = .ok (.iaload, 1) := by decide +kernel
theorem dX12_reason_289 : decode cX12_reason 289 = .ok (.iaload, 1) := by decide +kernel
theorem dX12_reason_290 : decode cX12_reason 290 = .ok (.invokestatic 149, 3) := by decide +kernel
theorem dX12_reason_293 : decode cX12_reason 293 = .ok (.ifCond .ne 5, 3) := by decide +kernel
theorem dX12_reason_296 : decode cX12_reason 296 = .ok (.iconst 5, 1) := by decide +kernel
theorem dX12_reason_297 : decode cX12_reason 297 = .ok (.ireturn, 1) := by decide +kernel
theorem dX12_reason_298 : decode cX12_reason 298 = .ok (.aload_n 0, 1) := by decide +kernel
theorem dX12_reason_299 : decode cX12_reason 299 = .ok (.bipush (-9), 2) := by decide +kernel
theorem dX12_reason_301 : decode cX12_reason 301 = .ok (.putfield 303, 3) := by decide +kernel
theorem dX12_reason_304 : decode cX12_reason 304 = .ok (.iconst 0, 1) := by decide +kernel
theorem dX12_reason_305 : decode cX12_reason 305 = .ok (.ireturn, 1) := by decide +kernel
theorem dX12_why_0 : decode cX12_why 0 = .ok (.iload_n 1, 1) := by decide +kernel
theorem dX12_why_1 : decode cX12_why 1 = .ok (.i2l, 1) := by decide +kernel
theorem dX12_why_2 : decode cX12_why 2 = .ok (.lconst 0, 1) := by decide +kernel
theorem dX12_why_3 : decode cX12_why 3 = .ok (.ldc2_w 113, 3) := by decide +kernel
theorem dX12_why_6 : decode cX12_why 6 = .ok (.invokestatic 107, 3) := by decide +kernel
theorem dX12_why_9 : decode cX12_why 9 = .ok (.ifCond .ne 6, 3) := by decide +kernel
theorem dX12_why_12 : decode cX12_why 12 = .ok (.bipush (-2), 2) := by decide +kernel
theorem dX12_why_14 : decode cX12_why 14 = .ok (.ireturn, 1) := by decide +kernel
theorem dX12_why_15 : decode cX12_why 15 = .ok (.aload_n 0, 1) := by decide +kernel
theorem dX12_why_16 : decode cX12_why 16 = .ok (.invokevirtual 309, 3) := by decide +kernel
theorem dX12_why_19 : decode cX12_why 19 = .ok (.istore_n 2, 1) := by decide +kernel
theorem dX12_why_20 : decode cX12_why 20 = .ok (.iload_n 1, 1) := by decide +kernel
theorem dX12_why_21 : decode cX12_why 21 = .ok (.ifCond .ne 7, 3) := by decide +kernel
theorem dX12_why_24 : decode cX12_why 24 = .ok (.iload_n 2, 1) := by decide +kernel
theorem dX12_why_25 : decode cX12_why 25 = .ok (.goto 31, 3) := by decide +kernel
theorem dX12_why_28 : decode cX12_why 28 = .ok (.iload_n 1, 1) := by decide +kernel
theorem dX12_why_29 : decode cX12_why 29 = .ok (.iconst 1, 1) := by decide +kernel
theorem dX12_why_30 : decode cX12_why 30 = .ok (.if_icmp .ne 10, 3) := by decide +kernel
theorem dX12_why_33 : decode cX12_why 33 = .ok (.aload_n 0, 1) := by decide +kernel
theorem dX12_why_34 : decode cX12_why 34 = .ok (.getfield 303, 3) := by decide +kernel
theorem dX12_why_37 : decode cX12_why 37 = .ok (.goto 19, 3) := by decide +kernel
theorem dX12_why_40 : decode cX12_why 40 = .ok (.iload_n 1, 1) := by decide +kernel
theorem dX12_why_41 : decode cX12_why 41 = .ok (.iconst 2, 1) := by decide +kernel
theorem dX12_why_42 : decode cX12_why 42 = .ok (.if_icmp .ne 10, 3) := by decide +kernel
theorem dX12_why_45 : decode cX12_why 45 = .ok (.aload_n 0, 1) := by decide +kernel
theorem dX12_why_46 : decode cX12_why 46 = .ok (.getfield 297, 3) := by decide +kernel
theorem dX12_why_49 : decode cX12_why 49 = .ok (.goto 7, 3) := by decide +kernel
theorem dX12_why_52 : decode cX12_why 52 = .ok (.aload_n 0, 1) := by decide +kernel
theorem dX12_why_53 : decode cX12_why 53 = .ok (.getfield 300, 3) := by decide +kernel
theorem dX12_why_56 : decode cX12_why 56 = .ok (.ireturn, 1) := by decide +kernel
theorem dX12_number_0 : decode cX12_number 0 = .ok (.aload_n 0, 1) := by decide +kernel
theorem dX12_number_1 : decode cX12_number 1 = .ok (.invokevirtual 309, 3) := by decide +kernel
theorem dX12_number_4 : decode cX12_number 4 = .ok (.ifCond .eq 7, 3) := by decide +kernel
theorem dX12_number_7 : decode cX12_number 7 = .ok (.ldc2_w 312, 3) := by decide +kernel
theorem dX12_number_10 : decode cX12_number 10 = .ok (.lreturn, 1) := by decide +kernel
theorem dX12_number_11 : decode cX12_number 11 = .ok (.aload_n 0, 1) := by decide +kernel
theorem dX12_number_12 : decode cX12_number 12 = .ok (.aload_n 0, 1) := by decide +kernel
theorem dX12_number_13 : decode cX12_number 13 = .ok (.getfield 25, 3) := by decide +kernel
theorem dX12_number_16 : decode cX12_number 16 = .ok (.invokevirtual 272, 3) := by decide +kernel
theorem dX12_number_19 : decode cX12_number 19 = .ok (.pop2, 1) := by decide +kernel
theorem dX12_number_20 : decode cX12_number 20 = .ok (.lconst 0, 1) := by decide +kernel
theorem dX12_number_21 : decode cX12_number 21 = .ok (.lstore_n 1, 1) := by decide +kernel
theorem dX12_number_22 : decode cX12_number 22 = .ok (.aload_n 0, 1) := by decide +kernel
theorem dX12_number_23 : decode cX12_number 23 = .ok (.getfield 188, 3) := by decide +kernel
theorem dX12_number_26 : decode cX12_number 26 = .ok (.istore_n 3, 1) := by decide +kernel
theorem dX12_number_27 : decode cX12_number 27 = .ok (.iconst 4, 1) := by decide +kernel
theorem dX12_number_28 : decode cX12_number 28 = .ok (.istore 4, 2) := by decide +kernel
theorem dX12_number_30 : decode cX12_number 30 = .ok (.iconst 0, 1) := by decide +kernel
theorem dX12_number_31 : decode cX12_number 31 = .ok (.istore 5, 2) := by decide +kernel
theorem dX12_number_33 : decode cX12_number 33 = .ok (.iload 5, 2) := by decide +kernel
theorem dX12_number_35 : decode cX12_number 35 = .ok (.aload_n 0, 1) := by decide +kernel
theorem dX12_number_36 : decode cX12_number 36 = .ok (.getfield 185, 3) := by decide +kernel
theorem dX12_number_39 : decode cX12_number 39 = .ok (.if_icmp .ge 89, 3) := by decide +kernel
theorem dX12_number_42 : decode cX12_number 42 = .ok (.iconst 0, 1) := by decide +kernel
theorem dX12_number_43 : decode cX12_number 43 = .ok (.istore 6, 2) := by decide +kernel
theorem dX12_number_45 : decode cX12_number 45 = .ok (.iload 6, 2) := by decide +kernel
theorem dX12_number_47 : decode cX12_number 47 = .ok (.aload_n 0, 1) := by decide +kernel
theorem dX12_number_48 : decode cX12_number 48 = .ok (.getfield 41, 3) := by decide +kernel
theorem dX12_number_51 : decode cX12_number 51 = .ok (.iload 5, 2) := by decide +kernel
theorem dX12_number_53 : decode cX12_number 53 = .ok (.iaload, 1) := by decide +kernel
theorem dX12_number_54 : decode cX12_number 54 = .ok (.if_icmp .ge 39, 3) := by decide +kernel
theorem dX12_number_57 : decode cX12_number 57 = .ok (.lload_n 1, 1) := by decide +kernel
theorem dX12_number_58 : decode cX12_number 58 = .ok (.aload_n 0, 1) := by decide +kernel
theorem dX12_number_59 : decode cX12_number 59 = .ok (.iload_n 3, 1) := by decide +kernel
theorem dX12_number_60 : decode cX12_number 60 = .ok (.iload 4, 2) := by decide +kernel
theorem dX12_number_62 : decode cX12_number 62 = .ok (.iload 6, 2) := by decide +kernel
theorem dX12_number_64 : decode cX12_number 64 = .ok (.invokevirtual 194, 3) := by decide +kernel
theorem dX12_number_67 : decode cX12_number 67 = .ok (.ifCond .eq 17, 3) := by decide +kernel
theorem dX12_number_70 : decode cX12_number 70 = .ok (.aload_n 0, 1) := by decide +kernel
theorem dX12_number_71 : decode cX12_number 71 = .ok (.aload_n 0, 1) := by decide +kernel
theorem dX12_number_72 : decode cX12_number 72 = .ok (.getfield 74, 3) := by decide +kernel
theorem dX12_number_75 : decode cX12_number 75 = .ok (.iload_n 3, 1) := by decide +kernel
theorem dX12_number_76 : decode cX12_number 76 = .ok (.iload 6, 2) := by decide +kernel
theorem dX12_number_78 : decode cX12_number 78 = .ok (.invokevirtual 198, 3) := by decide +kernel
theorem dX12_number_81 : decode cX12_number 81 = .ok (.goto 4, 3) := by decide +kernel
theorem dX12_number_84 : decode cX12_number 84 = .ok (.lconst 0, 1) := by decide +kernel
theorem dX12_number_85 : decode cX12_number 85 = .ok (.ladd, 1) := by decide +kernel
theorem dX12_number_86 : decode cX12_number 86 = .ok (.lstore_n 1, 1) := by decide +kernel
theorem dX12_number_87 : decode cX12_number 87 = .ok (.iinc 6 1, 3) := by decide +kernel
theorem dX12_number_90 : decode cX12_number 90 = .ok (.goto (-45), 3) := by decide +kernel
theorem dX12_number_93 : decode cX12_number 93 = .ok (.iload_n 3, 1) := by decide +kernel
theorem dX12_number_94 : decode cX12_number 94 = .ok (.aload_n 0, 1) := by decide +kernel
theorem dX12_number_95 : decode cX12_number 95 = .ok (.getfield 71, 3) := by decide +kernel
theorem dX12_number_98 : decode cX12_number 98 = .ok (.aload_n 0, 1) := by decide +kernel
theorem dX12_number_99 : decode cX12_number 99 = .ok (.getfield 41, 3) := by decide +kernel
theorem dX12_number_102 : decode cX12_number 102 = .ok (.iload 5, 2) := by decide +kernel
theorem dX12_number_104 : decode cX12_number 104 = .ok (.iaload, 1) := by decide +kernel
theorem dX12_number_105 : decode cX12_number 105 = .ok (.iaload, 1) := by decide +kernel
theorem dX12_number_106 : decode cX12_number 106 = .ok (.isub, 1) := by decide +kernel
theorem dX12_number_107 : decode cX12_number 107 = .ok (.istore_n 3, 1) := by decide +kernel
theorem dX12_number_108 : decode cX12_number 108 = .ok (.aload_n 0, 1) := by decide +kernel
theorem dX12_number_109 : decode cX12_number 109 = .ok (.getfield 19, 3) := by decide +kernel
theorem dX12_number_112 : decode cX12_number 112 = .ok (.aload_n 0, 1) := by decide +kernel
theorem dX12_number_113 : decode cX12_number 113 = .ok (.getfield 41, 3) := by decide +kernel
theorem dX12_number_116 : decode cX12_number 116 = .ok (.iload 5, 2) := by decide +kernel
theorem dX12_number_118 : decode cX12_number 118 = .ok (.iaload, 1) := by decide +kernel
theorem dX12_number_119 : decode cX12_number 119 = .ok (.iaload, 1) := by decide +kernel
theorem dX12_number_120 : decode cX12_number 120 = .ok (.istore 4, 2) := by decide +kernel
theorem dX12_number_122 : decode cX12_number 122 = .ok (.iinc 5 1, 3) := by decide +kernel
theorem dX12_number_125 : decode cX12_number 125 = .ok (.goto (-92), 3) := by decide +kernel
theorem dX12_number_128 : decode cX12_number 128 = .ok (.lload_n 1, 1) := by decide +kernel
theorem dX12_number_129 : decode cX12_number 129 = .ok (.lreturn, 1) := by decide +kernel
theorem dX12_nearly_0 : decode cX12_nearly 0 = .ok (.iload_n 1, 1) := by decide +kernel
theorem dX12_nearly_1 : decode cX12_nearly 1 = .ok (.i2l, 1) := by decide +kernel
theorem dX12_nearly_2 : decode cX12_nearly 2 = .ok (.lconst 0, 1) := by decide +kernel
theorem dX12_nearly_3 : decode cX12_nearly 3 = .ok (.lconst 1, 1) := by decide +kernel
theorem dX12_nearly_4 : decode cX12_nearly 4 = .ok (.invokestatic 107, 3) := by decide +kernel
theorem dX12_nearly_7 : decode cX12_nearly 7 = .ok (.ifCond .ne 6, 3) := by decide +kernel
theorem dX12_nearly_10 : decode cX12_nearly 10 = .ok (.bipush (-2), 2) := by decide +kernel
theorem dX12_nearly_12 : decode cX12_nearly 12 = .ok (.ireturn, 1) := by decide +kernel
theorem dX12_nearly_13 : decode cX12_nearly 13 = .ok (.aload_n 0, 1) := by decide +kernel
theorem dX12_nearly_14 : decode cX12_nearly 14 = .ok (.getfield 25, 3) := by decide +kernel
theorem dX12_nearly_17 : decode cX12_nearly 17 = .ok (.aload_n 0, 1) := by decide +kernel
theorem dX12_nearly_18 : decode cX12_nearly 18 = .ok (.getfield 28, 3) := by decide +kernel
theorem dX12_nearly_21 : decode cX12_nearly 21 = .ok (.invokestatic 178, 3) := by decide +kernel
theorem dX12_nearly_24 : decode cX12_nearly 24 = .ok (.iconst 0, 1) := by decide +kernel
theorem dX12_nearly_25 : decode cX12_nearly 25 = .ok (.istore_n 2, 1) := by decide +kernel
theorem dX12_nearly_26 : decode cX12_nearly 26 = .ok (.iconst 0, 1) := by decide +kernel
theorem dX12_nearly_27 : decode cX12_nearly 27 = .ok (.istore_n 3, 1) := by decide +kernel
theorem dX12_nearly_28 : decode cX12_nearly 28 = .ok (.iload_n 3, 1) := by decide +kernel
theorem dX12_nearly_29 : decode cX12_nearly 29 = .ok (.bipush 8, 2) := by decide +kernel
theorem dX12_nearly_31 : decode cX12_nearly 31 = .ok (.if_icmp .ge 74, 3) := by decide +kernel
theorem dX12_nearly_34 : decode cX12_nearly 34 = .ok (.iload_n 1, 1) := by decide +kernel
theorem dX12_nearly_35 : decode cX12_nearly 35 = .ok (.ifCond .ne 7, 3) := by decide +kernel
theorem dX12_nearly_38 : decode cX12_nearly 38 = .ok (.iconst 1, 1) := by decide +kernel
theorem dX12_nearly_39 : decode cX12_nearly 39 = .ok (.goto 4, 3) := by decide +kernel
theorem dX12_nearly_42 : decode cX12_nearly 42 = .ok (.iconst (-1), 1) := by decide +kernel
theorem dX12_nearly_43 : decode cX12_nearly 43 = .ok (.istore 4, 2) := by decide +kernel
theorem dX12_nearly_45 : decode cX12_nearly 45 = .ok (.aload_n 0, 1) := by decide +kernel
theorem dX12_nearly_46 : decode cX12_nearly 46 = .ok (.getfield 28, 3) := by decide +kernel
theorem dX12_nearly_49 : decode cX12_nearly 49 = .ok (.iload_n 3, 1) := by decide +kernel
theorem dX12_nearly_50 : decode cX12_nearly 50 = .ok (.dup2, 1) := by decide +kernel
theorem dX12_nearly_51 : decode cX12_nearly 51 = .ok (.iaload, 1) := by decide +kernel
theorem dX12_nearly_52 : decode cX12_nearly 52 = .ok (.iload 4, 2) := by decide +kernel
theorem dX12_nearly_54 : decode cX12_nearly 54 = .ok (.iadd, 1) := by decide +kernel
theorem dX12_nearly_55 : decode cX12_nearly 55 = .ok (.iastore, 1) := by decide +kernel
theorem dX12_nearly_56 : decode cX12_nearly 56 = .ok (.iload_n 2, 1) := by decide +kernel
theorem dX12_nearly_57 : decode cX12_nearly 57 = .ok (.aload_n 0, 1) := by decide +kernel
theorem dX12_nearly_58 : decode cX12_nearly 58 = .ok (.getfield 28, 3) := by decide +kernel
theorem dX12_nearly_61 : decode cX12_nearly 61 = .ok (.iload_n 3, 1) := by decide +kernel
theorem dX12_nearly_62 : decode cX12_nearly 62 = .ok (.iaload, 1) := by decide +kernel
theorem dX12_nearly_63 : decode cX12_nearly 63 = .ok (.ifCond .lt 22, 3) := by decide +kernel
theorem dX12_nearly_66 : decode cX12_nearly 66 = .ok (.aload_n 0, 1) := by decide +kernel
theorem dX12_nearly_67 : decode cX12_nearly 67 = .ok (.aload_n 0, 1) := by decide +kernel
theorem dX12_nearly_68 : decode cX12_nearly 68 = .ok (.getfield 28, 3) := by decide +kernel
theorem dX12_nearly_71 : decode cX12_nearly 71 = .ok (.invokevirtual 272, 3) := by decide +kernel
theorem dX12_nearly_74 : decode cX12_nearly 74 = .ok (.lconst 0, 1) := by decide +kernel
theorem dX12_nearly_75 : decode cX12_nearly 75 = .ok (.lcmp, 1) := by decide +kernel
theorem dX12_nearly_76 : decode cX12_nearly 76 = .ok (.ifCond .le 9, 3) := by decide +kernel
theorem dX12_nearly_79 : decode cX12_nearly 79 = .ok (.iconst 1, 1) := by decide +kernel
theorem dX12_nearly_80 : decode cX12_nearly 80 = .ok (.iload_n 3, 1) := by decide +kernel
theorem dX12_nearly_81 : decode cX12_nearly 81 = .ok (.ishl, 1) := by decide +kernel
theorem dX12_nearly_82 : decode cX12_nearly 82 = .ok (.goto 4, 3) := by decide +kernel
theorem dX12_nearly_85 : decode cX12_nearly 85 = .ok (.iconst 0, 1) := by decide +kernel
theorem dX12_nearly_86 : decode cX12_nearly 86 = .ok (.ior, 1) := by decide +kernel
theorem dX12_nearly_87 : decode cX12_nearly 87 = .ok (.istore_n 2, 1) := by decide +kernel
theorem dX12_nearly_88 : decode cX12_nearly 88 = .ok (.aload_n 0, 1) := by decide +kernel
theorem dX12_nearly_89 : decode cX12_nearly 89 = .ok (.getfield 28, 3) := by decide +kernel
theorem dX12_nearly_92 : decode cX12_nearly 92 = .ok (.iload_n 3, 1) := by decide +kernel
theorem dX12_nearly_93 : decode cX12_nearly 93 = .ok (.dup2, 1) := by decide +kernel
theorem dX12_nearly_94 : decode cX12_nearly 94 = .ok (.iaload, 1) := by decide +kernel
theorem dX12_nearly_95 : decode cX12_nearly 95 = .ok (.iload 4, 2) := by decide +kernel
theorem dX12_nearly_97 : decode cX12_nearly 97 = .ok (.isub, 1) := by decide +kernel
theorem dX12_nearly_98 : decode cX12_nearly 98 = .ok (.iastore, 1) := by decide +kernel
theorem dX12_nearly_99 : decode cX12_nearly 99 = .ok (.iinc 3 1, 3) := by decide +kernel
theorem dX12_nearly_102 : decode cX12_nearly 102 = .ok (.goto (-74), 3) := by decide +kernel
theorem dX12_nearly_105 : decode cX12_nearly 105 = .ok (.iload_n 2, 1) := by decide +kernel
theorem dX12_nearly_106 : decode cX12_nearly 106 = .ok (.ireturn, 1) := by decide +kernel
theorem dX12_judged_0 : decode cX12_judged 0 = .ok (.iload_n 1, 1) := by decide +kernel
theorem dX12_judged_1 : decode cX12_judged 1 = .ok (.tableswitch 330 1 7 #[43, 85, 124, 158, 188, 245, 283], 43) := by decide +kernel
theorem dX12_judged_44 : decode cX12_judged 44 = .ok (.iload_n 2, 1) := by decide +kernel
theorem dX12_judged_45 : decode cX12_judged 45 = .ok (.invokestatic 255, 3) := by decide +kernel
theorem dX12_judged_48 : decode cX12_judged 48 = .ok (.ifCond .eq 24, 3) := by decide +kernel
theorem dX12_judged_51 : decode cX12_judged 51 = .ok (.iload_n 3, 1) := by decide +kernel
theorem dX12_judged_52 : decode cX12_judged 52 = .ok (.ifCond .ne 20, 3) := by decide +kernel
theorem dX12_judged_55 : decode cX12_judged 55 = .ok (.iload 4, 2) := by decide +kernel
theorem dX12_judged_57 : decode cX12_judged 57 = .ok (.ifCond .ne 15, 3) := by decide +kernel
theorem dX12_judged_60 : decode cX12_judged 60 = .ok (.aload_n 0, 1) := by decide +kernel
theorem dX12_judged_61 : decode cX12_judged 61 = .ok (.getfield 28, 3) := by decide +kernel
theorem dX12_judged_64 : decode cX12_judged 64 = .ok (.invokestatic 129, 3) := by decide +kernel
theorem dX12_judged_67 : decode cX12_judged 67 = .ok (.bipush 12, 2) := by decide +kernel
theorem dX12_judged_69 : decode cX12_judged 69 = .ok (.if_icmp .ne 5, 3) := by decide +kernel
theorem dX12_judged_72 : decode cX12_judged 72 = .ok (.iconst 0, 1) := by decide +kernel
theorem dX12_judged_73 : decode cX12_judged 73 = .ok (.ireturn, 1) := by decide +kernel
theorem dX12_judged_74 : decode cX12_judged 74 = .ok (.aload_n 0, 1) := by decide +kernel
theorem dX12_judged_75 : decode cX12_judged 75 = .ok (.getfield 28, 3) := by decide +kernel
theorem dX12_judged_78 : decode cX12_judged 78 = .ok (.iload_n 2, 1) := by decide +kernel
theorem dX12_judged_79 : decode cX12_judged 79 = .ok (.dup2, 1) := by decide +kernel
theorem dX12_judged_80 : decode cX12_judged 80 = .ok (.iaload, 1) := by decide +kernel
theorem dX12_judged_81 : decode cX12_judged 81 = .ok (.iconst 1, 1) := by decide +kernel
theorem dX12_judged_82 : decode cX12_judged 82 = .ok (.iadd, 1) := by decide +kernel
theorem dX12_judged_83 : decode cX12_judged 83 = .ok (.iastore, 1) := by decide +kernel
theorem dX12_judged_84 : decode cX12_judged 84 = .ok (.iconst 1, 1) := by decide +kernel
theorem dX12_judged_85 : decode cX12_judged 85 = .ok (.ireturn, 1) := by decide +kernel
theorem dX12_judged_86 : decode cX12_judged 86 = .ok (.iload_n 2, 1) := by decide +kernel
theorem dX12_judged_87 : decode cX12_judged 87 = .ok (.invokestatic 255, 3) := by decide +kernel
theorem dX12_judged_90 : decode cX12_judged 90 = .ok (.ifCond .eq 21, 3) := by decide +kernel
theorem dX12_judged_93 : decode cX12_judged 93 = .ok (.iload_n 3, 1) := by decide +kernel
theorem dX12_judged_94 : decode cX12_judged 94 = .ok (.ifCond .ne 17, 3) := by decide +kernel
theorem dX12_judged_97 : decode cX12_judged 97 = .ok (.iload 4, 2) := by decide +kernel
theorem dX12_judged_99 : decode cX12_judged 99 = .ok (.ifCond .ne 12, 3) := by decide +kernel
theorem dX12_judged_102 : decode cX12_judged 102 = .ok (.aload_n 0, 1) := by decide +kernel
theorem dX12_judged_103 : decode cX12_judged 103 = .ok (.getfield 28, 3) := by decide +kernel
theorem dX12_judged_106 : decode cX12_judged 106 = .ok (.iload_n 2, 1) := by decide +kernel
theorem dX12_judged_107 : decode cX12_judged 107 = .ok (.iaload, 1) := by decide +kernel
theorem dX12_judged_108 : decode cX12_judged 108 = .ok (.ifCond .ne 5, 3) := by decide +kernel
theorem dX12_judged_111 : decode cX12_judged 111 = .ok (.iconst 0, 1) := by decide +kernel
theorem dX12_judged_112 : decode cX12_judged 112 = .ok (.ireturn, 1) := by decide +kernel
theorem dX12_judged_113 : decode cX12_judged 113 = .ok (.aload_n 0, 1) := by decide +kernel
theorem dX12_judged_114 : decode cX12_judged 114 = .ok (.getfield 28, 3) := by decide +kernel
theorem dX12_judged_117 : decode cX12_judged 117 = .ok (.iload_n 2, 1) := by decide +kernel
theorem dX12_judged_118 : decode cX12_judged 118 = .ok (.dup2, 1) := by decide +kernel
theorem dX12_judged_119 : decode cX12_judged 119 = .ok (.iaload, 1) := by decide +kernel
theorem dX12_judged_120 : decode cX12_judged 120 = .ok (.iconst 1, 1) := by decide +kernel
theorem dX12_judged_121 : decode cX12_judged 121 = .ok (.isub, 1) := by decide +kernel
theorem dX12_judged_122 : decode cX12_judged 122 = .ok (.iastore, 1) := by decide +kernel
theorem dX12_judged_123 : decode cX12_judged 123 = .ok (.iconst 1, 1) := by decide +kernel
theorem dX12_judged_124 : decode cX12_judged 124 = .ok (.ireturn, 1) := by decide +kernel
theorem dX12_judged_125 : decode cX12_judged 125 = .ok (.aload_n 0, 1) := by decide +kernel
theorem dX12_judged_126 : decode cX12_judged 126 = .ok (.iload_n 2, 1) := by decide +kernel
theorem dX12_judged_127 : decode cX12_judged 127 = .ok (.invokevirtual 243, 3) := by decide +kernel
theorem dX12_judged_130 : decode cX12_judged 130 = .ok (.ifCond .eq 12, 3) := by decide +kernel
theorem dX12_judged_133 : decode cX12_judged 133 = .ok (.iload_n 3, 1) := by decide +kernel
theorem dX12_judged_134 : decode cX12_judged 134 = .ok (.ifCond .ne 8, 3) := by decide +kernel
theorem dX12_judged_137 : decode cX12_judged 137 = .ok (.iload 4, 2) := by decide +kernel
theorem dX12_judged_139 : decode cX12_judged 139 = .ok (.ifCond .eq 5, 3) := by decide +kernel
theorem dX12_judged_142 : decode cX12_judged 142 = .ok (.iconst 0, 1) := by decide +kernel
theorem dX12_judged_143 : decode cX12_judged 143 = .ok (.ireturn, 1) := by decide +kernel
theorem dX12_judged_144 : decode cX12_judged 144 = .ok (.aload_n 0, 1) := by decide +kernel
theorem dX12_judged_145 : decode cX12_judged 145 = .ok (.getfield 28, 3) := by decide +kernel
theorem dX12_judged_148 : decode cX12_judged 148 = .ok (.bipush 8, 2) := by decide +kernel
theorem dX12_judged_150 : decode cX12_judged 150 = .ok (.dup2, 1) := by decide +kernel
theorem dX12_judged_151 : decode cX12_judged 151 = .ok (.iaload, 1) := by decide +kernel
theorem dX12_judged_152 : decode cX12_judged 152 = .ok (.iconst 1, 1) := by decide +kernel
theorem dX12_judged_153 : decode cX12_judged 153 = .ok (.iload_n 2, 1) := by decide +kernel
theorem dX12_judged_154 : decode cX12_judged 154 = .ok (.ishl, 1) := by decide +kernel
theorem dX12_judged_155 : decode cX12_judged 155 = .ok (.ixor, 1) := by decide +kernel
theorem dX12_judged_156 : decode cX12_judged 156 = .ok (.iastore, 1) := by decide +kernel
theorem dX12_judged_157 : decode cX12_judged 157 = .ok (.iconst 1, 1) := by decide +kernel
theorem dX12_judged_158 : decode cX12_judged 158 = .ok (.ireturn, 1) := by decide +kernel
theorem dX12_judged_159 : decode cX12_judged 159 = .ok (.iload_n 2, 1) := by decide +kernel
theorem dX12_judged_160 : decode cX12_judged 160 = .ok (.ifCond .ne 27, 3) := by decide +kernel
theorem dX12_judged_163 : decode cX12_judged 163 = .ok (.aload_n 0, 1) := by decide +kernel
theorem dX12_judged_164 : decode cX12_judged 164 = .ok (.aload_n 0, 1) := by decide +kernel
theorem dX12_judged_165 : decode cX12_judged 165 = .ok (.getfield 28, 3) := by decide +kernel
theorem dX12_judged_168 : decode cX12_judged 168 = .ok (.invokevirtual 272, 3) := by decide +kernel
theorem dX12_judged_171 : decode cX12_judged 171 = .ok (.bipush 10, 2) := by decide +kernel
theorem dX12_judged_173 : decode cX12_judged 173 = .ok (.iload_n 3, 1) := by decide +kernel
theorem dX12_judged_174 : decode cX12_judged 174 = .ok (.imul, 1) := by decide +kernel
theorem dX12_judged_175 : decode cX12_judged 175 = .ok (.iload 4, 2) := by decide +kernel
theorem dX12_judged_177 : decode cX12_judged 177 = .ok (.iadd, 1) := by decide +kernel
theorem dX12_judged_178 : decode cX12_judged 178 = .ok (.i2l, 1) := by decide +kernel
theorem dX12_judged_179 : decode cX12_judged 179 = .ok (.lcmp, 1) := by decide +kernel
theorem dX12_judged_180 : decode cX12_judged 180 = .ok (.ifCond .ne 7, 3) := by decide +kernel
theorem dX12_judged_183 : decode cX12_judged 183 = .ok (.iconst 1, 1) := by decide +kernel
theorem dX12_judged_184 : decode cX12_judged 184 = .ok (.goto 4, 3) := by decide +kernel
theorem dX12_judged_187 : decode cX12_judged 187 = .ok (.iconst 0, 1) := by decide +kernel
theorem dX12_judged_188 : decode cX12_judged 188 = .ok (.ireturn, 1) := by decide +kernel
theorem dX12_judged_189 : decode cX12_judged 189 = .ok (.aload_n 0, 1) := by decide +kernel
theorem dX12_judged_190 : decode cX12_judged 190 = .ok (.iload_n 2, 1) := by decide +kernel
theorem dX12_judged_191 : decode cX12_judged 191 = .ok (.invokevirtual 243, 3) := by decide +kernel
theorem dX12_judged_194 : decode cX12_judged 194 = .ok (.ifCond .eq 50, 3) := by decide +kernel
theorem dX12_judged_197 : decode cX12_judged 197 = .ok (.iload_n 3, 1) := by decide +kernel
theorem dX12_judged_198 : decode cX12_judged 198 = .ok (.ifCond .ne 46, 3) := by decide +kernel
theorem dX12_judged_201 : decode cX12_judged 201 = .ok (.iload 4, 2) := by decide +kernel
theorem dX12_judged_203 : decode cX12_judged 203 = .ok (.iconst 2, 1) := by decide +kernel
theorem dX12_judged_204 : decode cX12_judged 204 = .ok (.if_icmp .ge 40, 3) := by decide +kernel
theorem dX12_judged_207 : decode cX12_judged 207 = .ok (.aload_n 0, 1) := by decide +kernel
theorem dX12_judged_208 : decode cX12_judged 208 = .ok (.aload_n 0, 1) := by decide +kernel
theorem dX12_judged_209 : decode cX12_judged 209 = .ok (.getfield 28, 3) := by decide +kernel
theorem dX12_judged_212 : decode cX12_judged 212 = .ok (.iload_n 2, 1) := by decide +kernel
theorem dX12_judged_213 : decode cX12_judged 213 = .ok (.invokevirtual 216, 3) := by decide +kernel
theorem dX12_judged_216 : decode cX12_judged 216 = .ok (.lconst 0, 1) := by decide +kernel
theorem dX12_judged_217 : decode cX12_judged 217 = .ok (.lcmp, 1) := by decide +kernel
theorem dX12_judged_218 : decode cX12_judged 218 = .ok (.ifCond .le 7, 3) := by decide +kernel
theorem dX12_judged_221 : decode cX12_judged 221 = .ok (.iconst 1, 1) := by decide +kernel
theorem dX12_judged_222 : decode cX12_judged 222 = .ok (.goto 4, 3) := by decide +kernel
theorem dX12_judged_225 : decode cX12_judged 225 = .ok (.iconst 0, 1) := by decide +kernel
theorem dX12_judged_226 : decode cX12_judged 226 = .ok (.iload 4, 2) := by decide +kernel
theorem dX12_judged_228 : decode cX12_judged 228 = .ok (.iconst 1, 1) := by decide +kernel
theorem dX12_judged_229 : decode cX12_judged 229 = .ok (.if_icmp .ne 7, 3) := by decide +kernel
theorem dX12_judged_232 : decode cX12_judged 232 = .ok (.iconst 1, 1) := by decide +kernel
theorem dX12_judged_233 : decode cX12_judged 233 = .ok (.goto 4, 3) := by decide +kernel
theorem dX12_judged_236 : decode cX12_judged 236 = .ok (.iconst 0, 1) := by decide +kernel
theorem dX12_judged_237 : decode cX12_judged 237 = .ok (.if_icmp .ne 7, 3) := by decide +kernel
theorem dX12_judged_240 : decode cX12_judged 240 = .ok (.iconst 1, 1) := by decide +kernel
theorem dX12_judged_241 : decode cX12_judged 241 = .ok (.goto 4, 3) := by decide +kernel
theorem dX12_judged_244 : decode cX12_judged 244 = .ok (.iconst 0, 1) := by decide +kernel
theorem dX12_judged_245 : decode cX12_judged 245 = .ok (.ireturn, 1) := by decide +kernel
theorem dX12_judged_246 : decode cX12_judged 246 = .ok (.iload_n 2, 1) := by decide +kernel
theorem dX12_judged_247 : decode cX12_judged 247 = .ok (.invokestatic 145, 3) := by decide +kernel
theorem dX12_judged_250 : decode cX12_judged 250 = .ok (.ifCond .eq 15, 3) := by decide +kernel
theorem dX12_judged_253 : decode cX12_judged 253 = .ok (.iload_n 3, 1) := by decide +kernel
theorem dX12_judged_254 : decode cX12_judged 254 = .ok (.invokestatic 145, 3) := by decide +kernel
theorem dX12_judged_257 : decode cX12_judged 257 = .ok (.ifCond .eq 8, 3) := by decide +kernel
theorem dX12_judged_260 : decode cX12_judged 260 = .ok (.iload 4, 2) := by decide +kernel
theorem dX12_judged_262 : decode cX12_judged 262 = .ok (.ifCond .eq 5, 3) := by decide +kernel
theorem dX12_judged_265 : decode cX12_judged 265 = .ok (.iconst 0, 1) := by decide +kernel
theorem dX12_judged_266 : decode cX12_judged 266 = .ok (.ireturn, 1) := by decide +kernel
theorem dX12_judged_267 : decode cX12_judged 267 = .ok (.aload_n 0, 1) := by decide +kernel
theorem dX12_judged_268 : decode cX12_judged 268 = .ok (.getfield 28, 3) := by decide +kernel
theorem dX12_judged_271 : decode cX12_judged 271 = .ok (.bipush 21, 2) := by decide +kernel
theorem dX12_judged_273 : decode cX12_judged 273 = .ok (.iload_n 2, 1) := by decide +kernel
theorem dX12_judged_274 : decode cX12_judged 274 = .ok (.iadd, 1) := by decide +kernel
theorem dX12_judged_275 : decode cX12_judged 275 = .ok (.dup2, 1) := by decide +kernel
theorem dX12_judged_276 : decode cX12_judged 276 = .ok (.iaload, 1) := by decide +kernel
theorem dX12_judged_277 : decode cX12_judged 277 = .ok (.iconst 1, 1) := by decide +kernel
theorem dX12_judged_278 : decode cX12_judged 278 = .ok (.iload_n 3, 1) := by decide +kernel
theorem dX12_judged_279 : decode cX12_judged 279 = .ok (.ishl, 1) := by decide +kernel
theorem dX12_judged_280 : decode cX12_judged 280 = .ok (.ixor, 1) := by decide +kernel
theorem dX12_judged_281 : decode cX12_judged 281 = .ok (.iastore, 1) := by decide +kernel
theorem dX12_judged_282 : decode cX12_judged 282 = .ok (.iconst 1, 1) := by decide +kernel
theorem dX12_judged_283 : decode cX12_judged 283 = .ok (.ireturn, 1) := by decide +kernel
theorem dX12_judged_284 : decode cX12_judged 284 = .ok (.aload_n 0, 1) := by decide +kernel
theorem dX12_judged_285 : decode cX12_judged 285 = .ok (.aload_n 0, 1) := by decide +kernel
theorem dX12_judged_286 : decode cX12_judged 286 = .ok (.getfield 28, 3) := by decide +kernel
theorem dX12_judged_289 : decode cX12_judged 289 = .ok (.invokevirtual 202, 3) := by decide +kernel
theorem dX12_judged_292 : decode cX12_judged 292 = .ok (.aload_n 0, 1) := by decide +kernel
theorem dX12_judged_293 : decode cX12_judged 293 = .ok (.invokevirtual 287, 3) := by decide +kernel
theorem dX12_judged_296 : decode cX12_judged 296 = .ok (.istore 5, 2) := by decide +kernel
theorem dX12_judged_298 : decode cX12_judged 298 = .ok (.iload_n 2, 1) := by decide +kernel
theorem dX12_judged_299 : decode cX12_judged 299 = .ok (.ifCond .ne 30, 3) := by decide +kernel
theorem dX12_judged_302 : decode cX12_judged 302 = .ok (.iload 5, 2) := by decide +kernel
theorem dX12_judged_304 : decode cX12_judged 304 = .ok (.bipush (-9), 2) := by decide +kernel
theorem dX12_judged_306 : decode cX12_judged 306 = .ok (.if_icmp .eq 23, 3) := by decide +kernel
theorem dX12_judged_309 : decode cX12_judged 309 = .ok (.aload_n 0, 1) := by decide +kernel
theorem dX12_judged_310 : decode cX12_judged 310 = .ok (.iload 5, 2) := by decide +kernel
theorem dX12_judged_312 : decode cX12_judged 312 = .ok (.invokevirtual 290, 3) := by decide +kernel
theorem dX12_judged_315 : decode cX12_judged 315 = .ok (.bipush 10, 2) := by decide +kernel
theorem dX12_judged_317 : decode cX12_judged 317 = .ok (.iload_n 3, 1) := by decide +kernel
theorem dX12_judged_318 : decode cX12_judged 318 = .ok (.imul, 1) := by decide +kernel
theorem dX12_judged_319 : decode cX12_judged 319 = .ok (.iload 4, 2) := by decide +kernel
theorem dX12_judged_321 : decode cX12_judged 321 = .ok (.iadd, 1) := by decide +kernel
theorem dX12_judged_322 : decode cX12_judged 322 = .ok (.if_icmp .ne 7, 3) := by decide +kernel
theorem dX12_judged_325 : decode cX12_judged 325 = .ok (.iconst 1, 1) := by decide +kernel
theorem dX12_judged_326 : decode cX12_judged 326 = .ok (.goto 4, 3) := by decide +kernel
theorem dX12_judged_329 : decode cX12_judged 329 = .ok (.iconst 0, 1) := by decide +kernel
theorem dX12_judged_330 : decode cX12_judged 330 = .ok (.ireturn, 1) := by decide +kernel
theorem dX12_judged_331 : decode cX12_judged 331 = .ok (.iconst 0, 1) := by decide +kernel
theorem dX12_judged_332 : decode cX12_judged 332 = .ok (.ireturn, 1) := by decide +kernel
theorem dX12_tenThousands_0 : decode cX12_tenThousands 0 = .ok (.lconst 1, 1) := by decide +kernel
theorem dX12_tenThousands_1 : decode cX12_tenThousands 1 = .ok (.lstore_n 1, 1) := by decide +kernel
theorem dX12_tenThousands_2 : decode cX12_tenThousands 2 = .ok (.iconst 0, 1) := by decide +kernel
theorem dX12_tenThousands_3 : decode cX12_tenThousands 3 = .ok (.istore_n 3, 1) := by decide +kernel
theorem dX12_tenThousands_4 : decode cX12_tenThousands 4 = .ok (.iload_n 3, 1) := by decide +kernel
theorem dX12_tenThousands_5 : decode cX12_tenThousands 5 = .ok (.iload_n 0, 1) := by decide +kernel
theorem dX12_tenThousands_6 : decode cX12_tenThousands 6 = .ok (.if_icmp .ge 15, 3) := by decide +kernel
theorem dX12_tenThousands_9 : decode cX12_tenThousands 9 = .ok (.lload_n 1, 1) := by decide +kernel
theorem dX12_tenThousands_10 : decode cX12_tenThousands 10 = .ok (.ldc2_w 314, 3) := by decide +kernel
theorem dX12_tenThousands_13 : decode cX12_tenThousands 13 = .ok (.lmul, 1) := by decide +kernel
theorem dX12_tenThousands_14 : decode cX12_tenThousands 14 = .ok (.lstore_n 1, 1) := by decide +kernel
theorem dX12_tenThousands_15 : decode cX12_tenThousands 15 = .ok (.iinc 3 1, 3) := by decide +kernel
theorem dX12_tenThousands_18 : decode cX12_tenThousands 18 = .ok (.goto (-14), 3) := by decide +kernel
theorem dX12_tenThousands_21 : decode cX12_tenThousands 21 = .ok (.lload_n 1, 1) := by decide +kernel
theorem dX12_tenThousands_22 : decode cX12_tenThousands 22 = .ok (.lreturn, 1) := by decide +kernel
theorem dX12_judge_0 : decode cX12_judge 0 = .ok (.iload_n 1, 1) := by decide +kernel
theorem dX12_judge_1 : decode cX12_judge 1 = .ok (.i2l, 1) := by decide +kernel
theorem dX12_judge_2 : decode cX12_judge 2 = .ok (.lconst 1, 1) := by decide +kernel
theorem dX12_judge_3 : decode cX12_judge 3 = .ok (.ldc2_w 316, 3) := by decide +kernel
theorem dX12_judge_6 : decode cX12_judge 6 = .ok (.invokestatic 107, 3) := by decide +kernel
theorem dX12_judge_9 : decode cX12_judge 9 = .ok (.ifCond .eq 17, 3) := by decide +kernel
theorem dX12_judge_12 : decode cX12_judge 12 = .ok (.lload_n 2, 1) := by decide +kernel
theorem dX12_judge_13 : decode cX12_judge 13 = .ok (.lconst 0, 1) := by decide +kernel
theorem dX12_judge_14 : decode cX12_judge 14 = .ok (.iload_n 1, 1) := by decide +kernel
theorem dX12_judge_15 : decode cX12_judge 15 = .ok (.invokestatic 318, 3) := by decide +kernel
theorem dX12_judge_18 : decode cX12_judge 18 = .ok (.lconst 1, 1) := by decide +kernel
theorem dX12_judge_19 : decode cX12_judge 19 = .ok (.lsub, 1) := by decide +kernel
theorem dX12_judge_20 : decode cX12_judge 20 = .ok (.invokestatic 107, 3) := by decide +kernel
theorem dX12_judge_23 : decode cX12_judge 23 = .ok (.ifCond .ne 6, 3) := by decide +kernel
theorem dX12_judge_26 : decode cX12_judge 26 = .ok (.bipush (-2), 2) := by decide +kernel
theorem dX12_judge_28 : decode cX12_judge 28 = .ok (.ireturn, 1) := by decide +kernel
theorem dX12_judge_29 : decode cX12_judge 29 = .ok (.aload_n 0, 1) := by decide +kernel
theorem dX12_judge_30 : decode cX12_judge 30 = .ok (.getfield 25, 3) := by decide +kernel
theorem dX12_judge_33 : decode cX12_judge 33 = .ok (.aload_n 0, 1) := by decide +kernel
theorem dX12_judge_34 : decode cX12_judge 34 = .ok (.getfield 28, 3) := by decide +kernel
theorem dX12_judge_37 : decode cX12_judge 37 = .ok (.invokestatic 178, 3) := by decide +kernel
theorem dX12_judge_40 : decode cX12_judge 40 = .ok (.iconst 0, 1) := by decide +kernel
theorem dX12_judge_41 : decode cX12_judge 41 = .ok (.istore 4, 2) := by decide +kernel
theorem dX12_judge_43 : decode cX12_judge 43 = .ok (.iload 4, 2) := by decide +kernel
theorem dX12_judge_45 : decode cX12_judge 45 = .ok (.iload_n 1, 1) := by decide +kernel
theorem dX12_judge_46 : decode cX12_judge 46 = .ok (.if_icmp .ge 64, 3) := by decide +kernel
theorem dX12_judge_49 : decode cX12_judge 49 = .ok (.lload_n 2, 1) := by decide +kernel
theorem dX12_judge_50 : decode cX12_judge 50 = .ok (.iload_n 1, 1) := by decide +kernel
theorem dX12_judge_51 : decode cX12_judge 51 = .ok (.iconst 1, 1) := by decide +kernel
theorem dX12_judge_52 : decode cX12_judge 52 = .ok (.isub, 1) := by decide +kernel
theorem dX12_judge_53 : decode cX12_judge 53 = .ok (.iload 4, 2) := by decide +kernel
theorem dX12_judge_55 : decode cX12_judge 55 = .ok (.isub, 1) := by decide +kernel
theorem dX12_judge_56 : decode cX12_judge 56 = .ok (.invokestatic 318, 3) := by decide +kernel
theorem dX12_judge_59 : decode cX12_judge 59 = .ok (.ldiv, 1) := by decide +kernel
theorem dX12_judge_60 : decode cX12_judge 60 = .ok (.ldc2_w 314, 3) := by decide +kernel
theorem dX12_judge_63 : decode cX12_judge 63 = .ok (.lrem, 1) := by decide +kernel
theorem dX12_judge_64 : decode cX12_judge 64 = .ok (.l2i, 1) := by decide +kernel
theorem dX12_judge_65 : decode cX12_judge 65 = .ok (.istore 5, 2) := by decide +kernel
theorem dX12_judge_67 : decode cX12_judge 67 = .ok (.aload_n 0, 1) := by decide +kernel
theorem dX12_judge_68 : decode cX12_judge 68 = .ok (.iload 5, 2) := by decide +kernel
theorem dX12_judge_70 : decode cX12_judge 70 = .ok (.sipush 1000, 3) := by decide +kernel
theorem dX12_judge_73 : decode cX12_judge 73 = .ok (.idiv, 1) := by decide +kernel
theorem dX12_judge_74 : decode cX12_judge 74 = .ok (.iload 5, 2) := by decide +kernel
theorem dX12_judge_76 : decode cX12_judge 76 = .ok (.bipush 100, 2) := by decide +kernel
theorem dX12_judge_78 : decode cX12_judge 78 = .ok (.idiv, 1) := by decide +kernel
theorem dX12_judge_79 : decode cX12_judge 79 = .ok (.bipush 10, 2) := by decide +kernel
theorem dX12_judge_81 : decode cX12_judge 81 = .ok (.irem, 1) := by decide +kernel
theorem dX12_judge_82 : decode cX12_judge 82 = .ok (.iload 5, 2) := by decide +kernel
theorem dX12_judge_84 : decode cX12_judge 84 = .ok (.bipush 10, 2) := by decide +kernel
theorem dX12_judge_86 : decode cX12_judge 86 = .ok (.idiv, 1) := by decide +kernel
theorem dX12_judge_87 : decode cX12_judge 87 = .ok (.bipush 10, 2) := by decide +kernel
theorem dX12_judge_89 : decode cX12_judge 89 = .ok (.irem, 1) := by decide +kernel
theorem dX12_judge_90 : decode cX12_judge 90 = .ok (.iload 5, 2) := by decide +kernel
theorem dX12_judge_92 : decode cX12_judge 92 = .ok (.bipush 10, 2) := by decide +kernel
theorem dX12_judge_94 : decode cX12_judge 94 = .ok (.irem, 1) := by decide +kernel
theorem dX12_judge_95 : decode cX12_judge 95 = .ok (.invokevirtual 321, 3) := by decide +kernel
theorem dX12_judge_98 : decode cX12_judge 98 = .ok (.ifCond .ne 6, 3) := by decide +kernel
theorem dX12_judge_101 : decode cX12_judge 101 = .ok (.iload 4, 2) := by decide +kernel
theorem dX12_judge_103 : decode cX12_judge 103 = .ok (.ireturn, 1) := by decide +kernel
theorem dX12_judge_104 : decode cX12_judge 104 = .ok (.iinc 4 1, 3) := by decide +kernel
theorem dX12_judge_107 : decode cX12_judge 107 = .ok (.goto (-64), 3) := by decide +kernel
theorem dX12_judge_110 : decode cX12_judge 110 = .ok (.bipush (-9), 2) := by decide +kernel
theorem dX12_judge_112 : decode cX12_judge 112 = .ok (.ireturn, 1) := by decide +kernel
theorem dX12_see_0 : decode cX12_see 0 = .ok (.iload_n 1, 1) := by decide +kernel
theorem dX12_see_1 : decode cX12_see 1 = .ok (.i2l, 1) := by decide +kernel
theorem dX12_see_2 : decode cX12_see 2 = .ok (.lconst 0, 1) := by decide +kernel
theorem dX12_see_3 : decode cX12_see 3 = .ok (.ldc2_w 113, 3) := by decide +kernel
theorem dX12_see_6 : decode cX12_see 6 = .ok (.invokestatic 107, 3) := by decide +kernel
theorem dX12_see_9 : decode cX12_see 9 = .ok (.ifCond .eq 25, 3) := by decide +kernel
theorem dX12_see_12 : decode cX12_see 12 = .ok (.iload_n 2, 1) := by decide +kernel
theorem dX12_see_13 : decode cX12_see 13 = .ok (.i2l, 1) := by decide +kernel
theorem dX12_see_14 : decode cX12_see 14 = .ok (.lconst 0, 1) := by decide +kernel
theorem dX12_see_15 : decode cX12_see 15 = .ok (.ldc2_w 268, 3) := by decide +kernel
theorem dX12_see_18 : decode cX12_see 18 = .ok (.invokestatic 107, 3) := by decide +kernel
theorem dX12_see_21 : decode cX12_see 21 = .ok (.ifCond .eq 13, 3) := by decide +kernel
theorem dX12_see_24 : decode cX12_see 24 = .ok (.iload_n 3, 1) := by decide +kernel
theorem dX12_see_25 : decode cX12_see 25 = .ok (.i2l, 1) := by decide +kernel
theorem dX12_see_26 : decode cX12_see 26 = .ok (.lconst 0, 1) := by decide +kernel
theorem dX12_see_27 : decode cX12_see 27 = .ok (.lconst 1, 1) := by decide +kernel
theorem dX12_see_28 : decode cX12_see 28 = .ok (.invokestatic 107, 3) := by decide +kernel
theorem dX12_see_31 : decode cX12_see 31 = .ok (.ifCond .ne 6, 3) := by decide +kernel
theorem dX12_see_34 : decode cX12_see 34 = .ok (.bipush (-2), 2) := by decide +kernel
theorem dX12_see_36 : decode cX12_see 36 = .ok (.ireturn, 1) := by decide +kernel
theorem dX12_see_37 : decode cX12_see 37 = .ok (.aload_n 0, 1) := by decide +kernel
theorem dX12_see_38 : decode cX12_see 38 = .ok (.getfield 237, 3) := by decide +kernel
theorem dX12_see_41 : decode cX12_see 41 = .ok (.bipush 6, 2) := by decide +kernel
theorem dX12_see_43 : decode cX12_see 43 = .ok (.if_icmp .ne 6, 3) := by decide +kernel
theorem dX12_see_46 : decode cX12_see 46 = .ok (.bipush (-4), 2) := by decide +kernel
theorem dX12_see_48 : decode cX12_see 48 = .ok (.ireturn, 1) := by decide +kernel
theorem dX12_see_49 : decode cX12_see 49 = .ok (.aload_n 0, 1) := by decide +kernel
theorem dX12_see_50 : decode cX12_see 50 = .ok (.getfield 44, 3) := by decide +kernel
theorem dX12_see_53 : decode cX12_see 53 = .ok (.aload_n 0, 1) := by decide +kernel
theorem dX12_see_54 : decode cX12_see 54 = .ok (.getfield 237, 3) := by decide +kernel
theorem dX12_see_57 : decode cX12_see 57 = .ok (.iload_n 1, 1) := by decide +kernel
theorem dX12_see_58 : decode cX12_see 58 = .ok (.iastore, 1) := by decide +kernel
theorem dX12_see_59 : decode cX12_see 59 = .ok (.aload_n 0, 1) := by decide +kernel
theorem dX12_see_60 : decode cX12_see 60 = .ok (.getfield 47, 3) := by decide +kernel
theorem dX12_see_63 : decode cX12_see 63 = .ok (.aload_n 0, 1) := by decide +kernel
theorem dX12_see_64 : decode cX12_see 64 = .ok (.getfield 237, 3) := by decide +kernel
theorem dX12_see_67 : decode cX12_see 67 = .ok (.iload_n 2, 1) := by decide +kernel
theorem dX12_see_68 : decode cX12_see 68 = .ok (.iastore, 1) := by decide +kernel
theorem dX12_see_69 : decode cX12_see 69 = .ok (.aload_n 0, 1) := by decide +kernel
theorem dX12_see_70 : decode cX12_see 70 = .ok (.getfield 50, 3) := by decide +kernel
theorem dX12_see_73 : decode cX12_see 73 = .ok (.aload_n 0, 1) := by decide +kernel
theorem dX12_see_74 : decode cX12_see 74 = .ok (.getfield 237, 3) := by decide +kernel
theorem dX12_see_77 : decode cX12_see 77 = .ok (.iload_n 3, 1) := by decide +kernel
theorem dX12_see_78 : decode cX12_see 78 = .ok (.iastore, 1) := by decide +kernel
theorem dX12_see_79 : decode cX12_see 79 = .ok (.aload_n 0, 1) := by decide +kernel
theorem dX12_see_80 : decode cX12_see 80 = .ok (.dup, 1) := by decide +kernel
theorem dX12_see_81 : decode cX12_see 81 = .ok (.getfield 237, 3) := by decide +kernel
theorem dX12_see_84 : decode cX12_see 84 = .ok (.iconst 1, 1) := by decide +kernel
theorem dX12_see_85 : decode cX12_see 85 = .ok (.iadd, 1) := by decide +kernel
theorem dX12_see_86 : decode cX12_see 86 = .ok (.putfield 237, 3) := by decide +kernel
theorem dX12_see_89 : decode cX12_see 89 = .ok (.aload_n 0, 1) := by decide +kernel
theorem dX12_see_90 : decode cX12_see 90 = .ok (.getfield 237, 3) := by decide +kernel
theorem dX12_see_93 : decode cX12_see 93 = .ok (.ireturn, 1) := by decide +kernel
theorem dX12_unsee_0 : decode cX12_unsee 0 = .ok (.aload_n 0, 1) := by decide +kernel
theorem dX12_unsee_1 : decode cX12_unsee 1 = .ok (.getfield 237, 3) := by decide +kernel
theorem dX12_unsee_4 : decode cX12_unsee 4 = .ok (.istore_n 1, 1) := by decide +kernel
theorem dX12_unsee_5 : decode cX12_unsee 5 = .ok (.aload_n 0, 1) := by decide +kernel
theorem dX12_unsee_6 : decode cX12_unsee 6 = .ok (.iconst 0, 1) := by decide +kernel
theorem dX12_unsee_7 : decode cX12_unsee 7 = .ok (.putfield 237, 3) := by decide +kernel
theorem dX12_unsee_10 : decode cX12_unsee 10 = .ok (.iload_n 1, 1) := by decide +kernel
theorem dX12_unsee_11 : decode cX12_unsee 11 = .ok (.ireturn, 1) := by decide +kernel
theorem dX12_isSo_0 : decode cX12_isSo 0 = .ok (.iconst 0, 1) := by decide +kernel
theorem dX12_isSo_1 : decode cX12_isSo 1 = .ok (.istore 4, 2) := by decide +kernel
theorem dX12_isSo_3 : decode cX12_isSo 3 = .ok (.iconst 0, 1) := by decide +kernel
theorem dX12_isSo_4 : decode cX12_isSo 4 = .ok (.istore 5, 2) := by decide +kernel
theorem dX12_isSo_6 : decode cX12_isSo 6 = .ok (.iload 5, 2) := by decide +kernel
theorem dX12_isSo_8 : decode cX12_isSo 8 = .ok (.iload_n 1, 1) := by decide +kernel
theorem dX12_isSo_9 : decode cX12_isSo 9 = .ok (.if_icmp .ge 32, 3) := by decide +kernel
theorem dX12_isSo_12 : decode cX12_isSo 12 = .ok (.iload 4, 2) := by decide +kernel
theorem dX12_isSo_14 : decode cX12_isSo 14 = .ok (.ifCond .ne 14, 3) := by decide +kernel
theorem dX12_isSo_17 : decode cX12_isSo 17 = .ok (.aload_n 0, 1) := by decide +kernel
theorem dX12_isSo_18 : decode cX12_isSo 18 = .ok (.getfield 90, 3) := by decide +kernel
theorem dX12_isSo_21 : decode cX12_isSo 21 = .ok (.iload 5, 2) := by decide +kernel
theorem dX12_isSo_23 : decode cX12_isSo 23 = .ok (.iaload, 1) := by decide +kernel
theorem dX12_isSo_24 : decode cX12_isSo 24 = .ok (.iload_n 3, 1) := by decide +kernel
theorem dX12_isSo_25 : decode cX12_isSo 25 = .ok (.if_icmp .ne 7, 3) := by decide +kernel
theorem dX12_isSo_28 : decode cX12_isSo 28 = .ok (.iconst 1, 1) := by decide +kernel
theorem dX12_isSo_29 : decode cX12_isSo 29 = .ok (.goto 4, 3) := by decide +kernel
theorem dX12_isSo_32 : decode cX12_isSo 32 = .ok (.iconst 0, 1) := by decide +kernel
theorem dX12_isSo_33 : decode cX12_isSo 33 = .ok (.istore 4, 2) := by decide +kernel
theorem dX12_isSo_35 : decode cX12_isSo 35 = .ok (.iinc 5 1, 3) := by decide +kernel
theorem dX12_isSo_38 : decode cX12_isSo 38 = .ok (.goto (-32), 3) := by decide +kernel
theorem dX12_isSo_41 : decode cX12_isSo 41 = .ok (.iload_n 2, 1) := by decide +kernel
theorem dX12_isSo_42 : decode cX12_isSo 42 = .ok (.ifCond .ne 8, 3) := by decide +kernel
theorem dX12_isSo_45 : decode cX12_isSo 45 = .ok (.iload 4, 2) := by decide +kernel
theorem dX12_isSo_47 : decode cX12_isSo 47 = .ok (.goto 61, 3) := by decide +kernel
theorem dX12_isSo_50 : decode cX12_isSo 50 = .ok (.iload_n 2, 1) := by decide +kernel
theorem dX12_isSo_51 : decode cX12_isSo 51 = .ok (.iconst 1, 1) := by decide +kernel
theorem dX12_isSo_52 : decode cX12_isSo 52 = .ok (.if_icmp .ne 16, 3) := by decide +kernel
theorem dX12_isSo_55 : decode cX12_isSo 55 = .ok (.iload_n 1, 1) := by decide +kernel
theorem dX12_isSo_56 : decode cX12_isSo 56 = .ok (.iload_n 3, 1) := by decide +kernel
theorem dX12_isSo_57 : decode cX12_isSo 57 = .ok (.if_icmp .ne 7, 3) := by decide +kernel
theorem dX12_isSo_60 : decode cX12_isSo 60 = .ok (.iconst 1, 1) := by decide +kernel
theorem dX12_isSo_61 : decode cX12_isSo 61 = .ok (.goto 47, 3) := by decide +kernel
theorem dX12_isSo_64 : decode cX12_isSo 64 = .ok (.iconst 0, 1) := by decide +kernel
theorem dX12_isSo_65 : decode cX12_isSo 65 = .ok (.goto 43, 3) := by decide +kernel
theorem dX12_isSo_68 : decode cX12_isSo 68 = .ok (.iload_n 2, 1) := by decide +kernel
theorem dX12_isSo_69 : decode cX12_isSo 69 = .ok (.iconst 2, 1) := by decide +kernel
theorem dX12_isSo_70 : decode cX12_isSo 70 = .ok (.if_icmp .ne 21, 3) := by decide +kernel
theorem dX12_isSo_73 : decode cX12_isSo 73 = .ok (.aload_n 0, 1) := by decide +kernel
theorem dX12_isSo_74 : decode cX12_isSo 74 = .ok (.getfield 90, 3) := by decide +kernel
theorem dX12_isSo_77 : decode cX12_isSo 77 = .ok (.iconst 0, 1) := by decide +kernel
theorem dX12_isSo_78 : decode cX12_isSo 78 = .ok (.iaload, 1) := by decide +kernel
theorem dX12_isSo_79 : decode cX12_isSo 79 = .ok (.iload_n 3, 1) := by decide +kernel
theorem dX12_isSo_80 : decode cX12_isSo 80 = .ok (.if_icmp .ne 7, 3) := by decide +kernel
theorem dX12_isSo_83 : decode cX12_isSo 83 = .ok (.iconst 1, 1) := by decide +kernel
theorem dX12_isSo_84 : decode cX12_isSo 84 = .ok (.goto 24, 3) := by decide +kernel
theorem dX12_isSo_87 : decode cX12_isSo 87 = .ok (.iconst 0, 1) := by decide +kernel
theorem dX12_isSo_88 : decode cX12_isSo 88 = .ok (.goto 20, 3) := by decide +kernel
theorem dX12_isSo_91 : decode cX12_isSo 91 = .ok (.aload_n 0, 1) := by decide +kernel
theorem dX12_isSo_92 : decode cX12_isSo 92 = .ok (.getfield 90, 3) := by decide +kernel
theorem dX12_isSo_95 : decode cX12_isSo 95 = .ok (.iload_n 1, 1) := by decide +kernel
theorem dX12_isSo_96 : decode cX12_isSo 96 = .ok (.iconst 1, 1) := by decide +kernel
theorem dX12_isSo_97 : decode cX12_isSo 97 = .ok (.isub, 1) := by decide +kernel
theorem dX12_isSo_98 : decode cX12_isSo 98 = .ok (.iaload, 1) := by decide +kernel
theorem dX12_isSo_99 : decode cX12_isSo 99 = .ok (.iload_n 3, 1) := by decide +kernel
theorem dX12_isSo_100 : decode cX12_isSo 100 = .ok (.if_icmp .ne 7, 3) := by decide +kernel
theorem dX12_isSo_103 : decode cX12_isSo 103 = .ok (.iconst 1, 1) := by decide +kernel
theorem dX12_isSo_104 : decode cX12_isSo 104 = .ok (.goto 4, 3) := by decide +kernel
theorem dX12_isSo_107 : decode cX12_isSo 107 = .ok (.iconst 0, 1) := by decide +kernel
theorem dX12_isSo_108 : decode cX12_isSo 108 = .ok (.ireturn, 1) := by decide +kernel
theorem dX12_left_0 : decode cX12_left 0 = .ok (.iload_n 1, 1) := by decide +kernel
theorem dX12_left_1 : decode cX12_left 1 = .ok (.i2l, 1) := by decide +kernel
theorem dX12_left_2 : decode cX12_left 2 = .ok (.lconst 0, 1) := by decide +kernel
theorem dX12_left_3 : decode cX12_left 3 = .ok (.lconst 1, 1) := by decide +kernel
theorem dX12_left_4 : decode cX12_left 4 = .ok (.invokestatic 107, 3) := by decide +kernel
theorem dX12_left_7 : decode cX12_left 7 = .ok (.ifCond .ne 6, 3) := by decide +kernel
theorem dX12_left_10 : decode cX12_left 10 = .ok (.bipush (-2), 2) := by decide +kernel
theorem dX12_left_12 : decode cX12_left 12 = .ok (.ireturn, 1) := by decide +kernel
theorem dX12_left_13 : decode cX12_left 13 = .ok (.aload_n 0, 1) := by decide +kernel
theorem dX12_left_14 : decode cX12_left 14 = .ok (.aload_n 0, 1) := by decide +kernel
theorem dX12_left_15 : decode cX12_left 15 = .ok (.getfield 25, 3) := by decide +kernel
theorem dX12_left_18 : decode cX12_left 18 = .ok (.invokevirtual 272, 3) := by decide +kernel
theorem dX12_left_21 : decode cX12_left 21 = .ok (.lstore_n 2, 1) := by decide +kernel
theorem dX12_left_22 : decode cX12_left 22 = .ok (.lload_n 2, 1) := by decide +kernel
theorem dX12_left_23 : decode cX12_left 23 = .ok (.ldc2_w 325, 3) := by decide +kernel
theorem dX12_left_26 : decode cX12_left 26 = .ok (.lcmp, 1) := by decide +kernel
theorem dX12_left_27 : decode cX12_left 27 = .ok (.ifCond .le 6, 3) := by decide +kernel
theorem dX12_left_30 : decode cX12_left 30 = .ok (.bipush (-3), 2) := by decide +kernel
theorem dX12_left_32 : decode cX12_left 32 = .ok (.ireturn, 1) := by decide +kernel
theorem dX12_left_33 : decode cX12_left 33 = .ok (.iconst 0, 1) := by decide +kernel
theorem dX12_left_34 : decode cX12_left 34 = .ok (.istore 4, 2) := by decide +kernel
theorem dX12_left_36 : decode cX12_left 36 = .ok (.bipush (-9), 2) := by decide +kernel
theorem dX12_left_38 : decode cX12_left 38 = .ok (.istore 5, 2) := by decide +kernel
theorem dX12_left_40 : decode cX12_left 40 = .ok (.lload_n 2, 1) := by decide +kernel
theorem dX12_left_41 : decode cX12_left 41 = .ok (.l2i, 1) := by decide +kernel
theorem dX12_left_42 : decode cX12_left 42 = .ok (.iconst 1, 1) := by decide +kernel
theorem dX12_left_43 : decode cX12_left 43 = .ok (.isub, 1) := by decide +kernel
theorem dX12_left_44 : decode cX12_left 44 = .ok (.istore 6, 2) := by decide +kernel
theorem dX12_left_46 : decode cX12_left 46 = .ok (.iload 6, 2) := by decide +kernel
theorem dX12_left_48 : decode cX12_left 48 = .ok (.ifCond .lt 119, 3) := by decide +kernel
theorem dX12_left_51 : decode cX12_left 51 = .ok (.aload_n 0, 1) := by decide +kernel
theorem dX12_left_52 : decode cX12_left 52 = .ok (.iload 6, 2) := by decide +kernel
theorem dX12_left_54 : decode cX12_left 54 = .ok (.i2l, 1) := by decide +kernel
theorem dX12_left_55 : decode cX12_left 55 = .ok (.invokevirtual 293, 3) := by decide +kernel
theorem dX12_left_58 : decode cX12_left 58 = .ok (.istore 7, 2) := by decide +kernel
theorem dX12_left_60 : decode cX12_left 60 = .ok (.iconst 1, 1) := by decide +kernel
theorem dX12_left_61 : decode cX12_left 61 = .ok (.istore 8, 2) := by decide +kernel
theorem dX12_left_63 : decode cX12_left 63 = .ok (.iconst 0, 1) := by decide +kernel
theorem dX12_left_64 : decode cX12_left 64 = .ok (.istore 9, 2) := by decide +kernel
theorem dX12_left_66 : decode cX12_left 66 = .ok (.iload 9, 2) := by decide +kernel
theorem dX12_left_68 : decode cX12_left 68 = .ok (.aload_n 0, 1) := by decide +kernel
theorem dX12_left_69 : decode cX12_left 69 = .ok (.getfield 237, 3) := by decide +kernel
theorem dX12_left_72 : decode cX12_left 72 = .ok (.if_icmp .ge 60, 3) := by decide +kernel
theorem dX12_left_75 : decode cX12_left 75 = .ok (.iload 8, 2) := by decide +kernel
theorem dX12_left_77 : decode cX12_left 77 = .ok (.ifCond .eq 46, 3) := by decide +kernel
theorem dX12_left_80 : decode cX12_left 80 = .ok (.aload_n 0, 1) := by decide +kernel
theorem dX12_left_81 : decode cX12_left 81 = .ok (.iload 7, 2) := by decide +kernel
theorem dX12_left_83 : decode cX12_left 83 = .ok (.aload_n 0, 1) := by decide +kernel
theorem dX12_left_84 : decode cX12_left 84 = .ok (.getfield 44, 3) := by decide +kernel
theorem dX12_left_87 : decode cX12_left 87 = .ok (.iload 9, 2) := by decide +kernel
theorem dX12_left_89 : decode cX12_left 89 = .ok (.iaload, 1) := by decide +kernel
theorem dX12_left_90 : decode cX12_left 90 = .ok (.aload_n 0, 1) := by decide +kernel
theorem dX12_left_91 : decode cX12_left 91 = .ok (.getfield 47, 3) := by decide +kernel
theorem dX12_left_94 : decode cX12_left 94 = .ok (.iload 9, 2) := by decide +kernel
theorem dX12_left_96 : decode cX12_left 96 = .ok (.iaload, 1) := by decide +kernel
theorem dX12_left_97 : decode cX12_left 97 = .ok (.invokevirtual 327, 3) := by decide +kernel
theorem dX12_left_100 : decode cX12_left 100 = .ok (.aload_n 0, 1) := by decide +kernel
theorem dX12_left_101 : decode cX12_left 101 = .ok (.getfield 50, 3) := by decide +kernel
theorem dX12_left_104 : decode cX12_left 104 = .ok (.iload 9, 2) := by decide +kernel
theorem dX12_left_106 : decode cX12_left 106 = .ok (.iaload, 1) := by decide +kernel
theorem dX12_left_107 : decode cX12_left 107 = .ok (.iconst 1, 1) := by decide +kernel
theorem dX12_left_108 : decode cX12_left 108 = .ok (.if_icmp .ne 7, 3) := by decide +kernel
theorem dX12_left_111 : decode cX12_left 111 = .ok (.iconst 1, 1) := by decide +kernel
theorem dX12_left_112 : decode cX12_left 112 = .ok (.goto 4, 3) := by decide +kernel
theorem dX12_left_115 : decode cX12_left 115 = .ok (.iconst 0, 1) := by decide +kernel
theorem dX12_left_116 : decode cX12_left 116 = .ok (.if_icmp .ne 7, 3) := by decide +kernel
theorem dX12_left_119 : decode cX12_left 119 = .ok (.iconst 1, 1) := by decide +kernel
theorem dX12_left_120 : decode cX12_left 120 = .ok (.goto 4, 3) := by decide +kernel
theorem dX12_left_123 : decode cX12_left 123 = .ok (.iconst 0, 1) := by decide +kernel
theorem dX12_left_124 : decode cX12_left 124 = .ok (.istore 8, 2) := by decide +kernel
theorem dX12_left_126 : decode cX12_left 126 = .ok (.iinc 9 1, 3) := by decide +kernel
theorem dX12_left_129 : decode cX12_left 129 = .ok (.goto (-63), 3) := by decide +kernel
theorem dX12_left_132 : decode cX12_left 132 = .ok (.iload 4, 2) := by decide +kernel
theorem dX12_left_134 : decode cX12_left 134 = .ok (.iload 8, 2) := by decide +kernel
theorem dX12_left_136 : decode cX12_left 136 = .ok (.ifCond .eq 7, 3) := by decide +kernel
theorem dX12_left_139 : decode cX12_left 139 = .ok (.iconst 1, 1) := by decide +kernel
theorem dX12_left_140 : decode cX12_left 140 = .ok (.goto 4, 3) := by decide +kernel
theorem dX12_left_143 : decode cX12_left 143 = .ok (.iconst 0, 1) := by decide +kernel
theorem dX12_left_144 : decode cX12_left 144 = .ok (.iadd, 1) := by decide +kernel
theorem dX12_left_145 : decode cX12_left 145 = .ok (.istore 4, 2) := by decide +kernel
theorem dX12_left_147 : decode cX12_left 147 = .ok (.iload 8, 2) := by decide +kernel
theorem dX12_left_149 : decode cX12_left 149 = .ok (.ifCond .eq 8, 3) := by decide +kernel
theorem dX12_left_152 : decode cX12_left 152 = .ok (.iload 6, 2) := by decide +kernel
theorem dX12_left_154 : decode cX12_left 154 = .ok (.goto 5, 3) := by decide +kernel
theorem dX12_left_157 : decode cX12_left 157 = .ok (.iload 5, 2) := by decide +kernel
theorem dX12_left_159 : decode cX12_left 159 = .ok (.istore 5, 2) := by decide +kernel
theorem dX12_left_161 : decode cX12_left 161 = .ok (.iinc 6 (-1), 3) := by decide +kernel
theorem dX12_left_164 : decode cX12_left 164 = .ok (.goto (-118), 3) := by decide +kernel
theorem dX12_left_167 : decode cX12_left 167 = .ok (.iload_n 1, 1) := by decide +kernel
theorem dX12_left_168 : decode cX12_left 168 = .ok (.ifCond .ne 8, 3) := by decide +kernel
theorem dX12_left_171 : decode cX12_left 171 = .ok (.iload 4, 2) := by decide +kernel
theorem dX12_left_173 : decode cX12_left 173 = .ok (.goto 5, 3) := by decide +kernel
theorem dX12_left_176 : decode cX12_left 176 = .ok (.iload 5, 2) := by decide +kernel
theorem dX12_left_178 : decode cX12_left 178 = .ok (.ireturn, 1) := by decide +kernel
theorem dX12_someOf_0 : decode cX12_someOf 0 = .ok (.iconst 0, 1) := by decide +kernel
theorem dX12_someOf_1 : decode cX12_someOf 1 = .ok (.istore_n 2, 1) := by decide +kernel
theorem dX12_someOf_2 : decode cX12_someOf 2 = .ok (.iconst 0, 1) := by decide +kernel
theorem dX12_someOf_3 : decode cX12_someOf 3 = .ok (.istore_n 3, 1) := by decide +kernel
theorem dX12_someOf_4 : decode cX12_someOf 4 = .ok (.iconst 0, 1) := by decide +kernel
theorem dX12_someOf_5 : decode cX12_someOf 5 = .ok (.istore 4, 2) := by decide +kernel
theorem dX12_someOf_7 : decode cX12_someOf 7 = .ok (.iload 4, 2) := by decide +kernel
theorem dX12_someOf_9 : decode cX12_someOf 9 = .ok (.aload_n 0, 1) := by decide +kernel
theorem dX12_someOf_10 : decode cX12_someOf 10 = .ok (.getfield 103, 3) := by decide +kernel
theorem dX12_someOf_13 : decode cX12_someOf 13 = .ok (.if_icmp .ge 46, 3) := by decide +kernel
theorem dX12_someOf_16 : decode cX12_someOf 16 = .ok (.aload_n 0, 1) := by decide +kernel
theorem dX12_someOf_17 : decode cX12_someOf 17 = .ok (.getfield 25, 3) := by decide +kernel
theorem dX12_someOf_20 : decode cX12_someOf 20 = .ok (.bipush 8, 2) := by decide +kernel
theorem dX12_someOf_22 : decode cX12_someOf 22 = .ok (.iaload, 1) := by decide +kernel
theorem dX12_someOf_23 : decode cX12_someOf 23 = .ok (.iload 4, 2) := by decide +kernel
theorem dX12_someOf_25 : decode cX12_someOf 25 = .ok (.invokestatic 149, 3) := by decide +kernel
theorem dX12_someOf_28 : decode cX12_someOf 28 = .ok (.ifCond .ne 25, 3) := by decide +kernel
theorem dX12_someOf_31 : decode cX12_someOf 31 = .ok (.iload_n 2, 1) := by decide +kernel
theorem dX12_someOf_32 : decode cX12_someOf 32 = .ok (.iload_n 1, 1) := by decide +kernel
theorem dX12_someOf_33 : decode cX12_someOf 33 = .ok (.iload_n 3, 1) := by decide +kernel
theorem dX12_someOf_34 : decode cX12_someOf 34 = .ok (.invokestatic 149, 3) := by decide +kernel
theorem dX12_someOf_37 : decode cX12_someOf 37 = .ok (.ifCond .eq 10, 3) := by decide +kernel
theorem dX12_someOf_40 : decode cX12_someOf 40 = .ok (.iconst 1, 1) := by decide +kernel
theorem dX12_someOf_41 : decode cX12_someOf 41 = .ok (.iload 4, 2) := by decide +kernel
theorem dX12_someOf_43 : decode cX12_someOf 43 = .ok (.ishl, 1) := by decide +kernel
theorem dX12_someOf_44 : decode cX12_someOf 44 = .ok (.goto 4, 3) := by decide +kernel
theorem dX12_someOf_47 : decode cX12_someOf 47 = .ok (.iconst 0, 1) := by decide +kernel
theorem dX12_someOf_48 : decode cX12_someOf 48 = .ok (.ior, 1) := by decide +kernel
theorem dX12_someOf_49 : decode cX12_someOf 49 = .ok (.istore_n 2, 1) := by decide +kernel
theorem dX12_someOf_50 : decode cX12_someOf 50 = .ok (.iinc 3 1, 3) := by decide +kernel
theorem dX12_someOf_53 : decode cX12_someOf 53 = .ok (.iinc 4 1, 3) := by decide +kernel
theorem dX12_someOf_56 : decode cX12_someOf 56 = .ok (.goto (-49), 3) := by decide +kernel
theorem dX12_someOf_59 : decode cX12_someOf 59 = .ok (.iload_n 2, 1) := by decide +kernel
theorem dX12_someOf_60 : decode cX12_someOf 60 = .ok (.ireturn, 1) := by decide +kernel
theorem dX12_unbarred_0 : decode cX12_unbarred 0 = .ok (.aload_n 0, 1) := by decide +kernel
theorem dX12_unbarred_1 : decode cX12_unbarred 1 = .ok (.getfield 103, 3) := by decide +kernel
theorem dX12_unbarred_4 : decode cX12_unbarred 4 = .ok (.aload_n 0, 1) := by decide +kernel
theorem dX12_unbarred_5 : decode cX12_unbarred 5 = .ok (.getfield 25, 3) := by decide +kernel
theorem dX12_unbarred_8 : decode cX12_unbarred 8 = .ok (.bipush 8, 2) := by decide +kernel
theorem dX12_unbarred_10 : decode cX12_unbarred 10 = .ok (.iaload, 1) := by decide +kernel
theorem dX12_unbarred_11 : decode cX12_unbarred 11 = .ok (.invokestatic 330, 3) := by decide +kernel
theorem dX12_unbarred_14 : decode cX12_unbarred 14 = .ok (.isub, 1) := by decide +kernel
theorem dX12_unbarred_15 : decode cX12_unbarred 15 = .ok (.ireturn, 1) := by decide +kernel
theorem dX12_layWorth_0 : decode cX12_layWorth 0 = .ok (.aload_n 0, 1) := by decide +kernel
theorem dX12_layWorth_1 : decode cX12_layWorth 1 = .ok (.aload_n 0, 1) := by decide +kernel
theorem dX12_layWorth_2 : decode cX12_layWorth 2 = .ok (.getfield 25, 3) := by decide +kernel
theorem dX12_layWorth_5 : decode cX12_layWorth 5 = .ok (.invokevirtual 202, 3) := by decide +kernel
theorem dX12_layWorth_8 : decode cX12_layWorth 8 = .ok (.iconst 0, 1) := by decide +kernel
theorem dX12_layWorth_9 : decode cX12_layWorth 9 = .ok (.istore_n 1, 1) := by decide +kernel
theorem dX12_layWorth_10 : decode cX12_layWorth 10 = .ok (.iload_n 1, 1) := by decide +kernel
theorem dX12_layWorth_11 : decode cX12_layWorth 11 = .ok (.iconst 1, 1) := by decide +kernel
theorem dX12_layWorth_12 : decode cX12_layWorth 12 = .ok (.aload_n 0, 1) := by decide +kernel
theorem dX12_layWorth_13 : decode cX12_layWorth 13 = .ok (.invokevirtual 333, 3) := by decide +kernel
theorem dX12_layWorth_16 : decode cX12_layWorth 16 = .ok (.ishl, 1) := by decide +kernel
theorem dX12_layWorth_17 : decode cX12_layWorth 17 = .ok (.if_icmp .ge 32, 3) := by decide +kernel
theorem dX12_layWorth_20 : decode cX12_layWorth 20 = .ok (.aload_n 0, 1) := by decide +kernel
theorem dX12_layWorth_21 : decode cX12_layWorth 21 = .ok (.aload_n 0, 1) := by decide +kernel
theorem dX12_layWorth_22 : decode cX12_layWorth 22 = .ok (.iload_n 1, 1) := by decide +kernel
theorem dX12_layWorth_23 : decode cX12_layWorth 23 = .ok (.invokevirtual 336, 3) := by decide +kernel
theorem dX12_layWorth_26 : decode cX12_layWorth 26 = .ok (.putfield 191, 3) := by decide +kernel
theorem dX12_layWorth_29 : decode cX12_layWorth 29 = .ok (.aload_n 0, 1) := by decide +kernel
theorem dX12_layWorth_30 : decode cX12_layWorth 30 = .ok (.invokevirtual 205, 3) := by decide +kernel
theorem dX12_layWorth_33 : decode cX12_layWorth 33 = .ok (.aload_n 0, 1) := by decide +kernel
theorem dX12_layWorth_34 : decode cX12_layWorth 34 = .ok (.getfield 96, 3) := by decide +kernel
theorem dX12_layWorth_37 : decode cX12_layWorth 37 = .ok (.iload_n 1, 1) := by decide +kernel
theorem dX12_layWorth_38 : decode cX12_layWorth 38 = .ok (.aload_n 0, 1) := by decide +kernel
theorem dX12_layWorth_39 : decode cX12_layWorth 39 = .ok (.invokevirtual 208, 3) := by decide +kernel
theorem dX12_layWorth_42 : decode cX12_layWorth 42 = .ok (.lastore, 1) := by decide +kernel
theorem dX12_layWorth_43 : decode cX12_layWorth 43 = .ok (.iinc 1 1, 3) := by decide +kernel
theorem dX12_layWorth_46 : decode cX12_layWorth 46 = .ok (.goto (-36), 3) := by decide +kernel
theorem dX12_layWorth_49 : decode cX12_layWorth 49 = .ok (.return_, 1) := by decide +kernel
theorem dX12_share_0 : decode cX12_share 0 = .ok (.aload_n 0, 1) := by decide +kernel
theorem dX12_share_1 : decode cX12_share 1 = .ok (.iload_n 1, 1) := by decide +kernel
theorem dX12_share_2 : decode cX12_share 2 = .ok (.invokevirtual 243, 3) := by decide +kernel
theorem dX12_share_5 : decode cX12_share 5 = .ok (.ifCond .ne 7, 3) := by decide +kernel
theorem dX12_share_8 : decode cX12_share 8 = .ok (.ldc2_w 276, 3) := by decide +kernel
theorem dX12_share_11 : decode cX12_share 11 = .ok (.lreturn, 1) := by decide +kernel
theorem dX12_share_12 : decode cX12_share 12 = .ok (.aload_n 0, 1) := by decide +kernel
theorem dX12_share_13 : decode cX12_share 13 = .ok (.invokevirtual 333, 3) := by decide +kernel
theorem dX12_share_16 : decode cX12_share 16 = .ok (.istore_n 3, 1) := by decide +kernel
theorem dX12_share_17 : decode cX12_share 17 = .ok (.aload_n 0, 1) := by decide +kernel
theorem dX12_share_18 : decode cX12_share 18 = .ok (.getfield 25, 3) := by decide +kernel
theorem dX12_share_21 : decode cX12_share 21 = .ok (.bipush 8, 2) := by decide +kernel
theorem dX12_share_23 : decode cX12_share 23 = .ok (.iaload, 1) := by decide +kernel
theorem dX12_share_24 : decode cX12_share 24 = .ok (.iload_n 1, 1) := by decide +kernel
theorem dX12_share_25 : decode cX12_share 25 = .ok (.invokestatic 149, 3) := by decide +kernel
theorem dX12_share_28 : decode cX12_share 28 = .ok (.ifCond .ne 9, 3) := by decide +kernel
theorem dX12_share_31 : decode cX12_share 31 = .ok (.iload_n 3, 1) := by decide +kernel
theorem dX12_share_32 : decode cX12_share 32 = .ok (.bipush 8, 2) := by decide +kernel
theorem dX12_share_34 : decode cX12_share 34 = .ok (.if_icmp .le 7, 3) := by decide +kernel
theorem dX12_share_37 : decode cX12_share 37 = .ok (.ldc2_w 339, 3) := by decide +kernel
theorem dX12_share_40 : decode cX12_share 40 = .ok (.lreturn, 1) := by decide +kernel
theorem dX12_share_41 : decode cX12_share 41 = .ok (.aload_n 0, 1) := by decide +kernel
theorem dX12_share_42 : decode cX12_share 42 = .ok (.invokevirtual 341, 3) := by decide +kernel
theorem dX12_share_45 : decode cX12_share 45 = .ok (.lconst 0, 1) := by decide +kernel
theorem dX12_share_46 : decode cX12_share 46 = .ok (.lstore 4, 2) := by decide +kernel
theorem dX12_share_48 : decode cX12_share 48 = .ok (.iconst 0, 1) := by decide +kernel
theorem dX12_share_49 : decode cX12_share 49 = .ok (.istore 6, 2) := by decide +kernel
theorem dX12_share_51 : decode cX12_share 51 = .ok (.iload 6, 2) := by decide +kernel
theorem dX12_share_53 : decode cX12_share 53 = .ok (.iconst 1, 1) := by decide +kernel
theorem dX12_share_54 : decode cX12_share 54 = .ok (.iload_n 3, 1) := by decide +kernel
theorem dX12_share_55 : decode cX12_share 55 = .ok (.ishl, 1) := by decide +kernel
theorem dX12_share_56 : decode cX12_share 56 = .ok (.if_icmp .ge 81, 3) := by decide +kernel
theorem dX12_share_59 : decode cX12_share 59 = .ok (.aload_n 0, 1) := by decide +kernel
theorem dX12_share_60 : decode cX12_share 60 = .ok (.iload 6, 2) := by decide +kernel
theorem dX12_share_62 : decode cX12_share 62 = .ok (.invokevirtual 336, 3) := by decide +kernel
theorem dX12_share_65 : decode cX12_share 65 = .ok (.istore 7, 2) := by decide +kernel
theorem dX12_share_67 : decode cX12_share 67 = .ok (.iload 7, 2) := by decide +kernel
theorem dX12_share_69 : decode cX12_share 69 = .ok (.iload_n 1, 1) := by decide +kernel
theorem dX12_share_70 : decode cX12_share 70 = .ok (.invokestatic 149, 3) := by decide +kernel
theorem dX12_share_73 : decode cX12_share 73 = .ok (.ifCond .eq 58, 3) := by decide +kernel
theorem dX12_share_76 : decode cX12_share 76 = .ok (.iload 6, 2) := by decide +kernel
theorem dX12_share_78 : decode cX12_share 78 = .ok (.invokestatic 330, 3) := by decide +kernel
theorem dX12_share_81 : decode cX12_share 81 = .ok (.iconst 1, 1) := by decide +kernel
theorem dX12_share_82 : decode cX12_share 82 = .ok (.isub, 1) := by decide +kernel
theorem dX12_share_83 : decode cX12_share 83 = .ok (.istore 8, 2) := by decide +kernel
theorem dX12_share_85 : decode cX12_share 85 = .ok (.lload 4, 2) := by decide +kernel
theorem dX12_share_87 : decode cX12_share 87 = .ok (.iload 8, 2) := by decide +kernel
theorem dX12_share_89 : decode cX12_share 89 = .ok (.invokestatic 344, 3) := by decide +kernel
theorem dX12_share_92 : decode cX12_share 92 = .ok (.i2l, 1) := by decide +kernel
theorem dX12_share_93 : decode cX12_share 93 = .ok (.iload_n 3, 1) := by decide +kernel
theorem dX12_share_94 : decode cX12_share 94 = .ok (.iconst 1, 1) := by decide +kernel
theorem dX12_share_95 : decode cX12_share 95 = .ok (.isub, 1) := by decide +kernel
theorem dX12_share_96 : decode cX12_share 96 = .ok (.iload 8, 2) := by decide +kernel
theorem dX12_share_98 : decode cX12_share 98 = .ok (.isub, 1) := by decide +kernel
theorem dX12_share_99 : decode cX12_share 99 = .ok (.invokestatic 344, 3) := by decide +kernel
theorem dX12_share_102 : decode cX12_share 102 = .ok (.i2l, 1) := by decide +kernel
theorem dX12_share_103 : decode cX12_share 103 = .ok (.lmul, 1) := by decide +kernel
theorem dX12_share_104 : decode cX12_share 104 = .ok (.aload_n 0, 1) := by decide +kernel
theorem dX12_share_105 : decode cX12_share 105 = .ok (.getfield 96, 3) := by decide +kernel
theorem dX12_share_108 : decode cX12_share 108 = .ok (.iload 6, 2) := by decide +kernel
theorem dX12_share_110 : decode cX12_share 110 = .ok (.laload, 1) := by decide +kernel
theorem dX12_share_111 : decode cX12_share 111 = .ok (.aload_n 0, 1) := by decide +kernel
theorem dX12_share_112 : decode cX12_share 112 = .ok (.getfield 96, 3) := by decide +kernel
theorem dX12_share_115 : decode cX12_share 115 = .ok (.iload 6, 2) := by decide +kernel
theorem dX12_share_117 : decode cX12_share 117 = .ok (.aload_n 0, 1) := by decide +kernel
theorem dX12_share_118 : decode cX12_share 118 = .ok (.iload_n 1, 1) := by decide +kernel
theorem dX12_share_119 : decode cX12_share 119 = .ok (.invokevirtual 347, 3) := by decide +kernel
theorem dX12_share_122 : decode cX12_share 122 = .ok (.iconst (-1), 1) := by decide +kernel
theorem dX12_share_123 : decode cX12_share 123 = .ok (.ixor, 1) := by decide +kernel
theorem dX12_share_124 : decode cX12_share 124 = .ok (.iand, 1) := by decide +kernel
theorem dX12_share_125 : decode cX12_share 125 = .ok (.laload, 1) := by decide +kernel
theorem dX12_share_126 : decode cX12_share 126 = .ok (.lsub, 1) := by decide +kernel
theorem dX12_share_127 : decode cX12_share 127 = .ok (.lmul, 1) := by decide +kernel
theorem dX12_share_128 : decode cX12_share 128 = .ok (.ladd, 1) := by decide +kernel
theorem dX12_share_129 : decode cX12_share 129 = .ok (.lstore 4, 2) := by decide +kernel
theorem dX12_share_131 : decode cX12_share 131 = .ok (.iinc 6 1, 3) := by decide +kernel
theorem dX12_share_134 : decode cX12_share 134 = .ok (.goto (-83), 3) := by decide +kernel
theorem dX12_share_137 : decode cX12_share 137 = .ok (.lload 4, 2) := by decide +kernel
theorem dX12_share_139 : decode cX12_share 139 = .ok (.iload_n 3, 1) := by decide +kernel
theorem dX12_share_140 : decode cX12_share 140 = .ok (.invokestatic 344, 3) := by decide +kernel
theorem dX12_share_143 : decode cX12_share 143 = .ok (.i2l, 1) := by decide +kernel
theorem dX12_share_144 : decode cX12_share 144 = .ok (.iload_n 2, 1) := by decide +kernel
theorem dX12_share_145 : decode cX12_share 145 = .ok (.invokestatic 350, 3) := by decide +kernel
theorem dX12_share_148 : decode cX12_share 148 = .ok (.lreturn, 1) := by decide +kernel
theorem dX12_bitOf_0 : decode cX12_bitOf 0 = .ok (.iconst 0, 1) := by decide +kernel
theorem dX12_bitOf_1 : decode cX12_bitOf 1 = .ok (.istore_n 2, 1) := by decide +kernel
theorem dX12_bitOf_2 : decode cX12_bitOf 2 = .ok (.iconst 0, 1) := by decide +kernel
theorem dX12_bitOf_3 : decode cX12_bitOf 3 = .ok (.istore_n 3, 1) := by decide +kernel
theorem dX12_bitOf_4 : decode cX12_bitOf 4 = .ok (.iload_n 3, 1) := by decide +kernel
theorem dX12_bitOf_5 : decode cX12_bitOf 5 = .ok (.iload_n 1, 1) := by decide +kernel
theorem dX12_bitOf_6 : decode cX12_bitOf 6 = .ok (.if_icmp .ge 31, 3) := by decide +kernel
theorem dX12_bitOf_9 : decode cX12_bitOf 9 = .ok (.iload_n 2, 1) := by decide +kernel
theorem dX12_bitOf_10 : decode cX12_bitOf 10 = .ok (.aload_n 0, 1) := by decide +kernel
theorem dX12_bitOf_11 : decode cX12_bitOf 11 = .ok (.getfield 25, 3) := by decide +kernel
theorem dX12_bitOf_14 : decode cX12_bitOf 14 = .ok (.bipush 8, 2) := by decide +kernel
theorem dX12_bitOf_16 : decode cX12_bitOf 16 = .ok (.iaload, 1) := by decide +kernel
theorem dX12_bitOf_17 : decode cX12_bitOf 17 = .ok (.iload_n 3, 1) := by decide +kernel
theorem dX12_bitOf_18 : decode cX12_bitOf 18 = .ok (.invokestatic 149, 3) := by decide +kernel
theorem dX12_bitOf_21 : decode cX12_bitOf 21 = .ok (.ifCond .eq 7, 3) := by decide +kernel
theorem dX12_bitOf_24 : decode cX12_bitOf 24 = .ok (.iconst 0, 1) := by decide +kernel
theorem dX12_bitOf_25 : decode cX12_bitOf 25 = .ok (.goto 4, 3) := by decide +kernel
theorem dX12_bitOf_28 : decode cX12_bitOf 28 = .ok (.iconst 1, 1) := by decide +kernel
theorem dX12_bitOf_29 : decode cX12_bitOf 29 = .ok (.iadd, 1) := by decide +kernel
theorem dX12_bitOf_30 : decode cX12_bitOf 30 = .ok (.istore_n 2, 1) := by decide +kernel
theorem dX12_bitOf_31 : decode cX12_bitOf 31 = .ok (.iinc 3 1, 3) := by decide +kernel
theorem dX12_bitOf_34 : decode cX12_bitOf 34 = .ok (.goto (-30), 3) := by decide +kernel
theorem dX12_bitOf_37 : decode cX12_bitOf 37 = .ok (.iconst 1, 1) := by decide +kernel
theorem dX12_bitOf_38 : decode cX12_bitOf 38 = .ok (.iload_n 2, 1) := by decide +kernel
theorem dX12_bitOf_39 : decode cX12_bitOf 39 = .ok (.ishl, 1) := by decide +kernel
theorem dX12_bitOf_40 : decode cX12_bitOf 40 = .ok (.ireturn, 1) := by decide +kernel
theorem dX12_hope_0 : decode cX12_hope 0 = .ok (.iload_n 1, 1) := by decide +kernel
theorem dX12_hope_1 : decode cX12_hope 1 = .ok (.i2l, 1) := by decide +kernel
theorem dX12_hope_2 : decode cX12_hope 2 = .ok (.lconst 0, 1) := by decide +kernel
theorem dX12_hope_3 : decode cX12_hope 3 = .ok (.ldc2_w 354, 3) := by decide +kernel
theorem dX12_hope_6 : decode cX12_hope 6 = .ok (.invokestatic 107, 3) := by decide +kernel
theorem dX12_hope_9 : decode cX12_hope 9 = .ok (.ifCond .ne 6, 3) := by decide +kernel
theorem dX12_hope_12 : decode cX12_hope 12 = .ok (.bipush (-2), 2) := by decide +kernel
theorem dX12_hope_14 : decode cX12_hope 14 = .ok (.ireturn, 1) := by decide +kernel
theorem dX12_hope_15 : decode cX12_hope 15 = .ok (.aload_n 0, 1) := by decide +kernel
theorem dX12_hope_16 : decode cX12_hope 16 = .ok (.invokevirtual 333, 3) := by decide +kernel
theorem dX12_hope_19 : decode cX12_hope 19 = .ok (.istore_n 3, 1) := by decide +kernel
theorem dX12_hope_20 : decode cX12_hope 20 = .ok (.iload_n 3, 1) := by decide +kernel
theorem dX12_hope_21 : decode cX12_hope 21 = .ok (.bipush 8, 2) := by decide +kernel
theorem dX12_hope_23 : decode cX12_hope 23 = .ok (.if_icmp .le 6, 3) := by decide +kernel
theorem dX12_hope_26 : decode cX12_hope 26 = .ok (.bipush (-3), 2) := by decide +kernel
theorem dX12_hope_28 : decode cX12_hope 28 = .ok (.ireturn, 1) := by decide +kernel
theorem dX12_hope_29 : decode cX12_hope 29 = .ok (.aload_n 0, 1) := by decide +kernel
theorem dX12_hope_30 : decode cX12_hope 30 = .ok (.invokevirtual 341, 3) := by decide +kernel
theorem dX12_hope_33 : decode cX12_hope 33 = .ok (.iconst 0, 1) := by decide +kernel
theorem dX12_hope_34 : decode cX12_hope 34 = .ok (.istore 4, 2) := by decide +kernel
theorem dX12_hope_36 : decode cX12_hope 36 = .ok (.iconst 0, 1) := by decide +kernel
theorem dX12_hope_37 : decode cX12_hope 37 = .ok (.istore 5, 2) := by decide +kernel
theorem dX12_hope_39 : decode cX12_hope 39 = .ok (.iload 5, 2) := by decide +kernel
theorem dX12_hope_41 : decode cX12_hope 41 = .ok (.iconst 1, 1) := by decide +kernel
theorem dX12_hope_42 : decode cX12_hope 42 = .ok (.iload_n 3, 1) := by decide +kernel
theorem dX12_hope_43 : decode cX12_hope 43 = .ok (.ishl, 1) := by decide +kernel
theorem dX12_hope_44 : decode cX12_hope 44 = .ok (.if_icmp .ge 54, 3) := by decide +kernel
theorem dX12_hope_47 : decode cX12_hope 47 = .ok (.iload 4, 2) := by decide +kernel
theorem dX12_hope_49 : decode cX12_hope 49 = .ok (.aload_n 0, 1) := by decide +kernel
theorem dX12_hope_50 : decode cX12_hope 50 = .ok (.getfield 96, 3) := by decide +kernel
theorem dX12_hope_53 : decode cX12_hope 53 = .ok (.iload 5, 2) := by decide +kernel
theorem dX12_hope_55 : decode cX12_hope 55 = .ok (.laload, 1) := by decide +kernel
theorem dX12_hope_56 : decode cX12_hope 56 = .ok (.lconst 0, 1) := by decide +kernel
theorem dX12_hope_57 : decode cX12_hope 57 = .ok (.lcmp, 1) := by decide +kernel
theorem dX12_hope_58 : decode cX12_hope 58 = .ok (.ifCond .le 30, 3) := by decide +kernel
theorem dX12_hope_61 : decode cX12_hope 61 = .ok (.bipush 10, 2) := by decide +kernel
theorem dX12_hope_63 : decode cX12_hope 63 = .ok (.iload_n 1, 1) := by decide +kernel
theorem dX12_hope_64 : decode cX12_hope 64 = .ok (.isub, 1) := by decide +kernel
theorem dX12_hope_65 : decode cX12_hope 65 = .ok (.iload 5, 2) := by decide +kernel
theorem dX12_hope_67 : decode cX12_hope 67 = .ok (.invokestatic 330, 3) := by decide +kernel
theorem dX12_hope_70 : decode cX12_hope 70 = .ok (.invokestatic 356, 3) := by decide +kernel
theorem dX12_hope_73 : decode cX12_hope 73 = .ok (.iload_n 1, 1) := by decide +kernel
theorem dX12_hope_74 : decode cX12_hope 74 = .ok (.iload_n 3, 1) := by decide +kernel
theorem dX12_hope_75 : decode cX12_hope 75 = .ok (.iload 5, 2) := by decide +kernel
theorem dX12_hope_77 : decode cX12_hope 77 = .ok (.invokestatic 330, 3) := by decide +kernel
theorem dX12_hope_80 : decode cX12_hope 80 = .ok (.isub, 1) := by decide +kernel
theorem dX12_hope_81 : decode cX12_hope 81 = .ok (.invokestatic 356, 3) := by decide +kernel
theorem dX12_hope_84 : decode cX12_hope 84 = .ok (.imul, 1) := by decide +kernel
theorem dX12_hope_85 : decode cX12_hope 85 = .ok (.goto 4, 3) := by decide +kernel
theorem dX12_hope_88 : decode cX12_hope 88 = .ok (.iconst 0, 1) := by decide +kernel
theorem dX12_hope_89 : decode cX12_hope 89 = .ok (.iadd, 1) := by decide +kernel
theorem dX12_hope_90 : decode cX12_hope 90 = .ok (.istore 4, 2) := by decide +kernel
theorem dX12_hope_92 : decode cX12_hope 92 = .ok (.iinc 5 1, 3) := by decide +kernel
theorem dX12_hope_95 : decode cX12_hope 95 = .ok (.goto (-56), 3) := by decide +kernel
theorem dX12_hope_98 : decode cX12_hope 98 = .ok (.iload 4, 2) := by decide +kernel
theorem dX12_hope_100 : decode cX12_hope 100 = .ok (.i2l, 1) := by decide +kernel
theorem dX12_hope_101 : decode cX12_hope 101 = .ok (.bipush 10, 2) := by decide +kernel
theorem dX12_hope_103 : decode cX12_hope 103 = .ok (.iload_n 3, 1) := by decide +kernel
theorem dX12_hope_104 : decode cX12_hope 104 = .ok (.invokestatic 356, 3) := by decide +kernel
theorem dX12_hope_107 : decode cX12_hope 107 = .ok (.i2l, 1) := by decide +kernel
theorem dX12_hope_108 : decode cX12_hope 108 = .ok (.iload_n 2, 1) := by decide +kernel
theorem dX12_hope_109 : decode cX12_hope 109 = .ok (.invokestatic 350, 3) := by decide +kernel
theorem dX12_hope_112 : decode cX12_hope 112 = .ok (.l2i, 1) := by decide +kernel
theorem dX12_hope_113 : decode cX12_hope 113 = .ok (.ireturn, 1) := by decide +kernel
theorem dX12_seed_0 : decode cX12_seed 0 = .ok (.aload_n 0, 1) := by decide +kernel
theorem dX12_seed_1 : decode cX12_seed 1 = .ok (.getfield 359, 3) := by decide +kernel
theorem dX12_seed_4 : decode cX12_seed 4 = .ok (.lstore_n 3, 1) := by decide +kernel
theorem dX12_seed_5 : decode cX12_seed 5 = .ok (.aload_n 0, 1) := by decide +kernel
theorem dX12_seed_6 : decode cX12_seed 6 = .ok (.lload_n 1, 1) := by decide +kernel
theorem dX12_seed_7 : decode cX12_seed 7 = .ok (.putfield 359, 3) := by decide +kernel
theorem dX12_seed_10 : decode cX12_seed 10 = .ok (.lload_n 3, 1) := by decide +kernel
theorem dX12_seed_11 : decode cX12_seed 11 = .ok (.lreturn, 1) := by decide +kernel
theorem dX12_drawn_0 : decode cX12_drawn 0 = .ok (.iload_n 1, 1) := by decide +kernel
theorem dX12_drawn_1 : decode cX12_drawn 1 = .ok (.i2l, 1) := by decide +kernel
theorem dX12_drawn_2 : decode cX12_drawn 2 = .ok (.lconst 1, 1) := by decide +kernel
theorem dX12_drawn_3 : decode cX12_drawn 3 = .ok (.ldc2_w 363, 3) := by decide +kernel
theorem dX12_drawn_6 : decode cX12_drawn 6 = .ok (.invokestatic 107, 3) := by decide +kernel
theorem dX12_drawn_9 : decode cX12_drawn 9 = .ok (.ifCond .ne 6, 3) := by decide +kernel
theorem dX12_drawn_12 : decode cX12_drawn 12 = .ok (.bipush (-2), 2) := by decide +kernel
theorem dX12_drawn_14 : decode cX12_drawn 14 = .ok (.ireturn, 1) := by decide +kernel
theorem dX12_drawn_15 : decode cX12_drawn 15 = .ok (.aload_n 0, 1) := by decide +kernel
theorem dX12_drawn_16 : decode cX12_drawn 16 = .ok (.aload_n 0, 1) := by decide +kernel
theorem dX12_drawn_17 : decode cX12_drawn 17 = .ok (.getfield 25, 3) := by decide +kernel
theorem dX12_drawn_20 : decode cX12_drawn 20 = .ok (.invokevirtual 272, 3) := by decide +kernel
theorem dX12_drawn_23 : decode cX12_drawn 23 = .ok (.lstore_n 2, 1) := by decide +kernel
theorem dX12_drawn_24 : decode cX12_drawn 24 = .ok (.iconst 0, 1) := by decide +kernel
theorem dX12_drawn_25 : decode cX12_drawn 25 = .ok (.istore 4, 2) := by decide +kernel
theorem dX12_drawn_27 : decode cX12_drawn 27 = .ok (.iconst 0, 1) := by decide +kernel
theorem dX12_drawn_28 : decode cX12_drawn 28 = .ok (.istore 5, 2) := by decide +kernel
theorem dX12_drawn_30 : decode cX12_drawn 30 = .ok (.iload 5, 2) := by decide +kernel
theorem dX12_drawn_32 : decode cX12_drawn 32 = .ok (.iload_n 1, 1) := by decide +kernel
theorem dX12_drawn_33 : decode cX12_drawn 33 = .ok (.if_icmp .ge 57, 3) := by decide +kernel
theorem dX12_drawn_36 : decode cX12_drawn 36 = .ok (.aload_n 0, 1) := by decide +kernel
theorem dX12_drawn_37 : decode cX12_drawn 37 = .ok (.aload_n 0, 1) := by decide +kernel
theorem dX12_drawn_38 : decode cX12_drawn 38 = .ok (.getfield 359, 3) := by decide +kernel
theorem dX12_drawn_41 : decode cX12_drawn 41 = .ok (.ldc2_w 365, 3) := by decide +kernel
theorem dX12_drawn_44 : decode cX12_drawn 44 = .ok (.lmul, 1) := by decide +kernel
theorem dX12_drawn_45 : decode cX12_drawn 45 = .ok (.ldc2_w 367, 3) := by decide +kernel
theorem dX12_drawn_48 : decode cX12_drawn 48 = .ok (.ladd, 1) := by decide +kernel
theorem dX12_drawn_49 : decode cX12_drawn 49 = .ok (.putfield 359, 3) := by decide +kernel
theorem dX12_drawn_52 : decode cX12_drawn 52 = .ok (.iload 4, 2) := by decide +kernel
theorem dX12_drawn_54 : decode cX12_drawn 54 = .ok (.lload_n 2, 1) := by decide +kernel
theorem dX12_drawn_55 : decode cX12_drawn 55 = .ok (.lconst 0, 1) := by decide +kernel
theorem dX12_drawn_56 : decode cX12_drawn 56 = .ok (.lcmp, 1) := by decide +kernel
theorem dX12_drawn_57 : decode cX12_drawn 57 = .ok (.ifCond .le 23, 3) := by decide +kernel
theorem dX12_drawn_60 : decode cX12_drawn 60 = .ok (.aload_n 0, 1) := by decide +kernel
theorem dX12_drawn_61 : decode cX12_drawn 61 = .ok (.aload_n 0, 1) := by decide +kernel
theorem dX12_drawn_62 : decode cX12_drawn 62 = .ok (.aload_n 0, 1) := by decide +kernel
theorem dX12_drawn_63 : decode cX12_drawn 63 = .ok (.getfield 359, 3) := by decide +kernel
theorem dX12_drawn_66 : decode cX12_drawn 66 = .ok (.bipush 33, 2) := by decide +kernel
theorem dX12_drawn_68 : decode cX12_drawn 68 = .ok (.lushr, 1) := by decide +kernel
theorem dX12_drawn_69 : decode cX12_drawn 69 = .ok (.lload_n 2, 1) := by decide +kernel
theorem dX12_drawn_70 : decode cX12_drawn 70 = .ok (.lrem, 1) := by decide +kernel
theorem dX12_drawn_71 : decode cX12_drawn 71 = .ok (.invokevirtual 293, 3) := by decide +kernel
theorem dX12_drawn_74 : decode cX12_drawn 74 = .ok (.invokevirtual 290, 3) := by decide +kernel
theorem dX12_drawn_77 : decode cX12_drawn 77 = .ok (.goto 4, 3) := by decide +kernel
theorem dX12_drawn_80 : decode cX12_drawn 80 = .ok (.iconst 0, 1) := by decide +kernel
theorem dX12_drawn_81 : decode cX12_drawn 81 = .ok (.iadd, 1) := by decide +kernel
theorem dX12_drawn_82 : decode cX12_drawn 82 = .ok (.istore 4, 2) := by decide +kernel
theorem dX12_drawn_84 : decode cX12_drawn 84 = .ok (.iinc 5 1, 3) := by decide +kernel
theorem dX12_drawn_87 : decode cX12_drawn 87 = .ok (.goto (-57), 3) := by decide +kernel
theorem dX12_drawn_90 : decode cX12_drawn 90 = .ok (.iload 4, 2) := by decide +kernel
theorem dX12_drawn_92 : decode cX12_drawn 92 = .ok (.ireturn, 1) := by decide +kernel
theorem dX12_keep_0 : decode cX12_keep 0 = .ok (.iload_n 1, 1) := by decide +kernel
theorem dX12_keep_1 : decode cX12_keep 1 = .ok (.i2l, 1) := by decide +kernel
theorem dX12_keep_2 : decode cX12_keep 2 = .ok (.lconst 0, 1) := by decide +kernel
theorem dX12_keep_3 : decode cX12_keep 3 = .ok (.lconst 1, 1) := by decide +kernel
theorem dX12_keep_4 : decode cX12_keep 4 = .ok (.invokestatic 107, 3) := by decide +kernel
theorem dX12_keep_7 : decode cX12_keep 7 = .ok (.ifCond .ne 5, 3) := by decide +kernel
theorem dX12_keep_10 : decode cX12_keep 10 = .ok (.iconst (-1), 1) := by decide +kernel
theorem dX12_keep_11 : decode cX12_keep 11 = .ok (.ireturn, 1) := by decide +kernel
theorem dX12_keep_12 : decode cX12_keep 12 = .ok (.aload_n 0, 1) := by decide +kernel
theorem dX12_keep_13 : decode cX12_keep 13 = .ok (.getfield 37, 3) := by decide +kernel
theorem dX12_keep_16 : decode cX12_keep 16 = .ok (.iload_n 1, 1) := by decide +kernel
theorem dX12_keep_17 : decode cX12_keep 17 = .ok (.iconst 1, 1) := by decide +kernel
theorem dX12_keep_18 : decode cX12_keep 18 = .ok (.bastore, 1) := by decide +kernel
theorem dX12_keep_19 : decode cX12_keep 19 = .ok (.iconst 0, 1) := by decide +kernel
theorem dX12_keep_20 : decode cX12_keep 20 = .ok (.istore_n 2, 1) := by decide +kernel
theorem dX12_keep_21 : decode cX12_keep 21 = .ok (.iload_n 2, 1) := by decide +kernel
theorem dX12_keep_22 : decode cX12_keep 22 = .ok (.bipush 25, 2) := by decide +kernel
theorem dX12_keep_24 : decode cX12_keep 24 = .ok (.if_icmp .ge 26, 3) := by decide +kernel
theorem dX12_keep_27 : decode cX12_keep 27 = .ok (.aload_n 0, 1) := by decide +kernel
theorem dX12_keep_28 : decode cX12_keep 28 = .ok (.getfield 34, 3) := by decide +kernel
theorem dX12_keep_31 : decode cX12_keep 31 = .ok (.bipush 25, 2) := by decide +kernel
theorem dX12_keep_33 : decode cX12_keep 33 = .ok (.iload_n 1, 1) := by decide +kernel
theorem dX12_keep_34 : decode cX12_keep 34 = .ok (.imul, 1) := by decide +kernel
theorem dX12_keep_35 : decode cX12_keep 35 = .ok (.iload_n 2, 1) := by decide +kernel
theorem dX12_keep_36 : decode cX12_keep 36 = .ok (.iadd, 1) := by decide +kernel
theorem dX12_keep_37 : decode cX12_keep 37 = .ok (.aload_n 0, 1) := by decide +kernel
theorem dX12_keep_38 : decode cX12_keep 38 = .ok (.getfield 25, 3) := by decide +kernel
theorem dX12_keep_41 : decode cX12_keep 41 = .ok (.iload_n 2, 1) := by decide +kernel
theorem dX12_keep_42 : decode cX12_keep 42 = .ok (.iaload, 1) := by decide +kernel
theorem dX12_keep_43 : decode cX12_keep 43 = .ok (.iastore, 1) := by decide +kernel
theorem dX12_keep_44 : decode cX12_keep 44 = .ok (.iinc 2 1, 3) := by decide +kernel
theorem dX12_keep_47 : decode cX12_keep 47 = .ok (.goto (-26), 3) := by decide +kernel
theorem dX12_keep_50 : decode cX12_keep 50 = .ok (.aload_n 0, 1) := by decide +kernel
theorem dX12_keep_51 : decode cX12_keep 51 = .ok (.getfield 103, 3) := by decide +kernel
theorem dX12_keep_54 : decode cX12_keep 54 = .ok (.ireturn, 1) := by decide +kernel
theorem dX12_again_0 : decode cX12_again 0 = .ok (.iload_n 1, 1) := by decide +kernel
theorem dX12_again_1 : decode cX12_again 1 = .ok (.i2l, 1) := by decide +kernel
theorem dX12_again_2 : decode cX12_again 2 = .ok (.lconst 0, 1) := by decide +kernel
theorem dX12_again_3 : decode cX12_again 3 = .ok (.lconst 1, 1) := by decide +kernel
theorem dX12_again_4 : decode cX12_again 4 = .ok (.invokestatic 107, 3) := by decide +kernel
theorem dX12_again_7 : decode cX12_again 7 = .ok (.ifCond .ne 5, 3) := by decide +kernel
theorem dX12_again_10 : decode cX12_again 10 = .ok (.iconst (-1), 1) := by decide +kernel
theorem dX12_again_11 : decode cX12_again 11 = .ok (.ireturn, 1) := by decide +kernel
theorem dX12_again_12 : decode cX12_again 12 = .ok (.aload_n 0, 1) := by decide +kernel
theorem dX12_again_13 : decode cX12_again 13 = .ok (.getfield 37, 3) := by decide +kernel
theorem dX12_again_16 : decode cX12_again 16 = .ok (.iload_n 1, 1) := by decide +kernel
theorem dX12_again_17 : decode cX12_again 17 = .ok (.baload, 1) := by decide +kernel
theorem dX12_again_18 : decode cX12_again 18 = .ok (.ifCond .ne 6, 3) := by decide +kernel
theorem dX12_again_21 : decode cX12_again 21 = .ok (.bipush (-3), 2) := by decide +kernel
theorem dX12_again_23 : decode cX12_again 23 = .ok (.ireturn, 1) := by decide +kernel
theorem dX12_again_24 : decode cX12_again 24 = .ok (.iconst 0, 1) := by decide +kernel
theorem dX12_again_25 : decode cX12_again 25 = .ok (.istore_n 2, 1) := by decide +kernel
theorem dX12_again_26 : decode cX12_again 26 = .ok (.iload_n 2, 1) := by decide +kernel
theorem dX12_again_27 : decode cX12_again 27 = .ok (.bipush 25, 2) := by decide +kernel
theorem dX12_again_29 : decode cX12_again 29 = .ok (.if_icmp .ge 26, 3) := by decide +kernel
theorem dX12_again_32 : decode cX12_again 32 = .ok (.aload_n 0, 1) := by decide +kernel
theorem dX12_again_33 : decode cX12_again 33 = .ok (.getfield 25, 3) := by decide +kernel
theorem dX12_again_36 : decode cX12_again 36 = .ok (.iload_n 2, 1) := by decide +kernel
theorem dX12_again_37 : decode cX12_again 37 = .ok (.aload_n 0, 1) := by decide +kernel
theorem dX12_again_38 : decode cX12_again 38 = .ok (.getfield 34, 3) := by decide +kernel
theorem dX12_again_41 : decode cX12_again 41 = .ok (.bipush 25, 2) := by decide +kernel
theorem dX12_again_43 : decode cX12_again 43 = .ok (.iload_n 1, 1) := by decide +kernel
theorem dX12_again_44 : decode cX12_again 44 = .ok (.imul, 1) := by decide +kernel
theorem dX12_again_45 : decode cX12_again 45 = .ok (.iload_n 2, 1) := by decide +kernel
theorem dX12_again_46 : decode cX12_again 46 = .ok (.iadd, 1) := by decide +kernel
theorem dX12_again_47 : decode cX12_again 47 = .ok (.iaload, 1) := by decide +kernel
theorem dX12_again_48 : decode cX12_again 48 = .ok (.iastore, 1) := by decide +kernel
theorem dX12_again_49 : decode cX12_again 49 = .ok (.iinc 2 1, 3) := by decide +kernel
theorem dX12_again_52 : decode cX12_again 52 = .ok (.goto (-26), 3) := by decide +kernel
theorem dX12_again_55 : decode cX12_again 55 = .ok (.aload_n 0, 1) := by decide +kernel
theorem dX12_again_56 : decode cX12_again 56 = .ok (.iconst 0, 1) := by decide +kernel
theorem dX12_again_57 : decode cX12_again 57 = .ok (.putfield 182, 3) := by decide +kernel
theorem dX12_again_60 : decode cX12_again 60 = .ok (.aload_n 0, 1) := by decide +kernel
theorem dX12_again_61 : decode cX12_again 61 = .ok (.getfield 103, 3) := by decide +kernel
theorem dX12_again_64 : decode cX12_again 64 = .ok (.ireturn, 1) := by decide +kernel
theorem dJ6_bitCount_0f7a4_0 : decode cJ6_bitCount_0f7a4 0 = .ok (.iload_n 0, 1) := by decide +kernel
theorem dJ6_bitCount_0f7a4_1 : decode cJ6_bitCount_0f7a4 1 = .ok (.iload_n 0, 1) := by decide +kernel
theorem dJ6_bitCount_0f7a4_2 : decode cJ6_bitCount_0f7a4 2 = .ok (.iconst 1, 1) := by decide +kernel
theorem dJ6_bitCount_0f7a4_3 : decode cJ6_bitCount_0f7a4 3 = .ok (.iushr, 1) := by decide +kernel
theorem dJ6_bitCount_0f7a4_4 : decode cJ6_bitCount_0f7a4 4 = .ok (.ldc_w 265, 3) := by decide +kernel
theorem dJ6_bitCount_0f7a4_7 : decode cJ6_bitCount_0f7a4 7 = .ok (.iand, 1) := by decide +kernel
theorem dJ6_bitCount_0f7a4_8 : decode cJ6_bitCount_0f7a4 8 = .ok (.isub, 1) := by decide +kernel
theorem dJ6_bitCount_0f7a4_9 : decode cJ6_bitCount_0f7a4 9 = .ok (.istore_n 0, 1) := by decide +kernel
theorem dJ6_bitCount_0f7a4_10 : decode cJ6_bitCount_0f7a4 10 = .ok (.iload_n 0, 1) := by decide +kernel
theorem dJ6_bitCount_0f7a4_11 : decode cJ6_bitCount_0f7a4 11 = .ok (.ldc_w 266, 3) := by decide +kernel
theorem dJ6_bitCount_0f7a4_14 : decode cJ6_bitCount_0f7a4 14 = .ok (.iand, 1) := by decide +kernel
theorem dJ6_bitCount_0f7a4_15 : decode cJ6_bitCount_0f7a4 15 = .ok (.iload_n 0, 1) := by decide +kernel
theorem dJ6_bitCount_0f7a4_16 : decode cJ6_bitCount_0f7a4 16 = .ok (.iconst 2, 1) := by decide +kernel
theorem dJ6_bitCount_0f7a4_17 : decode cJ6_bitCount_0f7a4 17 = .ok (.iushr, 1) := by decide +kernel
theorem dJ6_bitCount_0f7a4_18 : decode cJ6_bitCount_0f7a4 18 = .ok (.ldc_w 266, 3) := by decide +kernel
theorem dJ6_bitCount_0f7a4_21 : decode cJ6_bitCount_0f7a4 21 = .ok (.iand, 1) := by decide +kernel
theorem dJ6_bitCount_0f7a4_22 : decode cJ6_bitCount_0f7a4 22 = .ok (.iadd, 1) := by decide +kernel
theorem dJ6_bitCount_0f7a4_23 : decode cJ6_bitCount_0f7a4 23 = .ok (.istore_n 0, 1) := by decide +kernel
theorem dJ6_bitCount_0f7a4_24 : decode cJ6_bitCount_0f7a4 24 = .ok (.iload_n 0, 1) := by decide +kernel
theorem dJ6_bitCount_0f7a4_25 : decode cJ6_bitCount_0f7a4 25 = .ok (.iload_n 0, 1) := by decide +kernel
theorem dJ6_bitCount_0f7a4_26 : decode cJ6_bitCount_0f7a4 26 = .ok (.iconst 4, 1) := by decide +kernel
theorem dJ6_bitCount_0f7a4_27 : decode cJ6_bitCount_0f7a4 27 = .ok (.iushr, 1) := by decide +kernel
theorem dJ6_bitCount_0f7a4_28 : decode cJ6_bitCount_0f7a4 28 = .ok (.iadd, 1) := by decide +kernel
theorem dJ6_bitCount_0f7a4_29 : decode cJ6_bitCount_0f7a4 29 = .ok (.ldc_w 267, 3) := by decide +kernel
theorem dJ6_bitCount_0f7a4_32 : decode cJ6_bitCount_0f7a4 32 = .ok (.iand, 1) := by decide +kernel
theorem dJ6_bitCount_0f7a4_33 : decode cJ6_bitCount_0f7a4 33 = .ok (.istore_n 0, 1) := by decide +kernel
theorem dJ6_bitCount_0f7a4_34 : decode cJ6_bitCount_0f7a4 34 = .ok (.iload_n 0, 1) := by decide +kernel
theorem dJ6_bitCount_0f7a4_35 : decode cJ6_bitCount_0f7a4 35 = .ok (.iload_n 0, 1) := by decide +kernel
theorem dJ6_bitCount_0f7a4_36 : decode cJ6_bitCount_0f7a4 36 = .ok (.bipush 8, 2) := by decide +kernel
theorem dJ6_bitCount_0f7a4_38 : decode cJ6_bitCount_0f7a4 38 = .ok (.iushr, 1) := by decide +kernel
theorem dJ6_bitCount_0f7a4_39 : decode cJ6_bitCount_0f7a4 39 = .ok (.iadd, 1) := by decide +kernel
theorem dJ6_bitCount_0f7a4_40 : decode cJ6_bitCount_0f7a4 40 = .ok (.istore_n 0, 1) := by decide +kernel
theorem dJ6_bitCount_0f7a4_41 : decode cJ6_bitCount_0f7a4 41 = .ok (.iload_n 0, 1) := by decide +kernel
theorem dJ6_bitCount_0f7a4_42 : decode cJ6_bitCount_0f7a4 42 = .ok (.iload_n 0, 1) := by decide +kernel
theorem dJ6_bitCount_0f7a4_43 : decode cJ6_bitCount_0f7a4 43 = .ok (.bipush 16, 2) := by decide +kernel
theorem dJ6_bitCount_0f7a4_45 : decode cJ6_bitCount_0f7a4 45 = .ok (.iushr, 1) := by decide +kernel
theorem dJ6_bitCount_0f7a4_46 : decode cJ6_bitCount_0f7a4 46 = .ok (.iadd, 1) := by decide +kernel
theorem dJ6_bitCount_0f7a4_47 : decode cJ6_bitCount_0f7a4 47 = .ok (.istore_n 0, 1) := by decide +kernel
theorem dJ6_bitCount_0f7a4_48 : decode cJ6_bitCount_0f7a4 48 = .ok (.iload_n 0, 1) := by decide +kernel
theorem dJ6_bitCount_0f7a4_49 : decode cJ6_bitCount_0f7a4 49 = .ok (.bipush 63, 2) := by decide +kernel
theorem dJ6_bitCount_0f7a4_51 : decode cJ6_bitCount_0f7a4 51 = .ok (.iand, 1) := by decide +kernel
theorem dJ6_bitCount_0f7a4_52 : decode cJ6_bitCount_0f7a4 52 = .ok (.ireturn, 1) := by decide +kernel
theorem dJ9_abs_067f4_0 : decode cJ9_abs_067f4 0 = .ok (.lload_n 0, 1) := by decide +kernel
theorem dJ9_abs_067f4_1 : decode cJ9_abs_067f4 1 = .ok (.lconst 0, 1) := by decide +kernel
theorem dJ9_abs_067f4_2 : decode cJ9_abs_067f4 2 = .ok (.lcmp, 1) := by decide +kernel
theorem dJ9_abs_067f4_3 : decode cJ9_abs_067f4 3 = .ok (.ifCond .ge 8, 3) := by decide +kernel
theorem dJ9_abs_067f4_6 : decode cJ9_abs_067f4 6 = .ok (.lload_n 0, 1) := by decide +kernel
theorem dJ9_abs_067f4_7 : decode cJ9_abs_067f4 7 = .ok (.lneg, 1) := by decide +kernel
theorem dJ9_abs_067f4_8 : decode cJ9_abs_067f4 8 = .ok (.goto 4, 3) := by decide +kernel
theorem dJ9_abs_067f4_11 : decode cJ9_abs_067f4 11 = .ok (.lload_n 0, 1) := by decide +kernel
theorem dJ9_abs_067f4_12 : decode cJ9_abs_067f4 12 = .ok (.lreturn, 1) := by decide +kernel
theorem dJ9_max_f86c9_0 : decode cJ9_max_f86c9 0 = .ok (.lload_n 0, 1) := by decide +kernel
theorem dJ9_max_f86c9_1 : decode cJ9_max_f86c9 1 = .ok (.lload_n 2, 1) := by decide +kernel
theorem dJ9_max_f86c9_2 : decode cJ9_max_f86c9 2 = .ok (.lcmp, 1) := by decide +kernel
theorem dJ9_max_f86c9_3 : decode cJ9_max_f86c9 3 = .ok (.ifCond .lt 7, 3) := by decide +kernel
theorem dJ9_max_f86c9_6 : decode cJ9_max_f86c9 6 = .ok (.lload_n 0, 1) := by decide +kernel
theorem dJ9_max_f86c9_7 : decode cJ9_max_f86c9 7 = .ok (.goto 4, 3) := by decide +kernel
theorem dJ9_max_f86c9_10 : decode cJ9_max_f86c9 10 = .ok (.lload_n 2, 1) := by decide +kernel
theorem dJ9_max_f86c9_11 : decode cJ9_max_f86c9 11 = .ok (.lreturn, 1) := by decide +kernel
theorem dJ9_min_7cf53_0 : decode cJ9_min_7cf53 0 = .ok (.iload_n 0, 1) := by decide +kernel
theorem dJ9_min_7cf53_1 : decode cJ9_min_7cf53 1 = .ok (.iload_n 1, 1) := by decide +kernel
theorem dJ9_min_7cf53_2 : decode cJ9_min_7cf53 2 = .ok (.if_icmp .gt 7, 3) := by decide +kernel
theorem dJ9_min_7cf53_5 : decode cJ9_min_7cf53 5 = .ok (.iload_n 0, 1) := by decide +kernel
theorem dJ9_min_7cf53_6 : decode cJ9_min_7cf53 6 = .ok (.goto 4, 3) := by decide +kernel
theorem dJ9_min_7cf53_9 : decode cJ9_min_7cf53 9 = .ok (.iload_n 1, 1) := by decide +kernel
theorem dJ9_min_7cf53_10 : decode cJ9_min_7cf53 10 = .ok (.ireturn, 1) := by decide +kernel
theorem dL_law_0 : decode cL_law 0 = .ok (.new 7, 3) := by decide +kernel
theorem dL_law_3 : decode cL_law 3 = .ok (.dup, 1) := by decide +kernel
theorem dL_law_4 : decode cL_law 4 = .ok (.invokespecial 9, 3) := by decide +kernel
theorem dL_law_7 : decode cL_law 7 = .ok (.astore_n 1, 1) := by decide +kernel
theorem dL_law_8 : decode cL_law 8 = .ok (.new 10, 3) := by decide +kernel
theorem dL_law_11 : decode cL_law 11 = .ok (.dup, 1) := by decide +kernel
theorem dL_law_12 : decode cL_law 12 = .ok (.invokespecial 12, 3) := by decide +kernel
theorem dL_law_15 : decode cL_law 15 = .ok (.astore_n 2, 1) := by decide +kernel
theorem dL_law_16 : decode cL_law 16 = .ok (.iconst 0, 1) := by decide +kernel
theorem dL_law_17 : decode cL_law 17 = .ok (.istore_n 3, 1) := by decide +kernel
theorem dL_law_18 : decode cL_law 18 = .ok (.iload_n 3, 1) := by decide +kernel
theorem dL_law_19 : decode cL_law 19 = .ok (.aload_n 0, 1) := by decide +kernel
theorem dL_law_20 : decode cL_law 20 = .ok (.arraylength, 1) := by decide +kernel
theorem dL_law_21 : decode cL_law 21 = .ok (.iconst 4, 1) := by decide +kernel
theorem dL_law_22 : decode cL_law 22 = .ok (.isub, 1) := by decide +kernel
theorem dL_law_23 : decode cL_law 23 = .ok (.if_icmp .gt 1062, 3) := by decide +kernel
theorem dL_law_26 : decode cL_law 26 = .ok (.aload_n 0, 1) := by decide +kernel
theorem dL_law_27 : decode cL_law 27 = .ok (.iload_n 3, 1) := by decide +kernel
theorem dL_law_28 : decode cL_law 28 = .ok (.iaload, 1) := by decide +kernel
theorem dL_law_29 : decode cL_law 29 = .ok (.bipush 31, 2) := by decide +kernel
theorem dL_law_31 : decode cL_law 31 = .ok (.iand, 1) := by decide +kernel
theorem dL_law_32 : decode cL_law 32 = .ok (.tableswitch 1047 0 31 #[144, 167, 180, 193, 206, 229, 262, 295, 318, 341, 364, 397, 440, 453, 477, 501, 524, 587, 610, 623, 646, 660, 683, 746, 789, 802, 825, 875, 924, 978, 1001, 1024], 144) := by decide +kernel
theorem dL_law_176 : decode cL_law 176 = .ok (.aload_n 1, 1) := by decide +kernel
theorem dL_law_177 : decode cL_law 177 = .ok (.aload_n 0, 1) := by decide +kernel
theorem dL_law_178 : decode cL_law 178 = .ok (.iload_n 3, 1) := by decide +kernel
theorem dL_law_179 : decode cL_law 179 = .ok (.iconst 1, 1) := by decide +kernel
theorem dL_law_180 : decode cL_law 180 = .ok (.iadd, 1) := by decide +kernel
theorem dL_law_181 : decode cL_law 181 = .ok (.iaload, 1) := by decide +kernel
theorem dL_law_182 : decode cL_law 182 = .ok (.invokevirtual 13, 3) := by decide +kernel
theorem dL_law_185 : decode cL_law 185 = .ok (.aload_n 2, 1) := by decide +kernel
theorem dL_law_186 : decode cL_law 186 = .ok (.aload_n 0, 1) := by decide +kernel
theorem dL_law_187 : decode cL_law 187 = .ok (.iload_n 3, 1) := by decide +kernel
theorem dL_law_188 : decode cL_law 188 = .ok (.iconst 1, 1) := by decide +kernel
theorem dL_law_189 : decode cL_law 189 = .ok (.iadd, 1) := by decide +kernel
theorem dL_law_190 : decode cL_law 190 = .ok (.iaload, 1) := by decide +kernel
theorem dL_law_191 : decode cL_law 191 = .ok (.invokevirtual 17, 3) := by decide +kernel
theorem dL_law_194 : decode cL_law 194 = .ok (.if_icmp .eq 885, 3) := by decide +kernel
theorem dL_law_197 : decode cL_law 197 = .ok (.iconst 0, 1) := by decide +kernel
theorem dL_law_198 : decode cL_law 198 = .ok (.ireturn, 1) := by decide +kernel
theorem dL_law_199 : decode cL_law 199 = .ok (.aload_n 1, 1) := by decide +kernel
theorem dL_law_200 : decode cL_law 200 = .ok (.invokevirtual 18, 3) := by decide +kernel
theorem dL_law_203 : decode cL_law 203 = .ok (.aload_n 2, 1) := by decide +kernel
theorem dL_law_204 : decode cL_law 204 = .ok (.invokevirtual 22, 3) := by decide +kernel
theorem dL_law_207 : decode cL_law 207 = .ok (.if_icmp .eq 872, 3) := by decide +kernel
theorem dL_law_210 : decode cL_law 210 = .ok (.iconst 0, 1) := by decide +kernel
theorem dL_law_211 : decode cL_law 211 = .ok (.ireturn, 1) := by decide +kernel
theorem dL_law_212 : decode cL_law 212 = .ok (.aload_n 1, 1) := by decide +kernel
theorem dL_law_213 : decode cL_law 213 = .ok (.invokevirtual 23, 3) := by decide +kernel
theorem dL_law_216 : decode cL_law 216 = .ok (.aload_n 2, 1) := by decide +kernel
theorem dL_law_217 : decode cL_law 217 = .ok (.invokevirtual 26, 3) := by decide +kernel
theorem dL_law_220 : decode cL_law 220 = .ok (.if_icmp .eq 859, 3) := by decide +kernel
theorem dL_law_223 : decode cL_law 223 = .ok (.iconst 0, 1) := by decide +kernel
theorem dL_law_224 : decode cL_law 224 = .ok (.ireturn, 1) := by decide +kernel
theorem dL_law_225 : decode cL_law 225 = .ok (.aload_n 1, 1) := by decide +kernel
theorem dL_law_226 : decode cL_law 226 = .ok (.invokevirtual 27, 3) := by decide +kernel
theorem dL_law_229 : decode cL_law 229 = .ok (.aload_n 2, 1) := by decide +kernel
theorem dL_law_230 : decode cL_law 230 = .ok (.invokevirtual 30, 3) := by decide +kernel
theorem dL_law_233 : decode cL_law 233 = .ok (.if_icmp .eq 846, 3) := by decide +kernel
theorem dL_law_236 : decode cL_law 236 = .ok (.iconst 0, 1) := by decide +kernel
theorem dL_law_237 : decode cL_law 237 = .ok (.ireturn, 1) := by decide +kernel
theorem dL_law_238 : decode cL_law 238 = .ok (.aload_n 1, 1) := by decide +kernel
theorem dL_law_239 : decode cL_law 239 = .ok (.aload_n 0, 1) := by decide +kernel
theorem dL_law_240 : decode cL_law 240 = .ok (.iload_n 3, 1) := by decide +kernel
theorem dL_law_241 : decode cL_law 241 = .ok (.iconst 1, 1) := by decide +kernel
theorem dL_law_242 : decode cL_law 242 = .ok (.iadd, 1) := by decide +kernel
theorem dL_law_243 : decode cL_law 243 = .ok (.iaload, 1) := by decide +kernel
theorem dL_law_244 : decode cL_law 244 = .ok (.invokevirtual 31, 3) := by decide +kernel
theorem dL_law_247 : decode cL_law 247 = .ok (.aload_n 2, 1) := by decide +kernel
theorem dL_law_248 : decode cL_law 248 = .ok (.aload_n 0, 1) := by decide +kernel
theorem dL_law_249 : decode cL_law 249 = .ok (.iload_n 3, 1) := by decide +kernel
theorem dL_law_250 : decode cL_law 250 = .ok (.iconst 1, 1) := by decide +kernel
theorem dL_law_251 : decode cL_law 251 = .ok (.iadd, 1) := by decide +kernel
theorem dL_law_252 : decode cL_law 252 = .ok (.iaload, 1) := by decide +kernel
theorem dL_law_253 : decode cL_law 253 = .ok (.invokevirtual 34, 3) := by decide +kernel
theorem dL_law_256 : decode cL_law 256 = .ok (.if_icmp .eq 823, 3) := by decide +kernel
theorem dL_law_259 : decode cL_law 259 = .ok (.iconst 0, 1) := by decide +kernel
theorem dL_law_260 : decode cL_law 260 = .ok (.ireturn, 1) := by decide +kernel
theorem dL_law_261 : decode cL_law 261 = .ok (.aload_n 1, 1) := by decide +kernel
theorem dL_law_262 : decode cL_law 262 = .ok (.aload_n 0, 1) := by decide +kernel
theorem dL_law_263 : decode cL_law 263 = .ok (.iload_n 3, 1) := by decide +kernel
theorem dL_law_264 : decode cL_law 264 = .ok (.iconst 1, 1) := by decide +kernel
theorem dL_law_265 : decode cL_law 265 = .ok (.iadd, 1) := by decide +kernel
theorem dL_law_266 : decode cL_law 266 = .ok (.iaload, 1) := by decide +kernel
theorem dL_law_267 : decode cL_law 267 = .ok (.aload_n 0, 1) := by decide +kernel
theorem dL_law_268 : decode cL_law 268 = .ok (.iload_n 3, 1) := by decide +kernel
theorem dL_law_269 : decode cL_law 269 = .ok (.iconst 2, 1) := by decide +kernel
theorem dL_law_270 : decode cL_law 270 = .ok (.iadd, 1) := by decide +kernel
theorem dL_law_271 : decode cL_law 271 = .ok (.iaload, 1) := by decide +kernel
theorem dL_law_272 : decode cL_law 272 = .ok (.invokevirtual 35, 3) := by decide +kernel
theorem dL_law_275 : decode cL_law 275 = .ok (.aload_n 2, 1) := by decide +kernel
theorem dL_law_276 : decode cL_law 276 = .ok (.aload_n 0, 1) := by decide +kernel
theorem dL_law_277 : decode cL_law 277 = .ok (.iload_n 3, 1) := by decide +kernel
theorem dL_law_278 : decode cL_law 278 = .ok (.iconst 1, 1) := by decide +kernel
theorem dL_law_279 : decode cL_law 279 = .ok (.iadd, 1) := by decide +kernel
theorem dL_law_280 : decode cL_law 280 = .ok (.iaload, 1) := by decide +kernel
theorem dL_law_281 : decode cL_law 281 = .ok (.aload_n 0, 1) := by decide +kernel
theorem dL_law_282 : decode cL_law 282 = .ok (.iload_n 3, 1) := by decide +kernel
theorem dL_law_283 : decode cL_law 283 = .ok (.iconst 2, 1) := by decide +kernel
theorem dL_law_284 : decode cL_law 284 = .ok (.iadd, 1) := by decide +kernel
theorem dL_law_285 : decode cL_law 285 = .ok (.iaload, 1) := by decide +kernel
theorem dL_law_286 : decode cL_law 286 = .ok (.invokevirtual 39, 3) := by decide +kernel
theorem dL_law_289 : decode cL_law 289 = .ok (.if_icmp .eq 790, 3) := by decide +kernel
theorem dL_law_292 : decode cL_law 292 = .ok (.iconst 0, 1) := by decide +kernel
theorem dL_law_293 : decode cL_law 293 = .ok (.ireturn, 1) := by decide +kernel
theorem dL_law_294 : decode cL_law 294 = .ok (.aload_n 1, 1) := by decide +kernel
theorem dL_law_295 : decode cL_law 295 = .ok (.aload_n 0, 1) := by decide +kernel
theorem dL_law_296 : decode cL_law 296 = .ok (.iload_n 3, 1) := by decide +kernel
theorem dL_law_297 : decode cL_law 297 = .ok (.iconst 1, 1) := by decide +kernel
theorem dL_law_298 : decode cL_law 298 = .ok (.iadd, 1) := by decide +kernel
theorem dL_law_299 : decode cL_law 299 = .ok (.iaload, 1) := by decide +kernel
theorem dL_law_300 : decode cL_law 300 = .ok (.aload_n 0, 1) := by decide +kernel
theorem dL_law_301 : decode cL_law 301 = .ok (.iload_n 3, 1) := by decide +kernel
theorem dL_law_302 : decode cL_law 302 = .ok (.iconst 2, 1) := by decide +kernel
theorem dL_law_303 : decode cL_law 303 = .ok (.iadd, 1) := by decide +kernel
theorem dL_law_304 : decode cL_law 304 = .ok (.iaload, 1) := by decide +kernel
theorem dL_law_305 : decode cL_law 305 = .ok (.invokevirtual 40, 3) := by decide +kernel
theorem dL_law_308 : decode cL_law 308 = .ok (.aload_n 2, 1) := by decide +kernel
theorem dL_law_309 : decode cL_law 309 = .ok (.aload_n 0, 1) := by decide +kernel
theorem dL_law_310 : decode cL_law 310 = .ok (.iload_n 3, 1) := by decide +kernel
theorem dL_law_311 : decode cL_law 311 = .ok (.iconst 1, 1) := by decide +kernel
theorem dL_law_312 : decode cL_law 312 = .ok (.iadd, 1) := by decide +kernel
theorem dL_law_313 : decode cL_law 313 = .ok (.iaload, 1) := by decide +kernel
theorem dL_law_314 : decode cL_law 314 = .ok (.aload_n 0, 1) := by decide +kernel
theorem dL_law_315 : decode cL_law 315 = .ok (.iload_n 3, 1) := by decide +kernel
theorem dL_law_316 : decode cL_law 316 = .ok (.iconst 2, 1) := by decide +kernel
theorem dL_law_317 : decode cL_law 317 = .ok (.iadd, 1) := by decide +kernel
theorem dL_law_318 : decode cL_law 318 = .ok (.iaload, 1) := by decide +kernel
theorem dL_law_319 : decode cL_law 319 = .ok (.invokevirtual 43, 3) := by decide +kernel
theorem dL_law_322 : decode cL_law 322 = .ok (.if_icmp .eq 757, 3) := by decide +kernel
theorem dL_law_325 : decode cL_law 325 = .ok (.iconst 0, 1) := by decide +kernel
theorem dL_law_326 : decode cL_law 326 = .ok (.ireturn, 1) := by decide +kernel
theorem dL_law_327 : decode cL_law 327 = .ok (.aload_n 1, 1) := by decide +kernel
theorem dL_law_328 : decode cL_law 328 = .ok (.aload_n 0, 1) := by decide +kernel
theorem dL_law_329 : decode cL_law 329 = .ok (.iload_n 3, 1) := by decide +kernel
theorem dL_law_330 : decode cL_law 330 = .ok (.iconst 1, 1) := by decide +kernel
theorem dL_law_331 : decode cL_law 331 = .ok (.iadd, 1) := by decide +kernel
theorem dL_law_332 : decode cL_law 332 = .ok (.iaload, 1) := by decide +kernel
theorem dL_law_333 : decode cL_law 333 = .ok (.invokevirtual 44, 3) := by decide +kernel
theorem dL_law_336 : decode cL_law 336 = .ok (.aload_n 2, 1) := by decide +kernel
theorem dL_law_337 : decode cL_law 337 = .ok (.aload_n 0, 1) := by decide +kernel
theorem dL_law_338 : decode cL_law 338 = .ok (.iload_n 3, 1) := by decide +kernel
theorem dL_law_339 : decode cL_law 339 = .ok (.iconst 1, 1) := by decide +kernel
theorem dL_law_340 : decode cL_law 340 = .ok (.iadd, 1) := by decide +kernel
theorem dL_law_341 : decode cL_law 341 = .ok (.iaload, 1) := by decide +kernel
theorem dL_law_342 : decode cL_law 342 = .ok (.invokevirtual 47, 3) := by decide +kernel
theorem dL_law_345 : decode cL_law 345 = .ok (.if_icmp .eq 734, 3) := by decide +kernel
theorem dL_law_348 : decode cL_law 348 = .ok (.iconst 0, 1) := by decide +kernel
theorem dL_law_349 : decode cL_law 349 = .ok (.ireturn, 1) := by decide +kernel
theorem dL_law_350 : decode cL_law 350 = .ok (.aload_n 1, 1) := by decide +kernel
theorem dL_law_351 : decode cL_law 351 = .ok (.aload_n 0, 1) := by decide +kernel
theorem dL_law_352 : decode cL_law 352 = .ok (.iload_n 3, 1) := by decide +kernel
theorem dL_law_353 : decode cL_law 353 = .ok (.iconst 1, 1) := by decide +kernel
theorem dL_law_354 : decode cL_law 354 = .ok (.iadd, 1) := by decide +kernel
theorem dL_law_355 : decode cL_law 355 = .ok (.iaload, 1) := by decide +kernel
theorem dL_law_356 : decode cL_law 356 = .ok (.invokevirtual 48, 3) := by decide +kernel
theorem dL_law_359 : decode cL_law 359 = .ok (.aload_n 2, 1) := by decide +kernel
theorem dL_law_360 : decode cL_law 360 = .ok (.aload_n 0, 1) := by decide +kernel
theorem dL_law_361 : decode cL_law 361 = .ok (.iload_n 3, 1) := by decide +kernel
theorem dL_law_362 : decode cL_law 362 = .ok (.iconst 1, 1) := by decide +kernel
theorem dL_law_363 : decode cL_law 363 = .ok (.iadd, 1) := by decide +kernel
theorem dL_law_364 : decode cL_law 364 = .ok (.iaload, 1) := by decide +kernel
theorem dL_law_365 : decode cL_law 365 = .ok (.invokevirtual 51, 3) := by decide +kernel
theorem dL_law_368 : decode cL_law 368 = .ok (.if_icmp .eq 711, 3) := by decide +kernel
theorem dL_law_371 : decode cL_law 371 = .ok (.iconst 0, 1) := by decide +kernel
theorem dL_law_372 : decode cL_law 372 = .ok (.ireturn, 1) := by decide +kernel
theorem dL_law_373 : decode cL_law 373 = .ok (.aload_n 1, 1) := by decide +kernel
theorem dL_law_374 : decode cL_law 374 = .ok (.aload_n 0, 1) := by decide +kernel
theorem dL_law_375 : decode cL_law 375 = .ok (.iload_n 3, 1) := by decide +kernel
theorem dL_law_376 : decode cL_law 376 = .ok (.iconst 1, 1) := by decide +kernel
theorem dL_law_377 : decode cL_law 377 = .ok (.iadd, 1) := by decide +kernel
theorem dL_law_378 : decode cL_law 378 = .ok (.iaload, 1) := by decide +kernel
theorem dL_law_379 : decode cL_law 379 = .ok (.invokevirtual 52, 3) := by decide +kernel
theorem dL_law_382 : decode cL_law 382 = .ok (.aload_n 2, 1) := by decide +kernel
theorem dL_law_383 : decode cL_law 383 = .ok (.aload_n 0, 1) := by decide +kernel
theorem dL_law_384 : decode cL_law 384 = .ok (.iload_n 3, 1) := by decide +kernel
theorem dL_law_385 : decode cL_law 385 = .ok (.iconst 1, 1) := by decide +kernel
theorem dL_law_386 : decode cL_law 386 = .ok (.iadd, 1) := by decide +kernel
theorem dL_law_387 : decode cL_law 387 = .ok (.iaload, 1) := by decide +kernel
theorem dL_law_388 : decode cL_law 388 = .ok (.invokevirtual 55, 3) := by decide +kernel
theorem dL_law_391 : decode cL_law 391 = .ok (.if_icmp .eq 688, 3) := by decide +kernel
theorem dL_law_394 : decode cL_law 394 = .ok (.iconst 0, 1) := by decide +kernel
theorem dL_law_395 : decode cL_law 395 = .ok (.ireturn, 1) := by decide +kernel
theorem dL_law_396 : decode cL_law 396 = .ok (.aload_n 1, 1) := by decide +kernel
theorem dL_law_397 : decode cL_law 397 = .ok (.aload_n 0, 1) := by decide +kernel
theorem dL_law_398 : decode cL_law 398 = .ok (.iload_n 3, 1) := by decide +kernel
theorem dL_law_399 : decode cL_law 399 = .ok (.iconst 1, 1) := by decide +kernel
theorem dL_law_400 : decode cL_law 400 = .ok (.iadd, 1) := by decide +kernel
theorem dL_law_401 : decode cL_law 401 = .ok (.iaload, 1) := by decide +kernel
theorem dL_law_402 : decode cL_law 402 = .ok (.aload_n 0, 1) := by decide +kernel
theorem dL_law_403 : decode cL_law 403 = .ok (.iload_n 3, 1) := by decide +kernel
theorem dL_law_404 : decode cL_law 404 = .ok (.iconst 2, 1) := by decide +kernel
theorem dL_law_405 : decode cL_law 405 = .ok (.iadd, 1) := by decide +kernel
theorem dL_law_406 : decode cL_law 406 = .ok (.iaload, 1) := by decide +kernel
theorem dL_law_407 : decode cL_law 407 = .ok (.invokevirtual 56, 3) := by decide +kernel
theorem dL_law_410 : decode cL_law 410 = .ok (.aload_n 2, 1) := by decide +kernel
theorem dL_law_411 : decode cL_law 411 = .ok (.aload_n 0, 1) := by decide +kernel
theorem dL_law_412 : decode cL_law 412 = .ok (.iload_n 3, 1) := by decide +kernel
theorem dL_law_413 : decode cL_law 413 = .ok (.iconst 1, 1) := by decide +kernel
theorem dL_law_414 : decode cL_law 414 = .ok (.iadd, 1) := by decide +kernel
theorem dL_law_415 : decode cL_law 415 = .ok (.iaload, 1) := by decide +kernel
theorem dL_law_416 : decode cL_law 416 = .ok (.aload_n 0, 1) := by decide +kernel
theorem dL_law_417 : decode cL_law 417 = .ok (.iload_n 3, 1) := by decide +kernel
theorem dL_law_418 : decode cL_law 418 = .ok (.iconst 2, 1) := by decide +kernel
theorem dL_law_419 : decode cL_law 419 = .ok (.iadd, 1) := by decide +kernel
theorem dL_law_420 : decode cL_law 420 = .ok (.iaload, 1) := by decide +kernel
theorem dL_law_421 : decode cL_law 421 = .ok (.invokevirtual 59, 3) := by decide +kernel
theorem dL_law_424 : decode cL_law 424 = .ok (.if_icmp .eq 655, 3) := by decide +kernel
theorem dL_law_427 : decode cL_law 427 = .ok (.iconst 0, 1) := by decide +kernel
theorem dL_law_428 : decode cL_law 428 = .ok (.ireturn, 1) := by decide +kernel
theorem dL_law_429 : decode cL_law 429 = .ok (.aload_n 1, 1) := by decide +kernel
theorem dL_law_430 : decode cL_law 430 = .ok (.aload_n 0, 1) := by decide +kernel
theorem dL_law_431 : decode cL_law 431 = .ok (.iload_n 3, 1) := by decide +kernel
theorem dL_law_432 : decode cL_law 432 = .ok (.iconst 1, 1) := by decide +kernel
theorem dL_law_433 : decode cL_law 433 = .ok (.iadd, 1) := by decide +kernel
theorem dL_law_434 : decode cL_law 434 = .ok (.iaload, 1) := by decide +kernel
theorem dL_law_435 : decode cL_law 435 = .ok (.aload_n 0, 1) := by decide +kernel
theorem dL_law_436 : decode cL_law 436 = .ok (.iload_n 3, 1) := by decide +kernel
theorem dL_law_437 : decode cL_law 437 = .ok (.iconst 2, 1) := by decide +kernel
theorem dL_law_438 : decode cL_law 438 = .ok (.iadd, 1) := by decide +kernel
theorem dL_law_439 : decode cL_law 439 = .ok (.iaload, 1) := by decide +kernel
theorem dL_law_440 : decode cL_law 440 = .ok (.aload_n 0, 1) := by decide +kernel
theorem dL_law_441 : decode cL_law 441 = .ok (.iload_n 3, 1) := by decide +kernel
theorem dL_law_442 : decode cL_law 442 = .ok (.iconst 3, 1) := by decide +kernel
theorem dL_law_443 : decode cL_law 443 = .ok (.iadd, 1) := by decide +kernel
theorem dL_law_444 : decode cL_law 444 = .ok (.iaload, 1) := by decide +kernel
theorem dL_law_445 : decode cL_law 445 = .ok (.invokevirtual 60, 3) := by decide +kernel
theorem dL_law_448 : decode cL_law 448 = .ok (.aload_n 2, 1) := by decide +kernel
theorem dL_law_449 : decode cL_law 449 = .ok (.aload_n 0, 1) := by decide +kernel
theorem dL_law_450 : decode cL_law 450 = .ok (.iload_n 3, 1) := by decide +kernel
theorem dL_law_451 : decode cL_law 451 = .ok (.iconst 1, 1) := by decide +kernel
theorem dL_law_452 : decode cL_law 452 = .ok (.iadd, 1) := by decide +kernel
theorem dL_law_453 : decode cL_law 453 = .ok (.iaload, 1) := by decide +kernel
theorem dL_law_454 : decode cL_law 454 = .ok (.aload_n 0, 1) := by decide +kernel
theorem dL_law_455 : decode cL_law 455 = .ok (.iload_n 3, 1) := by decide +kernel
theorem dL_law_456 : decode cL_law 456 = .ok (.iconst 2, 1) := by decide +kernel
theorem dL_law_457 : decode cL_law 457 = .ok (.iadd, 1) := by decide +kernel
theorem dL_law_458 : decode cL_law 458 = .ok (.iaload, 1) := by decide +kernel
theorem dL_law_459 : decode cL_law 459 = .ok (.aload_n 0, 1) := by decide +kernel
theorem dL_law_460 : decode cL_law 460 = .ok (.iload_n 3, 1) := by decide +kernel
theorem dL_law_461 : decode cL_law 461 = .ok (.iconst 3, 1) := by decide +kernel
theorem dL_law_462 : decode cL_law 462 = .ok (.iadd, 1) := by decide +kernel
theorem dL_law_463 : decode cL_law 463 = .ok (.iaload, 1) := by decide +kernel
theorem dL_law_464 : decode cL_law 464 = .ok (.invokevirtual 64, 3) := by decide +kernel
theorem dL_law_467 : decode cL_law 467 = .ok (.if_icmp .eq 612, 3) := by decide +kernel
theorem dL_law_470 : decode cL_law 470 = .ok (.iconst 0, 1) := by decide +kernel
theorem dL_law_471 : decode cL_law 471 = .ok (.ireturn, 1) := by decide +kernel
theorem dL_law_472 : decode cL_law 472 = .ok (.aload_n 1, 1) := by decide +kernel
theorem dL_law_473 : decode cL_law 473 = .ok (.invokevirtual 65, 3) := by decide +kernel
theorem dL_law_476 : decode cL_law 476 = .ok (.aload_n 2, 1) := by decide +kernel
theorem dL_law_477 : decode cL_law 477 = .ok (.invokevirtual 68, 3) := by decide +kernel
theorem dL_law_480 : decode cL_law 480 = .ok (.if_icmp .eq 599, 3) := by decide +kernel
theorem dL_law_483 : decode cL_law 483 = .ok (.iconst 0, 1) := by decide +kernel
theorem dL_law_484 : decode cL_law 484 = .ok (.ireturn, 1) := by decide +kernel
theorem dL_law_485 : decode cL_law 485 = .ok (.aload_n 1, 1) := by decide +kernel
theorem dL_law_486 : decode cL_law 486 = .ok (.aload_n 0, 1) := by decide +kernel
theorem dL_law_487 : decode cL_law 487 = .ok (.iload_n 3, 1) := by decide +kernel
theorem dL_law_488 : decode cL_law 488 = .ok (.iconst 1, 1) := by decide +kernel
theorem dL_law_489 : decode cL_law 489 = .ok (.iadd, 1) := by decide +kernel
theorem dL_law_490 : decode cL_law 490 = .ok (.iaload, 1) := by decide +kernel
theorem dL_law_491 : decode cL_law 491 = .ok (.invokevirtual 69, 3) := by decide +kernel
theorem dL_law_494 : decode cL_law 494 = .ok (.aload_n 2, 1) := by decide +kernel
theorem dL_law_495 : decode cL_law 495 = .ok (.aload_n 0, 1) := by decide +kernel
theorem dL_law_496 : decode cL_law 496 = .ok (.iload_n 3, 1) := by decide +kernel
theorem dL_law_497 : decode cL_law 497 = .ok (.iconst 1, 1) := by decide +kernel
theorem dL_law_498 : decode cL_law 498 = .ok (.iadd, 1) := by decide +kernel
theorem dL_law_499 : decode cL_law 499 = .ok (.iaload, 1) := by decide +kernel
theorem dL_law_500 : decode cL_law 500 = .ok (.invokevirtual 73, 3) := by decide +kernel
theorem dL_law_503 : decode cL_law 503 = .ok (.lcmp, 1) := by decide +kernel
theorem dL_law_504 : decode cL_law 504 = .ok (.ifCond .eq 575, 3) := by decide +kernel
theorem dL_law_507 : decode cL_law 507 = .ok (.iconst 0, 1) := by decide +kernel
theorem dL_law_508 : decode cL_law 508 = .ok (.ireturn, 1) := by decide +kernel
theorem dL_law_509 : decode cL_law 509 = .ok (.aload_n 1, 1) := by decide +kernel
theorem dL_law_510 : decode cL_law 510 = .ok (.aload_n 0, 1) := by decide +kernel
theorem dL_law_511 : decode cL_law 511 = .ok (.iload_n 3, 1) := by decide +kernel
theorem dL_law_512 : decode cL_law 512 = .ok (.iconst 1, 1) := by decide +kernel
theorem dL_law_513 : decode cL_law 513 = .ok (.iadd, 1) := by decide +kernel
theorem dL_law_514 : decode cL_law 514 = .ok (.iaload, 1) := by decide +kernel
theorem dL_law_515 : decode cL_law 515 = .ok (.invokevirtual 74, 3) := by decide +kernel
theorem dL_law_518 : decode cL_law 518 = .ok (.aload_n 2, 1) := by decide +kernel
theorem dL_law_519 : decode cL_law 519 = .ok (.aload_n 0, 1) := by decide +kernel
theorem dL_law_520 : decode cL_law 520 = .ok (.iload_n 3, 1) := by decide +kernel
theorem dL_law_521 : decode cL_law 521 = .ok (.iconst 1, 1) := by decide +kernel
theorem dL_law_522 : decode cL_law 522 = .ok (.iadd, 1) := by decide +kernel
theorem dL_law_523 : decode cL_law 523 = .ok (.iaload, 1) := by decide +kernel
theorem dL_law_524 : decode cL_law 524 = .ok (.invokevirtual 77, 3) := by decide +kernel
theorem dL_law_527 : decode cL_law 527 = .ok (.lcmp, 1) := by decide +kernel
theorem dL_law_528 : decode cL_law 528 = .ok (.ifCond .eq 551, 3) := by decide +kernel
theorem dL_law_531 : decode cL_law 531 = .ok (.iconst 0, 1) := by decide +kernel
theorem dL_law_532 : decode cL_law 532 = .ok (.ireturn, 1) := by decide +kernel
theorem dL_law_533 : decode cL_law 533 = .ok (.aload_n 1, 1) := by decide +kernel
theorem dL_law_534 : decode cL_law 534 = .ok (.aload_n 0, 1) := by decide +kernel
theorem dL_law_535 : decode cL_law 535 = .ok (.iload_n 3, 1) := by decide +kernel
theorem dL_law_536 : decode cL_law 536 = .ok (.iconst 1, 1) := by decide +kernel
theorem dL_law_537 : decode cL_law 537 = .ok (.iadd, 1) := by decide +kernel
theorem dL_law_538 : decode cL_law 538 = .ok (.iaload, 1) := by decide +kernel
theorem dL_law_539 : decode cL_law 539 = .ok (.invokevirtual 78, 3) := by decide +kernel
theorem dL_law_542 : decode cL_law 542 = .ok (.aload_n 2, 1) := by decide +kernel
theorem dL_law_543 : decode cL_law 543 = .ok (.aload_n 0, 1) := by decide +kernel
theorem dL_law_544 : decode cL_law 544 = .ok (.iload_n 3, 1) := by decide +kernel
theorem dL_law_545 : decode cL_law 545 = .ok (.iconst 1, 1) := by decide +kernel
theorem dL_law_546 : decode cL_law 546 = .ok (.iadd, 1) := by decide +kernel
theorem dL_law_547 : decode cL_law 547 = .ok (.iaload, 1) := by decide +kernel
theorem dL_law_548 : decode cL_law 548 = .ok (.invokevirtual 81, 3) := by decide +kernel
theorem dL_law_551 : decode cL_law 551 = .ok (.if_icmp .eq 528, 3) := by decide +kernel
theorem dL_law_554 : decode cL_law 554 = .ok (.iconst 0, 1) := by decide +kernel
theorem dL_law_555 : decode cL_law 555 = .ok (.ireturn, 1) := by decide +kernel
theorem dL_law_556 : decode cL_law 556 = .ok (.aload_n 1, 1) := by decide +kernel
theorem dL_law_557 : decode cL_law 557 = .ok (.aload_n 0, 1) := by decide +kernel
theorem dL_law_558 : decode cL_law 558 = .ok (.iload_n 3, 1) := by decide +kernel
theorem dL_law_559 : decode cL_law 559 = .ok (.iconst 1, 1) := by decide +kernel
theorem dL_law_560 : decode cL_law 560 = .ok (.iadd, 1) := by decide +kernel
theorem dL_law_561 : decode cL_law 561 = .ok (.iaload, 1) := by decide +kernel
theorem dL_law_562 : decode cL_law 562 = .ok (.i2l, 1) := by decide +kernel
theorem dL_law_563 : decode cL_law 563 = .ok (.bipush 32, 2) := by decide +kernel
theorem dL_law_565 : decode cL_law 565 = .ok (.lshl, 1) := by decide +kernel
theorem dL_law_566 : decode cL_law 566 = .ok (.aload_n 0, 1) := by decide +kernel
theorem dL_law_567 : decode cL_law 567 = .ok (.iload_n 3, 1) := by decide +kernel
theorem dL_law_568 : decode cL_law 568 = .ok (.iconst 2, 1) := by decide +kernel
theorem dL_law_569 : decode cL_law 569 = .ok (.iadd, 1) := by decide +kernel
theorem dL_law_570 : decode cL_law 570 = .ok (.iaload, 1) := by decide +kernel
theorem dL_law_571 : decode cL_law 571 = .ok (.i2l, 1) := by decide +kernel
theorem dL_law_572 : decode cL_law 572 = .ok (.ldc2_w 82, 3) := by decide +kernel
theorem dL_law_575 : decode cL_law 575 = .ok (.land, 1) := by decide +kernel
theorem dL_law_576 : decode cL_law 576 = .ok (.lor, 1) := by decide +kernel
theorem dL_law_577 : decode cL_law 577 = .ok (.aload_n 0, 1) := by decide +kernel
theorem dL_law_578 : decode cL_law 578 = .ok (.iload_n 3, 1) := by decide +kernel
theorem dL_law_579 : decode cL_law 579 = .ok (.iconst 3, 1) := by decide +kernel
theorem dL_law_580 : decode cL_law 580 = .ok (.iadd, 1) := by decide +kernel
theorem dL_law_581 : decode cL_law 581 = .ok (.iaload, 1) := by decide +kernel
theorem dL_law_582 : decode cL_law 582 = .ok (.invokevirtual 84, 3) := by decide +kernel
theorem dL_law_585 : decode cL_law 585 = .ok (.aload_n 2, 1) := by decide +kernel
theorem dL_law_586 : decode cL_law 586 = .ok (.aload_n 0, 1) := by decide +kernel
theorem dL_law_587 : decode cL_law 587 = .ok (.iload_n 3, 1) := by decide +kernel
theorem dL_law_588 : decode cL_law 588 = .ok (.iconst 1, 1) := by decide +kernel
theorem dL_law_589 : decode cL_law 589 = .ok (.iadd, 1) := by decide +kernel
theorem dL_law_590 : decode cL_law 590 = .ok (.iaload, 1) := by decide +kernel
theorem dL_law_591 : decode cL_law 591 = .ok (.i2l, 1) := by decide +kernel
theorem dL_law_592 : decode cL_law 592 = .ok (.bipush 32, 2) := by decide +kernel
theorem dL_law_594 : decode cL_law 594 = .ok (.lshl, 1) := by decide +kernel
theorem dL_law_595 : decode cL_law 595 = .ok (.aload_n 0, 1) := by decide +kernel
theorem dL_law_596 : decode cL_law 596 = .ok (.iload_n 3, 1) := by decide +kernel
theorem dL_law_597 : decode cL_law 597 = .ok (.iconst 2, 1) := by decide +kernel
theorem dL_law_598 : decode cL_law 598 = .ok (.iadd, 1) := by decide +kernel
theorem dL_law_599 : decode cL_law 599 = .ok (.iaload, 1) := by decide +kernel
theorem dL_law_600 : decode cL_law 600 = .ok (.i2l, 1) := by decide +kernel
theorem dL_law_601 : decode cL_law 601 = .ok (.ldc2_w 82, 3) := by decide +kernel
theorem dL_law_604 : decode cL_law 604 = .ok (.land, 1) := by decide +kernel
theorem dL_law_605 : decode cL_law 605 = .ok (.lor, 1) := by decide +kernel
theorem dL_law_606 : decode cL_law 606 = .ok (.aload_n 0, 1) := by decide +kernel
theorem dL_law_607 : decode cL_law 607 = .ok (.iload_n 3, 1) := by decide +kernel
theorem dL_law_608 : decode cL_law 608 = .ok (.iconst 3, 1) := by decide +kernel
theorem dL_law_609 : decode cL_law 609 = .ok (.iadd, 1) := by decide +kernel
theorem dL_law_610 : decode cL_law 610 = .ok (.iaload, 1) := by decide +kernel
theorem dL_law_611 : decode cL_law 611 = .ok (.invokevirtual 88, 3) := by decide +kernel
theorem dL_law_614 : decode cL_law 614 = .ok (.if_icmp .eq 465, 3) := by decide +kernel
theorem dL_law_617 : decode cL_law 617 = .ok (.iconst 0, 1) := by decide +kernel
theorem dL_law_618 : decode cL_law 618 = .ok (.ireturn, 1) := by decide +kernel
theorem dL_law_619 : decode cL_law 619 = .ok (.aload_n 1, 1) := by decide +kernel
theorem dL_law_620 : decode cL_law 620 = .ok (.aload_n 0, 1) := by decide +kernel
theorem dL_law_621 : decode cL_law 621 = .ok (.iload_n 3, 1) := by decide +kernel
theorem dL_law_622 : decode cL_law 622 = .ok (.iconst 1, 1) := by decide +kernel
theorem dL_law_623 : decode cL_law 623 = .ok (.iadd, 1) := by decide +kernel
theorem dL_law_624 : decode cL_law 624 = .ok (.iaload, 1) := by decide +kernel
theorem dL_law_625 : decode cL_law 625 = .ok (.invokevirtual 89, 3) := by decide +kernel
theorem dL_law_628 : decode cL_law 628 = .ok (.aload_n 2, 1) := by decide +kernel
theorem dL_law_629 : decode cL_law 629 = .ok (.aload_n 0, 1) := by decide +kernel
theorem dL_law_630 : decode cL_law 630 = .ok (.iload_n 3, 1) := by decide +kernel
theorem dL_law_631 : decode cL_law 631 = .ok (.iconst 1, 1) := by decide +kernel
theorem dL_law_632 : decode cL_law 632 = .ok (.iadd, 1) := by decide +kernel
theorem dL_law_633 : decode cL_law 633 = .ok (.iaload, 1) := by decide +kernel
theorem dL_law_634 : decode cL_law 634 = .ok (.invokevirtual 92, 3) := by decide +kernel
theorem dL_law_637 : decode cL_law 637 = .ok (.if_icmp .eq 442, 3) := by decide +kernel
theorem dL_law_640 : decode cL_law 640 = .ok (.iconst 0, 1) := by decide +kernel
theorem dL_law_641 : decode cL_law 641 = .ok (.ireturn, 1) := by decide +kernel
theorem dL_law_642 : decode cL_law 642 = .ok (.aload_n 1, 1) := by decide +kernel
theorem dL_law_643 : decode cL_law 643 = .ok (.invokevirtual 93, 3) := by decide +kernel
theorem dL_law_646 : decode cL_law 646 = .ok (.aload_n 2, 1) := by decide +kernel
theorem dL_law_647 : decode cL_law 647 = .ok (.invokevirtual 96, 3) := by decide +kernel
theorem dL_law_650 : decode cL_law 650 = .ok (.if_icmp .eq 429, 3) := by decide +kernel
theorem dL_law_653 : decode cL_law 653 = .ok (.iconst 0, 1) := by decide +kernel
theorem dL_law_654 : decode cL_law 654 = .ok (.ireturn, 1) := by decide +kernel
theorem dL_law_655 : decode cL_law 655 = .ok (.aload_n 1, 1) := by decide +kernel
theorem dL_law_656 : decode cL_law 656 = .ok (.aload_n 0, 1) := by decide +kernel
theorem dL_law_657 : decode cL_law 657 = .ok (.iload_n 3, 1) := by decide +kernel
theorem dL_law_658 : decode cL_law 658 = .ok (.iconst 1, 1) := by decide +kernel
theorem dL_law_659 : decode cL_law 659 = .ok (.iadd, 1) := by decide +kernel
theorem dL_law_660 : decode cL_law 660 = .ok (.iaload, 1) := by decide +kernel
theorem dL_law_661 : decode cL_law 661 = .ok (.invokevirtual 97, 3) := by decide +kernel
theorem dL_law_664 : decode cL_law 664 = .ok (.aload_n 2, 1) := by decide +kernel
theorem dL_law_665 : decode cL_law 665 = .ok (.aload_n 0, 1) := by decide +kernel
theorem dL_law_666 : decode cL_law 666 = .ok (.iload_n 3, 1) := by decide +kernel
theorem dL_law_667 : decode cL_law 667 = .ok (.iconst 1, 1) := by decide +kernel
theorem dL_law_668 : decode cL_law 668 = .ok (.iadd, 1) := by decide +kernel
theorem dL_law_669 : decode cL_law 669 = .ok (.iaload, 1) := by decide +kernel
theorem dL_law_670 : decode cL_law 670 = .ok (.invokevirtual 100, 3) := by decide +kernel
theorem dL_law_673 : decode cL_law 673 = .ok (.if_icmp .eq 406, 3) := by decide +kernel
theorem dL_law_676 : decode cL_law 676 = .ok (.iconst 0, 1) := by decide +kernel
theorem dL_law_677 : decode cL_law 677 = .ok (.ireturn, 1) := by decide +kernel
theorem dL_law_678 : decode cL_law 678 = .ok (.aload_n 1, 1) := by decide +kernel
theorem dL_law_679 : decode cL_law 679 = .ok (.invokevirtual 101, 3) := by decide +kernel
theorem dL_law_682 : decode cL_law 682 = .ok (.aload_n 2, 1) := by decide +kernel
theorem dL_law_683 : decode cL_law 683 = .ok (.invokevirtual 105, 3) := by decide +kernel
theorem dL_law_686 : decode cL_law 686 = .ok (.lcmp, 1) := by decide +kernel
theorem dL_law_687 : decode cL_law 687 = .ok (.ifCond .eq 392, 3) := by decide +kernel
theorem dL_law_690 : decode cL_law 690 = .ok (.iconst 0, 1) := by decide +kernel
theorem dL_law_691 : decode cL_law 691 = .ok (.ireturn, 1) := by decide +kernel
theorem dL_law_692 : decode cL_law 692 = .ok (.aload_n 1, 1) := by decide +kernel
theorem dL_law_693 : decode cL_law 693 = .ok (.aload_n 0, 1) := by decide +kernel
theorem dL_law_694 : decode cL_law 694 = .ok (.iload_n 3, 1) := by decide +kernel
theorem dL_law_695 : decode cL_law 695 = .ok (.iconst 1, 1) := by decide +kernel
theorem dL_law_696 : decode cL_law 696 = .ok (.iadd, 1) := by decide +kernel
theorem dL_law_697 : decode cL_law 697 = .ok (.iaload, 1) := by decide +kernel
theorem dL_law_698 : decode cL_law 698 = .ok (.invokevirtual 106, 3) := by decide +kernel
theorem dL_law_701 : decode cL_law 701 = .ok (.aload_n 2, 1) := by decide +kernel
theorem dL_law_702 : decode cL_law 702 = .ok (.aload_n 0, 1) := by decide +kernel
theorem dL_law_703 : decode cL_law 703 = .ok (.iload_n 3, 1) := by decide +kernel
theorem dL_law_704 : decode cL_law 704 = .ok (.iconst 1, 1) := by decide +kernel
theorem dL_law_705 : decode cL_law 705 = .ok (.iadd, 1) := by decide +kernel
theorem dL_law_706 : decode cL_law 706 = .ok (.iaload, 1) := by decide +kernel
theorem dL_law_707 : decode cL_law 707 = .ok (.invokevirtual 109, 3) := by decide +kernel
theorem dL_law_710 : decode cL_law 710 = .ok (.if_icmp .eq 369, 3) := by decide +kernel
theorem dL_law_713 : decode cL_law 713 = .ok (.iconst 0, 1) := by decide +kernel
theorem dL_law_714 : decode cL_law 714 = .ok (.ireturn, 1) := by decide +kernel
theorem dL_law_715 : decode cL_law 715 = .ok (.aload_n 1, 1) := by decide +kernel
theorem dL_law_716 : decode cL_law 716 = .ok (.aload_n 0, 1) := by decide +kernel
theorem dL_law_717 : decode cL_law 717 = .ok (.iload_n 3, 1) := by decide +kernel
theorem dL_law_718 : decode cL_law 718 = .ok (.iconst 1, 1) := by decide +kernel
theorem dL_law_719 : decode cL_law 719 = .ok (.iadd, 1) := by decide +kernel
theorem dL_law_720 : decode cL_law 720 = .ok (.iaload, 1) := by decide +kernel
theorem dL_law_721 : decode cL_law 721 = .ok (.aload_n 0, 1) := by decide +kernel
theorem dL_law_722 : decode cL_law 722 = .ok (.iload_n 3, 1) := by decide +kernel
theorem dL_law_723 : decode cL_law 723 = .ok (.iconst 2, 1) := by decide +kernel
theorem dL_law_724 : decode cL_law 724 = .ok (.iadd, 1) := by decide +kernel
theorem dL_law_725 : decode cL_law 725 = .ok (.iaload, 1) := by decide +kernel
theorem dL_law_726 : decode cL_law 726 = .ok (.i2l, 1) := by decide +kernel
theorem dL_law_727 : decode cL_law 727 = .ok (.bipush 32, 2) := by decide +kernel
theorem dL_law_729 : decode cL_law 729 = .ok (.lshl, 1) := by decide +kernel
theorem dL_law_730 : decode cL_law 730 = .ok (.aload_n 0, 1) := by decide +kernel
theorem dL_law_731 : decode cL_law 731 = .ok (.iload_n 3, 1) := by decide +kernel
theorem dL_law_732 : decode cL_law 732 = .ok (.iconst 3, 1) := by decide +kernel
theorem dL_law_733 : decode cL_law 733 = .ok (.iadd, 1) := by decide +kernel
theorem dL_law_734 : decode cL_law 734 = .ok (.iaload, 1) := by decide +kernel
theorem dL_law_735 : decode cL_law 735 = .ok (.i2l, 1) := by decide +kernel
theorem dL_law_736 : decode cL_law 736 = .ok (.ldc2_w 82, 3) := by decide +kernel
theorem dL_law_739 : decode cL_law 739 = .ok (.land, 1) := by decide +kernel
theorem dL_law_740 : decode cL_law 740 = .ok (.lor, 1) := by decide +kernel
theorem dL_law_741 : decode cL_law 741 = .ok (.invokevirtual 110, 3) := by decide +kernel
theorem dL_law_744 : decode cL_law 744 = .ok (.aload_n 2, 1) := by decide +kernel
theorem dL_law_745 : decode cL_law 745 = .ok (.aload_n 0, 1) := by decide +kernel
theorem dL_law_746 : decode cL_law 746 = .ok (.iload_n 3, 1) := by decide +kernel
theorem dL_law_747 : decode cL_law 747 = .ok (.iconst 1, 1) := by decide +kernel
theorem dL_law_748 : decode cL_law 748 = .ok (.iadd, 1) := by decide +kernel
theorem dL_law_749 : decode cL_law 749 = .ok (.iaload, 1) := by decide +kernel
theorem dL_law_750 : decode cL_law 750 = .ok (.aload_n 0, 1) := by decide +kernel
theorem dL_law_751 : decode cL_law 751 = .ok (.iload_n 3, 1) := by decide +kernel
theorem dL_law_752 : decode cL_law 752 = .ok (.iconst 2, 1) := by decide +kernel
theorem dL_law_753 : decode cL_law 753 = .ok (.iadd, 1) := by decide +kernel
theorem dL_law_754 : decode cL_law 754 = .ok (.iaload, 1) := by decide +kernel
theorem dL_law_755 : decode cL_law 755 = .ok (.i2l, 1) := by decide +kernel
theorem dL_law_756 : decode cL_law 756 = .ok (.bipush 32, 2) := by decide +kernel
theorem dL_law_758 : decode cL_law 758 = .ok (.lshl, 1) := by decide +kernel
theorem dL_law_759 : decode cL_law 759 = .ok (.aload_n 0, 1) := by decide +kernel
theorem dL_law_760 : decode cL_law 760 = .ok (.iload_n 3, 1) := by decide +kernel
theorem dL_law_761 : decode cL_law 761 = .ok (.iconst 3, 1) := by decide +kernel
theorem dL_law_762 : decode cL_law 762 = .ok (.iadd, 1) := by decide +kernel
theorem dL_law_763 : decode cL_law 763 = .ok (.iaload, 1) := by decide +kernel
theorem dL_law_764 : decode cL_law 764 = .ok (.i2l, 1) := by decide +kernel
theorem dL_law_765 : decode cL_law 765 = .ok (.ldc2_w 82, 3) := by decide +kernel
theorem dL_law_768 : decode cL_law 768 = .ok (.land, 1) := by decide +kernel
theorem dL_law_769 : decode cL_law 769 = .ok (.lor, 1) := by decide +kernel
theorem dL_law_770 : decode cL_law 770 = .ok (.invokevirtual 114, 3) := by decide +kernel
theorem dL_law_773 : decode cL_law 773 = .ok (.if_icmp .eq 306, 3) := by decide +kernel
theorem dL_law_776 : decode cL_law 776 = .ok (.iconst 0, 1) := by decide +kernel
theorem dL_law_777 : decode cL_law 777 = .ok (.ireturn, 1) := by decide +kernel
theorem dL_law_778 : decode cL_law 778 = .ok (.aload_n 1, 1) := by decide +kernel
theorem dL_law_779 : decode cL_law 779 = .ok (.aload_n 0, 1) := by decide +kernel
theorem dL_law_780 : decode cL_law 780 = .ok (.iload_n 3, 1) := by decide +kernel
theorem dL_law_781 : decode cL_law 781 = .ok (.iconst 1, 1) := by decide +kernel
theorem dL_law_782 : decode cL_law 782 = .ok (.iadd, 1) := by decide +kernel
theorem dL_law_783 : decode cL_law 783 = .ok (.iaload, 1) := by decide +kernel
theorem dL_law_784 : decode cL_law 784 = .ok (.aload_n 0, 1) := by decide +kernel
theorem dL_law_785 : decode cL_law 785 = .ok (.iload_n 3, 1) := by decide +kernel
theorem dL_law_786 : decode cL_law 786 = .ok (.iconst 2, 1) := by decide +kernel
theorem dL_law_787 : decode cL_law 787 = .ok (.iadd, 1) := by decide +kernel
theorem dL_law_788 : decode cL_law 788 = .ok (.iaload, 1) := by decide +kernel
theorem dL_law_789 : decode cL_law 789 = .ok (.aload_n 0, 1) := by decide +kernel
theorem dL_law_790 : decode cL_law 790 = .ok (.iload_n 3, 1) := by decide +kernel
theorem dL_law_791 : decode cL_law 791 = .ok (.iconst 3, 1) := by decide +kernel
theorem dL_law_792 : decode cL_law 792 = .ok (.iadd, 1) := by decide +kernel
theorem dL_law_793 : decode cL_law 793 = .ok (.iaload, 1) := by decide +kernel
theorem dL_law_794 : decode cL_law 794 = .ok (.invokevirtual 115, 3) := by decide +kernel
theorem dL_law_797 : decode cL_law 797 = .ok (.aload_n 2, 1) := by decide +kernel
theorem dL_law_798 : decode cL_law 798 = .ok (.aload_n 0, 1) := by decide +kernel
theorem dL_law_799 : decode cL_law 799 = .ok (.iload_n 3, 1) := by decide +kernel
theorem dL_law_800 : decode cL_law 800 = .ok (.iconst 1, 1) := by decide +kernel
theorem dL_law_801 : decode cL_law 801 = .ok (.iadd, 1) := by decide +kernel
theorem dL_law_802 : decode cL_law 802 = .ok (.iaload, 1) := by decide +kernel
theorem dL_law_803 : decode cL_law 803 = .ok (.aload_n 0, 1) := by decide +kernel
theorem dL_law_804 : decode cL_law 804 = .ok (.iload_n 3, 1) := by decide +kernel
theorem dL_law_805 : decode cL_law 805 = .ok (.iconst 2, 1) := by decide +kernel
theorem dL_law_806 : decode cL_law 806 = .ok (.iadd, 1) := by decide +kernel
theorem dL_law_807 : decode cL_law 807 = .ok (.iaload, 1) := by decide +kernel
theorem dL_law_808 : decode cL_law 808 = .ok (.aload_n 0, 1) := by decide +kernel
theorem dL_law_809 : decode cL_law 809 = .ok (.iload_n 3, 1) := by decide +kernel
theorem dL_law_810 : decode cL_law 810 = .ok (.iconst 3, 1) := by decide +kernel
theorem dL_law_811 : decode cL_law 811 = .ok (.iadd, 1) := by decide +kernel
theorem dL_law_812 : decode cL_law 812 = .ok (.iaload, 1) := by decide +kernel
theorem dL_law_813 : decode cL_law 813 = .ok (.invokevirtual 118, 3) := by decide +kernel
theorem dL_law_816 : decode cL_law 816 = .ok (.if_icmp .eq 263, 3) := by decide +kernel
theorem dL_law_819 : decode cL_law 819 = .ok (.iconst 0, 1) := by decide +kernel
theorem dL_law_820 : decode cL_law 820 = .ok (.ireturn, 1) := by decide +kernel
theorem dL_law_821 : decode cL_law 821 = .ok (.aload_n 1, 1) := by decide +kernel
theorem dL_law_822 : decode cL_law 822 = .ok (.invokevirtual 119, 3) := by decide +kernel
theorem dL_law_825 : decode cL_law 825 = .ok (.aload_n 2, 1) := by decide +kernel
theorem dL_law_826 : decode cL_law 826 = .ok (.invokevirtual 122, 3) := by decide +kernel
theorem dL_law_829 : decode cL_law 829 = .ok (.if_icmp .eq 250, 3) := by decide +kernel
theorem dL_law_832 : decode cL_law 832 = .ok (.iconst 0, 1) := by decide +kernel
theorem dL_law_833 : decode cL_law 833 = .ok (.ireturn, 1) := by decide +kernel
theorem dL_law_834 : decode cL_law 834 = .ok (.aload_n 1, 1) := by decide +kernel
theorem dL_law_835 : decode cL_law 835 = .ok (.aload_n 0, 1) := by decide +kernel
theorem dL_law_836 : decode cL_law 836 = .ok (.iload_n 3, 1) := by decide +kernel
theorem dL_law_837 : decode cL_law 837 = .ok (.iconst 1, 1) := by decide +kernel
theorem dL_law_838 : decode cL_law 838 = .ok (.iadd, 1) := by decide +kernel
theorem dL_law_839 : decode cL_law 839 = .ok (.iaload, 1) := by decide +kernel
theorem dL_law_840 : decode cL_law 840 = .ok (.invokevirtual 123, 3) := by decide +kernel
theorem dL_law_843 : decode cL_law 843 = .ok (.aload_n 2, 1) := by decide +kernel
theorem dL_law_844 : decode cL_law 844 = .ok (.aload_n 0, 1) := by decide +kernel
theorem dL_law_845 : decode cL_law 845 = .ok (.iload_n 3, 1) := by decide +kernel
theorem dL_law_846 : decode cL_law 846 = .ok (.iconst 1, 1) := by decide +kernel
theorem dL_law_847 : decode cL_law 847 = .ok (.iadd, 1) := by decide +kernel
theorem dL_law_848 : decode cL_law 848 = .ok (.iaload, 1) := by decide +kernel
theorem dL_law_849 : decode cL_law 849 = .ok (.invokevirtual 126, 3) := by decide +kernel
theorem dL_law_852 : decode cL_law 852 = .ok (.if_icmp .eq 227, 3) := by decide +kernel
theorem dL_law_855 : decode cL_law 855 = .ok (.iconst 0, 1) := by decide +kernel
theorem dL_law_856 : decode cL_law 856 = .ok (.ireturn, 1) := by decide +kernel
theorem dL_law_857 : decode cL_law 857 = .ok (.aload_n 1, 1) := by decide +kernel
theorem dL_law_858 : decode cL_law 858 = .ok (.aload_n 0, 1) := by decide +kernel
theorem dL_law_859 : decode cL_law 859 = .ok (.iload_n 3, 1) := by decide +kernel
theorem dL_law_860 : decode cL_law 860 = .ok (.iconst 1, 1) := by decide +kernel
theorem dL_law_861 : decode cL_law 861 = .ok (.iadd, 1) := by decide +kernel
theorem dL_law_862 : decode cL_law 862 = .ok (.iaload, 1) := by decide +kernel
theorem dL_law_863 : decode cL_law 863 = .ok (.aload_n 0, 1) := by decide +kernel
theorem dL_law_864 : decode cL_law 864 = .ok (.iload_n 3, 1) := by decide +kernel
theorem dL_law_865 : decode cL_law 865 = .ok (.iconst 2, 1) := by decide +kernel
theorem dL_law_866 : decode cL_law 866 = .ok (.iadd, 1) := by decide +kernel
theorem dL_law_867 : decode cL_law 867 = .ok (.iaload, 1) := by decide +kernel
theorem dL_law_868 : decode cL_law 868 = .ok (.ifCond .eq 7, 3) := by decide +kernel
theorem dL_law_871 : decode cL_law 871 = .ok (.iconst 1, 1) := by decide +kernel
theorem dL_law_872 : decode cL_law 872 = .ok (.goto 4, 3) := by decide +kernel
theorem dL_law_875 : decode cL_law 875 = .ok (.iconst 0, 1) := by decide +kernel
theorem dL_law_876 : decode cL_law 876 = .ok (.invokevirtual 127, 3) := by decide +kernel
theorem dL_law_879 : decode cL_law 879 = .ok (.aload_n 2, 1) := by decide +kernel
theorem dL_law_880 : decode cL_law 880 = .ok (.aload_n 0, 1) := by decide +kernel
theorem dL_law_881 : decode cL_law 881 = .ok (.iload_n 3, 1) := by decide +kernel
theorem dL_law_882 : decode cL_law 882 = .ok (.iconst 1, 1) := by decide +kernel
theorem dL_law_883 : decode cL_law 883 = .ok (.iadd, 1) := by decide +kernel
theorem dL_law_884 : decode cL_law 884 = .ok (.iaload, 1) := by decide +kernel
theorem dL_law_885 : decode cL_law 885 = .ok (.aload_n 0, 1) := by decide +kernel
theorem dL_law_886 : decode cL_law 886 = .ok (.iload_n 3, 1) := by decide +kernel
theorem dL_law_887 : decode cL_law 887 = .ok (.iconst 2, 1) := by decide +kernel
theorem dL_law_888 : decode cL_law 888 = .ok (.iadd, 1) := by decide +kernel
theorem dL_law_889 : decode cL_law 889 = .ok (.iaload, 1) := by decide +kernel
theorem dL_law_890 : decode cL_law 890 = .ok (.ifCond .eq 7, 3) := by decide +kernel
theorem dL_law_893 : decode cL_law 893 = .ok (.iconst 1, 1) := by decide +kernel
theorem dL_law_894 : decode cL_law 894 = .ok (.goto 4, 3) := by decide +kernel
theorem dL_law_897 : decode cL_law 897 = .ok (.iconst 0, 1) := by decide +kernel
theorem dL_law_898 : decode cL_law 898 = .ok (.invokevirtual 131, 3) := by decide +kernel
theorem dL_law_901 : decode cL_law 901 = .ok (.lcmp, 1) := by decide +kernel
theorem dL_law_902 : decode cL_law 902 = .ok (.ifCond .eq 177, 3) := by decide +kernel
theorem dL_law_905 : decode cL_law 905 = .ok (.iconst 0, 1) := by decide +kernel
theorem dL_law_906 : decode cL_law 906 = .ok (.ireturn, 1) := by decide +kernel
theorem dL_law_907 : decode cL_law 907 = .ok (.aload_n 1, 1) := by decide +kernel
theorem dL_law_908 : decode cL_law 908 = .ok (.aload_n 0, 1) := by decide +kernel
theorem dL_law_909 : decode cL_law 909 = .ok (.iload_n 3, 1) := by decide +kernel
theorem dL_law_910 : decode cL_law 910 = .ok (.iconst 1, 1) := by decide +kernel
theorem dL_law_911 : decode cL_law 911 = .ok (.iadd, 1) := by decide +kernel
theorem dL_law_912 : decode cL_law 912 = .ok (.iaload, 1) := by decide +kernel
theorem dL_law_913 : decode cL_law 913 = .ok (.aload_n 0, 1) := by decide +kernel
theorem dL_law_914 : decode cL_law 914 = .ok (.iload_n 3, 1) := by decide +kernel
theorem dL_law_915 : decode cL_law 915 = .ok (.iconst 2, 1) := by decide +kernel
theorem dL_law_916 : decode cL_law 916 = .ok (.iadd, 1) := by decide +kernel
theorem dL_law_917 : decode cL_law 917 = .ok (.iaload, 1) := by decide +kernel
theorem dL_law_918 : decode cL_law 918 = .ok (.ifCond .eq 7, 3) := by decide +kernel
theorem dL_law_921 : decode cL_law 921 = .ok (.iconst 1, 1) := by decide +kernel
theorem dL_law_922 : decode cL_law 922 = .ok (.goto 4, 3) := by decide +kernel
theorem dL_law_925 : decode cL_law 925 = .ok (.iconst 0, 1) := by decide +kernel
theorem dL_law_926 : decode cL_law 926 = .ok (.invokevirtual 132, 3) := by decide +kernel
theorem dL_law_929 : decode cL_law 929 = .ok (.aload_n 2, 1) := by decide +kernel
theorem dL_law_930 : decode cL_law 930 = .ok (.aload_n 0, 1) := by decide +kernel
theorem dL_law_931 : decode cL_law 931 = .ok (.iload_n 3, 1) := by decide +kernel
theorem dL_law_932 : decode cL_law 932 = .ok (.iconst 1, 1) := by decide +kernel
theorem dL_law_933 : decode cL_law 933 = .ok (.iadd, 1) := by decide +kernel
theorem dL_law_934 : decode cL_law 934 = .ok (.iaload, 1) := by decide +kernel
theorem dL_law_935 : decode cL_law 935 = .ok (.aload_n 0, 1) := by decide +kernel
theorem dL_law_936 : decode cL_law 936 = .ok (.iload_n 3, 1) := by decide +kernel
theorem dL_law_937 : decode cL_law 937 = .ok (.iconst 2, 1) := by decide +kernel
theorem dL_law_938 : decode cL_law 938 = .ok (.iadd, 1) := by decide +kernel
theorem dL_law_939 : decode cL_law 939 = .ok (.iaload, 1) := by decide +kernel
theorem dL_law_940 : decode cL_law 940 = .ok (.ifCond .eq 7, 3) := by decide +kernel
theorem dL_law_943 : decode cL_law 943 = .ok (.iconst 1, 1) := by decide +kernel
theorem dL_law_944 : decode cL_law 944 = .ok (.goto 4, 3) := by decide +kernel
theorem dL_law_947 : decode cL_law 947 = .ok (.iconst 0, 1) := by decide +kernel
theorem dL_law_948 : decode cL_law 948 = .ok (.invokevirtual 136, 3) := by decide +kernel
theorem dL_law_951 : decode cL_law 951 = .ok (.if_icmp .eq 128, 3) := by decide +kernel
theorem dL_law_954 : decode cL_law 954 = .ok (.iconst 0, 1) := by decide +kernel
theorem dL_law_955 : decode cL_law 955 = .ok (.ireturn, 1) := by decide +kernel
theorem dL_law_956 : decode cL_law 956 = .ok (.aload_n 1, 1) := by decide +kernel
theorem dL_law_957 : decode cL_law 957 = .ok (.aload_n 0, 1) := by decide +kernel
theorem dL_law_958 : decode cL_law 958 = .ok (.iload_n 3, 1) := by decide +kernel
theorem dL_law_959 : decode cL_law 959 = .ok (.iconst 1, 1) := by decide +kernel
theorem dL_law_960 : decode cL_law 960 = .ok (.iadd, 1) := by decide +kernel
theorem dL_law_961 : decode cL_law 961 = .ok (.iaload, 1) := by decide +kernel
theorem dL_law_962 : decode cL_law 962 = .ok (.i2l, 1) := by decide +kernel
theorem dL_law_963 : decode cL_law 963 = .ok (.bipush 32, 2) := by decide +kernel
theorem dL_law_965 : decode cL_law 965 = .ok (.lshl, 1) := by decide +kernel
theorem dL_law_966 : decode cL_law 966 = .ok (.aload_n 0, 1) := by decide +kernel
theorem dL_law_967 : decode cL_law 967 = .ok (.iload_n 3, 1) := by decide +kernel
theorem dL_law_968 : decode cL_law 968 = .ok (.iconst 2, 1) := by decide +kernel
theorem dL_law_969 : decode cL_law 969 = .ok (.iadd, 1) := by decide +kernel
theorem dL_law_970 : decode cL_law 970 = .ok (.iaload, 1) := by decide +kernel
theorem dL_law_971 : decode cL_law 971 = .ok (.i2l, 1) := by decide +kernel
theorem dL_law_972 : decode cL_law 972 = .ok (.ldc2_w 82, 3) := by decide +kernel
theorem dL_law_975 : decode cL_law 975 = .ok (.land, 1) := by decide +kernel
theorem dL_law_976 : decode cL_law 976 = .ok (.lor, 1) := by decide +kernel
theorem dL_law_977 : decode cL_law 977 = .ok (.invokevirtual 137, 3) := by decide +kernel
theorem dL_law_980 : decode cL_law 980 = .ok (.aload_n 2, 1) := by decide +kernel
theorem dL_law_981 : decode cL_law 981 = .ok (.aload_n 0, 1) := by decide +kernel
theorem dL_law_982 : decode cL_law 982 = .ok (.iload_n 3, 1) := by decide +kernel
theorem dL_law_983 : decode cL_law 983 = .ok (.iconst 1, 1) := by decide +kernel
theorem dL_law_984 : decode cL_law 984 = .ok (.iadd, 1) := by decide +kernel
theorem dL_law_985 : decode cL_law 985 = .ok (.iaload, 1) := by decide +kernel
theorem dL_law_986 : decode cL_law 986 = .ok (.i2l, 1) := by decide +kernel
theorem dL_law_987 : decode cL_law 987 = .ok (.bipush 32, 2) := by decide +kernel
theorem dL_law_989 : decode cL_law 989 = .ok (.lshl, 1) := by decide +kernel
theorem dL_law_990 : decode cL_law 990 = .ok (.aload_n 0, 1) := by decide +kernel
theorem dL_law_991 : decode cL_law 991 = .ok (.iload_n 3, 1) := by decide +kernel
theorem dL_law_992 : decode cL_law 992 = .ok (.iconst 2, 1) := by decide +kernel
theorem dL_law_993 : decode cL_law 993 = .ok (.iadd, 1) := by decide +kernel
theorem dL_law_994 : decode cL_law 994 = .ok (.iaload, 1) := by decide +kernel
theorem dL_law_995 : decode cL_law 995 = .ok (.i2l, 1) := by decide +kernel
theorem dL_law_996 : decode cL_law 996 = .ok (.ldc2_w 82, 3) := by decide +kernel
theorem dL_law_999 : decode cL_law 999 = .ok (.land, 1) := by decide +kernel
theorem dL_law_1000 : decode cL_law 1000 = .ok (.lor, 1) := by decide +kernel
theorem dL_law_1001 : decode cL_law 1001 = .ok (.invokevirtual 141, 3) := by decide +kernel
theorem dL_law_1004 : decode cL_law 1004 = .ok (.lcmp, 1) := by decide +kernel
theorem dL_law_1005 : decode cL_law 1005 = .ok (.ifCond .eq 74, 3) := by decide +kernel
theorem dL_law_1008 : decode cL_law 1008 = .ok (.iconst 0, 1) := by decide +kernel
theorem dL_law_1009 : decode cL_law 1009 = .ok (.ireturn, 1) := by decide +kernel
theorem dL_law_1010 : decode cL_law 1010 = .ok (.aload_n 1, 1) := by decide +kernel
theorem dL_law_1011 : decode cL_law 1011 = .ok (.aload_n 0, 1) := by decide +kernel
theorem dL_law_1012 : decode cL_law 1012 = .ok (.iload_n 3, 1) := by decide +kernel
theorem dL_law_1013 : decode cL_law 1013 = .ok (.iconst 1, 1) := by decide +kernel
theorem dL_law_1014 : decode cL_law 1014 = .ok (.iadd, 1) := by decide +kernel
theorem dL_law_1015 : decode cL_law 1015 = .ok (.iaload, 1) := by decide +kernel
theorem dL_law_1016 : decode cL_law 1016 = .ok (.invokevirtual 142, 3) := by decide +kernel
theorem dL_law_1019 : decode cL_law 1019 = .ok (.aload_n 2, 1) := by decide +kernel
theorem dL_law_1020 : decode cL_law 1020 = .ok (.aload_n 0, 1) := by decide +kernel
theorem dL_law_1021 : decode cL_law 1021 = .ok (.iload_n 3, 1) := by decide +kernel
theorem dL_law_1022 : decode cL_law 1022 = .ok (.iconst 1, 1) := by decide +kernel
theorem dL_law_1023 : decode cL_law 1023 = .ok (.iadd, 1) := by decide +kernel
theorem dL_law_1024 : decode cL_law 1024 = .ok (.iaload, 1) := by decide +kernel
theorem dL_law_1025 : decode cL_law 1025 = .ok (.invokevirtual 145, 3) := by decide +kernel
theorem dL_law_1028 : decode cL_law 1028 = .ok (.if_icmp .eq 51, 3) := by decide +kernel
theorem dL_law_1031 : decode cL_law 1031 = .ok (.iconst 0, 1) := by decide +kernel
theorem dL_law_1032 : decode cL_law 1032 = .ok (.ireturn, 1) := by decide +kernel
theorem dL_law_1033 : decode cL_law 1033 = .ok (.aload_n 1, 1) := by decide +kernel
theorem dL_law_1034 : decode cL_law 1034 = .ok (.aload_n 0, 1) := by decide +kernel
theorem dL_law_1035 : decode cL_law 1035 = .ok (.iload_n 3, 1) := by decide +kernel
theorem dL_law_1036 : decode cL_law 1036 = .ok (.iconst 1, 1) := by decide +kernel
theorem dL_law_1037 : decode cL_law 1037 = .ok (.iadd, 1) := by decide +kernel
theorem dL_law_1038 : decode cL_law 1038 = .ok (.iaload, 1) := by decide +kernel
theorem dL_law_1039 : decode cL_law 1039 = .ok (.invokevirtual 146, 3) := by decide +kernel
theorem dL_law_1042 : decode cL_law 1042 = .ok (.aload_n 2, 1) := by decide +kernel
theorem dL_law_1043 : decode cL_law 1043 = .ok (.aload_n 0, 1) := by decide +kernel
theorem dL_law_1044 : decode cL_law 1044 = .ok (.iload_n 3, 1) := by decide +kernel
theorem dL_law_1045 : decode cL_law 1045 = .ok (.iconst 1, 1) := by decide +kernel
theorem dL_law_1046 : decode cL_law 1046 = .ok (.iadd, 1) := by decide +kernel
theorem dL_law_1047 : decode cL_law 1047 = .ok (.iaload, 1) := by decide +kernel
theorem dL_law_1048 : decode cL_law 1048 = .ok (.invokevirtual 149, 3) := by decide +kernel
theorem dL_law_1051 : decode cL_law 1051 = .ok (.if_icmp .eq 28, 3) := by decide +kernel
theorem dL_law_1054 : decode cL_law 1054 = .ok (.iconst 0, 1) := by decide +kernel
theorem dL_law_1055 : decode cL_law 1055 = .ok (.ireturn, 1) := by decide +kernel
theorem dL_law_1056 : decode cL_law 1056 = .ok (.aload_n 1, 1) := by decide +kernel
theorem dL_law_1057 : decode cL_law 1057 = .ok (.aload_n 0, 1) := by decide +kernel
theorem dL_law_1058 : decode cL_law 1058 = .ok (.iload_n 3, 1) := by decide +kernel
theorem dL_law_1059 : decode cL_law 1059 = .ok (.iconst 1, 1) := by decide +kernel
theorem dL_law_1060 : decode cL_law 1060 = .ok (.iadd, 1) := by decide +kernel
theorem dL_law_1061 : decode cL_law 1061 = .ok (.iaload, 1) := by decide +kernel
theorem dL_law_1062 : decode cL_law 1062 = .ok (.invokevirtual 150, 3) := by decide +kernel
theorem dL_law_1065 : decode cL_law 1065 = .ok (.aload_n 2, 1) := by decide +kernel
theorem dL_law_1066 : decode cL_law 1066 = .ok (.aload_n 0, 1) := by decide +kernel
theorem dL_law_1067 : decode cL_law 1067 = .ok (.iload_n 3, 1) := by decide +kernel
theorem dL_law_1068 : decode cL_law 1068 = .ok (.iconst 1, 1) := by decide +kernel
theorem dL_law_1069 : decode cL_law 1069 = .ok (.iadd, 1) := by decide +kernel
theorem dL_law_1070 : decode cL_law 1070 = .ok (.iaload, 1) := by decide +kernel
theorem dL_law_1071 : decode cL_law 1071 = .ok (.invokevirtual 153, 3) := by decide +kernel
theorem dL_law_1074 : decode cL_law 1074 = .ok (.if_icmp .eq 5, 3) := by decide +kernel
theorem dL_law_1077 : decode cL_law 1077 = .ok (.iconst 0, 1) := by decide +kernel
theorem dL_law_1078 : decode cL_law 1078 = .ok (.ireturn, 1) := by decide +kernel
theorem dL_law_1079 : decode cL_law 1079 = .ok (.iinc 3 4, 3) := by decide +kernel
theorem dL_law_1082 : decode cL_law 1082 = .ok (.goto (-1064), 3) := by decide +kernel
theorem dL_law_1085 : decode cL_law 1085 = .ok (.iconst 1, 1) := by decide +kernel
theorem dL_law_1086 : decode cL_law 1086 = .ok (.ireturn, 1) := by decide +kernel
