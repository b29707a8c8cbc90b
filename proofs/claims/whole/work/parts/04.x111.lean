theorem dX11_advance_64 : decode cX11_advance 64 = .ok (.getfield 68, 3) := by decide +kernel
theorem dX11_advance_67 : decode cX11_advance 67 = .ok (.aload_n 0, 1) := by decide +kernel
theorem dX11_advance_68 : decode cX11_advance 68 = .ok (.getfield 236, 3) := by decide +kernel
theorem dX11_advance_71 : decode cX11_advance 71 = .ok (.baload, 1) := by decide +kernel
theorem dX11_advance_72 : decode cX11_advance 72 = .ok (.istore_n 1, 1) := by decide +kernel
theorem dX11_advance_73 : decode cX11_advance 73 = .ok (.iload_n 1, 1) := by decide +kernel
theorem dX11_advance_74 : decode cX11_advance 74 = .ok (.invokestatic 245, 3) := by decide +kernel
theorem dX11_advance_77 : decode cX11_advance 77 = .ok (.ifCond .eq 102, 3) := by decide +kernel
theorem dX11_advance_80 : decode cX11_advance 80 = .ok (.lconst 0, 1) := by decide +kernel
theorem dX11_advance_81 : decode cX11_advance 81 = .ok (.lstore_n 2, 1) := by decide +kernel
theorem dX11_advance_82 : decode cX11_advance 82 = .ok (.iconst 0, 1) := by decide +kernel
theorem dX11_advance_83 : decode cX11_advance 83 = .ok (.istore 4, 2) := by decide +kernel
theorem dX11_advance_85 : decode cX11_advance 85 = .ok (.aload_n 0, 1) := by decide +kernel
theorem dX11_advance_86 : decode cX11_advance 86 = .ok (.getfield 236, 3) := by decide +kernel
theorem dX11_advance_89 : decode cX11_advance 89 = .ok (.aload_n 0, 1) := by decide +kernel
theorem dX11_advance_90 : decode cX11_advance 90 = .ok (.getfield 230, 3) := by decide +kernel
theorem dX11_advance_93 : decode cX11_advance 93 = .ok (.if_icmp .ge 66, 3) := by decide +kernel
theorem dX11_advance_96 : decode cX11_advance 96 = .ok (.aload_n 0, 1) := by decide +kernel
theorem dX11_advance_97 : decode cX11_advance 97 = .ok (.getfield 68, 3) := by decide +kernel
theorem dX11_advance_100 : decode cX11_advance 100 = .ok (.aload_n 0, 1) := by decide +kernel
theorem dX11_advance_101 : decode cX11_advance 101 = .ok (.getfield 236, 3) := by decide +kernel
theorem dX11_advance_104 : decode cX11_advance 104 = .ok (.baload, 1) := by decide +kernel
theorem dX11_advance_105 : decode cX11_advance 105 = .ok (.invokestatic 245, 3) := by decide +kernel
theorem dX11_advance_108 : decode cX11_advance 108 = .ok (.ifCond .eq 51, 3) := by decide +kernel
theorem dX11_advance_111 : decode cX11_advance 111 = .ok (.iload 4, 2) := by decide +kernel
theorem dX11_advance_113 : decode cX11_advance 113 = .ok (.bipush 9, 2) := by decide +kernel
theorem dX11_advance_115 : decode cX11_advance 115 = .ok (.if_icmp .ge 26, 3) := by decide +kernel
theorem dX11_advance_118 : decode cX11_advance 118 = .ok (.lload_n 2, 1) := by decide +kernel
theorem dX11_advance_119 : decode cX11_advance 119 = .ok (.ldc2_w 248, 3) := by decide +kernel
theorem dX11_advance_122 : decode cX11_advance 122 = .ok (.lmul, 1) := by decide +kernel
theorem dX11_advance_123 : decode cX11_advance 123 = .ok (.aload_n 0, 1) := by decide +kernel
theorem dX11_advance_124 : decode cX11_advance 124 = .ok (.getfield 68, 3) := by decide +kernel
theorem dX11_advance_127 : decode cX11_advance 127 = .ok (.aload_n 0, 1) := by decide +kernel
theorem dX11_advance_128 : decode cX11_advance 128 = .ok (.getfield 236, 3) := by decide +kernel
theorem dX11_advance_131 : decode cX11_advance 131 = .ok (.baload, 1) := by decide +kernel
theorem dX11_advance_132 : decode cX11_advance 132 = .ok (.i2l, 1) := by decide +kernel
theorem dX11_advance_133 : decode cX11_advance 133 = .ok (.ladd, 1) := by decide +kernel
theorem dX11_advance_134 : decode cX11_advance 134 = .ok (.ldc2_w 250, 3) := by decide +kernel
theorem dX11_advance_137 : decode cX11_advance 137 = .ok (.lsub, 1) := by decide +kernel
theorem dX11_advance_138 : decode cX11_advance 138 = .ok (.goto 4, 3) := by decide +kernel
theorem dX11_advance_141 : decode cX11_advance 141 = .ok (.lload_n 2, 1) := by decide +kernel
theorem dX11_advance_142 : decode cX11_advance 142 = .ok (.lstore_n 2, 1) := by decide +kernel
theorem dX11_advance_143 : decode cX11_advance 143 = .ok (.aload_n 0, 1) := by decide +kernel
theorem dX11_advance_144 : decode cX11_advance 144 = .ok (.dup, 1) := by decide +kernel
theorem dX11_advance_145 : decode cX11_advance 145 = .ok (.getfield 236, 3) := by decide +kernel
theorem dX11_advance_148 : decode cX11_advance 148 = .ok (.iconst 1, 1) := by decide +kernel
theorem dX11_advance_149 : decode cX11_advance 149 = .ok (.iadd, 1) := by decide +kernel
theorem dX11_advance_150 : decode cX11_advance 150 = .ok (.putfield 236, 3) := by decide +kernel
theorem dX11_advance_153 : decode cX11_advance 153 = .ok (.iinc 4 1, 3) := by decide +kernel
theorem dX11_advance_156 : decode cX11_advance 156 = .ok (.goto (-71), 3) := by decide +kernel
theorem dX11_advance_159 : decode cX11_advance 159 = .ok (.aload_n 0, 1) := by decide +kernel
theorem dX11_advance_160 : decode cX11_advance 160 = .ok (.iload 4, 2) := by decide +kernel
theorem dX11_advance_162 : decode cX11_advance 162 = .ok (.bipush 8, 2) := by decide +kernel
theorem dX11_advance_164 : decode cX11_advance 164 = .ok (.if_icmp .le 7, 3) := by decide +kernel
theorem dX11_advance_167 : decode cX11_advance 167 = .ok (.iconst 2, 1) := by decide +kernel
theorem dX11_advance_168 : decode cX11_advance 168 = .ok (.goto 7, 3) := by decide +kernel
theorem dX11_advance_171 : decode cX11_advance 171 = .ok (.lload_n 2, 1) := by decide +kernel
theorem dX11_advance_172 : decode cX11_advance 172 = .ok (.invokestatic 252, 3) := by decide +kernel
theorem dX11_advance_175 : decode cX11_advance 175 = .ok (.putfield 242, 3) := by decide +kernel
theorem dX11_advance_178 : decode cX11_advance 178 = .ok (.return_, 1) := by decide +kernel
theorem dX11_advance_179 : decode cX11_advance 179 = .ok (.iload_n 1, 1) := by decide +kernel
theorem dX11_advance_180 : decode cX11_advance 180 = .ok (.invokestatic 256, 3) := by decide +kernel
theorem dX11_advance_183 : decode cX11_advance 183 = .ok (.ifCond .eq 103, 3) := by decide +kernel
theorem dX11_advance_186 : decode cX11_advance 186 = .ok (.iconst 0, 1) := by decide +kernel
theorem dX11_advance_187 : decode cX11_advance 187 = .ok (.istore_n 2, 1) := by decide +kernel
theorem dX11_advance_188 : decode cX11_advance 188 = .ok (.aload_n 0, 1) := by decide +kernel
theorem dX11_advance_189 : decode cX11_advance 189 = .ok (.iconst 0, 1) := by decide +kernel
theorem dX11_advance_190 : decode cX11_advance 190 = .ok (.putfield 259, 3) := by decide +kernel
theorem dX11_advance_193 : decode cX11_advance 193 = .ok (.aload_n 0, 1) := by decide +kernel
theorem dX11_advance_194 : decode cX11_advance 194 = .ok (.getfield 236, 3) := by decide +kernel
theorem dX11_advance_197 : decode cX11_advance 197 = .ok (.aload_n 0, 1) := by decide +kernel
theorem dX11_advance_198 : decode cX11_advance 198 = .ok (.getfield 230, 3) := by decide +kernel
theorem dX11_advance_201 : decode cX11_advance 201 = .ok (.if_icmp .ge 70, 3) := by decide +kernel
theorem dX11_advance_204 : decode cX11_advance 204 = .ok (.aload_n 0, 1) := by decide +kernel
theorem dX11_advance_205 : decode cX11_advance 205 = .ok (.getfield 68, 3) := by decide +kernel
theorem dX11_advance_208 : decode cX11_advance 208 = .ok (.aload_n 0, 1) := by decide +kernel
theorem dX11_advance_209 : decode cX11_advance 209 = .ok (.getfield 236, 3) := by decide +kernel
theorem dX11_advance_212 : decode cX11_advance 212 = .ok (.baload, 1) := by decide +kernel
theorem dX11_advance_213 : decode cX11_advance 213 = .ok (.invokestatic 256, 3) := by decide +kernel
theorem dX11_advance_216 : decode cX11_advance 216 = .ok (.ifCond .eq 55, 3) := by decide +kernel
theorem dX11_advance_219 : decode cX11_advance 219 = .ok (.aload_n 0, 1) := by decide +kernel
theorem dX11_advance_220 : decode cX11_advance 220 = .ok (.iload_n 2, 1) := by decide +kernel
theorem dX11_advance_221 : decode cX11_advance 221 = .ok (.iconst 5, 1) := by decide +kernel
theorem dX11_advance_222 : decode cX11_advance 222 = .ok (.if_icmp .ge 26, 3) := by decide +kernel
theorem dX11_advance_225 : decode cX11_advance 225 = .ok (.bipush 10, 2) := by decide +kernel
theorem dX11_advance_227 : decode cX11_advance 227 = .ok (.aload_n 0, 1) := by decide +kernel
theorem dX11_advance_228 : decode cX11_advance 228 = .ok (.getfield 259, 3) := by decide +kernel
theorem dX11_advance_231 : decode cX11_advance 231 = .ok (.imul, 1) := by decide +kernel
theorem dX11_advance_232 : decode cX11_advance 232 = .ok (.aload_n 0, 1) := by decide +kernel
theorem dX11_advance_233 : decode cX11_advance 233 = .ok (.getfield 68, 3) := by decide +kernel
theorem dX11_advance_236 : decode cX11_advance 236 = .ok (.aload_n 0, 1) := by decide +kernel
theorem dX11_advance_237 : decode cX11_advance 237 = .ok (.getfield 236, 3) := by decide +kernel
theorem dX11_advance_240 : decode cX11_advance 240 = .ok (.baload, 1) := by decide +kernel
theorem dX11_advance_241 : decode cX11_advance 241 = .ok (.iadd, 1) := by decide +kernel
theorem dX11_advance_242 : decode cX11_advance 242 = .ok (.bipush 48, 2) := by decide +kernel
theorem dX11_advance_244 : decode cX11_advance 244 = .ok (.isub, 1) := by decide +kernel
theorem dX11_advance_245 : decode cX11_advance 245 = .ok (.goto 7, 3) := by decide +kernel
theorem dX11_advance_248 : decode cX11_advance 248 = .ok (.aload_n 0, 1) := by decide +kernel
theorem dX11_advance_249 : decode cX11_advance 249 = .ok (.getfield 259, 3) := by decide +kernel
theorem dX11_advance_252 : decode cX11_advance 252 = .ok (.putfield 259, 3) := by decide +kernel
theorem dX11_advance_255 : decode cX11_advance 255 = .ok (.aload_n 0, 1) := by decide +kernel
theorem dX11_advance_256 : decode cX11_advance 256 = .ok (.dup, 1) := by decide +kernel
theorem dX11_advance_257 : decode cX11_advance 257 = .ok (.getfield 236, 3) := by decide +kernel
theorem dX11_advance_260 : decode cX11_advance 260 = .ok (.iconst 1, 1) := by decide +kernel
theorem dX11_advance_261 : decode cX11_advance 261 = .ok (.iadd, 1) := by decide +kernel
theorem dX11_advance_262 : decode cX11_advance 262 = .ok (.putfield 236, 3) := by decide +kernel
theorem dX11_advance_265 : decode cX11_advance 265 = .ok (.iinc 2 1, 3) := by decide +kernel
theorem dX11_advance_268 : decode cX11_advance 268 = .ok (.goto (-75), 3) := by decide +kernel
theorem dX11_advance_271 : decode cX11_advance 271 = .ok (.aload_n 0, 1) := by decide +kernel
theorem dX11_advance_272 : decode cX11_advance 272 = .ok (.iload_n 2, 1) := by decide +kernel
theorem dX11_advance_273 : decode cX11_advance 273 = .ok (.iconst 5, 1) := by decide +kernel
theorem dX11_advance_274 : decode cX11_advance 274 = .ok (.if_icmp .le 7, 3) := by decide +kernel
theorem dX11_advance_277 : decode cX11_advance 277 = .ok (.iconst 2, 1) := by decide +kernel
theorem dX11_advance_278 : decode cX11_advance 278 = .ok (.goto 4, 3) := by decide +kernel
theorem dX11_advance_281 : decode cX11_advance 281 = .ok (.iconst 1, 1) := by decide +kernel
theorem dX11_advance_282 : decode cX11_advance 282 = .ok (.putfield 242, 3) := by decide +kernel
theorem dX11_advance_285 : decode cX11_advance 285 = .ok (.return_, 1) := by decide +kernel
theorem dX11_advance_286 : decode cX11_advance 286 = .ok (.aload_n 0, 1) := by decide +kernel
theorem dX11_advance_287 : decode cX11_advance 287 = .ok (.dup, 1) := by decide +kernel
theorem dX11_advance_288 : decode cX11_advance 288 = .ok (.getfield 236, 3) := by decide +kernel
theorem dX11_advance_291 : decode cX11_advance 291 = .ok (.iconst 1, 1) := by decide +kernel
theorem dX11_advance_292 : decode cX11_advance 292 = .ok (.iadd, 1) := by decide +kernel
theorem dX11_advance_293 : decode cX11_advance 293 = .ok (.putfield 236, 3) := by decide +kernel
theorem dX11_advance_296 : decode cX11_advance 296 = .ok (.aload_n 0, 1) := by decide +kernel
theorem dX11_advance_297 : decode cX11_advance 297 = .ok (.iload_n 1, 1) := by decide +kernel
theorem dX11_advance_298 : decode cX11_advance 298 = .ok (.invokestatic 262, 3) := by decide +kernel
theorem dX11_advance_301 : decode cX11_advance 301 = .ok (.putfield 242, 3) := by decide +kernel
theorem dX11_advance_304 : decode cX11_advance 304 = .ok (.return_, 1) := by decide +kernel
theorem dX11_signOf_0 : decode cX11_signOf 0 = .ok (.iload_n 0, 1) := by decide +kernel
theorem dX11_signOf_1 : decode cX11_signOf 1 = .ok (.tableswitch 137 40 62 #[107, 109, 112, 115, 118, 120, 137, 123, 137, 137, 137, 137, 137, 137, 137, 137, 137, 137, 137, 126, 128, 131, 134], 107) := by decide +kernel
theorem dX11_signOf_108 : decode cX11_signOf 108 = .ok (.iconst 5, 1) := by decide +kernel
theorem dX11_signOf_109 : decode cX11_signOf 109 = .ok (.ireturn, 1) := by decide +kernel
theorem dX11_signOf_110 : decode cX11_signOf 110 = .ok (.bipush 6, 2) := by decide +kernel
theorem dX11_signOf_112 : decode cX11_signOf 112 = .ok (.ireturn, 1) := by decide +kernel
theorem dX11_signOf_113 : decode cX11_signOf 113 = .ok (.bipush 60, 2) := by decide +kernel
theorem dX11_signOf_115 : decode cX11_signOf 115 = .ok (.ireturn, 1) := by decide +kernel
theorem dX11_signOf_116 : decode cX11_signOf 116 = .ok (.bipush 50, 2) := by decide +kernel
theorem dX11_signOf_118 : decode cX11_signOf 118 = .ok (.ireturn, 1) := by decide +kernel
theorem dX11_signOf_119 : decode cX11_signOf 119 = .ok (.iconst 4, 1) := by decide +kernel
theorem dX11_signOf_120 : decode cX11_signOf 120 = .ok (.ireturn, 1) := by decide +kernel
theorem dX11_signOf_121 : decode cX11_signOf 121 = .ok (.bipush 51, 2) := by decide +kernel
theorem dX11_signOf_123 : decode cX11_signOf 123 = .ok (.ireturn, 1) := by decide +kernel
theorem dX11_signOf_124 : decode cX11_signOf 124 = .ok (.bipush 61, 2) := by decide +kernel
theorem dX11_signOf_126 : decode cX11_signOf 126 = .ok (.ireturn, 1) := by decide +kernel
theorem dX11_signOf_127 : decode cX11_signOf 127 = .ok (.iconst 3, 1) := by decide +kernel
theorem dX11_signOf_128 : decode cX11_signOf 128 = .ok (.ireturn, 1) := by decide +kernel
theorem dX11_signOf_129 : decode cX11_signOf 129 = .ok (.bipush 40, 2) := by decide +kernel
theorem dX11_signOf_131 : decode cX11_signOf 131 = .ok (.ireturn, 1) := by decide +kernel
theorem dX11_signOf_132 : decode cX11_signOf 132 = .ok (.bipush 41, 2) := by decide +kernel
theorem dX11_signOf_134 : decode cX11_signOf 134 = .ok (.ireturn, 1) := by decide +kernel
theorem dX11_signOf_135 : decode cX11_signOf 135 = .ok (.bipush 42, 2) := by decide +kernel
theorem dX11_signOf_137 : decode cX11_signOf 137 = .ok (.ireturn, 1) := by decide +kernel
theorem dX11_signOf_138 : decode cX11_signOf 138 = .ok (.iconst 2, 1) := by decide +kernel
theorem dX11_signOf_139 : decode cX11_signOf 139 = .ok (.ireturn, 1) := by decide +kernel
theorem dX11_wordOf_0 : decode cX11_wordOf 0 = .ok (.lload_n 0, 1) := by decide +kernel
theorem dX11_wordOf_1 : decode cX11_wordOf 1 = .ok (.ldc2_w 265, 3) := by decide +kernel
theorem dX11_wordOf_4 : decode cX11_wordOf 4 = .ok (.lcmp, 1) := by decide +kernel
theorem dX11_wordOf_5 : decode cX11_wordOf 5 = .ok (.ifCond .ne 6, 3) := by decide +kernel
theorem dX11_wordOf_8 : decode cX11_wordOf 8 = .ok (.bipush 7, 2) := by decide +kernel
theorem dX11_wordOf_10 : decode cX11_wordOf 10 = .ok (.ireturn, 1) := by decide +kernel
theorem dX11_wordOf_11 : decode cX11_wordOf 11 = .ok (.lload_n 0, 1) := by decide +kernel
theorem dX11_wordOf_12 : decode cX11_wordOf 12 = .ok (.ldc2_w 267, 3) := by decide +kernel
theorem dX11_wordOf_15 : decode cX11_wordOf 15 = .ok (.lcmp, 1) := by decide +kernel
theorem dX11_wordOf_16 : decode cX11_wordOf 16 = .ok (.ifCond .ne 6, 3) := by decide +kernel
theorem dX11_wordOf_19 : decode cX11_wordOf 19 = .ok (.bipush 10, 2) := by decide +kernel
theorem dX11_wordOf_21 : decode cX11_wordOf 21 = .ok (.ireturn, 1) := by decide +kernel
theorem dX11_wordOf_22 : decode cX11_wordOf 22 = .ok (.lload_n 0, 1) := by decide +kernel
theorem dX11_wordOf_23 : decode cX11_wordOf 23 = .ok (.ldc2_w 269, 3) := by decide +kernel
theorem dX11_wordOf_26 : decode cX11_wordOf 26 = .ok (.lcmp, 1) := by decide +kernel
theorem dX11_wordOf_27 : decode cX11_wordOf 27 = .ok (.ifCond .ne 6, 3) := by decide +kernel
theorem dX11_wordOf_30 : decode cX11_wordOf 30 = .ok (.bipush 20, 2) := by decide +kernel
theorem dX11_wordOf_32 : decode cX11_wordOf 32 = .ok (.ireturn, 1) := by decide +kernel
theorem dX11_wordOf_33 : decode cX11_wordOf 33 = .ok (.lload_n 0, 1) := by decide +kernel
theorem dX11_wordOf_34 : decode cX11_wordOf 34 = .ok (.ldc2_w 271, 3) := by decide +kernel
theorem dX11_wordOf_37 : decode cX11_wordOf 37 = .ok (.lcmp, 1) := by decide +kernel
theorem dX11_wordOf_38 : decode cX11_wordOf 38 = .ok (.ifCond .ne 6, 3) := by decide +kernel
theorem dX11_wordOf_41 : decode cX11_wordOf 41 = .ok (.bipush 30, 2) := by decide +kernel
theorem dX11_wordOf_43 : decode cX11_wordOf 43 = .ok (.ireturn, 1) := by decide +kernel
theorem dX11_wordOf_44 : decode cX11_wordOf 44 = .ok (.lload_n 0, 1) := by decide +kernel
theorem dX11_wordOf_45 : decode cX11_wordOf 45 = .ok (.ldc2_w 273, 3) := by decide +kernel
theorem dX11_wordOf_48 : decode cX11_wordOf 48 = .ok (.lcmp, 1) := by decide +kernel
theorem dX11_wordOf_49 : decode cX11_wordOf 49 = .ok (.ifCond .ne 6, 3) := by decide +kernel
theorem dX11_wordOf_52 : decode cX11_wordOf 52 = .ok (.bipush 70, 2) := by decide +kernel
theorem dX11_wordOf_54 : decode cX11_wordOf 54 = .ok (.ireturn, 1) := by decide +kernel
theorem dX11_wordOf_55 : decode cX11_wordOf 55 = .ok (.lload_n 0, 1) := by decide +kernel
theorem dX11_wordOf_56 : decode cX11_wordOf 56 = .ok (.ldc2_w 275, 3) := by decide +kernel
theorem dX11_wordOf_59 : decode cX11_wordOf 59 = .ok (.lcmp, 1) := by decide +kernel
theorem dX11_wordOf_60 : decode cX11_wordOf 60 = .ok (.ifCond .ne 6, 3) := by decide +kernel
theorem dX11_wordOf_63 : decode cX11_wordOf 63 = .ok (.bipush 71, 2) := by decide +kernel
theorem dX11_wordOf_65 : decode cX11_wordOf 65 = .ok (.ireturn, 1) := by decide +kernel
theorem dX11_wordOf_66 : decode cX11_wordOf 66 = .ok (.lload_n 0, 1) := by decide +kernel
theorem dX11_wordOf_67 : decode cX11_wordOf 67 = .ok (.ldc2_w 277, 3) := by decide +kernel
theorem dX11_wordOf_70 : decode cX11_wordOf 70 = .ok (.lcmp, 1) := by decide +kernel
theorem dX11_wordOf_71 : decode cX11_wordOf 71 = .ok (.ifCond .ne 6, 3) := by decide +kernel
theorem dX11_wordOf_74 : decode cX11_wordOf 74 = .ok (.bipush 100, 2) := by decide +kernel
theorem dX11_wordOf_76 : decode cX11_wordOf 76 = .ok (.ireturn, 1) := by decide +kernel
theorem dX11_wordOf_77 : decode cX11_wordOf 77 = .ok (.lload_n 0, 1) := by decide +kernel
theorem dX11_wordOf_78 : decode cX11_wordOf 78 = .ok (.ldc2_w 279, 3) := by decide +kernel
theorem dX11_wordOf_81 : decode cX11_wordOf 81 = .ok (.lcmp, 1) := by decide +kernel
theorem dX11_wordOf_82 : decode cX11_wordOf 82 = .ok (.ifCond .ne 6, 3) := by decide +kernel
theorem dX11_wordOf_85 : decode cX11_wordOf 85 = .ok (.bipush 101, 2) := by decide +kernel
theorem dX11_wordOf_87 : decode cX11_wordOf 87 = .ok (.ireturn, 1) := by decide +kernel
theorem dX11_wordOf_88 : decode cX11_wordOf 88 = .ok (.lload_n 0, 1) := by decide +kernel
theorem dX11_wordOf_89 : decode cX11_wordOf 89 = .ok (.ldc2_w 281, 3) := by decide +kernel
theorem dX11_wordOf_92 : decode cX11_wordOf 92 = .ok (.lcmp, 1) := by decide +kernel
theorem dX11_wordOf_93 : decode cX11_wordOf 93 = .ok (.ifCond .ne 6, 3) := by decide +kernel
theorem dX11_wordOf_96 : decode cX11_wordOf 96 = .ok (.bipush 102, 2) := by decide +kernel
theorem dX11_wordOf_98 : decode cX11_wordOf 98 = .ok (.ireturn, 1) := by decide +kernel
theorem dX11_wordOf_99 : decode cX11_wordOf 99 = .ok (.lload_n 0, 1) := by decide +kernel
theorem dX11_wordOf_100 : decode cX11_wordOf 100 = .ok (.ldc2_w 283, 3) := by decide +kernel
theorem dX11_wordOf_103 : decode cX11_wordOf 103 = .ok (.lcmp, 1) := by decide +kernel
theorem dX11_wordOf_104 : decode cX11_wordOf 104 = .ok (.ifCond .ne 6, 3) := by decide +kernel
theorem dX11_wordOf_107 : decode cX11_wordOf 107 = .ok (.bipush 103, 2) := by decide +kernel
theorem dX11_wordOf_109 : decode cX11_wordOf 109 = .ok (.ireturn, 1) := by decide +kernel
theorem dX11_wordOf_110 : decode cX11_wordOf 110 = .ok (.lload_n 0, 1) := by decide +kernel
theorem dX11_wordOf_111 : decode cX11_wordOf 111 = .ok (.ldc2_w 285, 3) := by decide +kernel
theorem dX11_wordOf_114 : decode cX11_wordOf 114 = .ok (.lcmp, 1) := by decide +kernel
theorem dX11_wordOf_115 : decode cX11_wordOf 115 = .ok (.ifCond .ne 6, 3) := by decide +kernel
theorem dX11_wordOf_118 : decode cX11_wordOf 118 = .ok (.bipush 104, 2) := by decide +kernel
theorem dX11_wordOf_120 : decode cX11_wordOf 120 = .ok (.ireturn, 1) := by decide +kernel
theorem dX11_wordOf_121 : decode cX11_wordOf 121 = .ok (.lload_n 0, 1) := by decide +kernel
theorem dX11_wordOf_122 : decode cX11_wordOf 122 = .ok (.ldc2_w 287, 3) := by decide +kernel
theorem dX11_wordOf_125 : decode cX11_wordOf 125 = .ok (.lcmp, 1) := by decide +kernel
theorem dX11_wordOf_126 : decode cX11_wordOf 126 = .ok (.ifCond .ne 6, 3) := by decide +kernel
theorem dX11_wordOf_129 : decode cX11_wordOf 129 = .ok (.bipush 105, 2) := by decide +kernel
theorem dX11_wordOf_131 : decode cX11_wordOf 131 = .ok (.ireturn, 1) := by decide +kernel
theorem dX11_wordOf_132 : decode cX11_wordOf 132 = .ok (.lload_n 0, 1) := by decide +kernel
theorem dX11_wordOf_133 : decode cX11_wordOf 133 = .ok (.ldc2_w 289, 3) := by decide +kernel
theorem dX11_wordOf_136 : decode cX11_wordOf 136 = .ok (.lcmp, 1) := by decide +kernel
theorem dX11_wordOf_137 : decode cX11_wordOf 137 = .ok (.ifCond .ne 6, 3) := by decide +kernel
theorem dX11_wordOf_140 : decode cX11_wordOf 140 = .ok (.bipush 106, 2) := by decide +kernel
theorem dX11_wordOf_142 : decode cX11_wordOf 142 = .ok (.ireturn, 1) := by decide +kernel
theorem dX11_wordOf_143 : decode cX11_wordOf 143 = .ok (.lload_n 0, 1) := by decide +kernel
theorem dX11_wordOf_144 : decode cX11_wordOf 144 = .ok (.ldc2_w 291, 3) := by decide +kernel
theorem dX11_wordOf_147 : decode cX11_wordOf 147 = .ok (.lcmp, 1) := by decide +kernel
theorem dX11_wordOf_148 : decode cX11_wordOf 148 = .ok (.ifCond .ne 6, 3) := by decide +kernel
theorem dX11_wordOf_151 : decode cX11_wordOf 151 = .ok (.bipush 107, 2) := by decide +kernel
theorem dX11_wordOf_153 : decode cX11_wordOf 153 = .ok (.ireturn, 1) := by decide +kernel
theorem dX11_wordOf_154 : decode cX11_wordOf 154 = .ok (.lload_n 0, 1) := by decide +kernel
theorem dX11_wordOf_155 : decode cX11_wordOf 155 = .ok (.ldc2_w 293, 3) := by decide +kernel
theorem dX11_wordOf_158 : decode cX11_wordOf 158 = .ok (.lcmp, 1) := by decide +kernel
theorem dX11_wordOf_159 : decode cX11_wordOf 159 = .ok (.ifCond .ne 6, 3) := by decide +kernel
theorem dX11_wordOf_162 : decode cX11_wordOf 162 = .ok (.bipush 108, 2) := by decide +kernel
theorem dX11_wordOf_164 : decode cX11_wordOf 164 = .ok (.ireturn, 1) := by decide +kernel
theorem dX11_wordOf_165 : decode cX11_wordOf 165 = .ok (.lload_n 0, 1) := by decide +kernel
theorem dX11_wordOf_166 : decode cX11_wordOf 166 = .ok (.ldc2_w 295, 3) := by decide +kernel
theorem dX11_wordOf_169 : decode cX11_wordOf 169 = .ok (.lcmp, 1) := by decide +kernel
theorem dX11_wordOf_170 : decode cX11_wordOf 170 = .ok (.ifCond .ne 6, 3) := by decide +kernel
theorem dX11_wordOf_173 : decode cX11_wordOf 173 = .ok (.bipush 109, 2) := by decide +kernel
theorem dX11_wordOf_175 : decode cX11_wordOf 175 = .ok (.ireturn, 1) := by decide +kernel
theorem dX11_wordOf_176 : decode cX11_wordOf 176 = .ok (.lload_n 0, 1) := by decide +kernel
theorem dX11_wordOf_177 : decode cX11_wordOf 177 = .ok (.ldc2_w 297, 3) := by decide +kernel
theorem dX11_wordOf_180 : decode cX11_wordOf 180 = .ok (.lcmp, 1) := by decide +kernel
theorem dX11_wordOf_181 : decode cX11_wordOf 181 = .ok (.ifCond .ne 6, 3) := by decide +kernel
theorem dX11_wordOf_184 : decode cX11_wordOf 184 = .ok (.bipush 110, 2) := by decide +kernel
theorem dX11_wordOf_186 : decode cX11_wordOf 186 = .ok (.ireturn, 1) := by decide +kernel
theorem dX11_wordOf_187 : decode cX11_wordOf 187 = .ok (.lload_n 0, 1) := by decide +kernel
theorem dX11_wordOf_188 : decode cX11_wordOf 188 = .ok (.ldc2_w 299, 3) := by decide +kernel
theorem dX11_wordOf_191 : decode cX11_wordOf 191 = .ok (.lcmp, 1) := by decide +kernel
theorem dX11_wordOf_192 : decode cX11_wordOf 192 = .ok (.ifCond .ne 6, 3) := by decide +kernel
theorem dX11_wordOf_195 : decode cX11_wordOf 195 = .ok (.bipush 111, 2) := by decide +kernel
theorem dX11_wordOf_197 : decode cX11_wordOf 197 = .ok (.ireturn, 1) := by decide +kernel
theorem dX11_wordOf_198 : decode cX11_wordOf 198 = .ok (.lload_n 0, 1) := by decide +kernel
theorem dX11_wordOf_199 : decode cX11_wordOf 199 = .ok (.ldc2_w 301, 3) := by decide +kernel
theorem dX11_wordOf_202 : decode cX11_wordOf 202 = .ok (.lcmp, 1) := by decide +kernel
theorem dX11_wordOf_203 : decode cX11_wordOf 203 = .ok (.ifCond .ne 8, 3) := by decide +kernel
theorem dX11_wordOf_206 : decode cX11_wordOf 206 = .ok (.bipush 112, 2) := by decide +kernel
theorem dX11_wordOf_208 : decode cX11_wordOf 208 = .ok (.goto 4, 3) := by decide +kernel
theorem dX11_wordOf_211 : decode cX11_wordOf 211 = .ok (.iconst 2, 1) := by decide +kernel
theorem dX11_wordOf_212 : decode cX11_wordOf 212 = .ok (.ireturn, 1) := by decide +kernel
theorem dX11_tight_0 : decode cX11_tight 0 = .ok (.iload_n 0, 1) := by decide +kernel
theorem dX11_tight_1 : decode cX11_tight 1 = .ok (.iconst 5, 1) := by decide +kernel
theorem dX11_tight_2 : decode cX11_tight 2 = .ok (.if_icmp .eq 10, 3) := by decide +kernel
theorem dX11_tight_5 : decode cX11_tight 5 = .ok (.iload_n 0, 1) := by decide +kernel
theorem dX11_tight_6 : decode cX11_tight 6 = .ok (.sipush 1000, 3) := by decide +kernel
theorem dX11_tight_9 : decode cX11_tight 9 = .ok (.if_icmp .lt 7, 3) := by decide +kernel
theorem dX11_tight_12 : decode cX11_tight 12 = .ok (.iconst 0, 1) := by decide +kernel
theorem dX11_tight_13 : decode cX11_tight 13 = .ok (.goto 7, 3) := by decide +kernel
theorem dX11_tight_16 : decode cX11_tight 16 = .ok (.iload_n 0, 1) := by decide +kernel
theorem dX11_tight_17 : decode cX11_tight 17 = .ok (.bipush 10, 2) := by decide +kernel
theorem dX11_tight_19 : decode cX11_tight 19 = .ok (.idiv, 1) := by decide +kernel
theorem dX11_tight_20 : decode cX11_tight 20 = .ok (.ireturn, 1) := by decide +kernel
theorem dX11_lay_0 : decode cX11_lay 0 = .ok (.aload_n 0, 1) := by decide +kernel
theorem dX11_lay_1 : decode cX11_lay 1 = .ok (.getfield 87, 3) := by decide +kernel
theorem dX11_lay_4 : decode cX11_lay 4 = .ok (.sipush 220, 3) := by decide +kernel
theorem dX11_lay_7 : decode cX11_lay 7 = .ok (.iload_n 1, 1) := by decide +kernel
theorem dX11_lay_8 : decode cX11_lay 8 = .ok (.imul, 1) := by decide +kernel
theorem dX11_lay_9 : decode cX11_lay 9 = .ok (.aload_n 0, 1) := by decide +kernel
theorem dX11_lay_10 : decode cX11_lay 10 = .ok (.getfield 303, 3) := by decide +kernel
theorem dX11_lay_13 : decode cX11_lay 13 = .ok (.iadd, 1) := by decide +kernel
theorem dX11_lay_14 : decode cX11_lay 14 = .ok (.iload_n 2, 1) := by decide +kernel
theorem dX11_lay_15 : decode cX11_lay 15 = .ok (.iastore, 1) := by decide +kernel
theorem dX11_lay_16 : decode cX11_lay 16 = .ok (.aload_n 0, 1) := by decide +kernel
theorem dX11_lay_17 : decode cX11_lay 17 = .ok (.getfield 90, 3) := by decide +kernel
theorem dX11_lay_20 : decode cX11_lay 20 = .ok (.sipush 220, 3) := by decide +kernel
theorem dX11_lay_23 : decode cX11_lay 23 = .ok (.iload_n 1, 1) := by decide +kernel
theorem dX11_lay_24 : decode cX11_lay 24 = .ok (.imul, 1) := by decide +kernel
theorem dX11_lay_25 : decode cX11_lay 25 = .ok (.aload_n 0, 1) := by decide +kernel
theorem dX11_lay_26 : decode cX11_lay 26 = .ok (.getfield 303, 3) := by decide +kernel
theorem dX11_lay_29 : decode cX11_lay 29 = .ok (.iadd, 1) := by decide +kernel
theorem dX11_lay_30 : decode cX11_lay 30 = .ok (.iload_n 3, 1) := by decide +kernel
theorem dX11_lay_31 : decode cX11_lay 31 = .ok (.iastore, 1) := by decide +kernel
theorem dX11_lay_32 : decode cX11_lay 32 = .ok (.aload_n 0, 1) := by decide +kernel
theorem dX11_lay_33 : decode cX11_lay 33 = .ok (.dup, 1) := by decide +kernel
theorem dX11_lay_34 : decode cX11_lay 34 = .ok (.getfield 303, 3) := by decide +kernel
theorem dX11_lay_37 : decode cX11_lay 37 = .ok (.iconst 1, 1) := by decide +kernel
theorem dX11_lay_38 : decode cX11_lay 38 = .ok (.iadd, 1) := by decide +kernel
theorem dX11_lay_39 : decode cX11_lay 39 = .ok (.putfield 303, 3) := by decide +kernel
theorem dX11_lay_42 : decode cX11_lay 42 = .ok (.return_, 1) := by decide +kernel
theorem dX11_done_0 : decode cX11_done 0 = .ok (.aload_n 0, 1) := by decide +kernel
theorem dX11_done_1 : decode cX11_done 1 = .ok (.getfield 306, 3) := by decide +kernel
theorem dX11_done_4 : decode cX11_done 4 = .ok (.ifCond .le 49, 3) := by decide +kernel
theorem dX11_done_7 : decode cX11_done 7 = .ok (.aload_n 0, 1) := by decide +kernel
theorem dX11_done_8 : decode cX11_done 8 = .ok (.getfield 93, 3) := by decide +kernel
theorem dX11_done_11 : decode cX11_done 11 = .ok (.aload_n 0, 1) := by decide +kernel
theorem dX11_done_12 : decode cX11_done 12 = .ok (.getfield 306, 3) := by decide +kernel
theorem dX11_done_15 : decode cX11_done 15 = .ok (.iconst 1, 1) := by decide +kernel
theorem dX11_done_16 : decode cX11_done 16 = .ok (.isub, 1) := by decide +kernel
theorem dX11_done_17 : decode cX11_done 17 = .ok (.iaload, 1) := by decide +kernel
theorem dX11_done_18 : decode cX11_done 18 = .ok (.invokestatic 309, 3) := by decide +kernel
theorem dX11_done_21 : decode cX11_done 21 = .ok (.iload_n 2, 1) := by decide +kernel
theorem dX11_done_22 : decode cX11_done 22 = .ok (.if_icmp .lt 31, 3) := by decide +kernel
theorem dX11_done_25 : decode cX11_done 25 = .ok (.aload_n 0, 1) := by decide +kernel
theorem dX11_done_26 : decode cX11_done 26 = .ok (.dup, 1) := by decide +kernel
theorem dX11_done_27 : decode cX11_done 27 = .ok (.getfield 306, 3) := by decide +kernel
theorem dX11_done_30 : decode cX11_done 30 = .ok (.iconst 1, 1) := by decide +kernel
theorem dX11_done_31 : decode cX11_done 31 = .ok (.isub, 1) := by decide +kernel
theorem dX11_done_32 : decode cX11_done 32 = .ok (.putfield 306, 3) := by decide +kernel
theorem dX11_done_35 : decode cX11_done 35 = .ok (.aload_n 0, 1) := by decide +kernel
theorem dX11_done_36 : decode cX11_done 36 = .ok (.iload_n 1, 1) := by decide +kernel
theorem dX11_done_37 : decode cX11_done 37 = .ok (.aload_n 0, 1) := by decide +kernel
theorem dX11_done_38 : decode cX11_done 38 = .ok (.getfield 93, 3) := by decide +kernel
theorem dX11_done_41 : decode cX11_done 41 = .ok (.aload_n 0, 1) := by decide +kernel
theorem dX11_done_42 : decode cX11_done 42 = .ok (.getfield 306, 3) := by decide +kernel
theorem dX11_done_45 : decode cX11_done 45 = .ok (.iaload, 1) := by decide +kernel
theorem dX11_done_46 : decode cX11_done 46 = .ok (.iconst 0, 1) := by decide +kernel
theorem dX11_done_47 : decode cX11_done 47 = .ok (.invokevirtual 312, 3) := by decide +kernel
theorem dX11_done_50 : decode cX11_done 50 = .ok (.goto (-50), 3) := by decide +kernel
theorem dX11_done_53 : decode cX11_done 53 = .ok (.return_, 1) := by decide +kernel
theorem dX11_opened_0 : decode cX11_opened 0 = .ok (.iconst 0, 1) := by decide +kernel
theorem dX11_opened_1 : decode cX11_opened 1 = .ok (.istore_n 1, 1) := by decide +kernel
theorem dX11_opened_2 : decode cX11_opened 2 = .ok (.iconst 0, 1) := by decide +kernel
theorem dX11_opened_3 : decode cX11_opened 3 = .ok (.istore_n 2, 1) := by decide +kernel
theorem dX11_opened_4 : decode cX11_opened 4 = .ok (.iload_n 2, 1) := by decide +kernel
theorem dX11_opened_5 : decode cX11_opened 5 = .ok (.aload_n 0, 1) := by decide +kernel
theorem dX11_opened_6 : decode cX11_opened 6 = .ok (.getfield 306, 3) := by decide +kernel
theorem dX11_opened_9 : decode cX11_opened 9 = .ok (.if_icmp .ge 50, 3) := by decide +kernel
theorem dX11_opened_12 : decode cX11_opened 12 = .ok (.iload_n 1, 1) := by decide +kernel
theorem dX11_opened_13 : decode cX11_opened 13 = .ok (.aload_n 0, 1) := by decide +kernel
theorem dX11_opened_14 : decode cX11_opened 14 = .ok (.getfield 93, 3) := by decide +kernel
theorem dX11_opened_17 : decode cX11_opened 17 = .ok (.iload_n 2, 1) := by decide +kernel
theorem dX11_opened_18 : decode cX11_opened 18 = .ok (.iaload, 1) := by decide +kernel
theorem dX11_opened_19 : decode cX11_opened 19 = .ok (.iconst 5, 1) := by decide +kernel
theorem dX11_opened_20 : decode cX11_opened 20 = .ok (.if_icmp .eq 26, 3) := by decide +kernel
theorem dX11_opened_23 : decode cX11_opened 23 = .ok (.aload_n 0, 1) := by decide +kernel
theorem dX11_opened_24 : decode cX11_opened 24 = .ok (.getfield 93, 3) := by decide +kernel
theorem dX11_opened_27 : decode cX11_opened 27 = .ok (.iload_n 2, 1) := by decide +kernel
theorem dX11_opened_28 : decode cX11_opened 28 = .ok (.iaload, 1) := by decide +kernel
theorem dX11_opened_29 : decode cX11_opened 29 = .ok (.bipush 30, 2) := by decide +kernel
theorem dX11_opened_31 : decode cX11_opened 31 = .ok (.if_icmp .eq 15, 3) := by decide +kernel
theorem dX11_opened_34 : decode cX11_opened 34 = .ok (.aload_n 0, 1) := by decide +kernel
theorem dX11_opened_35 : decode cX11_opened 35 = .ok (.getfield 93, 3) := by decide +kernel
theorem dX11_opened_38 : decode cX11_opened 38 = .ok (.iload_n 2, 1) := by decide +kernel
theorem dX11_opened_39 : decode cX11_opened 39 = .ok (.iaload, 1) := by decide +kernel
theorem dX11_opened_40 : decode cX11_opened 40 = .ok (.sipush 1000, 3) := by decide +kernel
theorem dX11_opened_43 : decode cX11_opened 43 = .ok (.if_icmp .lt 7, 3) := by decide +kernel
theorem dX11_opened_46 : decode cX11_opened 46 = .ok (.iconst 1, 1) := by decide +kernel
theorem dX11_opened_47 : decode cX11_opened 47 = .ok (.goto 4, 3) := by decide +kernel
theorem dX11_opened_50 : decode cX11_opened 50 = .ok (.iconst 0, 1) := by decide +kernel
theorem dX11_opened_51 : decode cX11_opened 51 = .ok (.iadd, 1) := by decide +kernel
theorem dX11_opened_52 : decode cX11_opened 52 = .ok (.istore_n 1, 1) := by decide +kernel
theorem dX11_opened_53 : decode cX11_opened 53 = .ok (.iinc 2 1, 3) := by decide +kernel
theorem dX11_opened_56 : decode cX11_opened 56 = .ok (.goto (-52), 3) := by decide +kernel
theorem dX11_opened_59 : decode cX11_opened 59 = .ok (.iload_n 1, 1) := by decide +kernel
theorem dX11_opened_60 : decode cX11_opened 60 = .ok (.ireturn, 1) := by decide +kernel
theorem dX11_mayLogic_0 : decode cX11_mayLogic 0 = .ok (.aload_n 0, 1) := by decide +kernel
theorem dX11_mayLogic_1 : decode cX11_mayLogic 1 = .ok (.getfield 306, 3) := by decide +kernel
theorem dX11_mayLogic_4 : decode cX11_mayLogic 4 = .ok (.iconst 1, 1) := by decide +kernel
theorem dX11_mayLogic_5 : decode cX11_mayLogic 5 = .ok (.isub, 1) := by decide +kernel
theorem dX11_mayLogic_6 : decode cX11_mayLogic 6 = .ok (.istore_n 2, 1) := by decide +kernel
theorem dX11_mayLogic_7 : decode cX11_mayLogic 7 = .ok (.iload_n 2, 1) := by decide +kernel
theorem dX11_mayLogic_8 : decode cX11_mayLogic 8 = .ok (.ifCond .lt 35, 3) := by decide +kernel
theorem dX11_mayLogic_11 : decode cX11_mayLogic 11 = .ok (.aload_n 0, 1) := by decide +kernel
theorem dX11_mayLogic_12 : decode cX11_mayLogic 12 = .ok (.getfield 93, 3) := by decide +kernel
theorem dX11_mayLogic_15 : decode cX11_mayLogic 15 = .ok (.iload_n 2, 1) := by decide +kernel
theorem dX11_mayLogic_16 : decode cX11_mayLogic 16 = .ok (.iaload, 1) := by decide +kernel
theorem dX11_mayLogic_17 : decode cX11_mayLogic 17 = .ok (.iconst 5, 1) := by decide +kernel
theorem dX11_mayLogic_18 : decode cX11_mayLogic 18 = .ok (.if_icmp .ne 5, 3) := by decide +kernel
theorem dX11_mayLogic_21 : decode cX11_mayLogic 21 = .ok (.iconst 1, 1) := by decide +kernel
theorem dX11_mayLogic_22 : decode cX11_mayLogic 22 = .ok (.ireturn, 1) := by decide +kernel
theorem dX11_mayLogic_23 : decode cX11_mayLogic 23 = .ok (.aload_n 0, 1) := by decide +kernel
theorem dX11_mayLogic_24 : decode cX11_mayLogic 24 = .ok (.getfield 93, 3) := by decide +kernel
theorem dX11_mayLogic_27 : decode cX11_mayLogic 27 = .ok (.iload_n 2, 1) := by decide +kernel
theorem dX11_mayLogic_28 : decode cX11_mayLogic 28 = .ok (.iaload, 1) := by decide +kernel
theorem dX11_mayLogic_29 : decode cX11_mayLogic 29 = .ok (.sipush 1000, 3) := by decide +kernel
theorem dX11_mayLogic_32 : decode cX11_mayLogic 32 = .ok (.if_icmp .lt 5, 3) := by decide +kernel
theorem dX11_mayLogic_35 : decode cX11_mayLogic 35 = .ok (.iconst 0, 1) := by decide +kernel
theorem dX11_mayLogic_36 : decode cX11_mayLogic 36 = .ok (.ireturn, 1) := by decide +kernel
theorem dX11_mayLogic_37 : decode cX11_mayLogic 37 = .ok (.iinc 2 (-1), 3) := by decide +kernel
theorem dX11_mayLogic_40 : decode cX11_mayLogic 40 = .ok (.goto (-33), 3) := by decide +kernel
theorem dX11_mayLogic_43 : decode cX11_mayLogic 43 = .ok (.iload_n 1, 1) := by decide +kernel
theorem dX11_mayLogic_44 : decode cX11_mayLogic 44 = .ok (.ireturn, 1) := by decide +kernel
theorem dX11_parse_0 : decode cX11_parse 0 = .ok (.aload_n 0, 1) := by decide +kernel
theorem dX11_parse_1 : decode cX11_parse 1 = .ok (.iconst 0, 1) := by decide +kernel
theorem dX11_parse_2 : decode cX11_parse 2 = .ok (.putfield 236, 3) := by decide +kernel
theorem dX11_parse_5 : decode cX11_parse 5 = .ok (.aload_n 0, 1) := by decide +kernel
theorem dX11_parse_6 : decode cX11_parse 6 = .ok (.iconst 0, 1) := by decide +kernel
theorem dX11_parse_7 : decode cX11_parse 7 = .ok (.putfield 306, 3) := by decide +kernel
theorem dX11_parse_10 : decode cX11_parse 10 = .ok (.aload_n 0, 1) := by decide +kernel
theorem dX11_parse_11 : decode cX11_parse 11 = .ok (.iconst 0, 1) := by decide +kernel
theorem dX11_parse_12 : decode cX11_parse 12 = .ok (.putfield 303, 3) := by decide +kernel
theorem dX11_parse_15 : decode cX11_parse 15 = .ok (.iconst 1, 1) := by decide +kernel
theorem dX11_parse_16 : decode cX11_parse 16 = .ok (.istore_n 2, 1) := by decide +kernel
theorem dX11_parse_17 : decode cX11_parse 17 = .ok (.iconst 0, 1) := by decide +kernel
theorem dX11_parse_18 : decode cX11_parse 18 = .ok (.istore_n 3, 1) := by decide +kernel
theorem dX11_parse_19 : decode cX11_parse 19 = .ok (.iconst 0, 1) := by decide +kernel
theorem dX11_parse_20 : decode cX11_parse 20 = .ok (.istore 4, 2) := by decide +kernel
theorem dX11_parse_22 : decode cX11_parse 22 = .ok (.aload_n 0, 1) := by decide +kernel
theorem dX11_parse_23 : decode cX11_parse 23 = .ok (.invokevirtual 316, 3) := by decide +kernel
theorem dX11_parse_26 : decode cX11_parse 26 = .ok (.iload_n 2, 1) := by decide +kernel
theorem dX11_parse_27 : decode cX11_parse 27 = .ok (.ifCond .eq 186, 3) := by decide +kernel
theorem dX11_parse_30 : decode cX11_parse 30 = .ok (.aload_n 0, 1) := by decide +kernel
theorem dX11_parse_31 : decode cX11_parse 31 = .ok (.getfield 242, 3) := by decide +kernel
theorem dX11_parse_34 : decode cX11_parse 34 = .ok (.bipush 30, 2) := by decide +kernel
theorem dX11_parse_36 : decode cX11_parse 36 = .ok (.if_icmp .ne 7, 3) := by decide +kernel
theorem dX11_parse_39 : decode cX11_parse 39 = .ok (.iload_n 3, 1) := by decide +kernel
theorem dX11_parse_40 : decode cX11_parse 40 = .ok (.ifCond .ne 11, 3) := by decide +kernel
theorem dX11_parse_43 : decode cX11_parse 43 = .ok (.aload_n 0, 1) := by decide +kernel
theorem dX11_parse_44 : decode cX11_parse 44 = .ok (.getfield 242, 3) := by decide +kernel
theorem dX11_parse_47 : decode cX11_parse 47 = .ok (.iconst 5, 1) := by decide +kernel
theorem dX11_parse_48 : decode cX11_parse 48 = .ok (.if_icmp .ne 45, 3) := by decide +kernel
theorem dX11_parse_51 : decode cX11_parse 51 = .ok (.aload_n 0, 1) := by decide +kernel
theorem dX11_parse_52 : decode cX11_parse 52 = .ok (.invokevirtual 319, 3) := by decide +kernel
theorem dX11_parse_55 : decode cX11_parse 55 = .ok (.bipush 12, 2) := by decide +kernel
theorem dX11_parse_57 : decode cX11_parse 57 = .ok (.if_icmp .ne 8, 3) := by decide +kernel
theorem dX11_parse_60 : decode cX11_parse 60 = .ok (.aload_n 0, 1) := by decide +kernel
theorem dX11_parse_61 : decode cX11_parse 61 = .ok (.getfield 239, 3) := by decide +kernel
theorem dX11_parse_64 : decode cX11_parse 64 = .ok (.ireturn, 1) := by decide +kernel
theorem dX11_parse_65 : decode cX11_parse 65 = .ok (.aload_n 0, 1) := by decide +kernel
theorem dX11_parse_66 : decode cX11_parse 66 = .ok (.getfield 93, 3) := by decide +kernel
theorem dX11_parse_69 : decode cX11_parse 69 = .ok (.aload_n 0, 1) := by decide +kernel
theorem dX11_parse_70 : decode cX11_parse 70 = .ok (.getfield 306, 3) := by decide +kernel
theorem dX11_parse_73 : decode cX11_parse 73 = .ok (.aload_n 0, 1) := by decide +kernel
theorem dX11_parse_74 : decode cX11_parse 74 = .ok (.getfield 242, 3) := by decide +kernel
theorem dX11_parse_77 : decode cX11_parse 77 = .ok (.iastore, 1) := by decide +kernel
theorem dX11_parse_78 : decode cX11_parse 78 = .ok (.aload_n 0, 1) := by decide +kernel
theorem dX11_parse_79 : decode cX11_parse 79 = .ok (.dup, 1) := by decide +kernel
theorem dX11_parse_80 : decode cX11_parse 80 = .ok (.getfield 306, 3) := by decide +kernel
theorem dX11_parse_83 : decode cX11_parse 83 = .ok (.iconst 1, 1) := by decide +kernel
theorem dX11_parse_84 : decode cX11_parse 84 = .ok (.iadd, 1) := by decide +kernel
theorem dX11_parse_85 : decode cX11_parse 85 = .ok (.putfield 306, 3) := by decide +kernel
theorem dX11_parse_88 : decode cX11_parse 88 = .ok (.iconst 1, 1) := by decide +kernel
theorem dX11_parse_89 : decode cX11_parse 89 = .ok (.istore_n 3, 1) := by decide +kernel
theorem dX11_parse_90 : decode cX11_parse 90 = .ok (.goto 591, 3) := by decide +kernel
theorem dX11_parse_93 : decode cX11_parse 93 = .ok (.aload_n 0, 1) := by decide +kernel
theorem dX11_parse_94 : decode cX11_parse 94 = .ok (.getfield 242, 3) := by decide +kernel
theorem dX11_parse_97 : decode cX11_parse 97 = .ok (.bipush 70, 2) := by decide +kernel
theorem dX11_parse_99 : decode cX11_parse 99 = .ok (.if_icmp .eq 12, 3) := by decide +kernel
theorem dX11_parse_102 : decode cX11_parse 102 = .ok (.aload_n 0, 1) := by decide +kernel
theorem dX11_parse_103 : decode cX11_parse 103 = .ok (.getfield 242, 3) := by decide +kernel
theorem dX11_parse_106 : decode cX11_parse 106 = .ok (.bipush 71, 2) := by decide +kernel
theorem dX11_parse_108 : decode cX11_parse 108 = .ok (.if_icmp .ne 65, 3) := by decide +kernel
theorem dX11_parse_111 : decode cX11_parse 111 = .ok (.aload_n 0, 1) := by decide +kernel
theorem dX11_parse_112 : decode cX11_parse 112 = .ok (.getfield 242, 3) := by decide +kernel
theorem dX11_parse_115 : decode cX11_parse 115 = .ok (.istore 5, 2) := by decide +kernel
theorem dX11_parse_117 : decode cX11_parse 117 = .ok (.aload_n 0, 1) := by decide +kernel
theorem dX11_parse_118 : decode cX11_parse 118 = .ok (.invokevirtual 316, 3) := by decide +kernel
theorem dX11_parse_121 : decode cX11_parse 121 = .ok (.aload_n 0, 1) := by decide +kernel
theorem dX11_parse_122 : decode cX11_parse 122 = .ok (.getfield 242, 3) := by decide +kernel
theorem dX11_parse_125 : decode cX11_parse 125 = .ok (.iconst 5, 1) := by decide +kernel
theorem dX11_parse_126 : decode cX11_parse 126 = .ok (.if_icmp .ne 12, 3) := by decide +kernel
theorem dX11_parse_129 : decode cX11_parse 129 = .ok (.aload_n 0, 1) := by decide +kernel
theorem dX11_parse_130 : decode cX11_parse 130 = .ok (.invokevirtual 319, 3) := by decide +kernel
theorem dX11_parse_133 : decode cX11_parse 133 = .ok (.bipush 12, 2) := by decide +kernel
theorem dX11_parse_135 : decode cX11_parse 135 = .ok (.if_icmp .ne 8, 3) := by decide +kernel
theorem dX11_parse_138 : decode cX11_parse 138 = .ok (.aload_n 0, 1) := by decide +kernel
theorem dX11_parse_139 : decode cX11_parse 139 = .ok (.getfield 239, 3) := by decide +kernel
theorem dX11_parse_142 : decode cX11_parse 142 = .ok (.ireturn, 1) := by decide +kernel
theorem dX11_parse_143 : decode cX11_parse 143 = .ok (.aload_n 0, 1) := by decide +kernel
theorem dX11_parse_144 : decode cX11_parse 144 = .ok (.getfield 93, 3) := by decide +kernel
theorem dX11_parse_147 : decode cX11_parse 147 = .ok (.aload_n 0, 1) := by decide +kernel
theorem dX11_parse_148 : decode cX11_parse 148 = .ok (.getfield 306, 3) := by decide +kernel
theorem dX11_parse_151 : decode cX11_parse 151 = .ok (.sipush 1000, 3) := by decide +kernel
theorem dX11_parse_154 : decode cX11_parse 154 = .ok (.iload 5, 2) := by decide +kernel
theorem dX11_parse_156 : decode cX11_parse 156 = .ok (.iadd, 1) := by decide +kernel
theorem dX11_parse_157 : decode cX11_parse 157 = .ok (.iastore, 1) := by decide +kernel
theorem dX11_parse_158 : decode cX11_parse 158 = .ok (.aload_n 0, 1) := by decide +kernel
theorem dX11_parse_159 : decode cX11_parse 159 = .ok (.dup, 1) := by decide +kernel
theorem dX11_parse_160 : decode cX11_parse 160 = .ok (.getfield 306, 3) := by decide +kernel
theorem dX11_parse_163 : decode cX11_parse 163 = .ok (.iconst 1, 1) := by decide +kernel
theorem dX11_parse_164 : decode cX11_parse 164 = .ok (.iadd, 1) := by decide +kernel
theorem dX11_parse_165 : decode cX11_parse 165 = .ok (.putfield 306, 3) := by decide +kernel
theorem dX11_parse_168 : decode cX11_parse 168 = .ok (.iconst 0, 1) := by decide +kernel
theorem dX11_parse_169 : decode cX11_parse 169 = .ok (.istore_n 3, 1) := by decide +kernel
theorem dX11_parse_170 : decode cX11_parse 170 = .ok (.goto 511, 3) := by decide +kernel
theorem dX11_parse_173 : decode cX11_parse 173 = .ok (.aload_n 0, 1) := by decide +kernel
theorem dX11_parse_174 : decode cX11_parse 174 = .ok (.getfield 242, 3) := by decide +kernel
theorem dX11_parse_177 : decode cX11_parse 177 = .ok (.iconst 1, 1) := by decide +kernel
theorem dX11_parse_178 : decode cX11_parse 178 = .ok (.if_icmp .eq 12, 3) := by decide +kernel
theorem dX11_parse_181 : decode cX11_parse 181 = .ok (.aload_n 0, 1) := by decide +kernel
theorem dX11_parse_182 : decode cX11_parse 182 = .ok (.getfield 242, 3) := by decide +kernel
theorem dX11_parse_185 : decode cX11_parse 185 = .ok (.bipush 100, 2) := by decide +kernel
theorem dX11_parse_187 : decode cX11_parse 187 = .ok (.if_icmp .lt 21, 3) := by decide +kernel
theorem dX11_parse_190 : decode cX11_parse 190 = .ok (.aload_n 0, 1) := by decide +kernel
theorem dX11_parse_191 : decode cX11_parse 191 = .ok (.iload_n 1, 1) := by decide +kernel
theorem dX11_parse_192 : decode cX11_parse 192 = .ok (.aload_n 0, 1) := by decide +kernel
theorem dX11_parse_193 : decode cX11_parse 193 = .ok (.getfield 242, 3) := by decide +kernel
theorem dX11_parse_196 : decode cX11_parse 196 = .ok (.aload_n 0, 1) := by decide +kernel
theorem dX11_parse_197 : decode cX11_parse 197 = .ok (.getfield 259, 3) := by decide +kernel
theorem dX11_parse_200 : decode cX11_parse 200 = .ok (.invokevirtual 312, 3) := by decide +kernel
theorem dX11_parse_203 : decode cX11_parse 203 = .ok (.iconst 0, 1) := by decide +kernel
theorem dX11_parse_204 : decode cX11_parse 204 = .ok (.istore_n 2, 1) := by decide +kernel
theorem dX11_parse_205 : decode cX11_parse 205 = .ok (.goto 476, 3) := by decide +kernel
theorem dX11_parse_208 : decode cX11_parse 208 = .ok (.aload_n 0, 1) := by decide +kernel
theorem dX11_parse_209 : decode cX11_parse 209 = .ok (.getfield 239, 3) := by decide +kernel
theorem dX11_parse_212 : decode cX11_parse 212 = .ok (.ireturn, 1) := by decide +kernel
theorem dX11_parse_213 : decode cX11_parse 213 = .ok (.aload_n 0, 1) := by decide +kernel
theorem dX11_parse_214 : decode cX11_parse 214 = .ok (.getfield 242, 3) := by decide +kernel
theorem dX11_parse_217 : decode cX11_parse 217 = .ok (.bipush 6, 2) := by decide +kernel
theorem dX11_parse_219 : decode cX11_parse 219 = .ok (.if_icmp .ne 102, 3) := by decide +kernel
theorem dX11_parse_222 : decode cX11_parse 222 = .ok (.aload_n 0, 1) := by decide +kernel
theorem dX11_parse_223 : decode cX11_parse 223 = .ok (.iload_n 1, 1) := by decide +kernel
theorem dX11_parse_224 : decode cX11_parse 224 = .ok (.iconst 1, 1) := by decide +kernel
theorem dX11_parse_225 : decode cX11_parse 225 = .ok (.invokevirtual 323, 3) := by decide +kernel
theorem dX11_parse_228 : decode cX11_parse 228 = .ok (.aload_n 0, 1) := by decide +kernel
theorem dX11_parse_229 : decode cX11_parse 229 = .ok (.getfield 306, 3) := by decide +kernel
theorem dX11_parse_232 : decode cX11_parse 232 = .ok (.ifCond .eq 37, 3) := by decide +kernel
theorem dX11_parse_235 : decode cX11_parse 235 = .ok (.aload_n 0, 1) := by decide +kernel
theorem dX11_parse_236 : decode cX11_parse 236 = .ok (.getfield 93, 3) := by decide +kernel
theorem dX11_parse_239 : decode cX11_parse 239 = .ok (.aload_n 0, 1) := by decide +kernel
theorem dX11_parse_240 : decode cX11_parse 240 = .ok (.getfield 306, 3) := by decide +kernel
theorem dX11_parse_243 : decode cX11_parse 243 = .ok (.iconst 1, 1) := by decide +kernel
theorem dX11_parse_244 : decode cX11_parse 244 = .ok (.isub, 1) := by decide +kernel
theorem dX11_parse_245 : decode cX11_parse 245 = .ok (.iaload, 1) := by decide +kernel
theorem dX11_parse_246 : decode cX11_parse 246 = .ok (.sipush 1000, 3) := by decide +kernel
theorem dX11_parse_249 : decode cX11_parse 249 = .ok (.if_icmp .lt 25, 3) := by decide +kernel
theorem dX11_parse_252 : decode cX11_parse 252 = .ok (.aload_n 0, 1) := by decide +kernel
theorem dX11_parse_253 : decode cX11_parse 253 = .ok (.getfield 93, 3) := by decide +kernel
theorem dX11_parse_256 : decode cX11_parse 256 = .ok (.aload_n 0, 1) := by decide +kernel
theorem dX11_parse_257 : decode cX11_parse 257 = .ok (.getfield 306, 3) := by decide +kernel
theorem dX11_parse_260 : decode cX11_parse 260 = .ok (.iconst 1, 1) := by decide +kernel
theorem dX11_parse_261 : decode cX11_parse 261 = .ok (.isub, 1) := by decide +kernel
theorem dX11_parse_262 : decode cX11_parse 262 = .ok (.iaload, 1) := by decide +kernel
theorem dX11_parse_263 : decode cX11_parse 263 = .ok (.sipush 2000, 3) := by decide +kernel
theorem dX11_parse_266 : decode cX11_parse 266 = .ok (.if_icmp .ge 8, 3) := by decide +kernel
theorem dX11_parse_269 : decode cX11_parse 269 = .ok (.aload_n 0, 1) := by decide +kernel
theorem dX11_parse_270 : decode cX11_parse 270 = .ok (.getfield 239, 3) := by decide +kernel
theorem dX11_parse_273 : decode cX11_parse 273 = .ok (.ireturn, 1) := by decide +kernel
theorem dX11_parse_274 : decode cX11_parse 274 = .ok (.aload_n 0, 1) := by decide +kernel
theorem dX11_parse_275 : decode cX11_parse 275 = .ok (.dup, 1) := by decide +kernel
theorem dX11_parse_276 : decode cX11_parse 276 = .ok (.getfield 306, 3) := by decide +kernel
theorem dX11_parse_279 : decode cX11_parse 279 = .ok (.iconst 1, 1) := by decide +kernel
theorem dX11_parse_280 : decode cX11_parse 280 = .ok (.isub, 1) := by decide +kernel
theorem dX11_parse_281 : decode cX11_parse 281 = .ok (.putfield 306, 3) := by decide +kernel
theorem dX11_parse_284 : decode cX11_parse 284 = .ok (.aload_n 0, 1) := by decide +kernel
theorem dX11_parse_285 : decode cX11_parse 285 = .ok (.getfield 93, 3) := by decide +kernel
theorem dX11_parse_288 : decode cX11_parse 288 = .ok (.aload_n 0, 1) := by decide +kernel
theorem dX11_parse_289 : decode cX11_parse 289 = .ok (.getfield 306, 3) := by decide +kernel
theorem dX11_parse_292 : decode cX11_parse 292 = .ok (.iaload, 1) := by decide +kernel
theorem dX11_parse_293 : decode cX11_parse 293 = .ok (.sipush 2000, 3) := by decide +kernel
theorem dX11_parse_296 : decode cX11_parse 296 = .ok (.if_icmp .lt 385, 3) := by decide +kernel
theorem dX11_parse_299 : decode cX11_parse 299 = .ok (.aload_n 0, 1) := by decide +kernel
theorem dX11_parse_300 : decode cX11_parse 300 = .ok (.iload_n 1, 1) := by decide +kernel
theorem dX11_parse_301 : decode cX11_parse 301 = .ok (.aload_n 0, 1) := by decide +kernel
theorem dX11_parse_302 : decode cX11_parse 302 = .ok (.getfield 93, 3) := by decide +kernel
theorem dX11_parse_305 : decode cX11_parse 305 = .ok (.aload_n 0, 1) := by decide +kernel
theorem dX11_parse_306 : decode cX11_parse 306 = .ok (.getfield 306, 3) := by decide +kernel
theorem dX11_parse_309 : decode cX11_parse 309 = .ok (.iaload, 1) := by decide +kernel
theorem dX11_parse_310 : decode cX11_parse 310 = .ok (.sipush 2000, 3) := by decide +kernel
theorem dX11_parse_313 : decode cX11_parse 313 = .ok (.isub, 1) := by decide +kernel
theorem dX11_parse_314 : decode cX11_parse 314 = .ok (.iconst 0, 1) := by decide +kernel
theorem dX11_parse_315 : decode cX11_parse 315 = .ok (.invokevirtual 312, 3) := by decide +kernel
theorem dX11_parse_318 : decode cX11_parse 318 = .ok (.goto 363, 3) := by decide +kernel
theorem dX11_parse_321 : decode cX11_parse 321 = .ok (.aload_n 0, 1) := by decide +kernel
theorem dX11_parse_322 : decode cX11_parse 322 = .ok (.getfield 242, 3) := by decide +kernel
theorem dX11_parse_325 : decode cX11_parse 325 = .ok (.iconst 4, 1) := by decide +kernel
theorem dX11_parse_326 : decode cX11_parse 326 = .ok (.if_icmp .ne 79, 3) := by decide +kernel
theorem dX11_parse_329 : decode cX11_parse 329 = .ok (.aload_n 0, 1) := by decide +kernel
theorem dX11_parse_330 : decode cX11_parse 330 = .ok (.iload_n 1, 1) := by decide +kernel
theorem dX11_parse_331 : decode cX11_parse 331 = .ok (.iconst 1, 1) := by decide +kernel
theorem dX11_parse_332 : decode cX11_parse 332 = .ok (.invokevirtual 323, 3) := by decide +kernel
theorem dX11_parse_335 : decode cX11_parse 335 = .ok (.aload_n 0, 1) := by decide +kernel
theorem dX11_parse_336 : decode cX11_parse 336 = .ok (.getfield 306, 3) := by decide +kernel
theorem dX11_parse_339 : decode cX11_parse 339 = .ok (.ifCond .eq 37, 3) := by decide +kernel
theorem dX11_parse_342 : decode cX11_parse 342 = .ok (.aload_n 0, 1) := by decide +kernel
theorem dX11_parse_343 : decode cX11_parse 343 = .ok (.getfield 93, 3) := by decide +kernel
theorem dX11_parse_346 : decode cX11_parse 346 = .ok (.aload_n 0, 1) := by decide +kernel
theorem dX11_parse_347 : decode cX11_parse 347 = .ok (.getfield 306, 3) := by decide +kernel
theorem dX11_parse_350 : decode cX11_parse 350 = .ok (.iconst 1, 1) := by decide +kernel
theorem dX11_parse_351 : decode cX11_parse 351 = .ok (.isub, 1) := by decide +kernel
theorem dX11_parse_352 : decode cX11_parse 352 = .ok (.iaload, 1) := by decide +kernel
theorem dX11_parse_353 : decode cX11_parse 353 = .ok (.sipush 1000, 3) := by decide +kernel
theorem dX11_parse_356 : decode cX11_parse 356 = .ok (.if_icmp .lt 20, 3) := by decide +kernel
theorem dX11_parse_359 : decode cX11_parse 359 = .ok (.aload_n 0, 1) := by decide +kernel
theorem dX11_parse_360 : decode cX11_parse 360 = .ok (.getfield 93, 3) := by decide +kernel
theorem dX11_parse_363 : decode cX11_parse 363 = .ok (.aload_n 0, 1) := by decide +kernel
theorem dX11_parse_364 : decode cX11_parse 364 = .ok (.getfield 306, 3) := by decide +kernel
theorem dX11_parse_367 : decode cX11_parse 367 = .ok (.iconst 1, 1) := by decide +kernel
theorem dX11_parse_368 : decode cX11_parse 368 = .ok (.isub, 1) := by decide +kernel
theorem dX11_parse_369 : decode cX11_parse 369 = .ok (.iaload, 1) := by decide +kernel
theorem dX11_parse_370 : decode cX11_parse 370 = .ok (.sipush 2000, 3) := by decide +kernel
theorem dX11_parse_373 : decode cX11_parse 373 = .ok (.if_icmp .lt 8, 3) := by decide +kernel
theorem dX11_parse_376 : decode cX11_parse 376 = .ok (.aload_n 0, 1) := by decide +kernel
theorem dX11_parse_377 : decode cX11_parse 377 = .ok (.getfield 239, 3) := by decide +kernel
theorem dX11_parse_380 : decode cX11_parse 380 = .ok (.ireturn, 1) := by decide +kernel
theorem dX11_parse_381 : decode cX11_parse 381 = .ok (.aload_n 0, 1) := by decide +kernel
theorem dX11_parse_382 : decode cX11_parse 382 = .ok (.getfield 93, 3) := by decide +kernel
theorem dX11_parse_385 : decode cX11_parse 385 = .ok (.aload_n 0, 1) := by decide +kernel
theorem dX11_parse_386 : decode cX11_parse 386 = .ok (.getfield 306, 3) := by decide +kernel
theorem dX11_parse_389 : decode cX11_parse 389 = .ok (.iconst 1, 1) := by decide +kernel
theorem dX11_parse_390 : decode cX11_parse 390 = .ok (.isub, 1) := by decide +kernel
theorem dX11_parse_391 : decode cX11_parse 391 = .ok (.dup2, 1) := by decide +kernel
theorem dX11_parse_392 : decode cX11_parse 392 = .ok (.iaload, 1) := by decide +kernel
theorem dX11_parse_393 : decode cX11_parse 393 = .ok (.sipush 1000, 3) := by decide +kernel
theorem dX11_parse_396 : decode cX11_parse 396 = .ok (.iadd, 1) := by decide +kernel
theorem dX11_parse_397 : decode cX11_parse 397 = .ok (.iastore, 1) := by decide +kernel
theorem dX11_parse_398 : decode cX11_parse 398 = .ok (.iconst 1, 1) := by decide +kernel
theorem dX11_parse_399 : decode cX11_parse 399 = .ok (.istore_n 2, 1) := by decide +kernel
theorem dX11_parse_400 : decode cX11_parse 400 = .ok (.iconst 0, 1) := by decide +kernel
theorem dX11_parse_401 : decode cX11_parse 401 = .ok (.istore_n 3, 1) := by decide +kernel
theorem dX11_parse_402 : decode cX11_parse 402 = .ok (.goto 279, 3) := by decide +kernel
theorem dX11_parse_405 : decode cX11_parse 405 = .ok (.aload_n 0, 1) := by decide +kernel
theorem dX11_parse_406 : decode cX11_parse 406 = .ok (.getfield 242, 3) := by decide +kernel
theorem dX11_parse_409 : decode cX11_parse 409 = .ok (.ifCond .eq 11, 3) := by decide +kernel
theorem dX11_parse_412 : decode cX11_parse 412 = .ok (.aload_n 0, 1) := by decide +kernel
theorem dX11_parse_413 : decode cX11_parse 413 = .ok (.getfield 242, 3) := by decide +kernel
theorem dX11_parse_416 : decode cX11_parse 416 = .ok (.iconst 3, 1) := by decide +kernel
theorem dX11_parse_417 : decode cX11_parse 417 = .ok (.if_icmp .ne 58, 3) := by decide +kernel
theorem dX11_parse_420 : decode cX11_parse 420 = .ok (.aload_n 0, 1) := by decide +kernel
theorem dX11_parse_421 : decode cX11_parse 421 = .ok (.iload_n 1, 1) := by decide +kernel
theorem dX11_parse_422 : decode cX11_parse 422 = .ok (.iconst 1, 1) := by decide +kernel
theorem dX11_parse_423 : decode cX11_parse 423 = .ok (.invokevirtual 323, 3) := by decide +kernel
theorem dX11_parse_426 : decode cX11_parse 426 = .ok (.aload_n 0, 1) := by decide +kernel
theorem dX11_parse_427 : decode cX11_parse 427 = .ok (.getfield 306, 3) := by decide +kernel
theorem dX11_parse_430 : decode cX11_parse 430 = .ok (.ifCond .le 8, 3) := by decide +kernel
theorem dX11_parse_433 : decode cX11_parse 433 = .ok (.aload_n 0, 1) := by decide +kernel
theorem dX11_parse_434 : decode cX11_parse 434 = .ok (.getfield 239, 3) := by decide +kernel
theorem dX11_parse_437 : decode cX11_parse 437 = .ok (.ireturn, 1) := by decide +kernel
theorem dX11_parse_438 : decode cX11_parse 438 = .ok (.aload_n 0, 1) := by decide +kernel
theorem dX11_parse_439 : decode cX11_parse 439 = .ok (.iload_n 1, 1) := by decide +kernel
theorem dX11_parse_440 : decode cX11_parse 440 = .ok (.iload 4, 2) := by decide +kernel
theorem dX11_parse_442 : decode cX11_parse 442 = .ok (.ifCond .eq 8, 3) := by decide +kernel
theorem dX11_parse_445 : decode cX11_parse 445 = .ok (.bipush 8, 2) := by decide +kernel
theorem dX11_parse_447 : decode cX11_parse 447 = .ok (.goto 5, 3) := by decide +kernel
theorem dX11_parse_450 : decode cX11_parse 450 = .ok (.bipush 9, 2) := by decide +kernel
theorem dX11_parse_452 : decode cX11_parse 452 = .ok (.iconst 0, 1) := by decide +kernel
theorem dX11_parse_453 : decode cX11_parse 453 = .ok (.invokevirtual 312, 3) := by decide +kernel
theorem dX11_parse_456 : decode cX11_parse 456 = .ok (.aload_n 0, 1) := by decide +kernel
theorem dX11_parse_457 : decode cX11_parse 457 = .ok (.getfield 242, 3) := by decide +kernel
theorem dX11_parse_460 : decode cX11_parse 460 = .ok (.ifCond .ne 5, 3) := by decide +kernel
theorem dX11_parse_463 : decode cX11_parse 463 = .ok (.iconst (-1), 1) := by decide +kernel
theorem dX11_parse_464 : decode cX11_parse 464 = .ok (.ireturn, 1) := by decide +kernel
theorem dX11_parse_465 : decode cX11_parse 465 = .ok (.iconst 0, 1) := by decide +kernel
theorem dX11_parse_466 : decode cX11_parse 466 = .ok (.istore 4, 2) := by decide +kernel
theorem dX11_parse_468 : decode cX11_parse 468 = .ok (.iconst 1, 1) := by decide +kernel
theorem dX11_parse_469 : decode cX11_parse 469 = .ok (.istore_n 2, 1) := by decide +kernel
theorem dX11_parse_470 : decode cX11_parse 470 = .ok (.iconst 0, 1) := by decide +kernel
theorem dX11_parse_471 : decode cX11_parse 471 = .ok (.istore_n 3, 1) := by decide +kernel
theorem dX11_parse_472 : decode cX11_parse 472 = .ok (.goto 209, 3) := by decide +kernel
theorem dX11_parse_475 : decode cX11_parse 475 = .ok (.aload_n 0, 1) := by decide +kernel
theorem dX11_parse_476 : decode cX11_parse 476 = .ok (.getfield 242, 3) := by decide +kernel
theorem dX11_parse_479 : decode cX11_parse 479 = .ok (.bipush 7, 2) := by decide +kernel
theorem dX11_parse_481 : decode cX11_parse 481 = .ok (.if_icmp .ne 36, 3) := by decide +kernel
theorem dX11_parse_484 : decode cX11_parse 484 = .ok (.aload_n 0, 1) := by decide +kernel
theorem dX11_parse_485 : decode cX11_parse 485 = .ok (.iload_n 1, 1) := by decide +kernel
theorem dX11_parse_486 : decode cX11_parse 486 = .ok (.iconst 1, 1) := by decide +kernel
theorem dX11_parse_487 : decode cX11_parse 487 = .ok (.invokevirtual 323, 3) := by decide +kernel
theorem dX11_parse_490 : decode cX11_parse 490 = .ok (.aload_n 0, 1) := by decide +kernel
theorem dX11_parse_491 : decode cX11_parse 491 = .ok (.getfield 306, 3) := by decide +kernel
theorem dX11_parse_494 : decode cX11_parse 494 = .ok (.ifCond .gt 8, 3) := by decide +kernel
theorem dX11_parse_497 : decode cX11_parse 497 = .ok (.iload 4, 2) := by decide +kernel
theorem dX11_parse_499 : decode cX11_parse 499 = .ok (.ifCond .eq 8, 3) := by decide +kernel
theorem dX11_parse_502 : decode cX11_parse 502 = .ok (.aload_n 0, 1) := by decide +kernel
theorem dX11_parse_503 : decode cX11_parse 503 = .ok (.getfield 239, 3) := by decide +kernel
theorem dX11_parse_506 : decode cX11_parse 506 = .ok (.ireturn, 1) := by decide +kernel
theorem dX11_parse_507 : decode cX11_parse 507 = .ok (.iconst 1, 1) := by decide +kernel
theorem dX11_parse_508 : decode cX11_parse 508 = .ok (.istore 4, 2) := by decide +kernel
theorem dX11_parse_510 : decode cX11_parse 510 = .ok (.iconst 1, 1) := by decide +kernel
theorem dX11_parse_511 : decode cX11_parse 511 = .ok (.istore_n 2, 1) := by decide +kernel
theorem dX11_parse_512 : decode cX11_parse 512 = .ok (.iconst 1, 1) := by decide +kernel
theorem dX11_parse_513 : decode cX11_parse 513 = .ok (.istore_n 3, 1) := by decide +kernel
theorem dX11_parse_514 : decode cX11_parse 514 = .ok (.goto 167, 3) := by decide +kernel
theorem dX11_parse_517 : decode cX11_parse 517 = .ok (.aload_n 0, 1) := by decide +kernel
theorem dX11_parse_518 : decode cX11_parse 518 = .ok (.getfield 242, 3) := by decide +kernel
theorem dX11_parse_521 : decode cX11_parse 521 = .ok (.bipush 10, 2) := by decide +kernel
theorem dX11_parse_523 : decode cX11_parse 523 = .ok (.if_icmp .lt 39, 3) := by decide +kernel
theorem dX11_parse_526 : decode cX11_parse 526 = .ok (.aload_n 0, 1) := by decide +kernel
theorem dX11_parse_527 : decode cX11_parse 527 = .ok (.getfield 242, 3) := by decide +kernel
theorem dX11_parse_530 : decode cX11_parse 530 = .ok (.bipush 70, 2) := by decide +kernel
theorem dX11_parse_532 : decode cX11_parse 532 = .ok (.if_icmp .ge 30, 3) := by decide +kernel
theorem dX11_parse_535 : decode cX11_parse 535 = .ok (.aload_n 0, 1) := by decide +kernel
theorem dX11_parse_536 : decode cX11_parse 536 = .ok (.getfield 242, 3) := by decide +kernel
theorem dX11_parse_539 : decode cX11_parse 539 = .ok (.bipush 30, 2) := by decide +kernel
theorem dX11_parse_541 : decode cX11_parse 541 = .ok (.if_icmp .eq 21, 3) := by decide +kernel
theorem dX11_parse_544 : decode cX11_parse 544 = .ok (.aload_n 0, 1) := by decide +kernel
theorem dX11_parse_545 : decode cX11_parse 545 = .ok (.getfield 242, 3) := by decide +kernel
theorem dX11_parse_548 : decode cX11_parse 548 = .ok (.bipush 40, 2) := by decide +kernel
theorem dX11_parse_550 : decode cX11_parse 550 = .ok (.if_icmp .ge 17, 3) := by decide +kernel
theorem dX11_parse_553 : decode cX11_parse 553 = .ok (.aload_n 0, 1) := by decide +kernel
theorem dX11_parse_554 : decode cX11_parse 554 = .ok (.iload 4, 2) := by decide +kernel
theorem dX11_parse_556 : decode cX11_parse 556 = .ok (.invokevirtual 327, 3) := by decide +kernel
theorem dX11_parse_559 : decode cX11_parse 559 = .ok (.ifCond .ne 8, 3) := by decide +kernel
theorem dX11_parse_562 : decode cX11_parse 562 = .ok (.aload_n 0, 1) := by decide +kernel
theorem dX11_parse_563 : decode cX11_parse 563 = .ok (.getfield 239, 3) := by decide +kernel
theorem dX11_parse_566 : decode cX11_parse 566 = .ok (.ireturn, 1) := by decide +kernel
theorem dX11_parse_567 : decode cX11_parse 567 = .ok (.aload_n 0, 1) := by decide +kernel
theorem dX11_parse_568 : decode cX11_parse 568 = .ok (.getfield 242, 3) := by decide +kernel
theorem dX11_parse_571 : decode cX11_parse 571 = .ok (.invokestatic 309, 3) := by decide +kernel
theorem dX11_parse_574 : decode cX11_parse 574 = .ok (.iconst 4, 1) := by decide +kernel
theorem dX11_parse_575 : decode cX11_parse 575 = .ok (.if_icmp .ne 7, 3) := by decide +kernel
theorem dX11_parse_578 : decode cX11_parse 578 = .ok (.iconst 1, 1) := by decide +kernel
theorem dX11_parse_579 : decode cX11_parse 579 = .ok (.goto 4, 3) := by decide +kernel
theorem dX11_parse_582 : decode cX11_parse 582 = .ok (.iconst 0, 1) := by decide +kernel
theorem dX11_parse_583 : decode cX11_parse 583 = .ok (.istore 5, 2) := by decide +kernel
theorem dX11_parse_585 : decode cX11_parse 585 = .ok (.aload_n 0, 1) := by decide +kernel
theorem dX11_parse_586 : decode cX11_parse 586 = .ok (.iload_n 1, 1) := by decide +kernel
theorem dX11_parse_587 : decode cX11_parse 587 = .ok (.iload 5, 2) := by decide +kernel
theorem dX11_parse_589 : decode cX11_parse 589 = .ok (.ifCond .eq 7, 3) := by decide +kernel
theorem dX11_parse_592 : decode cX11_parse 592 = .ok (.iconst 5, 1) := by decide +kernel
theorem dX11_parse_593 : decode cX11_parse 593 = .ok (.goto 10, 3) := by decide +kernel
theorem dX11_parse_596 : decode cX11_parse 596 = .ok (.aload_n 0, 1) := by decide +kernel
theorem dX11_parse_597 : decode cX11_parse 597 = .ok (.getfield 242, 3) := by decide +kernel
theorem dX11_parse_600 : decode cX11_parse 600 = .ok (.invokestatic 309, 3) := by decide +kernel
theorem dX11_parse_603 : decode cX11_parse 603 = .ok (.invokevirtual 323, 3) := by decide +kernel
theorem dX11_parse_606 : decode cX11_parse 606 = .ok (.iload 5, 2) := by decide +kernel
theorem dX11_parse_608 : decode cX11_parse 608 = .ok (.ifCond .eq 33, 3) := by decide +kernel
theorem dX11_parse_611 : decode cX11_parse 611 = .ok (.aload_n 0, 1) := by decide +kernel
theorem dX11_parse_612 : decode cX11_parse 612 = .ok (.getfield 306, 3) := by decide +kernel
theorem dX11_parse_615 : decode cX11_parse 615 = .ok (.ifCond .le 26, 3) := by decide +kernel
theorem dX11_parse_618 : decode cX11_parse 618 = .ok (.aload_n 0, 1) := by decide +kernel
theorem dX11_parse_619 : decode cX11_parse 619 = .ok (.getfield 93, 3) := by decide +kernel
theorem dX11_parse_622 : decode cX11_parse 622 = .ok (.aload_n 0, 1) := by decide +kernel
theorem dX11_parse_623 : decode cX11_parse 623 = .ok (.getfield 306, 3) := by decide +kernel
theorem dX11_parse_626 : decode cX11_parse 626 = .ok (.iconst 1, 1) := by decide +kernel
theorem dX11_parse_627 : decode cX11_parse 627 = .ok (.isub, 1) := by decide +kernel
theorem dX11_parse_628 : decode cX11_parse 628 = .ok (.iaload, 1) := by decide +kernel
theorem dX11_parse_629 : decode cX11_parse 629 = .ok (.invokestatic 309, 3) := by decide +kernel
theorem dX11_parse_632 : decode cX11_parse 632 = .ok (.iconst 4, 1) := by decide +kernel
theorem dX11_parse_633 : decode cX11_parse 633 = .ok (.if_icmp .ne 8, 3) := by decide +kernel
theorem dX11_parse_636 : decode cX11_parse 636 = .ok (.aload_n 0, 1) := by decide +kernel
theorem dX11_parse_637 : decode cX11_parse 637 = .ok (.getfield 239, 3) := by decide +kernel
theorem dX11_parse_640 : decode cX11_parse 640 = .ok (.ireturn, 1) := by decide +kernel
theorem dX11_parse_641 : decode cX11_parse 641 = .ok (.aload_n 0, 1) := by decide +kernel
theorem dX11_parse_642 : decode cX11_parse 642 = .ok (.getfield 93, 3) := by decide +kernel
theorem dX11_parse_645 : decode cX11_parse 645 = .ok (.aload_n 0, 1) := by decide +kernel
theorem dX11_parse_646 : decode cX11_parse 646 = .ok (.getfield 306, 3) := by decide +kernel
theorem dX11_parse_649 : decode cX11_parse 649 = .ok (.aload_n 0, 1) := by decide +kernel
theorem dX11_parse_650 : decode cX11_parse 650 = .ok (.getfield 242, 3) := by decide +kernel
theorem dX11_parse_653 : decode cX11_parse 653 = .ok (.iastore, 1) := by decide +kernel
theorem dX11_parse_654 : decode cX11_parse 654 = .ok (.aload_n 0, 1) := by decide +kernel
theorem dX11_parse_655 : decode cX11_parse 655 = .ok (.dup, 1) := by decide +kernel
theorem dX11_parse_656 : decode cX11_parse 656 = .ok (.getfield 306, 3) := by decide +kernel
theorem dX11_parse_659 : decode cX11_parse 659 = .ok (.iconst 1, 1) := by decide +kernel
theorem dX11_parse_660 : decode cX11_parse 660 = .ok (.iadd, 1) := by decide +kernel
theorem dX11_parse_661 : decode cX11_parse 661 = .ok (.putfield 306, 3) := by decide +kernel
theorem dX11_parse_664 : decode cX11_parse 664 = .ok (.iconst 1, 1) := by decide +kernel
theorem dX11_parse_665 : decode cX11_parse 665 = .ok (.istore_n 2, 1) := by decide +kernel
theorem dX11_parse_666 : decode cX11_parse 666 = .ok (.aload_n 0, 1) := by decide +kernel
theorem dX11_parse_667 : decode cX11_parse 667 = .ok (.getfield 242, 3) := by decide +kernel
theorem dX11_parse_670 : decode cX11_parse 670 = .ok (.bipush 40, 2) := by decide +kernel
theorem dX11_parse_672 : decode cX11_parse 672 = .ok (.if_icmp .ge 7, 3) := by decide +kernel
theorem dX11_parse_675 : decode cX11_parse 675 = .ok (.iconst 1, 1) := by decide +kernel
theorem dX11_parse_676 : decode cX11_parse 676 = .ok (.goto 4, 3) := by decide +kernel
theorem dX11_parse_679 : decode cX11_parse 679 = .ok (.iconst 0, 1) := by decide +kernel
theorem dX11_parse_680 : decode cX11_parse 680 = .ok (.istore_n 3, 1) := by decide +kernel
theorem dX11_parse_681 : decode cX11_parse 681 = .ok (.aload_n 0, 1) := by decide +kernel
theorem dX11_parse_682 : decode cX11_parse 682 = .ok (.invokevirtual 316, 3) := by decide +kernel
theorem dX11_parse_685 : decode cX11_parse 685 = .ok (.goto (-659), 3) := by decide +kernel
theorem dX11_isDay_0 : decode cX11_isDay 0 = .ok (.iload_n 0, 1) := by decide +kernel
theorem dX11_isDay_1 : decode cX11_isDay 1 = .ok (.iconst 0, 1) := by decide +kernel
theorem dX11_isDay_2 : decode cX11_isDay 2 = .ok (.sipush 166, 3) := by decide +kernel
theorem dX11_isDay_5 : decode cX11_isDay 5 = .ok (.invokestatic 184, 3) := by decide +kernel
theorem dX11_isDay_8 : decode cX11_isDay 8 = .ok (.ireturn, 1) := by decide +kernel
theorem dX11_law_0 : decode cX11_law 0 = .ok (.iload_n 1, 1) := by decide +kernel
theorem dX11_law_1 : decode cX11_law 1 = .ok (.invokestatic 213, 3) := by decide +kernel
theorem dX11_law_4 : decode cX11_law 4 = .ok (.ifCond .eq 19, 3) := by decide +kernel
theorem dX11_law_7 : decode cX11_law 7 = .ok (.iload_n 2, 1) := by decide +kernel
theorem dX11_law_8 : decode cX11_law 8 = .ok (.iconst 0, 1) := by decide +kernel
theorem dX11_law_9 : decode cX11_law 9 = .ok (.iconst 4, 1) := by decide +kernel
theorem dX11_law_10 : decode cX11_law 10 = .ok (.invokestatic 184, 3) := by decide +kernel
theorem dX11_law_13 : decode cX11_law 13 = .ok (.ifCond .eq 10, 3) := by decide +kernel
theorem dX11_law_16 : decode cX11_law 16 = .ok (.iload_n 3, 1) := by decide +kernel
theorem dX11_law_17 : decode cX11_law 17 = .ok (.invokestatic 331, 3) := by decide +kernel
theorem dX11_law_20 : decode cX11_law 20 = .ok (.ifCond .ne 5, 3) := by decide +kernel
theorem dX11_law_23 : decode cX11_law 23 = .ok (.iconst (-1), 1) := by decide +kernel
theorem dX11_law_24 : decode cX11_law 24 = .ok (.ireturn, 1) := by decide +kernel
theorem dX11_law_25 : decode cX11_law 25 = .ok (.aload_n 0, 1) := by decide +kernel
theorem dX11_law_26 : decode cX11_law 26 = .ok (.getfield 334, 3) := by decide +kernel
theorem dX11_law_29 : decode cX11_law 29 = .ok (.bipush 40, 2) := by decide +kernel
theorem dX11_law_31 : decode cX11_law 31 = .ok (.if_icmp .ne 6, 3) := by decide +kernel
theorem dX11_law_34 : decode cX11_law 34 = .ok (.bipush (-3), 2) := by decide +kernel
theorem dX11_law_36 : decode cX11_law 36 = .ok (.ireturn, 1) := by decide +kernel
theorem dX11_law_37 : decode cX11_law 37 = .ok (.aload_n 0, 1) := by decide +kernel
theorem dX11_law_38 : decode cX11_law 38 = .ok (.aload_n 0, 1) := by decide +kernel
theorem dX11_law_39 : decode cX11_law 39 = .ok (.getfield 334, 3) := by decide +kernel
theorem dX11_law_42 : decode cX11_law 42 = .ok (.invokevirtual 337, 3) := by decide +kernel
theorem dX11_law_45 : decode cX11_law 45 = .ok (.istore 4, 2) := by decide +kernel
theorem dX11_law_47 : decode cX11_law 47 = .ok (.aload_n 0, 1) := by decide +kernel
theorem dX11_law_48 : decode cX11_law 48 = .ok (.iconst 0, 1) := by decide +kernel
theorem dX11_law_49 : decode cX11_law 49 = .ok (.putfield 230, 3) := by decide +kernel
theorem dX11_law_52 : decode cX11_law 52 = .ok (.iload 4, 2) := by decide +kernel
theorem dX11_law_54 : decode cX11_law 54 = .ok (.ifCond .lt 9, 3) := by decide +kernel
theorem dX11_law_57 : decode cX11_law 57 = .ok (.bipush (-100), 2) := by decide +kernel
theorem dX11_law_59 : decode cX11_law 59 = .ok (.iload 4, 2) := by decide +kernel
theorem dX11_law_61 : decode cX11_law 61 = .ok (.isub, 1) := by decide +kernel
theorem dX11_law_62 : decode cX11_law 62 = .ok (.ireturn, 1) := by decide +kernel
theorem dX11_law_63 : decode cX11_law 63 = .ok (.aload_n 0, 1) := by decide +kernel
theorem dX11_law_64 : decode cX11_law 64 = .ok (.getfield 72, 3) := by decide +kernel
theorem dX11_law_67 : decode cX11_law 67 = .ok (.aload_n 0, 1) := by decide +kernel
theorem dX11_law_68 : decode cX11_law 68 = .ok (.getfield 334, 3) := by decide +kernel
theorem dX11_law_71 : decode cX11_law 71 = .ok (.iload_n 1, 1) := by decide +kernel
theorem dX11_law_72 : decode cX11_law 72 = .ok (.iastore, 1) := by decide +kernel
theorem dX11_law_73 : decode cX11_law 73 = .ok (.aload_n 0, 1) := by decide +kernel
theorem dX11_law_74 : decode cX11_law 74 = .ok (.getfield 75, 3) := by decide +kernel
theorem dX11_law_77 : decode cX11_law 77 = .ok (.aload_n 0, 1) := by decide +kernel
theorem dX11_law_78 : decode cX11_law 78 = .ok (.getfield 334, 3) := by decide +kernel
theorem dX11_law_81 : decode cX11_law 81 = .ok (.iload_n 2, 1) := by decide +kernel
theorem dX11_law_82 : decode cX11_law 82 = .ok (.iastore, 1) := by decide +kernel
theorem dX11_law_83 : decode cX11_law 83 = .ok (.aload_n 0, 1) := by decide +kernel
theorem dX11_law_84 : decode cX11_law 84 = .ok (.getfield 78, 3) := by decide +kernel
theorem dX11_law_87 : decode cX11_law 87 = .ok (.aload_n 0, 1) := by decide +kernel
theorem dX11_law_88 : decode cX11_law 88 = .ok (.getfield 334, 3) := by decide +kernel
theorem dX11_law_91 : decode cX11_law 91 = .ok (.aload_n 0, 1) := by decide +kernel
theorem dX11_law_92 : decode cX11_law 92 = .ok (.invokevirtual 340, 3) := by decide +kernel
theorem dX11_law_95 : decode cX11_law 95 = .ok (.iastore, 1) := by decide +kernel
theorem dX11_law_96 : decode cX11_law 96 = .ok (.aload_n 0, 1) := by decide +kernel
theorem dX11_law_97 : decode cX11_law 97 = .ok (.getfield 81, 3) := by decide +kernel
theorem dX11_law_100 : decode cX11_law 100 = .ok (.aload_n 0, 1) := by decide +kernel
theorem dX11_law_101 : decode cX11_law 101 = .ok (.getfield 334, 3) := by decide +kernel
theorem dX11_law_104 : decode cX11_law 104 = .ok (.iload_n 3, 1) := by decide +kernel
theorem dX11_law_105 : decode cX11_law 105 = .ok (.iastore, 1) := by decide +kernel
theorem dX11_law_106 : decode cX11_law 106 = .ok (.aload_n 0, 1) := by decide +kernel
theorem dX11_law_107 : decode cX11_law 107 = .ok (.getfield 84, 3) := by decide +kernel
theorem dX11_law_110 : decode cX11_law 110 = .ok (.aload_n 0, 1) := by decide +kernel
theorem dX11_law_111 : decode cX11_law 111 = .ok (.getfield 334, 3) := by decide +kernel
theorem dX11_law_114 : decode cX11_law 114 = .ok (.aload_n 0, 1) := by decide +kernel
theorem dX11_law_115 : decode cX11_law 115 = .ok (.getfield 303, 3) := by decide +kernel
theorem dX11_law_118 : decode cX11_law 118 = .ok (.iastore, 1) := by decide +kernel
theorem dX11_law_119 : decode cX11_law 119 = .ok (.aload_n 0, 1) := by decide +kernel
theorem dX11_law_120 : decode cX11_law 120 = .ok (.dup, 1) := by decide +kernel
theorem dX11_law_121 : decode cX11_law 121 = .ok (.getfield 334, 3) := by decide +kernel
theorem dX11_law_124 : decode cX11_law 124 = .ok (.iconst 1, 1) := by decide +kernel
theorem dX11_law_125 : decode cX11_law 125 = .ok (.iadd, 1) := by decide +kernel
theorem dX11_law_126 : decode cX11_law 126 = .ok (.putfield 334, 3) := by decide +kernel
theorem dX11_law_129 : decode cX11_law 129 = .ok (.aload_n 0, 1) := by decide +kernel
theorem dX11_law_130 : decode cX11_law 130 = .ok (.getfield 334, 3) := by decide +kernel
theorem dX11_law_133 : decode cX11_law 133 = .ok (.iconst 1, 1) := by decide +kernel
theorem dX11_law_134 : decode cX11_law 134 = .ok (.isub, 1) := by decide +kernel
theorem dX11_law_135 : decode cX11_law 135 = .ok (.ireturn, 1) := by decide +kernel
theorem dX11_forceOn_0 : decode cX11_forceOn 0 = .ok (.aload_n 0, 1) := by decide +kernel
theorem dX11_forceOn_1 : decode cX11_forceOn 1 = .ok (.getfield 334, 3) := by decide +kernel
theorem dX11_forceOn_4 : decode cX11_forceOn 4 = .ok (.iconst 1, 1) := by decide +kernel
theorem dX11_forceOn_5 : decode cX11_forceOn 5 = .ok (.isub, 1) := by decide +kernel
theorem dX11_forceOn_6 : decode cX11_forceOn 6 = .ok (.istore 5, 2) := by decide +kernel
theorem dX11_forceOn_8 : decode cX11_forceOn 8 = .ok (.iload 5, 2) := by decide +kernel
theorem dX11_forceOn_10 : decode cX11_forceOn 10 = .ok (.ifCond .lt 57, 3) := by decide +kernel
theorem dX11_forceOn_13 : decode cX11_forceOn 13 = .ok (.aload_n 0, 1) := by decide +kernel
theorem dX11_forceOn_14 : decode cX11_forceOn 14 = .ok (.getfield 72, 3) := by decide +kernel
theorem dX11_forceOn_17 : decode cX11_forceOn 17 = .ok (.iload 5, 2) := by decide +kernel
theorem dX11_forceOn_19 : decode cX11_forceOn 19 = .ok (.iaload, 1) := by decide +kernel
theorem dX11_forceOn_20 : decode cX11_forceOn 20 = .ok (.iload_n 1, 1) := by decide +kernel
theorem dX11_forceOn_21 : decode cX11_forceOn 21 = .ok (.if_icmp .ne 40, 3) := by decide +kernel
theorem dX11_forceOn_24 : decode cX11_forceOn 24 = .ok (.aload_n 0, 1) := by decide +kernel
theorem dX11_forceOn_25 : decode cX11_forceOn 25 = .ok (.getfield 75, 3) := by decide +kernel
theorem dX11_forceOn_28 : decode cX11_forceOn 28 = .ok (.iload 5, 2) := by decide +kernel
theorem dX11_forceOn_30 : decode cX11_forceOn 30 = .ok (.iaload, 1) := by decide +kernel
theorem dX11_forceOn_31 : decode cX11_forceOn 31 = .ok (.iload_n 2, 1) := by decide +kernel
theorem dX11_forceOn_32 : decode cX11_forceOn 32 = .ok (.if_icmp .ne 29, 3) := by decide +kernel
theorem dX11_forceOn_35 : decode cX11_forceOn 35 = .ok (.aload_n 0, 1) := by decide +kernel
theorem dX11_forceOn_36 : decode cX11_forceOn 36 = .ok (.getfield 78, 3) := by decide +kernel
theorem dX11_forceOn_39 : decode cX11_forceOn 39 = .ok (.iload 5, 2) := by decide +kernel
theorem dX11_forceOn_41 : decode cX11_forceOn 41 = .ok (.iaload, 1) := by decide +kernel
theorem dX11_forceOn_42 : decode cX11_forceOn 42 = .ok (.iload 4, 2) := by decide +kernel
theorem dX11_forceOn_44 : decode cX11_forceOn 44 = .ok (.if_icmp .gt 17, 3) := by decide +kernel
theorem dX11_forceOn_47 : decode cX11_forceOn 47 = .ok (.aload_n 0, 1) := by decide +kernel
theorem dX11_forceOn_48 : decode cX11_forceOn 48 = .ok (.getfield 81, 3) := by decide +kernel
theorem dX11_forceOn_51 : decode cX11_forceOn 51 = .ok (.iload 5, 2) := by decide +kernel
theorem dX11_forceOn_53 : decode cX11_forceOn 53 = .ok (.iaload, 1) := by decide +kernel
theorem dX11_forceOn_54 : decode cX11_forceOn 54 = .ok (.iload_n 3, 1) := by decide +kernel
theorem dX11_forceOn_55 : decode cX11_forceOn 55 = .ok (.if_icmp .gt 6, 3) := by decide +kernel
theorem dX11_forceOn_58 : decode cX11_forceOn 58 = .ok (.iload 5, 2) := by decide +kernel
theorem dX11_forceOn_60 : decode cX11_forceOn 60 = .ok (.ireturn, 1) := by decide +kernel
theorem dX11_forceOn_61 : decode cX11_forceOn 61 = .ok (.iinc 5 (-1), 3) := by decide +kernel
theorem dX11_forceOn_64 : decode cX11_forceOn 64 = .ok (.goto (-56), 3) := by decide +kernel
theorem dX11_forceOn_67 : decode cX11_forceOn 67 = .ok (.bipush (-2), 2) := by decide +kernel
theorem dX11_forceOn_69 : decode cX11_forceOn 69 = .ok (.ireturn, 1) := by decide +kernel
theorem dX11_inForce_0 : decode cX11_inForce 0 = .ok (.iload_n 1, 1) := by decide +kernel
theorem dX11_inForce_1 : decode cX11_inForce 1 = .ok (.invokestatic 213, 3) := by decide +kernel
theorem dX11_inForce_4 : decode cX11_inForce 4 = .ok (.ifCond .eq 39, 3) := by decide +kernel
theorem dX11_inForce_7 : decode cX11_inForce 7 = .ok (.iload_n 2, 1) := by decide +kernel
theorem dX11_inForce_8 : decode cX11_inForce 8 = .ok (.iconst 0, 1) := by decide +kernel
theorem dX11_inForce_9 : decode cX11_inForce 9 = .ok (.iconst 4, 1) := by decide +kernel
theorem dX11_inForce_10 : decode cX11_inForce 10 = .ok (.invokestatic 184, 3) := by decide +kernel
theorem dX11_inForce_13 : decode cX11_inForce 13 = .ok (.ifCond .eq 30, 3) := by decide +kernel
theorem dX11_inForce_16 : decode cX11_inForce 16 = .ok (.iload_n 3, 1) := by decide +kernel
theorem dX11_inForce_17 : decode cX11_inForce 17 = .ok (.invokestatic 331, 3) := by decide +kernel
theorem dX11_inForce_20 : decode cX11_inForce 20 = .ok (.ifCond .eq 23, 3) := by decide +kernel
theorem dX11_inForce_23 : decode cX11_inForce 23 = .ok (.iload 4, 2) := by decide +kernel
theorem dX11_inForce_25 : decode cX11_inForce 25 = .ok (.invokestatic 331, 3) := by decide +kernel
theorem dX11_inForce_28 : decode cX11_inForce 28 = .ok (.ifCond .eq 15, 3) := by decide +kernel
theorem dX11_inForce_31 : decode cX11_inForce 31 = .ok (.aload_n 0, 1) := by decide +kernel
theorem dX11_inForce_32 : decode cX11_inForce 32 = .ok (.iload_n 1, 1) := by decide +kernel
theorem dX11_inForce_33 : decode cX11_inForce 33 = .ok (.iload_n 2, 1) := by decide +kernel
theorem dX11_inForce_34 : decode cX11_inForce 34 = .ok (.iload_n 3, 1) := by decide +kernel
theorem dX11_inForce_35 : decode cX11_inForce 35 = .ok (.iload 4, 2) := by decide +kernel
theorem dX11_inForce_37 : decode cX11_inForce 37 = .ok (.invokevirtual 343, 3) := by decide +kernel
theorem dX11_inForce_40 : decode cX11_inForce 40 = .ok (.goto 4, 3) := by decide +kernel
theorem dX11_inForce_43 : decode cX11_inForce 43 = .ok (.iconst (-1), 1) := by decide +kernel
theorem dX11_inForce_44 : decode cX11_inForce 44 = .ok (.ireturn, 1) := by decide +kernel
theorem dX11_both_0 : decode cX11_both 0 = .ok (.iload_n 0, 1) := by decide +kernel
theorem dX11_both_1 : decode cX11_both 1 = .ok (.lookupswitch 186 #[(10, 91), (20, 105), (40, 119), (41, 130), (42, 141), (50, 152), (51, 156), (60, 160), (70, 164), (71, 175)], 91) := by decide +kernel
theorem dX11_both_92 : decode cX11_both 92 = .ok (.iload_n 1, 1) := by decide +kernel
theorem dX11_both_93 : decode cX11_both 93 = .ok (.ifCond .ne 7, 3) := by decide +kernel
theorem dX11_both_96 : decode cX11_both 96 = .ok (.iload_n 2, 1) := by decide +kernel
theorem dX11_both_97 : decode cX11_both 97 = .ok (.ifCond .eq 7, 3) := by decide +kernel
theorem dX11_both_100 : decode cX11_both 100 = .ok (.iconst 1, 1) := by decide +kernel
theorem dX11_both_101 : decode cX11_both 101 = .ok (.goto 4, 3) := by decide +kernel
theorem dX11_both_104 : decode cX11_both 104 = .ok (.iconst 0, 1) := by decide +kernel
theorem dX11_both_105 : decode cX11_both 105 = .ok (.ireturn, 1) := by decide +kernel
theorem dX11_both_106 : decode cX11_both 106 = .ok (.iload_n 1, 1) := by decide +kernel
theorem dX11_both_107 : decode cX11_both 107 = .ok (.ifCond .eq 11, 3) := by decide +kernel
theorem dX11_both_110 : decode cX11_both 110 = .ok (.iload_n 2, 1) := by decide +kernel
theorem dX11_both_111 : decode cX11_both 111 = .ok (.ifCond .eq 7, 3) := by decide +kernel
theorem dX11_both_114 : decode cX11_both 114 = .ok (.iconst 1, 1) := by decide +kernel
theorem dX11_both_115 : decode cX11_both 115 = .ok (.goto 4, 3) := by decide +kernel
theorem dX11_both_118 : decode cX11_both 118 = .ok (.iconst 0, 1) := by decide +kernel
theorem dX11_both_119 : decode cX11_both 119 = .ok (.ireturn, 1) := by decide +kernel
theorem dX11_both_120 : decode cX11_both 120 = .ok (.iload_n 1, 1) := by decide +kernel
theorem dX11_both_121 : decode cX11_both 121 = .ok (.iload_n 2, 1) := by decide +kernel
theorem dX11_both_122 : decode cX11_both 122 = .ok (.if_icmp .ge 7, 3) := by decide +kernel
theorem dX11_both_125 : decode cX11_both 125 = .ok (.iconst 1, 1) := by decide +kernel
theorem dX11_both_126 : decode cX11_both 126 = .ok (.goto 4, 3) := by decide +kernel
theorem dX11_both_129 : decode cX11_both 129 = .ok (.iconst 0, 1) := by decide +kernel
theorem dX11_both_130 : decode cX11_both 130 = .ok (.ireturn, 1) := by decide +kernel
theorem dX11_both_131 : decode cX11_both 131 = .ok (.iload_n 1, 1) := by decide +kernel
theorem dX11_both_132 : decode cX11_both 132 = .ok (.iload_n 2, 1) := by decide +kernel
theorem dX11_both_133 : decode cX11_both 133 = .ok (.if_icmp .ne 7, 3) := by decide +kernel
theorem dX11_both_136 : decode cX11_both 136 = .ok (.iconst 1, 1) := by decide +kernel
theorem dX11_both_137 : decode cX11_both 137 = .ok (.goto 4, 3) := by decide +kernel
theorem dX11_both_140 : decode cX11_both 140 = .ok (.iconst 0, 1) := by decide +kernel
theorem dX11_both_141 : decode cX11_both 141 = .ok (.ireturn, 1) := by decide +kernel
theorem dX11_both_142 : decode cX11_both 142 = .ok (.iload_n 1, 1) := by decide +kernel
theorem dX11_both_143 : decode cX11_both 143 = .ok (.iload_n 2, 1) := by decide +kernel
theorem dX11_both_144 : decode cX11_both 144 = .ok (.if_icmp .le 7, 3) := by decide +kernel
theorem dX11_both_147 : decode cX11_both 147 = .ok (.iconst 1, 1) := by decide +kernel
theorem dX11_both_148 : decode cX11_both 148 = .ok (.goto 4, 3) := by decide +kernel
theorem dX11_both_151 : decode cX11_both 151 = .ok (.iconst 0, 1) := by decide +kernel
theorem dX11_both_152 : decode cX11_both 152 = .ok (.ireturn, 1) := by decide +kernel
theorem dX11_both_153 : decode cX11_both 153 = .ok (.iload_n 1, 1) := by decide +kernel
theorem dX11_both_154 : decode cX11_both 154 = .ok (.iload_n 2, 1) := by decide +kernel
theorem dX11_both_155 : decode cX11_both 155 = .ok (.iadd, 1) := by decide +kernel
theorem dX11_both_156 : decode cX11_both 156 = .ok (.ireturn, 1) := by decide +kernel
theorem dX11_both_157 : decode cX11_both 157 = .ok (.iload_n 1, 1) := by decide +kernel
theorem dX11_both_158 : decode cX11_both 158 = .ok (.iload_n 2, 1) := by decide +kernel
theorem dX11_both_159 : decode cX11_both 159 = .ok (.isub, 1) := by decide +kernel
theorem dX11_both_160 : decode cX11_both 160 = .ok (.ireturn, 1) := by decide +kernel
theorem dX11_both_161 : decode cX11_both 161 = .ok (.iload_n 1, 1) := by decide +kernel
theorem dX11_both_162 : decode cX11_both 162 = .ok (.iload_n 2, 1) := by decide +kernel
theorem dX11_both_163 : decode cX11_both 163 = .ok (.imul, 1) := by decide +kernel
theorem dX11_both_164 : decode cX11_both 164 = .ok (.ireturn, 1) := by decide +kernel
theorem dX11_both_165 : decode cX11_both 165 = .ok (.iload_n 1, 1) := by decide +kernel
theorem dX11_both_166 : decode cX11_both 166 = .ok (.iload_n 2, 1) := by decide +kernel
theorem dX11_both_167 : decode cX11_both 167 = .ok (.if_icmp .ge 7, 3) := by decide +kernel
theorem dX11_both_170 : decode cX11_both 170 = .ok (.iload_n 1, 1) := by decide +kernel
theorem dX11_both_171 : decode cX11_both 171 = .ok (.goto 4, 3) := by decide +kernel
theorem dX11_both_174 : decode cX11_both 174 = .ok (.iload_n 2, 1) := by decide +kernel
theorem dX11_both_175 : decode cX11_both 175 = .ok (.ireturn, 1) := by decide +kernel
theorem dX11_both_176 : decode cX11_both 176 = .ok (.iload_n 1, 1) := by decide +kernel
theorem dX11_both_177 : decode cX11_both 177 = .ok (.iload_n 2, 1) := by decide +kernel
theorem dX11_both_178 : decode cX11_both 178 = .ok (.if_icmp .le 7, 3) := by decide +kernel
theorem dX11_both_181 : decode cX11_both 181 = .ok (.iload_n 1, 1) := by decide +kernel
theorem dX11_both_182 : decode cX11_both 182 = .ok (.goto 4, 3) := by decide +kernel
theorem dX11_both_185 : decode cX11_both 185 = .ok (.iload_n 2, 1) := by decide +kernel
theorem dX11_both_186 : decode cX11_both 186 = .ok (.ireturn, 1) := by decide +kernel
theorem dX11_both_187 : decode cX11_both 187 = .ok (.iload_n 2, 1) := by decide +kernel
theorem dX11_both_188 : decode cX11_both 188 = .ok (.ifCond .ne 7, 3) := by decide +kernel
theorem dX11_both_191 : decode cX11_both 191 = .ok (.iconst 0, 1) := by decide +kernel
theorem dX11_both_192 : decode cX11_both 192 = .ok (.goto 16, 3) := by decide +kernel
theorem dX11_both_195 : decode cX11_both 195 = .ok (.iload_n 2, 1) := by decide +kernel
theorem dX11_both_196 : decode cX11_both 196 = .ok (.iconst (-1), 1) := by decide +kernel
theorem dX11_both_197 : decode cX11_both 197 = .ok (.if_icmp .ne 8, 3) := by decide +kernel
theorem dX11_both_200 : decode cX11_both 200 = .ok (.iload_n 1, 1) := by decide +kernel
theorem dX11_both_201 : decode cX11_both 201 = .ok (.ineg, 1) := by decide +kernel
theorem dX11_both_202 : decode cX11_both 202 = .ok (.goto 6, 3) := by decide +kernel
theorem dX11_both_205 : decode cX11_both 205 = .ok (.iload_n 1, 1) := by decide +kernel
theorem dX11_both_206 : decode cX11_both 206 = .ok (.iload_n 2, 1) := by decide +kernel
theorem dX11_both_207 : decode cX11_both 207 = .ok (.idiv, 1) := by decide +kernel
theorem dX11_both_208 : decode cX11_both 208 = .ok (.ireturn, 1) := by decide +kernel
theorem dX11_works_0 : decode cX11_works 0 = .ok (.iconst 0, 1) := by decide +kernel
theorem dX11_works_1 : decode cX11_works 1 = .ok (.istore_n 2, 1) := by decide +kernel
theorem dX11_works_2 : decode cX11_works 2 = .ok (.sipush 220, 3) := by decide +kernel
theorem dX11_works_5 : decode cX11_works 5 = .ok (.iload_n 1, 1) := by decide +kernel
theorem dX11_works_6 : decode cX11_works 6 = .ok (.imul, 1) := by decide +kernel
theorem dX11_works_7 : decode cX11_works 7 = .ok (.istore_n 3, 1) := by decide +kernel
theorem dX11_works_8 : decode cX11_works 8 = .ok (.iload_n 3, 1) := by decide +kernel
theorem dX11_works_9 : decode cX11_works 9 = .ok (.sipush 220, 3) := by decide +kernel
theorem dX11_works_12 : decode cX11_works 12 = .ok (.iload_n 1, 1) := by decide +kernel
theorem dX11_works_13 : decode cX11_works 13 = .ok (.imul, 1) := by decide +kernel
theorem dX11_works_14 : decode cX11_works 14 = .ok (.aload_n 0, 1) := by decide +kernel
theorem dX11_works_15 : decode cX11_works 15 = .ok (.getfield 84, 3) := by decide +kernel
theorem dX11_works_18 : decode cX11_works 18 = .ok (.iload_n 1, 1) := by decide +kernel
theorem dX11_works_19 : decode cX11_works 19 = .ok (.iaload, 1) := by decide +kernel
theorem dX11_works_20 : decode cX11_works 20 = .ok (.iadd, 1) := by decide +kernel
theorem dX11_works_21 : decode cX11_works 21 = .ok (.if_icmp .ge 173, 3) := by decide +kernel
theorem dX11_works_24 : decode cX11_works 24 = .ok (.aload_n 0, 1) := by decide +kernel
theorem dX11_works_25 : decode cX11_works 25 = .ok (.getfield 87, 3) := by decide +kernel
theorem dX11_works_28 : decode cX11_works 28 = .ok (.iload_n 3, 1) := by decide +kernel
theorem dX11_works_29 : decode cX11_works 29 = .ok (.iaload, 1) := by decide +kernel
theorem dX11_works_30 : decode cX11_works 30 = .ok (.istore 4, 2) := by decide +kernel
theorem dX11_works_32 : decode cX11_works 32 = .ok (.iload 4, 2) := by decide +kernel
theorem dX11_works_34 : decode cX11_works 34 = .ok (.bipush 9, 2) := by decide +kernel
theorem dX11_works_36 : decode cX11_works 36 = .ok (.if_icmp .ne 10, 3) := by decide +kernel
theorem dX11_works_39 : decode cX11_works 39 = .ok (.aload_n 0, 1) := by decide +kernel
theorem dX11_works_40 : decode cX11_works 40 = .ok (.getfield 99, 3) := by decide +kernel
theorem dX11_works_43 : decode cX11_works 43 = .ok (.iconst 0, 1) := by decide +kernel
theorem dX11_works_44 : decode cX11_works 44 = .ok (.iaload, 1) := by decide +kernel
theorem dX11_works_45 : decode cX11_works 45 = .ok (.ireturn, 1) := by decide +kernel
theorem dX11_works_46 : decode cX11_works 46 = .ok (.iload 4, 2) := by decide +kernel
theorem dX11_works_48 : decode cX11_works 48 = .ok (.bipush 8, 2) := by decide +kernel
theorem dX11_works_50 : decode cX11_works 50 = .ok (.if_icmp .ne 24, 3) := by decide +kernel
theorem dX11_works_53 : decode cX11_works 53 = .ok (.aload_n 0, 1) := by decide +kernel
theorem dX11_works_54 : decode cX11_works 54 = .ok (.getfield 99, 3) := by decide +kernel
theorem dX11_works_57 : decode cX11_works 57 = .ok (.iconst 1, 1) := by decide +kernel
theorem dX11_works_58 : decode cX11_works 58 = .ok (.iaload, 1) := by decide +kernel
theorem dX11_works_59 : decode cX11_works 59 = .ok (.ifCond .eq 10, 3) := by decide +kernel
theorem dX11_works_62 : decode cX11_works 62 = .ok (.aload_n 0, 1) := by decide +kernel
theorem dX11_works_63 : decode cX11_works 63 = .ok (.getfield 99, 3) := by decide +kernel
theorem dX11_works_66 : decode cX11_works 66 = .ok (.iconst 0, 1) := by decide +kernel
theorem dX11_works_67 : decode cX11_works 67 = .ok (.iaload, 1) := by decide +kernel
theorem dX11_works_68 : decode cX11_works 68 = .ok (.ireturn, 1) := by decide +kernel
theorem dX11_works_69 : decode cX11_works 69 = .ok (.iconst 0, 1) := by decide +kernel
theorem dX11_works_70 : decode cX11_works 70 = .ok (.istore_n 2, 1) := by decide +kernel
theorem dX11_works_71 : decode cX11_works 71 = .ok (.goto 117, 3) := by decide +kernel
theorem dX11_works_74 : decode cX11_works 74 = .ok (.iload 4, 2) := by decide +kernel
theorem dX11_works_76 : decode cX11_works 76 = .ok (.iconst 1, 1) := by decide +kernel
theorem dX11_works_77 : decode cX11_works 77 = .ok (.if_icmp .eq 10, 3) := by decide +kernel
theorem dX11_works_80 : decode cX11_works 80 = .ok (.iload 4, 2) := by decide +kernel
