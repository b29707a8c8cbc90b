theorem dX11_placeInGang_22 : decode cX11_placeInGang 22 = .ok (.iaload, 1) := by decide +kernel
theorem dX11_placeInGang_23 : decode cX11_placeInGang 23 = .ok (.iload_n 2, 1) := by decide +kernel
theorem dX11_placeInGang_24 : decode cX11_placeInGang 24 = .ok (.if_icmp .ne 5, 3) := by decide +kernel
theorem dX11_placeInGang_27 : decode cX11_placeInGang 27 = .ok (.iload_n 3, 1) := by decide +kernel
theorem dX11_placeInGang_28 : decode cX11_placeInGang 28 = .ok (.ireturn, 1) := by decide +kernel
theorem dX11_placeInGang_29 : decode cX11_placeInGang 29 = .ok (.iinc 3 1, 3) := by decide +kernel
theorem dX11_placeInGang_32 : decode cX11_placeInGang 32 = .ok (.goto (-30), 3) := by decide +kernel
theorem dX11_placeInGang_35 : decode cX11_placeInGang 35 = .ok (.iconst (-1), 1) := by decide +kernel
theorem dX11_placeInGang_36 : decode cX11_placeInGang 36 = .ok (.ireturn, 1) := by decide +kernel
theorem dX11_fall_0 : decode cX11_fall 0 = .ok (.aload_n 0, 1) := by decide +kernel
theorem dX11_fall_1 : decode cX11_fall 1 = .ok (.iload_n 1, 1) := by decide +kernel
theorem dX11_fall_2 : decode cX11_fall 2 = .ok (.invokevirtual 360, 3) := by decide +kernel
theorem dX11_fall_5 : decode cX11_fall 5 = .ok (.ifCond .eq 36, 3) := by decide +kernel
theorem dX11_fall_8 : decode cX11_fall 8 = .ok (.iload_n 2, 1) := by decide +kernel
theorem dX11_fall_9 : decode cX11_fall 9 = .ok (.iconst (-1), 1) := by decide +kernel
theorem dX11_fall_10 : decode cX11_fall 10 = .ok (.if_icmp .eq 33, 3) := by decide +kernel
theorem dX11_fall_13 : decode cX11_fall 13 = .ok (.aload_n 0, 1) := by decide +kernel
theorem dX11_fall_14 : decode cX11_fall 14 = .ok (.iload_n 2, 1) := by decide +kernel
theorem dX11_fall_15 : decode cX11_fall 15 = .ok (.invokevirtual 220, 3) := by decide +kernel
theorem dX11_fall_18 : decode cX11_fall 18 = .ok (.ifCond .eq 23, 3) := by decide +kernel
theorem dX11_fall_21 : decode cX11_fall 21 = .ok (.aload_n 0, 1) := by decide +kernel
theorem dX11_fall_22 : decode cX11_fall 22 = .ok (.iload_n 1, 1) := by decide +kernel
theorem dX11_fall_23 : decode cX11_fall 23 = .ok (.iload_n 2, 1) := by decide +kernel
theorem dX11_fall_24 : decode cX11_fall 24 = .ok (.invokevirtual 398, 3) := by decide +kernel
theorem dX11_fall_27 : decode cX11_fall 27 = .ok (.ifCond .lt 14, 3) := by decide +kernel
theorem dX11_fall_30 : decode cX11_fall 30 = .ok (.iload_n 3, 1) := by decide +kernel
theorem dX11_fall_31 : decode cX11_fall 31 = .ok (.iconst 0, 1) := by decide +kernel
theorem dX11_fall_32 : decode cX11_fall 32 = .ok (.ldc_w 370, 3) := by decide +kernel
theorem dX11_fall_35 : decode cX11_fall 35 = .ok (.invokestatic 184, 3) := by decide +kernel
theorem dX11_fall_38 : decode cX11_fall 38 = .ok (.ifCond .ne 5, 3) := by decide +kernel
theorem dX11_fall_41 : decode cX11_fall 41 = .ok (.iconst (-1), 1) := by decide +kernel
theorem dX11_fall_42 : decode cX11_fall 42 = .ok (.ireturn, 1) := by decide +kernel
theorem dX11_fall_43 : decode cX11_fall 43 = .ok (.aload_n 0, 1) := by decide +kernel
theorem dX11_fall_44 : decode cX11_fall 44 = .ok (.getfield 120, 3) := by decide +kernel
theorem dX11_fall_47 : decode cX11_fall 47 = .ok (.iload_n 1, 1) := by decide +kernel
theorem dX11_fall_48 : decode cX11_fall 48 = .ok (.iaload, 1) := by decide +kernel
theorem dX11_fall_49 : decode cX11_fall 49 = .ok (.iconst 1, 1) := by decide +kernel
theorem dX11_fall_50 : decode cX11_fall 50 = .ok (.if_icmp .eq 6, 3) := by decide +kernel
theorem dX11_fall_53 : decode cX11_fall 53 = .ok (.bipush (-2), 2) := by decide +kernel
theorem dX11_fall_55 : decode cX11_fall 55 = .ok (.ireturn, 1) := by decide +kernel
theorem dX11_fall_56 : decode cX11_fall 56 = .ok (.iconst 0, 1) := by decide +kernel
theorem dX11_fall_57 : decode cX11_fall 57 = .ok (.istore 4, 2) := by decide +kernel
theorem dX11_fall_59 : decode cX11_fall 59 = .ok (.aload_n 0, 1) := by decide +kernel
theorem dX11_fall_60 : decode cX11_fall 60 = .ok (.getfield 129, 3) := by decide +kernel
theorem dX11_fall_63 : decode cX11_fall 63 = .ok (.iload_n 1, 1) := by decide +kernel
theorem dX11_fall_64 : decode cX11_fall 64 = .ok (.iaload, 1) := by decide +kernel
theorem dX11_fall_65 : decode cX11_fall 65 = .ok (.istore 5, 2) := by decide +kernel
theorem dX11_fall_67 : decode cX11_fall 67 = .ok (.iconst 0, 1) := by decide +kernel
theorem dX11_fall_68 : decode cX11_fall 68 = .ok (.istore 6, 2) := by decide +kernel
theorem dX11_fall_70 : decode cX11_fall 70 = .ok (.iload 6, 2) := by decide +kernel
theorem dX11_fall_72 : decode cX11_fall 72 = .ok (.aload_n 0, 1) := by decide +kernel
theorem dX11_fall_73 : decode cX11_fall 73 = .ok (.getfield 144, 3) := by decide +kernel
theorem dX11_fall_76 : decode cX11_fall 76 = .ok (.iload_n 1, 1) := by decide +kernel
theorem dX11_fall_77 : decode cX11_fall 77 = .ok (.iaload, 1) := by decide +kernel
theorem dX11_fall_78 : decode cX11_fall 78 = .ok (.if_icmp .ge 97, 3) := by decide +kernel
theorem dX11_fall_81 : decode cX11_fall 81 = .ok (.aload_n 0, 1) := by decide +kernel
theorem dX11_fall_82 : decode cX11_fall 82 = .ok (.getfield 147, 3) := by decide +kernel
theorem dX11_fall_85 : decode cX11_fall 85 = .ok (.bipush 8, 2) := by decide +kernel
theorem dX11_fall_87 : decode cX11_fall 87 = .ok (.iload_n 1, 1) := by decide +kernel
theorem dX11_fall_88 : decode cX11_fall 88 = .ok (.imul, 1) := by decide +kernel
theorem dX11_fall_89 : decode cX11_fall 89 = .ok (.iload 6, 2) := by decide +kernel
theorem dX11_fall_91 : decode cX11_fall 91 = .ok (.iadd, 1) := by decide +kernel
theorem dX11_fall_92 : decode cX11_fall 92 = .ok (.iaload, 1) := by decide +kernel
theorem dX11_fall_93 : decode cX11_fall 93 = .ok (.istore 7, 2) := by decide +kernel
theorem dX11_fall_95 : decode cX11_fall 95 = .ok (.aload_n 0, 1) := by decide +kernel
theorem dX11_fall_96 : decode cX11_fall 96 = .ok (.iload 5, 2) := by decide +kernel
theorem dX11_fall_98 : decode cX11_fall 98 = .ok (.iconst 3, 1) := by decide +kernel
theorem dX11_fall_99 : decode cX11_fall 99 = .ok (.iload_n 1, 1) := by decide +kernel
theorem dX11_fall_100 : decode cX11_fall 100 = .ok (.iload 7, 2) := by decide +kernel
theorem dX11_fall_102 : decode cX11_fall 102 = .ok (.invokevirtual 364, 3) := by decide +kernel
theorem dX11_fall_105 : decode cX11_fall 105 = .ok (.istore 8, 2) := by decide +kernel
theorem dX11_fall_107 : decode cX11_fall 107 = .ok (.iload 8, 2) := by decide +kernel
theorem dX11_fall_109 : decode cX11_fall 109 = .ok (.ifCond .ge 7, 3) := by decide +kernel
theorem dX11_fall_112 : decode cX11_fall 112 = .ok (.iconst 0, 1) := by decide +kernel
theorem dX11_fall_113 : decode cX11_fall 113 = .ok (.goto 27, 3) := by decide +kernel
theorem dX11_fall_116 : decode cX11_fall 116 = .ok (.iload 8, 2) := by decide +kernel
theorem dX11_fall_118 : decode cX11_fall 118 = .ok (.aload_n 0, 1) := by decide +kernel
theorem dX11_fall_119 : decode cX11_fall 119 = .ok (.getfield 37, 3) := by decide +kernel
theorem dX11_fall_122 : decode cX11_fall 122 = .ok (.iload 7, 2) := by decide +kernel
theorem dX11_fall_124 : decode cX11_fall 124 = .ok (.iaload, 1) := by decide +kernel
theorem dX11_fall_125 : decode cX11_fall 125 = .ok (.if_icmp .le 13, 3) := by decide +kernel
theorem dX11_fall_128 : decode cX11_fall 128 = .ok (.aload_n 0, 1) := by decide +kernel
theorem dX11_fall_129 : decode cX11_fall 129 = .ok (.getfield 37, 3) := by decide +kernel
theorem dX11_fall_132 : decode cX11_fall 132 = .ok (.iload 7, 2) := by decide +kernel
theorem dX11_fall_134 : decode cX11_fall 134 = .ok (.iaload, 1) := by decide +kernel
theorem dX11_fall_135 : decode cX11_fall 135 = .ok (.goto 5, 3) := by decide +kernel
theorem dX11_fall_138 : decode cX11_fall 138 = .ok (.iload 8, 2) := by decide +kernel
theorem dX11_fall_140 : decode cX11_fall 140 = .ok (.istore 8, 2) := by decide +kernel
theorem dX11_fall_142 : decode cX11_fall 142 = .ok (.aload_n 0, 1) := by decide +kernel
theorem dX11_fall_143 : decode cX11_fall 143 = .ok (.getfield 37, 3) := by decide +kernel
theorem dX11_fall_146 : decode cX11_fall 146 = .ok (.iload 7, 2) := by decide +kernel
theorem dX11_fall_148 : decode cX11_fall 148 = .ok (.dup2, 1) := by decide +kernel
theorem dX11_fall_149 : decode cX11_fall 149 = .ok (.iaload, 1) := by decide +kernel
theorem dX11_fall_150 : decode cX11_fall 150 = .ok (.iload 8, 2) := by decide +kernel
theorem dX11_fall_152 : decode cX11_fall 152 = .ok (.isub, 1) := by decide +kernel
theorem dX11_fall_153 : decode cX11_fall 153 = .ok (.iastore, 1) := by decide +kernel
theorem dX11_fall_154 : decode cX11_fall 154 = .ok (.iload 4, 2) := by decide +kernel
theorem dX11_fall_156 : decode cX11_fall 156 = .ok (.iload 8, 2) := by decide +kernel
theorem dX11_fall_158 : decode cX11_fall 158 = .ok (.iadd, 1) := by decide +kernel
theorem dX11_fall_159 : decode cX11_fall 159 = .ok (.istore 4, 2) := by decide +kernel
theorem dX11_fall_161 : decode cX11_fall 161 = .ok (.aload_n 0, 1) := by decide +kernel
theorem dX11_fall_162 : decode cX11_fall 162 = .ok (.iload 5, 2) := by decide +kernel
theorem dX11_fall_164 : decode cX11_fall 164 = .ok (.iload 8, 2) := by decide +kernel
theorem dX11_fall_166 : decode cX11_fall 166 = .ok (.invokevirtual 401, 3) := by decide +kernel
theorem dX11_fall_169 : decode cX11_fall 169 = .ok (.iinc 6 1, 3) := by decide +kernel
theorem dX11_fall_172 : decode cX11_fall 172 = .ok (.goto (-102), 3) := by decide +kernel
theorem dX11_fall_175 : decode cX11_fall 175 = .ok (.aload_n 0, 1) := by decide +kernel
theorem dX11_fall_176 : decode cX11_fall 176 = .ok (.getfield 120, 3) := by decide +kernel
theorem dX11_fall_179 : decode cX11_fall 179 = .ok (.iload_n 1, 1) := by decide +kernel
theorem dX11_fall_180 : decode cX11_fall 180 = .ok (.iconst 3, 1) := by decide +kernel
theorem dX11_fall_181 : decode cX11_fall 181 = .ok (.iastore, 1) := by decide +kernel
theorem dX11_fall_182 : decode cX11_fall 182 = .ok (.iload_n 2, 1) := by decide +kernel
theorem dX11_fall_183 : decode cX11_fall 183 = .ok (.ifCond .lt 10, 3) := by decide +kernel
theorem dX11_fall_186 : decode cX11_fall 186 = .ok (.aload_n 0, 1) := by decide +kernel
theorem dX11_fall_187 : decode cX11_fall 187 = .ok (.getfield 46, 3) := by decide +kernel
theorem dX11_fall_190 : decode cX11_fall 190 = .ok (.iload_n 2, 1) := by decide +kernel
theorem dX11_fall_191 : decode cX11_fall 191 = .ok (.iload_n 3, 1) := by decide +kernel
theorem dX11_fall_192 : decode cX11_fall 192 = .ok (.iastore, 1) := by decide +kernel
theorem dX11_fall_193 : decode cX11_fall 193 = .ok (.iload 4, 2) := by decide +kernel
theorem dX11_fall_195 : decode cX11_fall 195 = .ok (.ireturn, 1) := by decide +kernel
theorem dX11_waited_0 : decode cX11_waited 0 = .ok (.aload_n 0, 1) := by decide +kernel
theorem dX11_waited_1 : decode cX11_waited 1 = .ok (.getfield 120, 3) := by decide +kernel
theorem dX11_waited_4 : decode cX11_waited 4 = .ok (.iload_n 1, 1) := by decide +kernel
theorem dX11_waited_5 : decode cX11_waited 5 = .ok (.iaload, 1) := by decide +kernel
theorem dX11_waited_6 : decode cX11_waited 6 = .ok (.ifCond .ne 10, 3) := by decide +kernel
theorem dX11_waited_9 : decode cX11_waited 9 = .ok (.aload_n 0, 1) := by decide +kernel
theorem dX11_waited_10 : decode cX11_waited 10 = .ok (.getfield 178, 3) := by decide +kernel
theorem dX11_waited_13 : decode cX11_waited 13 = .ok (.goto 9, 3) := by decide +kernel
theorem dX11_waited_16 : decode cX11_waited 16 = .ok (.aload_n 0, 1) := by decide +kernel
theorem dX11_waited_17 : decode cX11_waited 17 = .ok (.getfield 126, 3) := by decide +kernel
theorem dX11_waited_20 : decode cX11_waited 20 = .ok (.iload_n 1, 1) := by decide +kernel
theorem dX11_waited_21 : decode cX11_waited 21 = .ok (.iaload, 1) := by decide +kernel
theorem dX11_waited_22 : decode cX11_waited 22 = .ok (.aload_n 0, 1) := by decide +kernel
theorem dX11_waited_23 : decode cX11_waited 23 = .ok (.getfield 123, 3) := by decide +kernel
theorem dX11_waited_26 : decode cX11_waited 26 = .ok (.iload_n 1, 1) := by decide +kernel
theorem dX11_waited_27 : decode cX11_waited 27 = .ok (.iaload, 1) := by decide +kernel
theorem dX11_waited_28 : decode cX11_waited 28 = .ok (.isub, 1) := by decide +kernel
theorem dX11_waited_29 : decode cX11_waited 29 = .ok (.ireturn, 1) := by decide +kernel
theorem dX11_told_0 : decode cX11_told 0 = .ok (.aload_n 0, 1) := by decide +kernel
theorem dX11_told_1 : decode cX11_told 1 = .ok (.iload_n 1, 1) := by decide +kernel
theorem dX11_told_2 : decode cX11_told 2 = .ok (.invokevirtual 360, 3) := by decide +kernel
theorem dX11_told_5 : decode cX11_told 5 = .ok (.ifCond .ne 6, 3) := by decide +kernel
theorem dX11_told_8 : decode cX11_told 8 = .ok (.bipush (-2), 2) := by decide +kernel
theorem dX11_told_10 : decode cX11_told 10 = .ok (.ireturn, 1) := by decide +kernel
theorem dX11_told_11 : decode cX11_told 11 = .ok (.iload_n 2, 1) := by decide +kernel
theorem dX11_told_12 : decode cX11_told 12 = .ok (.tableswitch 182 0 12 #[68, 75, 82, 89, 96, 103, 110, 117, 124, 131, 138, 145, 151], 68) := by decide +kernel
theorem dX11_told_80 : decode cX11_told 80 = .ok (.aload_n 0, 1) := by decide +kernel
theorem dX11_told_81 : decode cX11_told 81 = .ok (.getfield 102, 3) := by decide +kernel
theorem dX11_told_84 : decode cX11_told 84 = .ok (.iload_n 1, 1) := by decide +kernel
theorem dX11_told_85 : decode cX11_told 85 = .ok (.iaload, 1) := by decide +kernel
theorem dX11_told_86 : decode cX11_told 86 = .ok (.ireturn, 1) := by decide +kernel
theorem dX11_told_87 : decode cX11_told 87 = .ok (.aload_n 0, 1) := by decide +kernel
theorem dX11_told_88 : decode cX11_told 88 = .ok (.getfield 105, 3) := by decide +kernel
theorem dX11_told_91 : decode cX11_told 91 = .ok (.iload_n 1, 1) := by decide +kernel
theorem dX11_told_92 : decode cX11_told 92 = .ok (.iaload, 1) := by decide +kernel
theorem dX11_told_93 : decode cX11_told 93 = .ok (.ireturn, 1) := by decide +kernel
theorem dX11_told_94 : decode cX11_told 94 = .ok (.aload_n 0, 1) := by decide +kernel
theorem dX11_told_95 : decode cX11_told 95 = .ok (.getfield 108, 3) := by decide +kernel
theorem dX11_told_98 : decode cX11_told 98 = .ok (.iload_n 1, 1) := by decide +kernel
theorem dX11_told_99 : decode cX11_told 99 = .ok (.iaload, 1) := by decide +kernel
theorem dX11_told_100 : decode cX11_told 100 = .ok (.ireturn, 1) := by decide +kernel
theorem dX11_told_101 : decode cX11_told 101 = .ok (.aload_n 0, 1) := by decide +kernel
theorem dX11_told_102 : decode cX11_told 102 = .ok (.getfield 111, 3) := by decide +kernel
theorem dX11_told_105 : decode cX11_told 105 = .ok (.iload_n 1, 1) := by decide +kernel
theorem dX11_told_106 : decode cX11_told 106 = .ok (.iaload, 1) := by decide +kernel
theorem dX11_told_107 : decode cX11_told 107 = .ok (.ireturn, 1) := by decide +kernel
theorem dX11_told_108 : decode cX11_told 108 = .ok (.aload_n 0, 1) := by decide +kernel
theorem dX11_told_109 : decode cX11_told 109 = .ok (.getfield 114, 3) := by decide +kernel
theorem dX11_told_112 : decode cX11_told 112 = .ok (.iload_n 1, 1) := by decide +kernel
theorem dX11_told_113 : decode cX11_told 113 = .ok (.iaload, 1) := by decide +kernel
theorem dX11_told_114 : decode cX11_told 114 = .ok (.ireturn, 1) := by decide +kernel
theorem dX11_told_115 : decode cX11_told 115 = .ok (.aload_n 0, 1) := by decide +kernel
theorem dX11_told_116 : decode cX11_told 116 = .ok (.getfield 117, 3) := by decide +kernel
theorem dX11_told_119 : decode cX11_told 119 = .ok (.iload_n 1, 1) := by decide +kernel
theorem dX11_told_120 : decode cX11_told 120 = .ok (.iaload, 1) := by decide +kernel
theorem dX11_told_121 : decode cX11_told 121 = .ok (.ireturn, 1) := by decide +kernel
theorem dX11_told_122 : decode cX11_told 122 = .ok (.aload_n 0, 1) := by decide +kernel
theorem dX11_told_123 : decode cX11_told 123 = .ok (.getfield 120, 3) := by decide +kernel
theorem dX11_told_126 : decode cX11_told 126 = .ok (.iload_n 1, 1) := by decide +kernel
theorem dX11_told_127 : decode cX11_told 127 = .ok (.iaload, 1) := by decide +kernel
theorem dX11_told_128 : decode cX11_told 128 = .ok (.ireturn, 1) := by decide +kernel
theorem dX11_told_129 : decode cX11_told 129 = .ok (.aload_n 0, 1) := by decide +kernel
theorem dX11_told_130 : decode cX11_told 130 = .ok (.getfield 129, 3) := by decide +kernel
theorem dX11_told_133 : decode cX11_told 133 = .ok (.iload_n 1, 1) := by decide +kernel
theorem dX11_told_134 : decode cX11_told 134 = .ok (.iaload, 1) := by decide +kernel
theorem dX11_told_135 : decode cX11_told 135 = .ok (.ireturn, 1) := by decide +kernel
theorem dX11_told_136 : decode cX11_told 136 = .ok (.aload_n 0, 1) := by decide +kernel
theorem dX11_told_137 : decode cX11_told 137 = .ok (.getfield 144, 3) := by decide +kernel
theorem dX11_told_140 : decode cX11_told 140 = .ok (.iload_n 1, 1) := by decide +kernel
theorem dX11_told_141 : decode cX11_told 141 = .ok (.iaload, 1) := by decide +kernel
theorem dX11_told_142 : decode cX11_told 142 = .ok (.ireturn, 1) := by decide +kernel
theorem dX11_told_143 : decode cX11_told 143 = .ok (.aload_n 0, 1) := by decide +kernel
theorem dX11_told_144 : decode cX11_told 144 = .ok (.getfield 135, 3) := by decide +kernel
theorem dX11_told_147 : decode cX11_told 147 = .ok (.iload_n 1, 1) := by decide +kernel
theorem dX11_told_148 : decode cX11_told 148 = .ok (.iaload, 1) := by decide +kernel
theorem dX11_told_149 : decode cX11_told 149 = .ok (.ireturn, 1) := by decide +kernel
theorem dX11_told_150 : decode cX11_told 150 = .ok (.aload_n 0, 1) := by decide +kernel
theorem dX11_told_151 : decode cX11_told 151 = .ok (.getfield 141, 3) := by decide +kernel
theorem dX11_told_154 : decode cX11_told 154 = .ok (.iload_n 1, 1) := by decide +kernel
theorem dX11_told_155 : decode cX11_told 155 = .ok (.iaload, 1) := by decide +kernel
theorem dX11_told_156 : decode cX11_told 156 = .ok (.ireturn, 1) := by decide +kernel
theorem dX11_told_157 : decode cX11_told 157 = .ok (.aload_n 0, 1) := by decide +kernel
theorem dX11_told_158 : decode cX11_told 158 = .ok (.iload_n 1, 1) := by decide +kernel
theorem dX11_told_159 : decode cX11_told 159 = .ok (.invokevirtual 404, 3) := by decide +kernel
theorem dX11_told_162 : decode cX11_told 162 = .ok (.ireturn, 1) := by decide +kernel
theorem dX11_told_163 : decode cX11_told 163 = .ok (.aload_n 0, 1) := by decide +kernel
theorem dX11_told_164 : decode cX11_told 164 = .ok (.getfield 120, 3) := by decide +kernel
theorem dX11_told_167 : decode cX11_told 167 = .ok (.iload_n 1, 1) := by decide +kernel
theorem dX11_told_168 : decode cX11_told 168 = .ok (.iaload, 1) := by decide +kernel
theorem dX11_told_169 : decode cX11_told 169 = .ok (.iconst 1, 1) := by decide +kernel
theorem dX11_told_170 : decode cX11_told 170 = .ok (.if_icmp .eq 13, 3) := by decide +kernel
theorem dX11_told_173 : decode cX11_told 173 = .ok (.aload_n 0, 1) := by decide +kernel
theorem dX11_told_174 : decode cX11_told 174 = .ok (.getfield 120, 3) := by decide +kernel
theorem dX11_told_177 : decode cX11_told 177 = .ok (.iload_n 1, 1) := by decide +kernel
theorem dX11_told_178 : decode cX11_told 178 = .ok (.iaload, 1) := by decide +kernel
theorem dX11_told_179 : decode cX11_told 179 = .ok (.iconst 2, 1) := by decide +kernel
theorem dX11_told_180 : decode cX11_told 180 = .ok (.if_icmp .ne 12, 3) := by decide +kernel
theorem dX11_told_183 : decode cX11_told 183 = .ok (.aload_n 0, 1) := by decide +kernel
theorem dX11_told_184 : decode cX11_told 184 = .ok (.getfield 132, 3) := by decide +kernel
theorem dX11_told_187 : decode cX11_told 187 = .ok (.iload_n 1, 1) := by decide +kernel
theorem dX11_told_188 : decode cX11_told 188 = .ok (.iaload, 1) := by decide +kernel
theorem dX11_told_189 : decode cX11_told 189 = .ok (.goto 4, 3) := by decide +kernel
theorem dX11_told_192 : decode cX11_told 192 = .ok (.iconst (-1), 1) := by decide +kernel
theorem dX11_told_193 : decode cX11_told 193 = .ok (.ireturn, 1) := by decide +kernel
theorem dX11_told_194 : decode cX11_told 194 = .ok (.bipush (-2), 2) := by decide +kernel
theorem dX11_told_196 : decode cX11_told 196 = .ok (.ireturn, 1) := by decide +kernel
theorem dX11_gang_0 : decode cX11_gang 0 = .ok (.aload_n 0, 1) := by decide +kernel
theorem dX11_gang_1 : decode cX11_gang 1 = .ok (.iload_n 1, 1) := by decide +kernel
theorem dX11_gang_2 : decode cX11_gang 2 = .ok (.invokevirtual 360, 3) := by decide +kernel
theorem dX11_gang_5 : decode cX11_gang 5 = .ok (.ifCond .eq 33, 3) := by decide +kernel
theorem dX11_gang_8 : decode cX11_gang 8 = .ok (.iload_n 2, 1) := by decide +kernel
theorem dX11_gang_9 : decode cX11_gang 9 = .ok (.iconst 0, 1) := by decide +kernel
theorem dX11_gang_10 : decode cX11_gang 10 = .ok (.aload_n 0, 1) := by decide +kernel
theorem dX11_gang_11 : decode cX11_gang 11 = .ok (.getfield 144, 3) := by decide +kernel
theorem dX11_gang_14 : decode cX11_gang 14 = .ok (.iload_n 1, 1) := by decide +kernel
theorem dX11_gang_15 : decode cX11_gang 15 = .ok (.iaload, 1) := by decide +kernel
theorem dX11_gang_16 : decode cX11_gang 16 = .ok (.iconst 1, 1) := by decide +kernel
theorem dX11_gang_17 : decode cX11_gang 17 = .ok (.isub, 1) := by decide +kernel
theorem dX11_gang_18 : decode cX11_gang 18 = .ok (.invokestatic 184, 3) := by decide +kernel
theorem dX11_gang_21 : decode cX11_gang 21 = .ok (.ifCond .eq 17, 3) := by decide +kernel
theorem dX11_gang_24 : decode cX11_gang 24 = .ok (.aload_n 0, 1) := by decide +kernel
theorem dX11_gang_25 : decode cX11_gang 25 = .ok (.getfield 147, 3) := by decide +kernel
theorem dX11_gang_28 : decode cX11_gang 28 = .ok (.bipush 8, 2) := by decide +kernel
theorem dX11_gang_30 : decode cX11_gang 30 = .ok (.iload_n 1, 1) := by decide +kernel
theorem dX11_gang_31 : decode cX11_gang 31 = .ok (.imul, 1) := by decide +kernel
theorem dX11_gang_32 : decode cX11_gang 32 = .ok (.iload_n 2, 1) := by decide +kernel
theorem dX11_gang_33 : decode cX11_gang 33 = .ok (.iadd, 1) := by decide +kernel
theorem dX11_gang_34 : decode cX11_gang 34 = .ok (.iaload, 1) := by decide +kernel
theorem dX11_gang_35 : decode cX11_gang 35 = .ok (.goto 4, 3) := by decide +kernel
theorem dX11_gang_38 : decode cX11_gang 38 = .ok (.iconst (-1), 1) := by decide +kernel
theorem dX11_gang_39 : decode cX11_gang 39 = .ok (.ireturn, 1) := by decide +kernel
theorem dX11_pays_0 : decode cX11_pays 0 = .ok (.aload_n 0, 1) := by decide +kernel
theorem dX11_pays_1 : decode cX11_pays 1 = .ok (.getfield 129, 3) := by decide +kernel
theorem dX11_pays_4 : decode cX11_pays 4 = .ok (.iload_n 1, 1) := by decide +kernel
theorem dX11_pays_5 : decode cX11_pays 5 = .ok (.iaload, 1) := by decide +kernel
theorem dX11_pays_6 : decode cX11_pays 6 = .ok (.istore_n 2, 1) := by decide +kernel
theorem dX11_pays_7 : decode cX11_pays 7 = .ok (.aload_n 0, 1) := by decide +kernel
theorem dX11_pays_8 : decode cX11_pays 8 = .ok (.getfield 141, 3) := by decide +kernel
theorem dX11_pays_11 : decode cX11_pays 11 = .ok (.iload_n 1, 1) := by decide +kernel
theorem dX11_pays_12 : decode cX11_pays 12 = .ok (.aload_n 0, 1) := by decide +kernel
theorem dX11_pays_13 : decode cX11_pays 13 = .ok (.getfield 178, 3) := by decide +kernel
theorem dX11_pays_16 : decode cX11_pays 16 = .ok (.aload_n 0, 1) := by decide +kernel
theorem dX11_pays_17 : decode cX11_pays 17 = .ok (.getfield 117, 3) := by decide +kernel
theorem dX11_pays_20 : decode cX11_pays 20 = .ok (.iload_n 1, 1) := by decide +kernel
theorem dX11_pays_21 : decode cX11_pays 21 = .ok (.iaload, 1) := by decide +kernel
theorem dX11_pays_22 : decode cX11_pays 22 = .ok (.if_icmp .le 14, 3) := by decide +kernel
theorem dX11_pays_25 : decode cX11_pays 25 = .ok (.aload_n 0, 1) := by decide +kernel
theorem dX11_pays_26 : decode cX11_pays 26 = .ok (.getfield 135, 3) := by decide +kernel
theorem dX11_pays_29 : decode cX11_pays 29 = .ok (.iload_n 1, 1) := by decide +kernel
theorem dX11_pays_30 : decode cX11_pays 30 = .ok (.iaload, 1) := by decide +kernel
theorem dX11_pays_31 : decode cX11_pays 31 = .ok (.iconst 2, 1) := by decide +kernel
theorem dX11_pays_32 : decode cX11_pays 32 = .ok (.idiv, 1) := by decide +kernel
theorem dX11_pays_33 : decode cX11_pays 33 = .ok (.goto 9, 3) := by decide +kernel
theorem dX11_pays_36 : decode cX11_pays 36 = .ok (.aload_n 0, 1) := by decide +kernel
theorem dX11_pays_37 : decode cX11_pays 37 = .ok (.getfield 135, 3) := by decide +kernel
theorem dX11_pays_40 : decode cX11_pays 40 = .ok (.iload_n 1, 1) := by decide +kernel
theorem dX11_pays_41 : decode cX11_pays 41 = .ok (.iaload, 1) := by decide +kernel
theorem dX11_pays_42 : decode cX11_pays 42 = .ok (.iastore, 1) := by decide +kernel
theorem dX11_pays_43 : decode cX11_pays 43 = .ok (.aload_n 0, 1) := by decide +kernel
theorem dX11_pays_44 : decode cX11_pays 44 = .ok (.getfield 141, 3) := by decide +kernel
theorem dX11_pays_47 : decode cX11_pays 47 = .ok (.iload_n 1, 1) := by decide +kernel
theorem dX11_pays_48 : decode cX11_pays 48 = .ok (.iaload, 1) := by decide +kernel
theorem dX11_pays_49 : decode cX11_pays 49 = .ok (.aload_n 0, 1) := by decide +kernel
theorem dX11_pays_50 : decode cX11_pays 50 = .ok (.getfield 138, 3) := by decide +kernel
theorem dX11_pays_53 : decode cX11_pays 53 = .ok (.iload_n 1, 1) := by decide +kernel
theorem dX11_pays_54 : decode cX11_pays 54 = .ok (.iaload, 1) := by decide +kernel
theorem dX11_pays_55 : decode cX11_pays 55 = .ok (.imul, 1) := by decide +kernel
theorem dX11_pays_56 : decode cX11_pays 56 = .ok (.bipush 100, 2) := by decide +kernel
theorem dX11_pays_58 : decode cX11_pays 58 = .ok (.idiv, 1) := by decide +kernel
theorem dX11_pays_59 : decode cX11_pays 59 = .ok (.istore_n 3, 1) := by decide +kernel
theorem dX11_pays_60 : decode cX11_pays 60 = .ok (.aload_n 0, 1) := by decide +kernel
theorem dX11_pays_61 : decode cX11_pays 61 = .ok (.iload_n 2, 1) := by decide +kernel
theorem dX11_pays_62 : decode cX11_pays 62 = .ok (.iload_n 3, 1) := by decide +kernel
theorem dX11_pays_63 : decode cX11_pays 63 = .ok (.invokevirtual 401, 3) := by decide +kernel
theorem dX11_pays_66 : decode cX11_pays 66 = .ok (.aload_n 0, 1) := by decide +kernel
theorem dX11_pays_67 : decode cX11_pays 67 = .ok (.getfield 141, 3) := by decide +kernel
theorem dX11_pays_70 : decode cX11_pays 70 = .ok (.iload_n 1, 1) := by decide +kernel
theorem dX11_pays_71 : decode cX11_pays 71 = .ok (.iaload, 1) := by decide +kernel
theorem dX11_pays_72 : decode cX11_pays 72 = .ok (.iload_n 3, 1) := by decide +kernel
theorem dX11_pays_73 : decode cX11_pays 73 = .ok (.isub, 1) := by decide +kernel
theorem dX11_pays_74 : decode cX11_pays 74 = .ok (.istore 4, 2) := by decide +kernel
theorem dX11_pays_76 : decode cX11_pays 76 = .ok (.iload 4, 2) := by decide +kernel
theorem dX11_pays_78 : decode cX11_pays 78 = .ok (.aload_n 0, 1) := by decide +kernel
theorem dX11_pays_79 : decode cX11_pays 79 = .ok (.getfield 144, 3) := by decide +kernel
theorem dX11_pays_82 : decode cX11_pays 82 = .ok (.iload_n 1, 1) := by decide +kernel
theorem dX11_pays_83 : decode cX11_pays 83 = .ok (.iaload, 1) := by decide +kernel
theorem dX11_pays_84 : decode cX11_pays 84 = .ok (.idiv, 1) := by decide +kernel
theorem dX11_pays_85 : decode cX11_pays 85 = .ok (.istore 5, 2) := by decide +kernel
theorem dX11_pays_87 : decode cX11_pays 87 = .ok (.iconst 0, 1) := by decide +kernel
theorem dX11_pays_88 : decode cX11_pays 88 = .ok (.istore 6, 2) := by decide +kernel
theorem dX11_pays_90 : decode cX11_pays 90 = .ok (.iload 6, 2) := by decide +kernel
theorem dX11_pays_92 : decode cX11_pays 92 = .ok (.aload_n 0, 1) := by decide +kernel
theorem dX11_pays_93 : decode cX11_pays 93 = .ok (.getfield 144, 3) := by decide +kernel
theorem dX11_pays_96 : decode cX11_pays 96 = .ok (.iload_n 1, 1) := by decide +kernel
theorem dX11_pays_97 : decode cX11_pays 97 = .ok (.iaload, 1) := by decide +kernel
theorem dX11_pays_98 : decode cX11_pays 98 = .ok (.if_icmp .ge 31, 3) := by decide +kernel
theorem dX11_pays_101 : decode cX11_pays 101 = .ok (.aload_n 0, 1) := by decide +kernel
theorem dX11_pays_102 : decode cX11_pays 102 = .ok (.getfield 37, 3) := by decide +kernel
theorem dX11_pays_105 : decode cX11_pays 105 = .ok (.aload_n 0, 1) := by decide +kernel
theorem dX11_pays_106 : decode cX11_pays 106 = .ok (.getfield 147, 3) := by decide +kernel
theorem dX11_pays_109 : decode cX11_pays 109 = .ok (.bipush 8, 2) := by decide +kernel
theorem dX11_pays_111 : decode cX11_pays 111 = .ok (.iload_n 1, 1) := by decide +kernel
theorem dX11_pays_112 : decode cX11_pays 112 = .ok (.imul, 1) := by decide +kernel
theorem dX11_pays_113 : decode cX11_pays 113 = .ok (.iload 6, 2) := by decide +kernel
theorem dX11_pays_115 : decode cX11_pays 115 = .ok (.iadd, 1) := by decide +kernel
theorem dX11_pays_116 : decode cX11_pays 116 = .ok (.iaload, 1) := by decide +kernel
theorem dX11_pays_117 : decode cX11_pays 117 = .ok (.dup2, 1) := by decide +kernel
theorem dX11_pays_118 : decode cX11_pays 118 = .ok (.iaload, 1) := by decide +kernel
theorem dX11_pays_119 : decode cX11_pays 119 = .ok (.iload 5, 2) := by decide +kernel
theorem dX11_pays_121 : decode cX11_pays 121 = .ok (.iadd, 1) := by decide +kernel
theorem dX11_pays_122 : decode cX11_pays 122 = .ok (.iastore, 1) := by decide +kernel
theorem dX11_pays_123 : decode cX11_pays 123 = .ok (.iinc 6 1, 3) := by decide +kernel
theorem dX11_pays_126 : decode cX11_pays 126 = .ok (.goto (-36), 3) := by decide +kernel
theorem dX11_pays_129 : decode cX11_pays 129 = .ok (.aload_n 0, 1) := by decide +kernel
theorem dX11_pays_130 : decode cX11_pays 130 = .ok (.getfield 37, 3) := by decide +kernel
theorem dX11_pays_133 : decode cX11_pays 133 = .ok (.aload_n 0, 1) := by decide +kernel
theorem dX11_pays_134 : decode cX11_pays 134 = .ok (.getfield 147, 3) := by decide +kernel
theorem dX11_pays_137 : decode cX11_pays 137 = .ok (.bipush 8, 2) := by decide +kernel
theorem dX11_pays_139 : decode cX11_pays 139 = .ok (.iload_n 1, 1) := by decide +kernel
theorem dX11_pays_140 : decode cX11_pays 140 = .ok (.imul, 1) := by decide +kernel
theorem dX11_pays_141 : decode cX11_pays 141 = .ok (.iaload, 1) := by decide +kernel
theorem dX11_pays_142 : decode cX11_pays 142 = .ok (.dup2, 1) := by decide +kernel
theorem dX11_pays_143 : decode cX11_pays 143 = .ok (.iaload, 1) := by decide +kernel
theorem dX11_pays_144 : decode cX11_pays 144 = .ok (.iload 4, 2) := by decide +kernel
theorem dX11_pays_146 : decode cX11_pays 146 = .ok (.iload 5, 2) := by decide +kernel
theorem dX11_pays_148 : decode cX11_pays 148 = .ok (.aload_n 0, 1) := by decide +kernel
theorem dX11_pays_149 : decode cX11_pays 149 = .ok (.getfield 144, 3) := by decide +kernel
theorem dX11_pays_152 : decode cX11_pays 152 = .ok (.iload_n 1, 1) := by decide +kernel
theorem dX11_pays_153 : decode cX11_pays 153 = .ok (.iaload, 1) := by decide +kernel
theorem dX11_pays_154 : decode cX11_pays 154 = .ok (.imul, 1) := by decide +kernel
theorem dX11_pays_155 : decode cX11_pays 155 = .ok (.isub, 1) := by decide +kernel
theorem dX11_pays_156 : decode cX11_pays 156 = .ok (.iadd, 1) := by decide +kernel
theorem dX11_pays_157 : decode cX11_pays 157 = .ok (.iastore, 1) := by decide +kernel
theorem dX11_pays_158 : decode cX11_pays 158 = .ok (.return_, 1) := by decide +kernel
theorem dX11_arrive_0 : decode cX11_arrive 0 = .ok (.iconst 0, 1) := by decide +kernel
theorem dX11_arrive_1 : decode cX11_arrive 1 = .ok (.istore_n 1, 1) := by decide +kernel
theorem dX11_arrive_2 : decode cX11_arrive 2 = .ok (.iload_n 1, 1) := by decide +kernel
theorem dX11_arrive_3 : decode cX11_arrive 3 = .ok (.aload_n 0, 1) := by decide +kernel
theorem dX11_arrive_4 : decode cX11_arrive 4 = .ok (.getfield 367, 3) := by decide +kernel
theorem dX11_arrive_7 : decode cX11_arrive 7 = .ok (.if_icmp .ge 112, 3) := by decide +kernel
theorem dX11_arrive_10 : decode cX11_arrive 10 = .ok (.aload_n 0, 1) := by decide +kernel
theorem dX11_arrive_11 : decode cX11_arrive 11 = .ok (.getfield 132, 3) := by decide +kernel
theorem dX11_arrive_14 : decode cX11_arrive 14 = .ok (.iload_n 1, 1) := by decide +kernel
theorem dX11_arrive_15 : decode cX11_arrive 15 = .ok (.iaload, 1) := by decide +kernel
theorem dX11_arrive_16 : decode cX11_arrive 16 = .ok (.aload_n 0, 1) := by decide +kernel
theorem dX11_arrive_17 : decode cX11_arrive 17 = .ok (.getfield 178, 3) := by decide +kernel
theorem dX11_arrive_20 : decode cX11_arrive 20 = .ok (.if_icmp .ne 93, 3) := by decide +kernel
theorem dX11_arrive_23 : decode cX11_arrive 23 = .ok (.aload_n 0, 1) := by decide +kernel
theorem dX11_arrive_24 : decode cX11_arrive 24 = .ok (.getfield 120, 3) := by decide +kernel
theorem dX11_arrive_27 : decode cX11_arrive 27 = .ok (.iload_n 1, 1) := by decide +kernel
theorem dX11_arrive_28 : decode cX11_arrive 28 = .ok (.iaload, 1) := by decide +kernel
theorem dX11_arrive_29 : decode cX11_arrive 29 = .ok (.iconst 1, 1) := by decide +kernel
theorem dX11_arrive_30 : decode cX11_arrive 30 = .ok (.if_icmp .eq 16, 3) := by decide +kernel
theorem dX11_arrive_33 : decode cX11_arrive 33 = .ok (.aload_n 0, 1) := by decide +kernel
theorem dX11_arrive_34 : decode cX11_arrive 34 = .ok (.getfield 120, 3) := by decide +kernel
theorem dX11_arrive_37 : decode cX11_arrive 37 = .ok (.iload_n 1, 1) := by decide +kernel
theorem dX11_arrive_38 : decode cX11_arrive 38 = .ok (.iaload, 1) := by decide +kernel
theorem dX11_arrive_39 : decode cX11_arrive 39 = .ok (.iconst 3, 1) := by decide +kernel
theorem dX11_arrive_40 : decode cX11_arrive 40 = .ok (.if_icmp .eq 6, 3) := by decide +kernel
theorem dX11_arrive_43 : decode cX11_arrive 43 = .ok (.goto 70, 3) := by decide +kernel
theorem dX11_arrive_46 : decode cX11_arrive 46 = .ok (.iconst 0, 1) := by decide +kernel
theorem dX11_arrive_47 : decode cX11_arrive 47 = .ok (.istore_n 2, 1) := by decide +kernel
theorem dX11_arrive_48 : decode cX11_arrive 48 = .ok (.iload_n 2, 1) := by decide +kernel
theorem dX11_arrive_49 : decode cX11_arrive 49 = .ok (.aload_n 0, 1) := by decide +kernel
theorem dX11_arrive_50 : decode cX11_arrive 50 = .ok (.getfield 144, 3) := by decide +kernel
theorem dX11_arrive_53 : decode cX11_arrive 53 = .ok (.iload_n 1, 1) := by decide +kernel
theorem dX11_arrive_54 : decode cX11_arrive 54 = .ok (.iaload, 1) := by decide +kernel
theorem dX11_arrive_55 : decode cX11_arrive 55 = .ok (.if_icmp .ge 33, 3) := by decide +kernel
theorem dX11_arrive_58 : decode cX11_arrive 58 = .ok (.aload_n 0, 1) := by decide +kernel
theorem dX11_arrive_59 : decode cX11_arrive 59 = .ok (.getfield 147, 3) := by decide +kernel
theorem dX11_arrive_62 : decode cX11_arrive 62 = .ok (.bipush 8, 2) := by decide +kernel
theorem dX11_arrive_64 : decode cX11_arrive 64 = .ok (.iload_n 1, 1) := by decide +kernel
theorem dX11_arrive_65 : decode cX11_arrive 65 = .ok (.imul, 1) := by decide +kernel
theorem dX11_arrive_66 : decode cX11_arrive 66 = .ok (.iload_n 2, 1) := by decide +kernel
theorem dX11_arrive_67 : decode cX11_arrive 67 = .ok (.iadd, 1) := by decide +kernel
theorem dX11_arrive_68 : decode cX11_arrive 68 = .ok (.iaload, 1) := by decide +kernel
theorem dX11_arrive_69 : decode cX11_arrive 69 = .ok (.istore_n 3, 1) := by decide +kernel
theorem dX11_arrive_70 : decode cX11_arrive 70 = .ok (.aload_n 0, 1) := by decide +kernel
theorem dX11_arrive_71 : decode cX11_arrive 71 = .ok (.getfield 49, 3) := by decide +kernel
theorem dX11_arrive_74 : decode cX11_arrive 74 = .ok (.iload_n 3, 1) := by decide +kernel
theorem dX11_arrive_75 : decode cX11_arrive 75 = .ok (.iconst (-1), 1) := by decide +kernel
theorem dX11_arrive_76 : decode cX11_arrive 76 = .ok (.iastore, 1) := by decide +kernel
theorem dX11_arrive_77 : decode cX11_arrive 77 = .ok (.aload_n 0, 1) := by decide +kernel
theorem dX11_arrive_78 : decode cX11_arrive 78 = .ok (.iload_n 3, 1) := by decide +kernel
theorem dX11_arrive_79 : decode cX11_arrive 79 = .ok (.invokevirtual 223, 3) := by decide +kernel
theorem dX11_arrive_82 : decode cX11_arrive 82 = .ok (.iinc 2 1, 3) := by decide +kernel
theorem dX11_arrive_85 : decode cX11_arrive 85 = .ok (.goto (-37), 3) := by decide +kernel
theorem dX11_arrive_88 : decode cX11_arrive 88 = .ok (.aload_n 0, 1) := by decide +kernel
theorem dX11_arrive_89 : decode cX11_arrive 89 = .ok (.getfield 120, 3) := by decide +kernel
theorem dX11_arrive_92 : decode cX11_arrive 92 = .ok (.iload_n 1, 1) := by decide +kernel
theorem dX11_arrive_93 : decode cX11_arrive 93 = .ok (.iaload, 1) := by decide +kernel
theorem dX11_arrive_94 : decode cX11_arrive 94 = .ok (.iconst 3, 1) := by decide +kernel
theorem dX11_arrive_95 : decode cX11_arrive 95 = .ok (.if_icmp .ne 6, 3) := by decide +kernel
theorem dX11_arrive_98 : decode cX11_arrive 98 = .ok (.goto 15, 3) := by decide +kernel
theorem dX11_arrive_101 : decode cX11_arrive 101 = .ok (.aload_n 0, 1) := by decide +kernel
theorem dX11_arrive_102 : decode cX11_arrive 102 = .ok (.getfield 120, 3) := by decide +kernel
theorem dX11_arrive_105 : decode cX11_arrive 105 = .ok (.iload_n 1, 1) := by decide +kernel
theorem dX11_arrive_106 : decode cX11_arrive 106 = .ok (.iconst 2, 1) := by decide +kernel
theorem dX11_arrive_107 : decode cX11_arrive 107 = .ok (.iastore, 1) := by decide +kernel
theorem dX11_arrive_108 : decode cX11_arrive 108 = .ok (.aload_n 0, 1) := by decide +kernel
theorem dX11_arrive_109 : decode cX11_arrive 109 = .ok (.iload_n 1, 1) := by decide +kernel
theorem dX11_arrive_110 : decode cX11_arrive 110 = .ok (.invokevirtual 407, 3) := by decide +kernel
theorem dX11_arrive_113 : decode cX11_arrive 113 = .ok (.iinc 1 1, 3) := by decide +kernel
theorem dX11_arrive_116 : decode cX11_arrive 116 = .ok (.goto (-114), 3) := by decide +kernel
theorem dX11_arrive_119 : decode cX11_arrive 119 = .ok (.return_, 1) := by decide +kernel
theorem dX11_minutes_0 : decode cX11_minutes 0 = .ok (.iload_n 1, 1) := by decide +kernel
theorem dX11_minutes_1 : decode cX11_minutes 1 = .ok (.iconst 1, 1) := by decide +kernel
theorem dX11_minutes_2 : decode cX11_minutes 2 = .ok (.sipush 600, 3) := by decide +kernel
theorem dX11_minutes_5 : decode cX11_minutes 5 = .ok (.invokestatic 184, 3) := by decide +kernel
theorem dX11_minutes_8 : decode cX11_minutes 8 = .ok (.ifCond .eq 14, 3) := by decide +kernel
theorem dX11_minutes_11 : decode cX11_minutes 11 = .ok (.aload_n 0, 1) := by decide +kernel
theorem dX11_minutes_12 : decode cX11_minutes 12 = .ok (.getfield 178, 3) := by decide +kernel
theorem dX11_minutes_15 : decode cX11_minutes 15 = .ok (.iload_n 1, 1) := by decide +kernel
theorem dX11_minutes_16 : decode cX11_minutes 16 = .ok (.iadd, 1) := by decide +kernel
theorem dX11_minutes_17 : decode cX11_minutes 17 = .ok (.ldc 195, 2) := by decide +kernel
theorem dX11_minutes_19 : decode cX11_minutes 19 = .ok (.if_icmp .le 5, 3) := by decide +kernel
theorem dX11_minutes_22 : decode cX11_minutes 22 = .ok (.iconst (-1), 1) := by decide +kernel
theorem dX11_minutes_23 : decode cX11_minutes 23 = .ok (.ireturn, 1) := by decide +kernel
theorem dX11_minutes_24 : decode cX11_minutes 24 = .ok (.iconst 0, 1) := by decide +kernel
theorem dX11_minutes_25 : decode cX11_minutes 25 = .ok (.istore_n 2, 1) := by decide +kernel
theorem dX11_minutes_26 : decode cX11_minutes 26 = .ok (.iload_n 2, 1) := by decide +kernel
theorem dX11_minutes_27 : decode cX11_minutes 27 = .ok (.iload_n 1, 1) := by decide +kernel
theorem dX11_minutes_28 : decode cX11_minutes 28 = .ok (.if_icmp .ge 75, 3) := by decide +kernel
theorem dX11_minutes_31 : decode cX11_minutes 31 = .ok (.aload_n 0, 1) := by decide +kernel
theorem dX11_minutes_32 : decode cX11_minutes 32 = .ok (.dup, 1) := by decide +kernel
theorem dX11_minutes_33 : decode cX11_minutes 33 = .ok (.getfield 178, 3) := by decide +kernel
theorem dX11_minutes_36 : decode cX11_minutes 36 = .ok (.iconst 1, 1) := by decide +kernel
theorem dX11_minutes_37 : decode cX11_minutes 37 = .ok (.iadd, 1) := by decide +kernel
theorem dX11_minutes_38 : decode cX11_minutes 38 = .ok (.putfield 178, 3) := by decide +kernel
theorem dX11_minutes_41 : decode cX11_minutes 41 = .ok (.aload_n 0, 1) := by decide +kernel
theorem dX11_minutes_42 : decode cX11_minutes 42 = .ok (.getfield 178, 3) := by decide +kernel
theorem dX11_minutes_45 : decode cX11_minutes 45 = .ok (.sipush 600, 3) := by decide +kernel
theorem dX11_minutes_48 : decode cX11_minutes 48 = .ok (.irem, 1) := by decide +kernel
theorem dX11_minutes_49 : decode cX11_minutes 49 = .ok (.ifCond .ne 44, 3) := by decide +kernel
theorem dX11_minutes_52 : decode cX11_minutes 52 = .ok (.iconst 0, 1) := by decide +kernel
theorem dX11_minutes_53 : decode cX11_minutes 53 = .ok (.istore_n 3, 1) := by decide +kernel
theorem dX11_minutes_54 : decode cX11_minutes 54 = .ok (.iload_n 3, 1) := by decide +kernel
theorem dX11_minutes_55 : decode cX11_minutes 55 = .ok (.aload_n 0, 1) := by decide +kernel
theorem dX11_minutes_56 : decode cX11_minutes 56 = .ok (.getfield 210, 3) := by decide +kernel
theorem dX11_minutes_59 : decode cX11_minutes 59 = .ok (.if_icmp .ge 16, 3) := by decide +kernel
theorem dX11_minutes_62 : decode cX11_minutes 62 = .ok (.aload_n 0, 1) := by decide +kernel
theorem dX11_minutes_63 : decode cX11_minutes 63 = .ok (.getfield 40, 3) := by decide +kernel
theorem dX11_minutes_66 : decode cX11_minutes 66 = .ok (.iload_n 3, 1) := by decide +kernel
theorem dX11_minutes_67 : decode cX11_minutes 67 = .ok (.iconst 0, 1) := by decide +kernel
theorem dX11_minutes_68 : decode cX11_minutes 68 = .ok (.iastore, 1) := by decide +kernel
theorem dX11_minutes_69 : decode cX11_minutes 69 = .ok (.iinc 3 1, 3) := by decide +kernel
theorem dX11_minutes_72 : decode cX11_minutes 72 = .ok (.goto (-18), 3) := by decide +kernel
theorem dX11_minutes_75 : decode cX11_minutes 75 = .ok (.iconst 0, 1) := by decide +kernel
theorem dX11_minutes_76 : decode cX11_minutes 76 = .ok (.istore_n 3, 1) := by decide +kernel
theorem dX11_minutes_77 : decode cX11_minutes 77 = .ok (.iload_n 3, 1) := by decide +kernel
theorem dX11_minutes_78 : decode cX11_minutes 78 = .ok (.iconst 4, 1) := by decide +kernel
theorem dX11_minutes_79 : decode cX11_minutes 79 = .ok (.if_icmp .ge 14, 3) := by decide +kernel
theorem dX11_minutes_82 : decode cX11_minutes 82 = .ok (.aload_n 0, 1) := by decide +kernel
theorem dX11_minutes_83 : decode cX11_minutes 83 = .ok (.iload_n 3, 1) := by decide +kernel
theorem dX11_minutes_84 : decode cX11_minutes 84 = .ok (.invokevirtual 410, 3) := by decide +kernel
theorem dX11_minutes_87 : decode cX11_minutes 87 = .ok (.iinc 3 1, 3) := by decide +kernel
theorem dX11_minutes_90 : decode cX11_minutes 90 = .ok (.goto (-13), 3) := by decide +kernel
theorem dX11_minutes_93 : decode cX11_minutes 93 = .ok (.aload_n 0, 1) := by decide +kernel
theorem dX11_minutes_94 : decode cX11_minutes 94 = .ok (.invokevirtual 413, 3) := by decide +kernel
theorem dX11_minutes_97 : decode cX11_minutes 97 = .ok (.iinc 2 1, 3) := by decide +kernel
theorem dX11_minutes_100 : decode cX11_minutes 100 = .ok (.goto (-74), 3) := by decide +kernel
theorem dX11_minutes_103 : decode cX11_minutes 103 = .ok (.aload_n 0, 1) := by decide +kernel
theorem dX11_minutes_104 : decode cX11_minutes 104 = .ok (.getfield 178, 3) := by decide +kernel
theorem dX11_minutes_107 : decode cX11_minutes 107 = .ok (.ireturn, 1) := by decide +kernel
theorem dX11_claimThen_0 : decode cX11_claimThen 0 = .ok (.aload_n 0, 1) := by decide +kernel
theorem dX11_claimThen_1 : decode cX11_claimThen 1 = .ok (.getfield 123, 3) := by decide +kernel
theorem dX11_claimThen_4 : decode cX11_claimThen 4 = .ok (.iload_n 2, 1) := by decide +kernel
theorem dX11_claimThen_5 : decode cX11_claimThen 5 = .ok (.iaload, 1) := by decide +kernel
theorem dX11_claimThen_6 : decode cX11_claimThen 6 = .ok (.sipush 600, 3) := by decide +kernel
theorem dX11_claimThen_9 : decode cX11_claimThen 9 = .ok (.idiv, 1) := by decide +kernel
theorem dX11_claimThen_10 : decode cX11_claimThen 10 = .ok (.istore 4, 2) := by decide +kernel
theorem dX11_claimThen_12 : decode cX11_claimThen 12 = .ok (.aload_n 0, 1) := by decide +kernel
theorem dX11_claimThen_13 : decode cX11_claimThen 13 = .ok (.iload_n 1, 1) := by decide +kernel
theorem dX11_claimThen_14 : decode cX11_claimThen 14 = .ok (.iconst 0, 1) := by decide +kernel
theorem dX11_claimThen_15 : decode cX11_claimThen 15 = .ok (.iload 4, 2) := by decide +kernel
theorem dX11_claimThen_17 : decode cX11_claimThen 17 = .ok (.iload_n 3, 1) := by decide +kernel
theorem dX11_claimThen_18 : decode cX11_claimThen 18 = .ok (.invokevirtual 343, 3) := by decide +kernel
theorem dX11_claimThen_21 : decode cX11_claimThen 21 = .ok (.istore 5, 2) := by decide +kernel
theorem dX11_claimThen_23 : decode cX11_claimThen 23 = .ok (.iload 5, 2) := by decide +kernel
theorem dX11_claimThen_25 : decode cX11_claimThen 25 = .ok (.ifCond .ge 5, 3) := by decide +kernel
theorem dX11_claimThen_28 : decode cX11_claimThen 28 = .ok (.iconst 0, 1) := by decide +kernel
theorem dX11_claimThen_29 : decode cX11_claimThen 29 = .ok (.ireturn, 1) := by decide +kernel
theorem dX11_claimThen_30 : decode cX11_claimThen 30 = .ok (.aload_n 0, 1) := by decide +kernel
theorem dX11_claimThen_31 : decode cX11_claimThen 31 = .ok (.iload_n 2, 1) := by decide +kernel
theorem dX11_claimThen_32 : decode cX11_claimThen 32 = .ok (.invokevirtual 351, 3) := by decide +kernel
theorem dX11_claimThen_35 : decode cX11_claimThen 35 = .ok (.aload_n 0, 1) := by decide +kernel
theorem dX11_claimThen_36 : decode cX11_claimThen 36 = .ok (.getfield 96, 3) := by decide +kernel
theorem dX11_claimThen_39 : decode cX11_claimThen 39 = .ok (.iconst 5, 1) := by decide +kernel
theorem dX11_claimThen_40 : decode cX11_claimThen 40 = .ok (.aload_n 0, 1) := by decide +kernel
theorem dX11_claimThen_41 : decode cX11_claimThen 41 = .ok (.getfield 123, 3) := by decide +kernel
theorem dX11_claimThen_44 : decode cX11_claimThen 44 = .ok (.iload_n 2, 1) := by decide +kernel
theorem dX11_claimThen_45 : decode cX11_claimThen 45 = .ok (.iaload, 1) := by decide +kernel
theorem dX11_claimThen_46 : decode cX11_claimThen 46 = .ok (.sipush 600, 3) := by decide +kernel
theorem dX11_claimThen_49 : decode cX11_claimThen 49 = .ok (.irem, 1) := by decide +kernel
theorem dX11_claimThen_50 : decode cX11_claimThen 50 = .ok (.bipush 60, 2) := by decide +kernel
theorem dX11_claimThen_52 : decode cX11_claimThen 52 = .ok (.idiv, 1) := by decide +kernel
theorem dX11_claimThen_53 : decode cX11_claimThen 53 = .ok (.iastore, 1) := by decide +kernel
theorem dX11_claimThen_54 : decode cX11_claimThen 54 = .ok (.aload_n 0, 1) := by decide +kernel
theorem dX11_claimThen_55 : decode cX11_claimThen 55 = .ok (.getfield 96, 3) := by decide +kernel
theorem dX11_claimThen_58 : decode cX11_claimThen 58 = .ok (.bipush 6, 2) := by decide +kernel
theorem dX11_claimThen_60 : decode cX11_claimThen 60 = .ok (.aload_n 0, 1) := by decide +kernel
theorem dX11_claimThen_61 : decode cX11_claimThen 61 = .ok (.aload_n 0, 1) := by decide +kernel
theorem dX11_claimThen_62 : decode cX11_claimThen 62 = .ok (.getfield 123, 3) := by decide +kernel
theorem dX11_claimThen_65 : decode cX11_claimThen 65 = .ok (.iload_n 2, 1) := by decide +kernel
theorem dX11_claimThen_66 : decode cX11_claimThen 66 = .ok (.iaload, 1) := by decide +kernel
theorem dX11_claimThen_67 : decode cX11_claimThen 67 = .ok (.invokevirtual 204, 3) := by decide +kernel
theorem dX11_claimThen_70 : decode cX11_claimThen 70 = .ok (.ifCond .eq 7, 3) := by decide +kernel
theorem dX11_claimThen_73 : decode cX11_claimThen 73 = .ok (.iconst 1, 1) := by decide +kernel
theorem dX11_claimThen_74 : decode cX11_claimThen 74 = .ok (.goto 4, 3) := by decide +kernel
theorem dX11_claimThen_77 : decode cX11_claimThen 77 = .ok (.iconst 0, 1) := by decide +kernel
theorem dX11_claimThen_78 : decode cX11_claimThen 78 = .ok (.iastore, 1) := by decide +kernel
theorem dX11_claimThen_79 : decode cX11_claimThen 79 = .ok (.aload_n 0, 1) := by decide +kernel
theorem dX11_claimThen_80 : decode cX11_claimThen 80 = .ok (.getfield 96, 3) := by decide +kernel
theorem dX11_claimThen_83 : decode cX11_claimThen 83 = .ok (.bipush 7, 2) := by decide +kernel
theorem dX11_claimThen_85 : decode cX11_claimThen 85 = .ok (.iconst 0, 1) := by decide +kernel
theorem dX11_claimThen_86 : decode cX11_claimThen 86 = .ok (.iastore, 1) := by decide +kernel
theorem dX11_claimThen_87 : decode cX11_claimThen 87 = .ok (.aload_n 0, 1) := by decide +kernel
theorem dX11_claimThen_88 : decode cX11_claimThen 88 = .ok (.getfield 96, 3) := by decide +kernel
theorem dX11_claimThen_91 : decode cX11_claimThen 91 = .ok (.bipush 8, 2) := by decide +kernel
theorem dX11_claimThen_93 : decode cX11_claimThen 93 = .ok (.iconst 0, 1) := by decide +kernel
theorem dX11_claimThen_94 : decode cX11_claimThen 94 = .ok (.iastore, 1) := by decide +kernel
theorem dX11_claimThen_95 : decode cX11_claimThen 95 = .ok (.aload_n 0, 1) := by decide +kernel
theorem dX11_claimThen_96 : decode cX11_claimThen 96 = .ok (.getfield 96, 3) := by decide +kernel
theorem dX11_claimThen_99 : decode cX11_claimThen 99 = .ok (.bipush 9, 2) := by decide +kernel
theorem dX11_claimThen_101 : decode cX11_claimThen 101 = .ok (.iload 4, 2) := by decide +kernel
theorem dX11_claimThen_103 : decode cX11_claimThen 103 = .ok (.iastore, 1) := by decide +kernel
theorem dX11_claimThen_104 : decode cX11_claimThen 104 = .ok (.bipush 10, 2) := by decide +kernel
theorem dX11_claimThen_106 : decode cX11_claimThen 106 = .ok (.istore 6, 2) := by decide +kernel
theorem dX11_claimThen_108 : decode cX11_claimThen 108 = .ok (.iload 6, 2) := by decide +kernel
theorem dX11_claimThen_110 : decode cX11_claimThen 110 = .ok (.bipush 13, 2) := by decide +kernel
theorem dX11_claimThen_112 : decode cX11_claimThen 112 = .ok (.if_icmp .ge 17, 3) := by decide +kernel
theorem dX11_claimThen_115 : decode cX11_claimThen 115 = .ok (.aload_n 0, 1) := by decide +kernel
theorem dX11_claimThen_116 : decode cX11_claimThen 116 = .ok (.getfield 96, 3) := by decide +kernel
theorem dX11_claimThen_119 : decode cX11_claimThen 119 = .ok (.iload 6, 2) := by decide +kernel
theorem dX11_claimThen_121 : decode cX11_claimThen 121 = .ok (.iconst 0, 1) := by decide +kernel
theorem dX11_claimThen_122 : decode cX11_claimThen 122 = .ok (.iastore, 1) := by decide +kernel
theorem dX11_claimThen_123 : decode cX11_claimThen 123 = .ok (.iinc 6 1, 3) := by decide +kernel
theorem dX11_claimThen_126 : decode cX11_claimThen 126 = .ok (.goto (-18), 3) := by decide +kernel
theorem dX11_claimThen_129 : decode cX11_claimThen 129 = .ok (.aload_n 0, 1) := by decide +kernel
theorem dX11_claimThen_130 : decode cX11_claimThen 130 = .ok (.iload 5, 2) := by decide +kernel
theorem dX11_claimThen_132 : decode cX11_claimThen 132 = .ok (.invokevirtual 357, 3) := by decide +kernel
theorem dX11_claimThen_135 : decode cX11_claimThen 135 = .ok (.ireturn, 1) := by decide +kernel
theorem dX11_judged_0 : decode cX11_judged 0 = .ok (.aload_n 0, 1) := by decide +kernel
theorem dX11_judged_1 : decode cX11_judged 1 = .ok (.iload_n 1, 1) := by decide +kernel
theorem dX11_judged_2 : decode cX11_judged 2 = .ok (.invokevirtual 360, 3) := by decide +kernel
theorem dX11_judged_5 : decode cX11_judged 5 = .ok (.ifCond .eq 30, 3) := by decide +kernel
theorem dX11_judged_8 : decode cX11_judged 8 = .ok (.iload_n 2, 1) := by decide +kernel
theorem dX11_judged_9 : decode cX11_judged 9 = .ok (.invokestatic 213, 3) := by decide +kernel
theorem dX11_judged_12 : decode cX11_judged 12 = .ok (.ifCond .eq 23, 3) := by decide +kernel
theorem dX11_judged_15 : decode cX11_judged 15 = .ok (.iload_n 3, 1) := by decide +kernel
theorem dX11_judged_16 : decode cX11_judged 16 = .ok (.invokestatic 213, 3) := by decide +kernel
theorem dX11_judged_19 : decode cX11_judged 19 = .ok (.ifCond .eq 16, 3) := by decide +kernel
theorem dX11_judged_22 : decode cX11_judged 22 = .ok (.iload_n 2, 1) := by decide +kernel
theorem dX11_judged_23 : decode cX11_judged 23 = .ok (.iload_n 3, 1) := by decide +kernel
theorem dX11_judged_24 : decode cX11_judged 24 = .ok (.if_icmp .eq 11, 3) := by decide +kernel
theorem dX11_judged_27 : decode cX11_judged 27 = .ok (.iload 4, 2) := by decide +kernel
theorem dX11_judged_29 : decode cX11_judged 29 = .ok (.invokestatic 331, 3) := by decide +kernel
theorem dX11_judged_32 : decode cX11_judged 32 = .ok (.ifCond .ne 5, 3) := by decide +kernel
theorem dX11_judged_35 : decode cX11_judged 35 = .ok (.iconst (-1), 1) := by decide +kernel
theorem dX11_judged_36 : decode cX11_judged 36 = .ok (.ireturn, 1) := by decide +kernel
theorem dX11_judged_37 : decode cX11_judged 37 = .ok (.aload_n 0, 1) := by decide +kernel
theorem dX11_judged_38 : decode cX11_judged 38 = .ok (.iload_n 2, 1) := by decide +kernel
theorem dX11_judged_39 : decode cX11_judged 39 = .ok (.iload_n 1, 1) := by decide +kernel
theorem dX11_judged_40 : decode cX11_judged 40 = .ok (.iload 4, 2) := by decide +kernel
theorem dX11_judged_42 : decode cX11_judged 42 = .ok (.invokevirtual 416, 3) := by decide +kernel
theorem dX11_judged_45 : decode cX11_judged 45 = .ok (.istore 5, 2) := by decide +kernel
theorem dX11_judged_47 : decode cX11_judged 47 = .ok (.aload_n 0, 1) := by decide +kernel
theorem dX11_judged_48 : decode cX11_judged 48 = .ok (.iload_n 3, 1) := by decide +kernel
theorem dX11_judged_49 : decode cX11_judged 49 = .ok (.iload_n 1, 1) := by decide +kernel
theorem dX11_judged_50 : decode cX11_judged 50 = .ok (.iload 4, 2) := by decide +kernel
theorem dX11_judged_52 : decode cX11_judged 52 = .ok (.invokevirtual 416, 3) := by decide +kernel
theorem dX11_judged_55 : decode cX11_judged 55 = .ok (.istore 6, 2) := by decide +kernel
theorem dX11_judged_57 : decode cX11_judged 57 = .ok (.iload 5, 2) := by decide +kernel
theorem dX11_judged_59 : decode cX11_judged 59 = .ok (.ifCond .eq 8, 3) := by decide +kernel
theorem dX11_judged_62 : decode cX11_judged 62 = .ok (.iload 6, 2) := by decide +kernel
theorem dX11_judged_64 : decode cX11_judged 64 = .ok (.ifCond .ne 6, 3) := by decide +kernel
theorem dX11_judged_67 : decode cX11_judged 67 = .ok (.bipush (-2), 2) := by decide +kernel
theorem dX11_judged_69 : decode cX11_judged 69 = .ok (.ireturn, 1) := by decide +kernel
theorem dX11_judged_70 : decode cX11_judged 70 = .ok (.iload 5, 2) := by decide +kernel
theorem dX11_judged_72 : decode cX11_judged 72 = .ok (.iload 6, 2) := by decide +kernel
theorem dX11_judged_74 : decode cX11_judged 74 = .ok (.if_icmp .eq 16, 3) := by decide +kernel
theorem dX11_judged_77 : decode cX11_judged 77 = .ok (.iload 5, 2) := by decide +kernel
theorem dX11_judged_79 : decode cX11_judged 79 = .ok (.iload 6, 2) := by decide +kernel
theorem dX11_judged_81 : decode cX11_judged 81 = .ok (.if_icmp .le 7, 3) := by decide +kernel
theorem dX11_judged_84 : decode cX11_judged 84 = .ok (.iload_n 2, 1) := by decide +kernel
theorem dX11_judged_85 : decode cX11_judged 85 = .ok (.goto 4, 3) := by decide +kernel
theorem dX11_judged_88 : decode cX11_judged 88 = .ok (.iload_n 3, 1) := by decide +kernel
theorem dX11_judged_89 : decode cX11_judged 89 = .ok (.ireturn, 1) := by decide +kernel
theorem dX11_judged_90 : decode cX11_judged 90 = .ok (.aload_n 0, 1) := by decide +kernel
theorem dX11_judged_91 : decode cX11_judged 91 = .ok (.getfield 123, 3) := by decide +kernel
theorem dX11_judged_94 : decode cX11_judged 94 = .ok (.iload_n 1, 1) := by decide +kernel
theorem dX11_judged_95 : decode cX11_judged 95 = .ok (.iaload, 1) := by decide +kernel
theorem dX11_judged_96 : decode cX11_judged 96 = .ok (.sipush 600, 3) := by decide +kernel
theorem dX11_judged_99 : decode cX11_judged 99 = .ok (.idiv, 1) := by decide +kernel
theorem dX11_judged_100 : decode cX11_judged 100 = .ok (.istore 7, 2) := by decide +kernel
theorem dX11_judged_102 : decode cX11_judged 102 = .ok (.aload_n 0, 1) := by decide +kernel
theorem dX11_judged_103 : decode cX11_judged 103 = .ok (.iload_n 2, 1) := by decide +kernel
theorem dX11_judged_104 : decode cX11_judged 104 = .ok (.iconst 0, 1) := by decide +kernel
theorem dX11_judged_105 : decode cX11_judged 105 = .ok (.iload 7, 2) := by decide +kernel
theorem dX11_judged_107 : decode cX11_judged 107 = .ok (.iload 4, 2) := by decide +kernel
theorem dX11_judged_109 : decode cX11_judged 109 = .ok (.invokevirtual 343, 3) := by decide +kernel
theorem dX11_judged_112 : decode cX11_judged 112 = .ok (.aload_n 0, 1) := by decide +kernel
theorem dX11_judged_113 : decode cX11_judged 113 = .ok (.iload_n 3, 1) := by decide +kernel
theorem dX11_judged_114 : decode cX11_judged 114 = .ok (.iconst 0, 1) := by decide +kernel
theorem dX11_judged_115 : decode cX11_judged 115 = .ok (.iload 7, 2) := by decide +kernel
theorem dX11_judged_117 : decode cX11_judged 117 = .ok (.iload 4, 2) := by decide +kernel
theorem dX11_judged_119 : decode cX11_judged 119 = .ok (.invokevirtual 343, 3) := by decide +kernel
theorem dX11_judged_122 : decode cX11_judged 122 = .ok (.if_icmp .ge 7, 3) := by decide +kernel
theorem dX11_judged_125 : decode cX11_judged 125 = .ok (.iload_n 2, 1) := by decide +kernel
theorem dX11_judged_126 : decode cX11_judged 126 = .ok (.goto 4, 3) := by decide +kernel
theorem dX11_judged_129 : decode cX11_judged 129 = .ok (.iload_n 3, 1) := by decide +kernel
theorem dX11_judged_130 : decode cX11_judged 130 = .ok (.ireturn, 1) := by decide +kernel
theorem dX11_comesToFund_0 : decode cX11_comesToFund 0 = .ok (.aload_n 0, 1) := by decide +kernel
theorem dX11_comesToFund_1 : decode cX11_comesToFund 1 = .ok (.getfield 156, 3) := by decide +kernel
theorem dX11_comesToFund_4 : decode cX11_comesToFund 4 = .ok (.iload_n 1, 1) := by decide +kernel
theorem dX11_comesToFund_5 : decode cX11_comesToFund 5 = .ok (.dup2, 1) := by decide +kernel
theorem dX11_comesToFund_6 : decode cX11_comesToFund 6 = .ok (.iaload, 1) := by decide +kernel
theorem dX11_comesToFund_7 : decode cX11_comesToFund 7 = .ok (.iload_n 2, 1) := by decide +kernel
theorem dX11_comesToFund_8 : decode cX11_comesToFund 8 = .ok (.iadd, 1) := by decide +kernel
theorem dX11_comesToFund_9 : decode cX11_comesToFund 9 = .ok (.iastore, 1) := by decide +kernel
theorem dX11_comesToFund_10 : decode cX11_comesToFund 10 = .ok (.aload_n 0, 1) := by decide +kernel
theorem dX11_comesToFund_11 : decode cX11_comesToFund 11 = .ok (.getfield 159, 3) := by decide +kernel
theorem dX11_comesToFund_14 : decode cX11_comesToFund 14 = .ok (.iload_n 1, 1) := by decide +kernel
theorem dX11_comesToFund_15 : decode cX11_comesToFund 15 = .ok (.dup2, 1) := by decide +kernel
theorem dX11_comesToFund_16 : decode cX11_comesToFund 16 = .ok (.iaload, 1) := by decide +kernel
theorem dX11_comesToFund_17 : decode cX11_comesToFund 17 = .ok (.iload_n 2, 1) := by decide +kernel
theorem dX11_comesToFund_18 : decode cX11_comesToFund 18 = .ok (.iadd, 1) := by decide +kernel
theorem dX11_comesToFund_19 : decode cX11_comesToFund 19 = .ok (.iastore, 1) := by decide +kernel
theorem dX11_comesToFund_20 : decode cX11_comesToFund 20 = .ok (.aload_n 0, 1) := by decide +kernel
theorem dX11_comesToFund_21 : decode cX11_comesToFund 21 = .ok (.getfield 171, 3) := by decide +kernel
theorem dX11_comesToFund_24 : decode cX11_comesToFund 24 = .ok (.sipush 167, 3) := by decide +kernel
theorem dX11_comesToFund_27 : decode cX11_comesToFund 27 = .ok (.iload_n 1, 1) := by decide +kernel
theorem dX11_comesToFund_28 : decode cX11_comesToFund 28 = .ok (.imul, 1) := by decide +kernel
theorem dX11_comesToFund_29 : decode cX11_comesToFund 29 = .ok (.aload_n 0, 1) := by decide +kernel
theorem dX11_comesToFund_30 : decode cX11_comesToFund 30 = .ok (.invokevirtual 340, 3) := by decide +kernel
theorem dX11_comesToFund_33 : decode cX11_comesToFund 33 = .ok (.iadd, 1) := by decide +kernel
theorem dX11_comesToFund_34 : decode cX11_comesToFund 34 = .ok (.dup2, 1) := by decide +kernel
theorem dX11_comesToFund_35 : decode cX11_comesToFund 35 = .ok (.iaload, 1) := by decide +kernel
theorem dX11_comesToFund_36 : decode cX11_comesToFund 36 = .ok (.iload_n 2, 1) := by decide +kernel
theorem dX11_comesToFund_37 : decode cX11_comesToFund 37 = .ok (.iadd, 1) := by decide +kernel
theorem dX11_comesToFund_38 : decode cX11_comesToFund 38 = .ok (.iastore, 1) := by decide +kernel
theorem dX11_comesToFund_39 : decode cX11_comesToFund 39 = .ok (.return_, 1) := by decide +kernel
theorem dX11_rates_0 : decode cX11_rates 0 = .ok (.iload_n 1, 1) := by decide +kernel
theorem dX11_rates_1 : decode cX11_rates 1 = .ok (.invokestatic 213, 3) := by decide +kernel
theorem dX11_rates_4 : decode cX11_rates 4 = .ok (.ifCond .eq 23, 3) := by decide +kernel
theorem dX11_rates_7 : decode cX11_rates 7 = .ok (.iload_n 2, 1) := by decide +kernel
theorem dX11_rates_8 : decode cX11_rates 8 = .ok (.iconst 0, 1) := by decide +kernel
theorem dX11_rates_9 : decode cX11_rates 9 = .ok (.bipush 99, 2) := by decide +kernel
theorem dX11_rates_11 : decode cX11_rates 11 = .ok (.invokestatic 184, 3) := by decide +kernel
theorem dX11_rates_14 : decode cX11_rates 14 = .ok (.ifCond .eq 13, 3) := by decide +kernel
theorem dX11_rates_17 : decode cX11_rates 17 = .ok (.iload_n 3, 1) := by decide +kernel
theorem dX11_rates_18 : decode cX11_rates 18 = .ok (.iconst 0, 1) := by decide +kernel
theorem dX11_rates_19 : decode cX11_rates 19 = .ok (.bipush 99, 2) := by decide +kernel
theorem dX11_rates_21 : decode cX11_rates 21 = .ok (.invokestatic 184, 3) := by decide +kernel
theorem dX11_rates_24 : decode cX11_rates 24 = .ok (.ifCond .ne 5, 3) := by decide +kernel
theorem dX11_rates_27 : decode cX11_rates 27 = .ok (.iconst (-1), 1) := by decide +kernel
theorem dX11_rates_28 : decode cX11_rates 28 = .ok (.ireturn, 1) := by decide +kernel
theorem dX11_rates_29 : decode cX11_rates 29 = .ok (.aload_n 0, 1) := by decide +kernel
theorem dX11_rates_30 : decode cX11_rates 30 = .ok (.getfield 165, 3) := by decide +kernel
theorem dX11_rates_33 : decode cX11_rates 33 = .ok (.iload_n 1, 1) := by decide +kernel
theorem dX11_rates_34 : decode cX11_rates 34 = .ok (.iload_n 2, 1) := by decide +kernel
theorem dX11_rates_35 : decode cX11_rates 35 = .ok (.iastore, 1) := by decide +kernel
theorem dX11_rates_36 : decode cX11_rates 36 = .ok (.aload_n 0, 1) := by decide +kernel
theorem dX11_rates_37 : decode cX11_rates 37 = .ok (.getfield 168, 3) := by decide +kernel
theorem dX11_rates_40 : decode cX11_rates 40 = .ok (.iload_n 1, 1) := by decide +kernel
theorem dX11_rates_41 : decode cX11_rates 41 = .ok (.iload_n 3, 1) := by decide +kernel
theorem dX11_rates_42 : decode cX11_rates 42 = .ok (.iastore, 1) := by decide +kernel
theorem dX11_rates_43 : decode cX11_rates 43 = .ok (.iconst 1, 1) := by decide +kernel
theorem dX11_rates_44 : decode cX11_rates 44 = .ok (.ireturn, 1) := by decide +kernel
theorem dX11_isHelped_0 : decode cX11_isHelped 0 = .ok (.aload_n 0, 1) := by decide +kernel
theorem dX11_isHelped_1 : decode cX11_isHelped 1 = .ok (.getfield 28, 3) := by decide +kernel
theorem dX11_isHelped_4 : decode cX11_isHelped 4 = .ok (.iload_n 1, 1) := by decide +kernel
theorem dX11_isHelped_5 : decode cX11_isHelped 5 = .ok (.iaload, 1) := by decide +kernel
theorem dX11_isHelped_6 : decode cX11_isHelped 6 = .ok (.iload_n 2, 1) := by decide +kernel
theorem dX11_isHelped_7 : decode cX11_isHelped 7 = .ok (.if_icmp .ne 26, 3) := by decide +kernel
theorem dX11_isHelped_10 : decode cX11_isHelped 10 = .ok (.aload_n 0, 1) := by decide +kernel
theorem dX11_isHelped_11 : decode cX11_isHelped 11 = .ok (.getfield 52, 3) := by decide +kernel
theorem dX11_isHelped_14 : decode cX11_isHelped 14 = .ok (.iload_n 1, 1) := by decide +kernel
theorem dX11_isHelped_15 : decode cX11_isHelped 15 = .ok (.baload, 1) := by decide +kernel
theorem dX11_isHelped_16 : decode cX11_isHelped 16 = .ok (.ifCond .ne 17, 3) := by decide +kernel
theorem dX11_isHelped_19 : decode cX11_isHelped 19 = .ok (.aload_n 0, 1) := by decide +kernel
theorem dX11_isHelped_20 : decode cX11_isHelped 20 = .ok (.getfield 46, 3) := by decide +kernel
theorem dX11_isHelped_23 : decode cX11_isHelped 23 = .ok (.iload_n 1, 1) := by decide +kernel
theorem dX11_isHelped_24 : decode cX11_isHelped 24 = .ok (.iaload, 1) := by decide +kernel
theorem dX11_isHelped_25 : decode cX11_isHelped 25 = .ok (.iload_n 3, 1) := by decide +kernel
theorem dX11_isHelped_26 : decode cX11_isHelped 26 = .ok (.if_icmp .le 7, 3) := by decide +kernel
theorem dX11_isHelped_29 : decode cX11_isHelped 29 = .ok (.iconst 1, 1) := by decide +kernel
theorem dX11_isHelped_30 : decode cX11_isHelped 30 = .ok (.goto 4, 3) := by decide +kernel
theorem dX11_isHelped_33 : decode cX11_isHelped 33 = .ok (.iconst 0, 1) := by decide +kernel
theorem dX11_isHelped_34 : decode cX11_isHelped 34 = .ok (.ireturn, 1) := by decide +kernel
theorem dX11_isOld_0 : decode cX11_isOld 0 = .ok (.aload_n 0, 1) := by decide +kernel
theorem dX11_isOld_1 : decode cX11_isOld 1 = .ok (.getfield 28, 3) := by decide +kernel
theorem dX11_isOld_4 : decode cX11_isOld 4 = .ok (.iload_n 1, 1) := by decide +kernel
theorem dX11_isOld_5 : decode cX11_isOld 5 = .ok (.iaload, 1) := by decide +kernel
theorem dX11_isOld_6 : decode cX11_isOld 6 = .ok (.iload_n 2, 1) := by decide +kernel
theorem dX11_isOld_7 : decode cX11_isOld 7 = .ok (.if_icmp .ne 27, 3) := by decide +kernel
theorem dX11_isOld_10 : decode cX11_isOld 10 = .ok (.aload_n 0, 1) := by decide +kernel
theorem dX11_isOld_11 : decode cX11_isOld 11 = .ok (.getfield 52, 3) := by decide +kernel
theorem dX11_isOld_14 : decode cX11_isOld 14 = .ok (.iload_n 1, 1) := by decide +kernel
theorem dX11_isOld_15 : decode cX11_isOld 15 = .ok (.baload, 1) := by decide +kernel
theorem dX11_isOld_16 : decode cX11_isOld 16 = .ok (.ifCond .ne 18, 3) := by decide +kernel
theorem dX11_isOld_19 : decode cX11_isOld 19 = .ok (.aload_n 0, 1) := by decide +kernel
theorem dX11_isOld_20 : decode cX11_isOld 20 = .ok (.getfield 34, 3) := by decide +kernel
theorem dX11_isOld_23 : decode cX11_isOld 23 = .ok (.iload_n 1, 1) := by decide +kernel
theorem dX11_isOld_24 : decode cX11_isOld 24 = .ok (.iaload, 1) := by decide +kernel
theorem dX11_isOld_25 : decode cX11_isOld 25 = .ok (.bipush 70, 2) := by decide +kernel
theorem dX11_isOld_27 : decode cX11_isOld 27 = .ok (.if_icmp .lt 7, 3) := by decide +kernel
theorem dX11_isOld_30 : decode cX11_isOld 30 = .ok (.iconst 1, 1) := by decide +kernel
theorem dX11_isOld_31 : decode cX11_isOld 31 = .ok (.goto 4, 3) := by decide +kernel
theorem dX11_isOld_34 : decode cX11_isOld 34 = .ok (.iconst 0, 1) := by decide +kernel
theorem dX11_isOld_35 : decode cX11_isOld 35 = .ok (.ireturn, 1) := by decide +kernel
theorem dX11_give_0 : decode cX11_give 0 = .ok (.aload_n 0, 1) := by decide +kernel
theorem dX11_give_1 : decode cX11_give 1 = .ok (.getfield 156, 3) := by decide +kernel
theorem dX11_give_4 : decode cX11_give 4 = .ok (.iload_n 1, 1) := by decide +kernel
theorem dX11_give_5 : decode cX11_give 5 = .ok (.iaload, 1) := by decide +kernel
theorem dX11_give_6 : decode cX11_give 6 = .ok (.iload_n 3, 1) := by decide +kernel
theorem dX11_give_7 : decode cX11_give 7 = .ok (.if_icmp .ge 4, 3) := by decide +kernel
theorem dX11_give_10 : decode cX11_give 10 = .ok (.return_, 1) := by decide +kernel
theorem dX11_give_11 : decode cX11_give 11 = .ok (.aload_n 0, 1) := by decide +kernel
theorem dX11_give_12 : decode cX11_give 12 = .ok (.getfield 156, 3) := by decide +kernel
theorem dX11_give_15 : decode cX11_give 15 = .ok (.iload_n 1, 1) := by decide +kernel
theorem dX11_give_16 : decode cX11_give 16 = .ok (.dup2, 1) := by decide +kernel
theorem dX11_give_17 : decode cX11_give 17 = .ok (.iaload, 1) := by decide +kernel
theorem dX11_give_18 : decode cX11_give 18 = .ok (.iload_n 3, 1) := by decide +kernel
theorem dX11_give_19 : decode cX11_give 19 = .ok (.isub, 1) := by decide +kernel
theorem dX11_give_20 : decode cX11_give 20 = .ok (.iastore, 1) := by decide +kernel
theorem dX11_give_21 : decode cX11_give 21 = .ok (.aload_n 0, 1) := by decide +kernel
theorem dX11_give_22 : decode cX11_give 22 = .ok (.getfield 162, 3) := by decide +kernel
theorem dX11_give_25 : decode cX11_give 25 = .ok (.iload_n 1, 1) := by decide +kernel
theorem dX11_give_26 : decode cX11_give 26 = .ok (.dup2, 1) := by decide +kernel
theorem dX11_give_27 : decode cX11_give 27 = .ok (.iaload, 1) := by decide +kernel
theorem dX11_give_28 : decode cX11_give 28 = .ok (.iload_n 3, 1) := by decide +kernel
theorem dX11_give_29 : decode cX11_give 29 = .ok (.iadd, 1) := by decide +kernel
theorem dX11_give_30 : decode cX11_give 30 = .ok (.iastore, 1) := by decide +kernel
theorem dX11_give_31 : decode cX11_give 31 = .ok (.aload_n 0, 1) := by decide +kernel
theorem dX11_give_32 : decode cX11_give 32 = .ok (.getfield 37, 3) := by decide +kernel
theorem dX11_give_35 : decode cX11_give 35 = .ok (.iload_n 2, 1) := by decide +kernel
theorem dX11_give_36 : decode cX11_give 36 = .ok (.dup2, 1) := by decide +kernel
theorem dX11_give_37 : decode cX11_give 37 = .ok (.iaload, 1) := by decide +kernel
theorem dX11_give_38 : decode cX11_give 38 = .ok (.iload_n 3, 1) := by decide +kernel
theorem dX11_give_39 : decode cX11_give 39 = .ok (.iadd, 1) := by decide +kernel
theorem dX11_give_40 : decode cX11_give 40 = .ok (.iastore, 1) := by decide +kernel
theorem dX11_give_41 : decode cX11_give 41 = .ok (.return_, 1) := by decide +kernel
theorem dX11_payFund_0 : decode cX11_payFund 0 = .ok (.iconst 0, 1) := by decide +kernel
theorem dX11_payFund_1 : decode cX11_payFund 1 = .ok (.istore_n 2, 1) := by decide +kernel
theorem dX11_payFund_2 : decode cX11_payFund 2 = .ok (.iload_n 2, 1) := by decide +kernel
theorem dX11_payFund_3 : decode cX11_payFund 3 = .ok (.aload_n 0, 1) := by decide +kernel
theorem dX11_payFund_4 : decode cX11_payFund 4 = .ok (.getfield 210, 3) := by decide +kernel
theorem dX11_payFund_7 : decode cX11_payFund 7 = .ok (.if_icmp .ge 34, 3) := by decide +kernel
theorem dX11_payFund_10 : decode cX11_payFund 10 = .ok (.aload_n 0, 1) := by decide +kernel
theorem dX11_payFund_11 : decode cX11_payFund 11 = .ok (.iload_n 2, 1) := by decide +kernel
theorem dX11_payFund_12 : decode cX11_payFund 12 = .ok (.iload_n 1, 1) := by decide +kernel
theorem dX11_payFund_13 : decode cX11_payFund 13 = .ok (.aload_n 0, 1) := by decide +kernel
theorem dX11_payFund_14 : decode cX11_payFund 14 = .ok (.getfield 178, 3) := by decide +kernel
theorem dX11_payFund_17 : decode cX11_payFund 17 = .ok (.invokevirtual 419, 3) := by decide +kernel
theorem dX11_payFund_20 : decode cX11_payFund 20 = .ok (.ifCond .eq 15, 3) := by decide +kernel
theorem dX11_payFund_23 : decode cX11_payFund 23 = .ok (.aload_n 0, 1) := by decide +kernel
theorem dX11_payFund_24 : decode cX11_payFund 24 = .ok (.iload_n 1, 1) := by decide +kernel
theorem dX11_payFund_25 : decode cX11_payFund 25 = .ok (.iload_n 2, 1) := by decide +kernel
theorem dX11_payFund_26 : decode cX11_payFund 26 = .ok (.aload_n 0, 1) := by decide +kernel
theorem dX11_payFund_27 : decode cX11_payFund 27 = .ok (.getfield 165, 3) := by decide +kernel
theorem dX11_payFund_30 : decode cX11_payFund 30 = .ok (.iload_n 1, 1) := by decide +kernel
theorem dX11_payFund_31 : decode cX11_payFund 31 = .ok (.iaload, 1) := by decide +kernel
theorem dX11_payFund_32 : decode cX11_payFund 32 = .ok (.invokevirtual 422, 3) := by decide +kernel
theorem dX11_payFund_35 : decode cX11_payFund 35 = .ok (.iinc 2 1, 3) := by decide +kernel
theorem dX11_payFund_38 : decode cX11_payFund 38 = .ok (.goto (-36), 3) := by decide +kernel
theorem dX11_payFund_41 : decode cX11_payFund 41 = .ok (.iconst 0, 1) := by decide +kernel
theorem dX11_payFund_42 : decode cX11_payFund 42 = .ok (.istore_n 2, 1) := by decide +kernel
theorem dX11_payFund_43 : decode cX11_payFund 43 = .ok (.iload_n 2, 1) := by decide +kernel
theorem dX11_payFund_44 : decode cX11_payFund 44 = .ok (.aload_n 0, 1) := by decide +kernel
theorem dX11_payFund_45 : decode cX11_payFund 45 = .ok (.getfield 210, 3) := by decide +kernel
theorem dX11_payFund_48 : decode cX11_payFund 48 = .ok (.if_icmp .ge 30, 3) := by decide +kernel
theorem dX11_payFund_51 : decode cX11_payFund 51 = .ok (.aload_n 0, 1) := by decide +kernel
theorem dX11_payFund_52 : decode cX11_payFund 52 = .ok (.iload_n 2, 1) := by decide +kernel
theorem dX11_payFund_53 : decode cX11_payFund 53 = .ok (.iload_n 1, 1) := by decide +kernel
theorem dX11_payFund_54 : decode cX11_payFund 54 = .ok (.invokevirtual 425, 3) := by decide +kernel
theorem dX11_payFund_57 : decode cX11_payFund 57 = .ok (.ifCond .eq 15, 3) := by decide +kernel
theorem dX11_payFund_60 : decode cX11_payFund 60 = .ok (.aload_n 0, 1) := by decide +kernel
theorem dX11_payFund_61 : decode cX11_payFund 61 = .ok (.iload_n 1, 1) := by decide +kernel
theorem dX11_payFund_62 : decode cX11_payFund 62 = .ok (.iload_n 2, 1) := by decide +kernel
theorem dX11_payFund_63 : decode cX11_payFund 63 = .ok (.aload_n 0, 1) := by decide +kernel
theorem dX11_payFund_64 : decode cX11_payFund 64 = .ok (.getfield 168, 3) := by decide +kernel
theorem dX11_payFund_67 : decode cX11_payFund 67 = .ok (.iload_n 1, 1) := by decide +kernel
theorem dX11_payFund_68 : decode cX11_payFund 68 = .ok (.iaload, 1) := by decide +kernel
theorem dX11_payFund_69 : decode cX11_payFund 69 = .ok (.invokevirtual 422, 3) := by decide +kernel
theorem dX11_payFund_72 : decode cX11_payFund 72 = .ok (.iinc 2 1, 3) := by decide +kernel
theorem dX11_payFund_75 : decode cX11_payFund 75 = .ok (.goto (-32), 3) := by decide +kernel
theorem dX11_payFund_78 : decode cX11_payFund 78 = .ok (.return_, 1) := by decide +kernel
theorem dX11_foretold_0 : decode cX11_foretold 0 = .ok (.iload_n 1, 1) := by decide +kernel
theorem dX11_foretold_1 : decode cX11_foretold 1 = .ok (.invokestatic 213, 3) := by decide +kernel
theorem dX11_foretold_4 : decode cX11_foretold 4 = .ok (.ifCond .ne 5, 3) := by decide +kernel
theorem dX11_foretold_7 : decode cX11_foretold 7 = .ok (.iconst (-1), 1) := by decide +kernel
theorem dX11_foretold_8 : decode cX11_foretold 8 = .ok (.ireturn, 1) := by decide +kernel
theorem dX11_foretold_9 : decode cX11_foretold 9 = .ok (.lconst 0, 1) := by decide +kernel
theorem dX11_foretold_10 : decode cX11_foretold 10 = .ok (.lstore_n 2, 1) := by decide +kernel
theorem dX11_foretold_11 : decode cX11_foretold 11 = .ok (.iconst 0, 1) := by decide +kernel
theorem dX11_foretold_12 : decode cX11_foretold 12 = .ok (.istore 4, 2) := by decide +kernel
theorem dX11_foretold_14 : decode cX11_foretold 14 = .ok (.iload 4, 2) := by decide +kernel
theorem dX11_foretold_16 : decode cX11_foretold 16 = .ok (.aload_n 0, 1) := by decide +kernel
theorem dX11_foretold_17 : decode cX11_foretold 17 = .ok (.invokevirtual 340, 3) := by decide +kernel
theorem dX11_foretold_20 : decode cX11_foretold 20 = .ok (.if_icmp .ge 26, 3) := by decide +kernel
theorem dX11_foretold_23 : decode cX11_foretold 23 = .ok (.lload_n 2, 1) := by decide +kernel
theorem dX11_foretold_24 : decode cX11_foretold 24 = .ok (.aload_n 0, 1) := by decide +kernel
theorem dX11_foretold_25 : decode cX11_foretold 25 = .ok (.getfield 171, 3) := by decide +kernel
theorem dX11_foretold_28 : decode cX11_foretold 28 = .ok (.sipush 167, 3) := by decide +kernel
theorem dX11_foretold_31 : decode cX11_foretold 31 = .ok (.iload_n 1, 1) := by decide +kernel
theorem dX11_foretold_32 : decode cX11_foretold 32 = .ok (.imul, 1) := by decide +kernel
theorem dX11_foretold_33 : decode cX11_foretold 33 = .ok (.iload 4, 2) := by decide +kernel
theorem dX11_foretold_35 : decode cX11_foretold 35 = .ok (.iadd, 1) := by decide +kernel
theorem dX11_foretold_36 : decode cX11_foretold 36 = .ok (.iaload, 1) := by decide +kernel
theorem dX11_foretold_37 : decode cX11_foretold 37 = .ok (.i2l, 1) := by decide +kernel
theorem dX11_foretold_38 : decode cX11_foretold 38 = .ok (.ladd, 1) := by decide +kernel
theorem dX11_foretold_39 : decode cX11_foretold 39 = .ok (.lstore_n 2, 1) := by decide +kernel
theorem dX11_foretold_40 : decode cX11_foretold 40 = .ok (.iinc 4 1, 3) := by decide +kernel
theorem dX11_foretold_43 : decode cX11_foretold 43 = .ok (.goto (-29), 3) := by decide +kernel
theorem dX11_foretold_46 : decode cX11_foretold 46 = .ok (.aload_n 0, 1) := by decide +kernel
theorem dX11_foretold_47 : decode cX11_foretold 47 = .ok (.invokevirtual 340, 3) := by decide +kernel
theorem dX11_foretold_50 : decode cX11_foretold 50 = .ok (.ifCond .ne 7, 3) := by decide +kernel
theorem dX11_foretold_53 : decode cX11_foretold 53 = .ok (.lconst 0, 1) := by decide +kernel
theorem dX11_foretold_54 : decode cX11_foretold 54 = .ok (.goto 10, 3) := by decide +kernel
theorem dX11_foretold_57 : decode cX11_foretold 57 = .ok (.lload_n 2, 1) := by decide +kernel
theorem dX11_foretold_58 : decode cX11_foretold 58 = .ok (.aload_n 0, 1) := by decide +kernel
theorem dX11_foretold_59 : decode cX11_foretold 59 = .ok (.invokevirtual 340, 3) := by decide +kernel
theorem dX11_foretold_62 : decode cX11_foretold 62 = .ok (.i2l, 1) := by decide +kernel
theorem dX11_foretold_63 : decode cX11_foretold 63 = .ok (.ldiv, 1) := by decide +kernel
theorem dX11_foretold_64 : decode cX11_foretold 64 = .ok (.lstore 4, 2) := by decide +kernel
theorem dX11_foretold_66 : decode cX11_foretold 66 = .ok (.aload_n 0, 1) := by decide +kernel
theorem dX11_foretold_67 : decode cX11_foretold 67 = .ok (.getfield 156, 3) := by decide +kernel
theorem dX11_foretold_70 : decode cX11_foretold 70 = .ok (.iload_n 1, 1) := by decide +kernel
theorem dX11_foretold_71 : decode cX11_foretold 71 = .ok (.iaload, 1) := by decide +kernel
theorem dX11_foretold_72 : decode cX11_foretold 72 = .ok (.i2l, 1) := by decide +kernel
theorem dX11_foretold_73 : decode cX11_foretold 73 = .ok (.lstore 6, 2) := by decide +kernel
theorem dX11_foretold_75 : decode cX11_foretold 75 = .ok (.iconst 1, 1) := by decide +kernel
theorem dX11_foretold_76 : decode cX11_foretold 76 = .ok (.istore 8, 2) := by decide +kernel
theorem dX11_foretold_78 : decode cX11_foretold 78 = .ok (.iload 8, 2) := by decide +kernel
theorem dX11_foretold_80 : decode cX11_foretold 80 = .ok (.sipush 400, 3) := by decide +kernel
theorem dX11_foretold_83 : decode cX11_foretold 83 = .ok (.if_icmp .gt 129, 3) := by decide +kernel
theorem dX11_foretold_86 : decode cX11_foretold 86 = .ok (.aload_n 0, 1) := by decide +kernel
theorem dX11_foretold_87 : decode cX11_foretold 87 = .ok (.invokevirtual 340, 3) := by decide +kernel
theorem dX11_foretold_90 : decode cX11_foretold 90 = .ok (.iload 8, 2) := by decide +kernel
theorem dX11_foretold_92 : decode cX11_foretold 92 = .ok (.iadd, 1) := by decide +kernel
theorem dX11_foretold_93 : decode cX11_foretold 93 = .ok (.istore 9, 2) := by decide +kernel
theorem dX11_foretold_95 : decode cX11_foretold 95 = .ok (.lload 6, 2) := by decide +kernel
theorem dX11_foretold_97 : decode cX11_foretold 97 = .ok (.lload 4, 2) := by decide +kernel
theorem dX11_foretold_99 : decode cX11_foretold 99 = .ok (.ladd, 1) := by decide +kernel
theorem dX11_foretold_100 : decode cX11_foretold 100 = .ok (.lstore 6, 2) := by decide +kernel
theorem dX11_foretold_102 : decode cX11_foretold 102 = .ok (.iconst 0, 1) := by decide +kernel
theorem dX11_foretold_103 : decode cX11_foretold 103 = .ok (.istore 10, 2) := by decide +kernel
theorem dX11_foretold_105 : decode cX11_foretold 105 = .ok (.iload 10, 2) := by decide +kernel
theorem dX11_foretold_107 : decode cX11_foretold 107 = .ok (.aload_n 0, 1) := by decide +kernel
theorem dX11_foretold_108 : decode cX11_foretold 108 = .ok (.getfield 210, 3) := by decide +kernel
theorem dX11_foretold_111 : decode cX11_foretold 111 = .ok (.if_icmp .ge 41, 3) := by decide +kernel
theorem dX11_foretold_114 : decode cX11_foretold 114 = .ok (.lload 6, 2) := by decide +kernel
theorem dX11_foretold_116 : decode cX11_foretold 116 = .ok (.aload_n 0, 1) := by decide +kernel
theorem dX11_foretold_117 : decode cX11_foretold 117 = .ok (.iload 10, 2) := by decide +kernel
theorem dX11_foretold_119 : decode cX11_foretold 119 = .ok (.iload_n 1, 1) := by decide +kernel
theorem dX11_foretold_120 : decode cX11_foretold 120 = .ok (.sipush 600, 3) := by decide +kernel
theorem dX11_foretold_123 : decode cX11_foretold 123 = .ok (.iload 9, 2) := by decide +kernel
theorem dX11_foretold_125 : decode cX11_foretold 125 = .ok (.imul, 1) := by decide +kernel
theorem dX11_foretold_126 : decode cX11_foretold 126 = .ok (.invokevirtual 419, 3) := by decide +kernel
theorem dX11_foretold_129 : decode cX11_foretold 129 = .ok (.ifCond .eq 13, 3) := by decide +kernel
theorem dX11_foretold_132 : decode cX11_foretold 132 = .ok (.aload_n 0, 1) := by decide +kernel
theorem dX11_foretold_133 : decode cX11_foretold 133 = .ok (.getfield 165, 3) := by decide +kernel
theorem dX11_foretold_136 : decode cX11_foretold 136 = .ok (.iload_n 1, 1) := by decide +kernel
theorem dX11_foretold_137 : decode cX11_foretold 137 = .ok (.iaload, 1) := by decide +kernel
theorem dX11_foretold_138 : decode cX11_foretold 138 = .ok (.i2l, 1) := by decide +kernel
theorem dX11_foretold_139 : decode cX11_foretold 139 = .ok (.goto 4, 3) := by decide +kernel
theorem dX11_foretold_142 : decode cX11_foretold 142 = .ok (.lconst 0, 1) := by decide +kernel
theorem dX11_foretold_143 : decode cX11_foretold 143 = .ok (.lsub, 1) := by decide +kernel
theorem dX11_foretold_144 : decode cX11_foretold 144 = .ok (.lstore 6, 2) := by decide +kernel
theorem dX11_foretold_146 : decode cX11_foretold 146 = .ok (.iinc 10 1, 3) := by decide +kernel
theorem dX11_foretold_149 : decode cX11_foretold 149 = .ok (.goto (-44), 3) := by decide +kernel
theorem dX11_foretold_152 : decode cX11_foretold 152 = .ok (.iconst 0, 1) := by decide +kernel
theorem dX11_foretold_153 : decode cX11_foretold 153 = .ok (.istore 10, 2) := by decide +kernel
theorem dX11_foretold_155 : decode cX11_foretold 155 = .ok (.iload 10, 2) := by decide +kernel
theorem dX11_foretold_157 : decode cX11_foretold 157 = .ok (.aload_n 0, 1) := by decide +kernel
theorem dX11_foretold_158 : decode cX11_foretold 158 = .ok (.getfield 210, 3) := by decide +kernel
theorem dX11_foretold_161 : decode cX11_foretold 161 = .ok (.if_icmp .ge 35, 3) := by decide +kernel
theorem dX11_foretold_164 : decode cX11_foretold 164 = .ok (.lload 6, 2) := by decide +kernel
theorem dX11_foretold_166 : decode cX11_foretold 166 = .ok (.aload_n 0, 1) := by decide +kernel
theorem dX11_foretold_167 : decode cX11_foretold 167 = .ok (.iload 10, 2) := by decide +kernel
theorem dX11_foretold_169 : decode cX11_foretold 169 = .ok (.iload_n 1, 1) := by decide +kernel
theorem dX11_foretold_170 : decode cX11_foretold 170 = .ok (.invokevirtual 425, 3) := by decide +kernel
theorem dX11_foretold_173 : decode cX11_foretold 173 = .ok (.ifCond .eq 13, 3) := by decide +kernel
theorem dX11_foretold_176 : decode cX11_foretold 176 = .ok (.aload_n 0, 1) := by decide +kernel
theorem dX11_foretold_177 : decode cX11_foretold 177 = .ok (.getfield 168, 3) := by decide +kernel
theorem dX11_foretold_180 : decode cX11_foretold 180 = .ok (.iload_n 1, 1) := by decide +kernel
theorem dX11_foretold_181 : decode cX11_foretold 181 = .ok (.iaload, 1) := by decide +kernel
theorem dX11_foretold_182 : decode cX11_foretold 182 = .ok (.i2l, 1) := by decide +kernel
theorem dX11_foretold_183 : decode cX11_foretold 183 = .ok (.goto 4, 3) := by decide +kernel
theorem dX11_foretold_186 : decode cX11_foretold 186 = .ok (.lconst 0, 1) := by decide +kernel
theorem dX11_foretold_187 : decode cX11_foretold 187 = .ok (.lsub, 1) := by decide +kernel
theorem dX11_foretold_188 : decode cX11_foretold 188 = .ok (.lstore 6, 2) := by decide +kernel
theorem dX11_foretold_190 : decode cX11_foretold 190 = .ok (.iinc 10 1, 3) := by decide +kernel
theorem dX11_foretold_193 : decode cX11_foretold 193 = .ok (.goto (-38), 3) := by decide +kernel
theorem dX11_foretold_196 : decode cX11_foretold 196 = .ok (.lload 6, 2) := by decide +kernel
theorem dX11_foretold_198 : decode cX11_foretold 198 = .ok (.lconst 0, 1) := by decide +kernel
theorem dX11_foretold_199 : decode cX11_foretold 199 = .ok (.lcmp, 1) := by decide +kernel
theorem dX11_foretold_200 : decode cX11_foretold 200 = .ok (.ifCond .ge 6, 3) := by decide +kernel
theorem dX11_foretold_203 : decode cX11_foretold 203 = .ok (.iload 9, 2) := by decide +kernel
theorem dX11_foretold_205 : decode cX11_foretold 205 = .ok (.ireturn, 1) := by decide +kernel
theorem dX11_foretold_206 : decode cX11_foretold 206 = .ok (.iinc 8 1, 3) := by decide +kernel
theorem dX11_foretold_209 : decode cX11_foretold 209 = .ok (.goto (-131), 3) := by decide +kernel
theorem dX11_foretold_212 : decode cX11_foretold 212 = .ok (.bipush (-2), 2) := by decide +kernel
theorem dX11_foretold_214 : decode cX11_foretold 214 = .ok (.ireturn, 1) := by decide +kernel
theorem dX11_fund_0 : decode cX11_fund 0 = .ok (.iload_n 1, 1) := by decide +kernel
theorem dX11_fund_1 : decode cX11_fund 1 = .ok (.invokestatic 213, 3) := by decide +kernel
theorem dX11_fund_4 : decode cX11_fund 4 = .ok (.ifCond .ne 5, 3) := by decide +kernel
theorem dX11_fund_7 : decode cX11_fund 7 = .ok (.iconst (-1), 1) := by decide +kernel
theorem dX11_fund_8 : decode cX11_fund 8 = .ok (.ireturn, 1) := by decide +kernel
theorem dX11_fund_9 : decode cX11_fund 9 = .ok (.iload_n 2, 1) := by decide +kernel
theorem dX11_fund_10 : decode cX11_fund 10 = .ok (.tableswitch 47 0 2 #[26, 33, 40], 26) := by decide +kernel
theorem dX11_fund_36 : decode cX11_fund 36 = .ok (.aload_n 0, 1) := by decide +kernel
theorem dX11_fund_37 : decode cX11_fund 37 = .ok (.getfield 156, 3) := by decide +kernel
theorem dX11_fund_40 : decode cX11_fund 40 = .ok (.iload_n 1, 1) := by decide +kernel
theorem dX11_fund_41 : decode cX11_fund 41 = .ok (.iaload, 1) := by decide +kernel
theorem dX11_fund_42 : decode cX11_fund 42 = .ok (.ireturn, 1) := by decide +kernel
theorem dX11_fund_43 : decode cX11_fund 43 = .ok (.aload_n 0, 1) := by decide +kernel
theorem dX11_fund_44 : decode cX11_fund 44 = .ok (.getfield 159, 3) := by decide +kernel
theorem dX11_fund_47 : decode cX11_fund 47 = .ok (.iload_n 1, 1) := by decide +kernel
theorem dX11_fund_48 : decode cX11_fund 48 = .ok (.iaload, 1) := by decide +kernel
theorem dX11_fund_49 : decode cX11_fund 49 = .ok (.ireturn, 1) := by decide +kernel
theorem dX11_fund_50 : decode cX11_fund 50 = .ok (.aload_n 0, 1) := by decide +kernel
theorem dX11_fund_51 : decode cX11_fund 51 = .ok (.getfield 162, 3) := by decide +kernel
theorem dX11_fund_54 : decode cX11_fund 54 = .ok (.iload_n 1, 1) := by decide +kernel
theorem dX11_fund_55 : decode cX11_fund 55 = .ok (.iaload, 1) := by decide +kernel
theorem dX11_fund_56 : decode cX11_fund 56 = .ok (.ireturn, 1) := by decide +kernel
theorem dX11_fund_57 : decode cX11_fund 57 = .ok (.iconst (-1), 1) := by decide +kernel
theorem dX11_fund_58 : decode cX11_fund 58 = .ok (.ireturn, 1) := by decide +kernel
theorem dX11_loadsAs_0 : decode cX11_loadsAs 0 = .ok (.iconst 0, 1) := by decide +kernel
theorem dX11_loadsAs_1 : decode cX11_loadsAs 1 = .ok (.istore_n 2, 1) := by decide +kernel
theorem dX11_loadsAs_2 : decode cX11_loadsAs 2 = .ok (.iconst 0, 1) := by decide +kernel
theorem dX11_loadsAs_3 : decode cX11_loadsAs 3 = .ok (.istore_n 3, 1) := by decide +kernel
theorem dX11_loadsAs_4 : decode cX11_loadsAs 4 = .ok (.iload_n 3, 1) := by decide +kernel
theorem dX11_loadsAs_5 : decode cX11_loadsAs 5 = .ok (.aload_n 0, 1) := by decide +kernel
theorem dX11_loadsAs_6 : decode cX11_loadsAs 6 = .ok (.getfield 367, 3) := by decide +kernel
theorem dX11_loadsAs_9 : decode cX11_loadsAs 9 = .ok (.if_icmp .ge 27, 3) := by decide +kernel
theorem dX11_loadsAs_12 : decode cX11_loadsAs 12 = .ok (.iload_n 2, 1) := by decide +kernel
theorem dX11_loadsAs_13 : decode cX11_loadsAs 13 = .ok (.aload_n 0, 1) := by decide +kernel
theorem dX11_loadsAs_14 : decode cX11_loadsAs 14 = .ok (.getfield 120, 3) := by decide +kernel
theorem dX11_loadsAs_17 : decode cX11_loadsAs 17 = .ok (.iload_n 3, 1) := by decide +kernel
theorem dX11_loadsAs_18 : decode cX11_loadsAs 18 = .ok (.iaload, 1) := by decide +kernel
theorem dX11_loadsAs_19 : decode cX11_loadsAs 19 = .ok (.iload_n 1, 1) := by decide +kernel
theorem dX11_loadsAs_20 : decode cX11_loadsAs 20 = .ok (.if_icmp .ne 7, 3) := by decide +kernel
theorem dX11_loadsAs_23 : decode cX11_loadsAs 23 = .ok (.iconst 1, 1) := by decide +kernel
theorem dX11_loadsAs_24 : decode cX11_loadsAs 24 = .ok (.goto 4, 3) := by decide +kernel
theorem dX11_loadsAs_27 : decode cX11_loadsAs 27 = .ok (.iconst 0, 1) := by decide +kernel
theorem dX11_loadsAs_28 : decode cX11_loadsAs 28 = .ok (.iadd, 1) := by decide +kernel
theorem dX11_loadsAs_29 : decode cX11_loadsAs 29 = .ok (.istore_n 2, 1) := by decide +kernel
theorem dX11_loadsAs_30 : decode cX11_loadsAs 30 = .ok (.iinc 3 1, 3) := by decide +kernel
theorem dX11_loadsAs_33 : decode cX11_loadsAs 33 = .ok (.goto (-29), 3) := by decide +kernel
theorem dX11_loadsAs_36 : decode cX11_loadsAs 36 = .ok (.iload_n 2, 1) := by decide +kernel
theorem dX11_loadsAs_37 : decode cX11_loadsAs 37 = .ok (.ireturn, 1) := by decide +kernel
theorem dX11_count_0 : decode cX11_count 0 = .ok (.iconst 0, 1) := by decide +kernel
theorem dX11_count_1 : decode cX11_count 1 = .ok (.istore_n 2, 1) := by decide +kernel
theorem dX11_count_2 : decode cX11_count 2 = .ok (.iload_n 1, 1) := by decide +kernel
theorem dX11_count_3 : decode cX11_count 3 = .ok (.tableswitch 152 0 11 #[61, 66, 71, 76, 81, 86, 86, 86, 86, 94, 99, 125], 61) := by decide +kernel
theorem dX11_count_64 : decode cX11_count 64 = .ok (.aload_n 0, 1) := by decide +kernel
theorem dX11_count_65 : decode cX11_count 65 = .ok (.getfield 181, 3) := by decide +kernel
theorem dX11_count_68 : decode cX11_count 68 = .ok (.ireturn, 1) := by decide +kernel
theorem dX11_count_69 : decode cX11_count 69 = .ok (.aload_n 0, 1) := by decide +kernel
theorem dX11_count_70 : decode cX11_count 70 = .ok (.getfield 210, 3) := by decide +kernel
theorem dX11_count_73 : decode cX11_count 73 = .ok (.ireturn, 1) := by decide +kernel
theorem dX11_count_74 : decode cX11_count 74 = .ok (.aload_n 0, 1) := by decide +kernel
theorem dX11_count_75 : decode cX11_count 75 = .ok (.getfield 367, 3) := by decide +kernel
theorem dX11_count_78 : decode cX11_count 78 = .ok (.ireturn, 1) := by decide +kernel
theorem dX11_count_79 : decode cX11_count 79 = .ok (.aload_n 0, 1) := by decide +kernel
theorem dX11_count_80 : decode cX11_count 80 = .ok (.getfield 334, 3) := by decide +kernel
theorem dX11_count_83 : decode cX11_count 83 = .ok (.ireturn, 1) := by decide +kernel
theorem dX11_count_84 : decode cX11_count 84 = .ok (.aload_n 0, 1) := by decide +kernel
theorem dX11_count_85 : decode cX11_count 85 = .ok (.getfield 178, 3) := by decide +kernel
theorem dX11_count_88 : decode cX11_count 88 = .ok (.ireturn, 1) := by decide +kernel
theorem dX11_count_89 : decode cX11_count 89 = .ok (.aload_n 0, 1) := by decide +kernel
theorem dX11_count_90 : decode cX11_count 90 = .ok (.iload_n 1, 1) := by decide +kernel
theorem dX11_count_91 : decode cX11_count 91 = .ok (.iconst 5, 1) := by decide +kernel
theorem dX11_count_92 : decode cX11_count 92 = .ok (.isub, 1) := by decide +kernel
theorem dX11_count_93 : decode cX11_count 93 = .ok (.invokevirtual 428, 3) := by decide +kernel
theorem dX11_count_96 : decode cX11_count 96 = .ok (.ireturn, 1) := by decide +kernel
theorem dX11_count_97 : decode cX11_count 97 = .ok (.aload_n 0, 1) := by decide +kernel
theorem dX11_count_98 : decode cX11_count 98 = .ok (.getfield 230, 3) := by decide +kernel
theorem dX11_count_101 : decode cX11_count 101 = .ok (.ireturn, 1) := by decide +kernel
theorem dX11_count_102 : decode cX11_count 102 = .ok (.iconst 0, 1) := by decide +kernel
theorem dX11_count_103 : decode cX11_count 103 = .ok (.istore_n 3, 1) := by decide +kernel
theorem dX11_count_104 : decode cX11_count 104 = .ok (.iload_n 3, 1) := by decide +kernel
theorem dX11_count_105 : decode cX11_count 105 = .ok (.aload_n 0, 1) := by decide +kernel
theorem dX11_count_106 : decode cX11_count 106 = .ok (.getfield 367, 3) := by decide +kernel
theorem dX11_count_109 : decode cX11_count 109 = .ok (.if_icmp .ge 17, 3) := by decide +kernel
theorem dX11_count_112 : decode cX11_count 112 = .ok (.iload_n 2, 1) := by decide +kernel
theorem dX11_count_113 : decode cX11_count 113 = .ok (.aload_n 0, 1) := by decide +kernel
theorem dX11_count_114 : decode cX11_count 114 = .ok (.iload_n 3, 1) := by decide +kernel
theorem dX11_count_115 : decode cX11_count 115 = .ok (.invokevirtual 404, 3) := by decide +kernel
theorem dX11_count_118 : decode cX11_count 118 = .ok (.iadd, 1) := by decide +kernel
theorem dX11_count_119 : decode cX11_count 119 = .ok (.istore_n 2, 1) := by decide +kernel
theorem dX11_count_120 : decode cX11_count 120 = .ok (.iinc 3 1, 3) := by decide +kernel
theorem dX11_count_123 : decode cX11_count 123 = .ok (.goto (-19), 3) := by decide +kernel
theorem dX11_count_126 : decode cX11_count 126 = .ok (.iload_n 2, 1) := by decide +kernel
theorem dX11_count_127 : decode cX11_count 127 = .ok (.ireturn, 1) := by decide +kernel
theorem dX11_count_128 : decode cX11_count 128 = .ok (.iconst 0, 1) := by decide +kernel
theorem dX11_count_129 : decode cX11_count 129 = .ok (.istore_n 3, 1) := by decide +kernel
theorem dX11_count_130 : decode cX11_count 130 = .ok (.iload_n 3, 1) := by decide +kernel
theorem dX11_count_131 : decode cX11_count 131 = .ok (.aload_n 0, 1) := by decide +kernel
theorem dX11_count_132 : decode cX11_count 132 = .ok (.getfield 367, 3) := by decide +kernel
theorem dX11_count_135 : decode cX11_count 135 = .ok (.if_icmp .ge 18, 3) := by decide +kernel
theorem dX11_count_138 : decode cX11_count 138 = .ok (.iload_n 2, 1) := by decide +kernel
theorem dX11_count_139 : decode cX11_count 139 = .ok (.aload_n 0, 1) := by decide +kernel
theorem dX11_count_140 : decode cX11_count 140 = .ok (.getfield 141, 3) := by decide +kernel
theorem dX11_count_143 : decode cX11_count 143 = .ok (.iload_n 3, 1) := by decide +kernel
theorem dX11_count_144 : decode cX11_count 144 = .ok (.iaload, 1) := by decide +kernel
theorem dX11_count_145 : decode cX11_count 145 = .ok (.iadd, 1) := by decide +kernel
theorem dX11_count_146 : decode cX11_count 146 = .ok (.istore_n 2, 1) := by decide +kernel
theorem dX11_count_147 : decode cX11_count 147 = .ok (.iinc 3 1, 3) := by decide +kernel
theorem dX11_count_150 : decode cX11_count 150 = .ok (.goto (-20), 3) := by decide +kernel
theorem dX11_count_153 : decode cX11_count 153 = .ok (.iload_n 2, 1) := by decide +kernel
theorem dX11_count_154 : decode cX11_count 154 = .ok (.ireturn, 1) := by decide +kernel
theorem dX11_count_155 : decode cX11_count 155 = .ok (.iconst (-1), 1) := by decide +kernel
theorem dX11_count_156 : decode cX11_count 156 = .ok (.ireturn, 1) := by decide +kernel
