theorem dX11_works_82 : decode cX11_works 82 = .ok (.bipush 100, 2) := by decide +kernel
theorem dX11_works_84 : decode cX11_works 84 = .ok (.if_icmp .lt 40, 3) := by decide +kernel
theorem dX11_works_87 : decode cX11_works 87 = .ok (.aload_n 0, 1) := by decide +kernel
theorem dX11_works_88 : decode cX11_works 88 = .ok (.getfield 99, 3) := by decide +kernel
theorem dX11_works_91 : decode cX11_works 91 = .ok (.iload_n 2, 1) := by decide +kernel
theorem dX11_works_92 : decode cX11_works 92 = .ok (.iload 4, 2) := by decide +kernel
theorem dX11_works_94 : decode cX11_works 94 = .ok (.iconst 1, 1) := by decide +kernel
theorem dX11_works_95 : decode cX11_works 95 = .ok (.if_icmp .ne 12, 3) := by decide +kernel
theorem dX11_works_98 : decode cX11_works 98 = .ok (.aload_n 0, 1) := by decide +kernel
theorem dX11_works_99 : decode cX11_works 99 = .ok (.getfield 90, 3) := by decide +kernel
theorem dX11_works_102 : decode cX11_works 102 = .ok (.iload_n 3, 1) := by decide +kernel
theorem dX11_works_103 : decode cX11_works 103 = .ok (.iaload, 1) := by decide +kernel
theorem dX11_works_104 : decode cX11_works 104 = .ok (.goto 13, 3) := by decide +kernel
theorem dX11_works_107 : decode cX11_works 107 = .ok (.aload_n 0, 1) := by decide +kernel
theorem dX11_works_108 : decode cX11_works 108 = .ok (.getfield 96, 3) := by decide +kernel
theorem dX11_works_111 : decode cX11_works 111 = .ok (.iload 4, 2) := by decide +kernel
theorem dX11_works_113 : decode cX11_works 113 = .ok (.bipush 100, 2) := by decide +kernel
theorem dX11_works_115 : decode cX11_works 115 = .ok (.isub, 1) := by decide +kernel
theorem dX11_works_116 : decode cX11_works 116 = .ok (.iaload, 1) := by decide +kernel
theorem dX11_works_117 : decode cX11_works 117 = .ok (.iastore, 1) := by decide +kernel
theorem dX11_works_118 : decode cX11_works 118 = .ok (.iinc 2 1, 3) := by decide +kernel
theorem dX11_works_121 : decode cX11_works 121 = .ok (.goto 67, 3) := by decide +kernel
theorem dX11_works_124 : decode cX11_works 124 = .ok (.iload 4, 2) := by decide +kernel
theorem dX11_works_126 : decode cX11_works 126 = .ok (.bipush 30, 2) := by decide +kernel
theorem dX11_works_128 : decode cX11_works 128 = .ok (.if_icmp .ne 30, 3) := by decide +kernel
theorem dX11_works_131 : decode cX11_works 131 = .ok (.aload_n 0, 1) := by decide +kernel
theorem dX11_works_132 : decode cX11_works 132 = .ok (.getfield 99, 3) := by decide +kernel
theorem dX11_works_135 : decode cX11_works 135 = .ok (.iload_n 2, 1) := by decide +kernel
theorem dX11_works_136 : decode cX11_works 136 = .ok (.iconst 1, 1) := by decide +kernel
theorem dX11_works_137 : decode cX11_works 137 = .ok (.isub, 1) := by decide +kernel
theorem dX11_works_138 : decode cX11_works 138 = .ok (.aload_n 0, 1) := by decide +kernel
theorem dX11_works_139 : decode cX11_works 139 = .ok (.getfield 99, 3) := by decide +kernel
theorem dX11_works_142 : decode cX11_works 142 = .ok (.iload_n 2, 1) := by decide +kernel
theorem dX11_works_143 : decode cX11_works 143 = .ok (.iconst 1, 1) := by decide +kernel
theorem dX11_works_144 : decode cX11_works 144 = .ok (.isub, 1) := by decide +kernel
theorem dX11_works_145 : decode cX11_works 145 = .ok (.iaload, 1) := by decide +kernel
theorem dX11_works_146 : decode cX11_works 146 = .ok (.ifCond .ne 7, 3) := by decide +kernel
theorem dX11_works_149 : decode cX11_works 149 = .ok (.iconst 1, 1) := by decide +kernel
theorem dX11_works_150 : decode cX11_works 150 = .ok (.goto 4, 3) := by decide +kernel
theorem dX11_works_153 : decode cX11_works 153 = .ok (.iconst 0, 1) := by decide +kernel
theorem dX11_works_154 : decode cX11_works 154 = .ok (.iastore, 1) := by decide +kernel
theorem dX11_works_155 : decode cX11_works 155 = .ok (.goto 33, 3) := by decide +kernel
theorem dX11_works_158 : decode cX11_works 158 = .ok (.iinc 2 (-1), 3) := by decide +kernel
theorem dX11_works_161 : decode cX11_works 161 = .ok (.aload_n 0, 1) := by decide +kernel
theorem dX11_works_162 : decode cX11_works 162 = .ok (.getfield 99, 3) := by decide +kernel
theorem dX11_works_165 : decode cX11_works 165 = .ok (.iload_n 2, 1) := by decide +kernel
theorem dX11_works_166 : decode cX11_works 166 = .ok (.iconst 1, 1) := by decide +kernel
theorem dX11_works_167 : decode cX11_works 167 = .ok (.isub, 1) := by decide +kernel
theorem dX11_works_168 : decode cX11_works 168 = .ok (.iload 4, 2) := by decide +kernel
theorem dX11_works_170 : decode cX11_works 170 = .ok (.aload_n 0, 1) := by decide +kernel
theorem dX11_works_171 : decode cX11_works 171 = .ok (.getfield 99, 3) := by decide +kernel
theorem dX11_works_174 : decode cX11_works 174 = .ok (.iload_n 2, 1) := by decide +kernel
theorem dX11_works_175 : decode cX11_works 175 = .ok (.iconst 1, 1) := by decide +kernel
theorem dX11_works_176 : decode cX11_works 176 = .ok (.isub, 1) := by decide +kernel
theorem dX11_works_177 : decode cX11_works 177 = .ok (.iaload, 1) := by decide +kernel
theorem dX11_works_178 : decode cX11_works 178 = .ok (.aload_n 0, 1) := by decide +kernel
theorem dX11_works_179 : decode cX11_works 179 = .ok (.getfield 99, 3) := by decide +kernel
theorem dX11_works_182 : decode cX11_works 182 = .ok (.iload_n 2, 1) := by decide +kernel
theorem dX11_works_183 : decode cX11_works 183 = .ok (.iaload, 1) := by decide +kernel
theorem dX11_works_184 : decode cX11_works 184 = .ok (.invokestatic 347, 3) := by decide +kernel
theorem dX11_works_187 : decode cX11_works 187 = .ok (.iastore, 1) := by decide +kernel
theorem dX11_works_188 : decode cX11_works 188 = .ok (.iinc 3 1, 3) := by decide +kernel
theorem dX11_works_191 : decode cX11_works 191 = .ok (.goto (-183), 3) := by decide +kernel
theorem dX11_works_194 : decode cX11_works 194 = .ok (.iconst 0, 1) := by decide +kernel
theorem dX11_works_195 : decode cX11_works 195 = .ok (.ireturn, 1) := by decide +kernel
theorem dX11_nameLoad_0 : decode cX11_nameLoad 0 = .ok (.aload_n 0, 1) := by decide +kernel
theorem dX11_nameLoad_1 : decode cX11_nameLoad 1 = .ok (.getfield 96, 3) := by decide +kernel
theorem dX11_nameLoad_4 : decode cX11_nameLoad 4 = .ok (.iconst 0, 1) := by decide +kernel
theorem dX11_nameLoad_5 : decode cX11_nameLoad 5 = .ok (.iload_n 1, 1) := by decide +kernel
theorem dX11_nameLoad_6 : decode cX11_nameLoad 6 = .ok (.ifCond .ge 7, 3) := by decide +kernel
theorem dX11_nameLoad_9 : decode cX11_nameLoad 9 = .ok (.iconst 0, 1) := by decide +kernel
theorem dX11_nameLoad_10 : decode cX11_nameLoad 10 = .ok (.goto 9, 3) := by decide +kernel
theorem dX11_nameLoad_13 : decode cX11_nameLoad 13 = .ok (.aload_n 0, 1) := by decide +kernel
theorem dX11_nameLoad_14 : decode cX11_nameLoad 14 = .ok (.getfield 102, 3) := by decide +kernel
theorem dX11_nameLoad_17 : decode cX11_nameLoad 17 = .ok (.iload_n 1, 1) := by decide +kernel
theorem dX11_nameLoad_18 : decode cX11_nameLoad 18 = .ok (.iaload, 1) := by decide +kernel
theorem dX11_nameLoad_19 : decode cX11_nameLoad 19 = .ok (.iastore, 1) := by decide +kernel
theorem dX11_nameLoad_20 : decode cX11_nameLoad 20 = .ok (.aload_n 0, 1) := by decide +kernel
theorem dX11_nameLoad_21 : decode cX11_nameLoad 21 = .ok (.getfield 96, 3) := by decide +kernel
theorem dX11_nameLoad_24 : decode cX11_nameLoad 24 = .ok (.iconst 1, 1) := by decide +kernel
theorem dX11_nameLoad_25 : decode cX11_nameLoad 25 = .ok (.iload_n 1, 1) := by decide +kernel
theorem dX11_nameLoad_26 : decode cX11_nameLoad 26 = .ok (.ifCond .ge 7, 3) := by decide +kernel
theorem dX11_nameLoad_29 : decode cX11_nameLoad 29 = .ok (.iconst 0, 1) := by decide +kernel
theorem dX11_nameLoad_30 : decode cX11_nameLoad 30 = .ok (.goto 9, 3) := by decide +kernel
theorem dX11_nameLoad_33 : decode cX11_nameLoad 33 = .ok (.aload_n 0, 1) := by decide +kernel
theorem dX11_nameLoad_34 : decode cX11_nameLoad 34 = .ok (.getfield 105, 3) := by decide +kernel
theorem dX11_nameLoad_37 : decode cX11_nameLoad 37 = .ok (.iload_n 1, 1) := by decide +kernel
theorem dX11_nameLoad_38 : decode cX11_nameLoad 38 = .ok (.iaload, 1) := by decide +kernel
theorem dX11_nameLoad_39 : decode cX11_nameLoad 39 = .ok (.iastore, 1) := by decide +kernel
theorem dX11_nameLoad_40 : decode cX11_nameLoad 40 = .ok (.aload_n 0, 1) := by decide +kernel
theorem dX11_nameLoad_41 : decode cX11_nameLoad 41 = .ok (.getfield 96, 3) := by decide +kernel
theorem dX11_nameLoad_44 : decode cX11_nameLoad 44 = .ok (.iconst 2, 1) := by decide +kernel
theorem dX11_nameLoad_45 : decode cX11_nameLoad 45 = .ok (.iload_n 1, 1) := by decide +kernel
theorem dX11_nameLoad_46 : decode cX11_nameLoad 46 = .ok (.ifCond .ge 7, 3) := by decide +kernel
theorem dX11_nameLoad_49 : decode cX11_nameLoad 49 = .ok (.iconst 0, 1) := by decide +kernel
theorem dX11_nameLoad_50 : decode cX11_nameLoad 50 = .ok (.goto 19, 3) := by decide +kernel
theorem dX11_nameLoad_53 : decode cX11_nameLoad 53 = .ok (.aload_n 0, 1) := by decide +kernel
theorem dX11_nameLoad_54 : decode cX11_nameLoad 54 = .ok (.aload_n 0, 1) := by decide +kernel
theorem dX11_nameLoad_55 : decode cX11_nameLoad 55 = .ok (.getfield 108, 3) := by decide +kernel
theorem dX11_nameLoad_58 : decode cX11_nameLoad 58 = .ok (.iload_n 1, 1) := by decide +kernel
theorem dX11_nameLoad_59 : decode cX11_nameLoad 59 = .ok (.iaload, 1) := by decide +kernel
theorem dX11_nameLoad_60 : decode cX11_nameLoad 60 = .ok (.aload_n 0, 1) := by decide +kernel
theorem dX11_nameLoad_61 : decode cX11_nameLoad 61 = .ok (.getfield 111, 3) := by decide +kernel
theorem dX11_nameLoad_64 : decode cX11_nameLoad 64 = .ok (.iload_n 1, 1) := by decide +kernel
theorem dX11_nameLoad_65 : decode cX11_nameLoad 65 = .ok (.iaload, 1) := by decide +kernel
theorem dX11_nameLoad_66 : decode cX11_nameLoad 66 = .ok (.invokevirtual 197, 3) := by decide +kernel
theorem dX11_nameLoad_69 : decode cX11_nameLoad 69 = .ok (.iastore, 1) := by decide +kernel
theorem dX11_nameLoad_70 : decode cX11_nameLoad 70 = .ok (.aload_n 0, 1) := by decide +kernel
theorem dX11_nameLoad_71 : decode cX11_nameLoad 71 = .ok (.getfield 96, 3) := by decide +kernel
theorem dX11_nameLoad_74 : decode cX11_nameLoad 74 = .ok (.iconst 3, 1) := by decide +kernel
theorem dX11_nameLoad_75 : decode cX11_nameLoad 75 = .ok (.iload_n 1, 1) := by decide +kernel
theorem dX11_nameLoad_76 : decode cX11_nameLoad 76 = .ok (.ifCond .ge 7, 3) := by decide +kernel
theorem dX11_nameLoad_79 : decode cX11_nameLoad 79 = .ok (.iconst 0, 1) := by decide +kernel
theorem dX11_nameLoad_80 : decode cX11_nameLoad 80 = .ok (.goto 19, 3) := by decide +kernel
theorem dX11_nameLoad_83 : decode cX11_nameLoad 83 = .ok (.aload_n 0, 1) := by decide +kernel
theorem dX11_nameLoad_84 : decode cX11_nameLoad 84 = .ok (.aload_n 0, 1) := by decide +kernel
theorem dX11_nameLoad_85 : decode cX11_nameLoad 85 = .ok (.getfield 108, 3) := by decide +kernel
theorem dX11_nameLoad_88 : decode cX11_nameLoad 88 = .ok (.iload_n 1, 1) := by decide +kernel
theorem dX11_nameLoad_89 : decode cX11_nameLoad 89 = .ok (.iaload, 1) := by decide +kernel
theorem dX11_nameLoad_90 : decode cX11_nameLoad 90 = .ok (.aload_n 0, 1) := by decide +kernel
theorem dX11_nameLoad_91 : decode cX11_nameLoad 91 = .ok (.getfield 111, 3) := by decide +kernel
theorem dX11_nameLoad_94 : decode cX11_nameLoad 94 = .ok (.iload_n 1, 1) := by decide +kernel
theorem dX11_nameLoad_95 : decode cX11_nameLoad 95 = .ok (.iaload, 1) := by decide +kernel
theorem dX11_nameLoad_96 : decode cX11_nameLoad 96 = .ok (.invokevirtual 201, 3) := by decide +kernel
theorem dX11_nameLoad_99 : decode cX11_nameLoad 99 = .ok (.iastore, 1) := by decide +kernel
theorem dX11_nameLoad_100 : decode cX11_nameLoad 100 = .ok (.aload_n 0, 1) := by decide +kernel
theorem dX11_nameLoad_101 : decode cX11_nameLoad 101 = .ok (.getfield 96, 3) := by decide +kernel
theorem dX11_nameLoad_104 : decode cX11_nameLoad 104 = .ok (.iconst 4, 1) := by decide +kernel
theorem dX11_nameLoad_105 : decode cX11_nameLoad 105 = .ok (.iload_n 1, 1) := by decide +kernel
theorem dX11_nameLoad_106 : decode cX11_nameLoad 106 = .ok (.ifCond .ge 7, 3) := by decide +kernel
theorem dX11_nameLoad_109 : decode cX11_nameLoad 109 = .ok (.iconst 0, 1) := by decide +kernel
theorem dX11_nameLoad_110 : decode cX11_nameLoad 110 = .ok (.goto 9, 3) := by decide +kernel
theorem dX11_nameLoad_113 : decode cX11_nameLoad 113 = .ok (.aload_n 0, 1) := by decide +kernel
theorem dX11_nameLoad_114 : decode cX11_nameLoad 114 = .ok (.getfield 114, 3) := by decide +kernel
theorem dX11_nameLoad_117 : decode cX11_nameLoad 117 = .ok (.iload_n 1, 1) := by decide +kernel
theorem dX11_nameLoad_118 : decode cX11_nameLoad 118 = .ok (.iaload, 1) := by decide +kernel
theorem dX11_nameLoad_119 : decode cX11_nameLoad 119 = .ok (.iastore, 1) := by decide +kernel
theorem dX11_nameLoad_120 : decode cX11_nameLoad 120 = .ok (.aload_n 0, 1) := by decide +kernel
theorem dX11_nameLoad_121 : decode cX11_nameLoad 121 = .ok (.getfield 96, 3) := by decide +kernel
theorem dX11_nameLoad_124 : decode cX11_nameLoad 124 = .ok (.iconst 5, 1) := by decide +kernel
theorem dX11_nameLoad_125 : decode cX11_nameLoad 125 = .ok (.aload_n 0, 1) := by decide +kernel
theorem dX11_nameLoad_126 : decode cX11_nameLoad 126 = .ok (.getfield 178, 3) := by decide +kernel
theorem dX11_nameLoad_129 : decode cX11_nameLoad 129 = .ok (.sipush 600, 3) := by decide +kernel
theorem dX11_nameLoad_132 : decode cX11_nameLoad 132 = .ok (.irem, 1) := by decide +kernel
theorem dX11_nameLoad_133 : decode cX11_nameLoad 133 = .ok (.bipush 60, 2) := by decide +kernel
theorem dX11_nameLoad_135 : decode cX11_nameLoad 135 = .ok (.idiv, 1) := by decide +kernel
theorem dX11_nameLoad_136 : decode cX11_nameLoad 136 = .ok (.iastore, 1) := by decide +kernel
theorem dX11_nameLoad_137 : decode cX11_nameLoad 137 = .ok (.aload_n 0, 1) := by decide +kernel
theorem dX11_nameLoad_138 : decode cX11_nameLoad 138 = .ok (.getfield 96, 3) := by decide +kernel
theorem dX11_nameLoad_141 : decode cX11_nameLoad 141 = .ok (.bipush 6, 2) := by decide +kernel
theorem dX11_nameLoad_143 : decode cX11_nameLoad 143 = .ok (.aload_n 0, 1) := by decide +kernel
theorem dX11_nameLoad_144 : decode cX11_nameLoad 144 = .ok (.aload_n 0, 1) := by decide +kernel
theorem dX11_nameLoad_145 : decode cX11_nameLoad 145 = .ok (.getfield 178, 3) := by decide +kernel
theorem dX11_nameLoad_148 : decode cX11_nameLoad 148 = .ok (.invokevirtual 204, 3) := by decide +kernel
theorem dX11_nameLoad_151 : decode cX11_nameLoad 151 = .ok (.ifCond .eq 7, 3) := by decide +kernel
theorem dX11_nameLoad_154 : decode cX11_nameLoad 154 = .ok (.iconst 1, 1) := by decide +kernel
theorem dX11_nameLoad_155 : decode cX11_nameLoad 155 = .ok (.goto 4, 3) := by decide +kernel
theorem dX11_nameLoad_158 : decode cX11_nameLoad 158 = .ok (.iconst 0, 1) := by decide +kernel
theorem dX11_nameLoad_159 : decode cX11_nameLoad 159 = .ok (.iastore, 1) := by decide +kernel
theorem dX11_nameLoad_160 : decode cX11_nameLoad 160 = .ok (.aload_n 0, 1) := by decide +kernel
theorem dX11_nameLoad_161 : decode cX11_nameLoad 161 = .ok (.getfield 96, 3) := by decide +kernel
theorem dX11_nameLoad_164 : decode cX11_nameLoad 164 = .ok (.bipush 7, 2) := by decide +kernel
theorem dX11_nameLoad_166 : decode cX11_nameLoad 166 = .ok (.iload_n 1, 1) := by decide +kernel
theorem dX11_nameLoad_167 : decode cX11_nameLoad 167 = .ok (.ifCond .lt 16, 3) := by decide +kernel
theorem dX11_nameLoad_170 : decode cX11_nameLoad 170 = .ok (.aload_n 0, 1) := by decide +kernel
theorem dX11_nameLoad_171 : decode cX11_nameLoad 171 = .ok (.getfield 178, 3) := by decide +kernel
theorem dX11_nameLoad_174 : decode cX11_nameLoad 174 = .ok (.aload_n 0, 1) := by decide +kernel
theorem dX11_nameLoad_175 : decode cX11_nameLoad 175 = .ok (.getfield 117, 3) := by decide +kernel
theorem dX11_nameLoad_178 : decode cX11_nameLoad 178 = .ok (.iload_n 1, 1) := by decide +kernel
theorem dX11_nameLoad_179 : decode cX11_nameLoad 179 = .ok (.iaload, 1) := by decide +kernel
theorem dX11_nameLoad_180 : decode cX11_nameLoad 180 = .ok (.if_icmp .gt 7, 3) := by decide +kernel
theorem dX11_nameLoad_183 : decode cX11_nameLoad 183 = .ok (.iconst 0, 1) := by decide +kernel
theorem dX11_nameLoad_184 : decode cX11_nameLoad 184 = .ok (.goto 14, 3) := by decide +kernel
theorem dX11_nameLoad_187 : decode cX11_nameLoad 187 = .ok (.aload_n 0, 1) := by decide +kernel
theorem dX11_nameLoad_188 : decode cX11_nameLoad 188 = .ok (.getfield 178, 3) := by decide +kernel
theorem dX11_nameLoad_191 : decode cX11_nameLoad 191 = .ok (.aload_n 0, 1) := by decide +kernel
theorem dX11_nameLoad_192 : decode cX11_nameLoad 192 = .ok (.getfield 117, 3) := by decide +kernel
theorem dX11_nameLoad_195 : decode cX11_nameLoad 195 = .ok (.iload_n 1, 1) := by decide +kernel
theorem dX11_nameLoad_196 : decode cX11_nameLoad 196 = .ok (.iaload, 1) := by decide +kernel
theorem dX11_nameLoad_197 : decode cX11_nameLoad 197 = .ok (.isub, 1) := by decide +kernel
theorem dX11_nameLoad_198 : decode cX11_nameLoad 198 = .ok (.iastore, 1) := by decide +kernel
theorem dX11_nameLoad_199 : decode cX11_nameLoad 199 = .ok (.aload_n 0, 1) := by decide +kernel
theorem dX11_nameLoad_200 : decode cX11_nameLoad 200 = .ok (.getfield 96, 3) := by decide +kernel
theorem dX11_nameLoad_203 : decode cX11_nameLoad 203 = .ok (.bipush 9, 2) := by decide +kernel
theorem dX11_nameLoad_205 : decode cX11_nameLoad 205 = .ok (.aload_n 0, 1) := by decide +kernel
theorem dX11_nameLoad_206 : decode cX11_nameLoad 206 = .ok (.invokevirtual 340, 3) := by decide +kernel
theorem dX11_nameLoad_209 : decode cX11_nameLoad 209 = .ok (.iastore, 1) := by decide +kernel
theorem dX11_nameLoad_210 : decode cX11_nameLoad 210 = .ok (.return_, 1) := by decide +kernel
theorem dX11_saysNow_0 : decode cX11_saysNow 0 = .ok (.aload_n 0, 1) := by decide +kernel
theorem dX11_saysNow_1 : decode cX11_saysNow 1 = .ok (.iload_n 1, 1) := by decide +kernel
theorem dX11_saysNow_2 : decode cX11_saysNow 2 = .ok (.iload_n 2, 1) := by decide +kernel
theorem dX11_saysNow_3 : decode cX11_saysNow 3 = .ok (.aload_n 0, 1) := by decide +kernel
theorem dX11_saysNow_4 : decode cX11_saysNow 4 = .ok (.invokevirtual 340, 3) := by decide +kernel
theorem dX11_saysNow_7 : decode cX11_saysNow 7 = .ok (.aload_n 0, 1) := by decide +kernel
theorem dX11_saysNow_8 : decode cX11_saysNow 8 = .ok (.invokevirtual 340, 3) := by decide +kernel
theorem dX11_saysNow_11 : decode cX11_saysNow 11 = .ok (.invokevirtual 343, 3) := by decide +kernel
theorem dX11_saysNow_14 : decode cX11_saysNow 14 = .ok (.istore 5, 2) := by decide +kernel
theorem dX11_saysNow_16 : decode cX11_saysNow 16 = .ok (.iload 5, 2) := by decide +kernel
theorem dX11_saysNow_18 : decode cX11_saysNow 18 = .ok (.ifCond .ge 45, 3) := by decide +kernel
theorem dX11_saysNow_21 : decode cX11_saysNow 21 = .ok (.iload_n 2, 1) := by decide +kernel
theorem dX11_saysNow_22 : decode cX11_saysNow 22 = .ok (.iconst 1, 1) := by decide +kernel
theorem dX11_saysNow_23 : decode cX11_saysNow 23 = .ok (.if_icmp .ne 20, 3) := by decide +kernel
theorem dX11_saysNow_26 : decode cX11_saysNow 26 = .ok (.iload_n 3, 1) := by decide +kernel
theorem dX11_saysNow_27 : decode cX11_saysNow 27 = .ok (.ifCond .ge 7, 3) := by decide +kernel
theorem dX11_saysNow_30 : decode cX11_saysNow 30 = .ok (.iconst 0, 1) := by decide +kernel
theorem dX11_saysNow_31 : decode cX11_saysNow 31 = .ok (.goto 31, 3) := by decide +kernel
theorem dX11_saysNow_34 : decode cX11_saysNow 34 = .ok (.aload_n 0, 1) := by decide +kernel
theorem dX11_saysNow_35 : decode cX11_saysNow 35 = .ok (.getfield 105, 3) := by decide +kernel
theorem dX11_saysNow_38 : decode cX11_saysNow 38 = .ok (.iload_n 3, 1) := by decide +kernel
theorem dX11_saysNow_39 : decode cX11_saysNow 39 = .ok (.iaload, 1) := by decide +kernel
theorem dX11_saysNow_40 : decode cX11_saysNow 40 = .ok (.goto 22, 3) := by decide +kernel
theorem dX11_saysNow_43 : decode cX11_saysNow 43 = .ok (.iload_n 2, 1) := by decide +kernel
theorem dX11_saysNow_44 : decode cX11_saysNow 44 = .ok (.iconst 2, 1) := by decide +kernel
theorem dX11_saysNow_45 : decode cX11_saysNow 45 = .ok (.if_icmp .ne 7, 3) := by decide +kernel
theorem dX11_saysNow_48 : decode cX11_saysNow 48 = .ok (.iconst 1, 1) := by decide +kernel
theorem dX11_saysNow_49 : decode cX11_saysNow 49 = .ok (.goto 13, 3) := by decide +kernel
theorem dX11_saysNow_52 : decode cX11_saysNow 52 = .ok (.iload_n 2, 1) := by decide +kernel
theorem dX11_saysNow_53 : decode cX11_saysNow 53 = .ok (.iconst 4, 1) := by decide +kernel
theorem dX11_saysNow_54 : decode cX11_saysNow 54 = .ok (.if_icmp .ne 7, 3) := by decide +kernel
theorem dX11_saysNow_57 : decode cX11_saysNow 57 = .ok (.iconst 5, 1) := by decide +kernel
theorem dX11_saysNow_58 : decode cX11_saysNow 58 = .ok (.goto 4, 3) := by decide +kernel
theorem dX11_saysNow_61 : decode cX11_saysNow 61 = .ok (.iconst 0, 1) := by decide +kernel
theorem dX11_saysNow_62 : decode cX11_saysNow 62 = .ok (.ireturn, 1) := by decide +kernel
theorem dX11_saysNow_63 : decode cX11_saysNow 63 = .ok (.aload_n 0, 1) := by decide +kernel
theorem dX11_saysNow_64 : decode cX11_saysNow 64 = .ok (.iload_n 3, 1) := by decide +kernel
theorem dX11_saysNow_65 : decode cX11_saysNow 65 = .ok (.invokevirtual 351, 3) := by decide +kernel
theorem dX11_saysNow_68 : decode cX11_saysNow 68 = .ok (.aload_n 0, 1) := by decide +kernel
theorem dX11_saysNow_69 : decode cX11_saysNow 69 = .ok (.getfield 96, 3) := by decide +kernel
theorem dX11_saysNow_72 : decode cX11_saysNow 72 = .ok (.bipush 8, 2) := by decide +kernel
theorem dX11_saysNow_74 : decode cX11_saysNow 74 = .ok (.aload_n 0, 1) := by decide +kernel
theorem dX11_saysNow_75 : decode cX11_saysNow 75 = .ok (.iload_n 1, 1) := by decide +kernel
theorem dX11_saysNow_76 : decode cX11_saysNow 76 = .ok (.invokevirtual 354, 3) := by decide +kernel
theorem dX11_saysNow_79 : decode cX11_saysNow 79 = .ok (.iastore, 1) := by decide +kernel
theorem dX11_saysNow_80 : decode cX11_saysNow 80 = .ok (.aload_n 0, 1) := by decide +kernel
theorem dX11_saysNow_81 : decode cX11_saysNow 81 = .ok (.getfield 96, 3) := by decide +kernel
theorem dX11_saysNow_84 : decode cX11_saysNow 84 = .ok (.bipush 10, 2) := by decide +kernel
theorem dX11_saysNow_86 : decode cX11_saysNow 86 = .ok (.iload 4, 2) := by decide +kernel
theorem dX11_saysNow_88 : decode cX11_saysNow 88 = .ok (.ifCond .ge 7, 3) := by decide +kernel
theorem dX11_saysNow_91 : decode cX11_saysNow 91 = .ok (.iconst 0, 1) := by decide +kernel
theorem dX11_saysNow_92 : decode cX11_saysNow 92 = .ok (.goto 10, 3) := by decide +kernel
theorem dX11_saysNow_95 : decode cX11_saysNow 95 = .ok (.aload_n 0, 1) := by decide +kernel
theorem dX11_saysNow_96 : decode cX11_saysNow 96 = .ok (.getfield 34, 3) := by decide +kernel
theorem dX11_saysNow_99 : decode cX11_saysNow 99 = .ok (.iload 4, 2) := by decide +kernel
theorem dX11_saysNow_101 : decode cX11_saysNow 101 = .ok (.iaload, 1) := by decide +kernel
theorem dX11_saysNow_102 : decode cX11_saysNow 102 = .ok (.iastore, 1) := by decide +kernel
theorem dX11_saysNow_103 : decode cX11_saysNow 103 = .ok (.aload_n 0, 1) := by decide +kernel
theorem dX11_saysNow_104 : decode cX11_saysNow 104 = .ok (.getfield 96, 3) := by decide +kernel
theorem dX11_saysNow_107 : decode cX11_saysNow 107 = .ok (.bipush 11, 2) := by decide +kernel
theorem dX11_saysNow_109 : decode cX11_saysNow 109 = .ok (.iload 4, 2) := by decide +kernel
theorem dX11_saysNow_111 : decode cX11_saysNow 111 = .ok (.ifCond .ge 7, 3) := by decide +kernel
theorem dX11_saysNow_114 : decode cX11_saysNow 114 = .ok (.iconst 0, 1) := by decide +kernel
theorem dX11_saysNow_115 : decode cX11_saysNow 115 = .ok (.goto 10, 3) := by decide +kernel
theorem dX11_saysNow_118 : decode cX11_saysNow 118 = .ok (.aload_n 0, 1) := by decide +kernel
theorem dX11_saysNow_119 : decode cX11_saysNow 119 = .ok (.getfield 31, 3) := by decide +kernel
theorem dX11_saysNow_122 : decode cX11_saysNow 122 = .ok (.iload 4, 2) := by decide +kernel
theorem dX11_saysNow_124 : decode cX11_saysNow 124 = .ok (.iaload, 1) := by decide +kernel
theorem dX11_saysNow_125 : decode cX11_saysNow 125 = .ok (.iastore, 1) := by decide +kernel
theorem dX11_saysNow_126 : decode cX11_saysNow 126 = .ok (.aload_n 0, 1) := by decide +kernel
theorem dX11_saysNow_127 : decode cX11_saysNow 127 = .ok (.getfield 96, 3) := by decide +kernel
theorem dX11_saysNow_130 : decode cX11_saysNow 130 = .ok (.bipush 12, 2) := by decide +kernel
theorem dX11_saysNow_132 : decode cX11_saysNow 132 = .ok (.iload 4, 2) := by decide +kernel
theorem dX11_saysNow_134 : decode cX11_saysNow 134 = .ok (.ifCond .ge 7, 3) := by decide +kernel
theorem dX11_saysNow_137 : decode cX11_saysNow 137 = .ok (.iconst 0, 1) := by decide +kernel
theorem dX11_saysNow_138 : decode cX11_saysNow 138 = .ok (.goto 10, 3) := by decide +kernel
theorem dX11_saysNow_141 : decode cX11_saysNow 141 = .ok (.aload_n 0, 1) := by decide +kernel
theorem dX11_saysNow_142 : decode cX11_saysNow 142 = .ok (.getfield 40, 3) := by decide +kernel
theorem dX11_saysNow_145 : decode cX11_saysNow 145 = .ok (.iload 4, 2) := by decide +kernel
theorem dX11_saysNow_147 : decode cX11_saysNow 147 = .ok (.iaload, 1) := by decide +kernel
theorem dX11_saysNow_148 : decode cX11_saysNow 148 = .ok (.iastore, 1) := by decide +kernel
theorem dX11_saysNow_149 : decode cX11_saysNow 149 = .ok (.aload_n 0, 1) := by decide +kernel
theorem dX11_saysNow_150 : decode cX11_saysNow 150 = .ok (.iload 5, 2) := by decide +kernel
theorem dX11_saysNow_152 : decode cX11_saysNow 152 = .ok (.invokevirtual 357, 3) := by decide +kernel
theorem dX11_saysNow_155 : decode cX11_saysNow 155 = .ok (.ireturn, 1) := by decide +kernel
theorem dX11_says_0 : decode cX11_says 0 = .ok (.iload_n 1, 1) := by decide +kernel
theorem dX11_says_1 : decode cX11_says 1 = .ok (.invokestatic 213, 3) := by decide +kernel
theorem dX11_says_4 : decode cX11_says 4 = .ok (.ifCond .eq 40, 3) := by decide +kernel
theorem dX11_says_7 : decode cX11_says 7 = .ok (.iload_n 2, 1) := by decide +kernel
theorem dX11_says_8 : decode cX11_says 8 = .ok (.iconst 0, 1) := by decide +kernel
theorem dX11_says_9 : decode cX11_says 9 = .ok (.iconst 4, 1) := by decide +kernel
theorem dX11_says_10 : decode cX11_says 10 = .ok (.invokestatic 184, 3) := by decide +kernel
theorem dX11_says_13 : decode cX11_says 13 = .ok (.ifCond .eq 31, 3) := by decide +kernel
theorem dX11_says_16 : decode cX11_says 16 = .ok (.iload_n 3, 1) := by decide +kernel
theorem dX11_says_17 : decode cX11_says 17 = .ok (.iconst (-1), 1) := by decide +kernel
theorem dX11_says_18 : decode cX11_says 18 = .ok (.if_icmp .eq 11, 3) := by decide +kernel
theorem dX11_says_21 : decode cX11_says 21 = .ok (.aload_n 0, 1) := by decide +kernel
theorem dX11_says_22 : decode cX11_says 22 = .ok (.iload_n 3, 1) := by decide +kernel
theorem dX11_says_23 : decode cX11_says 23 = .ok (.invokevirtual 360, 3) := by decide +kernel
theorem dX11_says_26 : decode cX11_says 26 = .ok (.ifCond .eq 18, 3) := by decide +kernel
theorem dX11_says_29 : decode cX11_says 29 = .ok (.iload 4, 2) := by decide +kernel
theorem dX11_says_31 : decode cX11_says 31 = .ok (.iconst (-1), 1) := by decide +kernel
theorem dX11_says_32 : decode cX11_says 32 = .ok (.if_icmp .eq 16, 3) := by decide +kernel
theorem dX11_says_35 : decode cX11_says 35 = .ok (.aload_n 0, 1) := by decide +kernel
theorem dX11_says_36 : decode cX11_says 36 = .ok (.iload 4, 2) := by decide +kernel
theorem dX11_says_38 : decode cX11_says 38 = .ok (.invokevirtual 220, 3) := by decide +kernel
theorem dX11_says_41 : decode cX11_says 41 = .ok (.ifCond .ne 7, 3) := by decide +kernel
theorem dX11_says_44 : decode cX11_says 44 = .ok (.ldc_w 363, 3) := by decide +kernel
theorem dX11_says_47 : decode cX11_says 47 = .ok (.ireturn, 1) := by decide +kernel
theorem dX11_says_48 : decode cX11_says 48 = .ok (.aload_n 0, 1) := by decide +kernel
theorem dX11_says_49 : decode cX11_says 49 = .ok (.iload_n 1, 1) := by decide +kernel
theorem dX11_says_50 : decode cX11_says 50 = .ok (.iload_n 2, 1) := by decide +kernel
theorem dX11_says_51 : decode cX11_says 51 = .ok (.iload_n 3, 1) := by decide +kernel
theorem dX11_says_52 : decode cX11_says 52 = .ok (.iload 4, 2) := by decide +kernel
theorem dX11_says_54 : decode cX11_says 54 = .ok (.invokevirtual 364, 3) := by decide +kernel
theorem dX11_says_57 : decode cX11_says 57 = .ok (.ireturn, 1) := by decide +kernel
theorem dX11_isLoad_0 : decode cX11_isLoad 0 = .ok (.iload_n 1, 1) := by decide +kernel
theorem dX11_isLoad_1 : decode cX11_isLoad 1 = .ok (.iconst 0, 1) := by decide +kernel
theorem dX11_isLoad_2 : decode cX11_isLoad 2 = .ok (.aload_n 0, 1) := by decide +kernel
theorem dX11_isLoad_3 : decode cX11_isLoad 3 = .ok (.getfield 367, 3) := by decide +kernel
theorem dX11_isLoad_6 : decode cX11_isLoad 6 = .ok (.iconst 1, 1) := by decide +kernel
theorem dX11_isLoad_7 : decode cX11_isLoad 7 = .ok (.isub, 1) := by decide +kernel
theorem dX11_isLoad_8 : decode cX11_isLoad 8 = .ok (.invokestatic 184, 3) := by decide +kernel
theorem dX11_isLoad_11 : decode cX11_isLoad 11 = .ok (.ireturn, 1) := by decide +kernel
theorem dX11_load_0 : decode cX11_load 0 = .ok (.iload_n 1, 1) := by decide +kernel
theorem dX11_load_1 : decode cX11_load 1 = .ok (.ifCond .lt 84, 3) := by decide +kernel
theorem dX11_load_4 : decode cX11_load 4 = .ok (.iload_n 1, 1) := by decide +kernel
theorem dX11_load_5 : decode cX11_load 5 = .ok (.sipush 1000, 3) := by decide +kernel
theorem dX11_load_8 : decode cX11_load 8 = .ok (.idiv, 1) := by decide +kernel
theorem dX11_load_9 : decode cX11_load 9 = .ok (.iconst 0, 1) := by decide +kernel
theorem dX11_load_10 : decode cX11_load 10 = .ok (.iconst 4, 1) := by decide +kernel
theorem dX11_load_11 : decode cX11_load 11 = .ok (.invokestatic 184, 3) := by decide +kernel
theorem dX11_load_14 : decode cX11_load 14 = .ok (.ifCond .eq 71, 3) := by decide +kernel
theorem dX11_load_17 : decode cX11_load 17 = .ok (.iload_n 1, 1) := by decide +kernel
theorem dX11_load_18 : decode cX11_load 18 = .ok (.sipush 1000, 3) := by decide +kernel
theorem dX11_load_21 : decode cX11_load 21 = .ok (.irem, 1) := by decide +kernel
theorem dX11_load_22 : decode cX11_load 22 = .ok (.ifCond .eq 63, 3) := by decide +kernel
theorem dX11_load_25 : decode cX11_load 25 = .ok (.iload_n 2, 1) := by decide +kernel
theorem dX11_load_26 : decode cX11_load 26 = .ok (.ifCond .lt 59, 3) := by decide +kernel
theorem dX11_load_29 : decode cX11_load 29 = .ok (.aload_n 0, 1) := by decide +kernel
theorem dX11_load_30 : decode cX11_load 30 = .ok (.iload_n 2, 1) := by decide +kernel
theorem dX11_load_31 : decode cX11_load 31 = .ok (.bipush 100, 2) := by decide +kernel
theorem dX11_load_33 : decode cX11_load 33 = .ok (.idiv, 1) := by decide +kernel
theorem dX11_load_34 : decode cX11_load 34 = .ok (.invokevirtual 191, 3) := by decide +kernel
theorem dX11_load_37 : decode cX11_load 37 = .ok (.ifCond .eq 48, 3) := by decide +kernel
theorem dX11_load_40 : decode cX11_load 40 = .ok (.aload_n 0, 1) := by decide +kernel
theorem dX11_load_41 : decode cX11_load 41 = .ok (.iload_n 2, 1) := by decide +kernel
theorem dX11_load_42 : decode cX11_load 42 = .ok (.bipush 100, 2) := by decide +kernel
theorem dX11_load_44 : decode cX11_load 44 = .ok (.irem, 1) := by decide +kernel
theorem dX11_load_45 : decode cX11_load 45 = .ok (.invokevirtual 191, 3) := by decide +kernel
theorem dX11_load_48 : decode cX11_load 48 = .ok (.ifCond .eq 37, 3) := by decide +kernel
theorem dX11_load_51 : decode cX11_load 51 = .ok (.iload_n 2, 1) := by decide +kernel
theorem dX11_load_52 : decode cX11_load 52 = .ok (.bipush 100, 2) := by decide +kernel
theorem dX11_load_54 : decode cX11_load 54 = .ok (.idiv, 1) := by decide +kernel
theorem dX11_load_55 : decode cX11_load 55 = .ok (.iload_n 2, 1) := by decide +kernel
theorem dX11_load_56 : decode cX11_load 56 = .ok (.bipush 100, 2) := by decide +kernel
theorem dX11_load_58 : decode cX11_load 58 = .ok (.irem, 1) := by decide +kernel
theorem dX11_load_59 : decode cX11_load 59 = .ok (.if_icmp .eq 26, 3) := by decide +kernel
theorem dX11_load_62 : decode cX11_load 62 = .ok (.iload_n 3, 1) := by decide +kernel
theorem dX11_load_63 : decode cX11_load 63 = .ok (.iconst 0, 1) := by decide +kernel
theorem dX11_load_64 : decode cX11_load 64 = .ok (.sipush 9999, 3) := by decide +kernel
theorem dX11_load_67 : decode cX11_load 67 = .ok (.invokestatic 184, 3) := by decide +kernel
theorem dX11_load_70 : decode cX11_load 70 = .ok (.ifCond .eq 15, 3) := by decide +kernel
theorem dX11_load_73 : decode cX11_load 73 = .ok (.iload 4, 2) := by decide +kernel
theorem dX11_load_75 : decode cX11_load 75 = .ok (.iconst 0, 1) := by decide +kernel
theorem dX11_load_76 : decode cX11_load 76 = .ok (.ldc_w 370, 3) := by decide +kernel
theorem dX11_load_79 : decode cX11_load 79 = .ok (.invokestatic 184, 3) := by decide +kernel
theorem dX11_load_82 : decode cX11_load 82 = .ok (.ifCond .ne 5, 3) := by decide +kernel
theorem dX11_load_85 : decode cX11_load 85 = .ok (.iconst (-1), 1) := by decide +kernel
theorem dX11_load_86 : decode cX11_load 86 = .ok (.ireturn, 1) := by decide +kernel
theorem dX11_load_87 : decode cX11_load 87 = .ok (.aload_n 0, 1) := by decide +kernel
theorem dX11_load_88 : decode cX11_load 88 = .ok (.getfield 367, 3) := by decide +kernel
theorem dX11_load_91 : decode cX11_load 91 = .ok (.sipush 200, 3) := by decide +kernel
theorem dX11_load_94 : decode cX11_load 94 = .ok (.if_icmp .ne 6, 3) := by decide +kernel
theorem dX11_load_97 : decode cX11_load 97 = .ok (.bipush (-3), 2) := by decide +kernel
theorem dX11_load_99 : decode cX11_load 99 = .ok (.ireturn, 1) := by decide +kernel
theorem dX11_load_100 : decode cX11_load 100 = .ok (.aload_n 0, 1) := by decide +kernel
theorem dX11_load_101 : decode cX11_load 101 = .ok (.getfield 367, 3) := by decide +kernel
theorem dX11_load_104 : decode cX11_load 104 = .ok (.istore 5, 2) := by decide +kernel
theorem dX11_load_106 : decode cX11_load 106 = .ok (.aload_n 0, 1) := by decide +kernel
theorem dX11_load_107 : decode cX11_load 107 = .ok (.getfield 102, 3) := by decide +kernel
theorem dX11_load_110 : decode cX11_load 110 = .ok (.iload 5, 2) := by decide +kernel
theorem dX11_load_112 : decode cX11_load 112 = .ok (.iload_n 1, 1) := by decide +kernel
theorem dX11_load_113 : decode cX11_load 113 = .ok (.sipush 1000, 3) := by decide +kernel
theorem dX11_load_116 : decode cX11_load 116 = .ok (.idiv, 1) := by decide +kernel
theorem dX11_load_117 : decode cX11_load 117 = .ok (.iastore, 1) := by decide +kernel
theorem dX11_load_118 : decode cX11_load 118 = .ok (.aload_n 0, 1) := by decide +kernel
theorem dX11_load_119 : decode cX11_load 119 = .ok (.getfield 105, 3) := by decide +kernel
theorem dX11_load_122 : decode cX11_load 122 = .ok (.iload 5, 2) := by decide +kernel
theorem dX11_load_124 : decode cX11_load 124 = .ok (.iload_n 1, 1) := by decide +kernel
theorem dX11_load_125 : decode cX11_load 125 = .ok (.sipush 1000, 3) := by decide +kernel
theorem dX11_load_128 : decode cX11_load 128 = .ok (.irem, 1) := by decide +kernel
theorem dX11_load_129 : decode cX11_load 129 = .ok (.iastore, 1) := by decide +kernel
theorem dX11_load_130 : decode cX11_load 130 = .ok (.aload_n 0, 1) := by decide +kernel
theorem dX11_load_131 : decode cX11_load 131 = .ok (.getfield 108, 3) := by decide +kernel
theorem dX11_load_134 : decode cX11_load 134 = .ok (.iload 5, 2) := by decide +kernel
theorem dX11_load_136 : decode cX11_load 136 = .ok (.iload_n 2, 1) := by decide +kernel
theorem dX11_load_137 : decode cX11_load 137 = .ok (.bipush 100, 2) := by decide +kernel
theorem dX11_load_139 : decode cX11_load 139 = .ok (.idiv, 1) := by decide +kernel
theorem dX11_load_140 : decode cX11_load 140 = .ok (.iastore, 1) := by decide +kernel
theorem dX11_load_141 : decode cX11_load 141 = .ok (.aload_n 0, 1) := by decide +kernel
theorem dX11_load_142 : decode cX11_load 142 = .ok (.getfield 111, 3) := by decide +kernel
theorem dX11_load_145 : decode cX11_load 145 = .ok (.iload 5, 2) := by decide +kernel
theorem dX11_load_147 : decode cX11_load 147 = .ok (.iload_n 2, 1) := by decide +kernel
theorem dX11_load_148 : decode cX11_load 148 = .ok (.bipush 100, 2) := by decide +kernel
theorem dX11_load_150 : decode cX11_load 150 = .ok (.irem, 1) := by decide +kernel
theorem dX11_load_151 : decode cX11_load 151 = .ok (.iastore, 1) := by decide +kernel
theorem dX11_load_152 : decode cX11_load 152 = .ok (.aload_n 0, 1) := by decide +kernel
theorem dX11_load_153 : decode cX11_load 153 = .ok (.getfield 114, 3) := by decide +kernel
theorem dX11_load_156 : decode cX11_load 156 = .ok (.iload 5, 2) := by decide +kernel
theorem dX11_load_158 : decode cX11_load 158 = .ok (.iload_n 3, 1) := by decide +kernel
theorem dX11_load_159 : decode cX11_load 159 = .ok (.iastore, 1) := by decide +kernel
theorem dX11_load_160 : decode cX11_load 160 = .ok (.aload_n 0, 1) := by decide +kernel
theorem dX11_load_161 : decode cX11_load 161 = .ok (.getfield 117, 3) := by decide +kernel
theorem dX11_load_164 : decode cX11_load 164 = .ok (.iload 5, 2) := by decide +kernel
theorem dX11_load_166 : decode cX11_load 166 = .ok (.iload 4, 2) := by decide +kernel
theorem dX11_load_168 : decode cX11_load 168 = .ok (.iastore, 1) := by decide +kernel
theorem dX11_load_169 : decode cX11_load 169 = .ok (.aload_n 0, 1) := by decide +kernel
theorem dX11_load_170 : decode cX11_load 170 = .ok (.getfield 120, 3) := by decide +kernel
theorem dX11_load_173 : decode cX11_load 173 = .ok (.iload 5, 2) := by decide +kernel
theorem dX11_load_175 : decode cX11_load 175 = .ok (.iconst 0, 1) := by decide +kernel
theorem dX11_load_176 : decode cX11_load 176 = .ok (.iastore, 1) := by decide +kernel
theorem dX11_load_177 : decode cX11_load 177 = .ok (.aload_n 0, 1) := by decide +kernel
theorem dX11_load_178 : decode cX11_load 178 = .ok (.getfield 123, 3) := by decide +kernel
theorem dX11_load_181 : decode cX11_load 181 = .ok (.iload 5, 2) := by decide +kernel
theorem dX11_load_183 : decode cX11_load 183 = .ok (.aload_n 0, 1) := by decide +kernel
theorem dX11_load_184 : decode cX11_load 184 = .ok (.getfield 178, 3) := by decide +kernel
theorem dX11_load_187 : decode cX11_load 187 = .ok (.iastore, 1) := by decide +kernel
theorem dX11_load_188 : decode cX11_load 188 = .ok (.aload_n 0, 1) := by decide +kernel
theorem dX11_load_189 : decode cX11_load 189 = .ok (.getfield 129, 3) := by decide +kernel
theorem dX11_load_192 : decode cX11_load 192 = .ok (.iload 5, 2) := by decide +kernel
theorem dX11_load_194 : decode cX11_load 194 = .ok (.iconst (-1), 1) := by decide +kernel
theorem dX11_load_195 : decode cX11_load 195 = .ok (.iastore, 1) := by decide +kernel
theorem dX11_load_196 : decode cX11_load 196 = .ok (.aload_n 0, 1) := by decide +kernel
theorem dX11_load_197 : decode cX11_load 197 = .ok (.getfield 132, 3) := by decide +kernel
theorem dX11_load_200 : decode cX11_load 200 = .ok (.iload 5, 2) := by decide +kernel
theorem dX11_load_202 : decode cX11_load 202 = .ok (.iconst (-1), 1) := by decide +kernel
theorem dX11_load_203 : decode cX11_load 203 = .ok (.iastore, 1) := by decide +kernel
theorem dX11_load_204 : decode cX11_load 204 = .ok (.aload_n 0, 1) := by decide +kernel
theorem dX11_load_205 : decode cX11_load 205 = .ok (.dup, 1) := by decide +kernel
theorem dX11_load_206 : decode cX11_load 206 = .ok (.getfield 367, 3) := by decide +kernel
theorem dX11_load_209 : decode cX11_load 209 = .ok (.iconst 1, 1) := by decide +kernel
theorem dX11_load_210 : decode cX11_load 210 = .ok (.iadd, 1) := by decide +kernel
theorem dX11_load_211 : decode cX11_load 211 = .ok (.putfield 367, 3) := by decide +kernel
theorem dX11_load_214 : decode cX11_load 214 = .ok (.iload 5, 2) := by decide +kernel
theorem dX11_load_216 : decode cX11_load 216 = .ok (.ireturn, 1) := by decide +kernel
theorem dX11_whoseNow_0 : decode cX11_whoseNow 0 = .ok (.iconst 4, 1) := by decide +kernel
theorem dX11_whoseNow_1 : decode cX11_whoseNow 1 = .ok (.istore_n 2, 1) := by decide +kernel
theorem dX11_whoseNow_2 : decode cX11_whoseNow 2 = .ok (.iconst 0, 1) := by decide +kernel
theorem dX11_whoseNow_3 : decode cX11_whoseNow 3 = .ok (.istore_n 3, 1) := by decide +kernel
theorem dX11_whoseNow_4 : decode cX11_whoseNow 4 = .ok (.iload_n 3, 1) := by decide +kernel
theorem dX11_whoseNow_5 : decode cX11_whoseNow 5 = .ok (.iconst 4, 1) := by decide +kernel
theorem dX11_whoseNow_6 : decode cX11_whoseNow 6 = .ok (.if_icmp .ge 31, 3) := by decide +kernel
theorem dX11_whoseNow_9 : decode cX11_whoseNow 9 = .ok (.aload_n 0, 1) := by decide +kernel
theorem dX11_whoseNow_10 : decode cX11_whoseNow 10 = .ok (.iload_n 3, 1) := by decide +kernel
theorem dX11_whoseNow_11 : decode cX11_whoseNow 11 = .ok (.iconst 0, 1) := by decide +kernel
theorem dX11_whoseNow_12 : decode cX11_whoseNow 12 = .ok (.iload_n 1, 1) := by decide +kernel
theorem dX11_whoseNow_13 : decode cX11_whoseNow 13 = .ok (.iconst (-1), 1) := by decide +kernel
theorem dX11_whoseNow_14 : decode cX11_whoseNow 14 = .ok (.invokevirtual 364, 3) := by decide +kernel
theorem dX11_whoseNow_17 : decode cX11_whoseNow 17 = .ok (.ifCond .eq 14, 3) := by decide +kernel
theorem dX11_whoseNow_20 : decode cX11_whoseNow 20 = .ok (.iload_n 2, 1) := by decide +kernel
theorem dX11_whoseNow_21 : decode cX11_whoseNow 21 = .ok (.iconst 4, 1) := by decide +kernel
theorem dX11_whoseNow_22 : decode cX11_whoseNow 22 = .ok (.if_icmp .ne 7, 3) := by decide +kernel
theorem dX11_whoseNow_25 : decode cX11_whoseNow 25 = .ok (.iload_n 3, 1) := by decide +kernel
theorem dX11_whoseNow_26 : decode cX11_whoseNow 26 = .ok (.goto 4, 3) := by decide +kernel
theorem dX11_whoseNow_29 : decode cX11_whoseNow 29 = .ok (.iconst 5, 1) := by decide +kernel
theorem dX11_whoseNow_30 : decode cX11_whoseNow 30 = .ok (.istore_n 2, 1) := by decide +kernel
theorem dX11_whoseNow_31 : decode cX11_whoseNow 31 = .ok (.iinc 3 1, 3) := by decide +kernel
theorem dX11_whoseNow_34 : decode cX11_whoseNow 34 = .ok (.goto (-30), 3) := by decide +kernel
theorem dX11_whoseNow_37 : decode cX11_whoseNow 37 = .ok (.iload_n 2, 1) := by decide +kernel
theorem dX11_whoseNow_38 : decode cX11_whoseNow 38 = .ok (.ireturn, 1) := by decide +kernel
theorem dX11_whose_0 : decode cX11_whose 0 = .ok (.aload_n 0, 1) := by decide +kernel
theorem dX11_whose_1 : decode cX11_whose 1 = .ok (.iload_n 1, 1) := by decide +kernel
theorem dX11_whose_2 : decode cX11_whose 2 = .ok (.invokevirtual 360, 3) := by decide +kernel
theorem dX11_whose_5 : decode cX11_whose 5 = .ok (.ifCond .eq 11, 3) := by decide +kernel
theorem dX11_whose_8 : decode cX11_whose 8 = .ok (.aload_n 0, 1) := by decide +kernel
theorem dX11_whose_9 : decode cX11_whose 9 = .ok (.iload_n 1, 1) := by decide +kernel
theorem dX11_whose_10 : decode cX11_whose 10 = .ok (.invokevirtual 371, 3) := by decide +kernel
theorem dX11_whose_13 : decode cX11_whose 13 = .ok (.goto 4, 3) := by decide +kernel
theorem dX11_whose_16 : decode cX11_whose 16 = .ok (.iconst (-1), 1) := by decide +kernel
theorem dX11_whose_17 : decode cX11_whose 17 = .ok (.ireturn, 1) := by decide +kernel
theorem dX11_mayGo_0 : decode cX11_mayGo 0 = .ok (.aload_n 0, 1) := by decide +kernel
theorem dX11_mayGo_1 : decode cX11_mayGo 1 = .ok (.getfield 153, 3) := by decide +kernel
theorem dX11_mayGo_4 : decode cX11_mayGo 4 = .ok (.iload_n 1, 1) := by decide +kernel
theorem dX11_mayGo_5 : decode cX11_mayGo 5 = .ok (.baload, 1) := by decide +kernel
theorem dX11_mayGo_6 : decode cX11_mayGo 6 = .ok (.ifCond .ne 64, 3) := by decide +kernel
theorem dX11_mayGo_9 : decode cX11_mayGo 9 = .ok (.aload_n 0, 1) := by decide +kernel
theorem dX11_mayGo_10 : decode cX11_mayGo 10 = .ok (.getfield 43, 3) := by decide +kernel
theorem dX11_mayGo_13 : decode cX11_mayGo 13 = .ok (.iload_n 1, 1) := by decide +kernel
theorem dX11_mayGo_14 : decode cX11_mayGo 14 = .ok (.iaload, 1) := by decide +kernel
theorem dX11_mayGo_15 : decode cX11_mayGo 15 = .ok (.aload_n 0, 1) := by decide +kernel
theorem dX11_mayGo_16 : decode cX11_mayGo 16 = .ok (.getfield 178, 3) := by decide +kernel
theorem dX11_mayGo_19 : decode cX11_mayGo 19 = .ok (.if_icmp .gt 51, 3) := by decide +kernel
theorem dX11_mayGo_22 : decode cX11_mayGo 22 = .ok (.aload_n 0, 1) := by decide +kernel
theorem dX11_mayGo_23 : decode cX11_mayGo 23 = .ok (.getfield 46, 3) := by decide +kernel
theorem dX11_mayGo_26 : decode cX11_mayGo 26 = .ok (.iload_n 1, 1) := by decide +kernel
theorem dX11_mayGo_27 : decode cX11_mayGo 27 = .ok (.iaload, 1) := by decide +kernel
theorem dX11_mayGo_28 : decode cX11_mayGo 28 = .ok (.aload_n 0, 1) := by decide +kernel
theorem dX11_mayGo_29 : decode cX11_mayGo 29 = .ok (.getfield 178, 3) := by decide +kernel
theorem dX11_mayGo_32 : decode cX11_mayGo 32 = .ok (.if_icmp .gt 38, 3) := by decide +kernel
theorem dX11_mayGo_35 : decode cX11_mayGo 35 = .ok (.aload_n 0, 1) := by decide +kernel
theorem dX11_mayGo_36 : decode cX11_mayGo 36 = .ok (.getfield 40, 3) := by decide +kernel
theorem dX11_mayGo_39 : decode cX11_mayGo 39 = .ok (.iload_n 1, 1) := by decide +kernel
theorem dX11_mayGo_40 : decode cX11_mayGo 40 = .ok (.iaload, 1) := by decide +kernel
theorem dX11_mayGo_41 : decode cX11_mayGo 41 = .ok (.iload_n 2, 1) := by decide +kernel
theorem dX11_mayGo_42 : decode cX11_mayGo 42 = .ok (.iadd, 1) := by decide +kernel
theorem dX11_mayGo_43 : decode cX11_mayGo 43 = .ok (.aload_n 0, 1) := by decide +kernel
theorem dX11_mayGo_44 : decode cX11_mayGo 44 = .ok (.getfield 34, 3) := by decide +kernel
theorem dX11_mayGo_47 : decode cX11_mayGo 47 = .ok (.iload_n 1, 1) := by decide +kernel
theorem dX11_mayGo_48 : decode cX11_mayGo 48 = .ok (.iaload, 1) := by decide +kernel
theorem dX11_mayGo_49 : decode cX11_mayGo 49 = .ok (.bipush 60, 2) := by decide +kernel
theorem dX11_mayGo_51 : decode cX11_mayGo 51 = .ok (.if_icmp .lt 9, 3) := by decide +kernel
theorem dX11_mayGo_54 : decode cX11_mayGo 54 = .ok (.sipush 240, 3) := by decide +kernel
theorem dX11_mayGo_57 : decode cX11_mayGo 57 = .ok (.goto 6, 3) := by decide +kernel
theorem dX11_mayGo_60 : decode cX11_mayGo 60 = .ok (.sipush 480, 3) := by decide +kernel
theorem dX11_mayGo_63 : decode cX11_mayGo 63 = .ok (.if_icmp .gt 7, 3) := by decide +kernel
theorem dX11_mayGo_66 : decode cX11_mayGo 66 = .ok (.iconst 1, 1) := by decide +kernel
theorem dX11_mayGo_67 : decode cX11_mayGo 67 = .ok (.goto 4, 3) := by decide +kernel
theorem dX11_mayGo_70 : decode cX11_mayGo 70 = .ok (.iconst 0, 1) := by decide +kernel
theorem dX11_mayGo_71 : decode cX11_mayGo 71 = .ok (.ireturn, 1) := by decide +kernel
theorem dX11_isEnough_0 : decode cX11_isEnough 0 = .ok (.iconst 0, 1) := by decide +kernel
theorem dX11_isEnough_1 : decode cX11_isEnough 1 = .ok (.istore_n 3, 1) := by decide +kernel
theorem dX11_isEnough_2 : decode cX11_isEnough 2 = .ok (.iconst 0, 1) := by decide +kernel
theorem dX11_isEnough_3 : decode cX11_isEnough 3 = .ok (.istore 4, 2) := by decide +kernel
theorem dX11_isEnough_5 : decode cX11_isEnough 5 = .ok (.iload 4, 2) := by decide +kernel
theorem dX11_isEnough_7 : decode cX11_isEnough 7 = .ok (.aload_n 0, 1) := by decide +kernel
theorem dX11_isEnough_8 : decode cX11_isEnough 8 = .ok (.getfield 374, 3) := by decide +kernel
theorem dX11_isEnough_11 : decode cX11_isEnough 11 = .ok (.if_icmp .ge 24, 3) := by decide +kernel
theorem dX11_isEnough_14 : decode cX11_isEnough 14 = .ok (.iload_n 3, 1) := by decide +kernel
theorem dX11_isEnough_15 : decode cX11_isEnough 15 = .ok (.aload_n 0, 1) := by decide +kernel
theorem dX11_isEnough_16 : decode cX11_isEnough 16 = .ok (.getfield 31, 3) := by decide +kernel
theorem dX11_isEnough_19 : decode cX11_isEnough 19 = .ok (.aload_n 0, 1) := by decide +kernel
theorem dX11_isEnough_20 : decode cX11_isEnough 20 = .ok (.getfield 150, 3) := by decide +kernel
theorem dX11_isEnough_23 : decode cX11_isEnough 23 = .ok (.iload 4, 2) := by decide +kernel
theorem dX11_isEnough_25 : decode cX11_isEnough 25 = .ok (.iaload, 1) := by decide +kernel
theorem dX11_isEnough_26 : decode cX11_isEnough 26 = .ok (.iaload, 1) := by decide +kernel
theorem dX11_isEnough_27 : decode cX11_isEnough 27 = .ok (.iadd, 1) := by decide +kernel
theorem dX11_isEnough_28 : decode cX11_isEnough 28 = .ok (.istore_n 3, 1) := by decide +kernel
theorem dX11_isEnough_29 : decode cX11_isEnough 29 = .ok (.iinc 4 1, 3) := by decide +kernel
theorem dX11_isEnough_32 : decode cX11_isEnough 32 = .ok (.goto (-27), 3) := by decide +kernel
theorem dX11_isEnough_35 : decode cX11_isEnough 35 = .ok (.aload_n 0, 1) := by decide +kernel
theorem dX11_isEnough_36 : decode cX11_isEnough 36 = .ok (.getfield 374, 3) := by decide +kernel
theorem dX11_isEnough_39 : decode cX11_isEnough 39 = .ok (.iload_n 2, 1) := by decide +kernel
theorem dX11_isEnough_40 : decode cX11_isEnough 40 = .ok (.if_icmp .lt 36, 3) := by decide +kernel
theorem dX11_isEnough_43 : decode cX11_isEnough 43 = .ok (.iconst 4, 1) := by decide +kernel
theorem dX11_isEnough_44 : decode cX11_isEnough 44 = .ok (.iload_n 3, 1) := by decide +kernel
theorem dX11_isEnough_45 : decode cX11_isEnough 45 = .ok (.imul, 1) := by decide +kernel
theorem dX11_isEnough_46 : decode cX11_isEnough 46 = .ok (.aload_n 0, 1) := by decide +kernel
theorem dX11_isEnough_47 : decode cX11_isEnough 47 = .ok (.getfield 105, 3) := by decide +kernel
theorem dX11_isEnough_50 : decode cX11_isEnough 50 = .ok (.iload_n 1, 1) := by decide +kernel
theorem dX11_isEnough_51 : decode cX11_isEnough 51 = .ok (.iaload, 1) := by decide +kernel
theorem dX11_isEnough_52 : decode cX11_isEnough 52 = .ok (.aload_n 0, 1) := by decide +kernel
theorem dX11_isEnough_53 : decode cX11_isEnough 53 = .ok (.aload_n 0, 1) := by decide +kernel
theorem dX11_isEnough_54 : decode cX11_isEnough 54 = .ok (.getfield 108, 3) := by decide +kernel
theorem dX11_isEnough_57 : decode cX11_isEnough 57 = .ok (.iload_n 1, 1) := by decide +kernel
theorem dX11_isEnough_58 : decode cX11_isEnough 58 = .ok (.iaload, 1) := by decide +kernel
theorem dX11_isEnough_59 : decode cX11_isEnough 59 = .ok (.aload_n 0, 1) := by decide +kernel
theorem dX11_isEnough_60 : decode cX11_isEnough 60 = .ok (.getfield 111, 3) := by decide +kernel
theorem dX11_isEnough_63 : decode cX11_isEnough 63 = .ok (.iload_n 1, 1) := by decide +kernel
theorem dX11_isEnough_64 : decode cX11_isEnough 64 = .ok (.iaload, 1) := by decide +kernel
theorem dX11_isEnough_65 : decode cX11_isEnough 65 = .ok (.invokevirtual 201, 3) := by decide +kernel
theorem dX11_isEnough_68 : decode cX11_isEnough 68 = .ok (.iadd, 1) := by decide +kernel
theorem dX11_isEnough_69 : decode cX11_isEnough 69 = .ok (.if_icmp .lt 7, 3) := by decide +kernel
theorem dX11_isEnough_72 : decode cX11_isEnough 72 = .ok (.iconst 1, 1) := by decide +kernel
theorem dX11_isEnough_73 : decode cX11_isEnough 73 = .ok (.goto 4, 3) := by decide +kernel
theorem dX11_isEnough_76 : decode cX11_isEnough 76 = .ok (.iconst 0, 1) := by decide +kernel
theorem dX11_isEnough_77 : decode cX11_isEnough 77 = .ok (.ireturn, 1) := by decide +kernel
theorem dX11_take_0 : decode cX11_take 0 = .ok (.aload_n 0, 1) := by decide +kernel
theorem dX11_take_1 : decode cX11_take 1 = .ok (.aload_n 0, 1) := by decide +kernel
theorem dX11_take_2 : decode cX11_take 2 = .ok (.getfield 108, 3) := by decide +kernel
theorem dX11_take_5 : decode cX11_take 5 = .ok (.iload_n 2, 1) := by decide +kernel
theorem dX11_take_6 : decode cX11_take 6 = .ok (.iaload, 1) := by decide +kernel
theorem dX11_take_7 : decode cX11_take 7 = .ok (.aload_n 0, 1) := by decide +kernel
theorem dX11_take_8 : decode cX11_take 8 = .ok (.getfield 111, 3) := by decide +kernel
theorem dX11_take_11 : decode cX11_take 11 = .ok (.iload_n 2, 1) := by decide +kernel
theorem dX11_take_12 : decode cX11_take 12 = .ok (.iaload, 1) := by decide +kernel
theorem dX11_take_13 : decode cX11_take 13 = .ok (.invokevirtual 207, 3) := by decide +kernel
theorem dX11_take_16 : decode cX11_take 16 = .ok (.istore 4, 2) := by decide +kernel
theorem dX11_take_18 : decode cX11_take 18 = .ok (.aload_n 0, 1) := by decide +kernel
theorem dX11_take_19 : decode cX11_take 19 = .ok (.iload_n 1, 1) := by decide +kernel
theorem dX11_take_20 : decode cX11_take 20 = .ok (.iconst 2, 1) := by decide +kernel
theorem dX11_take_21 : decode cX11_take 21 = .ok (.iload_n 2, 1) := by decide +kernel
theorem dX11_take_22 : decode cX11_take 22 = .ok (.iconst (-1), 1) := by decide +kernel
theorem dX11_take_23 : decode cX11_take 23 = .ok (.invokevirtual 364, 3) := by decide +kernel
theorem dX11_take_26 : decode cX11_take 26 = .ok (.istore 5, 2) := by decide +kernel
theorem dX11_take_28 : decode cX11_take 28 = .ok (.iload 5, 2) := by decide +kernel
theorem dX11_take_30 : decode cX11_take 30 = .ok (.iconst 1, 1) := by decide +kernel
theorem dX11_take_31 : decode cX11_take 31 = .ok (.if_icmp .ge 7, 3) := by decide +kernel
theorem dX11_take_34 : decode cX11_take 34 = .ok (.iconst 1, 1) := by decide +kernel
theorem dX11_take_35 : decode cX11_take 35 = .ok (.goto 17, 3) := by decide +kernel
theorem dX11_take_38 : decode cX11_take 38 = .ok (.iload 5, 2) := by decide +kernel
theorem dX11_take_40 : decode cX11_take 40 = .ok (.bipush 8, 2) := by decide +kernel
theorem dX11_take_42 : decode cX11_take 42 = .ok (.if_icmp .le 8, 3) := by decide +kernel
theorem dX11_take_45 : decode cX11_take 45 = .ok (.bipush 8, 2) := by decide +kernel
theorem dX11_take_47 : decode cX11_take 47 = .ok (.goto 5, 3) := by decide +kernel
theorem dX11_take_50 : decode cX11_take 50 = .ok (.iload 5, 2) := by decide +kernel
theorem dX11_take_52 : decode cX11_take 52 = .ok (.istore 5, 2) := by decide +kernel
theorem dX11_take_54 : decode cX11_take 54 = .ok (.aload_n 0, 1) := by decide +kernel
theorem dX11_take_55 : decode cX11_take 55 = .ok (.iconst 0, 1) := by decide +kernel
theorem dX11_take_56 : decode cX11_take 56 = .ok (.putfield 374, 3) := by decide +kernel
theorem dX11_take_59 : decode cX11_take 59 = .ok (.iconst 0, 1) := by decide +kernel
theorem dX11_take_60 : decode cX11_take 60 = .ok (.istore 6, 2) := by decide +kernel
theorem dX11_take_62 : decode cX11_take 62 = .ok (.iload 6, 2) := by decide +kernel
theorem dX11_take_64 : decode cX11_take 64 = .ok (.aload_n 0, 1) := by decide +kernel
theorem dX11_take_65 : decode cX11_take 65 = .ok (.getfield 210, 3) := by decide +kernel
theorem dX11_take_68 : decode cX11_take 68 = .ok (.if_icmp .ge 17, 3) := by decide +kernel
theorem dX11_take_71 : decode cX11_take 71 = .ok (.aload_n 0, 1) := by decide +kernel
theorem dX11_take_72 : decode cX11_take 72 = .ok (.getfield 153, 3) := by decide +kernel
theorem dX11_take_75 : decode cX11_take 75 = .ok (.iload 6, 2) := by decide +kernel
theorem dX11_take_77 : decode cX11_take 77 = .ok (.iconst 0, 1) := by decide +kernel
theorem dX11_take_78 : decode cX11_take 78 = .ok (.bastore, 1) := by decide +kernel
theorem dX11_take_79 : decode cX11_take 79 = .ok (.iinc 6 1, 3) := by decide +kernel
theorem dX11_take_82 : decode cX11_take 82 = .ok (.goto (-20), 3) := by decide +kernel
theorem dX11_take_85 : decode cX11_take 85 = .ok (.aload_n 0, 1) := by decide +kernel
theorem dX11_take_86 : decode cX11_take 86 = .ok (.getfield 374, 3) := by decide +kernel
theorem dX11_take_89 : decode cX11_take 89 = .ok (.bipush 8, 2) := by decide +kernel
theorem dX11_take_91 : decode cX11_take 91 = .ok (.if_icmp .ge 230, 3) := by decide +kernel
theorem dX11_take_94 : decode cX11_take 94 = .ok (.aload_n 0, 1) := by decide +kernel
theorem dX11_take_95 : decode cX11_take 95 = .ok (.iload_n 2, 1) := by decide +kernel
theorem dX11_take_96 : decode cX11_take 96 = .ok (.iload 5, 2) := by decide +kernel
theorem dX11_take_98 : decode cX11_take 98 = .ok (.invokevirtual 377, 3) := by decide +kernel
theorem dX11_take_101 : decode cX11_take 101 = .ok (.ifCond .ne 220, 3) := by decide +kernel
theorem dX11_take_104 : decode cX11_take 104 = .ok (.iconst 0, 1) := by decide +kernel
theorem dX11_take_105 : decode cX11_take 105 = .ok (.istore 6, 2) := by decide +kernel
theorem dX11_take_107 : decode cX11_take 107 = .ok (.iconst 0, 1) := by decide +kernel
theorem dX11_take_108 : decode cX11_take 108 = .ok (.istore 7, 2) := by decide +kernel
theorem dX11_take_110 : decode cX11_take 110 = .ok (.iload 7, 2) := by decide +kernel
theorem dX11_take_112 : decode cX11_take 112 = .ok (.aload_n 0, 1) := by decide +kernel
theorem dX11_take_113 : decode cX11_take 113 = .ok (.getfield 56, 3) := by decide +kernel
theorem dX11_take_116 : decode cX11_take 116 = .ok (.iload_n 1, 1) := by decide +kernel
theorem dX11_take_117 : decode cX11_take 117 = .ok (.iaload, 1) := by decide +kernel
theorem dX11_take_118 : decode cX11_take 118 = .ok (.if_icmp .ge 40, 3) := by decide +kernel
theorem dX11_take_121 : decode cX11_take 121 = .ok (.iload 6, 2) := by decide +kernel
theorem dX11_take_123 : decode cX11_take 123 = .ok (.aload_n 0, 1) := by decide +kernel
theorem dX11_take_124 : decode cX11_take 124 = .ok (.aload_n 0, 1) := by decide +kernel
theorem dX11_take_125 : decode cX11_take 125 = .ok (.getfield 59, 3) := by decide +kernel
theorem dX11_take_128 : decode cX11_take 128 = .ok (.bipush 60, 2) := by decide +kernel
theorem dX11_take_130 : decode cX11_take 130 = .ok (.iload_n 1, 1) := by decide +kernel
theorem dX11_take_131 : decode cX11_take 131 = .ok (.imul, 1) := by decide +kernel
theorem dX11_take_132 : decode cX11_take 132 = .ok (.iload 7, 2) := by decide +kernel
theorem dX11_take_134 : decode cX11_take 134 = .ok (.iadd, 1) := by decide +kernel
theorem dX11_take_135 : decode cX11_take 135 = .ok (.iaload, 1) := by decide +kernel
theorem dX11_take_136 : decode cX11_take 136 = .ok (.iload 4, 2) := by decide +kernel
theorem dX11_take_138 : decode cX11_take 138 = .ok (.invokevirtual 381, 3) := by decide +kernel
theorem dX11_take_141 : decode cX11_take 141 = .ok (.ifCond .eq 7, 3) := by decide +kernel
theorem dX11_take_144 : decode cX11_take 144 = .ok (.iconst 1, 1) := by decide +kernel
theorem dX11_take_145 : decode cX11_take 145 = .ok (.goto 4, 3) := by decide +kernel
theorem dX11_take_148 : decode cX11_take 148 = .ok (.iconst 0, 1) := by decide +kernel
theorem dX11_take_149 : decode cX11_take 149 = .ok (.iadd, 1) := by decide +kernel
theorem dX11_take_150 : decode cX11_take 150 = .ok (.istore 6, 2) := by decide +kernel
theorem dX11_take_152 : decode cX11_take 152 = .ok (.iinc 7 1, 3) := by decide +kernel
theorem dX11_take_155 : decode cX11_take 155 = .ok (.goto (-45), 3) := by decide +kernel
theorem dX11_take_158 : decode cX11_take 158 = .ok (.iload 6, 2) := by decide +kernel
theorem dX11_take_160 : decode cX11_take 160 = .ok (.ifCond .ne 5, 3) := by decide +kernel
theorem dX11_take_163 : decode cX11_take 163 = .ok (.iconst 0, 1) := by decide +kernel
theorem dX11_take_164 : decode cX11_take 164 = .ok (.ireturn, 1) := by decide +kernel
theorem dX11_take_165 : decode cX11_take 165 = .ok (.iconst 0, 1) := by decide +kernel
theorem dX11_take_166 : decode cX11_take 166 = .ok (.istore 7, 2) := by decide +kernel
theorem dX11_take_168 : decode cX11_take 168 = .ok (.iload_n 3, 1) := by decide +kernel
theorem dX11_take_169 : decode cX11_take 169 = .ok (.ifCond .eq 37, 3) := by decide +kernel
theorem dX11_take_172 : decode cX11_take 172 = .ok (.aload_n 0, 1) := by decide +kernel
theorem dX11_take_173 : decode cX11_take 173 = .ok (.getfield 65, 3) := by decide +kernel
theorem dX11_take_176 : decode cX11_take 176 = .ok (.iload_n 1, 1) := by decide +kernel
theorem dX11_take_177 : decode cX11_take 177 = .ok (.aload_n 0, 1) := by decide +kernel
theorem dX11_take_178 : decode cX11_take 178 = .ok (.getfield 65, 3) := by decide +kernel
theorem dX11_take_181 : decode cX11_take 181 = .ok (.iload_n 1, 1) := by decide +kernel
theorem dX11_take_182 : decode cX11_take 182 = .ok (.iaload, 1) := by decide +kernel
theorem dX11_take_183 : decode cX11_take 183 = .ok (.ldc_w 384, 3) := by decide +kernel
theorem dX11_take_186 : decode cX11_take 186 = .ok (.imul, 1) := by decide +kernel
theorem dX11_take_187 : decode cX11_take 187 = .ok (.sipush 12345, 3) := by decide +kernel
theorem dX11_take_190 : decode cX11_take 190 = .ok (.iadd, 1) := by decide +kernel
theorem dX11_take_191 : decode cX11_take 191 = .ok (.iastore, 1) := by decide +kernel
theorem dX11_take_192 : decode cX11_take 192 = .ok (.aload_n 0, 1) := by decide +kernel
theorem dX11_take_193 : decode cX11_take 193 = .ok (.getfield 65, 3) := by decide +kernel
theorem dX11_take_196 : decode cX11_take 196 = .ok (.iload_n 1, 1) := by decide +kernel
theorem dX11_take_197 : decode cX11_take 197 = .ok (.iaload, 1) := by decide +kernel
theorem dX11_take_198 : decode cX11_take 198 = .ok (.bipush 8, 2) := by decide +kernel
theorem dX11_take_200 : decode cX11_take 200 = .ok (.iushr, 1) := by decide +kernel
theorem dX11_take_201 : decode cX11_take 201 = .ok (.iload 6, 2) := by decide +kernel
theorem dX11_take_203 : decode cX11_take 203 = .ok (.irem, 1) := by decide +kernel
theorem dX11_take_204 : decode cX11_take 204 = .ok (.istore 7, 2) := by decide +kernel
theorem dX11_take_206 : decode cX11_take 206 = .ok (.iconst 0, 1) := by decide +kernel
theorem dX11_take_207 : decode cX11_take 207 = .ok (.istore 8, 2) := by decide +kernel
theorem dX11_take_209 : decode cX11_take 209 = .ok (.aload_n 0, 1) := by decide +kernel
theorem dX11_take_210 : decode cX11_take 210 = .ok (.aload_n 0, 1) := by decide +kernel
theorem dX11_take_211 : decode cX11_take 211 = .ok (.getfield 59, 3) := by decide +kernel
theorem dX11_take_214 : decode cX11_take 214 = .ok (.bipush 60, 2) := by decide +kernel
theorem dX11_take_216 : decode cX11_take 216 = .ok (.iload_n 1, 1) := by decide +kernel
theorem dX11_take_217 : decode cX11_take 217 = .ok (.imul, 1) := by decide +kernel
theorem dX11_take_218 : decode cX11_take 218 = .ok (.iload 8, 2) := by decide +kernel
theorem dX11_take_220 : decode cX11_take 220 = .ok (.iadd, 1) := by decide +kernel
theorem dX11_take_221 : decode cX11_take 221 = .ok (.iaload, 1) := by decide +kernel
theorem dX11_take_222 : decode cX11_take 222 = .ok (.iload 4, 2) := by decide +kernel
theorem dX11_take_224 : decode cX11_take 224 = .ok (.invokevirtual 381, 3) := by decide +kernel
theorem dX11_take_227 : decode cX11_take 227 = .ok (.ifCond .eq 8, 3) := by decide +kernel
theorem dX11_take_230 : decode cX11_take 230 = .ok (.iload 7, 2) := by decide +kernel
theorem dX11_take_232 : decode cX11_take 232 = .ok (.ifCond .le 40, 3) := by decide +kernel
theorem dX11_take_235 : decode cX11_take 235 = .ok (.iload 7, 2) := by decide +kernel
theorem dX11_take_237 : decode cX11_take 237 = .ok (.aload_n 0, 1) := by decide +kernel
theorem dX11_take_238 : decode cX11_take 238 = .ok (.aload_n 0, 1) := by decide +kernel
theorem dX11_take_239 : decode cX11_take 239 = .ok (.getfield 59, 3) := by decide +kernel
theorem dX11_take_242 : decode cX11_take 242 = .ok (.bipush 60, 2) := by decide +kernel
theorem dX11_take_244 : decode cX11_take 244 = .ok (.iload_n 1, 1) := by decide +kernel
theorem dX11_take_245 : decode cX11_take 245 = .ok (.imul, 1) := by decide +kernel
theorem dX11_take_246 : decode cX11_take 246 = .ok (.iload 8, 2) := by decide +kernel
theorem dX11_take_248 : decode cX11_take 248 = .ok (.iadd, 1) := by decide +kernel
theorem dX11_take_249 : decode cX11_take 249 = .ok (.iaload, 1) := by decide +kernel
theorem dX11_take_250 : decode cX11_take 250 = .ok (.iload 4, 2) := by decide +kernel
theorem dX11_take_252 : decode cX11_take 252 = .ok (.invokevirtual 381, 3) := by decide +kernel
theorem dX11_take_255 : decode cX11_take 255 = .ok (.ifCond .eq 7, 3) := by decide +kernel
theorem dX11_take_258 : decode cX11_take 258 = .ok (.iconst 1, 1) := by decide +kernel
theorem dX11_take_259 : decode cX11_take 259 = .ok (.goto 4, 3) := by decide +kernel
theorem dX11_take_262 : decode cX11_take 262 = .ok (.iconst 0, 1) := by decide +kernel
theorem dX11_take_263 : decode cX11_take 263 = .ok (.isub, 1) := by decide +kernel
theorem dX11_take_264 : decode cX11_take 264 = .ok (.istore 7, 2) := by decide +kernel
theorem dX11_take_266 : decode cX11_take 266 = .ok (.iinc 8 1, 3) := by decide +kernel
theorem dX11_take_269 : decode cX11_take 269 = .ok (.goto (-60), 3) := by decide +kernel
theorem dX11_take_272 : decode cX11_take 272 = .ok (.aload_n 0, 1) := by decide +kernel
theorem dX11_take_273 : decode cX11_take 273 = .ok (.getfield 150, 3) := by decide +kernel
theorem dX11_take_276 : decode cX11_take 276 = .ok (.aload_n 0, 1) := by decide +kernel
theorem dX11_take_277 : decode cX11_take 277 = .ok (.getfield 374, 3) := by decide +kernel
theorem dX11_take_280 : decode cX11_take 280 = .ok (.aload_n 0, 1) := by decide +kernel
theorem dX11_take_281 : decode cX11_take 281 = .ok (.getfield 59, 3) := by decide +kernel
theorem dX11_take_284 : decode cX11_take 284 = .ok (.bipush 60, 2) := by decide +kernel
theorem dX11_take_286 : decode cX11_take 286 = .ok (.iload_n 1, 1) := by decide +kernel
theorem dX11_take_287 : decode cX11_take 287 = .ok (.imul, 1) := by decide +kernel
theorem dX11_take_288 : decode cX11_take 288 = .ok (.iload 8, 2) := by decide +kernel
theorem dX11_take_290 : decode cX11_take 290 = .ok (.iadd, 1) := by decide +kernel
theorem dX11_take_291 : decode cX11_take 291 = .ok (.iaload, 1) := by decide +kernel
theorem dX11_take_292 : decode cX11_take 292 = .ok (.iastore, 1) := by decide +kernel
theorem dX11_take_293 : decode cX11_take 293 = .ok (.aload_n 0, 1) := by decide +kernel
theorem dX11_take_294 : decode cX11_take 294 = .ok (.getfield 153, 3) := by decide +kernel
theorem dX11_take_297 : decode cX11_take 297 = .ok (.aload_n 0, 1) := by decide +kernel
theorem dX11_take_298 : decode cX11_take 298 = .ok (.getfield 150, 3) := by decide +kernel
theorem dX11_take_301 : decode cX11_take 301 = .ok (.aload_n 0, 1) := by decide +kernel
theorem dX11_take_302 : decode cX11_take 302 = .ok (.getfield 374, 3) := by decide +kernel
theorem dX11_take_305 : decode cX11_take 305 = .ok (.iaload, 1) := by decide +kernel
theorem dX11_take_306 : decode cX11_take 306 = .ok (.iconst 1, 1) := by decide +kernel
theorem dX11_take_307 : decode cX11_take 307 = .ok (.bastore, 1) := by decide +kernel
theorem dX11_take_308 : decode cX11_take 308 = .ok (.aload_n 0, 1) := by decide +kernel
theorem dX11_take_309 : decode cX11_take 309 = .ok (.dup, 1) := by decide +kernel
theorem dX11_take_310 : decode cX11_take 310 = .ok (.getfield 374, 3) := by decide +kernel
theorem dX11_take_313 : decode cX11_take 313 = .ok (.iconst 1, 1) := by decide +kernel
theorem dX11_take_314 : decode cX11_take 314 = .ok (.iadd, 1) := by decide +kernel
theorem dX11_take_315 : decode cX11_take 315 = .ok (.putfield 374, 3) := by decide +kernel
theorem dX11_take_318 : decode cX11_take 318 = .ok (.goto (-233), 3) := by decide +kernel
theorem dX11_take_321 : decode cX11_take 321 = .ok (.aload_n 0, 1) := by decide +kernel
theorem dX11_take_322 : decode cX11_take 322 = .ok (.iload_n 2, 1) := by decide +kernel
theorem dX11_take_323 : decode cX11_take 323 = .ok (.iload 5, 2) := by decide +kernel
theorem dX11_take_325 : decode cX11_take 325 = .ok (.invokevirtual 377, 3) := by decide +kernel
theorem dX11_take_328 : decode cX11_take 328 = .ok (.ireturn, 1) := by decide +kernel
theorem dX11_isWet_0 : decode cX11_isWet 0 = .ok (.aload_n 0, 1) := by decide +kernel
theorem dX11_isWet_1 : decode cX11_isWet 1 = .ok (.getfield 178, 3) := by decide +kernel
theorem dX11_isWet_4 : decode cX11_isWet 4 = .ok (.sipush 600, 3) := by decide +kernel
theorem dX11_isWet_7 : decode cX11_isWet 7 = .ok (.irem, 1) := by decide +kernel
theorem dX11_isWet_8 : decode cX11_isWet 8 = .ok (.aload_n 0, 1) := by decide +kernel
theorem dX11_isWet_9 : decode cX11_isWet 9 = .ok (.getfield 22, 3) := by decide +kernel
theorem dX11_isWet_12 : decode cX11_isWet 12 = .ok (.iload_n 1, 1) := by decide +kernel
theorem dX11_isWet_13 : decode cX11_isWet 13 = .ok (.iaload, 1) := by decide +kernel
theorem dX11_isWet_14 : decode cX11_isWet 14 = .ok (.aload_n 0, 1) := by decide +kernel
theorem dX11_isWet_15 : decode cX11_isWet 15 = .ok (.getfield 25, 3) := by decide +kernel
theorem dX11_isWet_18 : decode cX11_isWet 18 = .ok (.iload_n 1, 1) := by decide +kernel
theorem dX11_isWet_19 : decode cX11_isWet 19 = .ok (.iaload, 1) := by decide +kernel
theorem dX11_isWet_20 : decode cX11_isWet 20 = .ok (.iconst 1, 1) := by decide +kernel
theorem dX11_isWet_21 : decode cX11_isWet 21 = .ok (.isub, 1) := by decide +kernel
theorem dX11_isWet_22 : decode cX11_isWet 22 = .ok (.invokestatic 184, 3) := by decide +kernel
theorem dX11_isWet_25 : decode cX11_isWet 25 = .ok (.ireturn, 1) := by decide +kernel
theorem dX11_hinders_0 : decode cX11_hinders 0 = .ok (.aload_n 0, 1) := by decide +kernel
theorem dX11_hinders_1 : decode cX11_hinders 1 = .ok (.getfield 120, 3) := by decide +kernel
theorem dX11_hinders_4 : decode cX11_hinders 4 = .ok (.iload_n 2, 1) := by decide +kernel
theorem dX11_hinders_5 : decode cX11_hinders 5 = .ok (.iaload, 1) := by decide +kernel
theorem dX11_hinders_6 : decode cX11_hinders 6 = .ok (.ifCond .eq 5, 3) := by decide +kernel
theorem dX11_hinders_9 : decode cX11_hinders 9 = .ok (.iconst 1, 1) := by decide +kernel
theorem dX11_hinders_10 : decode cX11_hinders 10 = .ok (.ireturn, 1) := by decide +kernel
theorem dX11_hinders_11 : decode cX11_hinders 11 = .ok (.aload_n 0, 1) := by decide +kernel
theorem dX11_hinders_12 : decode cX11_hinders 12 = .ok (.iload_n 2, 1) := by decide +kernel
theorem dX11_hinders_13 : decode cX11_hinders 13 = .ok (.invokevirtual 371, 3) := by decide +kernel
theorem dX11_hinders_16 : decode cX11_hinders 16 = .ok (.istore_n 3, 1) := by decide +kernel
theorem dX11_hinders_17 : decode cX11_hinders 17 = .ok (.iload_n 3, 1) := by decide +kernel
theorem dX11_hinders_18 : decode cX11_hinders 18 = .ok (.iconst 5, 1) := by decide +kernel
theorem dX11_hinders_19 : decode cX11_hinders 19 = .ok (.if_icmp .ne 5, 3) := by decide +kernel
theorem dX11_hinders_22 : decode cX11_hinders 22 = .ok (.iconst 2, 1) := by decide +kernel
theorem dX11_hinders_23 : decode cX11_hinders 23 = .ok (.ireturn, 1) := by decide +kernel
theorem dX11_hinders_24 : decode cX11_hinders 24 = .ok (.iload_n 3, 1) := by decide +kernel
theorem dX11_hinders_25 : decode cX11_hinders 25 = .ok (.iconst 4, 1) := by decide +kernel
theorem dX11_hinders_26 : decode cX11_hinders 26 = .ok (.if_icmp .eq 10, 3) := by decide +kernel
theorem dX11_hinders_29 : decode cX11_hinders 29 = .ok (.iload_n 3, 1) := by decide +kernel
theorem dX11_hinders_30 : decode cX11_hinders 30 = .ok (.iload_n 1, 1) := by decide +kernel
theorem dX11_hinders_31 : decode cX11_hinders 31 = .ok (.if_icmp .eq 5, 3) := by decide +kernel
theorem dX11_hinders_34 : decode cX11_hinders 34 = .ok (.iconst 3, 1) := by decide +kernel
theorem dX11_hinders_35 : decode cX11_hinders 35 = .ok (.ireturn, 1) := by decide +kernel
theorem dX11_hinders_36 : decode cX11_hinders 36 = .ok (.aload_n 0, 1) := by decide +kernel
theorem dX11_hinders_37 : decode cX11_hinders 37 = .ok (.aload_n 0, 1) := by decide +kernel
theorem dX11_hinders_38 : decode cX11_hinders 38 = .ok (.getfield 108, 3) := by decide +kernel
theorem dX11_hinders_41 : decode cX11_hinders 41 = .ok (.iload_n 2, 1) := by decide +kernel
theorem dX11_hinders_42 : decode cX11_hinders 42 = .ok (.iaload, 1) := by decide +kernel
theorem dX11_hinders_43 : decode cX11_hinders 43 = .ok (.invokevirtual 385, 3) := by decide +kernel
theorem dX11_hinders_46 : decode cX11_hinders 46 = .ok (.ifCond .eq 5, 3) := by decide +kernel
theorem dX11_hinders_49 : decode cX11_hinders 49 = .ok (.iconst 4, 1) := by decide +kernel
theorem dX11_hinders_50 : decode cX11_hinders 50 = .ok (.ireturn, 1) := by decide +kernel
theorem dX11_hinders_51 : decode cX11_hinders 51 = .ok (.aload_n 0, 1) := by decide +kernel
theorem dX11_hinders_52 : decode cX11_hinders 52 = .ok (.getfield 102, 3) := by decide +kernel
theorem dX11_hinders_55 : decode cX11_hinders 55 = .ok (.iload_n 2, 1) := by decide +kernel
theorem dX11_hinders_56 : decode cX11_hinders 56 = .ok (.iaload, 1) := by decide +kernel
theorem dX11_hinders_57 : decode cX11_hinders 57 = .ok (.ifCond .ne 18, 3) := by decide +kernel
theorem dX11_hinders_60 : decode cX11_hinders 60 = .ok (.aload_n 0, 1) := by decide +kernel
theorem dX11_hinders_61 : decode cX11_hinders 61 = .ok (.aload_n 0, 1) := by decide +kernel
theorem dX11_hinders_62 : decode cX11_hinders 62 = .ok (.getfield 178, 3) := by decide +kernel
theorem dX11_hinders_65 : decode cX11_hinders 65 = .ok (.invokevirtual 204, 3) := by decide +kernel
theorem dX11_hinders_68 : decode cX11_hinders 68 = .ok (.ifCond .eq 7, 3) := by decide +kernel
theorem dX11_hinders_71 : decode cX11_hinders 71 = .ok (.iconst 5, 1) := by decide +kernel
theorem dX11_hinders_72 : decode cX11_hinders 72 = .ok (.goto 4, 3) := by decide +kernel
theorem dX11_hinders_75 : decode cX11_hinders 75 = .ok (.iconst 0, 1) := by decide +kernel
theorem dX11_hinders_76 : decode cX11_hinders 76 = .ok (.ireturn, 1) := by decide +kernel
theorem dX11_why_0 : decode cX11_why 0 = .ok (.iload_n 1, 1) := by decide +kernel
theorem dX11_why_1 : decode cX11_why 1 = .ok (.invokestatic 213, 3) := by decide +kernel
theorem dX11_why_4 : decode cX11_why 4 = .ok (.ifCond .eq 11, 3) := by decide +kernel
theorem dX11_why_7 : decode cX11_why 7 = .ok (.aload_n 0, 1) := by decide +kernel
theorem dX11_why_8 : decode cX11_why 8 = .ok (.iload_n 2, 1) := by decide +kernel
theorem dX11_why_9 : decode cX11_why 9 = .ok (.invokevirtual 360, 3) := by decide +kernel
theorem dX11_why_12 : decode cX11_why 12 = .ok (.ifCond .ne 5, 3) := by decide +kernel
theorem dX11_why_15 : decode cX11_why 15 = .ok (.iconst (-1), 1) := by decide +kernel
theorem dX11_why_16 : decode cX11_why 16 = .ok (.ireturn, 1) := by decide +kernel
theorem dX11_why_17 : decode cX11_why 17 = .ok (.aload_n 0, 1) := by decide +kernel
theorem dX11_why_18 : decode cX11_why 18 = .ok (.iload_n 1, 1) := by decide +kernel
theorem dX11_why_19 : decode cX11_why 19 = .ok (.iload_n 2, 1) := by decide +kernel
theorem dX11_why_20 : decode cX11_why 20 = .ok (.invokevirtual 388, 3) := by decide +kernel
theorem dX11_why_23 : decode cX11_why 23 = .ok (.istore_n 3, 1) := by decide +kernel
theorem dX11_why_24 : decode cX11_why 24 = .ok (.iload_n 3, 1) := by decide +kernel
theorem dX11_why_25 : decode cX11_why 25 = .ok (.ifCond .le 7, 3) := by decide +kernel
theorem dX11_why_28 : decode cX11_why 28 = .ok (.iload_n 3, 1) := by decide +kernel
theorem dX11_why_29 : decode cX11_why 29 = .ok (.goto 19, 3) := by decide +kernel
theorem dX11_why_32 : decode cX11_why 32 = .ok (.aload_n 0, 1) := by decide +kernel
theorem dX11_why_33 : decode cX11_why 33 = .ok (.iload_n 1, 1) := by decide +kernel
theorem dX11_why_34 : decode cX11_why 34 = .ok (.iload_n 2, 1) := by decide +kernel
theorem dX11_why_35 : decode cX11_why 35 = .ok (.iconst 0, 1) := by decide +kernel
theorem dX11_why_36 : decode cX11_why 36 = .ok (.invokevirtual 391, 3) := by decide +kernel
theorem dX11_why_39 : decode cX11_why 39 = .ok (.ifCond .eq 7, 3) := by decide +kernel
theorem dX11_why_42 : decode cX11_why 42 = .ok (.iconst 0, 1) := by decide +kernel
theorem dX11_why_43 : decode cX11_why 43 = .ok (.goto 5, 3) := by decide +kernel
theorem dX11_why_46 : decode cX11_why 46 = .ok (.bipush 6, 2) := by decide +kernel
theorem dX11_why_48 : decode cX11_why 48 = .ok (.ireturn, 1) := by decide +kernel
theorem dX11_clamp_0 : decode cX11_clamp 0 = .ok (.iload_n 0, 1) := by decide +kernel
theorem dX11_clamp_1 : decode cX11_clamp 1 = .ok (.ifCond .ge 7, 3) := by decide +kernel
theorem dX11_clamp_4 : decode cX11_clamp 4 = .ok (.iconst 0, 1) := by decide +kernel
theorem dX11_clamp_5 : decode cX11_clamp 5 = .ok (.goto 13, 3) := by decide +kernel
theorem dX11_clamp_8 : decode cX11_clamp 8 = .ok (.iload_n 0, 1) := by decide +kernel
theorem dX11_clamp_9 : decode cX11_clamp 9 = .ok (.iload_n 1, 1) := by decide +kernel
theorem dX11_clamp_10 : decode cX11_clamp 10 = .ok (.if_icmp .le 7, 3) := by decide +kernel
theorem dX11_clamp_13 : decode cX11_clamp 13 = .ok (.iload_n 1, 1) := by decide +kernel
theorem dX11_clamp_14 : decode cX11_clamp 14 = .ok (.goto 4, 3) := by decide +kernel
theorem dX11_clamp_17 : decode cX11_clamp 17 = .ok (.iload_n 0, 1) := by decide +kernel
theorem dX11_clamp_18 : decode cX11_clamp 18 = .ok (.ireturn, 1) := by decide +kernel
theorem dX11_send_0 : decode cX11_send 0 = .ok (.iload_n 1, 1) := by decide +kernel
theorem dX11_send_1 : decode cX11_send 1 = .ok (.invokestatic 213, 3) := by decide +kernel
theorem dX11_send_4 : decode cX11_send 4 = .ok (.ifCond .eq 11, 3) := by decide +kernel
theorem dX11_send_7 : decode cX11_send 7 = .ok (.aload_n 0, 1) := by decide +kernel
theorem dX11_send_8 : decode cX11_send 8 = .ok (.iload_n 2, 1) := by decide +kernel
theorem dX11_send_9 : decode cX11_send 9 = .ok (.invokevirtual 360, 3) := by decide +kernel
theorem dX11_send_12 : decode cX11_send 12 = .ok (.ifCond .ne 5, 3) := by decide +kernel
theorem dX11_send_15 : decode cX11_send 15 = .ok (.iconst (-1), 1) := by decide +kernel
theorem dX11_send_16 : decode cX11_send 16 = .ok (.ireturn, 1) := by decide +kernel
theorem dX11_send_17 : decode cX11_send 17 = .ok (.aload_n 0, 1) := by decide +kernel
theorem dX11_send_18 : decode cX11_send 18 = .ok (.iload_n 1, 1) := by decide +kernel
theorem dX11_send_19 : decode cX11_send 19 = .ok (.iload_n 2, 1) := by decide +kernel
theorem dX11_send_20 : decode cX11_send 20 = .ok (.invokevirtual 388, 3) := by decide +kernel
theorem dX11_send_23 : decode cX11_send 23 = .ok (.istore_n 3, 1) := by decide +kernel
theorem dX11_send_24 : decode cX11_send 24 = .ok (.iload_n 3, 1) := by decide +kernel
theorem dX11_send_25 : decode cX11_send 25 = .ok (.ifCond .le 8, 3) := by decide +kernel
theorem dX11_send_28 : decode cX11_send 28 = .ok (.bipush (-10), 2) := by decide +kernel
theorem dX11_send_30 : decode cX11_send 30 = .ok (.iload_n 3, 1) := by decide +kernel
theorem dX11_send_31 : decode cX11_send 31 = .ok (.isub, 1) := by decide +kernel
theorem dX11_send_32 : decode cX11_send 32 = .ok (.ireturn, 1) := by decide +kernel
theorem dX11_send_33 : decode cX11_send 33 = .ok (.aload_n 0, 1) := by decide +kernel
theorem dX11_send_34 : decode cX11_send 34 = .ok (.getfield 65, 3) := by decide +kernel
theorem dX11_send_37 : decode cX11_send 37 = .ok (.iload_n 1, 1) := by decide +kernel
theorem dX11_send_38 : decode cX11_send 38 = .ok (.iaload, 1) := by decide +kernel
theorem dX11_send_39 : decode cX11_send 39 = .ok (.istore 4, 2) := by decide +kernel
theorem dX11_send_41 : decode cX11_send 41 = .ok (.aload_n 0, 1) := by decide +kernel
theorem dX11_send_42 : decode cX11_send 42 = .ok (.iload_n 1, 1) := by decide +kernel
theorem dX11_send_43 : decode cX11_send 43 = .ok (.iload_n 2, 1) := by decide +kernel
theorem dX11_send_44 : decode cX11_send 44 = .ok (.aload_n 0, 1) := by decide +kernel
theorem dX11_send_45 : decode cX11_send 45 = .ok (.getfield 62, 3) := by decide +kernel
theorem dX11_send_48 : decode cX11_send 48 = .ok (.iload_n 1, 1) := by decide +kernel
theorem dX11_send_49 : decode cX11_send 49 = .ok (.baload, 1) := by decide +kernel
theorem dX11_send_50 : decode cX11_send 50 = .ok (.invokevirtual 391, 3) := by decide +kernel
theorem dX11_send_53 : decode cX11_send 53 = .ok (.ifCond .ne 14, 3) := by decide +kernel
theorem dX11_send_56 : decode cX11_send 56 = .ok (.aload_n 0, 1) := by decide +kernel
theorem dX11_send_57 : decode cX11_send 57 = .ok (.getfield 65, 3) := by decide +kernel
theorem dX11_send_60 : decode cX11_send 60 = .ok (.iload_n 1, 1) := by decide +kernel
theorem dX11_send_61 : decode cX11_send 61 = .ok (.iload 4, 2) := by decide +kernel
theorem dX11_send_63 : decode cX11_send 63 = .ok (.iastore, 1) := by decide +kernel
theorem dX11_send_64 : decode cX11_send 64 = .ok (.bipush (-16), 2) := by decide +kernel
theorem dX11_send_66 : decode cX11_send 66 = .ok (.ireturn, 1) := by decide +kernel
theorem dX11_send_67 : decode cX11_send 67 = .ok (.aload_n 0, 1) := by decide +kernel
theorem dX11_send_68 : decode cX11_send 68 = .ok (.aload_n 0, 1) := by decide +kernel
theorem dX11_send_69 : decode cX11_send 69 = .ok (.getfield 108, 3) := by decide +kernel
theorem dX11_send_72 : decode cX11_send 72 = .ok (.iload_n 2, 1) := by decide +kernel
theorem dX11_send_73 : decode cX11_send 73 = .ok (.iaload, 1) := by decide +kernel
theorem dX11_send_74 : decode cX11_send 74 = .ok (.aload_n 0, 1) := by decide +kernel
theorem dX11_send_75 : decode cX11_send 75 = .ok (.getfield 111, 3) := by decide +kernel
theorem dX11_send_78 : decode cX11_send 78 = .ok (.iload_n 2, 1) := by decide +kernel
theorem dX11_send_79 : decode cX11_send 79 = .ok (.iaload, 1) := by decide +kernel
theorem dX11_send_80 : decode cX11_send 80 = .ok (.invokevirtual 207, 3) := by decide +kernel
theorem dX11_send_83 : decode cX11_send 83 = .ok (.istore 5, 2) := by decide +kernel
theorem dX11_send_85 : decode cX11_send 85 = .ok (.aload_n 0, 1) := by decide +kernel
theorem dX11_send_86 : decode cX11_send 86 = .ok (.getfield 135, 3) := by decide +kernel
theorem dX11_send_89 : decode cX11_send 89 = .ok (.iload_n 2, 1) := by decide +kernel
theorem dX11_send_90 : decode cX11_send 90 = .ok (.aload_n 0, 1) := by decide +kernel
theorem dX11_send_91 : decode cX11_send 91 = .ok (.iload_n 1, 1) := by decide +kernel
theorem dX11_send_92 : decode cX11_send 92 = .ok (.iconst 1, 1) := by decide +kernel
theorem dX11_send_93 : decode cX11_send 93 = .ok (.iload_n 2, 1) := by decide +kernel
theorem dX11_send_94 : decode cX11_send 94 = .ok (.iconst (-1), 1) := by decide +kernel
theorem dX11_send_95 : decode cX11_send 95 = .ok (.invokevirtual 364, 3) := by decide +kernel
theorem dX11_send_98 : decode cX11_send 98 = .ok (.ldc 196, 2) := by decide +kernel
theorem dX11_send_100 : decode cX11_send 100 = .ok (.invokestatic 395, 3) := by decide +kernel
theorem dX11_send_103 : decode cX11_send 103 = .ok (.iastore, 1) := by decide +kernel
theorem dX11_send_104 : decode cX11_send 104 = .ok (.aload_n 0, 1) := by decide +kernel
theorem dX11_send_105 : decode cX11_send 105 = .ok (.getfield 138, 3) := by decide +kernel
theorem dX11_send_108 : decode cX11_send 108 = .ok (.iload_n 2, 1) := by decide +kernel
theorem dX11_send_109 : decode cX11_send 109 = .ok (.aload_n 0, 1) := by decide +kernel
theorem dX11_send_110 : decode cX11_send 110 = .ok (.iload_n 1, 1) := by decide +kernel
theorem dX11_send_111 : decode cX11_send 111 = .ok (.iconst 4, 1) := by decide +kernel
theorem dX11_send_112 : decode cX11_send 112 = .ok (.iload_n 2, 1) := by decide +kernel
theorem dX11_send_113 : decode cX11_send 113 = .ok (.iconst (-1), 1) := by decide +kernel
theorem dX11_send_114 : decode cX11_send 114 = .ok (.invokevirtual 364, 3) := by decide +kernel
theorem dX11_send_117 : decode cX11_send 117 = .ok (.bipush 100, 2) := by decide +kernel
theorem dX11_send_119 : decode cX11_send 119 = .ok (.invokestatic 395, 3) := by decide +kernel
theorem dX11_send_122 : decode cX11_send 122 = .ok (.iastore, 1) := by decide +kernel
theorem dX11_send_123 : decode cX11_send 123 = .ok (.aload_n 0, 1) := by decide +kernel
theorem dX11_send_124 : decode cX11_send 124 = .ok (.getfield 120, 3) := by decide +kernel
theorem dX11_send_127 : decode cX11_send 127 = .ok (.iload_n 2, 1) := by decide +kernel
theorem dX11_send_128 : decode cX11_send 128 = .ok (.iconst 1, 1) := by decide +kernel
theorem dX11_send_129 : decode cX11_send 129 = .ok (.iastore, 1) := by decide +kernel
theorem dX11_send_130 : decode cX11_send 130 = .ok (.aload_n 0, 1) := by decide +kernel
theorem dX11_send_131 : decode cX11_send 131 = .ok (.getfield 126, 3) := by decide +kernel
theorem dX11_send_134 : decode cX11_send 134 = .ok (.iload_n 2, 1) := by decide +kernel
theorem dX11_send_135 : decode cX11_send 135 = .ok (.aload_n 0, 1) := by decide +kernel
theorem dX11_send_136 : decode cX11_send 136 = .ok (.getfield 178, 3) := by decide +kernel
theorem dX11_send_139 : decode cX11_send 139 = .ok (.iastore, 1) := by decide +kernel
theorem dX11_send_140 : decode cX11_send 140 = .ok (.aload_n 0, 1) := by decide +kernel
theorem dX11_send_141 : decode cX11_send 141 = .ok (.getfield 129, 3) := by decide +kernel
theorem dX11_send_144 : decode cX11_send 144 = .ok (.iload_n 2, 1) := by decide +kernel
theorem dX11_send_145 : decode cX11_send 145 = .ok (.iload_n 1, 1) := by decide +kernel
theorem dX11_send_146 : decode cX11_send 146 = .ok (.iastore, 1) := by decide +kernel
theorem dX11_send_147 : decode cX11_send 147 = .ok (.aload_n 0, 1) := by decide +kernel
theorem dX11_send_148 : decode cX11_send 148 = .ok (.getfield 132, 3) := by decide +kernel
theorem dX11_send_151 : decode cX11_send 151 = .ok (.iload_n 2, 1) := by decide +kernel
theorem dX11_send_152 : decode cX11_send 152 = .ok (.aload_n 0, 1) := by decide +kernel
theorem dX11_send_153 : decode cX11_send 153 = .ok (.getfield 178, 3) := by decide +kernel
theorem dX11_send_156 : decode cX11_send 156 = .ok (.iload 5, 2) := by decide +kernel
theorem dX11_send_158 : decode cX11_send 158 = .ok (.iadd, 1) := by decide +kernel
theorem dX11_send_159 : decode cX11_send 159 = .ok (.iastore, 1) := by decide +kernel
theorem dX11_send_160 : decode cX11_send 160 = .ok (.aload_n 0, 1) := by decide +kernel
theorem dX11_send_161 : decode cX11_send 161 = .ok (.getfield 144, 3) := by decide +kernel
theorem dX11_send_164 : decode cX11_send 164 = .ok (.iload_n 2, 1) := by decide +kernel
theorem dX11_send_165 : decode cX11_send 165 = .ok (.aload_n 0, 1) := by decide +kernel
theorem dX11_send_166 : decode cX11_send 166 = .ok (.getfield 374, 3) := by decide +kernel
theorem dX11_send_169 : decode cX11_send 169 = .ok (.iastore, 1) := by decide +kernel
theorem dX11_send_170 : decode cX11_send 170 = .ok (.iconst 0, 1) := by decide +kernel
theorem dX11_send_171 : decode cX11_send 171 = .ok (.istore 6, 2) := by decide +kernel
theorem dX11_send_173 : decode cX11_send 173 = .ok (.iload 6, 2) := by decide +kernel
theorem dX11_send_175 : decode cX11_send 175 = .ok (.aload_n 0, 1) := by decide +kernel
theorem dX11_send_176 : decode cX11_send 176 = .ok (.getfield 374, 3) := by decide +kernel
theorem dX11_send_179 : decode cX11_send 179 = .ok (.if_icmp .ge 72, 3) := by decide +kernel
theorem dX11_send_182 : decode cX11_send 182 = .ok (.aload_n 0, 1) := by decide +kernel
theorem dX11_send_183 : decode cX11_send 183 = .ok (.getfield 150, 3) := by decide +kernel
theorem dX11_send_186 : decode cX11_send 186 = .ok (.iload 6, 2) := by decide +kernel
theorem dX11_send_188 : decode cX11_send 188 = .ok (.iaload, 1) := by decide +kernel
theorem dX11_send_189 : decode cX11_send 189 = .ok (.istore 7, 2) := by decide +kernel
theorem dX11_send_191 : decode cX11_send 191 = .ok (.aload_n 0, 1) := by decide +kernel
theorem dX11_send_192 : decode cX11_send 192 = .ok (.getfield 147, 3) := by decide +kernel
theorem dX11_send_195 : decode cX11_send 195 = .ok (.bipush 8, 2) := by decide +kernel
theorem dX11_send_197 : decode cX11_send 197 = .ok (.iload_n 2, 1) := by decide +kernel
theorem dX11_send_198 : decode cX11_send 198 = .ok (.imul, 1) := by decide +kernel
theorem dX11_send_199 : decode cX11_send 199 = .ok (.iload 6, 2) := by decide +kernel
theorem dX11_send_201 : decode cX11_send 201 = .ok (.iadd, 1) := by decide +kernel
theorem dX11_send_202 : decode cX11_send 202 = .ok (.iload 7, 2) := by decide +kernel
theorem dX11_send_204 : decode cX11_send 204 = .ok (.iastore, 1) := by decide +kernel
theorem dX11_send_205 : decode cX11_send 205 = .ok (.aload_n 0, 1) := by decide +kernel
theorem dX11_send_206 : decode cX11_send 206 = .ok (.iload 7, 2) := by decide +kernel
theorem dX11_send_208 : decode cX11_send 208 = .ok (.invokevirtual 227, 3) := by decide +kernel
theorem dX11_send_211 : decode cX11_send 211 = .ok (.aload_n 0, 1) := by decide +kernel
theorem dX11_send_212 : decode cX11_send 212 = .ok (.getfield 43, 3) := by decide +kernel
theorem dX11_send_215 : decode cX11_send 215 = .ok (.iload 7, 2) := by decide +kernel
theorem dX11_send_217 : decode cX11_send 217 = .ok (.aload_n 0, 1) := by decide +kernel
theorem dX11_send_218 : decode cX11_send 218 = .ok (.getfield 178, 3) := by decide +kernel
theorem dX11_send_221 : decode cX11_send 221 = .ok (.iload 5, 2) := by decide +kernel
theorem dX11_send_223 : decode cX11_send 223 = .ok (.iadd, 1) := by decide +kernel
theorem dX11_send_224 : decode cX11_send 224 = .ok (.iastore, 1) := by decide +kernel
theorem dX11_send_225 : decode cX11_send 225 = .ok (.aload_n 0, 1) := by decide +kernel
theorem dX11_send_226 : decode cX11_send 226 = .ok (.getfield 40, 3) := by decide +kernel
theorem dX11_send_229 : decode cX11_send 229 = .ok (.iload 7, 2) := by decide +kernel
theorem dX11_send_231 : decode cX11_send 231 = .ok (.dup2, 1) := by decide +kernel
theorem dX11_send_232 : decode cX11_send 232 = .ok (.iaload, 1) := by decide +kernel
theorem dX11_send_233 : decode cX11_send 233 = .ok (.iload 5, 2) := by decide +kernel
theorem dX11_send_235 : decode cX11_send 235 = .ok (.iadd, 1) := by decide +kernel
theorem dX11_send_236 : decode cX11_send 236 = .ok (.iastore, 1) := by decide +kernel
theorem dX11_send_237 : decode cX11_send 237 = .ok (.aload_n 0, 1) := by decide +kernel
theorem dX11_send_238 : decode cX11_send 238 = .ok (.getfield 49, 3) := by decide +kernel
theorem dX11_send_241 : decode cX11_send 241 = .ok (.iload 7, 2) := by decide +kernel
theorem dX11_send_243 : decode cX11_send 243 = .ok (.iload_n 2, 1) := by decide +kernel
theorem dX11_send_244 : decode cX11_send 244 = .ok (.iastore, 1) := by decide +kernel
theorem dX11_send_245 : decode cX11_send 245 = .ok (.iinc 6 1, 3) := by decide +kernel
theorem dX11_send_248 : decode cX11_send 248 = .ok (.goto (-75), 3) := by decide +kernel
theorem dX11_send_251 : decode cX11_send 251 = .ok (.aload_n 0, 1) := by decide +kernel
theorem dX11_send_252 : decode cX11_send 252 = .ok (.getfield 374, 3) := by decide +kernel
theorem dX11_send_255 : decode cX11_send 255 = .ok (.ireturn, 1) := by decide +kernel
theorem dX11_off_0 : decode cX11_off 0 = .ok (.aload_n 0, 1) := by decide +kernel
theorem dX11_off_1 : decode cX11_off 1 = .ok (.iload_n 1, 1) := by decide +kernel
theorem dX11_off_2 : decode cX11_off 2 = .ok (.invokevirtual 360, 3) := by decide +kernel
theorem dX11_off_5 : decode cX11_off 5 = .ok (.ifCond .ne 5, 3) := by decide +kernel
theorem dX11_off_8 : decode cX11_off 8 = .ok (.iconst (-1), 1) := by decide +kernel
theorem dX11_off_9 : decode cX11_off 9 = .ok (.ireturn, 1) := by decide +kernel
theorem dX11_off_10 : decode cX11_off 10 = .ok (.aload_n 0, 1) := by decide +kernel
theorem dX11_off_11 : decode cX11_off 11 = .ok (.getfield 120, 3) := by decide +kernel
theorem dX11_off_14 : decode cX11_off 14 = .ok (.iload_n 1, 1) := by decide +kernel
theorem dX11_off_15 : decode cX11_off 15 = .ok (.iaload, 1) := by decide +kernel
theorem dX11_off_16 : decode cX11_off 16 = .ok (.ifCond .eq 6, 3) := by decide +kernel
theorem dX11_off_19 : decode cX11_off 19 = .ok (.bipush (-2), 2) := by decide +kernel
theorem dX11_off_21 : decode cX11_off 21 = .ok (.ireturn, 1) := by decide +kernel
theorem dX11_off_22 : decode cX11_off 22 = .ok (.aload_n 0, 1) := by decide +kernel
theorem dX11_off_23 : decode cX11_off 23 = .ok (.getfield 120, 3) := by decide +kernel
theorem dX11_off_26 : decode cX11_off 26 = .ok (.iload_n 1, 1) := by decide +kernel
theorem dX11_off_27 : decode cX11_off 27 = .ok (.iconst 4, 1) := by decide +kernel
theorem dX11_off_28 : decode cX11_off 28 = .ok (.iastore, 1) := by decide +kernel
theorem dX11_off_29 : decode cX11_off 29 = .ok (.aload_n 0, 1) := by decide +kernel
theorem dX11_off_30 : decode cX11_off 30 = .ok (.getfield 126, 3) := by decide +kernel
theorem dX11_off_33 : decode cX11_off 33 = .ok (.iload_n 1, 1) := by decide +kernel
theorem dX11_off_34 : decode cX11_off 34 = .ok (.aload_n 0, 1) := by decide +kernel
theorem dX11_off_35 : decode cX11_off 35 = .ok (.getfield 178, 3) := by decide +kernel
theorem dX11_off_38 : decode cX11_off 38 = .ok (.iastore, 1) := by decide +kernel
theorem dX11_off_39 : decode cX11_off 39 = .ok (.iconst 1, 1) := by decide +kernel
theorem dX11_off_40 : decode cX11_off 40 = .ok (.ireturn, 1) := by decide +kernel
theorem dX11_placeInGang_0 : decode cX11_placeInGang 0 = .ok (.iconst 0, 1) := by decide +kernel
theorem dX11_placeInGang_1 : decode cX11_placeInGang 1 = .ok (.istore_n 3, 1) := by decide +kernel
theorem dX11_placeInGang_2 : decode cX11_placeInGang 2 = .ok (.iload_n 3, 1) := by decide +kernel
theorem dX11_placeInGang_3 : decode cX11_placeInGang 3 = .ok (.aload_n 0, 1) := by decide +kernel
theorem dX11_placeInGang_4 : decode cX11_placeInGang 4 = .ok (.getfield 144, 3) := by decide +kernel
theorem dX11_placeInGang_7 : decode cX11_placeInGang 7 = .ok (.iload_n 1, 1) := by decide +kernel
theorem dX11_placeInGang_8 : decode cX11_placeInGang 8 = .ok (.iaload, 1) := by decide +kernel
theorem dX11_placeInGang_9 : decode cX11_placeInGang 9 = .ok (.if_icmp .ge 26, 3) := by decide +kernel
theorem dX11_placeInGang_12 : decode cX11_placeInGang 12 = .ok (.aload_n 0, 1) := by decide +kernel
theorem dX11_placeInGang_13 : decode cX11_placeInGang 13 = .ok (.getfield 147, 3) := by decide +kernel
theorem dX11_placeInGang_16 : decode cX11_placeInGang 16 = .ok (.bipush 8, 2) := by decide +kernel
theorem dX11_placeInGang_18 : decode cX11_placeInGang 18 = .ok (.iload_n 1, 1) := by decide +kernel
theorem dX11_placeInGang_19 : decode cX11_placeInGang 19 = .ok (.imul, 1) := by decide +kernel
theorem dX11_placeInGang_20 : decode cX11_placeInGang 20 = .ok (.iload_n 3, 1) := by decide +kernel
theorem dX11_placeInGang_21 : decode cX11_placeInGang 21 = .ok (.iadd, 1) := by decide +kernel
