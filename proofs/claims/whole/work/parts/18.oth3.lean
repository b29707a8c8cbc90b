theorem dX10_chooseGang_78 : decode cX10_chooseGang 78 = .ok (.ifCond .ne 5, 3) := by decide +kernel
theorem dX10_chooseGang_81 : decode cX10_chooseGang 81 = .ok (.iconst 0, 1) := by decide +kernel
theorem dX10_chooseGang_82 : decode cX10_chooseGang 82 = .ok (.ireturn, 1) := by decide +kernel
theorem dX10_chooseGang_83 : decode cX10_chooseGang 83 = .ok (.iconst 0, 1) := by decide +kernel
theorem dX10_chooseGang_84 : decode cX10_chooseGang 84 = .ok (.istore 8, 2) := by decide +kernel
theorem dX10_chooseGang_86 : decode cX10_chooseGang 86 = .ok (.iload_n 3, 1) := by decide +kernel
theorem dX10_chooseGang_87 : decode cX10_chooseGang 87 = .ok (.ifCond .eq 31, 3) := by decide +kernel
theorem dX10_chooseGang_90 : decode cX10_chooseGang 90 = .ok (.aload_n 0, 1) := by decide +kernel
theorem dX10_chooseGang_91 : decode cX10_chooseGang 91 = .ok (.aload_n 0, 1) := by decide +kernel
theorem dX10_chooseGang_92 : decode cX10_chooseGang 92 = .ok (.getfield 250, 3) := by decide +kernel
theorem dX10_chooseGang_95 : decode cX10_chooseGang 95 = .ok (.ldc_w 414, 3) := by decide +kernel
theorem dX10_chooseGang_98 : decode cX10_chooseGang 98 = .ok (.imul, 1) := by decide +kernel
theorem dX10_chooseGang_99 : decode cX10_chooseGang 99 = .ok (.sipush 12345, 3) := by decide +kernel
theorem dX10_chooseGang_102 : decode cX10_chooseGang 102 = .ok (.iadd, 1) := by decide +kernel
theorem dX10_chooseGang_103 : decode cX10_chooseGang 103 = .ok (.putfield 250, 3) := by decide +kernel
theorem dX10_chooseGang_106 : decode cX10_chooseGang 106 = .ok (.aload_n 0, 1) := by decide +kernel
theorem dX10_chooseGang_107 : decode cX10_chooseGang 107 = .ok (.getfield 250, 3) := by decide +kernel
theorem dX10_chooseGang_110 : decode cX10_chooseGang 110 = .ok (.bipush 8, 2) := by decide +kernel
theorem dX10_chooseGang_112 : decode cX10_chooseGang 112 = .ok (.iushr, 1) := by decide +kernel
theorem dX10_chooseGang_113 : decode cX10_chooseGang 113 = .ok (.iload 7, 2) := by decide +kernel
theorem dX10_chooseGang_115 : decode cX10_chooseGang 115 = .ok (.irem, 1) := by decide +kernel
theorem dX10_chooseGang_116 : decode cX10_chooseGang 116 = .ok (.istore 8, 2) := by decide +kernel
theorem dX10_chooseGang_118 : decode cX10_chooseGang 118 = .ok (.aload_n 0, 1) := by decide +kernel
theorem dX10_chooseGang_119 : decode cX10_chooseGang 119 = .ok (.getfield 68, 3) := by decide +kernel
theorem dX10_chooseGang_122 : decode cX10_chooseGang 122 = .ok (.iload 8, 2) := by decide +kernel
theorem dX10_chooseGang_124 : decode cX10_chooseGang 124 = .ok (.invokevirtual 415, 3) := by decide +kernel
theorem dX10_chooseGang_127 : decode cX10_chooseGang 127 = .ok (.checkcast 121, 3) := by decide +kernel
theorem dX10_chooseGang_130 : decode cX10_chooseGang 130 = .ok (.astore 9, 2) := by decide +kernel
theorem dX10_chooseGang_132 : decode cX10_chooseGang 132 = .ok (.aload_n 0, 1) := by decide +kernel
theorem dX10_chooseGang_133 : decode cX10_chooseGang 133 = .ok (.getfield 65, 3) := by decide +kernel
theorem dX10_chooseGang_136 : decode cX10_chooseGang 136 = .ok (.aload 9, 2) := by decide +kernel
theorem dX10_chooseGang_138 : decode cX10_chooseGang 138 = .ok (.invokevirtual 33, 3) := by decide +kernel
theorem dX10_chooseGang_141 : decode cX10_chooseGang 141 = .ok (.pop, 1) := by decide +kernel
theorem dX10_chooseGang_142 : decode cX10_chooseGang 142 = .ok (.iload 5, 2) := by decide +kernel
theorem dX10_chooseGang_144 : decode cX10_chooseGang 144 = .ok (.aload 9, 2) := by decide +kernel
theorem dX10_chooseGang_146 : decode cX10_chooseGang 146 = .ok (.getfield 155, 3) := by decide +kernel
theorem dX10_chooseGang_149 : decode cX10_chooseGang 149 = .ok (.iadd, 1) := by decide +kernel
theorem dX10_chooseGang_150 : decode cX10_chooseGang 150 = .ok (.istore 5, 2) := by decide +kernel
theorem dX10_chooseGang_152 : decode cX10_chooseGang 152 = .ok (.iload 6, 2) := by decide +kernel
theorem dX10_chooseGang_154 : decode cX10_chooseGang 154 = .ok (.iload 4, 2) := by decide +kernel
theorem dX10_chooseGang_156 : decode cX10_chooseGang 156 = .ok (.if_icmp .lt 21, 3) := by decide +kernel
theorem dX10_chooseGang_159 : decode cX10_chooseGang 159 = .ok (.iconst 4, 1) := by decide +kernel
theorem dX10_chooseGang_160 : decode cX10_chooseGang 160 = .ok (.iload 5, 2) := by decide +kernel
theorem dX10_chooseGang_162 : decode cX10_chooseGang 162 = .ok (.imul, 1) := by decide +kernel
theorem dX10_chooseGang_163 : decode cX10_chooseGang 163 = .ok (.aload_n 2, 1) := by decide +kernel
theorem dX10_chooseGang_164 : decode cX10_chooseGang 164 = .ok (.getfield 275, 3) := by decide +kernel
theorem dX10_chooseGang_167 : decode cX10_chooseGang 167 = .ok (.aload_n 2, 1) := by decide +kernel
theorem dX10_chooseGang_168 : decode cX10_chooseGang 168 = .ok (.getfield 418, 3) := by decide +kernel
theorem dX10_chooseGang_171 : decode cX10_chooseGang 171 = .ok (.iadd, 1) := by decide +kernel
theorem dX10_chooseGang_172 : decode cX10_chooseGang 172 = .ok (.if_icmp .lt 5, 3) := by decide +kernel
theorem dX10_chooseGang_175 : decode cX10_chooseGang 175 = .ok (.iconst 1, 1) := by decide +kernel
theorem dX10_chooseGang_176 : decode cX10_chooseGang 176 = .ok (.ireturn, 1) := by decide +kernel
theorem dX10_chooseGang_177 : decode cX10_chooseGang 177 = .ok (.iinc 6 1, 3) := by decide +kernel
theorem dX10_chooseGang_180 : decode cX10_chooseGang 180 = .ok (.goto (-120), 3) := by decide +kernel
theorem dX10_chooseGang_183 : decode cX10_chooseGang 183 = .ok (.iconst 0, 1) := by decide +kernel
theorem dX10_chooseGang_184 : decode cX10_chooseGang 184 = .ok (.ireturn, 1) := by decide +kernel
theorem dX10_gatherCandidates_0 : decode cX10_gatherCandidates 0 = .ok (.aload_n 0, 1) := by decide +kernel
theorem dX10_gatherCandidates_1 : decode cX10_gatherCandidates 1 = .ok (.getfield 68, 3) := by decide +kernel
theorem dX10_gatherCandidates_4 : decode cX10_gatherCandidates 4 = .ok (.invokevirtual 411, 3) := by decide +kernel
theorem dX10_gatherCandidates_7 : decode cX10_gatherCandidates 7 = .ok (.iconst 0, 1) := by decide +kernel
theorem dX10_gatherCandidates_8 : decode cX10_gatherCandidates 8 = .ok (.istore_n 3, 1) := by decide +kernel
theorem dX10_gatherCandidates_9 : decode cX10_gatherCandidates 9 = .ok (.iload_n 3, 1) := by decide +kernel
theorem dX10_gatherCandidates_10 : decode cX10_gatherCandidates 10 = .ok (.aload_n 1, 1) := by decide +kernel
theorem dX10_gatherCandidates_11 : decode cX10_gatherCandidates 11 = .ok (.getfield 146, 3) := by decide +kernel
theorem dX10_gatherCandidates_14 : decode cX10_gatherCandidates 14 = .ok (.invokevirtual 75, 3) := by decide +kernel
theorem dX10_gatherCandidates_17 : decode cX10_gatherCandidates 17 = .ok (.if_icmp .ge 45, 3) := by decide +kernel
theorem dX10_gatherCandidates_20 : decode cX10_gatherCandidates 20 = .ok (.aload_n 1, 1) := by decide +kernel
theorem dX10_gatherCandidates_21 : decode cX10_gatherCandidates 21 = .ok (.getfield 146, 3) := by decide +kernel
theorem dX10_gatherCandidates_24 : decode cX10_gatherCandidates 24 = .ok (.iload_n 3, 1) := by decide +kernel
theorem dX10_gatherCandidates_25 : decode cX10_gatherCandidates 25 = .ok (.invokevirtual 176, 3) := by decide +kernel
theorem dX10_gatherCandidates_28 : decode cX10_gatherCandidates 28 = .ok (.checkcast 121, 3) := by decide +kernel
theorem dX10_gatherCandidates_31 : decode cX10_gatherCandidates 31 = .ok (.astore 4, 2) := by decide +kernel
theorem dX10_gatherCandidates_33 : decode cX10_gatherCandidates 33 = .ok (.aload 4, 2) := by decide +kernel
theorem dX10_gatherCandidates_35 : decode cX10_gatherCandidates 35 = .ok (.aload_n 0, 1) := by decide +kernel
theorem dX10_gatherCandidates_36 : decode cX10_gatherCandidates 36 = .ok (.getfield 95, 3) := by decide +kernel
theorem dX10_gatherCandidates_39 : decode cX10_gatherCandidates 39 = .ok (.iload_n 2, 1) := by decide +kernel
theorem dX10_gatherCandidates_40 : decode cX10_gatherCandidates 40 = .ok (.invokevirtual 421, 3) := by decide +kernel
theorem dX10_gatherCandidates_43 : decode cX10_gatherCandidates 43 = .ok (.ifCond .eq 13, 3) := by decide +kernel
theorem dX10_gatherCandidates_46 : decode cX10_gatherCandidates 46 = .ok (.aload_n 0, 1) := by decide +kernel
theorem dX10_gatherCandidates_47 : decode cX10_gatherCandidates 47 = .ok (.getfield 68, 3) := by decide +kernel
theorem dX10_gatherCandidates_50 : decode cX10_gatherCandidates 50 = .ok (.aload 4, 2) := by decide +kernel
theorem dX10_gatherCandidates_52 : decode cX10_gatherCandidates 52 = .ok (.invokevirtual 33, 3) := by decide +kernel
theorem dX10_gatherCandidates_55 : decode cX10_gatherCandidates 55 = .ok (.pop, 1) := by decide +kernel
theorem dX10_gatherCandidates_56 : decode cX10_gatherCandidates 56 = .ok (.iinc 3 1, 3) := by decide +kernel
theorem dX10_gatherCandidates_59 : decode cX10_gatherCandidates 59 = .ok (.goto (-50), 3) := by decide +kernel
theorem dX10_gatherCandidates_62 : decode cX10_gatherCandidates 62 = .ok (.return_, 1) := by decide +kernel
theorem dX10_setOut_0 : decode cX10_setOut 0 = .ok (.aload_n 2, 1) := by decide +kernel
theorem dX10_setOut_1 : decode cX10_setOut 1 = .ok (.iconst 0, 1) := by decide +kernel
theorem dX10_setOut_2 : decode cX10_setOut 2 = .ok (.ldc 98, 2) := by decide +kernel
theorem dX10_setOut_4 : decode cX10_setOut 4 = .ok (.aload_n 0, 1) := by decide +kernel
theorem dX10_setOut_5 : decode cX10_setOut 5 = .ok (.aload_n 1, 1) := by decide +kernel
theorem dX10_setOut_6 : decode cX10_setOut 6 = .ok (.getfield 400, 3) := by decide +kernel
theorem dX10_setOut_9 : decode cX10_setOut 9 = .ok (.iconst 1, 1) := by decide +kernel
theorem dX10_setOut_10 : decode cX10_setOut 10 = .ok (.aload_n 2, 1) := by decide +kernel
theorem dX10_setOut_11 : decode cX10_setOut 11 = .ok (.aconst_null, 1) := by decide +kernel
theorem dX10_setOut_12 : decode cX10_setOut 12 = .ok (.invokevirtual 227, 3) := by decide +kernel
theorem dX10_setOut_15 : decode cX10_setOut 15 = .ok (.invokestatic 404, 3) := by decide +kernel
theorem dX10_setOut_18 : decode cX10_setOut 18 = .ok (.invokestatic 387, 3) := by decide +kernel
theorem dX10_setOut_21 : decode cX10_setOut 21 = .ok (.putfield 292, 3) := by decide +kernel
theorem dX10_setOut_24 : decode cX10_setOut 24 = .ok (.aload_n 2, 1) := by decide +kernel
theorem dX10_setOut_25 : decode cX10_setOut 25 = .ok (.iconst 0, 1) := by decide +kernel
theorem dX10_setOut_26 : decode cX10_setOut 26 = .ok (.bipush 100, 2) := by decide +kernel
theorem dX10_setOut_28 : decode cX10_setOut 28 = .ok (.aload_n 0, 1) := by decide +kernel
theorem dX10_setOut_29 : decode cX10_setOut 29 = .ok (.aload_n 1, 1) := by decide +kernel
theorem dX10_setOut_30 : decode cX10_setOut 30 = .ok (.getfield 400, 3) := by decide +kernel
theorem dX10_setOut_33 : decode cX10_setOut 33 = .ok (.iconst 4, 1) := by decide +kernel
theorem dX10_setOut_34 : decode cX10_setOut 34 = .ok (.aload_n 2, 1) := by decide +kernel
theorem dX10_setOut_35 : decode cX10_setOut 35 = .ok (.aconst_null, 1) := by decide +kernel
theorem dX10_setOut_36 : decode cX10_setOut 36 = .ok (.invokevirtual 227, 3) := by decide +kernel
theorem dX10_setOut_39 : decode cX10_setOut 39 = .ok (.invokestatic 404, 3) := by decide +kernel
theorem dX10_setOut_42 : decode cX10_setOut 42 = .ok (.invokestatic 387, 3) := by decide +kernel
theorem dX10_setOut_45 : decode cX10_setOut 45 = .ok (.putfield 425, 3) := by decide +kernel
theorem dX10_setOut_48 : decode cX10_setOut 48 = .ok (.aload_n 0, 1) := by decide +kernel
theorem dX10_setOut_49 : decode cX10_setOut 49 = .ok (.aload_n 2, 1) := by decide +kernel
theorem dX10_setOut_50 : decode cX10_setOut 50 = .ok (.getfield 278, 3) := by decide +kernel
theorem dX10_setOut_53 : decode cX10_setOut 53 = .ok (.aload_n 2, 1) := by decide +kernel
theorem dX10_setOut_54 : decode cX10_setOut 54 = .ok (.getfield 282, 3) := by decide +kernel
theorem dX10_setOut_57 : decode cX10_setOut 57 = .ok (.invokevirtual 113, 3) := by decide +kernel
theorem dX10_setOut_60 : decode cX10_setOut 60 = .ok (.istore_n 3, 1) := by decide +kernel
theorem dX10_setOut_61 : decode cX10_setOut 61 = .ok (.aload_n 2, 1) := by decide +kernel
theorem dX10_setOut_62 : decode cX10_setOut 62 = .ok (.iconst 1, 1) := by decide +kernel
theorem dX10_setOut_63 : decode cX10_setOut 63 = .ok (.putfield 260, 3) := by decide +kernel
theorem dX10_setOut_66 : decode cX10_setOut 66 = .ok (.aload_n 2, 1) := by decide +kernel
theorem dX10_setOut_67 : decode cX10_setOut 67 = .ok (.aload_n 1, 1) := by decide +kernel
theorem dX10_setOut_68 : decode cX10_setOut 68 = .ok (.getfield 400, 3) := by decide +kernel
theorem dX10_setOut_71 : decode cX10_setOut 71 = .ok (.putfield 291, 3) := by decide +kernel
theorem dX10_setOut_74 : decode cX10_setOut 74 = .ok (.aload_n 2, 1) := by decide +kernel
theorem dX10_setOut_75 : decode cX10_setOut 75 = .ok (.aload_n 0, 1) := by decide +kernel
theorem dX10_setOut_76 : decode cX10_setOut 76 = .ok (.getfield 95, 3) := by decide +kernel
theorem dX10_setOut_79 : decode cX10_setOut 79 = .ok (.putfield 263, 3) := by decide +kernel
theorem dX10_setOut_82 : decode cX10_setOut 82 = .ok (.aload_n 2, 1) := by decide +kernel
theorem dX10_setOut_83 : decode cX10_setOut 83 = .ok (.aload_n 0, 1) := by decide +kernel
theorem dX10_setOut_84 : decode cX10_setOut 84 = .ok (.getfield 95, 3) := by decide +kernel
theorem dX10_setOut_87 : decode cX10_setOut 87 = .ok (.iload_n 3, 1) := by decide +kernel
theorem dX10_setOut_88 : decode cX10_setOut 88 = .ok (.iadd, 1) := by decide +kernel
theorem dX10_setOut_89 : decode cX10_setOut 89 = .ok (.putfield 301, 3) := by decide +kernel
theorem dX10_setOut_92 : decode cX10_setOut 92 = .ok (.aload_n 2, 1) := by decide +kernel
theorem dX10_setOut_93 : decode cX10_setOut 93 = .ok (.iconst 1, 1) := by decide +kernel
theorem dX10_setOut_94 : decode cX10_setOut 94 = .ok (.putfield 428, 3) := by decide +kernel
theorem dX10_setOut_97 : decode cX10_setOut 97 = .ok (.iconst 0, 1) := by decide +kernel
theorem dX10_setOut_98 : decode cX10_setOut 98 = .ok (.istore 4, 2) := by decide +kernel
theorem dX10_setOut_100 : decode cX10_setOut 100 = .ok (.iload 4, 2) := by decide +kernel
theorem dX10_setOut_102 : decode cX10_setOut 102 = .ok (.aload_n 0, 1) := by decide +kernel
theorem dX10_setOut_103 : decode cX10_setOut 103 = .ok (.getfield 65, 3) := by decide +kernel
theorem dX10_setOut_106 : decode cX10_setOut 106 = .ok (.invokevirtual 75, 3) := by decide +kernel
theorem dX10_setOut_109 : decode cX10_setOut 109 = .ok (.if_icmp .ge 72, 3) := by decide +kernel
theorem dX10_setOut_112 : decode cX10_setOut 112 = .ok (.aload_n 0, 1) := by decide +kernel
theorem dX10_setOut_113 : decode cX10_setOut 113 = .ok (.getfield 65, 3) := by decide +kernel
theorem dX10_setOut_116 : decode cX10_setOut 116 = .ok (.iload 4, 2) := by decide +kernel
theorem dX10_setOut_118 : decode cX10_setOut 118 = .ok (.invokevirtual 176, 3) := by decide +kernel
theorem dX10_setOut_121 : decode cX10_setOut 121 = .ok (.checkcast 121, 3) := by decide +kernel
theorem dX10_setOut_124 : decode cX10_setOut 124 = .ok (.astore 5, 2) := by decide +kernel
theorem dX10_setOut_126 : decode cX10_setOut 126 = .ok (.aload_n 1, 1) := by decide +kernel
theorem dX10_setOut_127 : decode cX10_setOut 127 = .ok (.aload 5, 2) := by decide +kernel
theorem dX10_setOut_129 : decode cX10_setOut 129 = .ok (.getfield 180, 3) := by decide +kernel
theorem dX10_setOut_132 : decode cX10_setOut 132 = .ok (.invokevirtual 149, 3) := by decide +kernel
theorem dX10_setOut_135 : decode cX10_setOut 135 = .ok (.pop, 1) := by decide +kernel
theorem dX10_setOut_136 : decode cX10_setOut 136 = .ok (.aload 5, 2) := by decide +kernel
theorem dX10_setOut_138 : decode cX10_setOut 138 = .ok (.aload_n 2, 1) := by decide +kernel
theorem dX10_setOut_139 : decode cX10_setOut 139 = .ok (.getfield 301, 3) := by decide +kernel
theorem dX10_setOut_142 : decode cX10_setOut 142 = .ok (.putfield 167, 3) := by decide +kernel
theorem dX10_setOut_145 : decode cX10_setOut 145 = .ok (.aload 5, 2) := by decide +kernel
theorem dX10_setOut_147 : decode cX10_setOut 147 = .ok (.dup, 1) := by decide +kernel
theorem dX10_setOut_148 : decode cX10_setOut 148 = .ok (.getfield 164, 3) := by decide +kernel
theorem dX10_setOut_151 : decode cX10_setOut 151 = .ok (.iload_n 3, 1) := by decide +kernel
theorem dX10_setOut_152 : decode cX10_setOut 152 = .ok (.iadd, 1) := by decide +kernel
theorem dX10_setOut_153 : decode cX10_setOut 153 = .ok (.putfield 164, 3) := by decide +kernel
theorem dX10_setOut_156 : decode cX10_setOut 156 = .ok (.aload 5, 2) := by decide +kernel
theorem dX10_setOut_158 : decode cX10_setOut 158 = .ok (.aload_n 2, 1) := by decide +kernel
theorem dX10_setOut_159 : decode cX10_setOut 159 = .ok (.getfield 431, 3) := by decide +kernel
theorem dX10_setOut_162 : decode cX10_setOut 162 = .ok (.putfield 173, 3) := by decide +kernel
theorem dX10_setOut_165 : decode cX10_setOut 165 = .ok (.aload_n 2, 1) := by decide +kernel
theorem dX10_setOut_166 : decode cX10_setOut 166 = .ok (.getfield 257, 3) := by decide +kernel
theorem dX10_setOut_169 : decode cX10_setOut 169 = .ok (.aload 5, 2) := by decide +kernel
theorem dX10_setOut_171 : decode cX10_setOut 171 = .ok (.invokevirtual 33, 3) := by decide +kernel
theorem dX10_setOut_174 : decode cX10_setOut 174 = .ok (.pop, 1) := by decide +kernel
theorem dX10_setOut_175 : decode cX10_setOut 175 = .ok (.iinc 4 1, 3) := by decide +kernel
theorem dX10_setOut_178 : decode cX10_setOut 178 = .ok (.goto (-78), 3) := by decide +kernel
theorem dX10_setOut_181 : decode cX10_setOut 181 = .ok (.return_, 1) := by decide +kernel
theorem dX10_takeFines_0 : decode cX10_takeFines 0 = .ok (.aload_n 0, 1) := by decide +kernel
theorem dX10_takeFines_1 : decode cX10_takeFines 1 = .ok (.aload_n 1, 1) := by decide +kernel
theorem dX10_takeFines_2 : decode cX10_takeFines 2 = .ok (.getfield 291, 3) := by decide +kernel
theorem dX10_takeFines_5 : decode cX10_takeFines 5 = .ok (.invokevirtual 117, 3) := by decide +kernel
theorem dX10_takeFines_8 : decode cX10_takeFines 8 = .ok (.astore_n 2, 1) := by decide +kernel
theorem dX10_takeFines_9 : decode cX10_takeFines 9 = .ok (.aload_n 2, 1) := by decide +kernel
theorem dX10_takeFines_10 : decode cX10_takeFines 10 = .ok (.ifnonnull 5, 3) := by decide +kernel
theorem dX10_takeFines_13 : decode cX10_takeFines 13 = .ok (.iconst 0, 1) := by decide +kernel
theorem dX10_takeFines_14 : decode cX10_takeFines 14 = .ok (.ireturn, 1) := by decide +kernel
theorem dX10_takeFines_15 : decode cX10_takeFines 15 = .ok (.iconst 0, 1) := by decide +kernel
theorem dX10_takeFines_16 : decode cX10_takeFines 16 = .ok (.istore_n 3, 1) := by decide +kernel
theorem dX10_takeFines_17 : decode cX10_takeFines 17 = .ok (.iconst 0, 1) := by decide +kernel
theorem dX10_takeFines_18 : decode cX10_takeFines 18 = .ok (.istore 4, 2) := by decide +kernel
theorem dX10_takeFines_20 : decode cX10_takeFines 20 = .ok (.iload 4, 2) := by decide +kernel
theorem dX10_takeFines_22 : decode cX10_takeFines 22 = .ok (.aload_n 1, 1) := by decide +kernel
theorem dX10_takeFines_23 : decode cX10_takeFines 23 = .ok (.getfield 257, 3) := by decide +kernel
theorem dX10_takeFines_26 : decode cX10_takeFines 26 = .ok (.invokevirtual 75, 3) := by decide +kernel
theorem dX10_takeFines_29 : decode cX10_takeFines 29 = .ok (.if_icmp .ge 66, 3) := by decide +kernel
theorem dX10_takeFines_32 : decode cX10_takeFines 32 = .ok (.aload_n 1, 1) := by decide +kernel
theorem dX10_takeFines_33 : decode cX10_takeFines 33 = .ok (.getfield 257, 3) := by decide +kernel
theorem dX10_takeFines_36 : decode cX10_takeFines 36 = .ok (.iload 4, 2) := by decide +kernel
theorem dX10_takeFines_38 : decode cX10_takeFines 38 = .ok (.invokevirtual 176, 3) := by decide +kernel
theorem dX10_takeFines_41 : decode cX10_takeFines 41 = .ok (.checkcast 121, 3) := by decide +kernel
theorem dX10_takeFines_44 : decode cX10_takeFines 44 = .ok (.astore 5, 2) := by decide +kernel
theorem dX10_takeFines_46 : decode cX10_takeFines 46 = .ok (.iconst 0, 1) := by decide +kernel
theorem dX10_takeFines_47 : decode cX10_takeFines 47 = .ok (.aload 5, 2) := by decide +kernel
theorem dX10_takeFines_49 : decode cX10_takeFines 49 = .ok (.getfield 161, 3) := by decide +kernel
theorem dX10_takeFines_52 : decode cX10_takeFines 52 = .ok (.aload_n 0, 1) := by decide +kernel
theorem dX10_takeFines_53 : decode cX10_takeFines 53 = .ok (.aload_n 2, 1) := by decide +kernel
theorem dX10_takeFines_54 : decode cX10_takeFines 54 = .ok (.getfield 400, 3) := by decide +kernel
theorem dX10_takeFines_57 : decode cX10_takeFines 57 = .ok (.iconst 3, 1) := by decide +kernel
theorem dX10_takeFines_58 : decode cX10_takeFines 58 = .ok (.aload_n 1, 1) := by decide +kernel
theorem dX10_takeFines_59 : decode cX10_takeFines 59 = .ok (.aload 5, 2) := by decide +kernel
theorem dX10_takeFines_61 : decode cX10_takeFines 61 = .ok (.invokevirtual 227, 3) := by decide +kernel
theorem dX10_takeFines_64 : decode cX10_takeFines 64 = .ok (.invokestatic 404, 3) := by decide +kernel
theorem dX10_takeFines_67 : decode cX10_takeFines 67 = .ok (.invokestatic 387, 3) := by decide +kernel
theorem dX10_takeFines_70 : decode cX10_takeFines 70 = .ok (.istore 6, 2) := by decide +kernel
theorem dX10_takeFines_72 : decode cX10_takeFines 72 = .ok (.aload 5, 2) := by decide +kernel
theorem dX10_takeFines_74 : decode cX10_takeFines 74 = .ok (.dup, 1) := by decide +kernel
theorem dX10_takeFines_75 : decode cX10_takeFines 75 = .ok (.getfield 161, 3) := by decide +kernel
theorem dX10_takeFines_78 : decode cX10_takeFines 78 = .ok (.iload 6, 2) := by decide +kernel
theorem dX10_takeFines_80 : decode cX10_takeFines 80 = .ok (.isub, 1) := by decide +kernel
theorem dX10_takeFines_81 : decode cX10_takeFines 81 = .ok (.putfield 161, 3) := by decide +kernel
theorem dX10_takeFines_84 : decode cX10_takeFines 84 = .ok (.iload_n 3, 1) := by decide +kernel
theorem dX10_takeFines_85 : decode cX10_takeFines 85 = .ok (.iload 6, 2) := by decide +kernel
theorem dX10_takeFines_87 : decode cX10_takeFines 87 = .ok (.iadd, 1) := by decide +kernel
theorem dX10_takeFines_88 : decode cX10_takeFines 88 = .ok (.istore_n 3, 1) := by decide +kernel
theorem dX10_takeFines_89 : decode cX10_takeFines 89 = .ok (.iinc 4 1, 3) := by decide +kernel
theorem dX10_takeFines_92 : decode cX10_takeFines 92 = .ok (.goto (-72), 3) := by decide +kernel
theorem dX10_takeFines_95 : decode cX10_takeFines 95 = .ok (.aload_n 2, 1) := by decide +kernel
theorem dX10_takeFines_96 : decode cX10_takeFines 96 = .ok (.iload_n 3, 1) := by decide +kernel
theorem dX10_takeFines_97 : decode cX10_takeFines 97 = .ok (.invokevirtual 432, 3) := by decide +kernel
theorem dX10_takeFines_100 : decode cX10_takeFines 100 = .ok (.iload_n 3, 1) := by decide +kernel
theorem dX10_takeFines_101 : decode cX10_takeFines 101 = .ok (.ireturn, 1) := by decide +kernel
theorem dX10_nextStop_0 : decode cX10_nextStop 0 = .ok (.iload_n 1, 1) := by decide +kernel
theorem dX10_nextStop_1 : decode cX10_nextStop 1 = .ok (.aload_n 0, 1) := by decide +kernel
theorem dX10_nextStop_2 : decode cX10_nextStop 2 = .ok (.invokevirtual 207, 3) := by decide +kernel
theorem dX10_nextStop_5 : decode cX10_nextStop 5 = .ok (.iconst 1, 1) := by decide +kernel
theorem dX10_nextStop_6 : decode cX10_nextStop 6 = .ok (.iadd, 1) := by decide +kernel
theorem dX10_nextStop_7 : decode cX10_nextStop 7 = .ok (.sipush 600, 3) := by decide +kernel
theorem dX10_nextStop_10 : decode cX10_nextStop 10 = .ok (.imul, 1) := by decide +kernel
theorem dX10_nextStop_11 : decode cX10_nextStop 11 = .ok (.invokestatic 404, 3) := by decide +kernel
theorem dX10_nextStop_14 : decode cX10_nextStop 14 = .ok (.istore_n 2, 1) := by decide +kernel
theorem dX10_nextStop_15 : decode cX10_nextStop 15 = .ok (.iconst 0, 1) := by decide +kernel
theorem dX10_nextStop_16 : decode cX10_nextStop 16 = .ok (.istore_n 3, 1) := by decide +kernel
theorem dX10_nextStop_17 : decode cX10_nextStop 17 = .ok (.iload_n 3, 1) := by decide +kernel
theorem dX10_nextStop_18 : decode cX10_nextStop 18 = .ok (.aload_n 0, 1) := by decide +kernel
theorem dX10_nextStop_19 : decode cX10_nextStop 19 = .ok (.getfield 19, 3) := by decide +kernel
theorem dX10_nextStop_22 : decode cX10_nextStop 22 = .ok (.invokevirtual 75, 3) := by decide +kernel
theorem dX10_nextStop_25 : decode cX10_nextStop 25 = .ok (.if_icmp .ge 40, 3) := by decide +kernel
theorem dX10_nextStop_28 : decode cX10_nextStop 28 = .ok (.aload_n 0, 1) := by decide +kernel
theorem dX10_nextStop_29 : decode cX10_nextStop 29 = .ok (.getfield 19, 3) := by decide +kernel
theorem dX10_nextStop_32 : decode cX10_nextStop 32 = .ok (.iload_n 3, 1) := by decide +kernel
theorem dX10_nextStop_33 : decode cX10_nextStop 33 = .ok (.invokevirtual 176, 3) := by decide +kernel
theorem dX10_nextStop_36 : decode cX10_nextStop 36 = .ok (.checkcast 233, 3) := by decide +kernel
theorem dX10_nextStop_39 : decode cX10_nextStop 39 = .ok (.astore 4, 2) := by decide +kernel
theorem dX10_nextStop_41 : decode cX10_nextStop 41 = .ok (.aload 4, 2) := by decide +kernel
theorem dX10_nextStop_43 : decode cX10_nextStop 43 = .ok (.getfield 428, 3) := by decide +kernel
theorem dX10_nextStop_46 : decode cX10_nextStop 46 = .ok (.ifCond .eq 13, 3) := by decide +kernel
theorem dX10_nextStop_49 : decode cX10_nextStop 49 = .ok (.iload_n 2, 1) := by decide +kernel
theorem dX10_nextStop_50 : decode cX10_nextStop 50 = .ok (.aload 4, 2) := by decide +kernel
theorem dX10_nextStop_52 : decode cX10_nextStop 52 = .ok (.getfield 301, 3) := by decide +kernel
theorem dX10_nextStop_55 : decode cX10_nextStop 55 = .ok (.invokestatic 404, 3) := by decide +kernel
theorem dX10_nextStop_58 : decode cX10_nextStop 58 = .ok (.istore_n 2, 1) := by decide +kernel
theorem dX10_nextStop_59 : decode cX10_nextStop 59 = .ok (.iinc 3 1, 3) := by decide +kernel
theorem dX10_nextStop_62 : decode cX10_nextStop 62 = .ok (.goto (-45), 3) := by decide +kernel
theorem dX10_nextStop_65 : decode cX10_nextStop 65 = .ok (.iload_n 2, 1) := by decide +kernel
theorem dX10_nextStop_66 : decode cX10_nextStop 66 = .ok (.ireturn, 1) := by decide +kernel
theorem dX10_beginDay_0 : decode cX10_beginDay 0 = .ok (.iconst 0, 1) := by decide +kernel
theorem dX10_beginDay_1 : decode cX10_beginDay 1 = .ok (.istore_n 1, 1) := by decide +kernel
theorem dX10_beginDay_2 : decode cX10_beginDay 2 = .ok (.iload_n 1, 1) := by decide +kernel
theorem dX10_beginDay_3 : decode cX10_beginDay 3 = .ok (.aload_n 0, 1) := by decide +kernel
theorem dX10_beginDay_4 : decode cX10_beginDay 4 = .ok (.getfield 16, 3) := by decide +kernel
theorem dX10_beginDay_7 : decode cX10_beginDay 7 = .ok (.invokevirtual 75, 3) := by decide +kernel
theorem dX10_beginDay_10 : decode cX10_beginDay 10 = .ok (.if_icmp .ge 24, 3) := by decide +kernel
theorem dX10_beginDay_13 : decode cX10_beginDay 13 = .ok (.aload_n 0, 1) := by decide +kernel
theorem dX10_beginDay_14 : decode cX10_beginDay 14 = .ok (.getfield 16, 3) := by decide +kernel
theorem dX10_beginDay_17 : decode cX10_beginDay 17 = .ok (.iload_n 1, 1) := by decide +kernel
theorem dX10_beginDay_18 : decode cX10_beginDay 18 = .ok (.invokevirtual 176, 3) := by decide +kernel
theorem dX10_beginDay_21 : decode cX10_beginDay 21 = .ok (.checkcast 121, 3) := by decide +kernel
theorem dX10_beginDay_24 : decode cX10_beginDay 24 = .ok (.iconst 0, 1) := by decide +kernel
theorem dX10_beginDay_25 : decode cX10_beginDay 25 = .ok (.putfield 164, 3) := by decide +kernel
theorem dX10_beginDay_28 : decode cX10_beginDay 28 = .ok (.iinc 1 1, 3) := by decide +kernel
theorem dX10_beginDay_31 : decode cX10_beginDay 31 = .ok (.goto (-29), 3) := by decide +kernel
theorem dX10_beginDay_34 : decode cX10_beginDay 34 = .ok (.iconst 0, 1) := by decide +kernel
theorem dX10_beginDay_35 : decode cX10_beginDay 35 = .ok (.istore_n 1, 1) := by decide +kernel
theorem dX10_beginDay_36 : decode cX10_beginDay 36 = .ok (.iload_n 1, 1) := by decide +kernel
theorem dX10_beginDay_37 : decode cX10_beginDay 37 = .ok (.aload_n 0, 1) := by decide +kernel
theorem dX10_beginDay_38 : decode cX10_beginDay 38 = .ok (.getfield 25, 3) := by decide +kernel
theorem dX10_beginDay_41 : decode cX10_beginDay 41 = .ok (.invokevirtual 75, 3) := by decide +kernel
theorem dX10_beginDay_44 : decode cX10_beginDay 44 = .ok (.if_icmp .ge 39, 3) := by decide +kernel
theorem dX10_beginDay_47 : decode cX10_beginDay 47 = .ok (.aload_n 0, 1) := by decide +kernel
theorem dX10_beginDay_48 : decode cX10_beginDay 48 = .ok (.getfield 25, 3) := by decide +kernel
theorem dX10_beginDay_51 : decode cX10_beginDay 51 = .ok (.iload_n 1, 1) := by decide +kernel
theorem dX10_beginDay_52 : decode cX10_beginDay 52 = .ok (.invokevirtual 176, 3) := by decide +kernel
theorem dX10_beginDay_55 : decode cX10_beginDay 55 = .ok (.checkcast 28, 3) := by decide +kernel
theorem dX10_beginDay_58 : decode cX10_beginDay 58 = .ok (.astore_n 2, 1) := by decide +kernel
theorem dX10_beginDay_59 : decode cX10_beginDay 59 = .ok (.aload_n 2, 1) := by decide +kernel
theorem dX10_beginDay_60 : decode cX10_beginDay 60 = .ok (.aload_n 2, 1) := by decide +kernel
theorem dX10_beginDay_61 : decode cX10_beginDay 61 = .ok (.getfield 353, 3) := by decide +kernel
theorem dX10_beginDay_64 : decode cX10_beginDay 64 = .ok (.putfield 342, 3) := by decide +kernel
theorem dX10_beginDay_67 : decode cX10_beginDay 67 = .ok (.aload_n 0, 1) := by decide +kernel
theorem dX10_beginDay_68 : decode cX10_beginDay 68 = .ok (.aload_n 2, 1) := by decide +kernel
theorem dX10_beginDay_69 : decode cX10_beginDay 69 = .ok (.invokevirtual 435, 3) := by decide +kernel
theorem dX10_beginDay_72 : decode cX10_beginDay 72 = .ok (.aload_n 0, 1) := by decide +kernel
theorem dX10_beginDay_73 : decode cX10_beginDay 73 = .ok (.aload_n 2, 1) := by decide +kernel
theorem dX10_beginDay_74 : decode cX10_beginDay 74 = .ok (.invokevirtual 439, 3) := by decide +kernel
theorem dX10_beginDay_77 : decode cX10_beginDay 77 = .ok (.iinc 1 1, 3) := by decide +kernel
theorem dX10_beginDay_80 : decode cX10_beginDay 80 = .ok (.goto (-44), 3) := by decide +kernel
theorem dX10_beginDay_83 : decode cX10_beginDay 83 = .ok (.return_, 1) := by decide +kernel
theorem dX10_payHelp_0 : decode cX10_payHelp 0 = .ok (.iconst 0, 1) := by decide +kernel
theorem dX10_payHelp_1 : decode cX10_payHelp 1 = .ok (.istore_n 2, 1) := by decide +kernel
theorem dX10_payHelp_2 : decode cX10_payHelp 2 = .ok (.iload_n 2, 1) := by decide +kernel
theorem dX10_payHelp_3 : decode cX10_payHelp 3 = .ok (.aload_n 0, 1) := by decide +kernel
theorem dX10_payHelp_4 : decode cX10_payHelp 4 = .ok (.getfield 16, 3) := by decide +kernel
theorem dX10_payHelp_7 : decode cX10_payHelp 7 = .ok (.invokevirtual 75, 3) := by decide +kernel
theorem dX10_payHelp_10 : decode cX10_payHelp 10 = .ok (.if_icmp .ge 52, 3) := by decide +kernel
theorem dX10_payHelp_13 : decode cX10_payHelp 13 = .ok (.aload_n 0, 1) := by decide +kernel
theorem dX10_payHelp_14 : decode cX10_payHelp 14 = .ok (.getfield 16, 3) := by decide +kernel
theorem dX10_payHelp_17 : decode cX10_payHelp 17 = .ok (.iload_n 2, 1) := by decide +kernel
theorem dX10_payHelp_18 : decode cX10_payHelp 18 = .ok (.invokevirtual 176, 3) := by decide +kernel
theorem dX10_payHelp_21 : decode cX10_payHelp 21 = .ok (.checkcast 121, 3) := by decide +kernel
theorem dX10_payHelp_24 : decode cX10_payHelp 24 = .ok (.astore_n 3, 1) := by decide +kernel
theorem dX10_payHelp_25 : decode cX10_payHelp 25 = .ok (.aload_n 3, 1) := by decide +kernel
theorem dX10_payHelp_26 : decode cX10_payHelp 26 = .ok (.getfield 152, 3) := by decide +kernel
theorem dX10_payHelp_29 : decode cX10_payHelp 29 = .ok (.aload_n 1, 1) := by decide +kernel
theorem dX10_payHelp_30 : decode cX10_payHelp 30 = .ok (.getfield 400, 3) := by decide +kernel
theorem dX10_payHelp_33 : decode cX10_payHelp 33 = .ok (.if_icmp .ne 23, 3) := by decide +kernel
theorem dX10_payHelp_36 : decode cX10_payHelp 36 = .ok (.aload_n 3, 1) := by decide +kernel
theorem dX10_payHelp_37 : decode cX10_payHelp 37 = .ok (.aload_n 0, 1) := by decide +kernel
theorem dX10_payHelp_38 : decode cX10_payHelp 38 = .ok (.getfield 95, 3) := by decide +kernel
theorem dX10_payHelp_41 : decode cX10_payHelp 41 = .ok (.invokevirtual 442, 3) := by decide +kernel
theorem dX10_payHelp_44 : decode cX10_payHelp 44 = .ok (.ifCond .eq 12, 3) := by decide +kernel
theorem dX10_payHelp_47 : decode cX10_payHelp 47 = .ok (.aload_n 1, 1) := by decide +kernel
theorem dX10_payHelp_48 : decode cX10_payHelp 48 = .ok (.aload_n 3, 1) := by decide +kernel
theorem dX10_payHelp_49 : decode cX10_payHelp 49 = .ok (.aload_n 1, 1) := by decide +kernel
theorem dX10_payHelp_50 : decode cX10_payHelp 50 = .ok (.getfield 336, 3) := by decide +kernel
theorem dX10_payHelp_53 : decode cX10_payHelp 53 = .ok (.invokevirtual 445, 3) := by decide +kernel
theorem dX10_payHelp_56 : decode cX10_payHelp 56 = .ok (.iinc 2 1, 3) := by decide +kernel
theorem dX10_payHelp_59 : decode cX10_payHelp 59 = .ok (.goto (-57), 3) := by decide +kernel
theorem dX10_payHelp_62 : decode cX10_payHelp 62 = .ok (.return_, 1) := by decide +kernel
theorem dX10_payPensions_0 : decode cX10_payPensions 0 = .ok (.iconst 0, 1) := by decide +kernel
theorem dX10_payPensions_1 : decode cX10_payPensions 1 = .ok (.istore_n 2, 1) := by decide +kernel
theorem dX10_payPensions_2 : decode cX10_payPensions 2 = .ok (.iload_n 2, 1) := by decide +kernel
theorem dX10_payPensions_3 : decode cX10_payPensions 3 = .ok (.aload_n 0, 1) := by decide +kernel
theorem dX10_payPensions_4 : decode cX10_payPensions 4 = .ok (.getfield 16, 3) := by decide +kernel
theorem dX10_payPensions_7 : decode cX10_payPensions 7 = .ok (.invokevirtual 75, 3) := by decide +kernel
theorem dX10_payPensions_10 : decode cX10_payPensions 10 = .ok (.if_icmp .ge 48, 3) := by decide +kernel
theorem dX10_payPensions_13 : decode cX10_payPensions 13 = .ok (.aload_n 0, 1) := by decide +kernel
theorem dX10_payPensions_14 : decode cX10_payPensions 14 = .ok (.getfield 16, 3) := by decide +kernel
theorem dX10_payPensions_17 : decode cX10_payPensions 17 = .ok (.iload_n 2, 1) := by decide +kernel
theorem dX10_payPensions_18 : decode cX10_payPensions 18 = .ok (.invokevirtual 176, 3) := by decide +kernel
theorem dX10_payPensions_21 : decode cX10_payPensions 21 = .ok (.checkcast 121, 3) := by decide +kernel
theorem dX10_payPensions_24 : decode cX10_payPensions 24 = .ok (.astore_n 3, 1) := by decide +kernel
theorem dX10_payPensions_25 : decode cX10_payPensions 25 = .ok (.aload_n 3, 1) := by decide +kernel
theorem dX10_payPensions_26 : decode cX10_payPensions 26 = .ok (.getfield 152, 3) := by decide +kernel
theorem dX10_payPensions_29 : decode cX10_payPensions 29 = .ok (.aload_n 1, 1) := by decide +kernel
theorem dX10_payPensions_30 : decode cX10_payPensions 30 = .ok (.getfield 400, 3) := by decide +kernel
theorem dX10_payPensions_33 : decode cX10_payPensions 33 = .ok (.if_icmp .ne 19, 3) := by decide +kernel
theorem dX10_payPensions_36 : decode cX10_payPensions 36 = .ok (.aload_n 3, 1) := by decide +kernel
theorem dX10_payPensions_37 : decode cX10_payPensions 37 = .ok (.invokevirtual 449, 3) := by decide +kernel
theorem dX10_payPensions_40 : decode cX10_payPensions 40 = .ok (.ifCond .eq 12, 3) := by decide +kernel
theorem dX10_payPensions_43 : decode cX10_payPensions 43 = .ok (.aload_n 1, 1) := by decide +kernel
theorem dX10_payPensions_44 : decode cX10_payPensions 44 = .ok (.aload_n 3, 1) := by decide +kernel
theorem dX10_payPensions_45 : decode cX10_payPensions 45 = .ok (.aload_n 1, 1) := by decide +kernel
theorem dX10_payPensions_46 : decode cX10_payPensions 46 = .ok (.getfield 339, 3) := by decide +kernel
theorem dX10_payPensions_49 : decode cX10_payPensions 49 = .ok (.invokevirtual 445, 3) := by decide +kernel
theorem dX10_payPensions_52 : decode cX10_payPensions 52 = .ok (.iinc 2 1, 3) := by decide +kernel
theorem dX10_payPensions_55 : decode cX10_payPensions 55 = .ok (.goto (-53), 3) := by decide +kernel
theorem dX10_payPensions_58 : decode cX10_payPensions 58 = .ok (.return_, 1) := by decide +kernel
theorem dX10_bringIn_0 : decode cX10_bringIn 0 = .ok (.iconst 0, 1) := by decide +kernel
theorem dX10_bringIn_1 : decode cX10_bringIn 1 = .ok (.istore_n 1, 1) := by decide +kernel
theorem dX10_bringIn_2 : decode cX10_bringIn 2 = .ok (.iload_n 1, 1) := by decide +kernel
theorem dX10_bringIn_3 : decode cX10_bringIn 3 = .ok (.aload_n 0, 1) := by decide +kernel
theorem dX10_bringIn_4 : decode cX10_bringIn 4 = .ok (.getfield 19, 3) := by decide +kernel
theorem dX10_bringIn_7 : decode cX10_bringIn 7 = .ok (.invokevirtual 75, 3) := by decide +kernel
theorem dX10_bringIn_10 : decode cX10_bringIn 10 = .ok (.if_icmp .ge 82, 3) := by decide +kernel
theorem dX10_bringIn_13 : decode cX10_bringIn 13 = .ok (.aload_n 0, 1) := by decide +kernel
theorem dX10_bringIn_14 : decode cX10_bringIn 14 = .ok (.getfield 19, 3) := by decide +kernel
theorem dX10_bringIn_17 : decode cX10_bringIn 17 = .ok (.iload_n 1, 1) := by decide +kernel
theorem dX10_bringIn_18 : decode cX10_bringIn 18 = .ok (.invokevirtual 176, 3) := by decide +kernel
theorem dX10_bringIn_21 : decode cX10_bringIn 21 = .ok (.checkcast 233, 3) := by decide +kernel
theorem dX10_bringIn_24 : decode cX10_bringIn 24 = .ok (.astore_n 2, 1) := by decide +kernel
theorem dX10_bringIn_25 : decode cX10_bringIn 25 = .ok (.aload_n 0, 1) := by decide +kernel
theorem dX10_bringIn_26 : decode cX10_bringIn 26 = .ok (.aload_n 2, 1) := by decide +kernel
theorem dX10_bringIn_27 : decode cX10_bringIn 27 = .ok (.getfield 291, 3) := by decide +kernel
theorem dX10_bringIn_30 : decode cX10_bringIn 30 = .ok (.invokevirtual 117, 3) := by decide +kernel
theorem dX10_bringIn_33 : decode cX10_bringIn 33 = .ok (.astore_n 3, 1) := by decide +kernel
theorem dX10_bringIn_34 : decode cX10_bringIn 34 = .ok (.aload_n 3, 1) := by decide +kernel
theorem dX10_bringIn_35 : decode cX10_bringIn 35 = .ok (.ifnull 51, 3) := by decide +kernel
theorem dX10_bringIn_38 : decode cX10_bringIn 38 = .ok (.aload_n 2, 1) := by decide +kernel
theorem dX10_bringIn_39 : decode cX10_bringIn 39 = .ok (.getfield 428, 3) := by decide +kernel
theorem dX10_bringIn_42 : decode cX10_bringIn 42 = .ok (.ifCond .eq 44, 3) := by decide +kernel
theorem dX10_bringIn_45 : decode cX10_bringIn 45 = .ok (.aload_n 2, 1) := by decide +kernel
theorem dX10_bringIn_46 : decode cX10_bringIn 46 = .ok (.getfield 301, 3) := by decide +kernel
theorem dX10_bringIn_49 : decode cX10_bringIn 49 = .ok (.aload_n 0, 1) := by decide +kernel
theorem dX10_bringIn_50 : decode cX10_bringIn 50 = .ok (.getfield 95, 3) := by decide +kernel
theorem dX10_bringIn_53 : decode cX10_bringIn 53 = .ok (.if_icmp .gt 33, 3) := by decide +kernel
theorem dX10_bringIn_56 : decode cX10_bringIn 56 = .ok (.aload_n 2, 1) := by decide +kernel
theorem dX10_bringIn_57 : decode cX10_bringIn 57 = .ok (.iconst 0, 1) := by decide +kernel
theorem dX10_bringIn_58 : decode cX10_bringIn 58 = .ok (.putfield 428, 3) := by decide +kernel
theorem dX10_bringIn_61 : decode cX10_bringIn 61 = .ok (.aload_n 2, 1) := by decide +kernel
theorem dX10_bringIn_62 : decode cX10_bringIn 62 = .ok (.getfield 260, 3) := by decide +kernel
theorem dX10_bringIn_65 : decode cX10_bringIn 65 = .ok (.iconst 1, 1) := by decide +kernel
theorem dX10_bringIn_66 : decode cX10_bringIn 66 = .ok (.if_icmp .ne 14, 3) := by decide +kernel
theorem dX10_bringIn_69 : decode cX10_bringIn 69 = .ok (.aload_n 2, 1) := by decide +kernel
theorem dX10_bringIn_70 : decode cX10_bringIn 70 = .ok (.iconst 2, 1) := by decide +kernel
theorem dX10_bringIn_71 : decode cX10_bringIn 71 = .ok (.putfield 260, 3) := by decide +kernel
theorem dX10_bringIn_74 : decode cX10_bringIn 74 = .ok (.aload_n 0, 1) := by decide +kernel
theorem dX10_bringIn_75 : decode cX10_bringIn 75 = .ok (.aload_n 2, 1) := by decide +kernel
theorem dX10_bringIn_76 : decode cX10_bringIn 76 = .ok (.aload_n 3, 1) := by decide +kernel
theorem dX10_bringIn_77 : decode cX10_bringIn 77 = .ok (.invokevirtual 453, 3) := by decide +kernel
theorem dX10_bringIn_80 : decode cX10_bringIn 80 = .ok (.aload_n 0, 1) := by decide +kernel
theorem dX10_bringIn_81 : decode cX10_bringIn 81 = .ok (.aload_n 2, 1) := by decide +kernel
theorem dX10_bringIn_82 : decode cX10_bringIn 82 = .ok (.aload_n 3, 1) := by decide +kernel
theorem dX10_bringIn_83 : decode cX10_bringIn 83 = .ok (.invokevirtual 457, 3) := by decide +kernel
theorem dX10_bringIn_86 : decode cX10_bringIn 86 = .ok (.iinc 1 1, 3) := by decide +kernel
theorem dX10_bringIn_89 : decode cX10_bringIn 89 = .ok (.goto (-87), 3) := by decide +kernel
theorem dX10_bringIn_92 : decode cX10_bringIn 92 = .ok (.return_, 1) := by decide +kernel
theorem dX10_payFor_0 : decode cX10_payFor 0 = .ok (.aload_n 1, 1) := by decide +kernel
theorem dX10_payFor_1 : decode cX10_payFor 1 = .ok (.getfield 257, 3) := by decide +kernel
theorem dX10_payFor_4 : decode cX10_payFor 4 = .ok (.invokevirtual 75, 3) := by decide +kernel
theorem dX10_payFor_7 : decode cX10_payFor 7 = .ok (.istore_n 3, 1) := by decide +kernel
theorem dX10_payFor_8 : decode cX10_payFor 8 = .ok (.iload_n 3, 1) := by decide +kernel
theorem dX10_payFor_9 : decode cX10_payFor 9 = .ok (.ifCond .ne 4, 3) := by decide +kernel
theorem dX10_payFor_12 : decode cX10_payFor 12 = .ok (.return_, 1) := by decide +kernel
theorem dX10_payFor_13 : decode cX10_payFor 13 = .ok (.aload_n 1, 1) := by decide +kernel
theorem dX10_payFor_14 : decode cX10_payFor 14 = .ok (.aload_n 1, 1) := by decide +kernel
theorem dX10_payFor_15 : decode cX10_payFor 15 = .ok (.getfield 301, 3) := by decide +kernel
theorem dX10_payFor_18 : decode cX10_payFor 18 = .ok (.aload_n 1, 1) := by decide +kernel
theorem dX10_payFor_19 : decode cX10_payFor 19 = .ok (.getfield 288, 3) := by decide +kernel
theorem dX10_payFor_22 : decode cX10_payFor 22 = .ok (.if_icmp .le 12, 3) := by decide +kernel
theorem dX10_payFor_25 : decode cX10_payFor 25 = .ok (.aload_n 1, 1) := by decide +kernel
theorem dX10_payFor_26 : decode cX10_payFor 26 = .ok (.getfield 292, 3) := by decide +kernel
theorem dX10_payFor_29 : decode cX10_payFor 29 = .ok (.iconst 2, 1) := by decide +kernel
theorem dX10_payFor_30 : decode cX10_payFor 30 = .ok (.idiv, 1) := by decide +kernel
theorem dX10_payFor_31 : decode cX10_payFor 31 = .ok (.goto 7, 3) := by decide +kernel
theorem dX10_payFor_34 : decode cX10_payFor 34 = .ok (.aload_n 1, 1) := by decide +kernel
theorem dX10_payFor_35 : decode cX10_payFor 35 = .ok (.getfield 292, 3) := by decide +kernel
theorem dX10_payFor_38 : decode cX10_payFor 38 = .ok (.putfield 295, 3) := by decide +kernel
theorem dX10_payFor_41 : decode cX10_payFor 41 = .ok (.aload_n 1, 1) := by decide +kernel
theorem dX10_payFor_42 : decode cX10_payFor 42 = .ok (.getfield 295, 3) := by decide +kernel
theorem dX10_payFor_45 : decode cX10_payFor 45 = .ok (.aload_n 1, 1) := by decide +kernel
theorem dX10_payFor_46 : decode cX10_payFor 46 = .ok (.getfield 425, 3) := by decide +kernel
theorem dX10_payFor_49 : decode cX10_payFor 49 = .ok (.imul, 1) := by decide +kernel
theorem dX10_payFor_50 : decode cX10_payFor 50 = .ok (.bipush 100, 2) := by decide +kernel
theorem dX10_payFor_52 : decode cX10_payFor 52 = .ok (.idiv, 1) := by decide +kernel
theorem dX10_payFor_53 : decode cX10_payFor 53 = .ok (.istore 4, 2) := by decide +kernel
theorem dX10_payFor_55 : decode cX10_payFor 55 = .ok (.aload_n 2, 1) := by decide +kernel
theorem dX10_payFor_56 : decode cX10_payFor 56 = .ok (.iload 4, 2) := by decide +kernel
theorem dX10_payFor_58 : decode cX10_payFor 58 = .ok (.invokevirtual 432, 3) := by decide +kernel
theorem dX10_payFor_61 : decode cX10_payFor 61 = .ok (.aload_n 1, 1) := by decide +kernel
theorem dX10_payFor_62 : decode cX10_payFor 62 = .ok (.getfield 295, 3) := by decide +kernel
theorem dX10_payFor_65 : decode cX10_payFor 65 = .ok (.iload 4, 2) := by decide +kernel
theorem dX10_payFor_67 : decode cX10_payFor 67 = .ok (.isub, 1) := by decide +kernel
theorem dX10_payFor_68 : decode cX10_payFor 68 = .ok (.istore 5, 2) := by decide +kernel
theorem dX10_payFor_70 : decode cX10_payFor 70 = .ok (.iconst 0, 1) := by decide +kernel
theorem dX10_payFor_71 : decode cX10_payFor 71 = .ok (.istore 6, 2) := by decide +kernel
theorem dX10_payFor_73 : decode cX10_payFor 73 = .ok (.iload 6, 2) := by decide +kernel
theorem dX10_payFor_75 : decode cX10_payFor 75 = .ok (.iload_n 3, 1) := by decide +kernel
theorem dX10_payFor_76 : decode cX10_payFor 76 = .ok (.if_icmp .ge 33, 3) := by decide +kernel
theorem dX10_payFor_79 : decode cX10_payFor 79 = .ok (.aload_n 1, 1) := by decide +kernel
theorem dX10_payFor_80 : decode cX10_payFor 80 = .ok (.getfield 257, 3) := by decide +kernel
theorem dX10_payFor_83 : decode cX10_payFor 83 = .ok (.iload 6, 2) := by decide +kernel
theorem dX10_payFor_85 : decode cX10_payFor 85 = .ok (.invokevirtual 176, 3) := by decide +kernel
theorem dX10_payFor_88 : decode cX10_payFor 88 = .ok (.checkcast 121, 3) := by decide +kernel
theorem dX10_payFor_91 : decode cX10_payFor 91 = .ok (.dup, 1) := by decide +kernel
theorem dX10_payFor_92 : decode cX10_payFor 92 = .ok (.getfield 161, 3) := by decide +kernel
theorem dX10_payFor_95 : decode cX10_payFor 95 = .ok (.iload 5, 2) := by decide +kernel
theorem dX10_payFor_97 : decode cX10_payFor 97 = .ok (.iload_n 3, 1) := by decide +kernel
theorem dX10_payFor_98 : decode cX10_payFor 98 = .ok (.idiv, 1) := by decide +kernel
theorem dX10_payFor_99 : decode cX10_payFor 99 = .ok (.iadd, 1) := by decide +kernel
theorem dX10_payFor_100 : decode cX10_payFor 100 = .ok (.putfield 161, 3) := by decide +kernel
theorem dX10_payFor_103 : decode cX10_payFor 103 = .ok (.iinc 6 1, 3) := by decide +kernel
theorem dX10_payFor_106 : decode cX10_payFor 106 = .ok (.goto (-33), 3) := by decide +kernel
theorem dX10_payFor_109 : decode cX10_payFor 109 = .ok (.aload_n 1, 1) := by decide +kernel
theorem dX10_payFor_110 : decode cX10_payFor 110 = .ok (.getfield 257, 3) := by decide +kernel
theorem dX10_payFor_113 : decode cX10_payFor 113 = .ok (.iconst 0, 1) := by decide +kernel
theorem dX10_payFor_114 : decode cX10_payFor 114 = .ok (.invokevirtual 176, 3) := by decide +kernel
theorem dX10_payFor_117 : decode cX10_payFor 117 = .ok (.checkcast 121, 3) := by decide +kernel
theorem dX10_payFor_120 : decode cX10_payFor 120 = .ok (.dup, 1) := by decide +kernel
theorem dX10_payFor_121 : decode cX10_payFor 121 = .ok (.getfield 161, 3) := by decide +kernel
theorem dX10_payFor_124 : decode cX10_payFor 124 = .ok (.iload 5, 2) := by decide +kernel
theorem dX10_payFor_126 : decode cX10_payFor 126 = .ok (.iload_n 3, 1) := by decide +kernel
theorem dX10_payFor_127 : decode cX10_payFor 127 = .ok (.irem, 1) := by decide +kernel
theorem dX10_payFor_128 : decode cX10_payFor 128 = .ok (.iadd, 1) := by decide +kernel
theorem dX10_payFor_129 : decode cX10_payFor 129 = .ok (.putfield 161, 3) := by decide +kernel
theorem dX10_payFor_132 : decode cX10_payFor 132 = .ok (.return_, 1) := by decide +kernel
theorem dX10_comeBack_0 : decode cX10_comeBack 0 = .ok (.iconst 0, 1) := by decide +kernel
theorem dX10_comeBack_1 : decode cX10_comeBack 1 = .ok (.istore_n 3, 1) := by decide +kernel
theorem dX10_comeBack_2 : decode cX10_comeBack 2 = .ok (.iload_n 3, 1) := by decide +kernel
theorem dX10_comeBack_3 : decode cX10_comeBack 3 = .ok (.aload_n 1, 1) := by decide +kernel
theorem dX10_comeBack_4 : decode cX10_comeBack 4 = .ok (.getfield 257, 3) := by decide +kernel
theorem dX10_comeBack_7 : decode cX10_comeBack 7 = .ok (.invokevirtual 75, 3) := by decide +kernel
theorem dX10_comeBack_10 : decode cX10_comeBack 10 = .ok (.if_icmp .ge 38, 3) := by decide +kernel
theorem dX10_comeBack_13 : decode cX10_comeBack 13 = .ok (.aload_n 1, 1) := by decide +kernel
theorem dX10_comeBack_14 : decode cX10_comeBack 14 = .ok (.getfield 257, 3) := by decide +kernel
theorem dX10_comeBack_17 : decode cX10_comeBack 17 = .ok (.iload_n 3, 1) := by decide +kernel
theorem dX10_comeBack_18 : decode cX10_comeBack 18 = .ok (.invokevirtual 176, 3) := by decide +kernel
theorem dX10_comeBack_21 : decode cX10_comeBack 21 = .ok (.checkcast 121, 3) := by decide +kernel
theorem dX10_comeBack_24 : decode cX10_comeBack 24 = .ok (.astore 4, 2) := by decide +kernel
theorem dX10_comeBack_26 : decode cX10_comeBack 26 = .ok (.aload 4, 2) := by decide +kernel
theorem dX10_comeBack_28 : decode cX10_comeBack 28 = .ok (.iconst (-1), 1) := by decide +kernel
theorem dX10_comeBack_29 : decode cX10_comeBack 29 = .ok (.putfield 173, 3) := by decide +kernel
theorem dX10_comeBack_32 : decode cX10_comeBack 32 = .ok (.aload_n 2, 1) := by decide +kernel
theorem dX10_comeBack_33 : decode cX10_comeBack 33 = .ok (.getfield 146, 3) := by decide +kernel
theorem dX10_comeBack_36 : decode cX10_comeBack 36 = .ok (.aload 4, 2) := by decide +kernel
theorem dX10_comeBack_38 : decode cX10_comeBack 38 = .ok (.invokevirtual 33, 3) := by decide +kernel
theorem dX10_comeBack_41 : decode cX10_comeBack 41 = .ok (.pop, 1) := by decide +kernel
theorem dX10_comeBack_42 : decode cX10_comeBack 42 = .ok (.iinc 3 1, 3) := by decide +kernel
theorem dX10_comeBack_45 : decode cX10_comeBack 45 = .ok (.goto (-43), 3) := by decide +kernel
theorem dX10_comeBack_48 : decode cX10_comeBack 48 = .ok (.return_, 1) := by decide +kernel
theorem dX10_gatherHurtAndCountOld_0 : decode cX10_gatherHurtAndCountOld 0 = .ok (.iconst 0, 1) := by decide +kernel
theorem dX10_gatherHurtAndCountOld_1 : decode cX10_gatherHurtAndCountOld 1 = .ok (.istore_n 2, 1) := by decide +kernel
theorem dX10_gatherHurtAndCountOld_2 : decode cX10_gatherHurtAndCountOld 2 = .ok (.aload_n 0, 1) := by decide +kernel
theorem dX10_gatherHurtAndCountOld_3 : decode cX10_gatherHurtAndCountOld 3 = .ok (.getfield 68, 3) := by decide +kernel
theorem dX10_gatherHurtAndCountOld_6 : decode cX10_gatherHurtAndCountOld 6 = .ok (.invokevirtual 411, 3) := by decide +kernel
theorem dX10_gatherHurtAndCountOld_9 : decode cX10_gatherHurtAndCountOld 9 = .ok (.iconst 0, 1) := by decide +kernel
theorem dX10_gatherHurtAndCountOld_10 : decode cX10_gatherHurtAndCountOld 10 = .ok (.istore_n 3, 1) := by decide +kernel
theorem dX10_gatherHurtAndCountOld_11 : decode cX10_gatherHurtAndCountOld 11 = .ok (.iload_n 3, 1) := by decide +kernel
theorem dX10_gatherHurtAndCountOld_12 : decode cX10_gatherHurtAndCountOld 12 = .ok (.aload_n 0, 1) := by decide +kernel
theorem dX10_gatherHurtAndCountOld_13 : decode cX10_gatherHurtAndCountOld 13 = .ok (.getfield 16, 3) := by decide +kernel
theorem dX10_gatherHurtAndCountOld_16 : decode cX10_gatherHurtAndCountOld 16 = .ok (.invokevirtual 75, 3) := by decide +kernel
theorem dX10_gatherHurtAndCountOld_19 : decode cX10_gatherHurtAndCountOld 19 = .ok (.if_icmp .ge 70, 3) := by decide +kernel
theorem dX10_gatherHurtAndCountOld_22 : decode cX10_gatherHurtAndCountOld 22 = .ok (.aload_n 0, 1) := by decide +kernel
theorem dX10_gatherHurtAndCountOld_23 : decode cX10_gatherHurtAndCountOld 23 = .ok (.getfield 16, 3) := by decide +kernel
theorem dX10_gatherHurtAndCountOld_26 : decode cX10_gatherHurtAndCountOld 26 = .ok (.iload_n 3, 1) := by decide +kernel
theorem dX10_gatherHurtAndCountOld_27 : decode cX10_gatherHurtAndCountOld 27 = .ok (.invokevirtual 176, 3) := by decide +kernel
theorem dX10_gatherHurtAndCountOld_30 : decode cX10_gatherHurtAndCountOld 30 = .ok (.checkcast 121, 3) := by decide +kernel
theorem dX10_gatherHurtAndCountOld_33 : decode cX10_gatherHurtAndCountOld 33 = .ok (.astore 4, 2) := by decide +kernel
theorem dX10_gatherHurtAndCountOld_35 : decode cX10_gatherHurtAndCountOld 35 = .ok (.aload 4, 2) := by decide +kernel
theorem dX10_gatherHurtAndCountOld_37 : decode cX10_gatherHurtAndCountOld 37 = .ok (.getfield 152, 3) := by decide +kernel
theorem dX10_gatherHurtAndCountOld_40 : decode cX10_gatherHurtAndCountOld 40 = .ok (.aload_n 1, 1) := by decide +kernel
theorem dX10_gatherHurtAndCountOld_41 : decode cX10_gatherHurtAndCountOld 41 = .ok (.getfield 400, 3) := by decide +kernel
theorem dX10_gatherHurtAndCountOld_44 : decode cX10_gatherHurtAndCountOld 44 = .ok (.if_icmp .eq 6, 3) := by decide +kernel
theorem dX10_gatherHurtAndCountOld_47 : decode cX10_gatherHurtAndCountOld 47 = .ok (.goto 36, 3) := by decide +kernel
theorem dX10_gatherHurtAndCountOld_50 : decode cX10_gatherHurtAndCountOld 50 = .ok (.aload 4, 2) := by decide +kernel
theorem dX10_gatherHurtAndCountOld_52 : decode cX10_gatherHurtAndCountOld 52 = .ok (.aload_n 0, 1) := by decide +kernel
theorem dX10_gatherHurtAndCountOld_53 : decode cX10_gatherHurtAndCountOld 53 = .ok (.getfield 95, 3) := by decide +kernel
theorem dX10_gatherHurtAndCountOld_56 : decode cX10_gatherHurtAndCountOld 56 = .ok (.invokevirtual 442, 3) := by decide +kernel
theorem dX10_gatherHurtAndCountOld_59 : decode cX10_gatherHurtAndCountOld 59 = .ok (.ifCond .eq 13, 3) := by decide +kernel
theorem dX10_gatherHurtAndCountOld_62 : decode cX10_gatherHurtAndCountOld 62 = .ok (.aload_n 0, 1) := by decide +kernel
theorem dX10_gatherHurtAndCountOld_63 : decode cX10_gatherHurtAndCountOld 63 = .ok (.getfield 68, 3) := by decide +kernel
theorem dX10_gatherHurtAndCountOld_66 : decode cX10_gatherHurtAndCountOld 66 = .ok (.aload 4, 2) := by decide +kernel
theorem dX10_gatherHurtAndCountOld_68 : decode cX10_gatherHurtAndCountOld 68 = .ok (.invokevirtual 33, 3) := by decide +kernel
theorem dX10_gatherHurtAndCountOld_71 : decode cX10_gatherHurtAndCountOld 71 = .ok (.pop, 1) := by decide +kernel
theorem dX10_gatherHurtAndCountOld_72 : decode cX10_gatherHurtAndCountOld 72 = .ok (.aload 4, 2) := by decide +kernel
theorem dX10_gatherHurtAndCountOld_74 : decode cX10_gatherHurtAndCountOld 74 = .ok (.invokevirtual 449, 3) := by decide +kernel
theorem dX10_gatherHurtAndCountOld_77 : decode cX10_gatherHurtAndCountOld 77 = .ok (.ifCond .eq 6, 3) := by decide +kernel
theorem dX10_gatherHurtAndCountOld_80 : decode cX10_gatherHurtAndCountOld 80 = .ok (.iinc 2 1, 3) := by decide +kernel
theorem dX10_gatherHurtAndCountOld_83 : decode cX10_gatherHurtAndCountOld 83 = .ok (.iinc 3 1, 3) := by decide +kernel
theorem dX10_gatherHurtAndCountOld_86 : decode cX10_gatherHurtAndCountOld 86 = .ok (.goto (-75), 3) := by decide +kernel
theorem dX10_gatherHurtAndCountOld_89 : decode cX10_gatherHurtAndCountOld 89 = .ok (.iload_n 2, 1) := by decide +kernel
theorem dX10_gatherHurtAndCountOld_90 : decode cX10_gatherHurtAndCountOld 90 = .ok (.ireturn, 1) := by decide +kernel
theorem dX10_stillHurt_0 : decode cX10_stillHurt 0 = .ok (.iconst 0, 1) := by decide +kernel
theorem dX10_stillHurt_1 : decode cX10_stillHurt 1 = .ok (.istore_n 2, 1) := by decide +kernel
theorem dX10_stillHurt_2 : decode cX10_stillHurt 2 = .ok (.iconst 0, 1) := by decide +kernel
theorem dX10_stillHurt_3 : decode cX10_stillHurt 3 = .ok (.istore_n 3, 1) := by decide +kernel
theorem dX10_stillHurt_4 : decode cX10_stillHurt 4 = .ok (.iload_n 3, 1) := by decide +kernel
theorem dX10_stillHurt_5 : decode cX10_stillHurt 5 = .ok (.aload_n 0, 1) := by decide +kernel
theorem dX10_stillHurt_6 : decode cX10_stillHurt 6 = .ok (.getfield 68, 3) := by decide +kernel
theorem dX10_stillHurt_9 : decode cX10_stillHurt 9 = .ok (.invokevirtual 75, 3) := by decide +kernel
theorem dX10_stillHurt_12 : decode cX10_stillHurt 12 = .ok (.if_icmp .ge 30, 3) := by decide +kernel
theorem dX10_stillHurt_15 : decode cX10_stillHurt 15 = .ok (.aload_n 0, 1) := by decide +kernel
theorem dX10_stillHurt_16 : decode cX10_stillHurt 16 = .ok (.getfield 68, 3) := by decide +kernel
theorem dX10_stillHurt_19 : decode cX10_stillHurt 19 = .ok (.iload_n 3, 1) := by decide +kernel
theorem dX10_stillHurt_20 : decode cX10_stillHurt 20 = .ok (.invokevirtual 176, 3) := by decide +kernel
theorem dX10_stillHurt_23 : decode cX10_stillHurt 23 = .ok (.checkcast 121, 3) := by decide +kernel
theorem dX10_stillHurt_26 : decode cX10_stillHurt 26 = .ok (.iload_n 1, 1) := by decide +kernel
theorem dX10_stillHurt_27 : decode cX10_stillHurt 27 = .ok (.invokevirtual 397, 3) := by decide +kernel
theorem dX10_stillHurt_30 : decode cX10_stillHurt 30 = .ok (.ifCond .eq 6, 3) := by decide +kernel
theorem dX10_stillHurt_33 : decode cX10_stillHurt 33 = .ok (.iinc 2 1, 3) := by decide +kernel
theorem dX10_stillHurt_36 : decode cX10_stillHurt 36 = .ok (.iinc 3 1, 3) := by decide +kernel
theorem dX10_stillHurt_39 : decode cX10_stillHurt 39 = .ok (.goto (-35), 3) := by decide +kernel
theorem dX10_stillHurt_42 : decode cX10_stillHurt 42 = .ok (.iload_n 2, 1) := by decide +kernel
theorem dX10_stillHurt_43 : decode cX10_stillHurt 43 = .ok (.ireturn, 1) := by decide +kernel
theorem dX10_loadsIn_0 : decode cX10_loadsIn 0 = .ok (.iconst 0, 1) := by decide +kernel
theorem dX10_loadsIn_1 : decode cX10_loadsIn 1 = .ok (.istore_n 2, 1) := by decide +kernel
theorem dX10_loadsIn_2 : decode cX10_loadsIn 2 = .ok (.iconst 0, 1) := by decide +kernel
theorem dX10_loadsIn_3 : decode cX10_loadsIn 3 = .ok (.istore_n 3, 1) := by decide +kernel
theorem dX10_loadsIn_4 : decode cX10_loadsIn 4 = .ok (.iload_n 3, 1) := by decide +kernel
theorem dX10_loadsIn_5 : decode cX10_loadsIn 5 = .ok (.aload_n 0, 1) := by decide +kernel
theorem dX10_loadsIn_6 : decode cX10_loadsIn 6 = .ok (.getfield 19, 3) := by decide +kernel
theorem dX10_loadsIn_9 : decode cX10_loadsIn 9 = .ok (.invokevirtual 75, 3) := by decide +kernel
theorem dX10_loadsIn_12 : decode cX10_loadsIn 12 = .ok (.if_icmp .ge 30, 3) := by decide +kernel
theorem dX10_loadsIn_15 : decode cX10_loadsIn 15 = .ok (.aload_n 0, 1) := by decide +kernel
theorem dX10_loadsIn_16 : decode cX10_loadsIn 16 = .ok (.getfield 19, 3) := by decide +kernel
theorem dX10_loadsIn_19 : decode cX10_loadsIn 19 = .ok (.iload_n 3, 1) := by decide +kernel
theorem dX10_loadsIn_20 : decode cX10_loadsIn 20 = .ok (.invokevirtual 176, 3) := by decide +kernel
theorem dX10_loadsIn_23 : decode cX10_loadsIn 23 = .ok (.checkcast 233, 3) := by decide +kernel
theorem dX10_loadsIn_26 : decode cX10_loadsIn 26 = .ok (.getfield 260, 3) := by decide +kernel
theorem dX10_loadsIn_29 : decode cX10_loadsIn 29 = .ok (.iload_n 1, 1) := by decide +kernel
theorem dX10_loadsIn_30 : decode cX10_loadsIn 30 = .ok (.if_icmp .ne 6, 3) := by decide +kernel
theorem dX10_loadsIn_33 : decode cX10_loadsIn 33 = .ok (.iinc 2 1, 3) := by decide +kernel
theorem dX10_loadsIn_36 : decode cX10_loadsIn 36 = .ok (.iinc 3 1, 3) := by decide +kernel
theorem dX10_loadsIn_39 : decode cX10_loadsIn 39 = .ok (.goto (-35), 3) := by decide +kernel
theorem dX10_loadsIn_42 : decode cX10_loadsIn 42 = .ok (.iload_n 2, 1) := by decide +kernel
theorem dX10_loadsIn_43 : decode cX10_loadsIn 43 = .ok (.ireturn, 1) := by decide +kernel
theorem dX10_allWaiting_0 : decode cX10_allWaiting 0 = .ok (.iconst 0, 1) := by decide +kernel
theorem dX10_allWaiting_1 : decode cX10_allWaiting 1 = .ok (.istore_n 1, 1) := by decide +kernel
theorem dX10_allWaiting_2 : decode cX10_allWaiting 2 = .ok (.iconst 0, 1) := by decide +kernel
theorem dX10_allWaiting_3 : decode cX10_allWaiting 3 = .ok (.istore_n 2, 1) := by decide +kernel
theorem dX10_allWaiting_4 : decode cX10_allWaiting 4 = .ok (.iload_n 2, 1) := by decide +kernel
theorem dX10_allWaiting_5 : decode cX10_allWaiting 5 = .ok (.aload_n 0, 1) := by decide +kernel
theorem dX10_allWaiting_6 : decode cX10_allWaiting 6 = .ok (.getfield 19, 3) := by decide +kernel
theorem dX10_allWaiting_9 : decode cX10_allWaiting 9 = .ok (.invokevirtual 75, 3) := by decide +kernel
theorem dX10_allWaiting_12 : decode cX10_allWaiting 12 = .ok (.if_icmp .ge 30, 3) := by decide +kernel
theorem dX10_allWaiting_15 : decode cX10_allWaiting 15 = .ok (.iload_n 1, 1) := by decide +kernel
theorem dX10_allWaiting_16 : decode cX10_allWaiting 16 = .ok (.aload_n 0, 1) := by decide +kernel
theorem dX10_allWaiting_17 : decode cX10_allWaiting 17 = .ok (.getfield 19, 3) := by decide +kernel
theorem dX10_allWaiting_20 : decode cX10_allWaiting 20 = .ok (.iload_n 2, 1) := by decide +kernel
theorem dX10_allWaiting_21 : decode cX10_allWaiting 21 = .ok (.invokevirtual 176, 3) := by decide +kernel
theorem dX10_allWaiting_24 : decode cX10_allWaiting 24 = .ok (.checkcast 233, 3) := by decide +kernel
theorem dX10_allWaiting_27 : decode cX10_allWaiting 27 = .ok (.aload_n 0, 1) := by decide +kernel
theorem dX10_allWaiting_28 : decode cX10_allWaiting 28 = .ok (.getfield 95, 3) := by decide +kernel
theorem dX10_allWaiting_31 : decode cX10_allWaiting 31 = .ok (.invokevirtual 298, 3) := by decide +kernel
theorem dX10_allWaiting_34 : decode cX10_allWaiting 34 = .ok (.iadd, 1) := by decide +kernel
theorem dX10_allWaiting_35 : decode cX10_allWaiting 35 = .ok (.istore_n 1, 1) := by decide +kernel
theorem dX10_allWaiting_36 : decode cX10_allWaiting 36 = .ok (.iinc 2 1, 3) := by decide +kernel
theorem dX10_allWaiting_39 : decode cX10_allWaiting 39 = .ok (.goto (-35), 3) := by decide +kernel
theorem dX10_allWaiting_42 : decode cX10_allWaiting 42 = .ok (.iload_n 1, 1) := by decide +kernel
theorem dX10_allWaiting_43 : decode cX10_allWaiting 43 = .ok (.ireturn, 1) := by decide +kernel
theorem dX10_allPaid_0 : decode cX10_allPaid 0 = .ok (.iconst 0, 1) := by decide +kernel
theorem dX10_allPaid_1 : decode cX10_allPaid 1 = .ok (.istore_n 1, 1) := by decide +kernel
theorem dX10_allPaid_2 : decode cX10_allPaid 2 = .ok (.iconst 0, 1) := by decide +kernel
theorem dX10_allPaid_3 : decode cX10_allPaid 3 = .ok (.istore_n 2, 1) := by decide +kernel
theorem dX10_allPaid_4 : decode cX10_allPaid 4 = .ok (.iload_n 2, 1) := by decide +kernel
theorem dX10_allPaid_5 : decode cX10_allPaid 5 = .ok (.aload_n 0, 1) := by decide +kernel
theorem dX10_allPaid_6 : decode cX10_allPaid 6 = .ok (.getfield 19, 3) := by decide +kernel
theorem dX10_allPaid_9 : decode cX10_allPaid 9 = .ok (.invokevirtual 75, 3) := by decide +kernel
theorem dX10_allPaid_12 : decode cX10_allPaid 12 = .ok (.if_icmp .ge 26, 3) := by decide +kernel
theorem dX10_allPaid_15 : decode cX10_allPaid 15 = .ok (.iload_n 1, 1) := by decide +kernel
theorem dX10_allPaid_16 : decode cX10_allPaid 16 = .ok (.aload_n 0, 1) := by decide +kernel
theorem dX10_allPaid_17 : decode cX10_allPaid 17 = .ok (.getfield 19, 3) := by decide +kernel
theorem dX10_allPaid_20 : decode cX10_allPaid 20 = .ok (.iload_n 2, 1) := by decide +kernel
theorem dX10_allPaid_21 : decode cX10_allPaid 21 = .ok (.invokevirtual 176, 3) := by decide +kernel
theorem dX10_allPaid_24 : decode cX10_allPaid 24 = .ok (.checkcast 233, 3) := by decide +kernel
theorem dX10_allPaid_27 : decode cX10_allPaid 27 = .ok (.getfield 295, 3) := by decide +kernel
theorem dX10_allPaid_30 : decode cX10_allPaid 30 = .ok (.iadd, 1) := by decide +kernel
theorem dX10_allPaid_31 : decode cX10_allPaid 31 = .ok (.istore_n 1, 1) := by decide +kernel
theorem dX10_allPaid_32 : decode cX10_allPaid 32 = .ok (.iinc 2 1, 3) := by decide +kernel
theorem dX10_allPaid_35 : decode cX10_allPaid 35 = .ok (.goto (-31), 3) := by decide +kernel
theorem dX10_allPaid_38 : decode cX10_allPaid 38 = .ok (.iload_n 1, 1) := by decide +kernel
theorem dX10_allPaid_39 : decode cX10_allPaid 39 = .ok (.ireturn, 1) := by decide +kernel
theorem dJ9_abs_0f7a4_0 : decode cJ9_abs_0f7a4 0 = .ok (.iload_n 0, 1) := by decide +kernel
theorem dJ9_abs_0f7a4_1 : decode cJ9_abs_0f7a4 1 = .ok (.ifCond .ge 8, 3) := by decide +kernel
theorem dJ9_abs_0f7a4_4 : decode cJ9_abs_0f7a4 4 = .ok (.iload_n 0, 1) := by decide +kernel
theorem dJ9_abs_0f7a4_5 : decode cJ9_abs_0f7a4 5 = .ok (.ineg, 1) := by decide +kernel
theorem dJ9_abs_0f7a4_6 : decode cJ9_abs_0f7a4 6 = .ok (.goto 4, 3) := by decide +kernel
theorem dJ9_abs_0f7a4_9 : decode cJ9_abs_0f7a4 9 = .ok (.iload_n 0, 1) := by decide +kernel
theorem dJ9_abs_0f7a4_10 : decode cJ9_abs_0f7a4 10 = .ok (.ireturn, 1) := by decide +kernel
theorem dJ9_max_7cf53_0 : decode cJ9_max_7cf53 0 = .ok (.iload_n 0, 1) := by decide +kernel
theorem dJ9_max_7cf53_1 : decode cJ9_max_7cf53 1 = .ok (.iload_n 1, 1) := by decide +kernel
theorem dJ9_max_7cf53_2 : decode cJ9_max_7cf53 2 = .ok (.if_icmp .lt 7, 3) := by decide +kernel
theorem dJ9_max_7cf53_5 : decode cJ9_max_7cf53 5 = .ok (.iload_n 0, 1) := by decide +kernel
theorem dJ9_max_7cf53_6 : decode cJ9_max_7cf53 6 = .ok (.goto 4, 3) := by decide +kernel
theorem dJ9_max_7cf53_9 : decode cJ9_max_7cf53 9 = .ok (.iload_n 1, 1) := by decide +kernel
theorem dJ9_max_7cf53_10 : decode cJ9_max_7cf53 10 = .ok (.ireturn, 1) := by decide +kernel
theorem dJ9_min_7cf53_0 : decode cJ9_min_7cf53 0 = .ok (.iload_n 0, 1) := by decide +kernel
theorem dJ9_min_7cf53_1 : decode cJ9_min_7cf53 1 = .ok (.iload_n 1, 1) := by decide +kernel
theorem dJ9_min_7cf53_2 : decode cJ9_min_7cf53 2 = .ok (.if_icmp .gt 7, 3) := by decide +kernel
theorem dJ9_min_7cf53_5 : decode cJ9_min_7cf53 5 = .ok (.iload_n 0, 1) := by decide +kernel
theorem dJ9_min_7cf53_6 : decode cJ9_min_7cf53 6 = .ok (.goto 4, 3) := by decide +kernel
theorem dJ9_min_7cf53_9 : decode cJ9_min_7cf53 9 = .ok (.iload_n 1, 1) := by decide +kernel
theorem dJ9_min_7cf53_10 : decode cJ9_min_7cf53 10 = .ok (.ireturn, 1) := by decide +kernel
theorem dJ0_length_8abf5_0 : decode cJ0_length_8abf5 0 = .ok (.aload_n 0, 1) := by decide +kernel
theorem dJ0_length_8abf5_1 : decode cJ0_length_8abf5 1 = .ok (.getfield 9, 3) := by decide +kernel
theorem dJ0_length_8abf5_4 : decode cJ0_length_8abf5 4 = .ok (.arraylength, 1) := by decide +kernel
theorem dJ0_length_8abf5_5 : decode cJ0_length_8abf5 5 = .ok (.aload_n 0, 1) := by decide +kernel
theorem dJ0_length_8abf5_6 : decode cJ0_length_8abf5 6 = .ok (.invokevirtual 335, 3) := by decide +kernel
theorem dJ0_length_8abf5_9 : decode cJ0_length_8abf5 9 = .ok (.ishr, 1) := by decide +kernel
theorem dJ0_length_8abf5_10 : decode cJ0_length_8abf5 10 = .ok (.ireturn, 1) := by decide +kernel
theorem dJ0_charAt_5068e_0 : decode cJ0_charAt_5068e 0 = .ok (.aload_n 0, 1) := by decide +kernel
theorem dJ0_charAt_5068e_1 : decode cJ0_charAt_5068e 1 = .ok (.invokevirtual 492, 3) := by decide +kernel
theorem dJ0_charAt_5068e_4 : decode cJ0_charAt_5068e 4 = .ok (.ifCond .eq 12, 3) := by decide +kernel
theorem dJ0_charAt_5068e_7 : decode cJ0_charAt_5068e 7 = .ok (.aload_n 0, 1) := by decide +kernel
theorem dJ0_charAt_5068e_8 : decode cJ0_charAt_5068e 8 = .ok (.getfield 9, 3) := by decide +kernel
theorem dJ0_charAt_5068e_11 : decode cJ0_charAt_5068e 11 = .ok (.iload_n 1, 1) := by decide +kernel
theorem dJ0_charAt_5068e_12 : decode cJ0_charAt_5068e 12 = .ok (.invokestatic 495, 3) := by decide +kernel
theorem dJ0_charAt_5068e_15 : decode cJ0_charAt_5068e 15 = .ok (.ireturn, 1) := by decide +kernel
theorem dJ0_charAt_5068e_16 : decode cJ0_charAt_5068e 16 = .ok (.aload_n 0, 1) := by decide +kernel
theorem dJ0_charAt_5068e_17 : decode cJ0_charAt_5068e 17 = .ok (.getfield 9, 3) := by decide +kernel
theorem dJ0_charAt_5068e_20 : decode cJ0_charAt_5068e 20 = .ok (.iload_n 1, 1) := by decide +kernel
theorem dJ0_charAt_5068e_21 : decode cJ0_charAt_5068e 21 = .ok (.invokestatic 498, 3) := by decide +kernel
theorem dJ0_charAt_5068e_24 : decode cJ0_charAt_5068e 24 = .ok (.ireturn, 1) := by decide +kernel
theorem dJ0_coder_7d493_0 : decode cJ0_coder_7d493 0 = .ok (.getstatic 38, 3) := by decide +kernel
theorem dJ0_coder_7d493_3 : decode cJ0_coder_7d493 3 = .ok (.ifCond .eq 10, 3) := by decide +kernel
theorem dJ0_coder_7d493_6 : decode cJ0_coder_7d493 6 = .ok (.aload_n 0, 1) := by decide +kernel
theorem dJ0_coder_7d493_7 : decode cJ0_coder_7d493 7 = .ok (.getfield 15, 3) := by decide +kernel
theorem dJ0_coder_7d493_10 : decode cJ0_coder_7d493 10 = .ok (.goto 4, 3) := by decide +kernel
theorem dJ0_coder_7d493_13 : decode cJ0_coder_7d493 13 = .ok (.iconst 1, 1) := by decide +kernel
theorem dJ0_coder_7d493_14 : decode cJ0_coder_7d493 14 = .ok (.ireturn, 1) := by decide +kernel
theorem dJ0_isLatin1_aae02_0 : decode cJ0_isLatin1_aae02 0 = .ok (.getstatic 38, 3) := by decide +kernel
theorem dJ0_isLatin1_aae02_3 : decode cJ0_isLatin1_aae02 3 = .ok (.ifCond .eq 14, 3) := by decide +kernel
theorem dJ0_isLatin1_aae02_6 : decode cJ0_isLatin1_aae02 6 = .ok (.aload_n 0, 1) := by decide +kernel
theorem dJ0_isLatin1_aae02_7 : decode cJ0_isLatin1_aae02 7 = .ok (.getfield 15, 3) := by decide +kernel
theorem dJ0_isLatin1_aae02_10 : decode cJ0_isLatin1_aae02 10 = .ok (.ifCond .ne 7, 3) := by decide +kernel
theorem dJ0_isLatin1_aae02_13 : decode cJ0_isLatin1_aae02 13 = .ok (.iconst 1, 1) := by decide +kernel
theorem dJ0_isLatin1_aae02_14 : decode cJ0_isLatin1_aae02 14 = .ok (.goto 4, 3) := by decide +kernel
theorem dJ0_isLatin1_aae02_17 : decode cJ0_isLatin1_aae02 17 = .ok (.iconst 0, 1) := by decide +kernel
theorem dJ0_isLatin1_aae02_18 : decode cJ0_isLatin1_aae02 18 = .ok (.ireturn, 1) := by decide +kernel
theorem dJ0_checkIndex_df160_0 : decode cJ0_checkIndex_df160 0 = .ok (.iload_n 0, 1) := by decide +kernel
theorem dJ0_checkIndex_df160_1 : decode cJ0_checkIndex_df160 1 = .ok (.iload_n 1, 1) := by decide +kernel
theorem dJ0_checkIndex_df160_2 : decode cJ0_checkIndex_df160 2 = .ok (.getstatic 1053, 3) := by decide +kernel
theorem dJ0_checkIndex_df160_5 : decode cJ0_checkIndex_df160 5 = .ok (.invokestatic 1059, 3) := by decide +kernel
theorem dJ0_checkIndex_df160_8 : decode cJ0_checkIndex_df160 8 = .ok (.pop, 1) := by decide +kernel
theorem dJ0_checkIndex_df160_9 : decode cJ0_checkIndex_df160 9 = .ok (.return_, 1) := by decide +kernel
theorem dJ1_charAt_3b067_0 : decode cJ1_charAt_3b067 0 = .ok (.iload_n 1, 1) := by decide +kernel
theorem dJ1_charAt_3b067_1 : decode cJ1_charAt_3b067 1 = .ok (.aload_n 0, 1) := by decide +kernel
theorem dJ1_charAt_3b067_2 : decode cJ1_charAt_3b067 2 = .ok (.arraylength, 1) := by decide +kernel
theorem dJ1_charAt_3b067_3 : decode cJ1_charAt_3b067 3 = .ok (.invokestatic 9, 3) := by decide +kernel
theorem dJ1_charAt_3b067_6 : decode cJ1_charAt_3b067 6 = .ok (.aload_n 0, 1) := by decide +kernel
theorem dJ1_charAt_3b067_7 : decode cJ1_charAt_3b067 7 = .ok (.iload_n 1, 1) := by decide +kernel
theorem dJ1_charAt_3b067_8 : decode cJ1_charAt_3b067 8 = .ok (.baload, 1) := by decide +kernel
theorem dJ1_charAt_3b067_9 : decode cJ1_charAt_3b067 9 = .ok (.sipush 255, 3) := by decide +kernel
theorem dJ1_charAt_3b067_12 : decode cJ1_charAt_3b067 12 = .ok (.iand, 1) := by decide +kernel
theorem dJ1_charAt_3b067_13 : decode cJ1_charAt_3b067 13 = .ok (.i2c, 1) := by decide +kernel
theorem dJ1_charAt_3b067_14 : decode cJ1_charAt_3b067 14 = .ok (.ireturn, 1) := by decide +kernel
theorem dJ2_getChar_3b067_0 : decode cJ2_getChar_3b067 0 = .ok (.getstatic 44, 3) := by decide +kernel
theorem dJ2_getChar_3b067_3 : decode cJ2_getChar_3b067 3 = .ok (.ifCond .ne 25, 3) := by decide +kernel
theorem dJ2_getChar_3b067_6 : decode cJ2_getChar_3b067 6 = .ok (.iload_n 1, 1) := by decide +kernel
theorem dJ2_getChar_3b067_7 : decode cJ2_getChar_3b067 7 = .ok (.ifCond .lt 11, 3) := by decide +kernel
theorem dJ2_getChar_3b067_10 : decode cJ2_getChar_3b067 10 = .ok (.iload_n 1, 1) := by decide +kernel
theorem dJ2_getChar_3b067_11 : decode cJ2_getChar_3b067 11 = .ok (.aload_n 0, 1) := by decide +kernel
theorem dJ2_getChar_3b067_12 : decode cJ2_getChar_3b067 12 = .ok (.invokestatic 48, 3) := by decide +kernel
theorem dJ2_getChar_3b067_15 : decode cJ2_getChar_3b067 15 = .ok (.if_icmp .lt 13, 3) := by decide +kernel
theorem dJ2_getChar_3b067_18 : decode cJ2_getChar_3b067 18 = .ok (.new 52, 3) := by decide +kernel
theorem dJ2_getChar_3b067_21 : decode cJ2_getChar_3b067 21 = .ok (.dup, 1) := by decide +kernel
theorem dJ2_getChar_3b067_22 : decode cJ2_getChar_3b067 22 = .ok (.ldc 54, 2) := by decide +kernel
theorem dJ2_getChar_3b067_24 : decode cJ2_getChar_3b067 24 = .ok (.invokespecial 56, 3) := by decide +kernel
theorem dJ2_getChar_3b067_27 : decode cJ2_getChar_3b067 27 = .ok (.athrow, 1) := by decide +kernel
theorem dJ2_getChar_3b067_28 : decode cJ2_getChar_3b067 28 = .ok (.iload_n 1, 1) := by decide +kernel
theorem dJ2_getChar_3b067_29 : decode cJ2_getChar_3b067 29 = .ok (.iconst 1, 1) := by decide +kernel
theorem dJ2_getChar_3b067_30 : decode cJ2_getChar_3b067 30 = .ok (.ishl, 1) := by decide +kernel
theorem dJ2_getChar_3b067_31 : decode cJ2_getChar_3b067 31 = .ok (.istore_n 1, 1) := by decide +kernel
theorem dJ2_getChar_3b067_32 : decode cJ2_getChar_3b067 32 = .ok (.aload_n 0, 1) := by decide +kernel
theorem dJ2_getChar_3b067_33 : decode cJ2_getChar_3b067 33 = .ok (.iload_n 1, 1) := by decide +kernel
theorem dJ2_getChar_3b067_34 : decode cJ2_getChar_3b067 34 = .ok (.iinc 1 1, 3) := by decide +kernel
theorem dJ2_getChar_3b067_37 : decode cJ2_getChar_3b067 37 = .ok (.baload, 1) := by decide +kernel
theorem dJ2_getChar_3b067_38 : decode cJ2_getChar_3b067 38 = .ok (.sipush 255, 3) := by decide +kernel
theorem dJ2_getChar_3b067_41 : decode cJ2_getChar_3b067 41 = .ok (.iand, 1) := by decide +kernel
theorem dJ2_getChar_3b067_42 : decode cJ2_getChar_3b067 42 = .ok (.getstatic 59, 3) := by decide +kernel
theorem dJ2_getChar_3b067_45 : decode cJ2_getChar_3b067 45 = .ok (.ishl, 1) := by decide +kernel
theorem dJ2_getChar_3b067_46 : decode cJ2_getChar_3b067 46 = .ok (.aload_n 0, 1) := by decide +kernel
theorem dJ2_getChar_3b067_47 : decode cJ2_getChar_3b067 47 = .ok (.iload_n 1, 1) := by decide +kernel
theorem dJ2_getChar_3b067_48 : decode cJ2_getChar_3b067 48 = .ok (.baload, 1) := by decide +kernel
theorem dJ2_getChar_3b067_49 : decode cJ2_getChar_3b067 49 = .ok (.sipush 255, 3) := by decide +kernel
theorem dJ2_getChar_3b067_52 : decode cJ2_getChar_3b067 52 = .ok (.iand, 1) := by decide +kernel
theorem dJ2_getChar_3b067_53 : decode cJ2_getChar_3b067 53 = .ok (.getstatic 63, 3) := by decide +kernel
theorem dJ2_getChar_3b067_56 : decode cJ2_getChar_3b067 56 = .ok (.ishl, 1) := by decide +kernel
theorem dJ2_getChar_3b067_57 : decode cJ2_getChar_3b067 57 = .ok (.ior, 1) := by decide +kernel
theorem dJ2_getChar_3b067_58 : decode cJ2_getChar_3b067 58 = .ok (.i2c, 1) := by decide +kernel
theorem dJ2_getChar_3b067_59 : decode cJ2_getChar_3b067 59 = .ok (.ireturn, 1) := by decide +kernel
theorem dJ2_length_9d52b_0 : decode cJ2_length_9d52b 0 = .ok (.aload_n 0, 1) := by decide +kernel
theorem dJ2_length_9d52b_1 : decode cJ2_length_9d52b 1 = .ok (.arraylength, 1) := by decide +kernel
theorem dJ2_length_9d52b_2 : decode cJ2_length_9d52b 2 = .ok (.iconst 1, 1) := by decide +kernel
theorem dJ2_length_9d52b_3 : decode cJ2_length_9d52b 3 = .ok (.ishr, 1) := by decide +kernel
theorem dJ2_length_9d52b_4 : decode cJ2_length_9d52b 4 = .ok (.ireturn, 1) := by decide +kernel
theorem dJ2_charAt_3b067_0 : decode cJ2_charAt_3b067 0 = .ok (.iload_n 1, 1) := by decide +kernel
theorem dJ2_charAt_3b067_1 : decode cJ2_charAt_3b067 1 = .ok (.aload_n 0, 1) := by decide +kernel
theorem dJ2_charAt_3b067_2 : decode cJ2_charAt_3b067 2 = .ok (.invokestatic 67, 3) := by decide +kernel
theorem dJ2_charAt_3b067_5 : decode cJ2_charAt_3b067 5 = .ok (.aload_n 0, 1) := by decide +kernel
theorem dJ2_charAt_3b067_6 : decode cJ2_charAt_3b067 6 = .ok (.iload_n 1, 1) := by decide +kernel
theorem dJ2_charAt_3b067_7 : decode cJ2_charAt_3b067 7 = .ok (.invokestatic 71, 3) := by decide +kernel
theorem dJ2_charAt_3b067_10 : decode cJ2_charAt_3b067 10 = .ok (.ireturn, 1) := by decide +kernel
theorem dJ2_checkIndex_2214a_0 : decode cJ2_checkIndex_2214a 0 = .ok (.iload_n 0, 1) := by decide +kernel
theorem dJ2_checkIndex_2214a_1 : decode cJ2_checkIndex_2214a 1 = .ok (.aload_n 1, 1) := by decide +kernel
theorem dJ2_checkIndex_2214a_2 : decode cJ2_checkIndex_2214a 2 = .ok (.invokestatic 48, 3) := by decide +kernel
theorem dJ2_checkIndex_2214a_5 : decode cJ2_checkIndex_2214a 5 = .ok (.invokestatic 414, 3) := by decide +kernel
theorem dJ2_checkIndex_2214a_8 : decode cJ2_checkIndex_2214a 8 = .ok (.return_, 1) := by decide +kernel
theorem dJxa1e45_init_da8c8_0 : decode cJxa1e45_init_da8c8 0 = .ok (.aload_n 0, 1) := by decide +kernel
theorem dJxa1e45_init_da8c8_1 : decode cJxa1e45_init_da8c8 1 = .ok (.invokespecial 1, 3) := by decide +kernel
theorem dJxa1e45_init_da8c8_4 : decode cJxa1e45_init_da8c8 4 = .ok (.return_, 1) := by decide +kernel
theorem dJxc12de_init_da8c8_0 : decode cJxc12de_init_da8c8 0 = .ok (.aload_n 0, 1) := by decide +kernel
theorem dJxc12de_init_da8c8_1 : decode cJxc12de_init_da8c8 1 = .ok (.invokespecial 1, 3) := by decide +kernel
theorem dJxc12de_init_da8c8_4 : decode cJxc12de_init_da8c8 4 = .ok (.aload_n 0, 1) := by decide +kernel
theorem dJxc12de_init_da8c8_5 : decode cJxc12de_init_da8c8 5 = .ok (.iconst 0, 1) := by decide +kernel
theorem dJxc12de_init_da8c8_6 : decode cJxc12de_init_da8c8 6 = .ok (.putfield 7, 3) := by decide +kernel
theorem dJxc12de_init_da8c8_9 : decode cJxc12de_init_da8c8 9 = .ok (.return_, 1) := by decide +kernel
theorem dJx4a65c_init_da8c8_0 : decode cJx4a65c_init_da8c8 0 = .ok (.aload_n 0, 1) := by decide +kernel
theorem dJx4a65c_init_da8c8_1 : decode cJx4a65c_init_da8c8 1 = .ok (.invokespecial 1, 3) := by decide +kernel
theorem dJx4a65c_init_da8c8_4 : decode cJx4a65c_init_da8c8 4 = .ok (.aload_n 0, 1) := by decide +kernel
theorem dJx4a65c_init_da8c8_5 : decode cJx4a65c_init_da8c8 5 = .ok (.getstatic 39, 3) := by decide +kernel
theorem dJx4a65c_init_da8c8_8 : decode cJx4a65c_init_da8c8 8 = .ok (.putfield 9, 3) := by decide +kernel
theorem dJx4a65c_init_da8c8_11 : decode cJx4a65c_init_da8c8 11 = .ok (.return_, 1) := by decide +kernel
theorem dJx4a65c_grow_92f84_0 : decode cJx4a65c_grow_92f84 0 = .ok (.aload_n 0, 1) := by decide +kernel
theorem dJx4a65c_grow_92f84_1 : decode cJx4a65c_grow_92f84 1 = .ok (.getfield 9, 3) := by decide +kernel
theorem dJx4a65c_grow_92f84_4 : decode cJx4a65c_grow_92f84 4 = .ok (.arraylength, 1) := by decide +kernel
theorem dJx4a65c_grow_92f84_5 : decode cJx4a65c_grow_92f84 5 = .ok (.istore_n 2, 1) := by decide +kernel
theorem dJx4a65c_grow_92f84_6 : decode cJx4a65c_grow_92f84 6 = .ok (.iload_n 2, 1) := by decide +kernel
theorem dJx4a65c_grow_92f84_7 : decode cJx4a65c_grow_92f84 7 = .ok (.ifCond .gt 13, 3) := by decide +kernel
theorem dJx4a65c_grow_92f84_10 : decode cJx4a65c_grow_92f84 10 = .ok (.aload_n 0, 1) := by decide +kernel
theorem dJx4a65c_grow_92f84_11 : decode cJx4a65c_grow_92f84 11 = .ok (.getfield 9, 3) := by decide +kernel
theorem dJx4a65c_grow_92f84_14 : decode cJx4a65c_grow_92f84 14 = .ok (.getstatic 39, 3) := by decide +kernel
theorem dJx4a65c_grow_92f84_17 : decode cJx4a65c_grow_92f84 17 = .ok (.if_acmp .eq 28, 3) := by decide +kernel
theorem dJx4a65c_grow_92f84_20 : decode cJx4a65c_grow_92f84 20 = .ok (.iload_n 2, 1) := by decide +kernel
theorem dJx4a65c_grow_92f84_21 : decode cJx4a65c_grow_92f84 21 = .ok (.iload_n 1, 1) := by decide +kernel
theorem dJx4a65c_grow_92f84_22 : decode cJx4a65c_grow_92f84 22 = .ok (.iload_n 2, 1) := by decide +kernel
theorem dJx4a65c_grow_92f84_23 : decode cJx4a65c_grow_92f84 23 = .ok (.isub, 1) := by decide +kernel
theorem dJx4a65c_grow_92f84_24 : decode cJx4a65c_grow_92f84 24 = .ok (.iload_n 2, 1) := by decide +kernel
theorem dJx4a65c_grow_92f84_25 : decode cJx4a65c_grow_92f84 25 = .ok (.iconst 1, 1) := by decide +kernel
theorem dJx4a65c_grow_92f84_26 : decode cJx4a65c_grow_92f84 26 = .ok (.ishr, 1) := by decide +kernel
theorem dJx4a65c_grow_92f84_27 : decode cJx4a65c_grow_92f84 27 = .ok (.invokestatic 73, 3) := by decide +kernel
theorem dJx4a65c_grow_92f84_30 : decode cJx4a65c_grow_92f84 30 = .ok (.istore_n 3, 1) := by decide +kernel
theorem dJx4a65c_grow_92f84_31 : decode cJx4a65c_grow_92f84 31 = .ok (.aload_n 0, 1) := by decide +kernel
theorem dJx4a65c_grow_92f84_32 : decode cJx4a65c_grow_92f84 32 = .ok (.aload_n 0, 1) := by decide +kernel
theorem dJx4a65c_grow_92f84_33 : decode cJx4a65c_grow_92f84 33 = .ok (.getfield 9, 3) := by decide +kernel
theorem dJx4a65c_grow_92f84_36 : decode cJx4a65c_grow_92f84 36 = .ok (.iload_n 3, 1) := by decide +kernel
theorem dJx4a65c_grow_92f84_37 : decode cJx4a65c_grow_92f84 37 = .ok (.invokestatic 66, 3) := by decide +kernel
theorem dJx4a65c_grow_92f84_40 : decode cJx4a65c_grow_92f84 40 = .ok (.dup_x1, 1) := by decide +kernel
theorem dJx4a65c_grow_92f84_41 : decode cJx4a65c_grow_92f84 41 = .ok (.putfield 9, 3) := by decide +kernel
theorem dJx4a65c_grow_92f84_44 : decode cJx4a65c_grow_92f84 44 = .ok (.areturn, 1) := by decide +kernel
theorem dJx4a65c_grow_92f84_45 : decode cJx4a65c_grow_92f84 45 = .ok (.aload_n 0, 1) := by decide +kernel
theorem dJx4a65c_grow_92f84_46 : decode cJx4a65c_grow_92f84 46 = .ok (.bipush 10, 2) := by decide +kernel
theorem dJx4a65c_grow_92f84_48 : decode cJx4a65c_grow_92f84 48 = .ok (.iload_n 1, 1) := by decide +kernel
theorem dJx4a65c_grow_92f84_49 : decode cJx4a65c_grow_92f84 49 = .ok (.invokestatic 79, 3) := by decide +kernel
theorem dJx4a65c_grow_92f84_52 : decode cJx4a65c_grow_92f84 52 = .ok (.anewarray 7, 3) := by decide +kernel
theorem dJx4a65c_grow_92f84_55 : decode cJx4a65c_grow_92f84 55 = .ok (.dup_x1, 1) := by decide +kernel
theorem dJx4a65c_grow_92f84_56 : decode cJx4a65c_grow_92f84 56 = .ok (.putfield 9, 3) := by decide +kernel
theorem dJx4a65c_grow_92f84_59 : decode cJx4a65c_grow_92f84 59 = .ok (.areturn, 1) := by decide +kernel
theorem dJx4a65c_grow_d5877_0 : decode cJx4a65c_grow_d5877 0 = .ok (.aload_n 0, 1) := by decide +kernel
theorem dJx4a65c_grow_d5877_1 : decode cJx4a65c_grow_d5877 1 = .ok (.aload_n 0, 1) := by decide +kernel
theorem dJx4a65c_grow_d5877_2 : decode cJx4a65c_grow_d5877 2 = .ok (.getfield 48, 3) := by decide +kernel
theorem dJx4a65c_grow_d5877_5 : decode cJx4a65c_grow_d5877 5 = .ok (.iconst 1, 1) := by decide +kernel
theorem dJx4a65c_grow_d5877_6 : decode cJx4a65c_grow_d5877 6 = .ok (.iadd, 1) := by decide +kernel
theorem dJx4a65c_grow_d5877_7 : decode cJx4a65c_grow_d5877 7 = .ok (.invokevirtual 69, 3) := by decide +kernel
theorem dJx4a65c_grow_d5877_10 : decode cJx4a65c_grow_d5877 10 = .ok (.areturn, 1) := by decide +kernel
theorem dJx4a65c_size_8abf5_0 : decode cJx4a65c_size_8abf5 0 = .ok (.aload_n 0, 1) := by decide +kernel
theorem dJx4a65c_size_8abf5_1 : decode cJx4a65c_size_8abf5 1 = .ok (.getfield 48, 3) := by decide +kernel
theorem dJx4a65c_size_8abf5_4 : decode cJx4a65c_size_8abf5 4 = .ok (.ireturn, 1) := by decide +kernel
theorem dJx4a65c_elementData_915e3_0 : decode cJx4a65c_elementData_915e3 0 = .ok (.aload_n 0, 1) := by decide +kernel
theorem dJx4a65c_elementData_915e3_1 : decode cJx4a65c_elementData_915e3 1 = .ok (.getfield 9, 3) := by decide +kernel
theorem dJx4a65c_elementData_915e3_4 : decode cJx4a65c_elementData_915e3 4 = .ok (.iload_n 1, 1) := by decide +kernel
theorem dJx4a65c_elementData_915e3_5 : decode cJx4a65c_elementData_915e3 5 = .ok (.aaload, 1) := by decide +kernel
theorem dJx4a65c_elementData_915e3_6 : decode cJx4a65c_elementData_915e3 6 = .ok (.areturn, 1) := by decide +kernel
theorem dJx4a65c_get_915e3_0 : decode cJx4a65c_get_915e3 0 = .ok (.iload_n 1, 1) := by decide +kernel
theorem dJx4a65c_get_915e3_1 : decode cJx4a65c_get_915e3 1 = .ok (.aload_n 0, 1) := by decide +kernel
theorem dJx4a65c_get_915e3_2 : decode cJx4a65c_get_915e3 2 = .ok (.getfield 48, 3) := by decide +kernel
theorem dJx4a65c_get_915e3_5 : decode cJx4a65c_get_915e3 5 = .ok (.invokestatic 118, 3) := by decide +kernel
theorem dJx4a65c_get_915e3_8 : decode cJx4a65c_get_915e3 8 = .ok (.pop, 1) := by decide +kernel
theorem dJx4a65c_get_915e3_9 : decode cJx4a65c_get_915e3 9 = .ok (.aload_n 0, 1) := by decide +kernel
theorem dJx4a65c_get_915e3_10 : decode cJx4a65c_get_915e3 10 = .ok (.iload_n 1, 1) := by decide +kernel
theorem dJx4a65c_get_915e3_11 : decode cJx4a65c_get_915e3 11 = .ok (.invokevirtual 123, 3) := by decide +kernel
theorem dJx4a65c_get_915e3_14 : decode cJx4a65c_get_915e3 14 = .ok (.areturn, 1) := by decide +kernel
theorem dJx4a65c_add_72be8_0 : decode cJx4a65c_add_72be8 0 = .ok (.iload_n 3, 1) := by decide +kernel
theorem dJx4a65c_add_72be8_1 : decode cJx4a65c_add_72be8 1 = .ok (.aload_n 2, 1) := by decide +kernel
theorem dJx4a65c_add_72be8_2 : decode cJx4a65c_add_72be8 2 = .ok (.arraylength, 1) := by decide +kernel
theorem dJx4a65c_add_72be8_3 : decode cJx4a65c_add_72be8 3 = .ok (.if_icmp .ne 8, 3) := by decide +kernel
theorem dJx4a65c_add_72be8_6 : decode cJx4a65c_add_72be8 6 = .ok (.aload_n 0, 1) := by decide +kernel
theorem dJx4a65c_add_72be8_7 : decode cJx4a65c_add_72be8 7 = .ok (.invokevirtual 129, 3) := by decide +kernel
theorem dJx4a65c_add_72be8_10 : decode cJx4a65c_add_72be8 10 = .ok (.astore_n 2, 1) := by decide +kernel
theorem dJx4a65c_add_72be8_11 : decode cJx4a65c_add_72be8 11 = .ok (.aload_n 2, 1) := by decide +kernel
theorem dJx4a65c_add_72be8_12 : decode cJx4a65c_add_72be8 12 = .ok (.iload_n 3, 1) := by decide +kernel
theorem dJx4a65c_add_72be8_13 : decode cJx4a65c_add_72be8 13 = .ok (.aload_n 1, 1) := by decide +kernel
theorem dJx4a65c_add_72be8_14 : decode cJx4a65c_add_72be8 14 = .ok (.aastore, 1) := by decide +kernel
theorem dJx4a65c_add_72be8_15 : decode cJx4a65c_add_72be8 15 = .ok (.aload_n 0, 1) := by decide +kernel
theorem dJx4a65c_add_72be8_16 : decode cJx4a65c_add_72be8 16 = .ok (.iload_n 3, 1) := by decide +kernel
theorem dJx4a65c_add_72be8_17 : decode cJx4a65c_add_72be8 17 = .ok (.iconst 1, 1) := by decide +kernel
theorem dJx4a65c_add_72be8_18 : decode cJx4a65c_add_72be8 18 = .ok (.iadd, 1) := by decide +kernel
theorem dJx4a65c_add_72be8_19 : decode cJx4a65c_add_72be8 19 = .ok (.putfield 48, 3) := by decide +kernel
theorem dJx4a65c_add_72be8_22 : decode cJx4a65c_add_72be8 22 = .ok (.return_, 1) := by decide +kernel
theorem dJx4a65c_add_9ea2d_0 : decode cJx4a65c_add_9ea2d 0 = .ok (.aload_n 0, 1) := by decide +kernel
theorem dJx4a65c_add_9ea2d_1 : decode cJx4a65c_add_9ea2d 1 = .ok (.dup, 1) := by decide +kernel
theorem dJx4a65c_add_9ea2d_2 : decode cJx4a65c_add_9ea2d 2 = .ok (.getfield 63, 3) := by decide +kernel
theorem dJx4a65c_add_9ea2d_5 : decode cJx4a65c_add_9ea2d 5 = .ok (.iconst 1, 1) := by decide +kernel
theorem dJx4a65c_add_9ea2d_6 : decode cJx4a65c_add_9ea2d 6 = .ok (.iadd, 1) := by decide +kernel
theorem dJx4a65c_add_9ea2d_7 : decode cJx4a65c_add_9ea2d 7 = .ok (.putfield 63, 3) := by decide +kernel
theorem dJx4a65c_add_9ea2d_10 : decode cJx4a65c_add_9ea2d 10 = .ok (.aload_n 0, 1) := by decide +kernel
theorem dJx4a65c_add_9ea2d_11 : decode cJx4a65c_add_9ea2d 11 = .ok (.aload_n 1, 1) := by decide +kernel
theorem dJx4a65c_add_9ea2d_12 : decode cJx4a65c_add_9ea2d 12 = .ok (.aload_n 0, 1) := by decide +kernel
theorem dJx4a65c_add_9ea2d_13 : decode cJx4a65c_add_9ea2d 13 = .ok (.getfield 9, 3) := by decide +kernel
theorem dJx4a65c_add_9ea2d_16 : decode cJx4a65c_add_9ea2d 16 = .ok (.aload_n 0, 1) := by decide +kernel
theorem dJx4a65c_add_9ea2d_17 : decode cJx4a65c_add_9ea2d 17 = .ok (.getfield 48, 3) := by decide +kernel
theorem dJx4a65c_add_9ea2d_20 : decode cJx4a65c_add_9ea2d 20 = .ok (.invokevirtual 131, 3) := by decide +kernel
theorem dJx4a65c_add_9ea2d_23 : decode cJx4a65c_add_9ea2d 23 = .ok (.iconst 1, 1) := by decide +kernel
theorem dJx4a65c_add_9ea2d_24 : decode cJx4a65c_add_9ea2d 24 = .ok (.ireturn, 1) := by decide +kernel
theorem dJx4a65c_remove_915e3_0 : decode cJx4a65c_remove_915e3 0 = .ok (.iload_n 1, 1) := by decide +kernel
theorem dJx4a65c_remove_915e3_1 : decode cJx4a65c_remove_915e3 1 = .ok (.aload_n 0, 1) := by decide +kernel
theorem dJx4a65c_remove_915e3_2 : decode cJx4a65c_remove_915e3 2 = .ok (.getfield 48, 3) := by decide +kernel
theorem dJx4a65c_remove_915e3_5 : decode cJx4a65c_remove_915e3 5 = .ok (.invokestatic 118, 3) := by decide +kernel
theorem dJx4a65c_remove_915e3_8 : decode cJx4a65c_remove_915e3 8 = .ok (.pop, 1) := by decide +kernel
theorem dJx4a65c_remove_915e3_9 : decode cJx4a65c_remove_915e3 9 = .ok (.aload_n 0, 1) := by decide +kernel
theorem dJx4a65c_remove_915e3_10 : decode cJx4a65c_remove_915e3 10 = .ok (.getfield 9, 3) := by decide +kernel
theorem dJx4a65c_remove_915e3_13 : decode cJx4a65c_remove_915e3 13 = .ok (.astore_n 2, 1) := by decide +kernel
theorem dJx4a65c_remove_915e3_14 : decode cJx4a65c_remove_915e3 14 = .ok (.aload_n 2, 1) := by decide +kernel
theorem dJx4a65c_remove_915e3_15 : decode cJx4a65c_remove_915e3 15 = .ok (.iload_n 1, 1) := by decide +kernel
theorem dJx4a65c_remove_915e3_16 : decode cJx4a65c_remove_915e3 16 = .ok (.aaload, 1) := by decide +kernel
theorem dJx4a65c_remove_915e3_17 : decode cJx4a65c_remove_915e3 17 = .ok (.astore_n 3, 1) := by decide +kernel
theorem dJx4a65c_remove_915e3_18 : decode cJx4a65c_remove_915e3 18 = .ok (.aload_n 0, 1) := by decide +kernel
theorem dJx4a65c_remove_915e3_19 : decode cJx4a65c_remove_915e3 19 = .ok (.aload_n 2, 1) := by decide +kernel
theorem dJx4a65c_remove_915e3_20 : decode cJx4a65c_remove_915e3 20 = .ok (.iload_n 1, 1) := by decide +kernel
theorem dJx4a65c_remove_915e3_21 : decode cJx4a65c_remove_915e3 21 = .ok (.invokevirtual 144, 3) := by decide +kernel
theorem dJx4a65c_remove_915e3_24 : decode cJx4a65c_remove_915e3 24 = .ok (.aload_n 3, 1) := by decide +kernel
theorem dJx4a65c_remove_915e3_25 : decode cJx4a65c_remove_915e3 25 = .ok (.areturn, 1) := by decide +kernel
theorem dJx4a65c_fastRemove_b59b0_0 : decode cJx4a65c_fastRemove_b59b0 0 = .ok (.aload_n 0, 1) := by decide +kernel
theorem dJx4a65c_fastRemove_b59b0_1 : decode cJx4a65c_fastRemove_b59b0 1 = .ok (.dup, 1) := by decide +kernel
theorem dJx4a65c_fastRemove_b59b0_2 : decode cJx4a65c_fastRemove_b59b0 2 = .ok (.getfield 63, 3) := by decide +kernel
theorem dJx4a65c_fastRemove_b59b0_5 : decode cJx4a65c_fastRemove_b59b0 5 = .ok (.iconst 1, 1) := by decide +kernel
theorem dJx4a65c_fastRemove_b59b0_6 : decode cJx4a65c_fastRemove_b59b0 6 = .ok (.iadd, 1) := by decide +kernel
theorem dJx4a65c_fastRemove_b59b0_7 : decode cJx4a65c_fastRemove_b59b0 7 = .ok (.putfield 63, 3) := by decide +kernel
theorem dJx4a65c_fastRemove_b59b0_10 : decode cJx4a65c_fastRemove_b59b0 10 = .ok (.aload_n 0, 1) := by decide +kernel
theorem dJx4a65c_fastRemove_b59b0_11 : decode cJx4a65c_fastRemove_b59b0 11 = .ok (.getfield 48, 3) := by decide +kernel
theorem dJx4a65c_fastRemove_b59b0_14 : decode cJx4a65c_fastRemove_b59b0 14 = .ok (.iconst 1, 1) := by decide +kernel
theorem dJx4a65c_fastRemove_b59b0_15 : decode cJx4a65c_fastRemove_b59b0 15 = .ok (.isub, 1) := by decide +kernel
theorem dJx4a65c_fastRemove_b59b0_16 : decode cJx4a65c_fastRemove_b59b0 16 = .ok (.dup, 1) := by decide +kernel
theorem dJx4a65c_fastRemove_b59b0_17 : decode cJx4a65c_fastRemove_b59b0 17 = .ok (.istore_n 3, 1) := by decide +kernel
theorem dJx4a65c_fastRemove_b59b0_18 : decode cJx4a65c_fastRemove_b59b0 18 = .ok (.iload_n 2, 1) := by decide +kernel
theorem dJx4a65c_fastRemove_b59b0_19 : decode cJx4a65c_fastRemove_b59b0 19 = .ok (.if_icmp .le 15, 3) := by decide +kernel
theorem dJx4a65c_fastRemove_b59b0_22 : decode cJx4a65c_fastRemove_b59b0 22 = .ok (.aload_n 1, 1) := by decide +kernel
theorem dJx4a65c_fastRemove_b59b0_23 : decode cJx4a65c_fastRemove_b59b0 23 = .ok (.iload_n 2, 1) := by decide +kernel
theorem dJx4a65c_fastRemove_b59b0_24 : decode cJx4a65c_fastRemove_b59b0 24 = .ok (.iconst 1, 1) := by decide +kernel
theorem dJx4a65c_fastRemove_b59b0_25 : decode cJx4a65c_fastRemove_b59b0 25 = .ok (.iadd, 1) := by decide +kernel
theorem dJx4a65c_fastRemove_b59b0_26 : decode cJx4a65c_fastRemove_b59b0 26 = .ok (.aload_n 1, 1) := by decide +kernel
theorem dJx4a65c_fastRemove_b59b0_27 : decode cJx4a65c_fastRemove_b59b0 27 = .ok (.iload_n 2, 1) := by decide +kernel
theorem dJx4a65c_fastRemove_b59b0_28 : decode cJx4a65c_fastRemove_b59b0 28 = .ok (.iload_n 3, 1) := by decide +kernel
theorem dJx4a65c_fastRemove_b59b0_29 : decode cJx4a65c_fastRemove_b59b0 29 = .ok (.iload_n 2, 1) := by decide +kernel
theorem dJx4a65c_fastRemove_b59b0_30 : decode cJx4a65c_fastRemove_b59b0 30 = .ok (.isub, 1) := by decide +kernel
theorem dJx4a65c_fastRemove_b59b0_31 : decode cJx4a65c_fastRemove_b59b0 31 = .ok (.invokestatic 112, 3) := by decide +kernel
theorem dJx4a65c_fastRemove_b59b0_34 : decode cJx4a65c_fastRemove_b59b0 34 = .ok (.aload_n 1, 1) := by decide +kernel
theorem dJx4a65c_fastRemove_b59b0_35 : decode cJx4a65c_fastRemove_b59b0 35 = .ok (.aload_n 0, 1) := by decide +kernel
theorem dJx4a65c_fastRemove_b59b0_36 : decode cJx4a65c_fastRemove_b59b0 36 = .ok (.iload_n 3, 1) := by decide +kernel
theorem dJx4a65c_fastRemove_b59b0_37 : decode cJx4a65c_fastRemove_b59b0 37 = .ok (.dup_x1, 1) := by decide +kernel
theorem dJx4a65c_fastRemove_b59b0_38 : decode cJx4a65c_fastRemove_b59b0 38 = .ok (.putfield 48, 3) := by decide +kernel
theorem dJx4a65c_fastRemove_b59b0_41 : decode cJx4a65c_fastRemove_b59b0 41 = .ok (.aconst_null, 1) := by decide +kernel
theorem dJx4a65c_fastRemove_b59b0_42 : decode cJx4a65c_fastRemove_b59b0 42 = .ok (.aastore, 1) := by decide +kernel
theorem dJx4a65c_fastRemove_b59b0_43 : decode cJx4a65c_fastRemove_b59b0 43 = .ok (.return_, 1) := by decide +kernel
theorem dJx4a65c_clear_da8c8_0 : decode cJx4a65c_clear_da8c8 0 = .ok (.aload_n 0, 1) := by decide +kernel
theorem dJx4a65c_clear_da8c8_1 : decode cJx4a65c_clear_da8c8 1 = .ok (.dup, 1) := by decide +kernel
theorem dJx4a65c_clear_da8c8_2 : decode cJx4a65c_clear_da8c8 2 = .ok (.getfield 63, 3) := by decide +kernel
theorem dJx4a65c_clear_da8c8_5 : decode cJx4a65c_clear_da8c8 5 = .ok (.iconst 1, 1) := by decide +kernel
theorem dJx4a65c_clear_da8c8_6 : decode cJx4a65c_clear_da8c8 6 = .ok (.iadd, 1) := by decide +kernel
theorem dJx4a65c_clear_da8c8_7 : decode cJx4a65c_clear_da8c8 7 = .ok (.putfield 63, 3) := by decide +kernel
theorem dJx4a65c_clear_da8c8_10 : decode cJx4a65c_clear_da8c8 10 = .ok (.aload_n 0, 1) := by decide +kernel
theorem dJx4a65c_clear_da8c8_11 : decode cJx4a65c_clear_da8c8 11 = .ok (.getfield 9, 3) := by decide +kernel
theorem dJx4a65c_clear_da8c8_14 : decode cJx4a65c_clear_da8c8 14 = .ok (.astore_n 1, 1) := by decide +kernel
theorem dJx4a65c_clear_da8c8_15 : decode cJx4a65c_clear_da8c8 15 = .ok (.aload_n 0, 1) := by decide +kernel
theorem dJx4a65c_clear_da8c8_16 : decode cJx4a65c_clear_da8c8 16 = .ok (.getfield 48, 3) := by decide +kernel
theorem dJx4a65c_clear_da8c8_19 : decode cJx4a65c_clear_da8c8 19 = .ok (.istore_n 2, 1) := by decide +kernel
theorem dJx4a65c_clear_da8c8_20 : decode cJx4a65c_clear_da8c8 20 = .ok (.aload_n 0, 1) := by decide +kernel
theorem dJx4a65c_clear_da8c8_21 : decode cJx4a65c_clear_da8c8 21 = .ok (.iconst 0, 1) := by decide +kernel
theorem dJx4a65c_clear_da8c8_22 : decode cJx4a65c_clear_da8c8 22 = .ok (.dup_x1, 1) := by decide +kernel
theorem dJx4a65c_clear_da8c8_23 : decode cJx4a65c_clear_da8c8 23 = .ok (.putfield 48, 3) := by decide +kernel
theorem dJx4a65c_clear_da8c8_26 : decode cJx4a65c_clear_da8c8 26 = .ok (.istore_n 3, 1) := by decide +kernel
theorem dJx4a65c_clear_da8c8_27 : decode cJx4a65c_clear_da8c8 27 = .ok (.iload_n 3, 1) := by decide +kernel
theorem dJx4a65c_clear_da8c8_28 : decode cJx4a65c_clear_da8c8 28 = .ok (.iload_n 2, 1) := by decide +kernel
theorem dJx4a65c_clear_da8c8_29 : decode cJx4a65c_clear_da8c8 29 = .ok (.if_icmp .ge 13, 3) := by decide +kernel
theorem dJx4a65c_clear_da8c8_32 : decode cJx4a65c_clear_da8c8 32 = .ok (.aload_n 1, 1) := by decide +kernel
theorem dJx4a65c_clear_da8c8_33 : decode cJx4a65c_clear_da8c8 33 = .ok (.iload_n 3, 1) := by decide +kernel
theorem dJx4a65c_clear_da8c8_34 : decode cJx4a65c_clear_da8c8 34 = .ok (.aconst_null, 1) := by decide +kernel
theorem dJx4a65c_clear_da8c8_35 : decode cJx4a65c_clear_da8c8 35 = .ok (.aastore, 1) := by decide +kernel
theorem dJx4a65c_clear_da8c8_36 : decode cJx4a65c_clear_da8c8 36 = .ok (.iinc 3 1, 3) := by decide +kernel
theorem dJx4a65c_clear_da8c8_39 : decode cJx4a65c_clear_da8c8 39 = .ok (.goto (-12), 3) := by decide +kernel
theorem dJx4a65c_clear_da8c8_42 : decode cJx4a65c_clear_da8c8 42 = .ok (.return_, 1) := by decide +kernel
theorem dJ7_fill_53178_0 : decode cJ7_fill_53178 0 = .ok (.iconst 0, 1) := by decide +kernel
theorem dJ7_fill_53178_1 : decode cJ7_fill_53178 1 = .ok (.istore_n 2, 1) := by decide +kernel
theorem dJ7_fill_53178_2 : decode cJ7_fill_53178 2 = .ok (.aload_n 0, 1) := by decide +kernel
theorem dJ7_fill_53178_3 : decode cJ7_fill_53178 3 = .ok (.arraylength, 1) := by decide +kernel
theorem dJ7_fill_53178_4 : decode cJ7_fill_53178 4 = .ok (.istore_n 3, 1) := by decide +kernel
theorem dJ7_fill_53178_5 : decode cJ7_fill_53178 5 = .ok (.iload_n 2, 1) := by decide +kernel
theorem dJ7_fill_53178_6 : decode cJ7_fill_53178 6 = .ok (.iload_n 3, 1) := by decide +kernel
theorem dJ7_fill_53178_7 : decode cJ7_fill_53178 7 = .ok (.if_icmp .ge 13, 3) := by decide +kernel
theorem dJ7_fill_53178_10 : decode cJ7_fill_53178 10 = .ok (.aload_n 0, 1) := by decide +kernel
theorem dJ7_fill_53178_11 : decode cJ7_fill_53178 11 = .ok (.iload_n 2, 1) := by decide +kernel
theorem dJ7_fill_53178_12 : decode cJ7_fill_53178 12 = .ok (.iload_n 1, 1) := by decide +kernel
theorem dJ7_fill_53178_13 : decode cJ7_fill_53178 13 = .ok (.iastore, 1) := by decide +kernel
theorem dJ7_fill_53178_14 : decode cJ7_fill_53178 14 = .ok (.iinc 2 1, 3) := by decide +kernel
theorem dJ7_fill_53178_17 : decode cJ7_fill_53178 17 = .ok (.goto (-12), 3) := by decide +kernel
theorem dJ7_fill_53178_20 : decode cJ7_fill_53178 20 = .ok (.return_, 1) := by decide +kernel
theorem dJ7_copyOf_1904c_0 : decode cJ7_copyOf_1904c 0 = .ok (.aload_n 0, 1) := by decide +kernel
theorem dJ7_copyOf_1904c_1 : decode cJ7_copyOf_1904c 1 = .ok (.iload_n 1, 1) := by decide +kernel
theorem dJ7_copyOf_1904c_2 : decode cJ7_copyOf_1904c 2 = .ok (.aload_n 0, 1) := by decide +kernel
theorem dJ7_copyOf_1904c_3 : decode cJ7_copyOf_1904c 3 = .ok (.invokevirtual 86, 3) := by decide +kernel
theorem dJ7_copyOf_1904c_6 : decode cJ7_copyOf_1904c 6 = .ok (.invokestatic 300, 3) := by decide +kernel
theorem dJ7_copyOf_1904c_9 : decode cJ7_copyOf_1904c 9 = .ok (.areturn, 1) := by decide +kernel
theorem dJ7_copyOf_6403c_0 : decode cJ7_copyOf_6403c 0 = .ok (.aload_n 2, 1) := by decide +kernel
theorem dJ7_copyOf_6403c_1 : decode cJ7_copyOf_6403c 1 = .ok (.ldc 110, 2) := by decide +kernel
theorem dJ7_copyOf_6403c_3 : decode cJ7_copyOf_6403c 3 = .ok (.if_acmp .ne 10, 3) := by decide +kernel
theorem dJ7_copyOf_6403c_6 : decode cJ7_copyOf_6403c 6 = .ok (.iload_n 1, 1) := by decide +kernel
theorem dJ7_copyOf_6403c_7 : decode cJ7_copyOf_6403c 7 = .ok (.anewarray 2, 3) := by decide +kernel
theorem dJ7_copyOf_6403c_10 : decode cJ7_copyOf_6403c 10 = .ok (.goto 14, 3) := by decide +kernel
theorem dJ7_copyOf_6403c_13 : decode cJ7_copyOf_6403c 13 = .ok (.aload_n 2, 1) := by decide +kernel
theorem dJ7_copyOf_6403c_14 : decode cJ7_copyOf_6403c 14 = .ok (.invokevirtual 90, 3) := by decide +kernel
theorem dJ7_copyOf_6403c_17 : decode cJ7_copyOf_6403c 17 = .ok (.iload_n 1, 1) := by decide +kernel
theorem dJ7_copyOf_6403c_18 : decode cJ7_copyOf_6403c 18 = .ok (.invokestatic 95, 3) := by decide +kernel
theorem dJ7_copyOf_6403c_21 : decode cJ7_copyOf_6403c 21 = .ok (.checkcast 110, 3) := by decide +kernel
theorem dJ7_copyOf_6403c_24 : decode cJ7_copyOf_6403c 24 = .ok (.astore_n 3, 1) := by decide +kernel
theorem dJ7_copyOf_6403c_25 : decode cJ7_copyOf_6403c 25 = .ok (.aload_n 0, 1) := by decide +kernel
theorem dJ7_copyOf_6403c_26 : decode cJ7_copyOf_6403c 26 = .ok (.iconst 0, 1) := by decide +kernel
theorem dJ7_copyOf_6403c_27 : decode cJ7_copyOf_6403c 27 = .ok (.aload_n 3, 1) := by decide +kernel
theorem dJ7_copyOf_6403c_28 : decode cJ7_copyOf_6403c 28 = .ok (.iconst 0, 1) := by decide +kernel
theorem dJ7_copyOf_6403c_29 : decode cJ7_copyOf_6403c 29 = .ok (.aload_n 0, 1) := by decide +kernel
theorem dJ7_copyOf_6403c_30 : decode cJ7_copyOf_6403c 30 = .ok (.arraylength, 1) := by decide +kernel
theorem dJ7_copyOf_6403c_31 : decode cJ7_copyOf_6403c 31 = .ok (.iload_n 1, 1) := by decide +kernel
theorem dJ7_copyOf_6403c_32 : decode cJ7_copyOf_6403c 32 = .ok (.invokestatic 304, 3) := by decide +kernel
theorem dJ7_copyOf_6403c_35 : decode cJ7_copyOf_6403c 35 = .ok (.invokestatic 150, 3) := by decide +kernel
theorem dJ7_copyOf_6403c_38 : decode cJ7_copyOf_6403c 38 = .ok (.aload_n 3, 1) := by decide +kernel
theorem dJ7_copyOf_6403c_39 : decode cJ7_copyOf_6403c 39 = .ok (.areturn, 1) := by decide +kernel
theorem dJ7_copyOf_59c91_0 : decode cJ7_copyOf_59c91 0 = .ok (.iload_n 1, 1) := by decide +kernel
theorem dJ7_copyOf_59c91_1 : decode cJ7_copyOf_59c91 1 = .ok (.aload_n 0, 1) := by decide +kernel
theorem dJ7_copyOf_59c91_2 : decode cJ7_copyOf_59c91 2 = .ok (.arraylength, 1) := by decide +kernel
theorem dJ7_copyOf_59c91_3 : decode cJ7_copyOf_59c91 3 = .ok (.if_icmp .ne 11, 3) := by decide +kernel
theorem dJ7_copyOf_59c91_6 : decode cJ7_copyOf_59c91 6 = .ok (.aload_n 0, 1) := by decide +kernel
theorem dJ7_copyOf_59c91_7 : decode cJ7_copyOf_59c91 7 = .ok (.invokevirtual 316, 3) := by decide +kernel
theorem dJ7_copyOf_59c91_10 : decode cJ7_copyOf_59c91 10 = .ok (.checkcast 317, 3) := by decide +kernel
theorem dJ7_copyOf_59c91_13 : decode cJ7_copyOf_59c91 13 = .ok (.areturn, 1) := by decide +kernel
theorem dJ7_copyOf_59c91_14 : decode cJ7_copyOf_59c91 14 = .ok (.iload_n 1, 1) := by decide +kernel
theorem dJ7_copyOf_59c91_15 : decode cJ7_copyOf_59c91 15 = .ok (.newarray .int, 2) := by decide +kernel
theorem dJ7_copyOf_59c91_17 : decode cJ7_copyOf_59c91 17 = .ok (.astore_n 2, 1) := by decide +kernel
theorem dJ7_copyOf_59c91_18 : decode cJ7_copyOf_59c91 18 = .ok (.aload_n 0, 1) := by decide +kernel
theorem dJ7_copyOf_59c91_19 : decode cJ7_copyOf_59c91 19 = .ok (.iconst 0, 1) := by decide +kernel
theorem dJ7_copyOf_59c91_20 : decode cJ7_copyOf_59c91 20 = .ok (.aload_n 2, 1) := by decide +kernel
