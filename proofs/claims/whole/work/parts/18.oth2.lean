theorem dX10_says_51 : decode cX10_says 51 = .ok (.ldc 226, 2) := by decide +kernel
theorem dX10_says_53 : decode cX10_says 53 = .ok (.ireturn, 1) := by decide +kernel
theorem dX10_says_54 : decode cX10_says 54 = .ok (.aload_n 0, 1) := by decide +kernel
theorem dX10_says_55 : decode cX10_says 55 = .ok (.iload_n 1, 1) := by decide +kernel
theorem dX10_says_56 : decode cX10_says 56 = .ok (.iload_n 2, 1) := by decide +kernel
theorem dX10_says_57 : decode cX10_says 57 = .ok (.aload 5, 2) := by decide +kernel
theorem dX10_says_59 : decode cX10_says 59 = .ok (.aload 6, 2) := by decide +kernel
theorem dX10_says_61 : decode cX10_says 61 = .ok (.invokevirtual 227, 3) := by decide +kernel
theorem dX10_says_64 : decode cX10_says 64 = .ok (.ireturn, 1) := by decide +kernel
theorem dX10_load_0 : decode cX10_load 0 = .ok (.aload_n 0, 1) := by decide +kernel
theorem dX10_load_1 : decode cX10_load 1 = .ok (.iload_n 2, 1) := by decide +kernel
theorem dX10_load_2 : decode cX10_load 2 = .ok (.bipush 100, 2) := by decide +kernel
theorem dX10_load_4 : decode cX10_load 4 = .ok (.idiv, 1) := by decide +kernel
theorem dX10_load_5 : decode cX10_load 5 = .ok (.invokevirtual 84, 3) := by decide +kernel
theorem dX10_load_8 : decode cX10_load 8 = .ok (.astore 5, 2) := by decide +kernel
theorem dX10_load_10 : decode cX10_load 10 = .ok (.aload_n 0, 1) := by decide +kernel
theorem dX10_load_11 : decode cX10_load 11 = .ok (.iload_n 2, 1) := by decide +kernel
theorem dX10_load_12 : decode cX10_load 12 = .ok (.bipush 100, 2) := by decide +kernel
theorem dX10_load_14 : decode cX10_load 14 = .ok (.irem, 1) := by decide +kernel
theorem dX10_load_15 : decode cX10_load 15 = .ok (.invokevirtual 84, 3) := by decide +kernel
theorem dX10_load_18 : decode cX10_load 18 = .ok (.astore 6, 2) := by decide +kernel
theorem dX10_load_20 : decode cX10_load 20 = .ok (.iload_n 1, 1) := by decide +kernel
theorem dX10_load_21 : decode cX10_load 21 = .ok (.ifCond .lt 69, 3) := by decide +kernel
theorem dX10_load_24 : decode cX10_load 24 = .ok (.iload_n 1, 1) := by decide +kernel
theorem dX10_load_25 : decode cX10_load 25 = .ok (.sipush 1000, 3) := by decide +kernel
theorem dX10_load_28 : decode cX10_load 28 = .ok (.idiv, 1) := by decide +kernel
theorem dX10_load_29 : decode cX10_load 29 = .ok (.iconst 4, 1) := by decide +kernel
theorem dX10_load_30 : decode cX10_load 30 = .ok (.if_icmp .gt 60, 3) := by decide +kernel
theorem dX10_load_33 : decode cX10_load 33 = .ok (.iload_n 1, 1) := by decide +kernel
theorem dX10_load_34 : decode cX10_load 34 = .ok (.sipush 1000, 3) := by decide +kernel
theorem dX10_load_37 : decode cX10_load 37 = .ok (.irem, 1) := by decide +kernel
theorem dX10_load_38 : decode cX10_load 38 = .ok (.ifCond .eq 52, 3) := by decide +kernel
theorem dX10_load_41 : decode cX10_load 41 = .ok (.iload_n 2, 1) := by decide +kernel
theorem dX10_load_42 : decode cX10_load 42 = .ok (.ifCond .lt 48, 3) := by decide +kernel
theorem dX10_load_45 : decode cX10_load 45 = .ok (.aload 5, 2) := by decide +kernel
theorem dX10_load_47 : decode cX10_load 47 = .ok (.ifnull 43, 3) := by decide +kernel
theorem dX10_load_50 : decode cX10_load 50 = .ok (.aload 6, 2) := by decide +kernel
theorem dX10_load_52 : decode cX10_load 52 = .ok (.ifnull 38, 3) := by decide +kernel
theorem dX10_load_55 : decode cX10_load 55 = .ok (.aload 5, 2) := by decide +kernel
theorem dX10_load_57 : decode cX10_load 57 = .ok (.getfield 231, 3) := by decide +kernel
theorem dX10_load_60 : decode cX10_load 60 = .ok (.aload 6, 2) := by decide +kernel
theorem dX10_load_62 : decode cX10_load 62 = .ok (.getfield 231, 3) := by decide +kernel
theorem dX10_load_65 : decode cX10_load 65 = .ok (.if_icmp .eq 25, 3) := by decide +kernel
theorem dX10_load_68 : decode cX10_load 68 = .ok (.iload_n 3, 1) := by decide +kernel
theorem dX10_load_69 : decode cX10_load 69 = .ok (.iconst 0, 1) := by decide +kernel
theorem dX10_load_70 : decode cX10_load 70 = .ok (.sipush 9999, 3) := by decide +kernel
theorem dX10_load_73 : decode cX10_load 73 = .ok (.invokestatic 71, 3) := by decide +kernel
theorem dX10_load_76 : decode cX10_load 76 = .ok (.ifCond .eq 14, 3) := by decide +kernel
theorem dX10_load_79 : decode cX10_load 79 = .ok (.iload 4, 2) := by decide +kernel
theorem dX10_load_81 : decode cX10_load 81 = .ok (.iconst 0, 1) := by decide +kernel
theorem dX10_load_82 : decode cX10_load 82 = .ok (.ldc 232, 2) := by decide +kernel
theorem dX10_load_84 : decode cX10_load 84 = .ok (.invokestatic 71, 3) := by decide +kernel
theorem dX10_load_87 : decode cX10_load 87 = .ok (.ifCond .ne 5, 3) := by decide +kernel
theorem dX10_load_90 : decode cX10_load 90 = .ok (.iconst (-1), 1) := by decide +kernel
theorem dX10_load_91 : decode cX10_load 91 = .ok (.ireturn, 1) := by decide +kernel
theorem dX10_load_92 : decode cX10_load 92 = .ok (.aload_n 0, 1) := by decide +kernel
theorem dX10_load_93 : decode cX10_load 93 = .ok (.getfield 19, 3) := by decide +kernel
theorem dX10_load_96 : decode cX10_load 96 = .ok (.invokevirtual 75, 3) := by decide +kernel
theorem dX10_load_99 : decode cX10_load 99 = .ok (.sipush 200, 3) := by decide +kernel
theorem dX10_load_102 : decode cX10_load 102 = .ok (.if_icmp .lt 6, 3) := by decide +kernel
theorem dX10_load_105 : decode cX10_load 105 = .ok (.bipush (-3), 2) := by decide +kernel
theorem dX10_load_107 : decode cX10_load 107 = .ok (.ireturn, 1) := by decide +kernel
theorem dX10_load_108 : decode cX10_load 108 = .ok (.aload_n 0, 1) := by decide +kernel
theorem dX10_load_109 : decode cX10_load 109 = .ok (.getfield 19, 3) := by decide +kernel
theorem dX10_load_112 : decode cX10_load 112 = .ok (.new 233, 3) := by decide +kernel
theorem dX10_load_115 : decode cX10_load 115 = .ok (.dup, 1) := by decide +kernel
theorem dX10_load_116 : decode cX10_load 116 = .ok (.aload_n 0, 1) := by decide +kernel
theorem dX10_load_117 : decode cX10_load 117 = .ok (.getfield 19, 3) := by decide +kernel
theorem dX10_load_120 : decode cX10_load 120 = .ok (.invokevirtual 75, 3) := by decide +kernel
theorem dX10_load_123 : decode cX10_load 123 = .ok (.iload_n 1, 1) := by decide +kernel
theorem dX10_load_124 : decode cX10_load 124 = .ok (.aload 5, 2) := by decide +kernel
theorem dX10_load_126 : decode cX10_load 126 = .ok (.aload 6, 2) := by decide +kernel
theorem dX10_load_128 : decode cX10_load 128 = .ok (.iload_n 3, 1) := by decide +kernel
theorem dX10_load_129 : decode cX10_load 129 = .ok (.iload 4, 2) := by decide +kernel
theorem dX10_load_131 : decode cX10_load 131 = .ok (.aload_n 0, 1) := by decide +kernel
theorem dX10_load_132 : decode cX10_load 132 = .ok (.getfield 95, 3) := by decide +kernel
theorem dX10_load_135 : decode cX10_load 135 = .ok (.invokespecial 235, 3) := by decide +kernel
theorem dX10_load_138 : decode cX10_load 138 = .ok (.invokevirtual 33, 3) := by decide +kernel
theorem dX10_load_141 : decode cX10_load 141 = .ok (.pop, 1) := by decide +kernel
theorem dX10_load_142 : decode cX10_load 142 = .ok (.aload_n 0, 1) := by decide +kernel
theorem dX10_load_143 : decode cX10_load 143 = .ok (.getfield 19, 3) := by decide +kernel
theorem dX10_load_146 : decode cX10_load 146 = .ok (.invokevirtual 75, 3) := by decide +kernel
theorem dX10_load_149 : decode cX10_load 149 = .ok (.iconst 1, 1) := by decide +kernel
theorem dX10_load_150 : decode cX10_load 150 = .ok (.isub, 1) := by decide +kernel
theorem dX10_load_151 : decode cX10_load 151 = .ok (.ireturn, 1) := by decide +kernel
theorem dX10_whose_0 : decode cX10_whose 0 = .ok (.aload_n 0, 1) := by decide +kernel
theorem dX10_whose_1 : decode cX10_whose 1 = .ok (.iload_n 1, 1) := by decide +kernel
theorem dX10_whose_2 : decode cX10_whose 2 = .ok (.invokevirtual 222, 3) := by decide +kernel
theorem dX10_whose_5 : decode cX10_whose 5 = .ok (.astore_n 2, 1) := by decide +kernel
theorem dX10_whose_6 : decode cX10_whose 6 = .ok (.aload_n 2, 1) := by decide +kernel
theorem dX10_whose_7 : decode cX10_whose 7 = .ok (.ifnonnull 7, 3) := by decide +kernel
theorem dX10_whose_10 : decode cX10_whose 10 = .ok (.iconst (-1), 1) := by decide +kernel
theorem dX10_whose_11 : decode cX10_whose 11 = .ok (.goto 8, 3) := by decide +kernel
theorem dX10_whose_14 : decode cX10_whose 14 = .ok (.aload_n 0, 1) := by decide +kernel
theorem dX10_whose_15 : decode cX10_whose 15 = .ok (.aload_n 2, 1) := by decide +kernel
theorem dX10_whose_16 : decode cX10_whose 16 = .ok (.invokevirtual 238, 3) := by decide +kernel
theorem dX10_whose_19 : decode cX10_whose 19 = .ok (.ireturn, 1) := by decide +kernel
theorem dX10_why_0 : decode cX10_why 0 = .ok (.aload_n 0, 1) := by decide +kernel
theorem dX10_why_1 : decode cX10_why 1 = .ok (.iload_n 1, 1) := by decide +kernel
theorem dX10_why_2 : decode cX10_why 2 = .ok (.invokevirtual 117, 3) := by decide +kernel
theorem dX10_why_5 : decode cX10_why 5 = .ok (.astore_n 3, 1) := by decide +kernel
theorem dX10_why_6 : decode cX10_why 6 = .ok (.aload_n 0, 1) := by decide +kernel
theorem dX10_why_7 : decode cX10_why 7 = .ok (.iload_n 2, 1) := by decide +kernel
theorem dX10_why_8 : decode cX10_why 8 = .ok (.invokevirtual 222, 3) := by decide +kernel
theorem dX10_why_11 : decode cX10_why 11 = .ok (.astore 4, 2) := by decide +kernel
theorem dX10_why_13 : decode cX10_why 13 = .ok (.aload_n 3, 1) := by decide +kernel
theorem dX10_why_14 : decode cX10_why 14 = .ok (.ifnull 8, 3) := by decide +kernel
theorem dX10_why_17 : decode cX10_why 17 = .ok (.aload 4, 2) := by decide +kernel
theorem dX10_why_19 : decode cX10_why 19 = .ok (.ifnonnull 5, 3) := by decide +kernel
theorem dX10_why_22 : decode cX10_why 22 = .ok (.iconst (-1), 1) := by decide +kernel
theorem dX10_why_23 : decode cX10_why 23 = .ok (.ireturn, 1) := by decide +kernel
theorem dX10_why_24 : decode cX10_why 24 = .ok (.aload_n 0, 1) := by decide +kernel
theorem dX10_why_25 : decode cX10_why 25 = .ok (.aload_n 3, 1) := by decide +kernel
theorem dX10_why_26 : decode cX10_why 26 = .ok (.aload 4, 2) := by decide +kernel
theorem dX10_why_28 : decode cX10_why 28 = .ok (.invokevirtual 242, 3) := by decide +kernel
theorem dX10_why_31 : decode cX10_why 31 = .ok (.istore 5, 2) := by decide +kernel
theorem dX10_why_33 : decode cX10_why 33 = .ok (.iload 5, 2) := by decide +kernel
theorem dX10_why_35 : decode cX10_why 35 = .ok (.ifCond .ne 18, 3) := by decide +kernel
theorem dX10_why_38 : decode cX10_why 38 = .ok (.aload_n 0, 1) := by decide +kernel
theorem dX10_why_39 : decode cX10_why 39 = .ok (.aload_n 3, 1) := by decide +kernel
theorem dX10_why_40 : decode cX10_why 40 = .ok (.aload 4, 2) := by decide +kernel
theorem dX10_why_42 : decode cX10_why 42 = .ok (.iconst 0, 1) := by decide +kernel
theorem dX10_why_43 : decode cX10_why 43 = .ok (.invokevirtual 246, 3) := by decide +kernel
theorem dX10_why_46 : decode cX10_why 46 = .ok (.ifCond .ne 7, 3) := by decide +kernel
theorem dX10_why_49 : decode cX10_why 49 = .ok (.bipush 6, 2) := by decide +kernel
theorem dX10_why_51 : decode cX10_why 51 = .ok (.istore 5, 2) := by decide +kernel
theorem dX10_why_53 : decode cX10_why 53 = .ok (.iload 5, 2) := by decide +kernel
theorem dX10_why_55 : decode cX10_why 55 = .ok (.ireturn, 1) := by decide +kernel
theorem dX10_send_0 : decode cX10_send 0 = .ok (.aload_n 0, 1) := by decide +kernel
theorem dX10_send_1 : decode cX10_send 1 = .ok (.iload_n 1, 1) := by decide +kernel
theorem dX10_send_2 : decode cX10_send 2 = .ok (.invokevirtual 117, 3) := by decide +kernel
theorem dX10_send_5 : decode cX10_send 5 = .ok (.astore_n 3, 1) := by decide +kernel
theorem dX10_send_6 : decode cX10_send 6 = .ok (.aload_n 0, 1) := by decide +kernel
theorem dX10_send_7 : decode cX10_send 7 = .ok (.iload_n 2, 1) := by decide +kernel
theorem dX10_send_8 : decode cX10_send 8 = .ok (.invokevirtual 222, 3) := by decide +kernel
theorem dX10_send_11 : decode cX10_send 11 = .ok (.astore 4, 2) := by decide +kernel
theorem dX10_send_13 : decode cX10_send 13 = .ok (.aload_n 3, 1) := by decide +kernel
theorem dX10_send_14 : decode cX10_send 14 = .ok (.ifnull 8, 3) := by decide +kernel
theorem dX10_send_17 : decode cX10_send 17 = .ok (.aload 4, 2) := by decide +kernel
theorem dX10_send_19 : decode cX10_send 19 = .ok (.ifnonnull 5, 3) := by decide +kernel
theorem dX10_send_22 : decode cX10_send 22 = .ok (.iconst (-1), 1) := by decide +kernel
theorem dX10_send_23 : decode cX10_send 23 = .ok (.ireturn, 1) := by decide +kernel
theorem dX10_send_24 : decode cX10_send 24 = .ok (.aload_n 0, 1) := by decide +kernel
theorem dX10_send_25 : decode cX10_send 25 = .ok (.aload_n 3, 1) := by decide +kernel
theorem dX10_send_26 : decode cX10_send 26 = .ok (.aload 4, 2) := by decide +kernel
theorem dX10_send_28 : decode cX10_send 28 = .ok (.invokevirtual 242, 3) := by decide +kernel
theorem dX10_send_31 : decode cX10_send 31 = .ok (.istore 5, 2) := by decide +kernel
theorem dX10_send_33 : decode cX10_send 33 = .ok (.iload 5, 2) := by decide +kernel
theorem dX10_send_35 : decode cX10_send 35 = .ok (.ifCond .ne 21, 3) := by decide +kernel
theorem dX10_send_38 : decode cX10_send 38 = .ok (.aload_n 0, 1) := by decide +kernel
theorem dX10_send_39 : decode cX10_send 39 = .ok (.aload_n 3, 1) := by decide +kernel
theorem dX10_send_40 : decode cX10_send 40 = .ok (.aload 4, 2) := by decide +kernel
theorem dX10_send_42 : decode cX10_send 42 = .ok (.aload_n 3, 1) := by decide +kernel
theorem dX10_send_43 : decode cX10_send 43 = .ok (.getfield 183, 3) := by decide +kernel
theorem dX10_send_46 : decode cX10_send 46 = .ok (.invokevirtual 246, 3) := by decide +kernel
theorem dX10_send_49 : decode cX10_send 49 = .ok (.ifCond .ne 7, 3) := by decide +kernel
theorem dX10_send_52 : decode cX10_send 52 = .ok (.bipush 6, 2) := by decide +kernel
theorem dX10_send_54 : decode cX10_send 54 = .ok (.istore 5, 2) := by decide +kernel
theorem dX10_send_56 : decode cX10_send 56 = .ok (.iload 5, 2) := by decide +kernel
theorem dX10_send_58 : decode cX10_send 58 = .ok (.ifCond .eq 9, 3) := by decide +kernel
theorem dX10_send_61 : decode cX10_send 61 = .ok (.bipush (-10), 2) := by decide +kernel
theorem dX10_send_63 : decode cX10_send 63 = .ok (.iload 5, 2) := by decide +kernel
theorem dX10_send_65 : decode cX10_send 65 = .ok (.isub, 1) := by decide +kernel
theorem dX10_send_66 : decode cX10_send 66 = .ok (.ireturn, 1) := by decide +kernel
theorem dX10_send_67 : decode cX10_send 67 = .ok (.aload_n 3, 1) := by decide +kernel
theorem dX10_send_68 : decode cX10_send 68 = .ok (.aload_n 0, 1) := by decide +kernel
theorem dX10_send_69 : decode cX10_send 69 = .ok (.getfield 250, 3) := by decide +kernel
theorem dX10_send_72 : decode cX10_send 72 = .ok (.putfield 186, 3) := by decide +kernel
theorem dX10_send_75 : decode cX10_send 75 = .ok (.aload_n 0, 1) := by decide +kernel
theorem dX10_send_76 : decode cX10_send 76 = .ok (.aload_n 3, 1) := by decide +kernel
theorem dX10_send_77 : decode cX10_send 77 = .ok (.aload 4, 2) := by decide +kernel
theorem dX10_send_79 : decode cX10_send 79 = .ok (.invokevirtual 253, 3) := by decide +kernel
theorem dX10_send_82 : decode cX10_send 82 = .ok (.aload 4, 2) := by decide +kernel
theorem dX10_send_84 : decode cX10_send 84 = .ok (.getfield 257, 3) := by decide +kernel
theorem dX10_send_87 : decode cX10_send 87 = .ok (.invokevirtual 75, 3) := by decide +kernel
theorem dX10_send_90 : decode cX10_send 90 = .ok (.ireturn, 1) := by decide +kernel
theorem dX10_off_0 : decode cX10_off 0 = .ok (.aload_n 0, 1) := by decide +kernel
theorem dX10_off_1 : decode cX10_off 1 = .ok (.iload_n 1, 1) := by decide +kernel
theorem dX10_off_2 : decode cX10_off 2 = .ok (.invokevirtual 222, 3) := by decide +kernel
theorem dX10_off_5 : decode cX10_off 5 = .ok (.astore_n 2, 1) := by decide +kernel
theorem dX10_off_6 : decode cX10_off 6 = .ok (.aload_n 2, 1) := by decide +kernel
theorem dX10_off_7 : decode cX10_off 7 = .ok (.ifnonnull 5, 3) := by decide +kernel
theorem dX10_off_10 : decode cX10_off 10 = .ok (.iconst (-1), 1) := by decide +kernel
theorem dX10_off_11 : decode cX10_off 11 = .ok (.ireturn, 1) := by decide +kernel
theorem dX10_off_12 : decode cX10_off 12 = .ok (.aload_n 2, 1) := by decide +kernel
theorem dX10_off_13 : decode cX10_off 13 = .ok (.getfield 260, 3) := by decide +kernel
theorem dX10_off_16 : decode cX10_off 16 = .ok (.ifCond .eq 6, 3) := by decide +kernel
theorem dX10_off_19 : decode cX10_off 19 = .ok (.bipush (-2), 2) := by decide +kernel
theorem dX10_off_21 : decode cX10_off 21 = .ok (.ireturn, 1) := by decide +kernel
theorem dX10_off_22 : decode cX10_off 22 = .ok (.aload_n 2, 1) := by decide +kernel
theorem dX10_off_23 : decode cX10_off 23 = .ok (.iconst 4, 1) := by decide +kernel
theorem dX10_off_24 : decode cX10_off 24 = .ok (.putfield 260, 3) := by decide +kernel
theorem dX10_off_27 : decode cX10_off 27 = .ok (.aload_n 2, 1) := by decide +kernel
theorem dX10_off_28 : decode cX10_off 28 = .ok (.aload_n 0, 1) := by decide +kernel
theorem dX10_off_29 : decode cX10_off 29 = .ok (.getfield 95, 3) := by decide +kernel
theorem dX10_off_32 : decode cX10_off 32 = .ok (.putfield 263, 3) := by decide +kernel
theorem dX10_off_35 : decode cX10_off 35 = .ok (.iconst 1, 1) := by decide +kernel
theorem dX10_off_36 : decode cX10_off 36 = .ok (.ireturn, 1) := by decide +kernel
theorem dX10_fall_0 : decode cX10_fall 0 = .ok (.aload_n 0, 1) := by decide +kernel
theorem dX10_fall_1 : decode cX10_fall 1 = .ok (.iload_n 1, 1) := by decide +kernel
theorem dX10_fall_2 : decode cX10_fall 2 = .ok (.invokevirtual 222, 3) := by decide +kernel
theorem dX10_fall_5 : decode cX10_fall 5 = .ok (.astore 4, 2) := by decide +kernel
theorem dX10_fall_7 : decode cX10_fall 7 = .ok (.aload 4, 2) := by decide +kernel
theorem dX10_fall_9 : decode cX10_fall 9 = .ok (.ifnonnull 5, 3) := by decide +kernel
theorem dX10_fall_12 : decode cX10_fall 12 = .ok (.iconst (-1), 1) := by decide +kernel
theorem dX10_fall_13 : decode cX10_fall 13 = .ok (.ireturn, 1) := by decide +kernel
theorem dX10_fall_14 : decode cX10_fall 14 = .ok (.aload 4, 2) := by decide +kernel
theorem dX10_fall_16 : decode cX10_fall 16 = .ok (.iload_n 2, 1) := by decide +kernel
theorem dX10_fall_17 : decode cX10_fall 17 = .ok (.invokevirtual 266, 3) := by decide +kernel
theorem dX10_fall_20 : decode cX10_fall 20 = .ok (.astore 5, 2) := by decide +kernel
theorem dX10_fall_22 : decode cX10_fall 22 = .ok (.iload_n 2, 1) := by decide +kernel
theorem dX10_fall_23 : decode cX10_fall 23 = .ok (.iconst (-1), 1) := by decide +kernel
theorem dX10_fall_24 : decode cX10_fall 24 = .ok (.if_icmp .eq 20, 3) := by decide +kernel
theorem dX10_fall_27 : decode cX10_fall 27 = .ok (.aload 5, 2) := by decide +kernel
theorem dX10_fall_29 : decode cX10_fall 29 = .ok (.ifnull 13, 3) := by decide +kernel
theorem dX10_fall_32 : decode cX10_fall 32 = .ok (.iload_n 3, 1) := by decide +kernel
theorem dX10_fall_33 : decode cX10_fall 33 = .ok (.iconst 0, 1) := by decide +kernel
theorem dX10_fall_34 : decode cX10_fall 34 = .ok (.ldc 232, 2) := by decide +kernel
theorem dX10_fall_36 : decode cX10_fall 36 = .ok (.invokestatic 71, 3) := by decide +kernel
theorem dX10_fall_39 : decode cX10_fall 39 = .ok (.ifCond .ne 5, 3) := by decide +kernel
theorem dX10_fall_42 : decode cX10_fall 42 = .ok (.iconst (-1), 1) := by decide +kernel
theorem dX10_fall_43 : decode cX10_fall 43 = .ok (.ireturn, 1) := by decide +kernel
theorem dX10_fall_44 : decode cX10_fall 44 = .ok (.aload 4, 2) := by decide +kernel
theorem dX10_fall_46 : decode cX10_fall 46 = .ok (.getfield 260, 3) := by decide +kernel
theorem dX10_fall_49 : decode cX10_fall 49 = .ok (.iconst 1, 1) := by decide +kernel
theorem dX10_fall_50 : decode cX10_fall 50 = .ok (.if_icmp .eq 6, 3) := by decide +kernel
theorem dX10_fall_53 : decode cX10_fall 53 = .ok (.bipush (-2), 2) := by decide +kernel
theorem dX10_fall_55 : decode cX10_fall 55 = .ok (.ireturn, 1) := by decide +kernel
theorem dX10_fall_56 : decode cX10_fall 56 = .ok (.aload 4, 2) := by decide +kernel
theorem dX10_fall_58 : decode cX10_fall 58 = .ok (.iconst 3, 1) := by decide +kernel
theorem dX10_fall_59 : decode cX10_fall 59 = .ok (.putfield 260, 3) := by decide +kernel
theorem dX10_fall_62 : decode cX10_fall 62 = .ok (.aload 5, 2) := by decide +kernel
theorem dX10_fall_64 : decode cX10_fall 64 = .ok (.ifnull 9, 3) := by decide +kernel
theorem dX10_fall_67 : decode cX10_fall 67 = .ok (.aload 5, 2) := by decide +kernel
theorem dX10_fall_69 : decode cX10_fall 69 = .ok (.iload_n 3, 1) := by decide +kernel
theorem dX10_fall_70 : decode cX10_fall 70 = .ok (.putfield 170, 3) := by decide +kernel
theorem dX10_fall_73 : decode cX10_fall 73 = .ok (.aload_n 0, 1) := by decide +kernel
theorem dX10_fall_74 : decode cX10_fall 74 = .ok (.aload 4, 2) := by decide +kernel
theorem dX10_fall_76 : decode cX10_fall 76 = .ok (.invokevirtual 269, 3) := by decide +kernel
theorem dX10_fall_79 : decode cX10_fall 79 = .ok (.ireturn, 1) := by decide +kernel
theorem dX10_told_0 : decode cX10_told 0 = .ok (.aload_n 0, 1) := by decide +kernel
theorem dX10_told_1 : decode cX10_told 1 = .ok (.iload_n 1, 1) := by decide +kernel
theorem dX10_told_2 : decode cX10_told 2 = .ok (.invokevirtual 222, 3) := by decide +kernel
theorem dX10_told_5 : decode cX10_told 5 = .ok (.astore_n 3, 1) := by decide +kernel
theorem dX10_told_6 : decode cX10_told 6 = .ok (.aload_n 3, 1) := by decide +kernel
theorem dX10_told_7 : decode cX10_told 7 = .ok (.ifnonnull 6, 3) := by decide +kernel
theorem dX10_told_10 : decode cX10_told 10 = .ok (.bipush (-2), 2) := by decide +kernel
theorem dX10_told_12 : decode cX10_told 12 = .ok (.ireturn, 1) := by decide +kernel
theorem dX10_told_13 : decode cX10_told 13 = .ok (.iload_n 2, 1) := by decide +kernel
theorem dX10_told_14 : decode cX10_told 14 = .ok (.tableswitch 164 0 12 #[66, 71, 76, 84, 92, 97, 102, 107, 112, 120, 125, 130, 139], 66) := by decide +kernel
theorem dX10_told_80 : decode cX10_told 80 = .ok (.aload_n 3, 1) := by decide +kernel
theorem dX10_told_81 : decode cX10_told 81 = .ok (.getfield 272, 3) := by decide +kernel
theorem dX10_told_84 : decode cX10_told 84 = .ok (.ireturn, 1) := by decide +kernel
theorem dX10_told_85 : decode cX10_told 85 = .ok (.aload_n 3, 1) := by decide +kernel
theorem dX10_told_86 : decode cX10_told 86 = .ok (.getfield 275, 3) := by decide +kernel
theorem dX10_told_89 : decode cX10_told 89 = .ok (.ireturn, 1) := by decide +kernel
theorem dX10_told_90 : decode cX10_told 90 = .ok (.aload_n 3, 1) := by decide +kernel
theorem dX10_told_91 : decode cX10_told 91 = .ok (.getfield 278, 3) := by decide +kernel
theorem dX10_told_94 : decode cX10_told 94 = .ok (.getfield 231, 3) := by decide +kernel
theorem dX10_told_97 : decode cX10_told 97 = .ok (.ireturn, 1) := by decide +kernel
theorem dX10_told_98 : decode cX10_told 98 = .ok (.aload_n 3, 1) := by decide +kernel
theorem dX10_told_99 : decode cX10_told 99 = .ok (.getfield 282, 3) := by decide +kernel
theorem dX10_told_102 : decode cX10_told 102 = .ok (.getfield 231, 3) := by decide +kernel
theorem dX10_told_105 : decode cX10_told 105 = .ok (.ireturn, 1) := by decide +kernel
theorem dX10_told_106 : decode cX10_told 106 = .ok (.aload_n 3, 1) := by decide +kernel
theorem dX10_told_107 : decode cX10_told 107 = .ok (.getfield 285, 3) := by decide +kernel
theorem dX10_told_110 : decode cX10_told 110 = .ok (.ireturn, 1) := by decide +kernel
theorem dX10_told_111 : decode cX10_told 111 = .ok (.aload_n 3, 1) := by decide +kernel
theorem dX10_told_112 : decode cX10_told 112 = .ok (.getfield 288, 3) := by decide +kernel
theorem dX10_told_115 : decode cX10_told 115 = .ok (.ireturn, 1) := by decide +kernel
theorem dX10_told_116 : decode cX10_told 116 = .ok (.aload_n 3, 1) := by decide +kernel
theorem dX10_told_117 : decode cX10_told 117 = .ok (.getfield 260, 3) := by decide +kernel
theorem dX10_told_120 : decode cX10_told 120 = .ok (.ireturn, 1) := by decide +kernel
theorem dX10_told_121 : decode cX10_told 121 = .ok (.aload_n 3, 1) := by decide +kernel
theorem dX10_told_122 : decode cX10_told 122 = .ok (.getfield 291, 3) := by decide +kernel
theorem dX10_told_125 : decode cX10_told 125 = .ok (.ireturn, 1) := by decide +kernel
theorem dX10_told_126 : decode cX10_told 126 = .ok (.aload_n 3, 1) := by decide +kernel
theorem dX10_told_127 : decode cX10_told 127 = .ok (.getfield 257, 3) := by decide +kernel
theorem dX10_told_130 : decode cX10_told 130 = .ok (.invokevirtual 75, 3) := by decide +kernel
theorem dX10_told_133 : decode cX10_told 133 = .ok (.ireturn, 1) := by decide +kernel
theorem dX10_told_134 : decode cX10_told 134 = .ok (.aload_n 3, 1) := by decide +kernel
theorem dX10_told_135 : decode cX10_told 135 = .ok (.getfield 292, 3) := by decide +kernel
theorem dX10_told_138 : decode cX10_told 138 = .ok (.ireturn, 1) := by decide +kernel
theorem dX10_told_139 : decode cX10_told 139 = .ok (.aload_n 3, 1) := by decide +kernel
theorem dX10_told_140 : decode cX10_told 140 = .ok (.getfield 295, 3) := by decide +kernel
theorem dX10_told_143 : decode cX10_told 143 = .ok (.ireturn, 1) := by decide +kernel
theorem dX10_told_144 : decode cX10_told 144 = .ok (.aload_n 3, 1) := by decide +kernel
theorem dX10_told_145 : decode cX10_told 145 = .ok (.aload_n 0, 1) := by decide +kernel
theorem dX10_told_146 : decode cX10_told 146 = .ok (.getfield 95, 3) := by decide +kernel
theorem dX10_told_149 : decode cX10_told 149 = .ok (.invokevirtual 298, 3) := by decide +kernel
theorem dX10_told_152 : decode cX10_told 152 = .ok (.ireturn, 1) := by decide +kernel
theorem dX10_told_153 : decode cX10_told 153 = .ok (.aload_n 3, 1) := by decide +kernel
theorem dX10_told_154 : decode cX10_told 154 = .ok (.getfield 260, 3) := by decide +kernel
theorem dX10_told_157 : decode cX10_told 157 = .ok (.iconst 1, 1) := by decide +kernel
theorem dX10_told_158 : decode cX10_told 158 = .ok (.if_icmp .eq 11, 3) := by decide +kernel
theorem dX10_told_161 : decode cX10_told 161 = .ok (.aload_n 3, 1) := by decide +kernel
theorem dX10_told_162 : decode cX10_told 162 = .ok (.getfield 260, 3) := by decide +kernel
theorem dX10_told_165 : decode cX10_told 165 = .ok (.iconst 2, 1) := by decide +kernel
theorem dX10_told_166 : decode cX10_told 166 = .ok (.if_icmp .ne 10, 3) := by decide +kernel
theorem dX10_told_169 : decode cX10_told 169 = .ok (.aload_n 3, 1) := by decide +kernel
theorem dX10_told_170 : decode cX10_told 170 = .ok (.getfield 301, 3) := by decide +kernel
theorem dX10_told_173 : decode cX10_told 173 = .ok (.goto 4, 3) := by decide +kernel
theorem dX10_told_176 : decode cX10_told 176 = .ok (.iconst (-1), 1) := by decide +kernel
theorem dX10_told_177 : decode cX10_told 177 = .ok (.ireturn, 1) := by decide +kernel
theorem dX10_told_178 : decode cX10_told 178 = .ok (.bipush (-2), 2) := by decide +kernel
theorem dX10_told_180 : decode cX10_told 180 = .ok (.ireturn, 1) := by decide +kernel
theorem dX10_gang_0 : decode cX10_gang 0 = .ok (.aload_n 0, 1) := by decide +kernel
theorem dX10_gang_1 : decode cX10_gang 1 = .ok (.iload_n 1, 1) := by decide +kernel
theorem dX10_gang_2 : decode cX10_gang 2 = .ok (.invokevirtual 222, 3) := by decide +kernel
theorem dX10_gang_5 : decode cX10_gang 5 = .ok (.astore_n 3, 1) := by decide +kernel
theorem dX10_gang_6 : decode cX10_gang 6 = .ok (.aload_n 3, 1) := by decide +kernel
theorem dX10_gang_7 : decode cX10_gang 7 = .ok (.ifnull 18, 3) := by decide +kernel
theorem dX10_gang_10 : decode cX10_gang 10 = .ok (.iload_n 2, 1) := by decide +kernel
theorem dX10_gang_11 : decode cX10_gang 11 = .ok (.ifCond .lt 14, 3) := by decide +kernel
theorem dX10_gang_14 : decode cX10_gang 14 = .ok (.iload_n 2, 1) := by decide +kernel
theorem dX10_gang_15 : decode cX10_gang 15 = .ok (.aload_n 3, 1) := by decide +kernel
theorem dX10_gang_16 : decode cX10_gang 16 = .ok (.getfield 257, 3) := by decide +kernel
theorem dX10_gang_19 : decode cX10_gang 19 = .ok (.invokevirtual 75, 3) := by decide +kernel
theorem dX10_gang_22 : decode cX10_gang 22 = .ok (.if_icmp .lt 5, 3) := by decide +kernel
theorem dX10_gang_25 : decode cX10_gang 25 = .ok (.iconst (-1), 1) := by decide +kernel
theorem dX10_gang_26 : decode cX10_gang 26 = .ok (.ireturn, 1) := by decide +kernel
theorem dX10_gang_27 : decode cX10_gang 27 = .ok (.aload_n 3, 1) := by decide +kernel
theorem dX10_gang_28 : decode cX10_gang 28 = .ok (.getfield 257, 3) := by decide +kernel
theorem dX10_gang_31 : decode cX10_gang 31 = .ok (.iload_n 2, 1) := by decide +kernel
theorem dX10_gang_32 : decode cX10_gang 32 = .ok (.invokevirtual 176, 3) := by decide +kernel
theorem dX10_gang_35 : decode cX10_gang 35 = .ok (.checkcast 121, 3) := by decide +kernel
theorem dX10_gang_38 : decode cX10_gang 38 = .ok (.getfield 180, 3) := by decide +kernel
theorem dX10_gang_41 : decode cX10_gang 41 = .ok (.ireturn, 1) := by decide +kernel
theorem dX10_minutes_0 : decode cX10_minutes 0 = .ok (.iload_n 1, 1) := by decide +kernel
theorem dX10_minutes_1 : decode cX10_minutes 1 = .ok (.iconst 1, 1) := by decide +kernel
theorem dX10_minutes_2 : decode cX10_minutes 2 = .ok (.sipush 600, 3) := by decide +kernel
theorem dX10_minutes_5 : decode cX10_minutes 5 = .ok (.invokestatic 71, 3) := by decide +kernel
theorem dX10_minutes_8 : decode cX10_minutes 8 = .ok (.ifCond .eq 15, 3) := by decide +kernel
theorem dX10_minutes_11 : decode cX10_minutes 11 = .ok (.aload_n 0, 1) := by decide +kernel
theorem dX10_minutes_12 : decode cX10_minutes 12 = .ok (.getfield 95, 3) := by decide +kernel
theorem dX10_minutes_15 : decode cX10_minutes 15 = .ok (.iload_n 1, 1) := by decide +kernel
theorem dX10_minutes_16 : decode cX10_minutes 16 = .ok (.iadd, 1) := by decide +kernel
theorem dX10_minutes_17 : decode cX10_minutes 17 = .ok (.ldc_w 304, 3) := by decide +kernel
theorem dX10_minutes_20 : decode cX10_minutes 20 = .ok (.if_icmp .le 5, 3) := by decide +kernel
theorem dX10_minutes_23 : decode cX10_minutes 23 = .ok (.iconst (-1), 1) := by decide +kernel
theorem dX10_minutes_24 : decode cX10_minutes 24 = .ok (.ireturn, 1) := by decide +kernel
theorem dX10_minutes_25 : decode cX10_minutes 25 = .ok (.aload_n 0, 1) := by decide +kernel
theorem dX10_minutes_26 : decode cX10_minutes 26 = .ok (.getfield 95, 3) := by decide +kernel
theorem dX10_minutes_29 : decode cX10_minutes 29 = .ok (.iload_n 1, 1) := by decide +kernel
theorem dX10_minutes_30 : decode cX10_minutes 30 = .ok (.iadd, 1) := by decide +kernel
theorem dX10_minutes_31 : decode cX10_minutes 31 = .ok (.istore_n 2, 1) := by decide +kernel
theorem dX10_minutes_32 : decode cX10_minutes 32 = .ok (.iconst 0, 1) := by decide +kernel
theorem dX10_minutes_33 : decode cX10_minutes 33 = .ok (.istore_n 3, 1) := by decide +kernel
theorem dX10_minutes_34 : decode cX10_minutes 34 = .ok (.iload_n 3, 1) := by decide +kernel
theorem dX10_minutes_35 : decode cX10_minutes 35 = .ok (.iload_n 1, 1) := by decide +kernel
theorem dX10_minutes_36 : decode cX10_minutes 36 = .ok (.if_icmp .ge 45, 3) := by decide +kernel
theorem dX10_minutes_39 : decode cX10_minutes 39 = .ok (.aload_n 0, 1) := by decide +kernel
theorem dX10_minutes_40 : decode cX10_minutes 40 = .ok (.getfield 95, 3) := by decide +kernel
theorem dX10_minutes_43 : decode cX10_minutes 43 = .ok (.iload_n 2, 1) := by decide +kernel
theorem dX10_minutes_44 : decode cX10_minutes 44 = .ok (.if_icmp .ge 37, 3) := by decide +kernel
theorem dX10_minutes_47 : decode cX10_minutes 47 = .ok (.aload_n 0, 1) := by decide +kernel
theorem dX10_minutes_48 : decode cX10_minutes 48 = .ok (.aload_n 0, 1) := by decide +kernel
theorem dX10_minutes_49 : decode cX10_minutes 49 = .ok (.iload_n 2, 1) := by decide +kernel
theorem dX10_minutes_50 : decode cX10_minutes 50 = .ok (.invokevirtual 305, 3) := by decide +kernel
theorem dX10_minutes_53 : decode cX10_minutes 53 = .ok (.putfield 95, 3) := by decide +kernel
theorem dX10_minutes_56 : decode cX10_minutes 56 = .ok (.aload_n 0, 1) := by decide +kernel
theorem dX10_minutes_57 : decode cX10_minutes 57 = .ok (.getfield 95, 3) := by decide +kernel
theorem dX10_minutes_60 : decode cX10_minutes 60 = .ok (.sipush 600, 3) := by decide +kernel
theorem dX10_minutes_63 : decode cX10_minutes 63 = .ok (.irem, 1) := by decide +kernel
theorem dX10_minutes_64 : decode cX10_minutes 64 = .ok (.ifCond .ne 7, 3) := by decide +kernel
theorem dX10_minutes_67 : decode cX10_minutes 67 = .ok (.aload_n 0, 1) := by decide +kernel
theorem dX10_minutes_68 : decode cX10_minutes 68 = .ok (.invokevirtual 308, 3) := by decide +kernel
theorem dX10_minutes_71 : decode cX10_minutes 71 = .ok (.aload_n 0, 1) := by decide +kernel
theorem dX10_minutes_72 : decode cX10_minutes 72 = .ok (.invokevirtual 311, 3) := by decide +kernel
theorem dX10_minutes_75 : decode cX10_minutes 75 = .ok (.iinc 3 1, 3) := by decide +kernel
theorem dX10_minutes_78 : decode cX10_minutes 78 = .ok (.goto (-44), 3) := by decide +kernel
theorem dX10_minutes_81 : decode cX10_minutes 81 = .ok (.aload_n 0, 1) := by decide +kernel
theorem dX10_minutes_82 : decode cX10_minutes 82 = .ok (.getfield 95, 3) := by decide +kernel
theorem dX10_minutes_85 : decode cX10_minutes 85 = .ok (.ireturn, 1) := by decide +kernel
theorem dX10_judged_0 : decode cX10_judged 0 = .ok (.aload_n 0, 1) := by decide +kernel
theorem dX10_judged_1 : decode cX10_judged 1 = .ok (.iload_n 1, 1) := by decide +kernel
theorem dX10_judged_2 : decode cX10_judged 2 = .ok (.invokevirtual 222, 3) := by decide +kernel
theorem dX10_judged_5 : decode cX10_judged 5 = .ok (.astore 5, 2) := by decide +kernel
theorem dX10_judged_7 : decode cX10_judged 7 = .ok (.aload 5, 2) := by decide +kernel
theorem dX10_judged_9 : decode cX10_judged 9 = .ok (.ifnull 32, 3) := by decide +kernel
theorem dX10_judged_12 : decode cX10_judged 12 = .ok (.aload_n 0, 1) := by decide +kernel
theorem dX10_judged_13 : decode cX10_judged 13 = .ok (.iload_n 2, 1) := by decide +kernel
theorem dX10_judged_14 : decode cX10_judged 14 = .ok (.invokevirtual 117, 3) := by decide +kernel
theorem dX10_judged_17 : decode cX10_judged 17 = .ok (.ifnull 24, 3) := by decide +kernel
theorem dX10_judged_20 : decode cX10_judged 20 = .ok (.aload_n 0, 1) := by decide +kernel
theorem dX10_judged_21 : decode cX10_judged 21 = .ok (.iload_n 3, 1) := by decide +kernel
theorem dX10_judged_22 : decode cX10_judged 22 = .ok (.invokevirtual 117, 3) := by decide +kernel
theorem dX10_judged_25 : decode cX10_judged 25 = .ok (.ifnull 16, 3) := by decide +kernel
theorem dX10_judged_28 : decode cX10_judged 28 = .ok (.iload_n 2, 1) := by decide +kernel
theorem dX10_judged_29 : decode cX10_judged 29 = .ok (.iload_n 3, 1) := by decide +kernel
theorem dX10_judged_30 : decode cX10_judged 30 = .ok (.if_icmp .eq 11, 3) := by decide +kernel
theorem dX10_judged_33 : decode cX10_judged 33 = .ok (.iload 4, 2) := by decide +kernel
theorem dX10_judged_35 : decode cX10_judged 35 = .ok (.invokestatic 198, 3) := by decide +kernel
theorem dX10_judged_38 : decode cX10_judged 38 = .ok (.ifCond .ne 5, 3) := by decide +kernel
theorem dX10_judged_41 : decode cX10_judged 41 = .ok (.iconst (-1), 1) := by decide +kernel
theorem dX10_judged_42 : decode cX10_judged 42 = .ok (.ireturn, 1) := by decide +kernel
theorem dX10_judged_43 : decode cX10_judged 43 = .ok (.aload 5, 2) := by decide +kernel
theorem dX10_judged_45 : decode cX10_judged 45 = .ok (.getfield 314, 3) := by decide +kernel
theorem dX10_judged_48 : decode cX10_judged 48 = .ok (.sipush 600, 3) := by decide +kernel
theorem dX10_judged_51 : decode cX10_judged 51 = .ok (.idiv, 1) := by decide +kernel
theorem dX10_judged_52 : decode cX10_judged 52 = .ok (.istore 6, 2) := by decide +kernel
theorem dX10_judged_54 : decode cX10_judged 54 = .ok (.aload_n 0, 1) := by decide +kernel
theorem dX10_judged_55 : decode cX10_judged 55 = .ok (.iload_n 2, 1) := by decide +kernel
theorem dX10_judged_56 : decode cX10_judged 56 = .ok (.iconst 0, 1) := by decide +kernel
theorem dX10_judged_57 : decode cX10_judged 57 = .ok (.iload 6, 2) := by decide +kernel
theorem dX10_judged_59 : decode cX10_judged 59 = .ok (.iload 4, 2) := by decide +kernel
theorem dX10_judged_61 : decode cX10_judged 61 = .ok (.invokevirtual 217, 3) := by decide +kernel
theorem dX10_judged_64 : decode cX10_judged 64 = .ok (.astore 7, 2) := by decide +kernel
theorem dX10_judged_66 : decode cX10_judged 66 = .ok (.aload_n 0, 1) := by decide +kernel
theorem dX10_judged_67 : decode cX10_judged 67 = .ok (.iload_n 3, 1) := by decide +kernel
theorem dX10_judged_68 : decode cX10_judged 68 = .ok (.iconst 0, 1) := by decide +kernel
theorem dX10_judged_69 : decode cX10_judged 69 = .ok (.iload 6, 2) := by decide +kernel
theorem dX10_judged_71 : decode cX10_judged 71 = .ok (.iload 4, 2) := by decide +kernel
theorem dX10_judged_73 : decode cX10_judged 73 = .ok (.invokevirtual 217, 3) := by decide +kernel
theorem dX10_judged_76 : decode cX10_judged 76 = .ok (.astore 8, 2) := by decide +kernel
theorem dX10_judged_78 : decode cX10_judged 78 = .ok (.aload 7, 2) := by decide +kernel
theorem dX10_judged_80 : decode cX10_judged 80 = .ok (.ifnull 8, 3) := by decide +kernel
theorem dX10_judged_83 : decode cX10_judged 83 = .ok (.aload 8, 2) := by decide +kernel
theorem dX10_judged_85 : decode cX10_judged 85 = .ok (.ifnonnull 6, 3) := by decide +kernel
theorem dX10_judged_88 : decode cX10_judged 88 = .ok (.bipush (-2), 2) := by decide +kernel
theorem dX10_judged_90 : decode cX10_judged 90 = .ok (.ireturn, 1) := by decide +kernel
theorem dX10_judged_91 : decode cX10_judged 91 = .ok (.aload_n 0, 1) := by decide +kernel
theorem dX10_judged_92 : decode cX10_judged 92 = .ok (.getfield 61, 3) := by decide +kernel
theorem dX10_judged_95 : decode cX10_judged 95 = .ok (.aload 5, 2) := by decide +kernel
theorem dX10_judged_97 : decode cX10_judged 97 = .ok (.getfield 314, 3) := by decide +kernel
theorem dX10_judged_100 : decode cX10_judged 100 = .ok (.aload_n 0, 1) := by decide +kernel
theorem dX10_judged_101 : decode cX10_judged 101 = .ok (.getfield 40, 3) := by decide +kernel
theorem dX10_judged_104 : decode cX10_judged 104 = .ok (.aload 5, 2) := by decide +kernel
theorem dX10_judged_106 : decode cX10_judged 106 = .ok (.getfield 314, 3) := by decide +kernel
theorem dX10_judged_109 : decode cX10_judged 109 = .ok (.invokevirtual 317, 3) := by decide +kernel
theorem dX10_judged_112 : decode cX10_judged 112 = .ok (.invokevirtual 320, 3) := by decide +kernel
theorem dX10_judged_115 : decode cX10_judged 115 = .ok (.aload_n 0, 1) := by decide +kernel
theorem dX10_judged_116 : decode cX10_judged 116 = .ok (.getfield 61, 3) := by decide +kernel
theorem dX10_judged_119 : decode cX10_judged 119 = .ok (.aload 5, 2) := by decide +kernel
theorem dX10_judged_121 : decode cX10_judged 121 = .ok (.iconst 0, 1) := by decide +kernel
theorem dX10_judged_122 : decode cX10_judged 122 = .ok (.invokevirtual 324, 3) := by decide +kernel
theorem dX10_judged_125 : decode cX10_judged 125 = .ok (.aload_n 0, 1) := by decide +kernel
theorem dX10_judged_126 : decode cX10_judged 126 = .ok (.getfield 61, 3) := by decide +kernel
theorem dX10_judged_129 : decode cX10_judged 129 = .ok (.aload 7, 2) := by decide +kernel
theorem dX10_judged_131 : decode cX10_judged 131 = .ok (.getfield 328, 3) := by decide +kernel
theorem dX10_judged_134 : decode cX10_judged 134 = .ok (.invokevirtual 332, 3) := by decide +kernel
theorem dX10_judged_137 : decode cX10_judged 137 = .ok (.istore 9, 2) := by decide +kernel
theorem dX10_judged_139 : decode cX10_judged 139 = .ok (.aload_n 0, 1) := by decide +kernel
theorem dX10_judged_140 : decode cX10_judged 140 = .ok (.getfield 61, 3) := by decide +kernel
theorem dX10_judged_143 : decode cX10_judged 143 = .ok (.aload 8, 2) := by decide +kernel
theorem dX10_judged_145 : decode cX10_judged 145 = .ok (.getfield 328, 3) := by decide +kernel
theorem dX10_judged_148 : decode cX10_judged 148 = .ok (.invokevirtual 332, 3) := by decide +kernel
theorem dX10_judged_151 : decode cX10_judged 151 = .ok (.istore 10, 2) := by decide +kernel
theorem dX10_judged_153 : decode cX10_judged 153 = .ok (.iload 9, 2) := by decide +kernel
theorem dX10_judged_155 : decode cX10_judged 155 = .ok (.ifCond .eq 8, 3) := by decide +kernel
theorem dX10_judged_158 : decode cX10_judged 158 = .ok (.iload 10, 2) := by decide +kernel
theorem dX10_judged_160 : decode cX10_judged 160 = .ok (.ifCond .ne 6, 3) := by decide +kernel
theorem dX10_judged_163 : decode cX10_judged 163 = .ok (.bipush (-2), 2) := by decide +kernel
theorem dX10_judged_165 : decode cX10_judged 165 = .ok (.ireturn, 1) := by decide +kernel
theorem dX10_judged_166 : decode cX10_judged 166 = .ok (.iload 9, 2) := by decide +kernel
theorem dX10_judged_168 : decode cX10_judged 168 = .ok (.iload 10, 2) := by decide +kernel
theorem dX10_judged_170 : decode cX10_judged 170 = .ok (.if_icmp .eq 16, 3) := by decide +kernel
theorem dX10_judged_173 : decode cX10_judged 173 = .ok (.iload 9, 2) := by decide +kernel
theorem dX10_judged_175 : decode cX10_judged 175 = .ok (.iload 10, 2) := by decide +kernel
theorem dX10_judged_177 : decode cX10_judged 177 = .ok (.if_icmp .le 7, 3) := by decide +kernel
theorem dX10_judged_180 : decode cX10_judged 180 = .ok (.iload_n 2, 1) := by decide +kernel
theorem dX10_judged_181 : decode cX10_judged 181 = .ok (.goto 4, 3) := by decide +kernel
theorem dX10_judged_184 : decode cX10_judged 184 = .ok (.iload_n 3, 1) := by decide +kernel
theorem dX10_judged_185 : decode cX10_judged 185 = .ok (.ireturn, 1) := by decide +kernel
theorem dX10_judged_186 : decode cX10_judged 186 = .ok (.aload 7, 2) := by decide +kernel
theorem dX10_judged_188 : decode cX10_judged 188 = .ok (.getfield 221, 3) := by decide +kernel
theorem dX10_judged_191 : decode cX10_judged 191 = .ok (.aload 8, 2) := by decide +kernel
theorem dX10_judged_193 : decode cX10_judged 193 = .ok (.getfield 221, 3) := by decide +kernel
theorem dX10_judged_196 : decode cX10_judged 196 = .ok (.if_icmp .ge 7, 3) := by decide +kernel
theorem dX10_judged_199 : decode cX10_judged 199 = .ok (.iload_n 2, 1) := by decide +kernel
theorem dX10_judged_200 : decode cX10_judged 200 = .ok (.goto 4, 3) := by decide +kernel
theorem dX10_judged_203 : decode cX10_judged 203 = .ok (.iload_n 3, 1) := by decide +kernel
theorem dX10_judged_204 : decode cX10_judged 204 = .ok (.ireturn, 1) := by decide +kernel
theorem dX10_rates_0 : decode cX10_rates 0 = .ok (.aload_n 0, 1) := by decide +kernel
theorem dX10_rates_1 : decode cX10_rates 1 = .ok (.iload_n 1, 1) := by decide +kernel
theorem dX10_rates_2 : decode cX10_rates 2 = .ok (.invokevirtual 117, 3) := by decide +kernel
theorem dX10_rates_5 : decode cX10_rates 5 = .ok (.astore 4, 2) := by decide +kernel
theorem dX10_rates_7 : decode cX10_rates 7 = .ok (.aload 4, 2) := by decide +kernel
theorem dX10_rates_9 : decode cX10_rates 9 = .ok (.ifnull 23, 3) := by decide +kernel
theorem dX10_rates_12 : decode cX10_rates 12 = .ok (.iload_n 2, 1) := by decide +kernel
theorem dX10_rates_13 : decode cX10_rates 13 = .ok (.iconst 0, 1) := by decide +kernel
theorem dX10_rates_14 : decode cX10_rates 14 = .ok (.bipush 99, 2) := by decide +kernel
theorem dX10_rates_16 : decode cX10_rates 16 = .ok (.invokestatic 71, 3) := by decide +kernel
theorem dX10_rates_19 : decode cX10_rates 19 = .ok (.ifCond .eq 13, 3) := by decide +kernel
theorem dX10_rates_22 : decode cX10_rates 22 = .ok (.iload_n 3, 1) := by decide +kernel
theorem dX10_rates_23 : decode cX10_rates 23 = .ok (.iconst 0, 1) := by decide +kernel
theorem dX10_rates_24 : decode cX10_rates 24 = .ok (.bipush 99, 2) := by decide +kernel
theorem dX10_rates_26 : decode cX10_rates 26 = .ok (.invokestatic 71, 3) := by decide +kernel
theorem dX10_rates_29 : decode cX10_rates 29 = .ok (.ifCond .ne 5, 3) := by decide +kernel
theorem dX10_rates_32 : decode cX10_rates 32 = .ok (.iconst (-1), 1) := by decide +kernel
theorem dX10_rates_33 : decode cX10_rates 33 = .ok (.ireturn, 1) := by decide +kernel
theorem dX10_rates_34 : decode cX10_rates 34 = .ok (.aload 4, 2) := by decide +kernel
theorem dX10_rates_36 : decode cX10_rates 36 = .ok (.iload_n 2, 1) := by decide +kernel
theorem dX10_rates_37 : decode cX10_rates 37 = .ok (.putfield 336, 3) := by decide +kernel
theorem dX10_rates_40 : decode cX10_rates 40 = .ok (.aload 4, 2) := by decide +kernel
theorem dX10_rates_42 : decode cX10_rates 42 = .ok (.iload_n 3, 1) := by decide +kernel
theorem dX10_rates_43 : decode cX10_rates 43 = .ok (.putfield 339, 3) := by decide +kernel
theorem dX10_rates_46 : decode cX10_rates 46 = .ok (.iconst 1, 1) := by decide +kernel
theorem dX10_rates_47 : decode cX10_rates 47 = .ok (.ireturn, 1) := by decide +kernel
theorem dX10_foretold_0 : decode cX10_foretold 0 = .ok (.aload_n 0, 1) := by decide +kernel
theorem dX10_foretold_1 : decode cX10_foretold 1 = .ok (.iload_n 1, 1) := by decide +kernel
theorem dX10_foretold_2 : decode cX10_foretold 2 = .ok (.invokevirtual 117, 3) := by decide +kernel
theorem dX10_foretold_5 : decode cX10_foretold 5 = .ok (.astore_n 2, 1) := by decide +kernel
theorem dX10_foretold_6 : decode cX10_foretold 6 = .ok (.aload_n 2, 1) := by decide +kernel
theorem dX10_foretold_7 : decode cX10_foretold 7 = .ok (.ifnonnull 5, 3) := by decide +kernel
theorem dX10_foretold_10 : decode cX10_foretold 10 = .ok (.iconst (-1), 1) := by decide +kernel
theorem dX10_foretold_11 : decode cX10_foretold 11 = .ok (.ireturn, 1) := by decide +kernel
theorem dX10_foretold_12 : decode cX10_foretold 12 = .ok (.aload_n 0, 1) := by decide +kernel
theorem dX10_foretold_13 : decode cX10_foretold 13 = .ok (.invokevirtual 207, 3) := by decide +kernel
theorem dX10_foretold_16 : decode cX10_foretold 16 = .ok (.istore_n 3, 1) := by decide +kernel
theorem dX10_foretold_17 : decode cX10_foretold 17 = .ok (.iload_n 3, 1) := by decide +kernel
theorem dX10_foretold_18 : decode cX10_foretold 18 = .ok (.ifCond .le 12, 3) := by decide +kernel
theorem dX10_foretold_21 : decode cX10_foretold 21 = .ok (.aload_n 2, 1) := by decide +kernel
theorem dX10_foretold_22 : decode cX10_foretold 22 = .ok (.getfield 342, 3) := by decide +kernel
theorem dX10_foretold_25 : decode cX10_foretold 25 = .ok (.iload_n 3, 1) := by decide +kernel
theorem dX10_foretold_26 : decode cX10_foretold 26 = .ok (.idiv, 1) := by decide +kernel
theorem dX10_foretold_27 : decode cX10_foretold 27 = .ok (.goto 4, 3) := by decide +kernel
theorem dX10_foretold_30 : decode cX10_foretold 30 = .ok (.iconst 0, 1) := by decide +kernel
theorem dX10_foretold_31 : decode cX10_foretold 31 = .ok (.istore 4, 2) := by decide +kernel
theorem dX10_foretold_33 : decode cX10_foretold 33 = .ok (.aload_n 2, 1) := by decide +kernel
theorem dX10_foretold_34 : decode cX10_foretold 34 = .ok (.getfield 339, 3) := by decide +kernel
theorem dX10_foretold_37 : decode cX10_foretold 37 = .ok (.aload_n 0, 1) := by decide +kernel
theorem dX10_foretold_38 : decode cX10_foretold 38 = .ok (.aload_n 2, 1) := by decide +kernel
theorem dX10_foretold_39 : decode cX10_foretold 39 = .ok (.invokevirtual 345, 3) := by decide +kernel
theorem dX10_foretold_42 : decode cX10_foretold 42 = .ok (.imul, 1) := by decide +kernel
theorem dX10_foretold_43 : decode cX10_foretold 43 = .ok (.istore 5, 2) := by decide +kernel
theorem dX10_foretold_45 : decode cX10_foretold 45 = .ok (.aload_n 2, 1) := by decide +kernel
theorem dX10_foretold_46 : decode cX10_foretold 46 = .ok (.getfield 349, 3) := by decide +kernel
theorem dX10_foretold_49 : decode cX10_foretold 49 = .ok (.i2l, 1) := by decide +kernel
theorem dX10_foretold_50 : decode cX10_foretold 50 = .ok (.lstore 6, 2) := by decide +kernel
theorem dX10_foretold_52 : decode cX10_foretold 52 = .ok (.iload_n 3, 1) := by decide +kernel
theorem dX10_foretold_53 : decode cX10_foretold 53 = .ok (.iconst 1, 1) := by decide +kernel
theorem dX10_foretold_54 : decode cX10_foretold 54 = .ok (.iadd, 1) := by decide +kernel
theorem dX10_foretold_55 : decode cX10_foretold 55 = .ok (.istore 8, 2) := by decide +kernel
theorem dX10_foretold_57 : decode cX10_foretold 57 = .ok (.iload 8, 2) := by decide +kernel
theorem dX10_foretold_59 : decode cX10_foretold 59 = .ok (.iload_n 3, 1) := by decide +kernel
theorem dX10_foretold_60 : decode cX10_foretold 60 = .ok (.sipush 400, 3) := by decide +kernel
theorem dX10_foretold_63 : decode cX10_foretold 63 = .ok (.iadd, 1) := by decide +kernel
theorem dX10_foretold_64 : decode cX10_foretold 64 = .ok (.if_icmp .gt 48, 3) := by decide +kernel
theorem dX10_foretold_67 : decode cX10_foretold 67 = .ok (.lload 6, 2) := by decide +kernel
theorem dX10_foretold_69 : decode cX10_foretold 69 = .ok (.iload 4, 2) := by decide +kernel
theorem dX10_foretold_71 : decode cX10_foretold 71 = .ok (.i2l, 1) := by decide +kernel
theorem dX10_foretold_72 : decode cX10_foretold 72 = .ok (.ladd, 1) := by decide +kernel
theorem dX10_foretold_73 : decode cX10_foretold 73 = .ok (.aload_n 2, 1) := by decide +kernel
theorem dX10_foretold_74 : decode cX10_foretold 74 = .ok (.getfield 336, 3) := by decide +kernel
theorem dX10_foretold_77 : decode cX10_foretold 77 = .ok (.aload_n 0, 1) := by decide +kernel
theorem dX10_foretold_78 : decode cX10_foretold 78 = .ok (.iload 8, 2) := by decide +kernel
theorem dX10_foretold_80 : decode cX10_foretold 80 = .ok (.sipush 600, 3) := by decide +kernel
theorem dX10_foretold_83 : decode cX10_foretold 83 = .ok (.imul, 1) := by decide +kernel
theorem dX10_foretold_84 : decode cX10_foretold 84 = .ok (.invokevirtual 350, 3) := by decide +kernel
theorem dX10_foretold_87 : decode cX10_foretold 87 = .ok (.imul, 1) := by decide +kernel
theorem dX10_foretold_88 : decode cX10_foretold 88 = .ok (.i2l, 1) := by decide +kernel
theorem dX10_foretold_89 : decode cX10_foretold 89 = .ok (.lsub, 1) := by decide +kernel
theorem dX10_foretold_90 : decode cX10_foretold 90 = .ok (.iload 5, 2) := by decide +kernel
theorem dX10_foretold_92 : decode cX10_foretold 92 = .ok (.i2l, 1) := by decide +kernel
theorem dX10_foretold_93 : decode cX10_foretold 93 = .ok (.lsub, 1) := by decide +kernel
theorem dX10_foretold_94 : decode cX10_foretold 94 = .ok (.lstore 6, 2) := by decide +kernel
theorem dX10_foretold_96 : decode cX10_foretold 96 = .ok (.lload 6, 2) := by decide +kernel
theorem dX10_foretold_98 : decode cX10_foretold 98 = .ok (.lconst 0, 1) := by decide +kernel
theorem dX10_foretold_99 : decode cX10_foretold 99 = .ok (.lcmp, 1) := by decide +kernel
theorem dX10_foretold_100 : decode cX10_foretold 100 = .ok (.ifCond .ge 6, 3) := by decide +kernel
theorem dX10_foretold_103 : decode cX10_foretold 103 = .ok (.iload 8, 2) := by decide +kernel
theorem dX10_foretold_105 : decode cX10_foretold 105 = .ok (.ireturn, 1) := by decide +kernel
theorem dX10_foretold_106 : decode cX10_foretold 106 = .ok (.iinc 8 1, 3) := by decide +kernel
theorem dX10_foretold_109 : decode cX10_foretold 109 = .ok (.goto (-52), 3) := by decide +kernel
theorem dX10_foretold_112 : decode cX10_foretold 112 = .ok (.bipush (-2), 2) := by decide +kernel
theorem dX10_foretold_114 : decode cX10_foretold 114 = .ok (.ireturn, 1) := by decide +kernel
theorem dX10_fund_0 : decode cX10_fund 0 = .ok (.aload_n 0, 1) := by decide +kernel
theorem dX10_fund_1 : decode cX10_fund 1 = .ok (.iload_n 1, 1) := by decide +kernel
theorem dX10_fund_2 : decode cX10_fund 2 = .ok (.invokevirtual 117, 3) := by decide +kernel
theorem dX10_fund_5 : decode cX10_fund 5 = .ok (.astore_n 3, 1) := by decide +kernel
theorem dX10_fund_6 : decode cX10_fund 6 = .ok (.aload_n 3, 1) := by decide +kernel
theorem dX10_fund_7 : decode cX10_fund 7 = .ok (.ifnonnull 5, 3) := by decide +kernel
theorem dX10_fund_10 : decode cX10_fund 10 = .ok (.iconst (-1), 1) := by decide +kernel
theorem dX10_fund_11 : decode cX10_fund 11 = .ok (.ireturn, 1) := by decide +kernel
theorem dX10_fund_12 : decode cX10_fund 12 = .ok (.iload_n 2, 1) := by decide +kernel
theorem dX10_fund_13 : decode cX10_fund 13 = .ok (.tableswitch 42 0 2 #[27, 32, 37], 27) := by decide +kernel
theorem dX10_fund_40 : decode cX10_fund 40 = .ok (.aload_n 3, 1) := by decide +kernel
theorem dX10_fund_41 : decode cX10_fund 41 = .ok (.getfield 349, 3) := by decide +kernel
theorem dX10_fund_44 : decode cX10_fund 44 = .ok (.ireturn, 1) := by decide +kernel
theorem dX10_fund_45 : decode cX10_fund 45 = .ok (.aload_n 3, 1) := by decide +kernel
theorem dX10_fund_46 : decode cX10_fund 46 = .ok (.getfield 353, 3) := by decide +kernel
theorem dX10_fund_49 : decode cX10_fund 49 = .ok (.ireturn, 1) := by decide +kernel
theorem dX10_fund_50 : decode cX10_fund 50 = .ok (.aload_n 3, 1) := by decide +kernel
theorem dX10_fund_51 : decode cX10_fund 51 = .ok (.getfield 356, 3) := by decide +kernel
theorem dX10_fund_54 : decode cX10_fund 54 = .ok (.ireturn, 1) := by decide +kernel
theorem dX10_fund_55 : decode cX10_fund 55 = .ok (.iconst (-1), 1) := by decide +kernel
theorem dX10_fund_56 : decode cX10_fund 56 = .ok (.ireturn, 1) := by decide +kernel
theorem dX10_count_0 : decode cX10_count 0 = .ok (.iload_n 1, 1) := by decide +kernel
theorem dX10_count_1 : decode cX10_count 1 = .ok (.tableswitch 142 0 11 #[63, 71, 79, 87, 95, 100, 106, 112, 118, 124, 132, 137], 63) := by decide +kernel
theorem dX10_count_64 : decode cX10_count 64 = .ok (.aload_n 0, 1) := by decide +kernel
theorem dX10_count_65 : decode cX10_count 65 = .ok (.getfield 10, 3) := by decide +kernel
theorem dX10_count_68 : decode cX10_count 68 = .ok (.invokevirtual 75, 3) := by decide +kernel
theorem dX10_count_71 : decode cX10_count 71 = .ok (.ireturn, 1) := by decide +kernel
theorem dX10_count_72 : decode cX10_count 72 = .ok (.aload_n 0, 1) := by decide +kernel
theorem dX10_count_73 : decode cX10_count 73 = .ok (.getfield 16, 3) := by decide +kernel
theorem dX10_count_76 : decode cX10_count 76 = .ok (.invokevirtual 75, 3) := by decide +kernel
theorem dX10_count_79 : decode cX10_count 79 = .ok (.ireturn, 1) := by decide +kernel
theorem dX10_count_80 : decode cX10_count 80 = .ok (.aload_n 0, 1) := by decide +kernel
theorem dX10_count_81 : decode cX10_count 81 = .ok (.getfield 19, 3) := by decide +kernel
theorem dX10_count_84 : decode cX10_count 84 = .ok (.invokevirtual 75, 3) := by decide +kernel
theorem dX10_count_87 : decode cX10_count 87 = .ok (.ireturn, 1) := by decide +kernel
theorem dX10_count_88 : decode cX10_count 88 = .ok (.aload_n 0, 1) := by decide +kernel
theorem dX10_count_89 : decode cX10_count 89 = .ok (.getfield 22, 3) := by decide +kernel
theorem dX10_count_92 : decode cX10_count 92 = .ok (.invokevirtual 75, 3) := by decide +kernel
theorem dX10_count_95 : decode cX10_count 95 = .ok (.ireturn, 1) := by decide +kernel
theorem dX10_count_96 : decode cX10_count 96 = .ok (.aload_n 0, 1) := by decide +kernel
theorem dX10_count_97 : decode cX10_count 97 = .ok (.getfield 95, 3) := by decide +kernel
theorem dX10_count_100 : decode cX10_count 100 = .ok (.ireturn, 1) := by decide +kernel
theorem dX10_count_101 : decode cX10_count 101 = .ok (.aload_n 0, 1) := by decide +kernel
theorem dX10_count_102 : decode cX10_count 102 = .ok (.iconst 0, 1) := by decide +kernel
theorem dX10_count_103 : decode cX10_count 103 = .ok (.invokevirtual 359, 3) := by decide +kernel
theorem dX10_count_106 : decode cX10_count 106 = .ok (.ireturn, 1) := by decide +kernel
theorem dX10_count_107 : decode cX10_count 107 = .ok (.aload_n 0, 1) := by decide +kernel
theorem dX10_count_108 : decode cX10_count 108 = .ok (.iconst 1, 1) := by decide +kernel
theorem dX10_count_109 : decode cX10_count 109 = .ok (.invokevirtual 359, 3) := by decide +kernel
theorem dX10_count_112 : decode cX10_count 112 = .ok (.ireturn, 1) := by decide +kernel
theorem dX10_count_113 : decode cX10_count 113 = .ok (.aload_n 0, 1) := by decide +kernel
theorem dX10_count_114 : decode cX10_count 114 = .ok (.iconst 2, 1) := by decide +kernel
theorem dX10_count_115 : decode cX10_count 115 = .ok (.invokevirtual 359, 3) := by decide +kernel
theorem dX10_count_118 : decode cX10_count 118 = .ok (.ireturn, 1) := by decide +kernel
theorem dX10_count_119 : decode cX10_count 119 = .ok (.aload_n 0, 1) := by decide +kernel
theorem dX10_count_120 : decode cX10_count 120 = .ok (.iconst 3, 1) := by decide +kernel
theorem dX10_count_121 : decode cX10_count 121 = .ok (.invokevirtual 359, 3) := by decide +kernel
theorem dX10_count_124 : decode cX10_count 124 = .ok (.ireturn, 1) := by decide +kernel
theorem dX10_count_125 : decode cX10_count 125 = .ok (.aload_n 0, 1) := by decide +kernel
theorem dX10_count_126 : decode cX10_count 126 = .ok (.getfield 47, 3) := by decide +kernel
theorem dX10_count_129 : decode cX10_count 129 = .ok (.getfield 189, 3) := by decide +kernel
theorem dX10_count_132 : decode cX10_count 132 = .ok (.ireturn, 1) := by decide +kernel
theorem dX10_count_133 : decode cX10_count 133 = .ok (.aload_n 0, 1) := by decide +kernel
theorem dX10_count_134 : decode cX10_count 134 = .ok (.invokevirtual 362, 3) := by decide +kernel
theorem dX10_count_137 : decode cX10_count 137 = .ok (.ireturn, 1) := by decide +kernel
theorem dX10_count_138 : decode cX10_count 138 = .ok (.aload_n 0, 1) := by decide +kernel
theorem dX10_count_139 : decode cX10_count 139 = .ok (.invokevirtual 365, 3) := by decide +kernel
theorem dX10_count_142 : decode cX10_count 142 = .ok (.ireturn, 1) := by decide +kernel
theorem dX10_count_143 : decode cX10_count 143 = .ok (.iconst (-1), 1) := by decide +kernel
theorem dX10_count_144 : decode cX10_count 144 = .ok (.ireturn, 1) := by decide +kernel
theorem dX10_within_0 : decode cX10_within 0 = .ok (.iload_n 0, 1) := by decide +kernel
theorem dX10_within_1 : decode cX10_within 1 = .ok (.iload_n 1, 1) := by decide +kernel
theorem dX10_within_2 : decode cX10_within 2 = .ok (.if_icmp .lt 12, 3) := by decide +kernel
theorem dX10_within_5 : decode cX10_within 5 = .ok (.iload_n 0, 1) := by decide +kernel
theorem dX10_within_6 : decode cX10_within 6 = .ok (.iload_n 2, 1) := by decide +kernel
theorem dX10_within_7 : decode cX10_within 7 = .ok (.if_icmp .gt 7, 3) := by decide +kernel
theorem dX10_within_10 : decode cX10_within 10 = .ok (.iconst 1, 1) := by decide +kernel
theorem dX10_within_11 : decode cX10_within 11 = .ok (.goto 4, 3) := by decide +kernel
theorem dX10_within_14 : decode cX10_within 14 = .ok (.iconst 0, 1) := by decide +kernel
theorem dX10_within_15 : decode cX10_within 15 = .ok (.ireturn, 1) := by decide +kernel
theorem dX10_isUse_0 : decode cX10_isUse 0 = .ok (.iload_n 0, 1) := by decide +kernel
theorem dX10_isUse_1 : decode cX10_isUse 1 = .ok (.iconst 0, 1) := by decide +kernel
theorem dX10_isUse_2 : decode cX10_isUse 2 = .ok (.iconst 4, 1) := by decide +kernel
theorem dX10_isUse_3 : decode cX10_isUse 3 = .ok (.invokestatic 71, 3) := by decide +kernel
theorem dX10_isUse_6 : decode cX10_isUse 6 = .ok (.ireturn, 1) := by decide +kernel
theorem dX10_isDay_0 : decode cX10_isDay 0 = .ok (.iload_n 0, 1) := by decide +kernel
theorem dX10_isDay_1 : decode cX10_isDay 1 = .ok (.iconst 0, 1) := by decide +kernel
theorem dX10_isDay_2 : decode cX10_isDay 2 = .ok (.sipush 166, 3) := by decide +kernel
theorem dX10_isDay_5 : decode cX10_isDay 5 = .ok (.invokestatic 71, 3) := by decide +kernel
theorem dX10_isDay_8 : decode cX10_isDay 8 = .ok (.ireturn, 1) := by decide +kernel
theorem dX10_today_0 : decode cX10_today 0 = .ok (.aload_n 0, 1) := by decide +kernel
theorem dX10_today_1 : decode cX10_today 1 = .ok (.getfield 95, 3) := by decide +kernel
theorem dX10_today_4 : decode cX10_today 4 = .ok (.sipush 600, 3) := by decide +kernel
theorem dX10_today_7 : decode cX10_today 7 = .ok (.idiv, 1) := by decide +kernel
theorem dX10_today_8 : decode cX10_today 8 = .ok (.ireturn, 1) := by decide +kernel
theorem dX10_placeAt_0 : decode cX10_placeAt 0 = .ok (.iload_n 1, 1) := by decide +kernel
theorem dX10_placeAt_1 : decode cX10_placeAt 1 = .ok (.ifCond .lt 28, 3) := by decide +kernel
theorem dX10_placeAt_4 : decode cX10_placeAt 4 = .ok (.iload_n 1, 1) := by decide +kernel
theorem dX10_placeAt_5 : decode cX10_placeAt 5 = .ok (.aload_n 0, 1) := by decide +kernel
theorem dX10_placeAt_6 : decode cX10_placeAt 6 = .ok (.getfield 10, 3) := by decide +kernel
theorem dX10_placeAt_9 : decode cX10_placeAt 9 = .ok (.invokevirtual 75, 3) := by decide +kernel
theorem dX10_placeAt_12 : decode cX10_placeAt 12 = .ok (.if_icmp .ge 17, 3) := by decide +kernel
theorem dX10_placeAt_15 : decode cX10_placeAt 15 = .ok (.aload_n 0, 1) := by decide +kernel
theorem dX10_placeAt_16 : decode cX10_placeAt 16 = .ok (.getfield 10, 3) := by decide +kernel
theorem dX10_placeAt_19 : decode cX10_placeAt 19 = .ok (.iload_n 1, 1) := by decide +kernel
theorem dX10_placeAt_20 : decode cX10_placeAt 20 = .ok (.invokevirtual 176, 3) := by decide +kernel
theorem dX10_placeAt_23 : decode cX10_placeAt 23 = .ok (.checkcast 79, 3) := by decide +kernel
theorem dX10_placeAt_26 : decode cX10_placeAt 26 = .ok (.goto 4, 3) := by decide +kernel
theorem dX10_placeAt_29 : decode cX10_placeAt 29 = .ok (.aconst_null, 1) := by decide +kernel
theorem dX10_placeAt_30 : decode cX10_placeAt 30 = .ok (.areturn, 1) := by decide +kernel
theorem dX10_manAt_0 : decode cX10_manAt 0 = .ok (.iload_n 1, 1) := by decide +kernel
theorem dX10_manAt_1 : decode cX10_manAt 1 = .ok (.ifCond .lt 28, 3) := by decide +kernel
theorem dX10_manAt_4 : decode cX10_manAt 4 = .ok (.iload_n 1, 1) := by decide +kernel
theorem dX10_manAt_5 : decode cX10_manAt 5 = .ok (.aload_n 0, 1) := by decide +kernel
theorem dX10_manAt_6 : decode cX10_manAt 6 = .ok (.getfield 16, 3) := by decide +kernel
theorem dX10_manAt_9 : decode cX10_manAt 9 = .ok (.invokevirtual 75, 3) := by decide +kernel
theorem dX10_manAt_12 : decode cX10_manAt 12 = .ok (.if_icmp .ge 17, 3) := by decide +kernel
theorem dX10_manAt_15 : decode cX10_manAt 15 = .ok (.aload_n 0, 1) := by decide +kernel
theorem dX10_manAt_16 : decode cX10_manAt 16 = .ok (.getfield 16, 3) := by decide +kernel
theorem dX10_manAt_19 : decode cX10_manAt 19 = .ok (.iload_n 1, 1) := by decide +kernel
theorem dX10_manAt_20 : decode cX10_manAt 20 = .ok (.invokevirtual 176, 3) := by decide +kernel
theorem dX10_manAt_23 : decode cX10_manAt 23 = .ok (.checkcast 121, 3) := by decide +kernel
theorem dX10_manAt_26 : decode cX10_manAt 26 = .ok (.goto 4, 3) := by decide +kernel
theorem dX10_manAt_29 : decode cX10_manAt 29 = .ok (.aconst_null, 1) := by decide +kernel
theorem dX10_manAt_30 : decode cX10_manAt 30 = .ok (.areturn, 1) := by decide +kernel
theorem dX10_loadAt_0 : decode cX10_loadAt 0 = .ok (.iload_n 1, 1) := by decide +kernel
theorem dX10_loadAt_1 : decode cX10_loadAt 1 = .ok (.ifCond .lt 28, 3) := by decide +kernel
theorem dX10_loadAt_4 : decode cX10_loadAt 4 = .ok (.iload_n 1, 1) := by decide +kernel
theorem dX10_loadAt_5 : decode cX10_loadAt 5 = .ok (.aload_n 0, 1) := by decide +kernel
theorem dX10_loadAt_6 : decode cX10_loadAt 6 = .ok (.getfield 19, 3) := by decide +kernel
theorem dX10_loadAt_9 : decode cX10_loadAt 9 = .ok (.invokevirtual 75, 3) := by decide +kernel
theorem dX10_loadAt_12 : decode cX10_loadAt 12 = .ok (.if_icmp .ge 17, 3) := by decide +kernel
theorem dX10_loadAt_15 : decode cX10_loadAt 15 = .ok (.aload_n 0, 1) := by decide +kernel
theorem dX10_loadAt_16 : decode cX10_loadAt 16 = .ok (.getfield 19, 3) := by decide +kernel
theorem dX10_loadAt_19 : decode cX10_loadAt 19 = .ok (.iload_n 1, 1) := by decide +kernel
theorem dX10_loadAt_20 : decode cX10_loadAt 20 = .ok (.invokevirtual 176, 3) := by decide +kernel
theorem dX10_loadAt_23 : decode cX10_loadAt 23 = .ok (.checkcast 233, 3) := by decide +kernel
theorem dX10_loadAt_26 : decode cX10_loadAt 26 = .ok (.goto 4, 3) := by decide +kernel
theorem dX10_loadAt_29 : decode cX10_loadAt 29 = .ok (.aconst_null, 1) := by decide +kernel
theorem dX10_loadAt_30 : decode cX10_loadAt 30 = .ok (.areturn, 1) := by decide +kernel
theorem dX10_fellowshipAt_0 : decode cX10_fellowshipAt 0 = .ok (.iload_n 1, 1) := by decide +kernel
theorem dX10_fellowshipAt_1 : decode cX10_fellowshipAt 1 = .ok (.ifCond .lt 28, 3) := by decide +kernel
theorem dX10_fellowshipAt_4 : decode cX10_fellowshipAt 4 = .ok (.iload_n 1, 1) := by decide +kernel
theorem dX10_fellowshipAt_5 : decode cX10_fellowshipAt 5 = .ok (.aload_n 0, 1) := by decide +kernel
theorem dX10_fellowshipAt_6 : decode cX10_fellowshipAt 6 = .ok (.getfield 25, 3) := by decide +kernel
theorem dX10_fellowshipAt_9 : decode cX10_fellowshipAt 9 = .ok (.invokevirtual 75, 3) := by decide +kernel
theorem dX10_fellowshipAt_12 : decode cX10_fellowshipAt 12 = .ok (.if_icmp .ge 17, 3) := by decide +kernel
theorem dX10_fellowshipAt_15 : decode cX10_fellowshipAt 15 = .ok (.aload_n 0, 1) := by decide +kernel
theorem dX10_fellowshipAt_16 : decode cX10_fellowshipAt 16 = .ok (.getfield 25, 3) := by decide +kernel
theorem dX10_fellowshipAt_19 : decode cX10_fellowshipAt 19 = .ok (.iload_n 1, 1) := by decide +kernel
theorem dX10_fellowshipAt_20 : decode cX10_fellowshipAt 20 = .ok (.invokevirtual 176, 3) := by decide +kernel
theorem dX10_fellowshipAt_23 : decode cX10_fellowshipAt 23 = .ok (.checkcast 28, 3) := by decide +kernel
theorem dX10_fellowshipAt_26 : decode cX10_fellowshipAt 26 = .ok (.goto 4, 3) := by decide +kernel
theorem dX10_fellowshipAt_29 : decode cX10_fellowshipAt 29 = .ok (.aconst_null, 1) := by decide +kernel
theorem dX10_fellowshipAt_30 : decode cX10_fellowshipAt 30 = .ok (.areturn, 1) := by decide +kernel
theorem dX10_fellowshipOf_0 : decode cX10_fellowshipOf 0 = .ok (.aload_n 1, 1) := by decide +kernel
theorem dX10_fellowshipOf_1 : decode cX10_fellowshipOf 1 = .ok (.ifnonnull 7, 3) := by decide +kernel
theorem dX10_fellowshipOf_4 : decode cX10_fellowshipOf 4 = .ok (.aconst_null, 1) := by decide +kernel
theorem dX10_fellowshipOf_5 : decode cX10_fellowshipOf 5 = .ok (.goto 11, 3) := by decide +kernel
theorem dX10_fellowshipOf_8 : decode cX10_fellowshipOf 8 = .ok (.aload_n 0, 1) := by decide +kernel
theorem dX10_fellowshipOf_9 : decode cX10_fellowshipOf 9 = .ok (.aload_n 1, 1) := by decide +kernel
theorem dX10_fellowshipOf_10 : decode cX10_fellowshipOf 10 = .ok (.getfield 152, 3) := by decide +kernel
theorem dX10_fellowshipOf_13 : decode cX10_fellowshipOf 13 = .ok (.invokevirtual 117, 3) := by decide +kernel
theorem dX10_fellowshipOf_16 : decode cX10_fellowshipOf 16 = .ok (.areturn, 1) := by decide +kernel
theorem dX10_wayMinutes_0 : decode cX10_wayMinutes 0 = .ok (.aload_n 1, 1) := by decide +kernel
theorem dX10_wayMinutes_1 : decode cX10_wayMinutes 1 = .ok (.aload_n 2, 1) := by decide +kernel
theorem dX10_wayMinutes_2 : decode cX10_wayMinutes 2 = .ok (.invokevirtual 106, 3) := by decide +kernel
theorem dX10_wayMinutes_5 : decode cX10_wayMinutes 5 = .ok (.iconst 2, 1) := by decide +kernel
theorem dX10_wayMinutes_6 : decode cX10_wayMinutes 6 = .ok (.aload_n 1, 1) := by decide +kernel
theorem dX10_wayMinutes_7 : decode cX10_wayMinutes 7 = .ok (.aload_n 2, 1) := by decide +kernel
theorem dX10_wayMinutes_8 : decode cX10_wayMinutes 8 = .ok (.invokevirtual 110, 3) := by decide +kernel
theorem dX10_wayMinutes_11 : decode cX10_wayMinutes 11 = .ok (.imul, 1) := by decide +kernel
theorem dX10_wayMinutes_12 : decode cX10_wayMinutes 12 = .ok (.iadd, 1) := by decide +kernel
theorem dX10_wayMinutes_13 : decode cX10_wayMinutes 13 = .ok (.iconst 5, 1) := by decide +kernel
theorem dX10_wayMinutes_14 : decode cX10_wayMinutes 14 = .ok (.iadd, 1) := by decide +kernel
theorem dX10_wayMinutes_15 : decode cX10_wayMinutes 15 = .ok (.istore_n 3, 1) := by decide +kernel
theorem dX10_wayMinutes_16 : decode cX10_wayMinutes 16 = .ok (.aload_n 0, 1) := by decide +kernel
theorem dX10_wayMinutes_17 : decode cX10_wayMinutes 17 = .ok (.getfield 40, 3) := by decide +kernel
theorem dX10_wayMinutes_20 : decode cX10_wayMinutes 20 = .ok (.aload_n 0, 1) := by decide +kernel
theorem dX10_wayMinutes_21 : decode cX10_wayMinutes 21 = .ok (.getfield 95, 3) := by decide +kernel
theorem dX10_wayMinutes_24 : decode cX10_wayMinutes 24 = .ok (.invokevirtual 317, 3) := by decide +kernel
theorem dX10_wayMinutes_27 : decode cX10_wayMinutes 27 = .ok (.ifCond .eq 11, 3) := by decide +kernel
theorem dX10_wayMinutes_30 : decode cX10_wayMinutes 30 = .ok (.iload_n 3, 1) := by decide +kernel
theorem dX10_wayMinutes_31 : decode cX10_wayMinutes 31 = .ok (.iload_n 3, 1) := by decide +kernel
theorem dX10_wayMinutes_32 : decode cX10_wayMinutes 32 = .ok (.iconst 2, 1) := by decide +kernel
theorem dX10_wayMinutes_33 : decode cX10_wayMinutes 33 = .ok (.idiv, 1) := by decide +kernel
theorem dX10_wayMinutes_34 : decode cX10_wayMinutes 34 = .ok (.iadd, 1) := by decide +kernel
theorem dX10_wayMinutes_35 : decode cX10_wayMinutes 35 = .ok (.goto 4, 3) := by decide +kernel
theorem dX10_wayMinutes_38 : decode cX10_wayMinutes 38 = .ok (.iload_n 3, 1) := by decide +kernel
theorem dX10_wayMinutes_39 : decode cX10_wayMinutes 39 = .ok (.ireturn, 1) := by decide +kernel
theorem dX10_lawKnown_0 : decode cX10_lawKnown 0 = .ok (.aload_n 0, 1) := by decide +kernel
theorem dX10_lawKnown_1 : decode cX10_lawKnown 1 = .ok (.getfield 22, 3) := by decide +kernel
theorem dX10_lawKnown_4 : decode cX10_lawKnown 4 = .ok (.invokevirtual 75, 3) := by decide +kernel
theorem dX10_lawKnown_7 : decode cX10_lawKnown 7 = .ok (.iconst 1, 1) := by decide +kernel
theorem dX10_lawKnown_8 : decode cX10_lawKnown 8 = .ok (.isub, 1) := by decide +kernel
theorem dX10_lawKnown_9 : decode cX10_lawKnown 9 = .ok (.istore 5, 2) := by decide +kernel
theorem dX10_lawKnown_11 : decode cX10_lawKnown 11 = .ok (.iload 5, 2) := by decide +kernel
theorem dX10_lawKnown_13 : decode cX10_lawKnown 13 = .ok (.ifCond .lt 63, 3) := by decide +kernel
theorem dX10_lawKnown_16 : decode cX10_lawKnown 16 = .ok (.aload_n 0, 1) := by decide +kernel
theorem dX10_lawKnown_17 : decode cX10_lawKnown 17 = .ok (.getfield 22, 3) := by decide +kernel
theorem dX10_lawKnown_20 : decode cX10_lawKnown 20 = .ok (.iload 5, 2) := by decide +kernel
theorem dX10_lawKnown_22 : decode cX10_lawKnown 22 = .ok (.invokevirtual 176, 3) := by decide +kernel
theorem dX10_lawKnown_25 : decode cX10_lawKnown 25 = .ok (.checkcast 205, 3) := by decide +kernel
theorem dX10_lawKnown_28 : decode cX10_lawKnown 28 = .ok (.astore 6, 2) := by decide +kernel
theorem dX10_lawKnown_30 : decode cX10_lawKnown 30 = .ok (.aload 6, 2) := by decide +kernel
theorem dX10_lawKnown_32 : decode cX10_lawKnown 32 = .ok (.getfield 368, 3) := by decide +kernel
theorem dX10_lawKnown_35 : decode cX10_lawKnown 35 = .ok (.iload_n 1, 1) := by decide +kernel
theorem dX10_lawKnown_36 : decode cX10_lawKnown 36 = .ok (.if_icmp .ne 34, 3) := by decide +kernel
theorem dX10_lawKnown_39 : decode cX10_lawKnown 39 = .ok (.aload 6, 2) := by decide +kernel
theorem dX10_lawKnown_41 : decode cX10_lawKnown 41 = .ok (.getfield 369, 3) := by decide +kernel
theorem dX10_lawKnown_44 : decode cX10_lawKnown 44 = .ok (.iload_n 2, 1) := by decide +kernel
theorem dX10_lawKnown_45 : decode cX10_lawKnown 45 = .ok (.if_icmp .ne 25, 3) := by decide +kernel
theorem dX10_lawKnown_48 : decode cX10_lawKnown 48 = .ok (.aload 6, 2) := by decide +kernel
theorem dX10_lawKnown_50 : decode cX10_lawKnown 50 = .ok (.getfield 372, 3) := by decide +kernel
theorem dX10_lawKnown_53 : decode cX10_lawKnown 53 = .ok (.iload 4, 2) := by decide +kernel
theorem dX10_lawKnown_55 : decode cX10_lawKnown 55 = .ok (.if_icmp .gt 15, 3) := by decide +kernel
theorem dX10_lawKnown_58 : decode cX10_lawKnown 58 = .ok (.aload 6, 2) := by decide +kernel
theorem dX10_lawKnown_60 : decode cX10_lawKnown 60 = .ok (.getfield 375, 3) := by decide +kernel
theorem dX10_lawKnown_63 : decode cX10_lawKnown 63 = .ok (.iload_n 3, 1) := by decide +kernel
theorem dX10_lawKnown_64 : decode cX10_lawKnown 64 = .ok (.if_icmp .gt 6, 3) := by decide +kernel
theorem dX10_lawKnown_67 : decode cX10_lawKnown 67 = .ok (.aload 6, 2) := by decide +kernel
theorem dX10_lawKnown_69 : decode cX10_lawKnown 69 = .ok (.areturn, 1) := by decide +kernel
theorem dX10_lawKnown_70 : decode cX10_lawKnown 70 = .ok (.iinc 5 (-1), 3) := by decide +kernel
theorem dX10_lawKnown_73 : decode cX10_lawKnown 73 = .ok (.goto (-62), 3) := by decide +kernel
theorem dX10_lawKnown_76 : decode cX10_lawKnown 76 = .ok (.aconst_null, 1) := by decide +kernel
theorem dX10_lawKnown_77 : decode cX10_lawKnown 77 = .ok (.areturn, 1) := by decide +kernel
theorem dX10_saying_0 : decode cX10_saying 0 = .ok (.aload_n 0, 1) := by decide +kernel
theorem dX10_saying_1 : decode cX10_saying 1 = .ok (.iload_n 1, 1) := by decide +kernel
theorem dX10_saying_2 : decode cX10_saying 2 = .ok (.iload_n 2, 1) := by decide +kernel
theorem dX10_saying_3 : decode cX10_saying 3 = .ok (.aload_n 0, 1) := by decide +kernel
theorem dX10_saying_4 : decode cX10_saying 4 = .ok (.invokevirtual 207, 3) := by decide +kernel
theorem dX10_saying_7 : decode cX10_saying 7 = .ok (.aload_n 0, 1) := by decide +kernel
theorem dX10_saying_8 : decode cX10_saying 8 = .ok (.invokevirtual 207, 3) := by decide +kernel
theorem dX10_saying_11 : decode cX10_saying 11 = .ok (.invokevirtual 217, 3) := by decide +kernel
theorem dX10_saying_14 : decode cX10_saying 14 = .ok (.astore 5, 2) := by decide +kernel
theorem dX10_saying_16 : decode cX10_saying 16 = .ok (.aload 5, 2) := by decide +kernel
theorem dX10_saying_18 : decode cX10_saying 18 = .ok (.ifnonnull 9, 3) := by decide +kernel
theorem dX10_saying_21 : decode cX10_saying 21 = .ok (.iload_n 2, 1) := by decide +kernel
theorem dX10_saying_22 : decode cX10_saying 22 = .ok (.aload_n 3, 1) := by decide +kernel
theorem dX10_saying_23 : decode cX10_saying 23 = .ok (.invokestatic 377, 3) := by decide +kernel
theorem dX10_saying_26 : decode cX10_saying 26 = .ok (.ireturn, 1) := by decide +kernel
theorem dX10_saying_27 : decode cX10_saying 27 = .ok (.aload_n 0, 1) := by decide +kernel
theorem dX10_saying_28 : decode cX10_saying 28 = .ok (.getfield 61, 3) := by decide +kernel
theorem dX10_saying_31 : decode cX10_saying 31 = .ok (.aload_n 0, 1) := by decide +kernel
theorem dX10_saying_32 : decode cX10_saying 32 = .ok (.getfield 95, 3) := by decide +kernel
theorem dX10_saying_35 : decode cX10_saying 35 = .ok (.aload_n 0, 1) := by decide +kernel
theorem dX10_saying_36 : decode cX10_saying 36 = .ok (.getfield 40, 3) := by decide +kernel
theorem dX10_saying_39 : decode cX10_saying 39 = .ok (.aload_n 0, 1) := by decide +kernel
theorem dX10_saying_40 : decode cX10_saying 40 = .ok (.getfield 95, 3) := by decide +kernel
theorem dX10_saying_43 : decode cX10_saying 43 = .ok (.invokevirtual 317, 3) := by decide +kernel
theorem dX10_saying_46 : decode cX10_saying 46 = .ok (.invokevirtual 320, 3) := by decide +kernel
theorem dX10_saying_49 : decode cX10_saying 49 = .ok (.aload_n 0, 1) := by decide +kernel
theorem dX10_saying_50 : decode cX10_saying 50 = .ok (.getfield 61, 3) := by decide +kernel
theorem dX10_saying_53 : decode cX10_saying 53 = .ok (.aload_n 0, 1) := by decide +kernel
theorem dX10_saying_54 : decode cX10_saying 54 = .ok (.iload_n 1, 1) := by decide +kernel
theorem dX10_saying_55 : decode cX10_saying 55 = .ok (.invokevirtual 381, 3) := by decide +kernel
theorem dX10_saying_58 : decode cX10_saying 58 = .ok (.invokevirtual 384, 3) := by decide +kernel
theorem dX10_saying_61 : decode cX10_saying 61 = .ok (.aload_n 3, 1) := by decide +kernel
theorem dX10_saying_62 : decode cX10_saying 62 = .ok (.ifnull 24, 3) := by decide +kernel
theorem dX10_saying_65 : decode cX10_saying 65 = .ok (.aload_n 0, 1) := by decide +kernel
theorem dX10_saying_66 : decode cX10_saying 66 = .ok (.getfield 61, 3) := by decide +kernel
theorem dX10_saying_69 : decode cX10_saying 69 = .ok (.aload_n 3, 1) := by decide +kernel
theorem dX10_saying_70 : decode cX10_saying 70 = .ok (.iconst 0, 1) := by decide +kernel
theorem dX10_saying_71 : decode cX10_saying 71 = .ok (.aload_n 0, 1) := by decide +kernel
theorem dX10_saying_72 : decode cX10_saying 72 = .ok (.getfield 95, 3) := by decide +kernel
theorem dX10_saying_75 : decode cX10_saying 75 = .ok (.aload_n 3, 1) := by decide +kernel
theorem dX10_saying_76 : decode cX10_saying 76 = .ok (.getfield 288, 3) := by decide +kernel
theorem dX10_saying_79 : decode cX10_saying 79 = .ok (.isub, 1) := by decide +kernel
theorem dX10_saying_80 : decode cX10_saying 80 = .ok (.invokestatic 387, 3) := by decide +kernel
theorem dX10_saying_83 : decode cX10_saying 83 = .ok (.invokevirtual 324, 3) := by decide +kernel
theorem dX10_saying_86 : decode cX10_saying 86 = .ok (.aload 4, 2) := by decide +kernel
theorem dX10_saying_88 : decode cX10_saying 88 = .ok (.ifnull 12, 3) := by decide +kernel
theorem dX10_saying_91 : decode cX10_saying 91 = .ok (.aload_n 0, 1) := by decide +kernel
theorem dX10_saying_92 : decode cX10_saying 92 = .ok (.getfield 61, 3) := by decide +kernel
theorem dX10_saying_95 : decode cX10_saying 95 = .ok (.aload 4, 2) := by decide +kernel
theorem dX10_saying_97 : decode cX10_saying 97 = .ok (.invokevirtual 393, 3) := by decide +kernel
theorem dX10_saying_100 : decode cX10_saying 100 = .ok (.aload_n 0, 1) := by decide +kernel
theorem dX10_saying_101 : decode cX10_saying 101 = .ok (.getfield 61, 3) := by decide +kernel
theorem dX10_saying_104 : decode cX10_saying 104 = .ok (.aload 5, 2) := by decide +kernel
theorem dX10_saying_106 : decode cX10_saying 106 = .ok (.getfield 328, 3) := by decide +kernel
theorem dX10_saying_109 : decode cX10_saying 109 = .ok (.invokevirtual 332, 3) := by decide +kernel
theorem dX10_saying_112 : decode cX10_saying 112 = .ok (.ireturn, 1) := by decide +kernel
theorem dX10_unwritten_0 : decode cX10_unwritten 0 = .ok (.iload_n 0, 1) := by decide +kernel
theorem dX10_unwritten_1 : decode cX10_unwritten 1 = .ok (.tableswitch 48 1 4 #[31, 44, 48, 46], 31) := by decide +kernel
theorem dX10_unwritten_32 : decode cX10_unwritten 32 = .ok (.aload_n 1, 1) := by decide +kernel
theorem dX10_unwritten_33 : decode cX10_unwritten 33 = .ok (.ifnonnull 7, 3) := by decide +kernel
theorem dX10_unwritten_36 : decode cX10_unwritten 36 = .ok (.iconst 0, 1) := by decide +kernel
theorem dX10_unwritten_37 : decode cX10_unwritten 37 = .ok (.goto 7, 3) := by decide +kernel
theorem dX10_unwritten_40 : decode cX10_unwritten 40 = .ok (.aload_n 1, 1) := by decide +kernel
theorem dX10_unwritten_41 : decode cX10_unwritten 41 = .ok (.getfield 275, 3) := by decide +kernel
theorem dX10_unwritten_44 : decode cX10_unwritten 44 = .ok (.ireturn, 1) := by decide +kernel
theorem dX10_unwritten_45 : decode cX10_unwritten 45 = .ok (.iconst 1, 1) := by decide +kernel
theorem dX10_unwritten_46 : decode cX10_unwritten 46 = .ok (.ireturn, 1) := by decide +kernel
theorem dX10_unwritten_47 : decode cX10_unwritten 47 = .ok (.iconst 5, 1) := by decide +kernel
theorem dX10_unwritten_48 : decode cX10_unwritten 48 = .ok (.ireturn, 1) := by decide +kernel
theorem dX10_unwritten_49 : decode cX10_unwritten 49 = .ok (.iconst 0, 1) := by decide +kernel
theorem dX10_unwritten_50 : decode cX10_unwritten 50 = .ok (.ireturn, 1) := by decide +kernel
theorem dX10_readyMen_0 : decode cX10_readyMen 0 = .ok (.iconst 0, 1) := by decide +kernel
theorem dX10_readyMen_1 : decode cX10_readyMen 1 = .ok (.istore_n 2, 1) := by decide +kernel
theorem dX10_readyMen_2 : decode cX10_readyMen 2 = .ok (.iconst 0, 1) := by decide +kernel
theorem dX10_readyMen_3 : decode cX10_readyMen 3 = .ok (.istore_n 3, 1) := by decide +kernel
theorem dX10_readyMen_4 : decode cX10_readyMen 4 = .ok (.iload_n 3, 1) := by decide +kernel
theorem dX10_readyMen_5 : decode cX10_readyMen 5 = .ok (.aload_n 0, 1) := by decide +kernel
theorem dX10_readyMen_6 : decode cX10_readyMen 6 = .ok (.getfield 16, 3) := by decide +kernel
theorem dX10_readyMen_9 : decode cX10_readyMen 9 = .ok (.invokevirtual 75, 3) := by decide +kernel
theorem dX10_readyMen_12 : decode cX10_readyMen 12 = .ok (.if_icmp .ge 66, 3) := by decide +kernel
theorem dX10_readyMen_15 : decode cX10_readyMen 15 = .ok (.aload_n 0, 1) := by decide +kernel
theorem dX10_readyMen_16 : decode cX10_readyMen 16 = .ok (.getfield 16, 3) := by decide +kernel
theorem dX10_readyMen_19 : decode cX10_readyMen 19 = .ok (.iload_n 3, 1) := by decide +kernel
theorem dX10_readyMen_20 : decode cX10_readyMen 20 = .ok (.invokevirtual 176, 3) := by decide +kernel
theorem dX10_readyMen_23 : decode cX10_readyMen 23 = .ok (.checkcast 121, 3) := by decide +kernel
theorem dX10_readyMen_26 : decode cX10_readyMen 26 = .ok (.astore 4, 2) := by decide +kernel
theorem dX10_readyMen_28 : decode cX10_readyMen 28 = .ok (.aload 4, 2) := by decide +kernel
theorem dX10_readyMen_30 : decode cX10_readyMen 30 = .ok (.getfield 152, 3) := by decide +kernel
theorem dX10_readyMen_33 : decode cX10_readyMen 33 = .ok (.iload_n 1, 1) := by decide +kernel
theorem dX10_readyMen_34 : decode cX10_readyMen 34 = .ok (.if_icmp .ne 38, 3) := by decide +kernel
theorem dX10_readyMen_37 : decode cX10_readyMen 37 = .ok (.aload 4, 2) := by decide +kernel
theorem dX10_readyMen_39 : decode cX10_readyMen 39 = .ok (.aload_n 0, 1) := by decide +kernel
theorem dX10_readyMen_40 : decode cX10_readyMen 40 = .ok (.getfield 95, 3) := by decide +kernel
theorem dX10_readyMen_43 : decode cX10_readyMen 43 = .ok (.invokevirtual 138, 3) := by decide +kernel
theorem dX10_readyMen_46 : decode cX10_readyMen 46 = .ok (.ifCond .eq 26, 3) := by decide +kernel
theorem dX10_readyMen_49 : decode cX10_readyMen 49 = .ok (.aload 4, 2) := by decide +kernel
theorem dX10_readyMen_51 : decode cX10_readyMen 51 = .ok (.aload_n 0, 1) := by decide +kernel
theorem dX10_readyMen_52 : decode cX10_readyMen 52 = .ok (.getfield 95, 3) := by decide +kernel
theorem dX10_readyMen_55 : decode cX10_readyMen 55 = .ok (.invokevirtual 397, 3) := by decide +kernel
theorem dX10_readyMen_58 : decode cX10_readyMen 58 = .ok (.ifCond .ne 14, 3) := by decide +kernel
theorem dX10_readyMen_61 : decode cX10_readyMen 61 = .ok (.aload 4, 2) := by decide +kernel
theorem dX10_readyMen_63 : decode cX10_readyMen 63 = .ok (.getfield 142, 3) := by decide +kernel
theorem dX10_readyMen_66 : decode cX10_readyMen 66 = .ok (.ifCond .ne 6, 3) := by decide +kernel
theorem dX10_readyMen_69 : decode cX10_readyMen 69 = .ok (.iinc 2 1, 3) := by decide +kernel
theorem dX10_readyMen_72 : decode cX10_readyMen 72 = .ok (.iinc 3 1, 3) := by decide +kernel
theorem dX10_readyMen_75 : decode cX10_readyMen 75 = .ok (.goto (-71), 3) := by decide +kernel
theorem dX10_readyMen_78 : decode cX10_readyMen 78 = .ok (.iload_n 2, 1) := by decide +kernel
theorem dX10_readyMen_79 : decode cX10_readyMen 79 = .ok (.ireturn, 1) := by decide +kernel
theorem dX10_ownerOf_0 : decode cX10_ownerOf 0 = .ok (.iconst 4, 1) := by decide +kernel
theorem dX10_ownerOf_1 : decode cX10_ownerOf 1 = .ok (.istore_n 2, 1) := by decide +kernel
theorem dX10_ownerOf_2 : decode cX10_ownerOf 2 = .ok (.iconst 0, 1) := by decide +kernel
theorem dX10_ownerOf_3 : decode cX10_ownerOf 3 = .ok (.istore_n 3, 1) := by decide +kernel
theorem dX10_ownerOf_4 : decode cX10_ownerOf 4 = .ok (.iload_n 3, 1) := by decide +kernel
theorem dX10_ownerOf_5 : decode cX10_ownerOf 5 = .ok (.iconst 4, 1) := by decide +kernel
theorem dX10_ownerOf_6 : decode cX10_ownerOf 6 = .ok (.if_icmp .ge 31, 3) := by decide +kernel
theorem dX10_ownerOf_9 : decode cX10_ownerOf 9 = .ok (.aload_n 0, 1) := by decide +kernel
theorem dX10_ownerOf_10 : decode cX10_ownerOf 10 = .ok (.iload_n 3, 1) := by decide +kernel
theorem dX10_ownerOf_11 : decode cX10_ownerOf 11 = .ok (.iconst 0, 1) := by decide +kernel
theorem dX10_ownerOf_12 : decode cX10_ownerOf 12 = .ok (.aload_n 1, 1) := by decide +kernel
theorem dX10_ownerOf_13 : decode cX10_ownerOf 13 = .ok (.aconst_null, 1) := by decide +kernel
theorem dX10_ownerOf_14 : decode cX10_ownerOf 14 = .ok (.invokevirtual 227, 3) := by decide +kernel
theorem dX10_ownerOf_17 : decode cX10_ownerOf 17 = .ok (.ifCond .eq 14, 3) := by decide +kernel
theorem dX10_ownerOf_20 : decode cX10_ownerOf 20 = .ok (.iload_n 2, 1) := by decide +kernel
theorem dX10_ownerOf_21 : decode cX10_ownerOf 21 = .ok (.iconst 4, 1) := by decide +kernel
theorem dX10_ownerOf_22 : decode cX10_ownerOf 22 = .ok (.if_icmp .ne 7, 3) := by decide +kernel
theorem dX10_ownerOf_25 : decode cX10_ownerOf 25 = .ok (.iload_n 3, 1) := by decide +kernel
theorem dX10_ownerOf_26 : decode cX10_ownerOf 26 = .ok (.goto 4, 3) := by decide +kernel
theorem dX10_ownerOf_29 : decode cX10_ownerOf 29 = .ok (.iconst 5, 1) := by decide +kernel
theorem dX10_ownerOf_30 : decode cX10_ownerOf 30 = .ok (.istore_n 2, 1) := by decide +kernel
theorem dX10_ownerOf_31 : decode cX10_ownerOf 31 = .ok (.iinc 3 1, 3) := by decide +kernel
theorem dX10_ownerOf_34 : decode cX10_ownerOf 34 = .ok (.goto (-30), 3) := by decide +kernel
theorem dX10_ownerOf_37 : decode cX10_ownerOf 37 = .ok (.iload_n 2, 1) := by decide +kernel
theorem dX10_ownerOf_38 : decode cX10_ownerOf 38 = .ok (.ireturn, 1) := by decide +kernel
theorem dX10_hindrance_0 : decode cX10_hindrance 0 = .ok (.aload_n 2, 1) := by decide +kernel
theorem dX10_hindrance_1 : decode cX10_hindrance 1 = .ok (.getfield 260, 3) := by decide +kernel
theorem dX10_hindrance_4 : decode cX10_hindrance 4 = .ok (.ifCond .eq 5, 3) := by decide +kernel
theorem dX10_hindrance_7 : decode cX10_hindrance 7 = .ok (.iconst 1, 1) := by decide +kernel
theorem dX10_hindrance_8 : decode cX10_hindrance 8 = .ok (.ireturn, 1) := by decide +kernel
theorem dX10_hindrance_9 : decode cX10_hindrance 9 = .ok (.aload_n 0, 1) := by decide +kernel
theorem dX10_hindrance_10 : decode cX10_hindrance 10 = .ok (.aload_n 2, 1) := by decide +kernel
theorem dX10_hindrance_11 : decode cX10_hindrance 11 = .ok (.invokevirtual 238, 3) := by decide +kernel
theorem dX10_hindrance_14 : decode cX10_hindrance 14 = .ok (.istore_n 3, 1) := by decide +kernel
theorem dX10_hindrance_15 : decode cX10_hindrance 15 = .ok (.iload_n 3, 1) := by decide +kernel
theorem dX10_hindrance_16 : decode cX10_hindrance 16 = .ok (.iconst 5, 1) := by decide +kernel
theorem dX10_hindrance_17 : decode cX10_hindrance 17 = .ok (.if_icmp .ne 5, 3) := by decide +kernel
theorem dX10_hindrance_20 : decode cX10_hindrance 20 = .ok (.iconst 2, 1) := by decide +kernel
theorem dX10_hindrance_21 : decode cX10_hindrance 21 = .ok (.ireturn, 1) := by decide +kernel
theorem dX10_hindrance_22 : decode cX10_hindrance 22 = .ok (.iload_n 3, 1) := by decide +kernel
theorem dX10_hindrance_23 : decode cX10_hindrance 23 = .ok (.iconst 4, 1) := by decide +kernel
theorem dX10_hindrance_24 : decode cX10_hindrance 24 = .ok (.if_icmp .eq 13, 3) := by decide +kernel
theorem dX10_hindrance_27 : decode cX10_hindrance 27 = .ok (.iload_n 3, 1) := by decide +kernel
theorem dX10_hindrance_28 : decode cX10_hindrance 28 = .ok (.aload_n 1, 1) := by decide +kernel
theorem dX10_hindrance_29 : decode cX10_hindrance 29 = .ok (.getfield 400, 3) := by decide +kernel
theorem dX10_hindrance_32 : decode cX10_hindrance 32 = .ok (.if_icmp .eq 5, 3) := by decide +kernel
theorem dX10_hindrance_35 : decode cX10_hindrance 35 = .ok (.iconst 3, 1) := by decide +kernel
theorem dX10_hindrance_36 : decode cX10_hindrance 36 = .ok (.ireturn, 1) := by decide +kernel
theorem dX10_hindrance_37 : decode cX10_hindrance 37 = .ok (.aload_n 2, 1) := by decide +kernel
theorem dX10_hindrance_38 : decode cX10_hindrance 38 = .ok (.getfield 278, 3) := by decide +kernel
theorem dX10_hindrance_41 : decode cX10_hindrance 41 = .ok (.aload_n 0, 1) := by decide +kernel
theorem dX10_hindrance_42 : decode cX10_hindrance 42 = .ok (.getfield 95, 3) := by decide +kernel
theorem dX10_hindrance_45 : decode cX10_hindrance 45 = .ok (.invokevirtual 401, 3) := by decide +kernel
theorem dX10_hindrance_48 : decode cX10_hindrance 48 = .ok (.ifCond .eq 5, 3) := by decide +kernel
theorem dX10_hindrance_51 : decode cX10_hindrance 51 = .ok (.iconst 4, 1) := by decide +kernel
theorem dX10_hindrance_52 : decode cX10_hindrance 52 = .ok (.ireturn, 1) := by decide +kernel
theorem dX10_hindrance_53 : decode cX10_hindrance 53 = .ok (.aload_n 2, 1) := by decide +kernel
theorem dX10_hindrance_54 : decode cX10_hindrance 54 = .ok (.getfield 272, 3) := by decide +kernel
theorem dX10_hindrance_57 : decode cX10_hindrance 57 = .ok (.ifCond .ne 21, 3) := by decide +kernel
theorem dX10_hindrance_60 : decode cX10_hindrance 60 = .ok (.aload_n 0, 1) := by decide +kernel
theorem dX10_hindrance_61 : decode cX10_hindrance 61 = .ok (.getfield 40, 3) := by decide +kernel
theorem dX10_hindrance_64 : decode cX10_hindrance 64 = .ok (.aload_n 0, 1) := by decide +kernel
theorem dX10_hindrance_65 : decode cX10_hindrance 65 = .ok (.getfield 95, 3) := by decide +kernel
theorem dX10_hindrance_68 : decode cX10_hindrance 68 = .ok (.invokevirtual 317, 3) := by decide +kernel
theorem dX10_hindrance_71 : decode cX10_hindrance 71 = .ok (.ifCond .eq 7, 3) := by decide +kernel
theorem dX10_hindrance_74 : decode cX10_hindrance 74 = .ok (.iconst 5, 1) := by decide +kernel
theorem dX10_hindrance_75 : decode cX10_hindrance 75 = .ok (.goto 4, 3) := by decide +kernel
theorem dX10_hindrance_78 : decode cX10_hindrance 78 = .ok (.iconst 0, 1) := by decide +kernel
theorem dX10_hindrance_79 : decode cX10_hindrance 79 = .ok (.ireturn, 1) := by decide +kernel
theorem dX10_chooseGang_0 : decode cX10_chooseGang 0 = .ok (.iconst 1, 1) := by decide +kernel
theorem dX10_chooseGang_1 : decode cX10_chooseGang 1 = .ok (.bipush 8, 2) := by decide +kernel
theorem dX10_chooseGang_3 : decode cX10_chooseGang 3 = .ok (.aload_n 0, 1) := by decide +kernel
theorem dX10_chooseGang_4 : decode cX10_chooseGang 4 = .ok (.aload_n 1, 1) := by decide +kernel
theorem dX10_chooseGang_5 : decode cX10_chooseGang 5 = .ok (.getfield 400, 3) := by decide +kernel
theorem dX10_chooseGang_8 : decode cX10_chooseGang 8 = .ok (.iconst 2, 1) := by decide +kernel
theorem dX10_chooseGang_9 : decode cX10_chooseGang 9 = .ok (.aload_n 2, 1) := by decide +kernel
theorem dX10_chooseGang_10 : decode cX10_chooseGang 10 = .ok (.aconst_null, 1) := by decide +kernel
theorem dX10_chooseGang_11 : decode cX10_chooseGang 11 = .ok (.invokevirtual 227, 3) := by decide +kernel
theorem dX10_chooseGang_14 : decode cX10_chooseGang 14 = .ok (.invokestatic 404, 3) := by decide +kernel
theorem dX10_chooseGang_17 : decode cX10_chooseGang 17 = .ok (.invokestatic 387, 3) := by decide +kernel
theorem dX10_chooseGang_20 : decode cX10_chooseGang 20 = .ok (.istore 4, 2) := by decide +kernel
theorem dX10_chooseGang_22 : decode cX10_chooseGang 22 = .ok (.aload_n 0, 1) := by decide +kernel
theorem dX10_chooseGang_23 : decode cX10_chooseGang 23 = .ok (.aload_n 1, 1) := by decide +kernel
theorem dX10_chooseGang_24 : decode cX10_chooseGang 24 = .ok (.aload_n 0, 1) := by decide +kernel
theorem dX10_chooseGang_25 : decode cX10_chooseGang 25 = .ok (.aload_n 2, 1) := by decide +kernel
theorem dX10_chooseGang_26 : decode cX10_chooseGang 26 = .ok (.getfield 278, 3) := by decide +kernel
theorem dX10_chooseGang_29 : decode cX10_chooseGang 29 = .ok (.aload_n 2, 1) := by decide +kernel
theorem dX10_chooseGang_30 : decode cX10_chooseGang 30 = .ok (.getfield 282, 3) := by decide +kernel
theorem dX10_chooseGang_33 : decode cX10_chooseGang 33 = .ok (.invokevirtual 113, 3) := by decide +kernel
theorem dX10_chooseGang_36 : decode cX10_chooseGang 36 = .ok (.invokevirtual 407, 3) := by decide +kernel
theorem dX10_chooseGang_39 : decode cX10_chooseGang 39 = .ok (.aload_n 0, 1) := by decide +kernel
theorem dX10_chooseGang_40 : decode cX10_chooseGang 40 = .ok (.getfield 65, 3) := by decide +kernel
theorem dX10_chooseGang_43 : decode cX10_chooseGang 43 = .ok (.invokevirtual 411, 3) := by decide +kernel
theorem dX10_chooseGang_46 : decode cX10_chooseGang 46 = .ok (.aload_n 0, 1) := by decide +kernel
theorem dX10_chooseGang_47 : decode cX10_chooseGang 47 = .ok (.aload_n 1, 1) := by decide +kernel
theorem dX10_chooseGang_48 : decode cX10_chooseGang 48 = .ok (.getfield 186, 3) := by decide +kernel
theorem dX10_chooseGang_51 : decode cX10_chooseGang 51 = .ok (.putfield 250, 3) := by decide +kernel
theorem dX10_chooseGang_54 : decode cX10_chooseGang 54 = .ok (.iconst 0, 1) := by decide +kernel
theorem dX10_chooseGang_55 : decode cX10_chooseGang 55 = .ok (.istore 5, 2) := by decide +kernel
theorem dX10_chooseGang_57 : decode cX10_chooseGang 57 = .ok (.iconst 1, 1) := by decide +kernel
theorem dX10_chooseGang_58 : decode cX10_chooseGang 58 = .ok (.istore 6, 2) := by decide +kernel
theorem dX10_chooseGang_60 : decode cX10_chooseGang 60 = .ok (.iload 6, 2) := by decide +kernel
theorem dX10_chooseGang_62 : decode cX10_chooseGang 62 = .ok (.bipush 8, 2) := by decide +kernel
theorem dX10_chooseGang_64 : decode cX10_chooseGang 64 = .ok (.if_icmp .gt 119, 3) := by decide +kernel
theorem dX10_chooseGang_67 : decode cX10_chooseGang 67 = .ok (.aload_n 0, 1) := by decide +kernel
theorem dX10_chooseGang_68 : decode cX10_chooseGang 68 = .ok (.getfield 68, 3) := by decide +kernel
theorem dX10_chooseGang_71 : decode cX10_chooseGang 71 = .ok (.invokevirtual 75, 3) := by decide +kernel
theorem dX10_chooseGang_74 : decode cX10_chooseGang 74 = .ok (.istore 7, 2) := by decide +kernel
theorem dX10_chooseGang_76 : decode cX10_chooseGang 76 = .ok (.iload 7, 2) := by decide +kernel
