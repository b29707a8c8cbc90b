theorem dX6_lookAtMinute_45 : decode cX6_lookAtMinute 45 = .ok (.sipush 600, 3) := by decide +kernel
theorem dX6_lookAtMinute_48 : decode cX6_lookAtMinute 48 = .ok (.idiv, 1) := by decide +kernel
theorem dX6_lookAtMinute_49 : decode cX6_lookAtMinute 49 = .ok (.iastore, 1) := by decide +kernel
theorem dX6_lookAtMinute_50 : decode cX6_lookAtMinute 50 = .ok (.return_, 1) := by decide +kernel
theorem dX6_lookAtMen_0 : decode cX6_lookAtMen 0 = .ok (.aload_n 0, 1) := by decide +kernel
theorem dX6_lookAtMen_1 : decode cX6_lookAtMen 1 = .ok (.getfield 11, 3) := by decide +kernel
theorem dX6_lookAtMen_4 : decode cX6_lookAtMen 4 = .ok (.bipush 8, 2) := by decide +kernel
theorem dX6_lookAtMen_6 : decode cX6_lookAtMen 6 = .ok (.iload_n 1, 1) := by decide +kernel
theorem dX6_lookAtMen_7 : decode cX6_lookAtMen 7 = .ok (.iastore, 1) := by decide +kernel
theorem dX6_lookAtMen_8 : decode cX6_lookAtMen 8 = .ok (.return_, 1) := by decide +kernel
theorem dX6_lookAtLoad_0 : decode cX6_lookAtLoad 0 = .ok (.aload_n 0, 1) := by decide +kernel
theorem dX6_lookAtLoad_1 : decode cX6_lookAtLoad 1 = .ok (.getfield 11, 3) := by decide +kernel
theorem dX6_lookAtLoad_4 : decode cX6_lookAtLoad 4 = .ok (.iconst 0, 1) := by decide +kernel
theorem dX6_lookAtLoad_5 : decode cX6_lookAtLoad 5 = .ok (.aload_n 1, 1) := by decide +kernel
theorem dX6_lookAtLoad_6 : decode cX6_lookAtLoad 6 = .ok (.getfield 26, 3) := by decide +kernel
theorem dX6_lookAtLoad_9 : decode cX6_lookAtLoad 9 = .ok (.iastore, 1) := by decide +kernel
theorem dX6_lookAtLoad_10 : decode cX6_lookAtLoad 10 = .ok (.aload_n 0, 1) := by decide +kernel
theorem dX6_lookAtLoad_11 : decode cX6_lookAtLoad 11 = .ok (.getfield 11, 3) := by decide +kernel
theorem dX6_lookAtLoad_14 : decode cX6_lookAtLoad 14 = .ok (.iconst 1, 1) := by decide +kernel
theorem dX6_lookAtLoad_15 : decode cX6_lookAtLoad 15 = .ok (.aload_n 1, 1) := by decide +kernel
theorem dX6_lookAtLoad_16 : decode cX6_lookAtLoad 16 = .ok (.getfield 32, 3) := by decide +kernel
theorem dX6_lookAtLoad_19 : decode cX6_lookAtLoad 19 = .ok (.iastore, 1) := by decide +kernel
theorem dX6_lookAtLoad_20 : decode cX6_lookAtLoad 20 = .ok (.aload_n 0, 1) := by decide +kernel
theorem dX6_lookAtLoad_21 : decode cX6_lookAtLoad 21 = .ok (.getfield 11, 3) := by decide +kernel
theorem dX6_lookAtLoad_24 : decode cX6_lookAtLoad 24 = .ok (.iconst 2, 1) := by decide +kernel
theorem dX6_lookAtLoad_25 : decode cX6_lookAtLoad 25 = .ok (.aload_n 1, 1) := by decide +kernel
theorem dX6_lookAtLoad_26 : decode cX6_lookAtLoad 26 = .ok (.getfield 35, 3) := by decide +kernel
theorem dX6_lookAtLoad_29 : decode cX6_lookAtLoad 29 = .ok (.iastore, 1) := by decide +kernel
theorem dX6_lookAtLoad_30 : decode cX6_lookAtLoad 30 = .ok (.aload_n 0, 1) := by decide +kernel
theorem dX6_lookAtLoad_31 : decode cX6_lookAtLoad 31 = .ok (.getfield 11, 3) := by decide +kernel
theorem dX6_lookAtLoad_34 : decode cX6_lookAtLoad 34 = .ok (.iconst 3, 1) := by decide +kernel
theorem dX6_lookAtLoad_35 : decode cX6_lookAtLoad 35 = .ok (.aload_n 1, 1) := by decide +kernel
theorem dX6_lookAtLoad_36 : decode cX6_lookAtLoad 36 = .ok (.getfield 38, 3) := by decide +kernel
theorem dX6_lookAtLoad_39 : decode cX6_lookAtLoad 39 = .ok (.iastore, 1) := by decide +kernel
theorem dX6_lookAtLoad_40 : decode cX6_lookAtLoad 40 = .ok (.aload_n 0, 1) := by decide +kernel
theorem dX6_lookAtLoad_41 : decode cX6_lookAtLoad 41 = .ok (.getfield 11, 3) := by decide +kernel
theorem dX6_lookAtLoad_44 : decode cX6_lookAtLoad 44 = .ok (.iconst 4, 1) := by decide +kernel
theorem dX6_lookAtLoad_45 : decode cX6_lookAtLoad 45 = .ok (.aload_n 1, 1) := by decide +kernel
theorem dX6_lookAtLoad_46 : decode cX6_lookAtLoad 46 = .ok (.getfield 41, 3) := by decide +kernel
theorem dX6_lookAtLoad_49 : decode cX6_lookAtLoad 49 = .ok (.iastore, 1) := by decide +kernel
theorem dX6_lookAtLoad_50 : decode cX6_lookAtLoad 50 = .ok (.aload_n 0, 1) := by decide +kernel
theorem dX6_lookAtLoad_51 : decode cX6_lookAtLoad 51 = .ok (.getfield 11, 3) := by decide +kernel
theorem dX6_lookAtLoad_54 : decode cX6_lookAtLoad 54 = .ok (.bipush 7, 2) := by decide +kernel
theorem dX6_lookAtLoad_56 : decode cX6_lookAtLoad 56 = .ok (.iload_n 2, 1) := by decide +kernel
theorem dX6_lookAtLoad_57 : decode cX6_lookAtLoad 57 = .ok (.iastore, 1) := by decide +kernel
theorem dX6_lookAtLoad_58 : decode cX6_lookAtLoad 58 = .ok (.return_, 1) := by decide +kernel
theorem dX6_lookAtMan_0 : decode cX6_lookAtMan 0 = .ok (.aload_n 0, 1) := by decide +kernel
theorem dX6_lookAtMan_1 : decode cX6_lookAtMan 1 = .ok (.getfield 11, 3) := by decide +kernel
theorem dX6_lookAtMan_4 : decode cX6_lookAtMan 4 = .ok (.bipush 10, 2) := by decide +kernel
theorem dX6_lookAtMan_6 : decode cX6_lookAtMan 6 = .ok (.aload_n 1, 1) := by decide +kernel
theorem dX6_lookAtMan_7 : decode cX6_lookAtMan 7 = .ok (.getfield 44, 3) := by decide +kernel
theorem dX6_lookAtMan_10 : decode cX6_lookAtMan 10 = .ok (.iastore, 1) := by decide +kernel
theorem dX6_lookAtMan_11 : decode cX6_lookAtMan 11 = .ok (.aload_n 0, 1) := by decide +kernel
theorem dX6_lookAtMan_12 : decode cX6_lookAtMan 12 = .ok (.getfield 11, 3) := by decide +kernel
theorem dX6_lookAtMan_15 : decode cX6_lookAtMan 15 = .ok (.bipush 11, 2) := by decide +kernel
theorem dX6_lookAtMan_17 : decode cX6_lookAtMan 17 = .ok (.aload_n 1, 1) := by decide +kernel
theorem dX6_lookAtMan_18 : decode cX6_lookAtMan 18 = .ok (.getfield 49, 3) := by decide +kernel
theorem dX6_lookAtMan_21 : decode cX6_lookAtMan 21 = .ok (.iastore, 1) := by decide +kernel
theorem dX6_lookAtMan_22 : decode cX6_lookAtMan 22 = .ok (.aload_n 0, 1) := by decide +kernel
theorem dX6_lookAtMan_23 : decode cX6_lookAtMan 23 = .ok (.getfield 11, 3) := by decide +kernel
theorem dX6_lookAtMan_26 : decode cX6_lookAtMan 26 = .ok (.bipush 12, 2) := by decide +kernel
theorem dX6_lookAtMan_28 : decode cX6_lookAtMan 28 = .ok (.aload_n 1, 1) := by decide +kernel
theorem dX6_lookAtMan_29 : decode cX6_lookAtMan 29 = .ok (.getfield 52, 3) := by decide +kernel
theorem dX6_lookAtMan_32 : decode cX6_lookAtMan 32 = .ok (.iastore, 1) := by decide +kernel
theorem dX6_lookAtMan_33 : decode cX6_lookAtMan 33 = .ok (.return_, 1) := by decide +kernel
theorem dX6_reckon_0 : decode cX6_reckon 0 = .ok (.aload_n 0, 1) := by decide +kernel
theorem dX6_reckon_1 : decode cX6_reckon 1 = .ok (.iconst 0, 1) := by decide +kernel
theorem dX6_reckon_2 : decode cX6_reckon 2 = .ok (.putfield 55, 3) := by decide +kernel
theorem dX6_reckon_5 : decode cX6_reckon 5 = .ok (.iconst 0, 1) := by decide +kernel
theorem dX6_reckon_6 : decode cX6_reckon 6 = .ok (.istore_n 2, 1) := by decide +kernel
theorem dX6_reckon_7 : decode cX6_reckon 7 = .ok (.iload_n 2, 1) := by decide +kernel
theorem dX6_reckon_8 : decode cX6_reckon 8 = .ok (.aload_n 1, 1) := by decide +kernel
theorem dX6_reckon_9 : decode cX6_reckon 9 = .ok (.arraylength, 1) := by decide +kernel
theorem dX6_reckon_10 : decode cX6_reckon 10 = .ok (.if_icmp .ge 136, 3) := by decide +kernel
theorem dX6_reckon_13 : decode cX6_reckon 13 = .ok (.aload_n 1, 1) := by decide +kernel
theorem dX6_reckon_14 : decode cX6_reckon 14 = .ok (.iload_n 2, 1) := by decide +kernel
theorem dX6_reckon_15 : decode cX6_reckon 15 = .ok (.iaload, 1) := by decide +kernel
theorem dX6_reckon_16 : decode cX6_reckon 16 = .ok (.istore_n 3, 1) := by decide +kernel
theorem dX6_reckon_17 : decode cX6_reckon 17 = .ok (.iload_n 3, 1) := by decide +kernel
theorem dX6_reckon_18 : decode cX6_reckon 18 = .ok (.invokestatic 58, 3) := by decide +kernel
theorem dX6_reckon_21 : decode cX6_reckon 21 = .ok (.ifCond .eq 15, 3) := by decide +kernel
theorem dX6_reckon_24 : decode cX6_reckon 24 = .ok (.aload_n 0, 1) := by decide +kernel
theorem dX6_reckon_25 : decode cX6_reckon 25 = .ok (.iload_n 3, 1) := by decide +kernel
theorem dX6_reckon_26 : decode cX6_reckon 26 = .ok (.sipush 1000, 3) := by decide +kernel
theorem dX6_reckon_29 : decode cX6_reckon 29 = .ok (.isub, 1) := by decide +kernel
theorem dX6_reckon_30 : decode cX6_reckon 30 = .ok (.invokevirtual 62, 3) := by decide +kernel
theorem dX6_reckon_33 : decode cX6_reckon 33 = .ok (.goto 107, 3) := by decide +kernel
theorem dX6_reckon_36 : decode cX6_reckon 36 = .ok (.iload_n 3, 1) := by decide +kernel
theorem dX6_reckon_37 : decode cX6_reckon 37 = .ok (.invokestatic 66, 3) := by decide +kernel
theorem dX6_reckon_40 : decode cX6_reckon 40 = .ok (.ifCond .eq 19, 3) := by decide +kernel
theorem dX6_reckon_43 : decode cX6_reckon 43 = .ok (.aload_n 0, 1) := by decide +kernel
theorem dX6_reckon_44 : decode cX6_reckon 44 = .ok (.aload_n 0, 1) := by decide +kernel
theorem dX6_reckon_45 : decode cX6_reckon 45 = .ok (.iload_n 3, 1) := by decide +kernel
theorem dX6_reckon_46 : decode cX6_reckon 46 = .ok (.sipush 128, 3) := by decide +kernel
theorem dX6_reckon_49 : decode cX6_reckon 49 = .ok (.isub, 1) := by decide +kernel
theorem dX6_reckon_50 : decode cX6_reckon 50 = .ok (.invokevirtual 69, 3) := by decide +kernel
theorem dX6_reckon_53 : decode cX6_reckon 53 = .ok (.invokevirtual 62, 3) := by decide +kernel
theorem dX6_reckon_56 : decode cX6_reckon 56 = .ok (.goto 84, 3) := by decide +kernel
theorem dX6_reckon_59 : decode cX6_reckon 59 = .ok (.iload_n 3, 1) := by decide +kernel
theorem dX6_reckon_60 : decode cX6_reckon 60 = .ok (.iconst 1, 1) := by decide +kernel
theorem dX6_reckon_61 : decode cX6_reckon 61 = .ok (.if_icmp .ne 8, 3) := by decide +kernel
theorem dX6_reckon_64 : decode cX6_reckon 64 = .ok (.aload_n 0, 1) := by decide +kernel
theorem dX6_reckon_65 : decode cX6_reckon 65 = .ok (.invokevirtual 73, 3) := by decide +kernel
theorem dX6_reckon_68 : decode cX6_reckon 68 = .ok (.ireturn, 1) := by decide +kernel
theorem dX6_reckon_69 : decode cX6_reckon 69 = .ok (.iload_n 3, 1) := by decide +kernel
theorem dX6_reckon_70 : decode cX6_reckon 70 = .ok (.sipush 144, 3) := by decide +kernel
theorem dX6_reckon_73 : decode cX6_reckon 73 = .ok (.if_icmp .ne 25, 3) := by decide +kernel
theorem dX6_reckon_76 : decode cX6_reckon 76 = .ok (.aload_n 0, 1) := by decide +kernel
theorem dX6_reckon_77 : decode cX6_reckon 77 = .ok (.aload_n 0, 1) := by decide +kernel
theorem dX6_reckon_78 : decode cX6_reckon 78 = .ok (.invokevirtual 73, 3) := by decide +kernel
theorem dX6_reckon_81 : decode cX6_reckon 81 = .ok (.ifCond .ne 7, 3) := by decide +kernel
theorem dX6_reckon_84 : decode cX6_reckon 84 = .ok (.iconst 1, 1) := by decide +kernel
theorem dX6_reckon_85 : decode cX6_reckon 85 = .ok (.goto 4, 3) := by decide +kernel
theorem dX6_reckon_88 : decode cX6_reckon 88 = .ok (.iconst 0, 1) := by decide +kernel
theorem dX6_reckon_89 : decode cX6_reckon 89 = .ok (.invokestatic 77, 3) := by decide +kernel
theorem dX6_reckon_92 : decode cX6_reckon 92 = .ok (.invokevirtual 62, 3) := by decide +kernel
theorem dX6_reckon_95 : decode cX6_reckon 95 = .ok (.goto 45, 3) := by decide +kernel
theorem dX6_reckon_98 : decode cX6_reckon 98 = .ok (.aload_n 0, 1) := by decide +kernel
theorem dX6_reckon_99 : decode cX6_reckon 99 = .ok (.invokevirtual 73, 3) := by decide +kernel
theorem dX6_reckon_102 : decode cX6_reckon 102 = .ok (.istore 4, 2) := by decide +kernel
theorem dX6_reckon_104 : decode cX6_reckon 104 = .ok (.aload_n 0, 1) := by decide +kernel
theorem dX6_reckon_105 : decode cX6_reckon 105 = .ok (.invokevirtual 73, 3) := by decide +kernel
theorem dX6_reckon_108 : decode cX6_reckon 108 = .ok (.istore 5, 2) := by decide +kernel
theorem dX6_reckon_110 : decode cX6_reckon 110 = .ok (.iload_n 3, 1) := by decide +kernel
theorem dX6_reckon_111 : decode cX6_reckon 111 = .ok (.sipush 141, 3) := by decide +kernel
theorem dX6_reckon_114 : decode cX6_reckon 114 = .ok (.if_icmp .eq 18, 3) := by decide +kernel
theorem dX6_reckon_117 : decode cX6_reckon 117 = .ok (.aload_n 0, 1) := by decide +kernel
theorem dX6_reckon_118 : decode cX6_reckon 118 = .ok (.iload_n 3, 1) := by decide +kernel
theorem dX6_reckon_119 : decode cX6_reckon 119 = .ok (.iload 5, 2) := by decide +kernel
theorem dX6_reckon_121 : decode cX6_reckon 121 = .ok (.iload 4, 2) := by decide +kernel
theorem dX6_reckon_123 : decode cX6_reckon 123 = .ok (.invokestatic 81, 3) := by decide +kernel
theorem dX6_reckon_126 : decode cX6_reckon 126 = .ok (.invokevirtual 62, 3) := by decide +kernel
theorem dX6_reckon_129 : decode cX6_reckon 129 = .ok (.goto 11, 3) := by decide +kernel
theorem dX6_reckon_132 : decode cX6_reckon 132 = .ok (.iload 4, 2) := by decide +kernel
theorem dX6_reckon_134 : decode cX6_reckon 134 = .ok (.ifCond .eq 6, 3) := by decide +kernel
theorem dX6_reckon_137 : decode cX6_reckon 137 = .ok (.iload 5, 2) := by decide +kernel
theorem dX6_reckon_139 : decode cX6_reckon 139 = .ok (.ireturn, 1) := by decide +kernel
theorem dX6_reckon_140 : decode cX6_reckon 140 = .ok (.iinc 2 1, 3) := by decide +kernel
theorem dX6_reckon_143 : decode cX6_reckon 143 = .ok (.goto (-136), 3) := by decide +kernel
theorem dX6_reckon_146 : decode cX6_reckon 146 = .ok (.iconst 0, 1) := by decide +kernel
theorem dX6_reckon_147 : decode cX6_reckon 147 = .ok (.ireturn, 1) := by decide +kernel
theorem dX6_valueOf_0 : decode cX6_valueOf 0 = .ok (.iload_n 1, 1) := by decide +kernel
theorem dX6_valueOf_1 : decode cX6_valueOf 1 = .ok (.ifCond .lt 18, 3) := by decide +kernel
theorem dX6_valueOf_4 : decode cX6_valueOf 4 = .ok (.iload_n 1, 1) := by decide +kernel
theorem dX6_valueOf_5 : decode cX6_valueOf 5 = .ok (.bipush 13, 2) := by decide +kernel
theorem dX6_valueOf_7 : decode cX6_valueOf 7 = .ok (.if_icmp .ge 12, 3) := by decide +kernel
theorem dX6_valueOf_10 : decode cX6_valueOf 10 = .ok (.aload_n 0, 1) := by decide +kernel
theorem dX6_valueOf_11 : decode cX6_valueOf 11 = .ok (.getfield 11, 3) := by decide +kernel
theorem dX6_valueOf_14 : decode cX6_valueOf 14 = .ok (.iload_n 1, 1) := by decide +kernel
theorem dX6_valueOf_15 : decode cX6_valueOf 15 = .ok (.iaload, 1) := by decide +kernel
theorem dX6_valueOf_16 : decode cX6_valueOf 16 = .ok (.goto 4, 3) := by decide +kernel
theorem dX6_valueOf_19 : decode cX6_valueOf 19 = .ok (.iconst 0, 1) := by decide +kernel
theorem dX6_valueOf_20 : decode cX6_valueOf 20 = .ok (.ireturn, 1) := by decide +kernel
theorem dX6_put_0 : decode cX6_put 0 = .ok (.aload_n 0, 1) := by decide +kernel
theorem dX6_put_1 : decode cX6_put 1 = .ok (.getfield 55, 3) := by decide +kernel
theorem dX6_put_4 : decode cX6_put 4 = .ok (.ifCond .lt 33, 3) := by decide +kernel
theorem dX6_put_7 : decode cX6_put 7 = .ok (.aload_n 0, 1) := by decide +kernel
theorem dX6_put_8 : decode cX6_put 8 = .ok (.getfield 55, 3) := by decide +kernel
theorem dX6_put_11 : decode cX6_put 11 = .ok (.sipush 200, 3) := by decide +kernel
theorem dX6_put_14 : decode cX6_put 14 = .ok (.if_icmp .ge 23, 3) := by decide +kernel
theorem dX6_put_17 : decode cX6_put 17 = .ok (.aload_n 0, 1) := by decide +kernel
theorem dX6_put_18 : decode cX6_put 18 = .ok (.getfield 17, 3) := by decide +kernel
theorem dX6_put_21 : decode cX6_put 21 = .ok (.aload_n 0, 1) := by decide +kernel
theorem dX6_put_22 : decode cX6_put 22 = .ok (.getfield 55, 3) := by decide +kernel
theorem dX6_put_25 : decode cX6_put 25 = .ok (.iload_n 1, 1) := by decide +kernel
theorem dX6_put_26 : decode cX6_put 26 = .ok (.iastore, 1) := by decide +kernel
theorem dX6_put_27 : decode cX6_put 27 = .ok (.aload_n 0, 1) := by decide +kernel
theorem dX6_put_28 : decode cX6_put 28 = .ok (.dup, 1) := by decide +kernel
theorem dX6_put_29 : decode cX6_put 29 = .ok (.getfield 55, 3) := by decide +kernel
theorem dX6_put_32 : decode cX6_put 32 = .ok (.iconst 1, 1) := by decide +kernel
theorem dX6_put_33 : decode cX6_put 33 = .ok (.iadd, 1) := by decide +kernel
theorem dX6_put_34 : decode cX6_put 34 = .ok (.putfield 55, 3) := by decide +kernel
theorem dX6_put_37 : decode cX6_put 37 = .ok (.return_, 1) := by decide +kernel
theorem dX6_take_0 : decode cX6_take 0 = .ok (.aload_n 0, 1) := by decide +kernel
theorem dX6_take_1 : decode cX6_take 1 = .ok (.getfield 55, 3) := by decide +kernel
theorem dX6_take_4 : decode cX6_take 4 = .ok (.ifCond .le 13, 3) := by decide +kernel
theorem dX6_take_7 : decode cX6_take 7 = .ok (.aload_n 0, 1) := by decide +kernel
theorem dX6_take_8 : decode cX6_take 8 = .ok (.getfield 55, 3) := by decide +kernel
theorem dX6_take_11 : decode cX6_take 11 = .ok (.sipush 200, 3) := by decide +kernel
theorem dX6_take_14 : decode cX6_take 14 = .ok (.if_icmp .le 5, 3) := by decide +kernel
theorem dX6_take_17 : decode cX6_take 17 = .ok (.iconst 0, 1) := by decide +kernel
theorem dX6_take_18 : decode cX6_take 18 = .ok (.ireturn, 1) := by decide +kernel
theorem dX6_take_19 : decode cX6_take 19 = .ok (.aload_n 0, 1) := by decide +kernel
theorem dX6_take_20 : decode cX6_take 20 = .ok (.dup, 1) := by decide +kernel
theorem dX6_take_21 : decode cX6_take 21 = .ok (.getfield 55, 3) := by decide +kernel
theorem dX6_take_24 : decode cX6_take 24 = .ok (.iconst 1, 1) := by decide +kernel
theorem dX6_take_25 : decode cX6_take 25 = .ok (.isub, 1) := by decide +kernel
theorem dX6_take_26 : decode cX6_take 26 = .ok (.putfield 55, 3) := by decide +kernel
theorem dX6_take_29 : decode cX6_take 29 = .ok (.aload_n 0, 1) := by decide +kernel
theorem dX6_take_30 : decode cX6_take 30 = .ok (.getfield 17, 3) := by decide +kernel
theorem dX6_take_33 : decode cX6_take 33 = .ok (.aload_n 0, 1) := by decide +kernel
theorem dX6_take_34 : decode cX6_take 34 = .ok (.getfield 55, 3) := by decide +kernel
theorem dX6_take_37 : decode cX6_take 37 = .ok (.iaload, 1) := by decide +kernel
theorem dX6_take_38 : decode cX6_take 38 = .ok (.ireturn, 1) := by decide +kernel
theorem dX6_truth_0 : decode cX6_truth 0 = .ok (.iload_n 0, 1) := by decide +kernel
theorem dX6_truth_1 : decode cX6_truth 1 = .ok (.ifCond .eq 7, 3) := by decide +kernel
theorem dX6_truth_4 : decode cX6_truth 4 = .ok (.iconst 1, 1) := by decide +kernel
theorem dX6_truth_5 : decode cX6_truth 5 = .ok (.goto 4, 3) := by decide +kernel
theorem dX6_truth_8 : decode cX6_truth 8 = .ok (.iconst 0, 1) := by decide +kernel
theorem dX6_truth_9 : decode cX6_truth 9 = .ok (.ireturn, 1) := by decide +kernel
theorem dX6_worked_0 : decode cX6_worked 0 = .ok (.iload_n 0, 1) := by decide +kernel
theorem dX6_worked_1 : decode cX6_worked 1 = .ok (.lookupswitch 211 #[(42, 183), (43, 175), (45, 179), (47, 187), (60, 133), (61, 147), (62, 161), (142, 99), (143, 116), (145, 199), (146, 205)], 99) := by decide +kernel
theorem dX6_worked_100 : decode cX6_worked 100 = .ok (.iload_n 1, 1) := by decide +kernel
theorem dX6_worked_101 : decode cX6_worked 101 = .ok (.ifCond .ne 7, 3) := by decide +kernel
theorem dX6_worked_104 : decode cX6_worked 104 = .ok (.iload_n 2, 1) := by decide +kernel
theorem dX6_worked_105 : decode cX6_worked 105 = .ok (.ifCond .eq 7, 3) := by decide +kernel
theorem dX6_worked_108 : decode cX6_worked 108 = .ok (.iconst 1, 1) := by decide +kernel
theorem dX6_worked_109 : decode cX6_worked 109 = .ok (.goto 4, 3) := by decide +kernel
theorem dX6_worked_112 : decode cX6_worked 112 = .ok (.iconst 0, 1) := by decide +kernel
theorem dX6_worked_113 : decode cX6_worked 113 = .ok (.invokestatic 77, 3) := by decide +kernel
theorem dX6_worked_116 : decode cX6_worked 116 = .ok (.ireturn, 1) := by decide +kernel
theorem dX6_worked_117 : decode cX6_worked 117 = .ok (.iload_n 1, 1) := by decide +kernel
theorem dX6_worked_118 : decode cX6_worked 118 = .ok (.ifCond .eq 11, 3) := by decide +kernel
theorem dX6_worked_121 : decode cX6_worked 121 = .ok (.iload_n 2, 1) := by decide +kernel
theorem dX6_worked_122 : decode cX6_worked 122 = .ok (.ifCond .eq 7, 3) := by decide +kernel
theorem dX6_worked_125 : decode cX6_worked 125 = .ok (.iconst 1, 1) := by decide +kernel
theorem dX6_worked_126 : decode cX6_worked 126 = .ok (.goto 4, 3) := by decide +kernel
theorem dX6_worked_129 : decode cX6_worked 129 = .ok (.iconst 0, 1) := by decide +kernel
theorem dX6_worked_130 : decode cX6_worked 130 = .ok (.invokestatic 77, 3) := by decide +kernel
theorem dX6_worked_133 : decode cX6_worked 133 = .ok (.ireturn, 1) := by decide +kernel
theorem dX6_worked_134 : decode cX6_worked 134 = .ok (.iload_n 1, 1) := by decide +kernel
theorem dX6_worked_135 : decode cX6_worked 135 = .ok (.iload_n 2, 1) := by decide +kernel
theorem dX6_worked_136 : decode cX6_worked 136 = .ok (.if_icmp .ge 7, 3) := by decide +kernel
theorem dX6_worked_139 : decode cX6_worked 139 = .ok (.iconst 1, 1) := by decide +kernel
theorem dX6_worked_140 : decode cX6_worked 140 = .ok (.goto 4, 3) := by decide +kernel
theorem dX6_worked_143 : decode cX6_worked 143 = .ok (.iconst 0, 1) := by decide +kernel
theorem dX6_worked_144 : decode cX6_worked 144 = .ok (.invokestatic 77, 3) := by decide +kernel
theorem dX6_worked_147 : decode cX6_worked 147 = .ok (.ireturn, 1) := by decide +kernel
theorem dX6_worked_148 : decode cX6_worked 148 = .ok (.iload_n 1, 1) := by decide +kernel
theorem dX6_worked_149 : decode cX6_worked 149 = .ok (.iload_n 2, 1) := by decide +kernel
theorem dX6_worked_150 : decode cX6_worked 150 = .ok (.if_icmp .ne 7, 3) := by decide +kernel
theorem dX6_worked_153 : decode cX6_worked 153 = .ok (.iconst 1, 1) := by decide +kernel
theorem dX6_worked_154 : decode cX6_worked 154 = .ok (.goto 4, 3) := by decide +kernel
theorem dX6_worked_157 : decode cX6_worked 157 = .ok (.iconst 0, 1) := by decide +kernel
theorem dX6_worked_158 : decode cX6_worked 158 = .ok (.invokestatic 77, 3) := by decide +kernel
theorem dX6_worked_161 : decode cX6_worked 161 = .ok (.ireturn, 1) := by decide +kernel
theorem dX6_worked_162 : decode cX6_worked 162 = .ok (.iload_n 1, 1) := by decide +kernel
theorem dX6_worked_163 : decode cX6_worked 163 = .ok (.iload_n 2, 1) := by decide +kernel
theorem dX6_worked_164 : decode cX6_worked 164 = .ok (.if_icmp .le 7, 3) := by decide +kernel
theorem dX6_worked_167 : decode cX6_worked 167 = .ok (.iconst 1, 1) := by decide +kernel
theorem dX6_worked_168 : decode cX6_worked 168 = .ok (.goto 4, 3) := by decide +kernel
theorem dX6_worked_171 : decode cX6_worked 171 = .ok (.iconst 0, 1) := by decide +kernel
theorem dX6_worked_172 : decode cX6_worked 172 = .ok (.invokestatic 77, 3) := by decide +kernel
theorem dX6_worked_175 : decode cX6_worked 175 = .ok (.ireturn, 1) := by decide +kernel
theorem dX6_worked_176 : decode cX6_worked 176 = .ok (.iload_n 1, 1) := by decide +kernel
theorem dX6_worked_177 : decode cX6_worked 177 = .ok (.iload_n 2, 1) := by decide +kernel
theorem dX6_worked_178 : decode cX6_worked 178 = .ok (.iadd, 1) := by decide +kernel
theorem dX6_worked_179 : decode cX6_worked 179 = .ok (.ireturn, 1) := by decide +kernel
theorem dX6_worked_180 : decode cX6_worked 180 = .ok (.iload_n 1, 1) := by decide +kernel
theorem dX6_worked_181 : decode cX6_worked 181 = .ok (.iload_n 2, 1) := by decide +kernel
theorem dX6_worked_182 : decode cX6_worked 182 = .ok (.isub, 1) := by decide +kernel
theorem dX6_worked_183 : decode cX6_worked 183 = .ok (.ireturn, 1) := by decide +kernel
theorem dX6_worked_184 : decode cX6_worked 184 = .ok (.iload_n 1, 1) := by decide +kernel
theorem dX6_worked_185 : decode cX6_worked 185 = .ok (.iload_n 2, 1) := by decide +kernel
theorem dX6_worked_186 : decode cX6_worked 186 = .ok (.imul, 1) := by decide +kernel
theorem dX6_worked_187 : decode cX6_worked 187 = .ok (.ireturn, 1) := by decide +kernel
theorem dX6_worked_188 : decode cX6_worked 188 = .ok (.iload_n 2, 1) := by decide +kernel
theorem dX6_worked_189 : decode cX6_worked 189 = .ok (.ifCond .ne 7, 3) := by decide +kernel
theorem dX6_worked_192 : decode cX6_worked 192 = .ok (.iconst 0, 1) := by decide +kernel
theorem dX6_worked_193 : decode cX6_worked 193 = .ok (.goto 6, 3) := by decide +kernel
theorem dX6_worked_196 : decode cX6_worked 196 = .ok (.iload_n 1, 1) := by decide +kernel
theorem dX6_worked_197 : decode cX6_worked 197 = .ok (.iload_n 2, 1) := by decide +kernel
theorem dX6_worked_198 : decode cX6_worked 198 = .ok (.idiv, 1) := by decide +kernel
theorem dX6_worked_199 : decode cX6_worked 199 = .ok (.ireturn, 1) := by decide +kernel
theorem dX6_worked_200 : decode cX6_worked 200 = .ok (.iload_n 1, 1) := by decide +kernel
theorem dX6_worked_201 : decode cX6_worked 201 = .ok (.iload_n 2, 1) := by decide +kernel
theorem dX6_worked_202 : decode cX6_worked 202 = .ok (.invokestatic 85, 3) := by decide +kernel
theorem dX6_worked_205 : decode cX6_worked 205 = .ok (.ireturn, 1) := by decide +kernel
theorem dX6_worked_206 : decode cX6_worked 206 = .ok (.iload_n 1, 1) := by decide +kernel
theorem dX6_worked_207 : decode cX6_worked 207 = .ok (.iload_n 2, 1) := by decide +kernel
theorem dX6_worked_208 : decode cX6_worked 208 = .ok (.invokestatic 91, 3) := by decide +kernel
theorem dX6_worked_211 : decode cX6_worked 211 = .ok (.ireturn, 1) := by decide +kernel
theorem dX6_worked_212 : decode cX6_worked 212 = .ok (.iconst 0, 1) := by decide +kernel
theorem dX6_worked_213 : decode cX6_worked 213 = .ok (.ireturn, 1) := by decide +kernel
theorem dX7_init_0 : decode cX7_init 0 = .ok (.aload_n 0, 1) := by decide +kernel
theorem dX7_init_1 : decode cX7_init 1 = .ok (.invokespecial 3, 3) := by decide +kernel
theorem dX7_init_4 : decode cX7_init 4 = .ok (.aload_n 0, 1) := by decide +kernel
theorem dX7_init_5 : decode cX7_init 5 = .ok (.bipush 20, 2) := by decide +kernel
theorem dX7_init_7 : decode cX7_init 7 = .ok (.newarray .int, 2) := by decide +kernel
theorem dX7_init_9 : decode cX7_init 9 = .ok (.putfield 9, 3) := by decide +kernel
theorem dX7_init_12 : decode cX7_init 12 = .ok (.aload_n 0, 1) := by decide +kernel
theorem dX7_init_13 : decode cX7_init 13 = .ok (.bipush 20, 2) := by decide +kernel
theorem dX7_init_15 : decode cX7_init 15 = .ok (.newarray .int, 2) := by decide +kernel
theorem dX7_init_17 : decode cX7_init 17 = .ok (.putfield 15, 3) := by decide +kernel
theorem dX7_init_20 : decode cX7_init 20 = .ok (.return_, 1) := by decide +kernel
theorem dX7_addSpan_0 : decode cX7_addSpan 0 = .ok (.aload_n 0, 1) := by decide +kernel
theorem dX7_addSpan_1 : decode cX7_addSpan 1 = .ok (.getfield 18, 3) := by decide +kernel
theorem dX7_addSpan_4 : decode cX7_addSpan 4 = .ok (.ifCond .lt 42, 3) := by decide +kernel
theorem dX7_addSpan_7 : decode cX7_addSpan 7 = .ok (.aload_n 0, 1) := by decide +kernel
theorem dX7_addSpan_8 : decode cX7_addSpan 8 = .ok (.getfield 18, 3) := by decide +kernel
theorem dX7_addSpan_11 : decode cX7_addSpan 11 = .ok (.bipush 20, 2) := by decide +kernel
theorem dX7_addSpan_13 : decode cX7_addSpan 13 = .ok (.if_icmp .ge 33, 3) := by decide +kernel
theorem dX7_addSpan_16 : decode cX7_addSpan 16 = .ok (.aload_n 0, 1) := by decide +kernel
theorem dX7_addSpan_17 : decode cX7_addSpan 17 = .ok (.getfield 9, 3) := by decide +kernel
theorem dX7_addSpan_20 : decode cX7_addSpan 20 = .ok (.aload_n 0, 1) := by decide +kernel
theorem dX7_addSpan_21 : decode cX7_addSpan 21 = .ok (.getfield 18, 3) := by decide +kernel
theorem dX7_addSpan_24 : decode cX7_addSpan 24 = .ok (.iload_n 1, 1) := by decide +kernel
theorem dX7_addSpan_25 : decode cX7_addSpan 25 = .ok (.iastore, 1) := by decide +kernel
theorem dX7_addSpan_26 : decode cX7_addSpan 26 = .ok (.aload_n 0, 1) := by decide +kernel
theorem dX7_addSpan_27 : decode cX7_addSpan 27 = .ok (.getfield 15, 3) := by decide +kernel
theorem dX7_addSpan_30 : decode cX7_addSpan 30 = .ok (.aload_n 0, 1) := by decide +kernel
theorem dX7_addSpan_31 : decode cX7_addSpan 31 = .ok (.getfield 18, 3) := by decide +kernel
theorem dX7_addSpan_34 : decode cX7_addSpan 34 = .ok (.iload_n 2, 1) := by decide +kernel
theorem dX7_addSpan_35 : decode cX7_addSpan 35 = .ok (.iastore, 1) := by decide +kernel
theorem dX7_addSpan_36 : decode cX7_addSpan 36 = .ok (.aload_n 0, 1) := by decide +kernel
theorem dX7_addSpan_37 : decode cX7_addSpan 37 = .ok (.dup, 1) := by decide +kernel
theorem dX7_addSpan_38 : decode cX7_addSpan 38 = .ok (.getfield 18, 3) := by decide +kernel
theorem dX7_addSpan_41 : decode cX7_addSpan 41 = .ok (.iconst 1, 1) := by decide +kernel
theorem dX7_addSpan_42 : decode cX7_addSpan 42 = .ok (.iadd, 1) := by decide +kernel
theorem dX7_addSpan_43 : decode cX7_addSpan 43 = .ok (.putfield 18, 3) := by decide +kernel
theorem dX7_addSpan_46 : decode cX7_addSpan 46 = .ok (.return_, 1) := by decide +kernel
theorem dX7_rainsAt_0 : decode cX7_rainsAt 0 = .ok (.iconst 0, 1) := by decide +kernel
theorem dX7_rainsAt_1 : decode cX7_rainsAt 1 = .ok (.istore_n 2, 1) := by decide +kernel
theorem dX7_rainsAt_2 : decode cX7_rainsAt 2 = .ok (.iload_n 2, 1) := by decide +kernel
theorem dX7_rainsAt_3 : decode cX7_rainsAt 3 = .ok (.aload_n 0, 1) := by decide +kernel
theorem dX7_rainsAt_4 : decode cX7_rainsAt 4 = .ok (.getfield 18, 3) := by decide +kernel
theorem dX7_rainsAt_7 : decode cX7_rainsAt 7 = .ok (.if_icmp .ge 37, 3) := by decide +kernel
theorem dX7_rainsAt_10 : decode cX7_rainsAt 10 = .ok (.iload_n 2, 1) := by decide +kernel
theorem dX7_rainsAt_11 : decode cX7_rainsAt 11 = .ok (.bipush 20, 2) := by decide +kernel
theorem dX7_rainsAt_13 : decode cX7_rainsAt 13 = .ok (.if_icmp .ge 31, 3) := by decide +kernel
theorem dX7_rainsAt_16 : decode cX7_rainsAt 16 = .ok (.iload_n 1, 1) := by decide +kernel
theorem dX7_rainsAt_17 : decode cX7_rainsAt 17 = .ok (.aload_n 0, 1) := by decide +kernel
theorem dX7_rainsAt_18 : decode cX7_rainsAt 18 = .ok (.getfield 9, 3) := by decide +kernel
theorem dX7_rainsAt_21 : decode cX7_rainsAt 21 = .ok (.iload_n 2, 1) := by decide +kernel
theorem dX7_rainsAt_22 : decode cX7_rainsAt 22 = .ok (.iaload, 1) := by decide +kernel
theorem dX7_rainsAt_23 : decode cX7_rainsAt 23 = .ok (.if_icmp .lt 15, 3) := by decide +kernel
theorem dX7_rainsAt_26 : decode cX7_rainsAt 26 = .ok (.iload_n 1, 1) := by decide +kernel
theorem dX7_rainsAt_27 : decode cX7_rainsAt 27 = .ok (.aload_n 0, 1) := by decide +kernel
theorem dX7_rainsAt_28 : decode cX7_rainsAt 28 = .ok (.getfield 15, 3) := by decide +kernel
theorem dX7_rainsAt_31 : decode cX7_rainsAt 31 = .ok (.iload_n 2, 1) := by decide +kernel
theorem dX7_rainsAt_32 : decode cX7_rainsAt 32 = .ok (.iaload, 1) := by decide +kernel
theorem dX7_rainsAt_33 : decode cX7_rainsAt 33 = .ok (.if_icmp .ge 5, 3) := by decide +kernel
theorem dX7_rainsAt_36 : decode cX7_rainsAt 36 = .ok (.iconst 1, 1) := by decide +kernel
theorem dX7_rainsAt_37 : decode cX7_rainsAt 37 = .ok (.ireturn, 1) := by decide +kernel
theorem dX7_rainsAt_38 : decode cX7_rainsAt 38 = .ok (.iinc 2 1, 3) := by decide +kernel
theorem dX7_rainsAt_41 : decode cX7_rainsAt 41 = .ok (.goto (-39), 3) := by decide +kernel
theorem dX7_rainsAt_44 : decode cX7_rainsAt 44 = .ok (.iconst 0, 1) := by decide +kernel
theorem dX7_rainsAt_45 : decode cX7_rainsAt 45 = .ok (.ireturn, 1) := by decide +kernel
theorem dX8_init_0 : decode cX8_init 0 = .ok (.aload_n 0, 1) := by decide +kernel
theorem dX8_init_1 : decode cX8_init 1 = .ok (.invokespecial 3, 3) := by decide +kernel
theorem dX8_init_4 : decode cX8_init 4 = .ok (.aload_n 0, 1) := by decide +kernel
theorem dX8_init_5 : decode cX8_init 5 = .ok (.sipush 200, 3) := by decide +kernel
theorem dX8_init_8 : decode cX8_init 8 = .ok (.newarray .int, 2) := by decide +kernel
theorem dX8_init_10 : decode cX8_init 10 = .ok (.putfield 9, 3) := by decide +kernel
theorem dX8_init_13 : decode cX8_init 13 = .ok (.return_, 1) := by decide +kernel
theorem dX8_addBytes_0 : decode cX8_addBytes 0 = .ok (.bipush 24, 2) := by decide +kernel
theorem dX8_addBytes_2 : decode cX8_addBytes 2 = .ok (.istore_n 2, 1) := by decide +kernel
theorem dX8_addBytes_3 : decode cX8_addBytes 3 = .ok (.iload_n 2, 1) := by decide +kernel
theorem dX8_addBytes_4 : decode cX8_addBytes 4 = .ok (.ifCond .lt 52, 3) := by decide +kernel
theorem dX8_addBytes_7 : decode cX8_addBytes 7 = .ok (.aload_n 0, 1) := by decide +kernel
theorem dX8_addBytes_8 : decode cX8_addBytes 8 = .ok (.getfield 15, 3) := by decide +kernel
theorem dX8_addBytes_11 : decode cX8_addBytes 11 = .ok (.ifCond .lt 39, 3) := by decide +kernel
theorem dX8_addBytes_14 : decode cX8_addBytes 14 = .ok (.aload_n 0, 1) := by decide +kernel
theorem dX8_addBytes_15 : decode cX8_addBytes 15 = .ok (.getfield 15, 3) := by decide +kernel
theorem dX8_addBytes_18 : decode cX8_addBytes 18 = .ok (.sipush 200, 3) := by decide +kernel
theorem dX8_addBytes_21 : decode cX8_addBytes 21 = .ok (.if_icmp .ge 29, 3) := by decide +kernel
theorem dX8_addBytes_24 : decode cX8_addBytes 24 = .ok (.aload_n 0, 1) := by decide +kernel
theorem dX8_addBytes_25 : decode cX8_addBytes 25 = .ok (.getfield 9, 3) := by decide +kernel
theorem dX8_addBytes_28 : decode cX8_addBytes 28 = .ok (.aload_n 0, 1) := by decide +kernel
theorem dX8_addBytes_29 : decode cX8_addBytes 29 = .ok (.getfield 15, 3) := by decide +kernel
theorem dX8_addBytes_32 : decode cX8_addBytes 32 = .ok (.iload_n 1, 1) := by decide +kernel
theorem dX8_addBytes_33 : decode cX8_addBytes 33 = .ok (.iload_n 2, 1) := by decide +kernel
theorem dX8_addBytes_34 : decode cX8_addBytes 34 = .ok (.iushr, 1) := by decide +kernel
theorem dX8_addBytes_35 : decode cX8_addBytes 35 = .ok (.sipush 255, 3) := by decide +kernel
theorem dX8_addBytes_38 : decode cX8_addBytes 38 = .ok (.iand, 1) := by decide +kernel
theorem dX8_addBytes_39 : decode cX8_addBytes 39 = .ok (.iastore, 1) := by decide +kernel
theorem dX8_addBytes_40 : decode cX8_addBytes 40 = .ok (.aload_n 0, 1) := by decide +kernel
theorem dX8_addBytes_41 : decode cX8_addBytes 41 = .ok (.dup, 1) := by decide +kernel
theorem dX8_addBytes_42 : decode cX8_addBytes 42 = .ok (.getfield 15, 3) := by decide +kernel
theorem dX8_addBytes_45 : decode cX8_addBytes 45 = .ok (.iconst 1, 1) := by decide +kernel
theorem dX8_addBytes_46 : decode cX8_addBytes 46 = .ok (.iadd, 1) := by decide +kernel
theorem dX8_addBytes_47 : decode cX8_addBytes 47 = .ok (.putfield 15, 3) := by decide +kernel
theorem dX8_addBytes_50 : decode cX8_addBytes 50 = .ok (.iinc 2 (-8), 3) := by decide +kernel
theorem dX8_addBytes_53 : decode cX8_addBytes 53 = .ok (.goto (-50), 3) := by decide +kernel
theorem dX8_addBytes_56 : decode cX8_addBytes 56 = .ok (.return_, 1) := by decide +kernel
theorem dX8_at_0 : decode cX8_at 0 = .ok (.iload_n 1, 1) := by decide +kernel
theorem dX8_at_1 : decode cX8_at 1 = .ok (.ifCond .lt 27, 3) := by decide +kernel
theorem dX8_at_4 : decode cX8_at 4 = .ok (.iload_n 1, 1) := by decide +kernel
theorem dX8_at_5 : decode cX8_at 5 = .ok (.aload_n 0, 1) := by decide +kernel
theorem dX8_at_6 : decode cX8_at 6 = .ok (.getfield 15, 3) := by decide +kernel
theorem dX8_at_9 : decode cX8_at 9 = .ok (.if_icmp .ge 19, 3) := by decide +kernel
theorem dX8_at_12 : decode cX8_at 12 = .ok (.iload_n 1, 1) := by decide +kernel
theorem dX8_at_13 : decode cX8_at 13 = .ok (.sipush 200, 3) := by decide +kernel
theorem dX8_at_16 : decode cX8_at 16 = .ok (.if_icmp .ge 12, 3) := by decide +kernel
theorem dX8_at_19 : decode cX8_at 19 = .ok (.aload_n 0, 1) := by decide +kernel
theorem dX8_at_20 : decode cX8_at 20 = .ok (.getfield 9, 3) := by decide +kernel
theorem dX8_at_23 : decode cX8_at 23 = .ok (.iload_n 1, 1) := by decide +kernel
theorem dX8_at_24 : decode cX8_at 24 = .ok (.iaload, 1) := by decide +kernel
theorem dX8_at_25 : decode cX8_at 25 = .ok (.goto 4, 3) := by decide +kernel
theorem dX8_at_28 : decode cX8_at 28 = .ok (.iconst 0, 1) := by decide +kernel
theorem dX8_at_29 : decode cX8_at 29 = .ok (.ireturn, 1) := by decide +kernel
theorem dX9_isNumber_0 : decode cX9_isNumber 0 = .ok (.iload_n 0, 1) := by decide +kernel
theorem dX9_isNumber_1 : decode cX9_isNumber 1 = .ok (.sipush 1000, 3) := by decide +kernel
theorem dX9_isNumber_4 : decode cX9_isNumber 4 = .ok (.if_icmp .lt 7, 3) := by decide +kernel
theorem dX9_isNumber_7 : decode cX9_isNumber 7 = .ok (.iconst 1, 1) := by decide +kernel
theorem dX9_isNumber_8 : decode cX9_isNumber 8 = .ok (.goto 4, 3) := by decide +kernel
theorem dX9_isNumber_11 : decode cX9_isNumber 11 = .ok (.iconst 0, 1) := by decide +kernel
theorem dX9_isNumber_12 : decode cX9_isNumber 12 = .ok (.ireturn, 1) := by decide +kernel
theorem dX9_isName_0 : decode cX9_isName 0 = .ok (.iload_n 0, 1) := by decide +kernel
theorem dX9_isName_1 : decode cX9_isName 1 = .ok (.sipush 128, 3) := by decide +kernel
theorem dX9_isName_4 : decode cX9_isName 4 = .ok (.if_icmp .lt 14, 3) := by decide +kernel
theorem dX9_isName_7 : decode cX9_isName 7 = .ok (.iload_n 0, 1) := by decide +kernel
theorem dX9_isName_8 : decode cX9_isName 8 = .ok (.sipush 141, 3) := by decide +kernel
theorem dX9_isName_11 : decode cX9_isName 11 = .ok (.if_icmp .ge 7, 3) := by decide +kernel
theorem dX9_isName_14 : decode cX9_isName 14 = .ok (.iconst 1, 1) := by decide +kernel
theorem dX9_isName_15 : decode cX9_isName 15 = .ok (.goto 4, 3) := by decide +kernel
theorem dX9_isName_18 : decode cX9_isName 18 = .ok (.iconst 0, 1) := by decide +kernel
theorem dX9_isName_19 : decode cX9_isName 19 = .ok (.ireturn, 1) := by decide +kernel
theorem dX10_init_0 : decode cX10_init 0 = .ok (.aload_n 0, 1) := by decide +kernel
theorem dX10_init_1 : decode cX10_init 1 = .ok (.invokespecial 1, 3) := by decide +kernel
theorem dX10_init_4 : decode cX10_init 4 = .ok (.aload_n 0, 1) := by decide +kernel
theorem dX10_init_5 : decode cX10_init 5 = .ok (.new 7, 3) := by decide +kernel
theorem dX10_init_8 : decode cX10_init 8 = .ok (.dup, 1) := by decide +kernel
theorem dX10_init_9 : decode cX10_init 9 = .ok (.invokespecial 9, 3) := by decide +kernel
theorem dX10_init_12 : decode cX10_init 12 = .ok (.putfield 10, 3) := by decide +kernel
theorem dX10_init_15 : decode cX10_init 15 = .ok (.aload_n 0, 1) := by decide +kernel
theorem dX10_init_16 : decode cX10_init 16 = .ok (.new 7, 3) := by decide +kernel
theorem dX10_init_19 : decode cX10_init 19 = .ok (.dup, 1) := by decide +kernel
theorem dX10_init_20 : decode cX10_init 20 = .ok (.invokespecial 9, 3) := by decide +kernel
theorem dX10_init_23 : decode cX10_init 23 = .ok (.putfield 16, 3) := by decide +kernel
theorem dX10_init_26 : decode cX10_init 26 = .ok (.aload_n 0, 1) := by decide +kernel
theorem dX10_init_27 : decode cX10_init 27 = .ok (.new 7, 3) := by decide +kernel
theorem dX10_init_30 : decode cX10_init 30 = .ok (.dup, 1) := by decide +kernel
theorem dX10_init_31 : decode cX10_init 31 = .ok (.invokespecial 9, 3) := by decide +kernel
theorem dX10_init_34 : decode cX10_init 34 = .ok (.putfield 19, 3) := by decide +kernel
theorem dX10_init_37 : decode cX10_init 37 = .ok (.aload_n 0, 1) := by decide +kernel
theorem dX10_init_38 : decode cX10_init 38 = .ok (.new 7, 3) := by decide +kernel
theorem dX10_init_41 : decode cX10_init 41 = .ok (.dup, 1) := by decide +kernel
theorem dX10_init_42 : decode cX10_init 42 = .ok (.invokespecial 9, 3) := by decide +kernel
theorem dX10_init_45 : decode cX10_init 45 = .ok (.putfield 22, 3) := by decide +kernel
theorem dX10_init_48 : decode cX10_init 48 = .ok (.aload_n 0, 1) := by decide +kernel
theorem dX10_init_49 : decode cX10_init 49 = .ok (.new 7, 3) := by decide +kernel
theorem dX10_init_52 : decode cX10_init 52 = .ok (.dup, 1) := by decide +kernel
theorem dX10_init_53 : decode cX10_init 53 = .ok (.invokespecial 9, 3) := by decide +kernel
theorem dX10_init_56 : decode cX10_init 56 = .ok (.putfield 25, 3) := by decide +kernel
theorem dX10_init_59 : decode cX10_init 59 = .ok (.iconst 0, 1) := by decide +kernel
theorem dX10_init_60 : decode cX10_init 60 = .ok (.istore_n 1, 1) := by decide +kernel
theorem dX10_init_61 : decode cX10_init 61 = .ok (.iload_n 1, 1) := by decide +kernel
theorem dX10_init_62 : decode cX10_init 62 = .ok (.iconst 4, 1) := by decide +kernel
theorem dX10_init_63 : decode cX10_init 63 = .ok (.if_icmp .ge 25, 3) := by decide +kernel
theorem dX10_init_66 : decode cX10_init 66 = .ok (.aload_n 0, 1) := by decide +kernel
theorem dX10_init_67 : decode cX10_init 67 = .ok (.getfield 25, 3) := by decide +kernel
theorem dX10_init_70 : decode cX10_init 70 = .ok (.new 28, 3) := by decide +kernel
theorem dX10_init_73 : decode cX10_init 73 = .ok (.dup, 1) := by decide +kernel
theorem dX10_init_74 : decode cX10_init 74 = .ok (.iload_n 1, 1) := by decide +kernel
theorem dX10_init_75 : decode cX10_init 75 = .ok (.invokespecial 30, 3) := by decide +kernel
theorem dX10_init_78 : decode cX10_init 78 = .ok (.invokevirtual 33, 3) := by decide +kernel
theorem dX10_init_81 : decode cX10_init 81 = .ok (.pop, 1) := by decide +kernel
theorem dX10_init_82 : decode cX10_init 82 = .ok (.iinc 1 1, 3) := by decide +kernel
theorem dX10_init_85 : decode cX10_init 85 = .ok (.goto (-24), 3) := by decide +kernel
theorem dX10_init_88 : decode cX10_init 88 = .ok (.aload_n 0, 1) := by decide +kernel
theorem dX10_init_89 : decode cX10_init 89 = .ok (.new 37, 3) := by decide +kernel
theorem dX10_init_92 : decode cX10_init 92 = .ok (.dup, 1) := by decide +kernel
theorem dX10_init_93 : decode cX10_init 93 = .ok (.invokespecial 39, 3) := by decide +kernel
theorem dX10_init_96 : decode cX10_init 96 = .ok (.putfield 40, 3) := by decide +kernel
theorem dX10_init_99 : decode cX10_init 99 = .ok (.aload_n 0, 1) := by decide +kernel
theorem dX10_init_100 : decode cX10_init 100 = .ok (.new 44, 3) := by decide +kernel
theorem dX10_init_103 : decode cX10_init 103 = .ok (.dup, 1) := by decide +kernel
theorem dX10_init_104 : decode cX10_init 104 = .ok (.invokespecial 46, 3) := by decide +kernel
theorem dX10_init_107 : decode cX10_init 107 = .ok (.putfield 47, 3) := by decide +kernel
theorem dX10_init_110 : decode cX10_init 110 = .ok (.aload_n 0, 1) := by decide +kernel
theorem dX10_init_111 : decode cX10_init 111 = .ok (.new 51, 3) := by decide +kernel
theorem dX10_init_114 : decode cX10_init 114 = .ok (.dup, 1) := by decide +kernel
theorem dX10_init_115 : decode cX10_init 115 = .ok (.invokespecial 53, 3) := by decide +kernel
theorem dX10_init_118 : decode cX10_init 118 = .ok (.putfield 54, 3) := by decide +kernel
theorem dX10_init_121 : decode cX10_init 121 = .ok (.aload_n 0, 1) := by decide +kernel
theorem dX10_init_122 : decode cX10_init 122 = .ok (.new 58, 3) := by decide +kernel
theorem dX10_init_125 : decode cX10_init 125 = .ok (.dup, 1) := by decide +kernel
theorem dX10_init_126 : decode cX10_init 126 = .ok (.invokespecial 60, 3) := by decide +kernel
theorem dX10_init_129 : decode cX10_init 129 = .ok (.putfield 61, 3) := by decide +kernel
theorem dX10_init_132 : decode cX10_init 132 = .ok (.aload_n 0, 1) := by decide +kernel
theorem dX10_init_133 : decode cX10_init 133 = .ok (.new 7, 3) := by decide +kernel
theorem dX10_init_136 : decode cX10_init 136 = .ok (.dup, 1) := by decide +kernel
theorem dX10_init_137 : decode cX10_init 137 = .ok (.invokespecial 9, 3) := by decide +kernel
theorem dX10_init_140 : decode cX10_init 140 = .ok (.putfield 65, 3) := by decide +kernel
theorem dX10_init_143 : decode cX10_init 143 = .ok (.aload_n 0, 1) := by decide +kernel
theorem dX10_init_144 : decode cX10_init 144 = .ok (.new 7, 3) := by decide +kernel
theorem dX10_init_147 : decode cX10_init 147 = .ok (.dup, 1) := by decide +kernel
theorem dX10_init_148 : decode cX10_init 148 = .ok (.invokespecial 9, 3) := by decide +kernel
theorem dX10_init_151 : decode cX10_init 151 = .ok (.putfield 68, 3) := by decide +kernel
theorem dX10_init_154 : decode cX10_init 154 = .ok (.return_, 1) := by decide +kernel
theorem dX10_place_0 : decode cX10_place 0 = .ok (.iload_n 1, 1) := by decide +kernel
theorem dX10_place_1 : decode cX10_place 1 = .ok (.iconst 0, 1) := by decide +kernel
theorem dX10_place_2 : decode cX10_place 2 = .ok (.bipush 99, 2) := by decide +kernel
theorem dX10_place_4 : decode cX10_place 4 = .ok (.invokestatic 71, 3) := by decide +kernel
theorem dX10_place_7 : decode cX10_place 7 = .ok (.ifCond .eq 13, 3) := by decide +kernel
theorem dX10_place_10 : decode cX10_place 10 = .ok (.iload_n 2, 1) := by decide +kernel
theorem dX10_place_11 : decode cX10_place 11 = .ok (.iconst 0, 1) := by decide +kernel
theorem dX10_place_12 : decode cX10_place 12 = .ok (.bipush 99, 2) := by decide +kernel
theorem dX10_place_14 : decode cX10_place 14 = .ok (.invokestatic 71, 3) := by decide +kernel
theorem dX10_place_17 : decode cX10_place 17 = .ok (.ifCond .ne 5, 3) := by decide +kernel
theorem dX10_place_20 : decode cX10_place 20 = .ok (.iconst (-1), 1) := by decide +kernel
theorem dX10_place_21 : decode cX10_place 21 = .ok (.ireturn, 1) := by decide +kernel
theorem dX10_place_22 : decode cX10_place 22 = .ok (.aload_n 0, 1) := by decide +kernel
theorem dX10_place_23 : decode cX10_place 23 = .ok (.getfield 10, 3) := by decide +kernel
theorem dX10_place_26 : decode cX10_place 26 = .ok (.invokevirtual 75, 3) := by decide +kernel
theorem dX10_place_29 : decode cX10_place 29 = .ok (.bipush 20, 2) := by decide +kernel
theorem dX10_place_31 : decode cX10_place 31 = .ok (.if_icmp .lt 6, 3) := by decide +kernel
theorem dX10_place_34 : decode cX10_place 34 = .ok (.bipush (-3), 2) := by decide +kernel
theorem dX10_place_36 : decode cX10_place 36 = .ok (.ireturn, 1) := by decide +kernel
theorem dX10_place_37 : decode cX10_place 37 = .ok (.aload_n 0, 1) := by decide +kernel
theorem dX10_place_38 : decode cX10_place 38 = .ok (.getfield 10, 3) := by decide +kernel
theorem dX10_place_41 : decode cX10_place 41 = .ok (.new 79, 3) := by decide +kernel
theorem dX10_place_44 : decode cX10_place 44 = .ok (.dup, 1) := by decide +kernel
theorem dX10_place_45 : decode cX10_place 45 = .ok (.aload_n 0, 1) := by decide +kernel
theorem dX10_place_46 : decode cX10_place 46 = .ok (.getfield 10, 3) := by decide +kernel
theorem dX10_place_49 : decode cX10_place 49 = .ok (.invokevirtual 75, 3) := by decide +kernel
theorem dX10_place_52 : decode cX10_place 52 = .ok (.iload_n 1, 1) := by decide +kernel
theorem dX10_place_53 : decode cX10_place 53 = .ok (.iload_n 2, 1) := by decide +kernel
theorem dX10_place_54 : decode cX10_place 54 = .ok (.invokespecial 81, 3) := by decide +kernel
theorem dX10_place_57 : decode cX10_place 57 = .ok (.invokevirtual 33, 3) := by decide +kernel
theorem dX10_place_60 : decode cX10_place 60 = .ok (.pop, 1) := by decide +kernel
theorem dX10_place_61 : decode cX10_place 61 = .ok (.aload_n 0, 1) := by decide +kernel
theorem dX10_place_62 : decode cX10_place 62 = .ok (.getfield 10, 3) := by decide +kernel
theorem dX10_place_65 : decode cX10_place 65 = .ok (.invokevirtual 75, 3) := by decide +kernel
theorem dX10_place_68 : decode cX10_place 68 = .ok (.iconst 1, 1) := by decide +kernel
theorem dX10_place_69 : decode cX10_place 69 = .ok (.isub, 1) := by decide +kernel
theorem dX10_place_70 : decode cX10_place 70 = .ok (.ireturn, 1) := by decide +kernel
theorem dX10_tide_0 : decode cX10_tide 0 = .ok (.aload_n 0, 1) := by decide +kernel
theorem dX10_tide_1 : decode cX10_tide 1 = .ok (.iload_n 1, 1) := by decide +kernel
theorem dX10_tide_2 : decode cX10_tide 2 = .ok (.invokevirtual 84, 3) := by decide +kernel
theorem dX10_tide_5 : decode cX10_tide 5 = .ok (.astore 4, 2) := by decide +kernel
theorem dX10_tide_7 : decode cX10_tide 7 = .ok (.aload 4, 2) := by decide +kernel
theorem dX10_tide_9 : decode cX10_tide 9 = .ok (.ifnull 19, 3) := by decide +kernel
theorem dX10_tide_12 : decode cX10_tide 12 = .ok (.iload_n 2, 1) := by decide +kernel
theorem dX10_tide_13 : decode cX10_tide 13 = .ok (.ifCond .lt 15, 3) := by decide +kernel
theorem dX10_tide_16 : decode cX10_tide 16 = .ok (.iload_n 2, 1) := by decide +kernel
theorem dX10_tide_17 : decode cX10_tide 17 = .ok (.iload_n 3, 1) := by decide +kernel
theorem dX10_tide_18 : decode cX10_tide 18 = .ok (.if_icmp .gt 10, 3) := by decide +kernel
theorem dX10_tide_21 : decode cX10_tide 21 = .ok (.iload_n 3, 1) := by decide +kernel
theorem dX10_tide_22 : decode cX10_tide 22 = .ok (.sipush 600, 3) := by decide +kernel
theorem dX10_tide_25 : decode cX10_tide 25 = .ok (.if_icmp .le 5, 3) := by decide +kernel
theorem dX10_tide_28 : decode cX10_tide 28 = .ok (.iconst (-1), 1) := by decide +kernel
theorem dX10_tide_29 : decode cX10_tide 29 = .ok (.ireturn, 1) := by decide +kernel
theorem dX10_tide_30 : decode cX10_tide 30 = .ok (.aload 4, 2) := by decide +kernel
theorem dX10_tide_32 : decode cX10_tide 32 = .ok (.iload_n 2, 1) := by decide +kernel
theorem dX10_tide_33 : decode cX10_tide 33 = .ok (.putfield 88, 3) := by decide +kernel
theorem dX10_tide_36 : decode cX10_tide 36 = .ok (.aload 4, 2) := by decide +kernel
theorem dX10_tide_38 : decode cX10_tide 38 = .ok (.iload_n 3, 1) := by decide +kernel
theorem dX10_tide_39 : decode cX10_tide 39 = .ok (.putfield 92, 3) := by decide +kernel
theorem dX10_tide_42 : decode cX10_tide 42 = .ok (.iconst 1, 1) := by decide +kernel
theorem dX10_tide_43 : decode cX10_tide 43 = .ok (.ireturn, 1) := by decide +kernel
theorem dX10_rain_0 : decode cX10_rain 0 = .ok (.iload_n 1, 1) := by decide +kernel
theorem dX10_rain_1 : decode cX10_rain 1 = .ok (.aload_n 0, 1) := by decide +kernel
theorem dX10_rain_2 : decode cX10_rain 2 = .ok (.getfield 95, 3) := by decide +kernel
theorem dX10_rain_5 : decode cX10_rain 5 = .ok (.if_icmp .lt 14, 3) := by decide +kernel
theorem dX10_rain_8 : decode cX10_rain 8 = .ok (.iload_n 1, 1) := by decide +kernel
theorem dX10_rain_9 : decode cX10_rain 9 = .ok (.iload_n 2, 1) := by decide +kernel
theorem dX10_rain_10 : decode cX10_rain 10 = .ok (.if_icmp .ge 9, 3) := by decide +kernel
theorem dX10_rain_13 : decode cX10_rain 13 = .ok (.iload_n 2, 1) := by decide +kernel
theorem dX10_rain_14 : decode cX10_rain 14 = .ok (.ldc 98, 2) := by decide +kernel
theorem dX10_rain_16 : decode cX10_rain 16 = .ok (.if_icmp .le 5, 3) := by decide +kernel
theorem dX10_rain_19 : decode cX10_rain 19 = .ok (.iconst (-1), 1) := by decide +kernel
theorem dX10_rain_20 : decode cX10_rain 20 = .ok (.ireturn, 1) := by decide +kernel
theorem dX10_rain_21 : decode cX10_rain 21 = .ok (.aload_n 0, 1) := by decide +kernel
theorem dX10_rain_22 : decode cX10_rain 22 = .ok (.getfield 40, 3) := by decide +kernel
theorem dX10_rain_25 : decode cX10_rain 25 = .ok (.getfield 99, 3) := by decide +kernel
theorem dX10_rain_28 : decode cX10_rain 28 = .ok (.bipush 20, 2) := by decide +kernel
theorem dX10_rain_30 : decode cX10_rain 30 = .ok (.if_icmp .lt 6, 3) := by decide +kernel
theorem dX10_rain_33 : decode cX10_rain 33 = .ok (.bipush (-3), 2) := by decide +kernel
theorem dX10_rain_35 : decode cX10_rain 35 = .ok (.ireturn, 1) := by decide +kernel
theorem dX10_rain_36 : decode cX10_rain 36 = .ok (.aload_n 0, 1) := by decide +kernel
theorem dX10_rain_37 : decode cX10_rain 37 = .ok (.getfield 40, 3) := by decide +kernel
theorem dX10_rain_40 : decode cX10_rain 40 = .ok (.iload_n 1, 1) := by decide +kernel
theorem dX10_rain_41 : decode cX10_rain 41 = .ok (.iload_n 2, 1) := by decide +kernel
theorem dX10_rain_42 : decode cX10_rain 42 = .ok (.invokevirtual 102, 3) := by decide +kernel
theorem dX10_rain_45 : decode cX10_rain 45 = .ok (.aload_n 0, 1) := by decide +kernel
theorem dX10_rain_46 : decode cX10_rain 46 = .ok (.getfield 40, 3) := by decide +kernel
theorem dX10_rain_49 : decode cX10_rain 49 = .ok (.getfield 99, 3) := by decide +kernel
theorem dX10_rain_52 : decode cX10_rain 52 = .ok (.ireturn, 1) := by decide +kernel
theorem dX10_way_0 : decode cX10_way 0 = .ok (.aload_n 0, 1) := by decide +kernel
theorem dX10_way_1 : decode cX10_way 1 = .ok (.iload_n 1, 1) := by decide +kernel
theorem dX10_way_2 : decode cX10_way 2 = .ok (.invokevirtual 84, 3) := by decide +kernel
theorem dX10_way_5 : decode cX10_way 5 = .ok (.astore 4, 2) := by decide +kernel
theorem dX10_way_7 : decode cX10_way 7 = .ok (.aload_n 0, 1) := by decide +kernel
theorem dX10_way_8 : decode cX10_way 8 = .ok (.iload_n 2, 1) := by decide +kernel
theorem dX10_way_9 : decode cX10_way 9 = .ok (.invokevirtual 84, 3) := by decide +kernel
theorem dX10_way_12 : decode cX10_way 12 = .ok (.astore 5, 2) := by decide +kernel
theorem dX10_way_14 : decode cX10_way 14 = .ok (.aload 4, 2) := by decide +kernel
theorem dX10_way_16 : decode cX10_way 16 = .ok (.ifnull 13, 3) := by decide +kernel
theorem dX10_way_19 : decode cX10_way 19 = .ok (.aload 5, 2) := by decide +kernel
theorem dX10_way_21 : decode cX10_way 21 = .ok (.ifnull 8, 3) := by decide +kernel
theorem dX10_way_24 : decode cX10_way 24 = .ok (.iload_n 1, 1) := by decide +kernel
theorem dX10_way_25 : decode cX10_way 25 = .ok (.iload_n 2, 1) := by decide +kernel
theorem dX10_way_26 : decode cX10_way 26 = .ok (.if_icmp .ne 5, 3) := by decide +kernel
theorem dX10_way_29 : decode cX10_way 29 = .ok (.iconst (-1), 1) := by decide +kernel
theorem dX10_way_30 : decode cX10_way 30 = .ok (.ireturn, 1) := by decide +kernel
theorem dX10_way_31 : decode cX10_way 31 = .ok (.iload_n 3, 1) := by decide +kernel
theorem dX10_way_32 : decode cX10_way 32 = .ok (.tableswitch 53 0 2 #[28, 36, 44], 28) := by decide +kernel
theorem dX10_way_60 : decode cX10_way 60 = .ok (.aload 4, 2) := by decide +kernel
theorem dX10_way_62 : decode cX10_way 62 = .ok (.aload 5, 2) := by decide +kernel
theorem dX10_way_64 : decode cX10_way 64 = .ok (.invokevirtual 106, 3) := by decide +kernel
theorem dX10_way_67 : decode cX10_way 67 = .ok (.ireturn, 1) := by decide +kernel
theorem dX10_way_68 : decode cX10_way 68 = .ok (.aload 4, 2) := by decide +kernel
theorem dX10_way_70 : decode cX10_way 70 = .ok (.aload 5, 2) := by decide +kernel
theorem dX10_way_72 : decode cX10_way 72 = .ok (.invokevirtual 110, 3) := by decide +kernel
theorem dX10_way_75 : decode cX10_way 75 = .ok (.ireturn, 1) := by decide +kernel
theorem dX10_way_76 : decode cX10_way 76 = .ok (.aload_n 0, 1) := by decide +kernel
theorem dX10_way_77 : decode cX10_way 77 = .ok (.aload 4, 2) := by decide +kernel
theorem dX10_way_79 : decode cX10_way 79 = .ok (.aload 5, 2) := by decide +kernel
theorem dX10_way_81 : decode cX10_way 81 = .ok (.invokevirtual 113, 3) := by decide +kernel
theorem dX10_way_84 : decode cX10_way 84 = .ok (.ireturn, 1) := by decide +kernel
theorem dX10_way_85 : decode cX10_way 85 = .ok (.iconst (-1), 1) := by decide +kernel
theorem dX10_way_86 : decode cX10_way 86 = .ok (.ireturn, 1) := by decide +kernel
theorem dX10_man_0 : decode cX10_man 0 = .ok (.aload_n 0, 1) := by decide +kernel
theorem dX10_man_1 : decode cX10_man 1 = .ok (.iload_n 1, 1) := by decide +kernel
theorem dX10_man_2 : decode cX10_man 2 = .ok (.invokevirtual 117, 3) := by decide +kernel
theorem dX10_man_5 : decode cX10_man 5 = .ok (.ifnull 33, 3) := by decide +kernel
theorem dX10_man_8 : decode cX10_man 8 = .ok (.iload_n 2, 1) := by decide +kernel
theorem dX10_man_9 : decode cX10_man 9 = .ok (.iconst 1, 1) := by decide +kernel
theorem dX10_man_10 : decode cX10_man 10 = .ok (.bipush 99, 2) := by decide +kernel
theorem dX10_man_12 : decode cX10_man 12 = .ok (.invokestatic 71, 3) := by decide +kernel
theorem dX10_man_15 : decode cX10_man 15 = .ok (.ifCond .eq 23, 3) := by decide +kernel
theorem dX10_man_18 : decode cX10_man 18 = .ok (.iload_n 3, 1) := by decide +kernel
theorem dX10_man_19 : decode cX10_man 19 = .ok (.bipush 16, 2) := by decide +kernel
theorem dX10_man_21 : decode cX10_man 21 = .ok (.bipush 90, 2) := by decide +kernel
theorem dX10_man_23 : decode cX10_man 23 = .ok (.invokestatic 71, 3) := by decide +kernel
theorem dX10_man_26 : decode cX10_man 26 = .ok (.ifCond .eq 12, 3) := by decide +kernel
theorem dX10_man_29 : decode cX10_man 29 = .ok (.aload_n 0, 1) := by decide +kernel
theorem dX10_man_30 : decode cX10_man 30 = .ok (.iload 4, 2) := by decide +kernel
theorem dX10_man_32 : decode cX10_man 32 = .ok (.invokevirtual 84, 3) := by decide +kernel
theorem dX10_man_35 : decode cX10_man 35 = .ok (.ifnonnull 5, 3) := by decide +kernel
theorem dX10_man_38 : decode cX10_man 38 = .ok (.iconst (-1), 1) := by decide +kernel
theorem dX10_man_39 : decode cX10_man 39 = .ok (.ireturn, 1) := by decide +kernel
theorem dX10_man_40 : decode cX10_man 40 = .ok (.aload_n 0, 1) := by decide +kernel
theorem dX10_man_41 : decode cX10_man 41 = .ok (.getfield 16, 3) := by decide +kernel
theorem dX10_man_44 : decode cX10_man 44 = .ok (.invokevirtual 75, 3) := by decide +kernel
theorem dX10_man_47 : decode cX10_man 47 = .ok (.bipush 60, 2) := by decide +kernel
theorem dX10_man_49 : decode cX10_man 49 = .ok (.if_icmp .lt 6, 3) := by decide +kernel
theorem dX10_man_52 : decode cX10_man 52 = .ok (.bipush (-3), 2) := by decide +kernel
theorem dX10_man_54 : decode cX10_man 54 = .ok (.ireturn, 1) := by decide +kernel
theorem dX10_man_55 : decode cX10_man 55 = .ok (.aload_n 0, 1) := by decide +kernel
theorem dX10_man_56 : decode cX10_man 56 = .ok (.getfield 16, 3) := by decide +kernel
theorem dX10_man_59 : decode cX10_man 59 = .ok (.new 121, 3) := by decide +kernel
theorem dX10_man_62 : decode cX10_man 62 = .ok (.dup, 1) := by decide +kernel
theorem dX10_man_63 : decode cX10_man 63 = .ok (.aload_n 0, 1) := by decide +kernel
theorem dX10_man_64 : decode cX10_man 64 = .ok (.getfield 16, 3) := by decide +kernel
theorem dX10_man_67 : decode cX10_man 67 = .ok (.invokevirtual 75, 3) := by decide +kernel
theorem dX10_man_70 : decode cX10_man 70 = .ok (.iload_n 1, 1) := by decide +kernel
theorem dX10_man_71 : decode cX10_man 71 = .ok (.iload_n 2, 1) := by decide +kernel
theorem dX10_man_72 : decode cX10_man 72 = .ok (.iload_n 3, 1) := by decide +kernel
theorem dX10_man_73 : decode cX10_man 73 = .ok (.invokespecial 123, 3) := by decide +kernel
theorem dX10_man_76 : decode cX10_man 76 = .ok (.invokevirtual 33, 3) := by decide +kernel
theorem dX10_man_79 : decode cX10_man 79 = .ok (.pop, 1) := by decide +kernel
theorem dX10_man_80 : decode cX10_man 80 = .ok (.aload_n 0, 1) := by decide +kernel
theorem dX10_man_81 : decode cX10_man 81 = .ok (.getfield 16, 3) := by decide +kernel
theorem dX10_man_84 : decode cX10_man 84 = .ok (.invokevirtual 75, 3) := by decide +kernel
theorem dX10_man_87 : decode cX10_man 87 = .ok (.iconst 1, 1) := by decide +kernel
theorem dX10_man_88 : decode cX10_man 88 = .ok (.isub, 1) := by decide +kernel
theorem dX10_man_89 : decode cX10_man 89 = .ok (.ireturn, 1) := by decide +kernel
theorem dX10_join_0 : decode cX10_join 0 = .ok (.aload_n 0, 1) := by decide +kernel
theorem dX10_join_1 : decode cX10_join 1 = .ok (.iload_n 1, 1) := by decide +kernel
theorem dX10_join_2 : decode cX10_join 2 = .ok (.invokevirtual 126, 3) := by decide +kernel
theorem dX10_join_5 : decode cX10_join 5 = .ok (.astore_n 2, 1) := by decide +kernel
theorem dX10_join_6 : decode cX10_join 6 = .ok (.aload_n 0, 1) := by decide +kernel
theorem dX10_join_7 : decode cX10_join 7 = .ok (.aload_n 2, 1) := by decide +kernel
theorem dX10_join_8 : decode cX10_join 8 = .ok (.invokevirtual 130, 3) := by decide +kernel
theorem dX10_join_11 : decode cX10_join 11 = .ok (.astore_n 3, 1) := by decide +kernel
theorem dX10_join_12 : decode cX10_join 12 = .ok (.aload_n 2, 1) := by decide +kernel
theorem dX10_join_13 : decode cX10_join 13 = .ok (.ifnull 7, 3) := by decide +kernel
theorem dX10_join_16 : decode cX10_join 16 = .ok (.aload_n 3, 1) := by decide +kernel
theorem dX10_join_17 : decode cX10_join 17 = .ok (.ifnonnull 5, 3) := by decide +kernel
theorem dX10_join_20 : decode cX10_join 20 = .ok (.iconst (-1), 1) := by decide +kernel
theorem dX10_join_21 : decode cX10_join 21 = .ok (.ireturn, 1) := by decide +kernel
theorem dX10_join_22 : decode cX10_join 22 = .ok (.aload_n 3, 1) := by decide +kernel
theorem dX10_join_23 : decode cX10_join 23 = .ok (.iload_n 1, 1) := by decide +kernel
theorem dX10_join_24 : decode cX10_join 24 = .ok (.invokevirtual 134, 3) := by decide +kernel
theorem dX10_join_27 : decode cX10_join 27 = .ok (.ifCond .ge 21, 3) := by decide +kernel
theorem dX10_join_30 : decode cX10_join 30 = .ok (.aload_n 2, 1) := by decide +kernel
theorem dX10_join_31 : decode cX10_join 31 = .ok (.aload_n 0, 1) := by decide +kernel
theorem dX10_join_32 : decode cX10_join 32 = .ok (.getfield 95, 3) := by decide +kernel
theorem dX10_join_35 : decode cX10_join 35 = .ok (.invokevirtual 138, 3) := by decide +kernel
theorem dX10_join_38 : decode cX10_join 38 = .ok (.ifCond .eq 10, 3) := by decide +kernel
theorem dX10_join_41 : decode cX10_join 41 = .ok (.aload_n 2, 1) := by decide +kernel
theorem dX10_join_42 : decode cX10_join 42 = .ok (.getfield 142, 3) := by decide +kernel
theorem dX10_join_45 : decode cX10_join 45 = .ok (.ifCond .eq 6, 3) := by decide +kernel
theorem dX10_join_48 : decode cX10_join 48 = .ok (.bipush (-2), 2) := by decide +kernel
theorem dX10_join_50 : decode cX10_join 50 = .ok (.ireturn, 1) := by decide +kernel
theorem dX10_join_51 : decode cX10_join 51 = .ok (.aload_n 3, 1) := by decide +kernel
theorem dX10_join_52 : decode cX10_join 52 = .ok (.getfield 146, 3) := by decide +kernel
theorem dX10_join_55 : decode cX10_join 55 = .ok (.aload_n 2, 1) := by decide +kernel
theorem dX10_join_56 : decode cX10_join 56 = .ok (.invokevirtual 33, 3) := by decide +kernel
theorem dX10_join_59 : decode cX10_join 59 = .ok (.pop, 1) := by decide +kernel
theorem dX10_join_60 : decode cX10_join 60 = .ok (.aload_n 3, 1) := by decide +kernel
theorem dX10_join_61 : decode cX10_join 61 = .ok (.getfield 146, 3) := by decide +kernel
theorem dX10_join_64 : decode cX10_join 64 = .ok (.invokevirtual 75, 3) := by decide +kernel
theorem dX10_join_67 : decode cX10_join 67 = .ok (.ireturn, 1) := by decide +kernel
theorem dX10_leave_0 : decode cX10_leave 0 = .ok (.aload_n 0, 1) := by decide +kernel
theorem dX10_leave_1 : decode cX10_leave 1 = .ok (.aload_n 0, 1) := by decide +kernel
theorem dX10_leave_2 : decode cX10_leave 2 = .ok (.iload_n 1, 1) := by decide +kernel
theorem dX10_leave_3 : decode cX10_leave 3 = .ok (.invokevirtual 126, 3) := by decide +kernel
theorem dX10_leave_6 : decode cX10_leave 6 = .ok (.invokevirtual 130, 3) := by decide +kernel
theorem dX10_leave_9 : decode cX10_leave 9 = .ok (.astore_n 2, 1) := by decide +kernel
theorem dX10_leave_10 : decode cX10_leave 10 = .ok (.aload_n 2, 1) := by decide +kernel
theorem dX10_leave_11 : decode cX10_leave 11 = .ok (.ifnonnull 5, 3) := by decide +kernel
theorem dX10_leave_14 : decode cX10_leave 14 = .ok (.iconst (-1), 1) := by decide +kernel
theorem dX10_leave_15 : decode cX10_leave 15 = .ok (.ireturn, 1) := by decide +kernel
theorem dX10_leave_16 : decode cX10_leave 16 = .ok (.aload_n 2, 1) := by decide +kernel
theorem dX10_leave_17 : decode cX10_leave 17 = .ok (.iload_n 1, 1) := by decide +kernel
theorem dX10_leave_18 : decode cX10_leave 18 = .ok (.invokevirtual 149, 3) := by decide +kernel
theorem dX10_leave_21 : decode cX10_leave 21 = .ok (.ifCond .eq 7, 3) := by decide +kernel
theorem dX10_leave_24 : decode cX10_leave 24 = .ok (.iconst 1, 1) := by decide +kernel
theorem dX10_leave_25 : decode cX10_leave 25 = .ok (.goto 5, 3) := by decide +kernel
theorem dX10_leave_28 : decode cX10_leave 28 = .ok (.bipush (-2), 2) := by decide +kernel
theorem dX10_leave_30 : decode cX10_leave 30 = .ok (.ireturn, 1) := by decide +kernel
theorem dX10_gone_0 : decode cX10_gone 0 = .ok (.aload_n 0, 1) := by decide +kernel
theorem dX10_gone_1 : decode cX10_gone 1 = .ok (.iload_n 1, 1) := by decide +kernel
theorem dX10_gone_2 : decode cX10_gone 2 = .ok (.invokevirtual 126, 3) := by decide +kernel
theorem dX10_gone_5 : decode cX10_gone 5 = .ok (.astore_n 2, 1) := by decide +kernel
theorem dX10_gone_6 : decode cX10_gone 6 = .ok (.aload_n 0, 1) := by decide +kernel
theorem dX10_gone_7 : decode cX10_gone 7 = .ok (.aload_n 2, 1) := by decide +kernel
theorem dX10_gone_8 : decode cX10_gone 8 = .ok (.invokevirtual 130, 3) := by decide +kernel
theorem dX10_gone_11 : decode cX10_gone 11 = .ok (.astore_n 3, 1) := by decide +kernel
theorem dX10_gone_12 : decode cX10_gone 12 = .ok (.aload_n 2, 1) := by decide +kernel
theorem dX10_gone_13 : decode cX10_gone 13 = .ok (.ifnull 7, 3) := by decide +kernel
theorem dX10_gone_16 : decode cX10_gone 16 = .ok (.aload_n 3, 1) := by decide +kernel
theorem dX10_gone_17 : decode cX10_gone 17 = .ok (.ifnonnull 5, 3) := by decide +kernel
theorem dX10_gone_20 : decode cX10_gone 20 = .ok (.iconst (-1), 1) := by decide +kernel
theorem dX10_gone_21 : decode cX10_gone 21 = .ok (.ireturn, 1) := by decide +kernel
theorem dX10_gone_22 : decode cX10_gone 22 = .ok (.aload_n 2, 1) := by decide +kernel
theorem dX10_gone_23 : decode cX10_gone 23 = .ok (.getfield 142, 3) := by decide +kernel
theorem dX10_gone_26 : decode cX10_gone 26 = .ok (.ifCond .ne 14, 3) := by decide +kernel
theorem dX10_gone_29 : decode cX10_gone 29 = .ok (.aload_n 2, 1) := by decide +kernel
theorem dX10_gone_30 : decode cX10_gone 30 = .ok (.aload_n 0, 1) := by decide +kernel
theorem dX10_gone_31 : decode cX10_gone 31 = .ok (.getfield 95, 3) := by decide +kernel
theorem dX10_gone_34 : decode cX10_gone 34 = .ok (.invokevirtual 138, 3) := by decide +kernel
theorem dX10_gone_37 : decode cX10_gone 37 = .ok (.ifCond .ne 6, 3) := by decide +kernel
theorem dX10_gone_40 : decode cX10_gone 40 = .ok (.bipush (-2), 2) := by decide +kernel
theorem dX10_gone_42 : decode cX10_gone 42 = .ok (.ireturn, 1) := by decide +kernel
theorem dX10_gone_43 : decode cX10_gone 43 = .ok (.aload_n 2, 1) := by decide +kernel
theorem dX10_gone_44 : decode cX10_gone 44 = .ok (.iconst 1, 1) := by decide +kernel
theorem dX10_gone_45 : decode cX10_gone 45 = .ok (.putfield 142, 3) := by decide +kernel
theorem dX10_gone_48 : decode cX10_gone 48 = .ok (.aload_n 3, 1) := by decide +kernel
theorem dX10_gone_49 : decode cX10_gone 49 = .ok (.iload_n 1, 1) := by decide +kernel
theorem dX10_gone_50 : decode cX10_gone 50 = .ok (.invokevirtual 149, 3) := by decide +kernel
theorem dX10_gone_53 : decode cX10_gone 53 = .ok (.pop, 1) := by decide +kernel
theorem dX10_gone_54 : decode cX10_gone 54 = .ok (.iconst 1, 1) := by decide +kernel
theorem dX10_gone_55 : decode cX10_gone 55 = .ok (.ireturn, 1) := by decide +kernel
theorem dX10_about_0 : decode cX10_about 0 = .ok (.aload_n 0, 1) := by decide +kernel
theorem dX10_about_1 : decode cX10_about 1 = .ok (.iload_n 1, 1) := by decide +kernel
theorem dX10_about_2 : decode cX10_about 2 = .ok (.invokevirtual 126, 3) := by decide +kernel
theorem dX10_about_5 : decode cX10_about 5 = .ok (.astore_n 3, 1) := by decide +kernel
theorem dX10_about_6 : decode cX10_about 6 = .ok (.aload_n 0, 1) := by decide +kernel
theorem dX10_about_7 : decode cX10_about 7 = .ok (.aload_n 3, 1) := by decide +kernel
theorem dX10_about_8 : decode cX10_about 8 = .ok (.invokevirtual 130, 3) := by decide +kernel
theorem dX10_about_11 : decode cX10_about 11 = .ok (.astore 4, 2) := by decide +kernel
theorem dX10_about_13 : decode cX10_about 13 = .ok (.aload_n 3, 1) := by decide +kernel
theorem dX10_about_14 : decode cX10_about 14 = .ok (.ifnull 8, 3) := by decide +kernel
theorem dX10_about_17 : decode cX10_about 17 = .ok (.aload 4, 2) := by decide +kernel
theorem dX10_about_19 : decode cX10_about 19 = .ok (.ifnonnull 6, 3) := by decide +kernel
theorem dX10_about_22 : decode cX10_about 22 = .ok (.bipush (-2), 2) := by decide +kernel
theorem dX10_about_24 : decode cX10_about 24 = .ok (.ireturn, 1) := by decide +kernel
theorem dX10_about_25 : decode cX10_about 25 = .ok (.iload_n 2, 1) := by decide +kernel
theorem dX10_about_26 : decode cX10_about 26 = .ok (.tableswitch 114 0 9 #[54, 59, 64, 69, 74, 79, 84, 89, 96, 109], 54) := by decide +kernel
theorem dX10_about_80 : decode cX10_about 80 = .ok (.aload_n 3, 1) := by decide +kernel
theorem dX10_about_81 : decode cX10_about 81 = .ok (.getfield 152, 3) := by decide +kernel
theorem dX10_about_84 : decode cX10_about 84 = .ok (.ireturn, 1) := by decide +kernel
theorem dX10_about_85 : decode cX10_about 85 = .ok (.aload_n 3, 1) := by decide +kernel
theorem dX10_about_86 : decode cX10_about 86 = .ok (.getfield 155, 3) := by decide +kernel
theorem dX10_about_89 : decode cX10_about 89 = .ok (.ireturn, 1) := by decide +kernel
theorem dX10_about_90 : decode cX10_about 90 = .ok (.aload_n 3, 1) := by decide +kernel
theorem dX10_about_91 : decode cX10_about 91 = .ok (.getfield 158, 3) := by decide +kernel
theorem dX10_about_94 : decode cX10_about 94 = .ok (.ireturn, 1) := by decide +kernel
theorem dX10_about_95 : decode cX10_about 95 = .ok (.aload_n 3, 1) := by decide +kernel
theorem dX10_about_96 : decode cX10_about 96 = .ok (.getfield 161, 3) := by decide +kernel
theorem dX10_about_99 : decode cX10_about 99 = .ok (.ireturn, 1) := by decide +kernel
theorem dX10_about_100 : decode cX10_about 100 = .ok (.aload_n 3, 1) := by decide +kernel
theorem dX10_about_101 : decode cX10_about 101 = .ok (.getfield 164, 3) := by decide +kernel
theorem dX10_about_104 : decode cX10_about 104 = .ok (.ireturn, 1) := by decide +kernel
theorem dX10_about_105 : decode cX10_about 105 = .ok (.aload_n 3, 1) := by decide +kernel
theorem dX10_about_106 : decode cX10_about 106 = .ok (.getfield 167, 3) := by decide +kernel
theorem dX10_about_109 : decode cX10_about 109 = .ok (.ireturn, 1) := by decide +kernel
theorem dX10_about_110 : decode cX10_about 110 = .ok (.aload_n 3, 1) := by decide +kernel
theorem dX10_about_111 : decode cX10_about 111 = .ok (.getfield 170, 3) := by decide +kernel
theorem dX10_about_114 : decode cX10_about 114 = .ok (.ireturn, 1) := by decide +kernel
theorem dX10_about_115 : decode cX10_about 115 = .ok (.aload 4, 2) := by decide +kernel
theorem dX10_about_117 : decode cX10_about 117 = .ok (.iload_n 1, 1) := by decide +kernel
theorem dX10_about_118 : decode cX10_about 118 = .ok (.invokevirtual 134, 3) := by decide +kernel
theorem dX10_about_121 : decode cX10_about 121 = .ok (.ireturn, 1) := by decide +kernel
theorem dX10_about_122 : decode cX10_about 122 = .ok (.aload_n 3, 1) := by decide +kernel
theorem dX10_about_123 : decode cX10_about 123 = .ok (.getfield 142, 3) := by decide +kernel
theorem dX10_about_126 : decode cX10_about 126 = .ok (.ifCond .eq 7, 3) := by decide +kernel
theorem dX10_about_129 : decode cX10_about 129 = .ok (.iconst 1, 1) := by decide +kernel
theorem dX10_about_130 : decode cX10_about 130 = .ok (.goto 4, 3) := by decide +kernel
theorem dX10_about_133 : decode cX10_about 133 = .ok (.iconst 0, 1) := by decide +kernel
theorem dX10_about_134 : decode cX10_about 134 = .ok (.ireturn, 1) := by decide +kernel
theorem dX10_about_135 : decode cX10_about 135 = .ok (.aload_n 3, 1) := by decide +kernel
theorem dX10_about_136 : decode cX10_about 136 = .ok (.getfield 173, 3) := by decide +kernel
theorem dX10_about_139 : decode cX10_about 139 = .ok (.ireturn, 1) := by decide +kernel
theorem dX10_about_140 : decode cX10_about 140 = .ok (.bipush (-2), 2) := by decide +kernel
theorem dX10_about_142 : decode cX10_about 142 = .ok (.ireturn, 1) := by decide +kernel
theorem dX10_turn_0 : decode cX10_turn 0 = .ok (.aload_n 0, 1) := by decide +kernel
theorem dX10_turn_1 : decode cX10_turn 1 = .ok (.iload_n 1, 1) := by decide +kernel
theorem dX10_turn_2 : decode cX10_turn 2 = .ok (.invokevirtual 117, 3) := by decide +kernel
theorem dX10_turn_5 : decode cX10_turn 5 = .ok (.astore_n 3, 1) := by decide +kernel
theorem dX10_turn_6 : decode cX10_turn 6 = .ok (.aload_n 3, 1) := by decide +kernel
theorem dX10_turn_7 : decode cX10_turn 7 = .ok (.ifnull 18, 3) := by decide +kernel
theorem dX10_turn_10 : decode cX10_turn 10 = .ok (.iload_n 2, 1) := by decide +kernel
theorem dX10_turn_11 : decode cX10_turn 11 = .ok (.ifCond .lt 14, 3) := by decide +kernel
theorem dX10_turn_14 : decode cX10_turn 14 = .ok (.iload_n 2, 1) := by decide +kernel
theorem dX10_turn_15 : decode cX10_turn 15 = .ok (.aload_n 3, 1) := by decide +kernel
theorem dX10_turn_16 : decode cX10_turn 16 = .ok (.getfield 146, 3) := by decide +kernel
theorem dX10_turn_19 : decode cX10_turn 19 = .ok (.invokevirtual 75, 3) := by decide +kernel
theorem dX10_turn_22 : decode cX10_turn 22 = .ok (.if_icmp .lt 5, 3) := by decide +kernel
theorem dX10_turn_25 : decode cX10_turn 25 = .ok (.iconst (-1), 1) := by decide +kernel
theorem dX10_turn_26 : decode cX10_turn 26 = .ok (.ireturn, 1) := by decide +kernel
theorem dX10_turn_27 : decode cX10_turn 27 = .ok (.aload_n 3, 1) := by decide +kernel
theorem dX10_turn_28 : decode cX10_turn 28 = .ok (.getfield 146, 3) := by decide +kernel
theorem dX10_turn_31 : decode cX10_turn 31 = .ok (.iload_n 2, 1) := by decide +kernel
theorem dX10_turn_32 : decode cX10_turn 32 = .ok (.invokevirtual 176, 3) := by decide +kernel
theorem dX10_turn_35 : decode cX10_turn 35 = .ok (.checkcast 121, 3) := by decide +kernel
theorem dX10_turn_38 : decode cX10_turn 38 = .ok (.getfield 180, 3) := by decide +kernel
theorem dX10_turn_41 : decode cX10_turn 41 = .ok (.ireturn, 1) := by decide +kernel
theorem dX10_dice_0 : decode cX10_dice 0 = .ok (.aload_n 0, 1) := by decide +kernel
theorem dX10_dice_1 : decode cX10_dice 1 = .ok (.iload_n 1, 1) := by decide +kernel
theorem dX10_dice_2 : decode cX10_dice 2 = .ok (.invokevirtual 117, 3) := by decide +kernel
theorem dX10_dice_5 : decode cX10_dice 5 = .ok (.astore 4, 2) := by decide +kernel
theorem dX10_dice_7 : decode cX10_dice 7 = .ok (.aload 4, 2) := by decide +kernel
theorem dX10_dice_9 : decode cX10_dice 9 = .ok (.ifnull 12, 3) := by decide +kernel
theorem dX10_dice_12 : decode cX10_dice 12 = .ok (.iload_n 2, 1) := by decide +kernel
theorem dX10_dice_13 : decode cX10_dice 13 = .ok (.iconst 0, 1) := by decide +kernel
theorem dX10_dice_14 : decode cX10_dice 14 = .ok (.iconst 1, 1) := by decide +kernel
theorem dX10_dice_15 : decode cX10_dice 15 = .ok (.invokestatic 71, 3) := by decide +kernel
theorem dX10_dice_18 : decode cX10_dice 18 = .ok (.ifCond .ne 5, 3) := by decide +kernel
theorem dX10_dice_21 : decode cX10_dice 21 = .ok (.iconst (-1), 1) := by decide +kernel
theorem dX10_dice_22 : decode cX10_dice 22 = .ok (.ireturn, 1) := by decide +kernel
theorem dX10_dice_23 : decode cX10_dice 23 = .ok (.aload 4, 2) := by decide +kernel
theorem dX10_dice_25 : decode cX10_dice 25 = .ok (.getfield 183, 3) := by decide +kernel
theorem dX10_dice_28 : decode cX10_dice 28 = .ok (.ifCond .eq 7, 3) := by decide +kernel
theorem dX10_dice_31 : decode cX10_dice 31 = .ok (.iconst 1, 1) := by decide +kernel
theorem dX10_dice_32 : decode cX10_dice 32 = .ok (.goto 4, 3) := by decide +kernel
theorem dX10_dice_35 : decode cX10_dice 35 = .ok (.iconst 0, 1) := by decide +kernel
theorem dX10_dice_36 : decode cX10_dice 36 = .ok (.istore 5, 2) := by decide +kernel
theorem dX10_dice_38 : decode cX10_dice 38 = .ok (.aload 4, 2) := by decide +kernel
theorem dX10_dice_40 : decode cX10_dice 40 = .ok (.iload_n 2, 1) := by decide +kernel
theorem dX10_dice_41 : decode cX10_dice 41 = .ok (.iconst 1, 1) := by decide +kernel
theorem dX10_dice_42 : decode cX10_dice 42 = .ok (.if_icmp .ne 7, 3) := by decide +kernel
theorem dX10_dice_45 : decode cX10_dice 45 = .ok (.iconst 1, 1) := by decide +kernel
theorem dX10_dice_46 : decode cX10_dice 46 = .ok (.goto 4, 3) := by decide +kernel
theorem dX10_dice_49 : decode cX10_dice 49 = .ok (.iconst 0, 1) := by decide +kernel
theorem dX10_dice_50 : decode cX10_dice 50 = .ok (.putfield 183, 3) := by decide +kernel
theorem dX10_dice_53 : decode cX10_dice 53 = .ok (.aload 4, 2) := by decide +kernel
theorem dX10_dice_55 : decode cX10_dice 55 = .ok (.getfield 183, 3) := by decide +kernel
theorem dX10_dice_58 : decode cX10_dice 58 = .ok (.ifCond .eq 9, 3) := by decide +kernel
theorem dX10_dice_61 : decode cX10_dice 61 = .ok (.aload 4, 2) := by decide +kernel
theorem dX10_dice_63 : decode cX10_dice 63 = .ok (.iload_n 3, 1) := by decide +kernel
theorem dX10_dice_64 : decode cX10_dice 64 = .ok (.putfield 186, 3) := by decide +kernel
theorem dX10_dice_67 : decode cX10_dice 67 = .ok (.iload 5, 2) := by decide +kernel
theorem dX10_dice_69 : decode cX10_dice 69 = .ok (.ireturn, 1) := by decide +kernel
theorem dX10_feed_0 : decode cX10_feed 0 = .ok (.aload_n 0, 1) := by decide +kernel
theorem dX10_feed_1 : decode cX10_feed 1 = .ok (.getfield 47, 3) := by decide +kernel
theorem dX10_feed_4 : decode cX10_feed 4 = .ok (.getfield 189, 3) := by decide +kernel
theorem dX10_feed_7 : decode cX10_feed 7 = .ok (.bipush 20, 2) := by decide +kernel
theorem dX10_feed_9 : decode cX10_feed 9 = .ok (.iadd, 1) := by decide +kernel
theorem dX10_feed_10 : decode cX10_feed 10 = .ok (.sipush 200, 3) := by decide +kernel
theorem dX10_feed_13 : decode cX10_feed 13 = .ok (.if_icmp .le 6, 3) := by decide +kernel
theorem dX10_feed_16 : decode cX10_feed 16 = .ok (.bipush (-3), 2) := by decide +kernel
theorem dX10_feed_18 : decode cX10_feed 18 = .ok (.ireturn, 1) := by decide +kernel
theorem dX10_feed_19 : decode cX10_feed 19 = .ok (.aload_n 0, 1) := by decide +kernel
theorem dX10_feed_20 : decode cX10_feed 20 = .ok (.getfield 47, 3) := by decide +kernel
theorem dX10_feed_23 : decode cX10_feed 23 = .ok (.iload_n 1, 1) := by decide +kernel
theorem dX10_feed_24 : decode cX10_feed 24 = .ok (.invokevirtual 192, 3) := by decide +kernel
theorem dX10_feed_27 : decode cX10_feed 27 = .ok (.aload_n 0, 1) := by decide +kernel
theorem dX10_feed_28 : decode cX10_feed 28 = .ok (.getfield 47, 3) := by decide +kernel
theorem dX10_feed_31 : decode cX10_feed 31 = .ok (.iload_n 2, 1) := by decide +kernel
theorem dX10_feed_32 : decode cX10_feed 32 = .ok (.invokevirtual 192, 3) := by decide +kernel
theorem dX10_feed_35 : decode cX10_feed 35 = .ok (.aload_n 0, 1) := by decide +kernel
theorem dX10_feed_36 : decode cX10_feed 36 = .ok (.getfield 47, 3) := by decide +kernel
theorem dX10_feed_39 : decode cX10_feed 39 = .ok (.iload_n 3, 1) := by decide +kernel
theorem dX10_feed_40 : decode cX10_feed 40 = .ok (.invokevirtual 192, 3) := by decide +kernel
theorem dX10_feed_43 : decode cX10_feed 43 = .ok (.aload_n 0, 1) := by decide +kernel
theorem dX10_feed_44 : decode cX10_feed 44 = .ok (.getfield 47, 3) := by decide +kernel
theorem dX10_feed_47 : decode cX10_feed 47 = .ok (.iload 4, 2) := by decide +kernel
theorem dX10_feed_49 : decode cX10_feed 49 = .ok (.invokevirtual 192, 3) := by decide +kernel
theorem dX10_feed_52 : decode cX10_feed 52 = .ok (.aload_n 0, 1) := by decide +kernel
theorem dX10_feed_53 : decode cX10_feed 53 = .ok (.getfield 47, 3) := by decide +kernel
theorem dX10_feed_56 : decode cX10_feed 56 = .ok (.iload 5, 2) := by decide +kernel
theorem dX10_feed_58 : decode cX10_feed 58 = .ok (.invokevirtual 192, 3) := by decide +kernel
theorem dX10_feed_61 : decode cX10_feed 61 = .ok (.aload_n 0, 1) := by decide +kernel
theorem dX10_feed_62 : decode cX10_feed 62 = .ok (.getfield 47, 3) := by decide +kernel
theorem dX10_feed_65 : decode cX10_feed 65 = .ok (.getfield 189, 3) := by decide +kernel
theorem dX10_feed_68 : decode cX10_feed 68 = .ok (.ireturn, 1) := by decide +kernel
theorem dX10_end_0 : decode cX10_end 0 = .ok (.iload_n 1, 1) := by decide +kernel
theorem dX10_end_1 : decode cX10_end 1 = .ok (.iconst 0, 1) := by decide +kernel
theorem dX10_end_2 : decode cX10_end 2 = .ok (.aload_n 0, 1) := by decide +kernel
theorem dX10_end_3 : decode cX10_end 3 = .ok (.getfield 47, 3) := by decide +kernel
theorem dX10_end_6 : decode cX10_end 6 = .ok (.getfield 189, 3) := by decide +kernel
theorem dX10_end_9 : decode cX10_end 9 = .ok (.invokestatic 71, 3) := by decide +kernel
theorem dX10_end_12 : decode cX10_end 12 = .ok (.ifCond .ne 5, 3) := by decide +kernel
theorem dX10_end_15 : decode cX10_end 15 = .ok (.iconst (-1), 1) := by decide +kernel
theorem dX10_end_16 : decode cX10_end 16 = .ok (.ireturn, 1) := by decide +kernel
theorem dX10_end_17 : decode cX10_end 17 = .ok (.aload_n 0, 1) := by decide +kernel
theorem dX10_end_18 : decode cX10_end 18 = .ok (.getfield 47, 3) := by decide +kernel
theorem dX10_end_21 : decode cX10_end 21 = .ok (.iload_n 1, 1) := by decide +kernel
theorem dX10_end_22 : decode cX10_end 22 = .ok (.putfield 189, 3) := by decide +kernel
theorem dX10_end_25 : decode cX10_end 25 = .ok (.iload_n 1, 1) := by decide +kernel
theorem dX10_end_26 : decode cX10_end 26 = .ok (.ireturn, 1) := by decide +kernel
theorem dX10_law_0 : decode cX10_law 0 = .ok (.aload_n 0, 1) := by decide +kernel
theorem dX10_law_1 : decode cX10_law 1 = .ok (.iload_n 1, 1) := by decide +kernel
theorem dX10_law_2 : decode cX10_law 2 = .ok (.invokevirtual 117, 3) := by decide +kernel
theorem dX10_law_5 : decode cX10_law 5 = .ok (.ifnull 17, 3) := by decide +kernel
theorem dX10_law_8 : decode cX10_law 8 = .ok (.iload_n 2, 1) := by decide +kernel
theorem dX10_law_9 : decode cX10_law 9 = .ok (.invokestatic 195, 3) := by decide +kernel
theorem dX10_law_12 : decode cX10_law 12 = .ok (.ifCond .eq 10, 3) := by decide +kernel
theorem dX10_law_15 : decode cX10_law 15 = .ok (.iload_n 3, 1) := by decide +kernel
theorem dX10_law_16 : decode cX10_law 16 = .ok (.invokestatic 198, 3) := by decide +kernel
theorem dX10_law_19 : decode cX10_law 19 = .ok (.ifCond .ne 5, 3) := by decide +kernel
theorem dX10_law_22 : decode cX10_law 22 = .ok (.iconst (-1), 1) := by decide +kernel
theorem dX10_law_23 : decode cX10_law 23 = .ok (.ireturn, 1) := by decide +kernel
theorem dX10_law_24 : decode cX10_law 24 = .ok (.aload_n 0, 1) := by decide +kernel
theorem dX10_law_25 : decode cX10_law 25 = .ok (.getfield 22, 3) := by decide +kernel
theorem dX10_law_28 : decode cX10_law 28 = .ok (.invokevirtual 75, 3) := by decide +kernel
theorem dX10_law_31 : decode cX10_law 31 = .ok (.bipush 40, 2) := by decide +kernel
theorem dX10_law_33 : decode cX10_law 33 = .ok (.if_icmp .lt 6, 3) := by decide +kernel
theorem dX10_law_36 : decode cX10_law 36 = .ok (.bipush (-3), 2) := by decide +kernel
theorem dX10_law_38 : decode cX10_law 38 = .ok (.ireturn, 1) := by decide +kernel
theorem dX10_law_39 : decode cX10_law 39 = .ok (.aload_n 0, 1) := by decide +kernel
theorem dX10_law_40 : decode cX10_law 40 = .ok (.getfield 54, 3) := by decide +kernel
theorem dX10_law_43 : decode cX10_law 43 = .ok (.aload_n 0, 1) := by decide +kernel
theorem dX10_law_44 : decode cX10_law 44 = .ok (.getfield 47, 3) := by decide +kernel
theorem dX10_law_47 : decode cX10_law 47 = .ok (.invokevirtual 201, 3) := by decide +kernel
theorem dX10_law_50 : decode cX10_law 50 = .ok (.istore 4, 2) := by decide +kernel
theorem dX10_law_52 : decode cX10_law 52 = .ok (.aload_n 0, 1) := by decide +kernel
theorem dX10_law_53 : decode cX10_law 53 = .ok (.getfield 47, 3) := by decide +kernel
theorem dX10_law_56 : decode cX10_law 56 = .ok (.iconst 0, 1) := by decide +kernel
theorem dX10_law_57 : decode cX10_law 57 = .ok (.putfield 189, 3) := by decide +kernel
theorem dX10_law_60 : decode cX10_law 60 = .ok (.iload 4, 2) := by decide +kernel
theorem dX10_law_62 : decode cX10_law 62 = .ok (.ifCond .lt 9, 3) := by decide +kernel
theorem dX10_law_65 : decode cX10_law 65 = .ok (.bipush (-100), 2) := by decide +kernel
theorem dX10_law_67 : decode cX10_law 67 = .ok (.iload 4, 2) := by decide +kernel
theorem dX10_law_69 : decode cX10_law 69 = .ok (.isub, 1) := by decide +kernel
theorem dX10_law_70 : decode cX10_law 70 = .ok (.ireturn, 1) := by decide +kernel
theorem dX10_law_71 : decode cX10_law 71 = .ok (.aload_n 0, 1) := by decide +kernel
theorem dX10_law_72 : decode cX10_law 72 = .ok (.getfield 22, 3) := by decide +kernel
theorem dX10_law_75 : decode cX10_law 75 = .ok (.new 205, 3) := by decide +kernel
theorem dX10_law_78 : decode cX10_law 78 = .ok (.dup, 1) := by decide +kernel
theorem dX10_law_79 : decode cX10_law 79 = .ok (.aload_n 0, 1) := by decide +kernel
theorem dX10_law_80 : decode cX10_law 80 = .ok (.getfield 22, 3) := by decide +kernel
theorem dX10_law_83 : decode cX10_law 83 = .ok (.invokevirtual 75, 3) := by decide +kernel
theorem dX10_law_86 : decode cX10_law 86 = .ok (.iload_n 1, 1) := by decide +kernel
theorem dX10_law_87 : decode cX10_law 87 = .ok (.iload_n 2, 1) := by decide +kernel
theorem dX10_law_88 : decode cX10_law 88 = .ok (.aload_n 0, 1) := by decide +kernel
theorem dX10_law_89 : decode cX10_law 89 = .ok (.invokevirtual 207, 3) := by decide +kernel
theorem dX10_law_92 : decode cX10_law 92 = .ok (.iload_n 3, 1) := by decide +kernel
theorem dX10_law_93 : decode cX10_law 93 = .ok (.aload_n 0, 1) := by decide +kernel
theorem dX10_law_94 : decode cX10_law 94 = .ok (.getfield 54, 3) := by decide +kernel
theorem dX10_law_97 : decode cX10_law 97 = .ok (.invokevirtual 210, 3) := by decide +kernel
theorem dX10_law_100 : decode cX10_law 100 = .ok (.invokespecial 214, 3) := by decide +kernel
theorem dX10_law_103 : decode cX10_law 103 = .ok (.invokevirtual 33, 3) := by decide +kernel
theorem dX10_law_106 : decode cX10_law 106 = .ok (.pop, 1) := by decide +kernel
theorem dX10_law_107 : decode cX10_law 107 = .ok (.aload_n 0, 1) := by decide +kernel
theorem dX10_law_108 : decode cX10_law 108 = .ok (.getfield 22, 3) := by decide +kernel
theorem dX10_law_111 : decode cX10_law 111 = .ok (.invokevirtual 75, 3) := by decide +kernel
theorem dX10_law_114 : decode cX10_law 114 = .ok (.iconst 1, 1) := by decide +kernel
theorem dX10_law_115 : decode cX10_law 115 = .ok (.isub, 1) := by decide +kernel
theorem dX10_law_116 : decode cX10_law 116 = .ok (.ireturn, 1) := by decide +kernel
theorem dX10_inForce_0 : decode cX10_inForce 0 = .ok (.aload_n 0, 1) := by decide +kernel
theorem dX10_inForce_1 : decode cX10_inForce 1 = .ok (.iload_n 1, 1) := by decide +kernel
theorem dX10_inForce_2 : decode cX10_inForce 2 = .ok (.invokevirtual 117, 3) := by decide +kernel
theorem dX10_inForce_5 : decode cX10_inForce 5 = .ok (.ifnull 25, 3) := by decide +kernel
theorem dX10_inForce_8 : decode cX10_inForce 8 = .ok (.iload_n 2, 1) := by decide +kernel
theorem dX10_inForce_9 : decode cX10_inForce 9 = .ok (.invokestatic 195, 3) := by decide +kernel
theorem dX10_inForce_12 : decode cX10_inForce 12 = .ok (.ifCond .eq 18, 3) := by decide +kernel
theorem dX10_inForce_15 : decode cX10_inForce 15 = .ok (.iload_n 3, 1) := by decide +kernel
theorem dX10_inForce_16 : decode cX10_inForce 16 = .ok (.invokestatic 198, 3) := by decide +kernel
theorem dX10_inForce_19 : decode cX10_inForce 19 = .ok (.ifCond .eq 11, 3) := by decide +kernel
theorem dX10_inForce_22 : decode cX10_inForce 22 = .ok (.iload 4, 2) := by decide +kernel
theorem dX10_inForce_24 : decode cX10_inForce 24 = .ok (.invokestatic 198, 3) := by decide +kernel
theorem dX10_inForce_27 : decode cX10_inForce 27 = .ok (.ifCond .ne 5, 3) := by decide +kernel
theorem dX10_inForce_30 : decode cX10_inForce 30 = .ok (.iconst (-1), 1) := by decide +kernel
theorem dX10_inForce_31 : decode cX10_inForce 31 = .ok (.ireturn, 1) := by decide +kernel
theorem dX10_inForce_32 : decode cX10_inForce 32 = .ok (.aload_n 0, 1) := by decide +kernel
theorem dX10_inForce_33 : decode cX10_inForce 33 = .ok (.iload_n 1, 1) := by decide +kernel
theorem dX10_inForce_34 : decode cX10_inForce 34 = .ok (.iload_n 2, 1) := by decide +kernel
theorem dX10_inForce_35 : decode cX10_inForce 35 = .ok (.iload_n 3, 1) := by decide +kernel
theorem dX10_inForce_36 : decode cX10_inForce 36 = .ok (.iload 4, 2) := by decide +kernel
theorem dX10_inForce_38 : decode cX10_inForce 38 = .ok (.invokevirtual 217, 3) := by decide +kernel
theorem dX10_inForce_41 : decode cX10_inForce 41 = .ok (.astore 5, 2) := by decide +kernel
theorem dX10_inForce_43 : decode cX10_inForce 43 = .ok (.aload 5, 2) := by decide +kernel
theorem dX10_inForce_45 : decode cX10_inForce 45 = .ok (.ifnonnull 8, 3) := by decide +kernel
theorem dX10_inForce_48 : decode cX10_inForce 48 = .ok (.bipush (-2), 2) := by decide +kernel
theorem dX10_inForce_50 : decode cX10_inForce 50 = .ok (.goto 8, 3) := by decide +kernel
theorem dX10_inForce_53 : decode cX10_inForce 53 = .ok (.aload 5, 2) := by decide +kernel
theorem dX10_inForce_55 : decode cX10_inForce 55 = .ok (.getfield 221, 3) := by decide +kernel
theorem dX10_inForce_58 : decode cX10_inForce 58 = .ok (.ireturn, 1) := by decide +kernel
theorem dX10_says_0 : decode cX10_says 0 = .ok (.aload_n 0, 1) := by decide +kernel
theorem dX10_says_1 : decode cX10_says 1 = .ok (.iload_n 3, 1) := by decide +kernel
theorem dX10_says_2 : decode cX10_says 2 = .ok (.invokevirtual 222, 3) := by decide +kernel
theorem dX10_says_5 : decode cX10_says 5 = .ok (.astore 5, 2) := by decide +kernel
theorem dX10_says_7 : decode cX10_says 7 = .ok (.aload_n 0, 1) := by decide +kernel
theorem dX10_says_8 : decode cX10_says 8 = .ok (.iload 4, 2) := by decide +kernel
theorem dX10_says_10 : decode cX10_says 10 = .ok (.invokevirtual 126, 3) := by decide +kernel
theorem dX10_says_13 : decode cX10_says 13 = .ok (.astore 6, 2) := by decide +kernel
theorem dX10_says_15 : decode cX10_says 15 = .ok (.aload_n 0, 1) := by decide +kernel
theorem dX10_says_16 : decode cX10_says 16 = .ok (.iload_n 1, 1) := by decide +kernel
theorem dX10_says_17 : decode cX10_says 17 = .ok (.invokevirtual 117, 3) := by decide +kernel
theorem dX10_says_20 : decode cX10_says 20 = .ok (.ifnull 31, 3) := by decide +kernel
theorem dX10_says_23 : decode cX10_says 23 = .ok (.iload_n 2, 1) := by decide +kernel
theorem dX10_says_24 : decode cX10_says 24 = .ok (.invokestatic 195, 3) := by decide +kernel
theorem dX10_says_27 : decode cX10_says 27 = .ok (.ifCond .eq 24, 3) := by decide +kernel
theorem dX10_says_30 : decode cX10_says 30 = .ok (.aload 5, 2) := by decide +kernel
theorem dX10_says_32 : decode cX10_says 32 = .ok (.ifnonnull 8, 3) := by decide +kernel
theorem dX10_says_35 : decode cX10_says 35 = .ok (.iload_n 3, 1) := by decide +kernel
theorem dX10_says_36 : decode cX10_says 36 = .ok (.iconst (-1), 1) := by decide +kernel
theorem dX10_says_37 : decode cX10_says 37 = .ok (.if_icmp .ne 14, 3) := by decide +kernel
theorem dX10_says_40 : decode cX10_says 40 = .ok (.aload 6, 2) := by decide +kernel
theorem dX10_says_42 : decode cX10_says 42 = .ok (.ifnonnull 12, 3) := by decide +kernel
theorem dX10_says_45 : decode cX10_says 45 = .ok (.iload 4, 2) := by decide +kernel
theorem dX10_says_47 : decode cX10_says 47 = .ok (.iconst (-1), 1) := by decide +kernel
theorem dX10_says_48 : decode cX10_says 48 = .ok (.if_icmp .eq 6, 3) := by decide +kernel
