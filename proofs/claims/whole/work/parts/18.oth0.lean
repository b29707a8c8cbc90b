theorem dX0_init_0 : decode cX0_init 0 = .ok (.aload_n 0, 1) := by decide +kernel
theorem dX0_init_1 : decode cX0_init 1 = .ok (.invokespecial 1, 3) := by decide +kernel
theorem dX0_init_4 : decode cX0_init 4 = .ok (.aload_n 0, 1) := by decide +kernel
theorem dX0_init_5 : decode cX0_init 5 = .ok (.new 7, 3) := by decide +kernel
theorem dX0_init_8 : decode cX0_init 8 = .ok (.dup, 1) := by decide +kernel
theorem dX0_init_9 : decode cX0_init 9 = .ok (.invokespecial 9, 3) := by decide +kernel
theorem dX0_init_12 : decode cX0_init 12 = .ok (.putfield 10, 3) := by decide +kernel
theorem dX0_init_15 : decode cX0_init 15 = .ok (.aload_n 0, 1) := by decide +kernel
theorem dX0_init_16 : decode cX0_init 16 = .ok (.iload_n 1, 1) := by decide +kernel
theorem dX0_init_17 : decode cX0_init 17 = .ok (.putfield 16, 3) := by decide +kernel
theorem dX0_init_20 : decode cX0_init 20 = .ok (.return_, 1) := by decide +kernel
theorem dX0_placeInRow_0 : decode cX0_placeInRow 0 = .ok (.iconst 0, 1) := by decide +kernel
theorem dX0_placeInRow_1 : decode cX0_placeInRow 1 = .ok (.istore_n 2, 1) := by decide +kernel
theorem dX0_placeInRow_2 : decode cX0_placeInRow 2 = .ok (.iload_n 2, 1) := by decide +kernel
theorem dX0_placeInRow_3 : decode cX0_placeInRow 3 = .ok (.aload_n 0, 1) := by decide +kernel
theorem dX0_placeInRow_4 : decode cX0_placeInRow 4 = .ok (.getfield 10, 3) := by decide +kernel
theorem dX0_placeInRow_7 : decode cX0_placeInRow 7 = .ok (.invokevirtual 20, 3) := by decide +kernel
theorem dX0_placeInRow_10 : decode cX0_placeInRow 10 = .ok (.if_icmp .ge 29, 3) := by decide +kernel
theorem dX0_placeInRow_13 : decode cX0_placeInRow 13 = .ok (.aload_n 0, 1) := by decide +kernel
theorem dX0_placeInRow_14 : decode cX0_placeInRow 14 = .ok (.getfield 10, 3) := by decide +kernel
theorem dX0_placeInRow_17 : decode cX0_placeInRow 17 = .ok (.iload_n 2, 1) := by decide +kernel
theorem dX0_placeInRow_18 : decode cX0_placeInRow 18 = .ok (.invokevirtual 24, 3) := by decide +kernel
theorem dX0_placeInRow_21 : decode cX0_placeInRow 21 = .ok (.checkcast 28, 3) := by decide +kernel
theorem dX0_placeInRow_24 : decode cX0_placeInRow 24 = .ok (.getfield 30, 3) := by decide +kernel
theorem dX0_placeInRow_27 : decode cX0_placeInRow 27 = .ok (.iload_n 1, 1) := by decide +kernel
theorem dX0_placeInRow_28 : decode cX0_placeInRow 28 = .ok (.if_icmp .ne 5, 3) := by decide +kernel
theorem dX0_placeInRow_31 : decode cX0_placeInRow 31 = .ok (.iload_n 2, 1) := by decide +kernel
theorem dX0_placeInRow_32 : decode cX0_placeInRow 32 = .ok (.ireturn, 1) := by decide +kernel
theorem dX0_placeInRow_33 : decode cX0_placeInRow 33 = .ok (.iinc 2 1, 3) := by decide +kernel
theorem dX0_placeInRow_36 : decode cX0_placeInRow 36 = .ok (.goto (-34), 3) := by decide +kernel
theorem dX0_placeInRow_39 : decode cX0_placeInRow 39 = .ok (.iconst (-1), 1) := by decide +kernel
theorem dX0_placeInRow_40 : decode cX0_placeInRow 40 = .ok (.ireturn, 1) := by decide +kernel
theorem dX0_dropFromRow_0 : decode cX0_dropFromRow 0 = .ok (.aload_n 0, 1) := by decide +kernel
theorem dX0_dropFromRow_1 : decode cX0_dropFromRow 1 = .ok (.iload_n 1, 1) := by decide +kernel
theorem dX0_dropFromRow_2 : decode cX0_dropFromRow 2 = .ok (.invokevirtual 31, 3) := by decide +kernel
theorem dX0_dropFromRow_5 : decode cX0_dropFromRow 5 = .ok (.istore_n 2, 1) := by decide +kernel
theorem dX0_dropFromRow_6 : decode cX0_dropFromRow 6 = .ok (.iload_n 2, 1) := by decide +kernel
theorem dX0_dropFromRow_7 : decode cX0_dropFromRow 7 = .ok (.ifCond .lt 14, 3) := by decide +kernel
theorem dX0_dropFromRow_10 : decode cX0_dropFromRow 10 = .ok (.iload_n 2, 1) := by decide +kernel
theorem dX0_dropFromRow_11 : decode cX0_dropFromRow 11 = .ok (.aload_n 0, 1) := by decide +kernel
theorem dX0_dropFromRow_12 : decode cX0_dropFromRow 12 = .ok (.getfield 10, 3) := by decide +kernel
theorem dX0_dropFromRow_15 : decode cX0_dropFromRow 15 = .ok (.invokevirtual 20, 3) := by decide +kernel
theorem dX0_dropFromRow_18 : decode cX0_dropFromRow 18 = .ok (.if_icmp .lt 5, 3) := by decide +kernel
theorem dX0_dropFromRow_21 : decode cX0_dropFromRow 21 = .ok (.iconst 0, 1) := by decide +kernel
theorem dX0_dropFromRow_22 : decode cX0_dropFromRow 22 = .ok (.ireturn, 1) := by decide +kernel
theorem dX0_dropFromRow_23 : decode cX0_dropFromRow 23 = .ok (.aload_n 0, 1) := by decide +kernel
theorem dX0_dropFromRow_24 : decode cX0_dropFromRow 24 = .ok (.getfield 10, 3) := by decide +kernel
theorem dX0_dropFromRow_27 : decode cX0_dropFromRow 27 = .ok (.iload_n 2, 1) := by decide +kernel
theorem dX0_dropFromRow_28 : decode cX0_dropFromRow 28 = .ok (.invokevirtual 35, 3) := by decide +kernel
theorem dX0_dropFromRow_31 : decode cX0_dropFromRow 31 = .ok (.pop, 1) := by decide +kernel
theorem dX0_dropFromRow_32 : decode cX0_dropFromRow 32 = .ok (.iconst 1, 1) := by decide +kernel
theorem dX0_dropFromRow_33 : decode cX0_dropFromRow 33 = .ok (.ireturn, 1) := by decide +kernel
theorem dX0_takeIn_0 : decode cX0_takeIn 0 = .ok (.aload_n 0, 1) := by decide +kernel
theorem dX0_takeIn_1 : decode cX0_takeIn 1 = .ok (.dup, 1) := by decide +kernel
theorem dX0_takeIn_2 : decode cX0_takeIn 2 = .ok (.getfield 38, 3) := by decide +kernel
theorem dX0_takeIn_5 : decode cX0_takeIn 5 = .ok (.iload_n 1, 1) := by decide +kernel
theorem dX0_takeIn_6 : decode cX0_takeIn 6 = .ok (.iadd, 1) := by decide +kernel
theorem dX0_takeIn_7 : decode cX0_takeIn 7 = .ok (.putfield 38, 3) := by decide +kernel
theorem dX0_takeIn_10 : decode cX0_takeIn 10 = .ok (.aload_n 0, 1) := by decide +kernel
theorem dX0_takeIn_11 : decode cX0_takeIn 11 = .ok (.dup, 1) := by decide +kernel
theorem dX0_takeIn_12 : decode cX0_takeIn 12 = .ok (.getfield 41, 3) := by decide +kernel
theorem dX0_takeIn_15 : decode cX0_takeIn 15 = .ok (.iload_n 1, 1) := by decide +kernel
theorem dX0_takeIn_16 : decode cX0_takeIn 16 = .ok (.iadd, 1) := by decide +kernel
theorem dX0_takeIn_17 : decode cX0_takeIn 17 = .ok (.putfield 41, 3) := by decide +kernel
theorem dX0_takeIn_20 : decode cX0_takeIn 20 = .ok (.return_, 1) := by decide +kernel
theorem dX0_payOut_0 : decode cX0_payOut 0 = .ok (.iload_n 2, 1) := by decide +kernel
theorem dX0_payOut_1 : decode cX0_payOut 1 = .ok (.aload_n 0, 1) := by decide +kernel
theorem dX0_payOut_2 : decode cX0_payOut 2 = .ok (.getfield 38, 3) := by decide +kernel
theorem dX0_payOut_5 : decode cX0_payOut 5 = .ok (.if_icmp .gt 33, 3) := by decide +kernel
theorem dX0_payOut_8 : decode cX0_payOut 8 = .ok (.aload_n 0, 1) := by decide +kernel
theorem dX0_payOut_9 : decode cX0_payOut 9 = .ok (.dup, 1) := by decide +kernel
theorem dX0_payOut_10 : decode cX0_payOut 10 = .ok (.getfield 38, 3) := by decide +kernel
theorem dX0_payOut_13 : decode cX0_payOut 13 = .ok (.iload_n 2, 1) := by decide +kernel
theorem dX0_payOut_14 : decode cX0_payOut 14 = .ok (.isub, 1) := by decide +kernel
theorem dX0_payOut_15 : decode cX0_payOut 15 = .ok (.putfield 38, 3) := by decide +kernel
theorem dX0_payOut_18 : decode cX0_payOut 18 = .ok (.aload_n 0, 1) := by decide +kernel
theorem dX0_payOut_19 : decode cX0_payOut 19 = .ok (.dup, 1) := by decide +kernel
theorem dX0_payOut_20 : decode cX0_payOut 20 = .ok (.getfield 44, 3) := by decide +kernel
theorem dX0_payOut_23 : decode cX0_payOut 23 = .ok (.iload_n 2, 1) := by decide +kernel
theorem dX0_payOut_24 : decode cX0_payOut 24 = .ok (.iadd, 1) := by decide +kernel
theorem dX0_payOut_25 : decode cX0_payOut 25 = .ok (.putfield 44, 3) := by decide +kernel
theorem dX0_payOut_28 : decode cX0_payOut 28 = .ok (.aload_n 1, 1) := by decide +kernel
theorem dX0_payOut_29 : decode cX0_payOut 29 = .ok (.dup, 1) := by decide +kernel
theorem dX0_payOut_30 : decode cX0_payOut 30 = .ok (.getfield 47, 3) := by decide +kernel
theorem dX0_payOut_33 : decode cX0_payOut 33 = .ok (.iload_n 2, 1) := by decide +kernel
theorem dX0_payOut_34 : decode cX0_payOut 34 = .ok (.iadd, 1) := by decide +kernel
theorem dX0_payOut_35 : decode cX0_payOut 35 = .ok (.putfield 47, 3) := by decide +kernel
theorem dX0_payOut_38 : decode cX0_payOut 38 = .ok (.return_, 1) := by decide +kernel
theorem dX1_init_0 : decode cX1_init 0 = .ok (.aload_n 0, 1) := by decide +kernel
theorem dX1_init_1 : decode cX1_init 1 = .ok (.invokespecial 1, 3) := by decide +kernel
theorem dX1_init_4 : decode cX1_init 4 = .ok (.aload_n 0, 1) := by decide +kernel
theorem dX1_init_5 : decode cX1_init 5 = .ok (.iload_n 1, 1) := by decide +kernel
theorem dX1_init_6 : decode cX1_init 6 = .ok (.putfield 7, 3) := by decide +kernel
theorem dX1_init_9 : decode cX1_init 9 = .ok (.aload_n 0, 1) := by decide +kernel
theorem dX1_init_10 : decode cX1_init 10 = .ok (.iload_n 2, 1) := by decide +kernel
theorem dX1_init_11 : decode cX1_init 11 = .ok (.putfield 13, 3) := by decide +kernel
theorem dX1_init_14 : decode cX1_init 14 = .ok (.aload_n 0, 1) := by decide +kernel
theorem dX1_init_15 : decode cX1_init 15 = .ok (.iload_n 3, 1) := by decide +kernel
theorem dX1_init_16 : decode cX1_init 16 = .ok (.putfield 16, 3) := by decide +kernel
theorem dX1_init_19 : decode cX1_init 19 = .ok (.aload_n 0, 1) := by decide +kernel
theorem dX1_init_20 : decode cX1_init 20 = .ok (.iload 4, 2) := by decide +kernel
theorem dX1_init_22 : decode cX1_init 22 = .ok (.putfield 19, 3) := by decide +kernel
theorem dX1_init_25 : decode cX1_init 25 = .ok (.aload_n 0, 1) := by decide +kernel
theorem dX1_init_26 : decode cX1_init 26 = .ok (.iload 5, 2) := by decide +kernel
theorem dX1_init_28 : decode cX1_init 28 = .ok (.putfield 22, 3) := by decide +kernel
theorem dX1_init_31 : decode cX1_init 31 = .ok (.aload_n 0, 1) := by decide +kernel
theorem dX1_init_32 : decode cX1_init 32 = .ok (.aload 6, 2) := by decide +kernel
theorem dX1_init_34 : decode cX1_init 34 = .ok (.putfield 25, 3) := by decide +kernel
theorem dX1_init_37 : decode cX1_init 37 = .ok (.return_, 1) := by decide +kernel
theorem dX2_init_0 : decode cX2_init 0 = .ok (.aload_n 0, 1) := by decide +kernel
theorem dX2_init_1 : decode cX2_init 1 = .ok (.invokespecial 3, 3) := by decide +kernel
theorem dX2_init_4 : decode cX2_init 4 = .ok (.aload_n 0, 1) := by decide +kernel
theorem dX2_init_5 : decode cX2_init 5 = .ok (.new 9, 3) := by decide +kernel
theorem dX2_init_8 : decode cX2_init 8 = .ok (.dup, 1) := by decide +kernel
theorem dX2_init_9 : decode cX2_init 9 = .ok (.invokespecial 11, 3) := by decide +kernel
theorem dX2_init_12 : decode cX2_init 12 = .ok (.putfield 12, 3) := by decide +kernel
theorem dX2_init_15 : decode cX2_init 15 = .ok (.aload_n 0, 1) := by decide +kernel
theorem dX2_init_16 : decode cX2_init 16 = .ok (.iconst 0, 1) := by decide +kernel
theorem dX2_init_17 : decode cX2_init 17 = .ok (.putfield 18, 3) := by decide +kernel
theorem dX2_init_20 : decode cX2_init 20 = .ok (.aload_n 0, 1) := by decide +kernel
theorem dX2_init_21 : decode cX2_init 21 = .ok (.iconst (-1), 1) := by decide +kernel
theorem dX2_init_22 : decode cX2_init 22 = .ok (.putfield 22, 3) := by decide +kernel
theorem dX2_init_25 : decode cX2_init 25 = .ok (.aload_n 0, 1) := by decide +kernel
theorem dX2_init_26 : decode cX2_init 26 = .ok (.iload_n 1, 1) := by decide +kernel
theorem dX2_init_27 : decode cX2_init 27 = .ok (.putfield 25, 3) := by decide +kernel
theorem dX2_init_30 : decode cX2_init 30 = .ok (.aload_n 0, 1) := by decide +kernel
theorem dX2_init_31 : decode cX2_init 31 = .ok (.iload_n 2, 1) := by decide +kernel
theorem dX2_init_32 : decode cX2_init 32 = .ok (.sipush 1000, 3) := by decide +kernel
theorem dX2_init_35 : decode cX2_init 35 = .ok (.idiv, 1) := by decide +kernel
theorem dX2_init_36 : decode cX2_init 36 = .ok (.putfield 28, 3) := by decide +kernel
theorem dX2_init_39 : decode cX2_init 39 = .ok (.aload_n 0, 1) := by decide +kernel
theorem dX2_init_40 : decode cX2_init 40 = .ok (.iload_n 2, 1) := by decide +kernel
theorem dX2_init_41 : decode cX2_init 41 = .ok (.sipush 1000, 3) := by decide +kernel
theorem dX2_init_44 : decode cX2_init 44 = .ok (.irem, 1) := by decide +kernel
theorem dX2_init_45 : decode cX2_init 45 = .ok (.putfield 31, 3) := by decide +kernel
theorem dX2_init_48 : decode cX2_init 48 = .ok (.aload_n 0, 1) := by decide +kernel
theorem dX2_init_49 : decode cX2_init 49 = .ok (.aload_n 3, 1) := by decide +kernel
theorem dX2_init_50 : decode cX2_init 50 = .ok (.putfield 34, 3) := by decide +kernel
theorem dX2_init_53 : decode cX2_init 53 = .ok (.aload_n 0, 1) := by decide +kernel
theorem dX2_init_54 : decode cX2_init 54 = .ok (.aload 4, 2) := by decide +kernel
theorem dX2_init_56 : decode cX2_init 56 = .ok (.putfield 38, 3) := by decide +kernel
theorem dX2_init_59 : decode cX2_init 59 = .ok (.aload_n 0, 1) := by decide +kernel
theorem dX2_init_60 : decode cX2_init 60 = .ok (.aload_n 3, 1) := by decide +kernel
theorem dX2_init_61 : decode cX2_init 61 = .ok (.aload 4, 2) := by decide +kernel
theorem dX2_init_63 : decode cX2_init 63 = .ok (.invokevirtual 41, 3) := by decide +kernel
theorem dX2_init_66 : decode cX2_init 66 = .ok (.putfield 47, 3) := by decide +kernel
theorem dX2_init_69 : decode cX2_init 69 = .ok (.aload_n 0, 1) := by decide +kernel
theorem dX2_init_70 : decode cX2_init 70 = .ok (.aload_n 3, 1) := by decide +kernel
theorem dX2_init_71 : decode cX2_init 71 = .ok (.aload 4, 2) := by decide +kernel
theorem dX2_init_73 : decode cX2_init 73 = .ok (.invokevirtual 50, 3) := by decide +kernel
theorem dX2_init_76 : decode cX2_init 76 = .ok (.putfield 53, 3) := by decide +kernel
theorem dX2_init_79 : decode cX2_init 79 = .ok (.aload_n 0, 1) := by decide +kernel
theorem dX2_init_80 : decode cX2_init 80 = .ok (.iload 5, 2) := by decide +kernel
theorem dX2_init_82 : decode cX2_init 82 = .ok (.putfield 56, 3) := by decide +kernel
theorem dX2_init_85 : decode cX2_init 85 = .ok (.aload_n 0, 1) := by decide +kernel
theorem dX2_init_86 : decode cX2_init 86 = .ok (.iload 6, 2) := by decide +kernel
theorem dX2_init_88 : decode cX2_init 88 = .ok (.putfield 59, 3) := by decide +kernel
theorem dX2_init_91 : decode cX2_init 91 = .ok (.aload_n 0, 1) := by decide +kernel
theorem dX2_init_92 : decode cX2_init 92 = .ok (.iload 7, 2) := by decide +kernel
theorem dX2_init_94 : decode cX2_init 94 = .ok (.putfield 62, 3) := by decide +kernel
theorem dX2_init_97 : decode cX2_init 97 = .ok (.return_, 1) := by decide +kernel
theorem dX2_carrier_0 : decode cX2_carrier 0 = .ok (.iconst 0, 1) := by decide +kernel
theorem dX2_carrier_1 : decode cX2_carrier 1 = .ok (.istore_n 2, 1) := by decide +kernel
theorem dX2_carrier_2 : decode cX2_carrier 2 = .ok (.iload_n 2, 1) := by decide +kernel
theorem dX2_carrier_3 : decode cX2_carrier 3 = .ok (.aload_n 0, 1) := by decide +kernel
theorem dX2_carrier_4 : decode cX2_carrier 4 = .ok (.getfield 12, 3) := by decide +kernel
theorem dX2_carrier_7 : decode cX2_carrier 7 = .ok (.invokevirtual 65, 3) := by decide +kernel
theorem dX2_carrier_10 : decode cX2_carrier 10 = .ok (.if_icmp .ge 39, 3) := by decide +kernel
theorem dX2_carrier_13 : decode cX2_carrier 13 = .ok (.aload_n 0, 1) := by decide +kernel
theorem dX2_carrier_14 : decode cX2_carrier 14 = .ok (.getfield 12, 3) := by decide +kernel
theorem dX2_carrier_17 : decode cX2_carrier 17 = .ok (.iload_n 2, 1) := by decide +kernel
theorem dX2_carrier_18 : decode cX2_carrier 18 = .ok (.invokevirtual 69, 3) := by decide +kernel
theorem dX2_carrier_21 : decode cX2_carrier 21 = .ok (.checkcast 73, 3) := by decide +kernel
theorem dX2_carrier_24 : decode cX2_carrier 24 = .ok (.getfield 75, 3) := by decide +kernel
theorem dX2_carrier_27 : decode cX2_carrier 27 = .ok (.iload_n 1, 1) := by decide +kernel
theorem dX2_carrier_28 : decode cX2_carrier 28 = .ok (.if_icmp .ne 15, 3) := by decide +kernel
theorem dX2_carrier_31 : decode cX2_carrier 31 = .ok (.aload_n 0, 1) := by decide +kernel
theorem dX2_carrier_32 : decode cX2_carrier 32 = .ok (.getfield 12, 3) := by decide +kernel
theorem dX2_carrier_35 : decode cX2_carrier 35 = .ok (.iload_n 2, 1) := by decide +kernel
theorem dX2_carrier_36 : decode cX2_carrier 36 = .ok (.invokevirtual 69, 3) := by decide +kernel
theorem dX2_carrier_39 : decode cX2_carrier 39 = .ok (.checkcast 73, 3) := by decide +kernel
theorem dX2_carrier_42 : decode cX2_carrier 42 = .ok (.areturn, 1) := by decide +kernel
theorem dX2_carrier_43 : decode cX2_carrier 43 = .ok (.iinc 2 1, 3) := by decide +kernel
theorem dX2_carrier_46 : decode cX2_carrier 46 = .ok (.goto (-44), 3) := by decide +kernel
theorem dX2_carrier_49 : decode cX2_carrier 49 = .ok (.aconst_null, 1) := by decide +kernel
theorem dX2_carrier_50 : decode cX2_carrier 50 = .ok (.areturn, 1) := by decide +kernel
theorem dX2_waitedBy_0 : decode cX2_waitedBy 0 = .ok (.aload_n 0, 1) := by decide +kernel
theorem dX2_waitedBy_1 : decode cX2_waitedBy 1 = .ok (.getfield 18, 3) := by decide +kernel
theorem dX2_waitedBy_4 : decode cX2_waitedBy 4 = .ok (.ifCond .ne 7, 3) := by decide +kernel
theorem dX2_waitedBy_7 : decode cX2_waitedBy 7 = .ok (.iload_n 1, 1) := by decide +kernel
theorem dX2_waitedBy_8 : decode cX2_waitedBy 8 = .ok (.goto 7, 3) := by decide +kernel
theorem dX2_waitedBy_11 : decode cX2_waitedBy 11 = .ok (.aload_n 0, 1) := by decide +kernel
theorem dX2_waitedBy_12 : decode cX2_waitedBy 12 = .ok (.getfield 76, 3) := by decide +kernel
theorem dX2_waitedBy_15 : decode cX2_waitedBy 15 = .ok (.aload_n 0, 1) := by decide +kernel
theorem dX2_waitedBy_16 : decode cX2_waitedBy 16 = .ok (.getfield 62, 3) := by decide +kernel
theorem dX2_waitedBy_19 : decode cX2_waitedBy 19 = .ok (.isub, 1) := by decide +kernel
theorem dX2_waitedBy_20 : decode cX2_waitedBy 20 = .ok (.ireturn, 1) := by decide +kernel
theorem dX3_init_0 : decode cX3_init 0 = .ok (.aload_n 0, 1) := by decide +kernel
theorem dX3_init_1 : decode cX3_init 1 = .ok (.invokespecial 1, 3) := by decide +kernel
theorem dX3_init_4 : decode cX3_init 4 = .ok (.aload_n 0, 1) := by decide +kernel
theorem dX3_init_5 : decode cX3_init 5 = .ok (.iconst (-1), 1) := by decide +kernel
theorem dX3_init_6 : decode cX3_init 6 = .ok (.putfield 7, 3) := by decide +kernel
theorem dX3_init_9 : decode cX3_init 9 = .ok (.aload_n 0, 1) := by decide +kernel
theorem dX3_init_10 : decode cX3_init 10 = .ok (.iload_n 1, 1) := by decide +kernel
theorem dX3_init_11 : decode cX3_init 11 = .ok (.putfield 13, 3) := by decide +kernel
theorem dX3_init_14 : decode cX3_init 14 = .ok (.aload_n 0, 1) := by decide +kernel
theorem dX3_init_15 : decode cX3_init 15 = .ok (.iload_n 2, 1) := by decide +kernel
theorem dX3_init_16 : decode cX3_init 16 = .ok (.putfield 16, 3) := by decide +kernel
theorem dX3_init_19 : decode cX3_init 19 = .ok (.aload_n 0, 1) := by decide +kernel
theorem dX3_init_20 : decode cX3_init 20 = .ok (.iload_n 3, 1) := by decide +kernel
theorem dX3_init_21 : decode cX3_init 21 = .ok (.putfield 19, 3) := by decide +kernel
theorem dX3_init_24 : decode cX3_init 24 = .ok (.aload_n 0, 1) := by decide +kernel
theorem dX3_init_25 : decode cX3_init 25 = .ok (.iload 4, 2) := by decide +kernel
theorem dX3_init_27 : decode cX3_init 27 = .ok (.putfield 22, 3) := by decide +kernel
theorem dX3_init_30 : decode cX3_init 30 = .ok (.return_, 1) := by decide +kernel
theorem dX3_freeAt_0 : decode cX3_freeAt 0 = .ok (.aload_n 0, 1) := by decide +kernel
theorem dX3_freeAt_1 : decode cX3_freeAt 1 = .ok (.getfield 25, 3) := by decide +kernel
theorem dX3_freeAt_4 : decode cX3_freeAt 4 = .ok (.iload_n 1, 1) := by decide +kernel
theorem dX3_freeAt_5 : decode cX3_freeAt 5 = .ok (.if_icmp .gt 7, 3) := by decide +kernel
theorem dX3_freeAt_8 : decode cX3_freeAt 8 = .ok (.iconst 1, 1) := by decide +kernel
theorem dX3_freeAt_9 : decode cX3_freeAt 9 = .ok (.goto 4, 3) := by decide +kernel
theorem dX3_freeAt_12 : decode cX3_freeAt 12 = .ok (.iconst 0, 1) := by decide +kernel
theorem dX3_freeAt_13 : decode cX3_freeAt 13 = .ok (.ireturn, 1) := by decide +kernel
theorem dX3_hurtAt_0 : decode cX3_hurtAt 0 = .ok (.iload_n 1, 1) := by decide +kernel
theorem dX3_hurtAt_1 : decode cX3_hurtAt 1 = .ok (.aload_n 0, 1) := by decide +kernel
theorem dX3_hurtAt_2 : decode cX3_hurtAt 2 = .ok (.getfield 28, 3) := by decide +kernel
theorem dX3_hurtAt_5 : decode cX3_hurtAt 5 = .ok (.if_icmp .ge 7, 3) := by decide +kernel
theorem dX3_hurtAt_8 : decode cX3_hurtAt 8 = .ok (.iconst 1, 1) := by decide +kernel
theorem dX3_hurtAt_9 : decode cX3_hurtAt 9 = .ok (.goto 4, 3) := by decide +kernel
theorem dX3_hurtAt_12 : decode cX3_hurtAt 12 = .ok (.iconst 0, 1) := by decide +kernel
theorem dX3_hurtAt_13 : decode cX3_hurtAt 13 = .ok (.ireturn, 1) := by decide +kernel
theorem dX3_mayGo_0 : decode cX3_mayGo 0 = .ok (.aload_n 0, 1) := by decide +kernel
theorem dX3_mayGo_1 : decode cX3_mayGo 1 = .ok (.getfield 22, 3) := by decide +kernel
theorem dX3_mayGo_4 : decode cX3_mayGo 4 = .ok (.bipush 60, 2) := by decide +kernel
theorem dX3_mayGo_6 : decode cX3_mayGo 6 = .ok (.if_icmp .lt 9, 3) := by decide +kernel
theorem dX3_mayGo_9 : decode cX3_mayGo 9 = .ok (.sipush 240, 3) := by decide +kernel
theorem dX3_mayGo_12 : decode cX3_mayGo 12 = .ok (.goto 6, 3) := by decide +kernel
theorem dX3_mayGo_15 : decode cX3_mayGo 15 = .ok (.sipush 480, 3) := by decide +kernel
theorem dX3_mayGo_18 : decode cX3_mayGo 18 = .ok (.istore_n 3, 1) := by decide +kernel
theorem dX3_mayGo_19 : decode cX3_mayGo 19 = .ok (.aload_n 0, 1) := by decide +kernel
theorem dX3_mayGo_20 : decode cX3_mayGo 20 = .ok (.iload_n 1, 1) := by decide +kernel
theorem dX3_mayGo_21 : decode cX3_mayGo 21 = .ok (.invokevirtual 31, 3) := by decide +kernel
theorem dX3_mayGo_24 : decode cX3_mayGo 24 = .ok (.ifCond .eq 25, 3) := by decide +kernel
theorem dX3_mayGo_27 : decode cX3_mayGo 27 = .ok (.aload_n 0, 1) := by decide +kernel
theorem dX3_mayGo_28 : decode cX3_mayGo 28 = .ok (.iload_n 1, 1) := by decide +kernel
theorem dX3_mayGo_29 : decode cX3_mayGo 29 = .ok (.invokevirtual 35, 3) := by decide +kernel
theorem dX3_mayGo_32 : decode cX3_mayGo 32 = .ok (.ifCond .ne 17, 3) := by decide +kernel
theorem dX3_mayGo_35 : decode cX3_mayGo 35 = .ok (.aload_n 0, 1) := by decide +kernel
theorem dX3_mayGo_36 : decode cX3_mayGo 36 = .ok (.getfield 38, 3) := by decide +kernel
theorem dX3_mayGo_39 : decode cX3_mayGo 39 = .ok (.iload_n 2, 1) := by decide +kernel
theorem dX3_mayGo_40 : decode cX3_mayGo 40 = .ok (.iadd, 1) := by decide +kernel
theorem dX3_mayGo_41 : decode cX3_mayGo 41 = .ok (.iload_n 3, 1) := by decide +kernel
theorem dX3_mayGo_42 : decode cX3_mayGo 42 = .ok (.if_icmp .gt 7, 3) := by decide +kernel
theorem dX3_mayGo_45 : decode cX3_mayGo 45 = .ok (.iconst 1, 1) := by decide +kernel
theorem dX3_mayGo_46 : decode cX3_mayGo 46 = .ok (.goto 4, 3) := by decide +kernel
theorem dX3_mayGo_49 : decode cX3_mayGo 49 = .ok (.iconst 0, 1) := by decide +kernel
theorem dX3_mayGo_50 : decode cX3_mayGo 50 = .ok (.ireturn, 1) := by decide +kernel
theorem dX3_getsHelpAt_0 : decode cX3_getsHelpAt 0 = .ok (.aload_n 0, 1) := by decide +kernel
theorem dX3_getsHelpAt_1 : decode cX3_getsHelpAt 1 = .ok (.iload_n 1, 1) := by decide +kernel
theorem dX3_getsHelpAt_2 : decode cX3_getsHelpAt 2 = .ok (.invokevirtual 35, 3) := by decide +kernel
theorem dX3_getsHelpAt_5 : decode cX3_getsHelpAt 5 = .ok (.ifCond .eq 14, 3) := by decide +kernel
theorem dX3_getsHelpAt_8 : decode cX3_getsHelpAt 8 = .ok (.aload_n 0, 1) := by decide +kernel
theorem dX3_getsHelpAt_9 : decode cX3_getsHelpAt 9 = .ok (.getfield 41, 3) := by decide +kernel
theorem dX3_getsHelpAt_12 : decode cX3_getsHelpAt 12 = .ok (.ifCond .ne 7, 3) := by decide +kernel
theorem dX3_getsHelpAt_15 : decode cX3_getsHelpAt 15 = .ok (.iconst 1, 1) := by decide +kernel
theorem dX3_getsHelpAt_16 : decode cX3_getsHelpAt 16 = .ok (.goto 4, 3) := by decide +kernel
theorem dX3_getsHelpAt_19 : decode cX3_getsHelpAt 19 = .ok (.iconst 0, 1) := by decide +kernel
theorem dX3_getsHelpAt_20 : decode cX3_getsHelpAt 20 = .ok (.ireturn, 1) := by decide +kernel
theorem dX3_getsPension_0 : decode cX3_getsPension 0 = .ok (.aload_n 0, 1) := by decide +kernel
theorem dX3_getsPension_1 : decode cX3_getsPension 1 = .ok (.getfield 22, 3) := by decide +kernel
theorem dX3_getsPension_4 : decode cX3_getsPension 4 = .ok (.bipush 70, 2) := by decide +kernel
theorem dX3_getsPension_6 : decode cX3_getsPension 6 = .ok (.if_icmp .lt 14, 3) := by decide +kernel
theorem dX3_getsPension_9 : decode cX3_getsPension 9 = .ok (.aload_n 0, 1) := by decide +kernel
theorem dX3_getsPension_10 : decode cX3_getsPension 10 = .ok (.getfield 41, 3) := by decide +kernel
theorem dX3_getsPension_13 : decode cX3_getsPension 13 = .ok (.ifCond .ne 7, 3) := by decide +kernel
theorem dX3_getsPension_16 : decode cX3_getsPension 16 = .ok (.iconst 1, 1) := by decide +kernel
theorem dX3_getsPension_17 : decode cX3_getsPension 17 = .ok (.goto 4, 3) := by decide +kernel
theorem dX3_getsPension_20 : decode cX3_getsPension 20 = .ok (.iconst 0, 1) := by decide +kernel
theorem dX3_getsPension_21 : decode cX3_getsPension 21 = .ok (.ireturn, 1) := by decide +kernel
theorem dX4_init_0 : decode cX4_init 0 = .ok (.aload_n 0, 1) := by decide +kernel
theorem dX4_init_1 : decode cX4_init 1 = .ok (.invokespecial 3, 3) := by decide +kernel
theorem dX4_init_4 : decode cX4_init 4 = .ok (.aload_n 0, 1) := by decide +kernel
theorem dX4_init_5 : decode cX4_init 5 = .ok (.iload_n 1, 1) := by decide +kernel
theorem dX4_init_6 : decode cX4_init 6 = .ok (.putfield 9, 3) := by decide +kernel
theorem dX4_init_9 : decode cX4_init 9 = .ok (.aload_n 0, 1) := by decide +kernel
theorem dX4_init_10 : decode cX4_init 10 = .ok (.iload_n 2, 1) := by decide +kernel
theorem dX4_init_11 : decode cX4_init 11 = .ok (.putfield 15, 3) := by decide +kernel
theorem dX4_init_14 : decode cX4_init 14 = .ok (.aload_n 0, 1) := by decide +kernel
theorem dX4_init_15 : decode cX4_init 15 = .ok (.iload_n 3, 1) := by decide +kernel
theorem dX4_init_16 : decode cX4_init 16 = .ok (.putfield 18, 3) := by decide +kernel
theorem dX4_init_19 : decode cX4_init 19 = .ok (.return_, 1) := by decide +kernel
theorem dX4_farTo_0 : decode cX4_farTo 0 = .ok (.aload_n 1, 1) := by decide +kernel
theorem dX4_farTo_1 : decode cX4_farTo 1 = .ok (.getfield 15, 3) := by decide +kernel
theorem dX4_farTo_4 : decode cX4_farTo 4 = .ok (.aload_n 0, 1) := by decide +kernel
theorem dX4_farTo_5 : decode cX4_farTo 5 = .ok (.getfield 15, 3) := by decide +kernel
theorem dX4_farTo_8 : decode cX4_farTo 8 = .ok (.isub, 1) := by decide +kernel
theorem dX4_farTo_9 : decode cX4_farTo 9 = .ok (.invokestatic 21, 3) := by decide +kernel
theorem dX4_farTo_12 : decode cX4_farTo 12 = .ok (.ireturn, 1) := by decide +kernel
theorem dX4_upTo_0 : decode cX4_upTo 0 = .ok (.aload_n 1, 1) := by decide +kernel
theorem dX4_upTo_1 : decode cX4_upTo 1 = .ok (.getfield 18, 3) := by decide +kernel
theorem dX4_upTo_4 : decode cX4_upTo 4 = .ok (.aload_n 0, 1) := by decide +kernel
theorem dX4_upTo_5 : decode cX4_upTo 5 = .ok (.getfield 18, 3) := by decide +kernel
theorem dX4_upTo_8 : decode cX4_upTo 8 = .ok (.isub, 1) := by decide +kernel
theorem dX4_upTo_9 : decode cX4_upTo 9 = .ok (.istore_n 2, 1) := by decide +kernel
theorem dX4_upTo_10 : decode cX4_upTo 10 = .ok (.iload_n 2, 1) := by decide +kernel
theorem dX4_upTo_11 : decode cX4_upTo 11 = .ok (.ifCond .lt 7, 3) := by decide +kernel
theorem dX4_upTo_14 : decode cX4_upTo 14 = .ok (.iload_n 2, 1) := by decide +kernel
theorem dX4_upTo_15 : decode cX4_upTo 15 = .ok (.goto 7, 3) := by decide +kernel
theorem dX4_upTo_18 : decode cX4_upTo 18 = .ok (.iload_n 2, 1) := by decide +kernel
theorem dX4_upTo_19 : decode cX4_upTo 19 = .ok (.ineg, 1) := by decide +kernel
theorem dX4_upTo_20 : decode cX4_upTo 20 = .ok (.iconst 2, 1) := by decide +kernel
theorem dX4_upTo_21 : decode cX4_upTo 21 = .ok (.idiv, 1) := by decide +kernel
theorem dX4_upTo_22 : decode cX4_upTo 22 = .ok (.ireturn, 1) := by decide +kernel
theorem dX4_underWaterAt_0 : decode cX4_underWaterAt 0 = .ok (.iload_n 1, 1) := by decide +kernel
theorem dX4_underWaterAt_1 : decode cX4_underWaterAt 1 = .ok (.sipush 600, 3) := by decide +kernel
theorem dX4_underWaterAt_4 : decode cX4_underWaterAt 4 = .ok (.irem, 1) := by decide +kernel
theorem dX4_underWaterAt_5 : decode cX4_underWaterAt 5 = .ok (.istore_n 2, 1) := by decide +kernel
theorem dX4_underWaterAt_6 : decode cX4_underWaterAt 6 = .ok (.iload_n 2, 1) := by decide +kernel
theorem dX4_underWaterAt_7 : decode cX4_underWaterAt 7 = .ok (.aload_n 0, 1) := by decide +kernel
theorem dX4_underWaterAt_8 : decode cX4_underWaterAt 8 = .ok (.getfield 27, 3) := by decide +kernel
theorem dX4_underWaterAt_11 : decode cX4_underWaterAt 11 = .ok (.if_icmp .lt 15, 3) := by decide +kernel
theorem dX4_underWaterAt_14 : decode cX4_underWaterAt 14 = .ok (.iload_n 2, 1) := by decide +kernel
theorem dX4_underWaterAt_15 : decode cX4_underWaterAt 15 = .ok (.aload_n 0, 1) := by decide +kernel
theorem dX4_underWaterAt_16 : decode cX4_underWaterAt 16 = .ok (.getfield 30, 3) := by decide +kernel
theorem dX4_underWaterAt_19 : decode cX4_underWaterAt 19 = .ok (.if_icmp .ge 7, 3) := by decide +kernel
theorem dX4_underWaterAt_22 : decode cX4_underWaterAt 22 = .ok (.iconst 1, 1) := by decide +kernel
theorem dX4_underWaterAt_23 : decode cX4_underWaterAt 23 = .ok (.goto 4, 3) := by decide +kernel
theorem dX4_underWaterAt_26 : decode cX4_underWaterAt 26 = .ok (.iconst 0, 1) := by decide +kernel
theorem dX4_underWaterAt_27 : decode cX4_underWaterAt 27 = .ok (.ireturn, 1) := by decide +kernel
theorem dX5_init_0 : decode cX5_init 0 = .ok (.aload_n 0, 1) := by decide +kernel
theorem dX5_init_1 : decode cX5_init 1 = .ok (.invokespecial 5, 3) := by decide +kernel
theorem dX5_init_4 : decode cX5_init 4 = .ok (.aload_n 0, 1) := by decide +kernel
theorem dX5_init_5 : decode cX5_init 5 = .ok (.sipush 201, 3) := by decide +kernel
theorem dX5_init_8 : decode cX5_init 8 = .ok (.newarray .int, 2) := by decide +kernel
theorem dX5_init_10 : decode cX5_init 10 = .ok (.putfield 11, 3) := by decide +kernel
theorem dX5_init_13 : decode cX5_init 13 = .ok (.aload_n 0, 1) := by decide +kernel
theorem dX5_init_14 : decode cX5_init 14 = .ok (.sipush 201, 3) := by decide +kernel
theorem dX5_init_17 : decode cX5_init 17 = .ok (.newarray .int, 2) := by decide +kernel
theorem dX5_init_19 : decode cX5_init 19 = .ok (.putfield 15, 3) := by decide +kernel
theorem dX5_init_22 : decode cX5_init 22 = .ok (.aload_n 0, 1) := by decide +kernel
theorem dX5_init_23 : decode cX5_init 23 = .ok (.sipush 402, 3) := by decide +kernel
theorem dX5_init_26 : decode cX5_init 26 = .ok (.newarray .int, 2) := by decide +kernel
theorem dX5_init_28 : decode cX5_init 28 = .ok (.putfield 18, 3) := by decide +kernel
theorem dX5_init_31 : decode cX5_init 31 = .ok (.return_, 1) := by decide +kernel
theorem dX5_read_0 : decode cX5_read 0 = .ok (.aload_n 0, 1) := by decide +kernel
theorem dX5_read_1 : decode cX5_read 1 = .ok (.aload_n 1, 1) := by decide +kernel
theorem dX5_read_2 : decode cX5_read 2 = .ok (.invokevirtual 21, 3) := by decide +kernel
theorem dX5_read_5 : decode cX5_read 5 = .ok (.aload_n 0, 1) := by decide +kernel
theorem dX5_read_6 : decode cX5_read 6 = .ok (.iconst 0, 1) := by decide +kernel
theorem dX5_read_7 : decode cX5_read 7 = .ok (.putfield 25, 3) := by decide +kernel
theorem dX5_read_10 : decode cX5_read 10 = .ok (.aload_n 0, 1) := by decide +kernel
theorem dX5_read_11 : decode cX5_read 11 = .ok (.iconst 0, 1) := by decide +kernel
theorem dX5_read_12 : decode cX5_read 12 = .ok (.putfield 29, 3) := by decide +kernel
theorem dX5_read_15 : decode cX5_read 15 = .ok (.aload_n 0, 1) := by decide +kernel
theorem dX5_read_16 : decode cX5_read 16 = .ok (.invokevirtual 32, 3) := by decide +kernel
theorem dX5_read_19 : decode cX5_read 19 = .ok (.istore_n 2, 1) := by decide +kernel
theorem dX5_read_20 : decode cX5_read 20 = .ok (.iconst 0, 1) := by decide +kernel
theorem dX5_read_21 : decode cX5_read 21 = .ok (.istore_n 3, 1) := by decide +kernel
theorem dX5_read_22 : decode cX5_read 22 = .ok (.iload_n 3, 1) := by decide +kernel
theorem dX5_read_23 : decode cX5_read 23 = .ok (.sipush 201, 3) := by decide +kernel
theorem dX5_read_26 : decode cX5_read 26 = .ok (.if_icmp .ge 37, 3) := by decide +kernel
theorem dX5_read_29 : decode cX5_read 29 = .ok (.iload_n 2, 1) := by decide +kernel
theorem dX5_read_30 : decode cX5_read 30 = .ok (.ifCond .eq 33, 3) := by decide +kernel
theorem dX5_read_33 : decode cX5_read 33 = .ok (.aload_n 0, 1) := by decide +kernel
theorem dX5_read_34 : decode cX5_read 34 = .ok (.invokevirtual 36, 3) := by decide +kernel
theorem dX5_read_37 : decode cX5_read 37 = .ok (.bipush 59, 2) := by decide +kernel
theorem dX5_read_39 : decode cX5_read 39 = .ok (.if_icmp .ne 24, 3) := by decide +kernel
theorem dX5_read_42 : decode cX5_read 42 = .ok (.aload_n 0, 1) := by decide +kernel
theorem dX5_read_43 : decode cX5_read 43 = .ok (.dup, 1) := by decide +kernel
theorem dX5_read_44 : decode cX5_read 44 = .ok (.getfield 25, 3) := by decide +kernel
theorem dX5_read_47 : decode cX5_read 47 = .ok (.iconst 1, 1) := by decide +kernel
theorem dX5_read_48 : decode cX5_read 48 = .ok (.iadd, 1) := by decide +kernel
theorem dX5_read_49 : decode cX5_read 49 = .ok (.putfield 25, 3) := by decide +kernel
theorem dX5_read_52 : decode cX5_read 52 = .ok (.aload_n 0, 1) := by decide +kernel
theorem dX5_read_53 : decode cX5_read 53 = .ok (.invokevirtual 32, 3) := by decide +kernel
theorem dX5_read_56 : decode cX5_read 56 = .ok (.istore_n 2, 1) := by decide +kernel
theorem dX5_read_57 : decode cX5_read 57 = .ok (.iinc 3 1, 3) := by decide +kernel
theorem dX5_read_60 : decode cX5_read 60 = .ok (.goto (-38), 3) := by decide +kernel
theorem dX5_read_63 : decode cX5_read 63 = .ok (.iload_n 2, 1) := by decide +kernel
theorem dX5_read_64 : decode cX5_read 64 = .ok (.ifCond .eq 14, 3) := by decide +kernel
theorem dX5_read_67 : decode cX5_read 67 = .ok (.aload_n 0, 1) := by decide +kernel
theorem dX5_read_68 : decode cX5_read 68 = .ok (.invokevirtual 36, 3) := by decide +kernel
theorem dX5_read_71 : decode cX5_read 71 = .ok (.ifCond .ne 7, 3) := by decide +kernel
theorem dX5_read_74 : decode cX5_read 74 = .ok (.iconst (-1), 1) := by decide +kernel
theorem dX5_read_75 : decode cX5_read 75 = .ok (.goto 11, 3) := by decide +kernel
theorem dX5_read_78 : decode cX5_read 78 = .ok (.aload_n 0, 1) := by decide +kernel
theorem dX5_read_79 : decode cX5_read 79 = .ok (.aload_n 1, 1) := by decide +kernel
theorem dX5_read_80 : decode cX5_read 80 = .ok (.getfield 40, 3) := by decide +kernel
theorem dX5_read_83 : decode cX5_read 83 = .ok (.invokevirtual 45, 3) := by decide +kernel
theorem dX5_read_86 : decode cX5_read 86 = .ok (.ireturn, 1) := by decide +kernel
theorem dX5_stepsRead_0 : decode cX5_stepsRead 0 = .ok (.iconst 0, 1) := by decide +kernel
theorem dX5_stepsRead_1 : decode cX5_stepsRead 1 = .ok (.aload_n 0, 1) := by decide +kernel
theorem dX5_stepsRead_2 : decode cX5_stepsRead 2 = .ok (.getfield 29, 3) := by decide +kernel
theorem dX5_stepsRead_5 : decode cX5_stepsRead 5 = .ok (.sipush 402, 3) := by decide +kernel
theorem dX5_stepsRead_8 : decode cX5_stepsRead 8 = .ok (.invokestatic 49, 3) := by decide +kernel
theorem dX5_stepsRead_11 : decode cX5_stepsRead 11 = .ok (.invokestatic 55, 3) := by decide +kernel
theorem dX5_stepsRead_14 : decode cX5_stepsRead 14 = .ok (.istore_n 1, 1) := by decide +kernel
theorem dX5_stepsRead_15 : decode cX5_stepsRead 15 = .ok (.aload_n 0, 1) := by decide +kernel
theorem dX5_stepsRead_16 : decode cX5_stepsRead 16 = .ok (.getfield 18, 3) := by decide +kernel
theorem dX5_stepsRead_19 : decode cX5_stepsRead 19 = .ok (.iload_n 1, 1) := by decide +kernel
theorem dX5_stepsRead_20 : decode cX5_stepsRead 20 = .ok (.invokestatic 58, 3) := by decide +kernel
theorem dX5_stepsRead_23 : decode cX5_stepsRead 23 = .ok (.areturn, 1) := by decide +kernel
theorem dX5_split_0 : decode cX5_split 0 = .ok (.aload_n 0, 1) := by decide +kernel
theorem dX5_split_1 : decode cX5_split 1 = .ok (.iconst 0, 1) := by decide +kernel
theorem dX5_split_2 : decode cX5_split 2 = .ok (.putfield 64, 3) := by decide +kernel
theorem dX5_split_5 : decode cX5_split 5 = .ok (.iconst 0, 1) := by decide +kernel
theorem dX5_split_6 : decode cX5_split 6 = .ok (.istore_n 2, 1) := by decide +kernel
theorem dX5_split_7 : decode cX5_split 7 = .ok (.iconst 0, 1) := by decide +kernel
theorem dX5_split_8 : decode cX5_split 8 = .ok (.istore_n 3, 1) := by decide +kernel
theorem dX5_split_9 : decode cX5_split 9 = .ok (.iload_n 3, 1) := by decide +kernel
theorem dX5_split_10 : decode cX5_split 10 = .ok (.sipush 200, 3) := by decide +kernel
theorem dX5_split_13 : decode cX5_split 13 = .ok (.if_icmp .ge 53, 3) := by decide +kernel
theorem dX5_split_16 : decode cX5_split 16 = .ok (.iload_n 2, 1) := by decide +kernel
theorem dX5_split_17 : decode cX5_split 17 = .ok (.aload_n 1, 1) := by decide +kernel
theorem dX5_split_18 : decode cX5_split 18 = .ok (.getfield 40, 3) := by decide +kernel
theorem dX5_split_21 : decode cX5_split 21 = .ok (.if_icmp .ge 45, 3) := by decide +kernel
theorem dX5_split_24 : decode cX5_split 24 = .ok (.iload_n 2, 1) := by decide +kernel
theorem dX5_split_25 : decode cX5_split 25 = .ok (.istore 4, 2) := by decide +kernel
theorem dX5_split_27 : decode cX5_split 27 = .ok (.aload_n 1, 1) := by decide +kernel
theorem dX5_split_28 : decode cX5_split 28 = .ok (.iload_n 2, 1) := by decide +kernel
theorem dX5_split_29 : decode cX5_split 29 = .ok (.invokevirtual 67, 3) := by decide +kernel
theorem dX5_split_32 : decode cX5_split 32 = .ok (.istore 5, 2) := by decide +kernel
theorem dX5_split_34 : decode cX5_split 34 = .ok (.aload_n 1, 1) := by decide +kernel
theorem dX5_split_35 : decode cX5_split 35 = .ok (.iload_n 2, 1) := by decide +kernel
theorem dX5_split_36 : decode cX5_split 36 = .ok (.invokestatic 70, 3) := by decide +kernel
theorem dX5_split_39 : decode cX5_split 39 = .ok (.istore_n 2, 1) := by decide +kernel
theorem dX5_split_40 : decode cX5_split 40 = .ok (.iload 5, 2) := by decide +kernel
theorem dX5_split_42 : decode cX5_split 42 = .ok (.bipush 32, 2) := by decide +kernel
theorem dX5_split_44 : decode cX5_split 44 = .ok (.if_icmp .eq 16, 3) := by decide +kernel
theorem dX5_split_47 : decode cX5_split 47 = .ok (.aload_n 0, 1) := by decide +kernel
theorem dX5_split_48 : decode cX5_split 48 = .ok (.aload_n 1, 1) := by decide +kernel
theorem dX5_split_49 : decode cX5_split 49 = .ok (.iload 4, 2) := by decide +kernel
theorem dX5_split_51 : decode cX5_split 51 = .ok (.iload_n 2, 1) := by decide +kernel
theorem dX5_split_52 : decode cX5_split 52 = .ok (.invokestatic 74, 3) := by decide +kernel
theorem dX5_split_55 : decode cX5_split 55 = .ok (.iload 4, 2) := by decide +kernel
theorem dX5_split_57 : decode cX5_split 57 = .ok (.invokevirtual 78, 3) := by decide +kernel
theorem dX5_split_60 : decode cX5_split 60 = .ok (.iinc 3 1, 3) := by decide +kernel
theorem dX5_split_63 : decode cX5_split 63 = .ok (.goto (-54), 3) := by decide +kernel
theorem dX5_split_66 : decode cX5_split 66 = .ok (.aload_n 0, 1) := by decide +kernel
theorem dX5_split_67 : decode cX5_split 67 = .ok (.iconst 0, 1) := by decide +kernel
theorem dX5_split_68 : decode cX5_split 68 = .ok (.aload_n 1, 1) := by decide +kernel
theorem dX5_split_69 : decode cX5_split 69 = .ok (.getfield 40, 3) := by decide +kernel
theorem dX5_split_72 : decode cX5_split 72 = .ok (.invokevirtual 78, 3) := by decide +kernel
theorem dX5_split_75 : decode cX5_split 75 = .ok (.return_, 1) := by decide +kernel
theorem dX5_addToken_0 : decode cX5_addToken 0 = .ok (.aload_n 0, 1) := by decide +kernel
theorem dX5_addToken_1 : decode cX5_addToken 1 = .ok (.getfield 64, 3) := by decide +kernel
theorem dX5_addToken_4 : decode cX5_addToken 4 = .ok (.ifCond .lt 43, 3) := by decide +kernel
theorem dX5_addToken_7 : decode cX5_addToken 7 = .ok (.aload_n 0, 1) := by decide +kernel
theorem dX5_addToken_8 : decode cX5_addToken 8 = .ok (.getfield 64, 3) := by decide +kernel
theorem dX5_addToken_11 : decode cX5_addToken 11 = .ok (.sipush 201, 3) := by decide +kernel
theorem dX5_addToken_14 : decode cX5_addToken 14 = .ok (.if_icmp .ge 33, 3) := by decide +kernel
theorem dX5_addToken_17 : decode cX5_addToken 17 = .ok (.aload_n 0, 1) := by decide +kernel
theorem dX5_addToken_18 : decode cX5_addToken 18 = .ok (.getfield 11, 3) := by decide +kernel
theorem dX5_addToken_21 : decode cX5_addToken 21 = .ok (.aload_n 0, 1) := by decide +kernel
theorem dX5_addToken_22 : decode cX5_addToken 22 = .ok (.getfield 64, 3) := by decide +kernel
theorem dX5_addToken_25 : decode cX5_addToken 25 = .ok (.iload_n 1, 1) := by decide +kernel
theorem dX5_addToken_26 : decode cX5_addToken 26 = .ok (.iastore, 1) := by decide +kernel
theorem dX5_addToken_27 : decode cX5_addToken 27 = .ok (.aload_n 0, 1) := by decide +kernel
theorem dX5_addToken_28 : decode cX5_addToken 28 = .ok (.getfield 15, 3) := by decide +kernel
theorem dX5_addToken_31 : decode cX5_addToken 31 = .ok (.aload_n 0, 1) := by decide +kernel
theorem dX5_addToken_32 : decode cX5_addToken 32 = .ok (.getfield 64, 3) := by decide +kernel
theorem dX5_addToken_35 : decode cX5_addToken 35 = .ok (.iload_n 2, 1) := by decide +kernel
theorem dX5_addToken_36 : decode cX5_addToken 36 = .ok (.iastore, 1) := by decide +kernel
theorem dX5_addToken_37 : decode cX5_addToken 37 = .ok (.aload_n 0, 1) := by decide +kernel
theorem dX5_addToken_38 : decode cX5_addToken 38 = .ok (.dup, 1) := by decide +kernel
theorem dX5_addToken_39 : decode cX5_addToken 39 = .ok (.getfield 64, 3) := by decide +kernel
theorem dX5_addToken_42 : decode cX5_addToken 42 = .ok (.iconst 1, 1) := by decide +kernel
theorem dX5_addToken_43 : decode cX5_addToken 43 = .ok (.iadd, 1) := by decide +kernel
theorem dX5_addToken_44 : decode cX5_addToken 44 = .ok (.putfield 64, 3) := by decide +kernel
theorem dX5_addToken_47 : decode cX5_addToken 47 = .ok (.return_, 1) := by decide +kernel
theorem dX5_endOfToken_0 : decode cX5_endOfToken 0 = .ok (.aload_n 0, 1) := by decide +kernel
theorem dX5_endOfToken_1 : decode cX5_endOfToken 1 = .ok (.iload_n 1, 1) := by decide +kernel
theorem dX5_endOfToken_2 : decode cX5_endOfToken 2 = .ok (.invokevirtual 67, 3) := by decide +kernel
theorem dX5_endOfToken_5 : decode cX5_endOfToken 5 = .ok (.invokestatic 84, 3) := by decide +kernel
theorem dX5_endOfToken_8 : decode cX5_endOfToken 8 = .ok (.istore_n 2, 1) := by decide +kernel
theorem dX5_endOfToken_9 : decode cX5_endOfToken 9 = .ok (.aload_n 0, 1) := by decide +kernel
theorem dX5_endOfToken_10 : decode cX5_endOfToken 10 = .ok (.iload_n 1, 1) := by decide +kernel
theorem dX5_endOfToken_11 : decode cX5_endOfToken 11 = .ok (.invokevirtual 67, 3) := by decide +kernel
theorem dX5_endOfToken_14 : decode cX5_endOfToken 14 = .ok (.invokestatic 88, 3) := by decide +kernel
theorem dX5_endOfToken_17 : decode cX5_endOfToken 17 = .ok (.istore_n 3, 1) := by decide +kernel
theorem dX5_endOfToken_18 : decode cX5_endOfToken 18 = .ok (.iload_n 1, 1) := by decide +kernel
theorem dX5_endOfToken_19 : decode cX5_endOfToken 19 = .ok (.iconst 1, 1) := by decide +kernel
theorem dX5_endOfToken_20 : decode cX5_endOfToken 20 = .ok (.iadd, 1) := by decide +kernel
theorem dX5_endOfToken_21 : decode cX5_endOfToken 21 = .ok (.istore 4, 2) := by decide +kernel
theorem dX5_endOfToken_23 : decode cX5_endOfToken 23 = .ok (.iload 4, 2) := by decide +kernel
theorem dX5_endOfToken_25 : decode cX5_endOfToken 25 = .ok (.aload_n 0, 1) := by decide +kernel
theorem dX5_endOfToken_26 : decode cX5_endOfToken 26 = .ok (.getfield 40, 3) := by decide +kernel
theorem dX5_endOfToken_29 : decode cX5_endOfToken 29 = .ok (.if_icmp .ge 41, 3) := by decide +kernel
theorem dX5_endOfToken_32 : decode cX5_endOfToken 32 = .ok (.iload_n 2, 1) := by decide +kernel
theorem dX5_endOfToken_33 : decode cX5_endOfToken 33 = .ok (.ifCond .eq 15, 3) := by decide +kernel
theorem dX5_endOfToken_36 : decode cX5_endOfToken 36 = .ok (.aload_n 0, 1) := by decide +kernel
theorem dX5_endOfToken_37 : decode cX5_endOfToken 37 = .ok (.iload 4, 2) := by decide +kernel
theorem dX5_endOfToken_39 : decode cX5_endOfToken 39 = .ok (.invokevirtual 67, 3) := by decide +kernel
theorem dX5_endOfToken_42 : decode cX5_endOfToken 42 = .ok (.invokestatic 84, 3) := by decide +kernel
theorem dX5_endOfToken_45 : decode cX5_endOfToken 45 = .ok (.ifCond .ne 19, 3) := by decide +kernel
theorem dX5_endOfToken_48 : decode cX5_endOfToken 48 = .ok (.iload_n 3, 1) := by decide +kernel
theorem dX5_endOfToken_49 : decode cX5_endOfToken 49 = .ok (.ifCond .eq 21, 3) := by decide +kernel
theorem dX5_endOfToken_52 : decode cX5_endOfToken 52 = .ok (.aload_n 0, 1) := by decide +kernel
theorem dX5_endOfToken_53 : decode cX5_endOfToken 53 = .ok (.iload 4, 2) := by decide +kernel
theorem dX5_endOfToken_55 : decode cX5_endOfToken 55 = .ok (.invokevirtual 67, 3) := by decide +kernel
theorem dX5_endOfToken_58 : decode cX5_endOfToken 58 = .ok (.invokestatic 88, 3) := by decide +kernel
theorem dX5_endOfToken_61 : decode cX5_endOfToken 61 = .ok (.ifCond .eq 9, 3) := by decide +kernel
theorem dX5_endOfToken_64 : decode cX5_endOfToken 64 = .ok (.iinc 4 1, 3) := by decide +kernel
theorem dX5_endOfToken_67 : decode cX5_endOfToken 67 = .ok (.goto (-44), 3) := by decide +kernel
theorem dX5_endOfToken_70 : decode cX5_endOfToken 70 = .ok (.iload 4, 2) := by decide +kernel
theorem dX5_endOfToken_72 : decode cX5_endOfToken 72 = .ok (.ireturn, 1) := by decide +kernel
theorem dX5_isLetter_0 : decode cX5_isLetter 0 = .ok (.iload_n 0, 1) := by decide +kernel
theorem dX5_isLetter_1 : decode cX5_isLetter 1 = .ok (.bipush 97, 2) := by decide +kernel
theorem dX5_isLetter_3 : decode cX5_isLetter 3 = .ok (.if_icmp .lt 13, 3) := by decide +kernel
theorem dX5_isLetter_6 : decode cX5_isLetter 6 = .ok (.iload_n 0, 1) := by decide +kernel
theorem dX5_isLetter_7 : decode cX5_isLetter 7 = .ok (.bipush 122, 2) := by decide +kernel
theorem dX5_isLetter_9 : decode cX5_isLetter 9 = .ok (.if_icmp .gt 7, 3) := by decide +kernel
theorem dX5_isLetter_12 : decode cX5_isLetter 12 = .ok (.iconst 1, 1) := by decide +kernel
theorem dX5_isLetter_13 : decode cX5_isLetter 13 = .ok (.goto 4, 3) := by decide +kernel
theorem dX5_isLetter_16 : decode cX5_isLetter 16 = .ok (.iconst 0, 1) := by decide +kernel
theorem dX5_isLetter_17 : decode cX5_isLetter 17 = .ok (.ireturn, 1) := by decide +kernel
theorem dX5_isDigit_0 : decode cX5_isDigit 0 = .ok (.iload_n 0, 1) := by decide +kernel
theorem dX5_isDigit_1 : decode cX5_isDigit 1 = .ok (.bipush 48, 2) := by decide +kernel
theorem dX5_isDigit_3 : decode cX5_isDigit 3 = .ok (.if_icmp .lt 13, 3) := by decide +kernel
theorem dX5_isDigit_6 : decode cX5_isDigit 6 = .ok (.iload_n 0, 1) := by decide +kernel
theorem dX5_isDigit_7 : decode cX5_isDigit 7 = .ok (.bipush 57, 2) := by decide +kernel
theorem dX5_isDigit_9 : decode cX5_isDigit 9 = .ok (.if_icmp .gt 7, 3) := by decide +kernel
theorem dX5_isDigit_12 : decode cX5_isDigit 12 = .ok (.iconst 1, 1) := by decide +kernel
theorem dX5_isDigit_13 : decode cX5_isDigit 13 = .ok (.goto 4, 3) := by decide +kernel
theorem dX5_isDigit_16 : decode cX5_isDigit 16 = .ok (.iconst 0, 1) := by decide +kernel
theorem dX5_isDigit_17 : decode cX5_isDigit 17 = .ok (.ireturn, 1) := by decide +kernel
theorem dX5_meaning_0 : decode cX5_meaning 0 = .ok (.aload_n 0, 1) := by decide +kernel
theorem dX5_meaning_1 : decode cX5_meaning 1 = .ok (.iload_n 1, 1) := by decide +kernel
theorem dX5_meaning_2 : decode cX5_meaning 2 = .ok (.invokevirtual 67, 3) := by decide +kernel
theorem dX5_meaning_5 : decode cX5_meaning 5 = .ok (.istore_n 3, 1) := by decide +kernel
theorem dX5_meaning_6 : decode cX5_meaning 6 = .ok (.iload_n 3, 1) := by decide +kernel
theorem dX5_meaning_7 : decode cX5_meaning 7 = .ok (.invokestatic 84, 3) := by decide +kernel
theorem dX5_meaning_10 : decode cX5_meaning 10 = .ok (.ifCond .eq 12, 3) := by decide +kernel
theorem dX5_meaning_13 : decode cX5_meaning 13 = .ok (.aload_n 0, 1) := by decide +kernel
theorem dX5_meaning_14 : decode cX5_meaning 14 = .ok (.iload_n 1, 1) := by decide +kernel
theorem dX5_meaning_15 : decode cX5_meaning 15 = .ok (.iload_n 2, 1) := by decide +kernel
theorem dX5_meaning_16 : decode cX5_meaning 16 = .ok (.iload_n 1, 1) := by decide +kernel
theorem dX5_meaning_17 : decode cX5_meaning 17 = .ok (.isub, 1) := by decide +kernel
theorem dX5_meaning_18 : decode cX5_meaning 18 = .ok (.invokestatic 91, 3) := by decide +kernel
theorem dX5_meaning_21 : decode cX5_meaning 21 = .ok (.ireturn, 1) := by decide +kernel
theorem dX5_meaning_22 : decode cX5_meaning 22 = .ok (.iload_n 3, 1) := by decide +kernel
theorem dX5_meaning_23 : decode cX5_meaning 23 = .ok (.invokestatic 88, 3) := by decide +kernel
theorem dX5_meaning_26 : decode cX5_meaning 26 = .ok (.ifCond .eq 10, 3) := by decide +kernel
theorem dX5_meaning_29 : decode cX5_meaning 29 = .ok (.aload_n 0, 1) := by decide +kernel
theorem dX5_meaning_30 : decode cX5_meaning 30 = .ok (.iload_n 1, 1) := by decide +kernel
theorem dX5_meaning_31 : decode cX5_meaning 31 = .ok (.iload_n 2, 1) := by decide +kernel
theorem dX5_meaning_32 : decode cX5_meaning 32 = .ok (.invokestatic 94, 3) := by decide +kernel
theorem dX5_meaning_35 : decode cX5_meaning 35 = .ok (.ireturn, 1) := by decide +kernel
theorem dX5_meaning_36 : decode cX5_meaning 36 = .ok (.iload_n 3, 1) := by decide +kernel
theorem dX5_meaning_37 : decode cX5_meaning 37 = .ok (.bipush 40, 2) := by decide +kernel
theorem dX5_meaning_39 : decode cX5_meaning 39 = .ok (.if_icmp .lt 15, 3) := by decide +kernel
theorem dX5_meaning_42 : decode cX5_meaning 42 = .ok (.iload_n 3, 1) := by decide +kernel
theorem dX5_meaning_43 : decode cX5_meaning 43 = .ok (.bipush 47, 2) := by decide +kernel
theorem dX5_meaning_45 : decode cX5_meaning 45 = .ok (.if_icmp .gt 9, 3) := by decide +kernel
theorem dX5_meaning_48 : decode cX5_meaning 48 = .ok (.iload_n 3, 1) := by decide +kernel
theorem dX5_meaning_49 : decode cX5_meaning 49 = .ok (.bipush 46, 2) := by decide +kernel
theorem dX5_meaning_51 : decode cX5_meaning 51 = .ok (.if_icmp .ne 15, 3) := by decide +kernel
theorem dX5_meaning_54 : decode cX5_meaning 54 = .ok (.iload_n 3, 1) := by decide +kernel
theorem dX5_meaning_55 : decode cX5_meaning 55 = .ok (.bipush 59, 2) := by decide +kernel
theorem dX5_meaning_57 : decode cX5_meaning 57 = .ok (.if_icmp .lt 13, 3) := by decide +kernel
theorem dX5_meaning_60 : decode cX5_meaning 60 = .ok (.iload_n 3, 1) := by decide +kernel
theorem dX5_meaning_61 : decode cX5_meaning 61 = .ok (.bipush 62, 2) := by decide +kernel
theorem dX5_meaning_63 : decode cX5_meaning 63 = .ok (.if_icmp .gt 7, 3) := by decide +kernel
theorem dX5_meaning_66 : decode cX5_meaning 66 = .ok (.iload_n 3, 1) := by decide +kernel
theorem dX5_meaning_67 : decode cX5_meaning 67 = .ok (.goto 4, 3) := by decide +kernel
theorem dX5_meaning_70 : decode cX5_meaning 70 = .ok (.iconst 2, 1) := by decide +kernel
theorem dX5_meaning_71 : decode cX5_meaning 71 = .ok (.ireturn, 1) := by decide +kernel
theorem dX5_numberMeaning_0 : decode cX5_numberMeaning 0 = .ok (.iload_n 2, 1) := by decide +kernel
theorem dX5_numberMeaning_1 : decode cX5_numberMeaning 1 = .ok (.iload_n 1, 1) := by decide +kernel
theorem dX5_numberMeaning_2 : decode cX5_numberMeaning 2 = .ok (.isub, 1) := by decide +kernel
theorem dX5_numberMeaning_3 : decode cX5_numberMeaning 3 = .ok (.iconst 5, 1) := by decide +kernel
theorem dX5_numberMeaning_4 : decode cX5_numberMeaning 4 = .ok (.if_icmp .le 5, 3) := by decide +kernel
theorem dX5_numberMeaning_7 : decode cX5_numberMeaning 7 = .ok (.iconst 2, 1) := by decide +kernel
theorem dX5_numberMeaning_8 : decode cX5_numberMeaning 8 = .ok (.ireturn, 1) := by decide +kernel
theorem dX5_numberMeaning_9 : decode cX5_numberMeaning 9 = .ok (.iconst 0, 1) := by decide +kernel
theorem dX5_numberMeaning_10 : decode cX5_numberMeaning 10 = .ok (.istore_n 3, 1) := by decide +kernel
theorem dX5_numberMeaning_11 : decode cX5_numberMeaning 11 = .ok (.iload_n 1, 1) := by decide +kernel
theorem dX5_numberMeaning_12 : decode cX5_numberMeaning 12 = .ok (.istore 4, 2) := by decide +kernel
theorem dX5_numberMeaning_14 : decode cX5_numberMeaning 14 = .ok (.iload 4, 2) := by decide +kernel
theorem dX5_numberMeaning_16 : decode cX5_numberMeaning 16 = .ok (.iload_n 2, 1) := by decide +kernel
theorem dX5_numberMeaning_17 : decode cX5_numberMeaning 17 = .ok (.if_icmp .ge 24, 3) := by decide +kernel
theorem dX5_numberMeaning_20 : decode cX5_numberMeaning 20 = .ok (.iload_n 3, 1) := by decide +kernel
theorem dX5_numberMeaning_21 : decode cX5_numberMeaning 21 = .ok (.bipush 10, 2) := by decide +kernel
theorem dX5_numberMeaning_23 : decode cX5_numberMeaning 23 = .ok (.imul, 1) := by decide +kernel
theorem dX5_numberMeaning_24 : decode cX5_numberMeaning 24 = .ok (.aload_n 0, 1) := by decide +kernel
theorem dX5_numberMeaning_25 : decode cX5_numberMeaning 25 = .ok (.iload 4, 2) := by decide +kernel
theorem dX5_numberMeaning_27 : decode cX5_numberMeaning 27 = .ok (.invokevirtual 67, 3) := by decide +kernel
theorem dX5_numberMeaning_30 : decode cX5_numberMeaning 30 = .ok (.iadd, 1) := by decide +kernel
theorem dX5_numberMeaning_31 : decode cX5_numberMeaning 31 = .ok (.bipush 48, 2) := by decide +kernel
theorem dX5_numberMeaning_33 : decode cX5_numberMeaning 33 = .ok (.isub, 1) := by decide +kernel
theorem dX5_numberMeaning_34 : decode cX5_numberMeaning 34 = .ok (.istore_n 3, 1) := by decide +kernel
theorem dX5_numberMeaning_35 : decode cX5_numberMeaning 35 = .ok (.iinc 4 1, 3) := by decide +kernel
theorem dX5_numberMeaning_38 : decode cX5_numberMeaning 38 = .ok (.goto (-24), 3) := by decide +kernel
theorem dX5_numberMeaning_41 : decode cX5_numberMeaning 41 = .ok (.sipush 1000, 3) := by decide +kernel
theorem dX5_numberMeaning_44 : decode cX5_numberMeaning 44 = .ok (.iload_n 3, 1) := by decide +kernel
theorem dX5_numberMeaning_45 : decode cX5_numberMeaning 45 = .ok (.iadd, 1) := by decide +kernel
theorem dX5_numberMeaning_46 : decode cX5_numberMeaning 46 = .ok (.ireturn, 1) := by decide +kernel
theorem dX5_wordMeaning_0 : decode cX5_wordMeaning 0 = .ok (.sipush 128, 3) := by decide +kernel
theorem dX5_wordMeaning_3 : decode cX5_wordMeaning 3 = .ok (.istore_n 3, 1) := by decide +kernel
theorem dX5_wordMeaning_4 : decode cX5_wordMeaning 4 = .ok (.iconst 0, 1) := by decide +kernel
theorem dX5_wordMeaning_5 : decode cX5_wordMeaning 5 = .ok (.istore 4, 2) := by decide +kernel
theorem dX5_wordMeaning_7 : decode cX5_wordMeaning 7 = .ok (.iconst 0, 1) := by decide +kernel
theorem dX5_wordMeaning_8 : decode cX5_wordMeaning 8 = .ok (.istore 5, 2) := by decide +kernel
theorem dX5_wordMeaning_10 : decode cX5_wordMeaning 10 = .ok (.iload 5, 2) := by decide +kernel
theorem dX5_wordMeaning_12 : decode cX5_wordMeaning 12 = .ok (.ldc 97, 2) := by decide +kernel
theorem dX5_wordMeaning_14 : decode cX5_wordMeaning 14 = .ok (.invokevirtual 99, 3) := by decide +kernel
theorem dX5_wordMeaning_17 : decode cX5_wordMeaning 17 = .ok (.if_icmp .ge 52, 3) := by decide +kernel
theorem dX5_wordMeaning_20 : decode cX5_wordMeaning 20 = .ok (.ldc 97, 2) := by decide +kernel
theorem dX5_wordMeaning_22 : decode cX5_wordMeaning 22 = .ok (.iload 5, 2) := by decide +kernel
theorem dX5_wordMeaning_24 : decode cX5_wordMeaning 24 = .ok (.invokevirtual 103, 3) := by decide +kernel
theorem dX5_wordMeaning_27 : decode cX5_wordMeaning 27 = .ok (.bipush 32, 2) := by decide +kernel
theorem dX5_wordMeaning_29 : decode cX5_wordMeaning 29 = .ok (.if_icmp .ne 34, 3) := by decide +kernel
theorem dX5_wordMeaning_32 : decode cX5_wordMeaning 32 = .ok (.iload 5, 2) := by decide +kernel
theorem dX5_wordMeaning_34 : decode cX5_wordMeaning 34 = .ok (.iload 4, 2) := by decide +kernel
theorem dX5_wordMeaning_36 : decode cX5_wordMeaning 36 = .ok (.isub, 1) := by decide +kernel
theorem dX5_wordMeaning_37 : decode cX5_wordMeaning 37 = .ok (.iload_n 2, 1) := by decide +kernel
theorem dX5_wordMeaning_38 : decode cX5_wordMeaning 38 = .ok (.if_icmp .ne 16, 3) := by decide +kernel
theorem dX5_wordMeaning_41 : decode cX5_wordMeaning 41 = .ok (.aload_n 0, 1) := by decide +kernel
theorem dX5_wordMeaning_42 : decode cX5_wordMeaning 42 = .ok (.iload_n 1, 1) := by decide +kernel
theorem dX5_wordMeaning_43 : decode cX5_wordMeaning 43 = .ok (.iload 4, 2) := by decide +kernel
theorem dX5_wordMeaning_45 : decode cX5_wordMeaning 45 = .ok (.iload_n 2, 1) := by decide +kernel
theorem dX5_wordMeaning_46 : decode cX5_wordMeaning 46 = .ok (.invokestatic 107, 3) := by decide +kernel
theorem dX5_wordMeaning_49 : decode cX5_wordMeaning 49 = .ok (.ifCond .eq 5, 3) := by decide +kernel
theorem dX5_wordMeaning_52 : decode cX5_wordMeaning 52 = .ok (.iload_n 3, 1) := by decide +kernel
theorem dX5_wordMeaning_53 : decode cX5_wordMeaning 53 = .ok (.ireturn, 1) := by decide +kernel
theorem dX5_wordMeaning_54 : decode cX5_wordMeaning 54 = .ok (.iinc 3 1, 3) := by decide +kernel
theorem dX5_wordMeaning_57 : decode cX5_wordMeaning 57 = .ok (.iload 5, 2) := by decide +kernel
theorem dX5_wordMeaning_59 : decode cX5_wordMeaning 59 = .ok (.iconst 1, 1) := by decide +kernel
theorem dX5_wordMeaning_60 : decode cX5_wordMeaning 60 = .ok (.iadd, 1) := by decide +kernel
theorem dX5_wordMeaning_61 : decode cX5_wordMeaning 61 = .ok (.istore 4, 2) := by decide +kernel
theorem dX5_wordMeaning_63 : decode cX5_wordMeaning 63 = .ok (.iinc 5 1, 3) := by decide +kernel
theorem dX5_wordMeaning_66 : decode cX5_wordMeaning 66 = .ok (.goto (-56), 3) := by decide +kernel
theorem dX5_wordMeaning_69 : decode cX5_wordMeaning 69 = .ok (.iconst 2, 1) := by decide +kernel
theorem dX5_wordMeaning_70 : decode cX5_wordMeaning 70 = .ok (.ireturn, 1) := by decide +kernel
theorem dX5_spells_0 : decode cX5_spells 0 = .ok (.iconst 0, 1) := by decide +kernel
theorem dX5_spells_1 : decode cX5_spells 1 = .ok (.istore 4, 2) := by decide +kernel
theorem dX5_spells_3 : decode cX5_spells 3 = .ok (.iload 4, 2) := by decide +kernel
theorem dX5_spells_5 : decode cX5_spells 5 = .ok (.iload_n 3, 1) := by decide +kernel
theorem dX5_spells_6 : decode cX5_spells 6 = .ok (.if_icmp .ge 50, 3) := by decide +kernel
theorem dX5_spells_9 : decode cX5_spells 9 = .ok (.iload_n 2, 1) := by decide +kernel
theorem dX5_spells_10 : decode cX5_spells 10 = .ok (.iload 4, 2) := by decide +kernel
theorem dX5_spells_12 : decode cX5_spells 12 = .ok (.iadd, 1) := by decide +kernel
theorem dX5_spells_13 : decode cX5_spells 13 = .ok (.istore 5, 2) := by decide +kernel
theorem dX5_spells_15 : decode cX5_spells 15 = .ok (.iload 5, 2) := by decide +kernel
theorem dX5_spells_17 : decode cX5_spells 17 = .ok (.ifCond .lt 31, 3) := by decide +kernel
theorem dX5_spells_20 : decode cX5_spells 20 = .ok (.iload 5, 2) := by decide +kernel
theorem dX5_spells_22 : decode cX5_spells 22 = .ok (.ldc 97, 2) := by decide +kernel
theorem dX5_spells_24 : decode cX5_spells 24 = .ok (.invokevirtual 99, 3) := by decide +kernel
theorem dX5_spells_27 : decode cX5_spells 27 = .ok (.if_icmp .ge 21, 3) := by decide +kernel
theorem dX5_spells_30 : decode cX5_spells 30 = .ok (.ldc 97, 2) := by decide +kernel
theorem dX5_spells_32 : decode cX5_spells 32 = .ok (.iload 5, 2) := by decide +kernel
theorem dX5_spells_34 : decode cX5_spells 34 = .ok (.invokevirtual 103, 3) := by decide +kernel
theorem dX5_spells_37 : decode cX5_spells 37 = .ok (.aload_n 0, 1) := by decide +kernel
theorem dX5_spells_38 : decode cX5_spells 38 = .ok (.iload_n 1, 1) := by decide +kernel
theorem dX5_spells_39 : decode cX5_spells 39 = .ok (.iload 4, 2) := by decide +kernel
theorem dX5_spells_41 : decode cX5_spells 41 = .ok (.iadd, 1) := by decide +kernel
theorem dX5_spells_42 : decode cX5_spells 42 = .ok (.invokevirtual 67, 3) := by decide +kernel
theorem dX5_spells_45 : decode cX5_spells 45 = .ok (.if_icmp .eq 5, 3) := by decide +kernel
theorem dX5_spells_48 : decode cX5_spells 48 = .ok (.iconst 0, 1) := by decide +kernel
theorem dX5_spells_49 : decode cX5_spells 49 = .ok (.ireturn, 1) := by decide +kernel
theorem dX5_spells_50 : decode cX5_spells 50 = .ok (.iinc 4 1, 3) := by decide +kernel
theorem dX5_spells_53 : decode cX5_spells 53 = .ok (.goto (-50), 3) := by decide +kernel
theorem dX5_spells_56 : decode cX5_spells 56 = .ok (.iconst 1, 1) := by decide +kernel
theorem dX5_spells_57 : decode cX5_spells 57 = .ok (.ireturn, 1) := by decide +kernel
theorem dX5_token_0 : decode cX5_token 0 = .ok (.aload_n 0, 1) := by decide +kernel
theorem dX5_token_1 : decode cX5_token 1 = .ok (.getfield 25, 3) := by decide +kernel
theorem dX5_token_4 : decode cX5_token 4 = .ok (.ifCond .lt 36, 3) := by decide +kernel
theorem dX5_token_7 : decode cX5_token 7 = .ok (.aload_n 0, 1) := by decide +kernel
theorem dX5_token_8 : decode cX5_token 8 = .ok (.getfield 25, 3) := by decide +kernel
theorem dX5_token_11 : decode cX5_token 11 = .ok (.aload_n 0, 1) := by decide +kernel
theorem dX5_token_12 : decode cX5_token 12 = .ok (.getfield 64, 3) := by decide +kernel
theorem dX5_token_15 : decode cX5_token 15 = .ok (.if_icmp .ge 25, 3) := by decide +kernel
theorem dX5_token_18 : decode cX5_token 18 = .ok (.aload_n 0, 1) := by decide +kernel
theorem dX5_token_19 : decode cX5_token 19 = .ok (.getfield 25, 3) := by decide +kernel
theorem dX5_token_22 : decode cX5_token 22 = .ok (.sipush 201, 3) := by decide +kernel
theorem dX5_token_25 : decode cX5_token 25 = .ok (.if_icmp .ge 15, 3) := by decide +kernel
theorem dX5_token_28 : decode cX5_token 28 = .ok (.aload_n 0, 1) := by decide +kernel
theorem dX5_token_29 : decode cX5_token 29 = .ok (.getfield 11, 3) := by decide +kernel
theorem dX5_token_32 : decode cX5_token 32 = .ok (.aload_n 0, 1) := by decide +kernel
theorem dX5_token_33 : decode cX5_token 33 = .ok (.getfield 25, 3) := by decide +kernel
theorem dX5_token_36 : decode cX5_token 36 = .ok (.iaload, 1) := by decide +kernel
theorem dX5_token_37 : decode cX5_token 37 = .ok (.goto 4, 3) := by decide +kernel
theorem dX5_token_40 : decode cX5_token 40 = .ok (.iconst 0, 1) := by decide +kernel
theorem dX5_token_41 : decode cX5_token 41 = .ok (.ireturn, 1) := by decide +kernel
theorem dX5_startHere_0 : decode cX5_startHere 0 = .ok (.aload_n 0, 1) := by decide +kernel
theorem dX5_startHere_1 : decode cX5_startHere 1 = .ok (.getfield 25, 3) := by decide +kernel
theorem dX5_startHere_4 : decode cX5_startHere 4 = .ok (.ifCond .lt 36, 3) := by decide +kernel
theorem dX5_startHere_7 : decode cX5_startHere 7 = .ok (.aload_n 0, 1) := by decide +kernel
theorem dX5_startHere_8 : decode cX5_startHere 8 = .ok (.getfield 25, 3) := by decide +kernel
theorem dX5_startHere_11 : decode cX5_startHere 11 = .ok (.aload_n 0, 1) := by decide +kernel
theorem dX5_startHere_12 : decode cX5_startHere 12 = .ok (.getfield 64, 3) := by decide +kernel
theorem dX5_startHere_15 : decode cX5_startHere 15 = .ok (.if_icmp .ge 25, 3) := by decide +kernel
theorem dX5_startHere_18 : decode cX5_startHere 18 = .ok (.aload_n 0, 1) := by decide +kernel
theorem dX5_startHere_19 : decode cX5_startHere 19 = .ok (.getfield 25, 3) := by decide +kernel
theorem dX5_startHere_22 : decode cX5_startHere 22 = .ok (.sipush 201, 3) := by decide +kernel
theorem dX5_startHere_25 : decode cX5_startHere 25 = .ok (.if_icmp .ge 15, 3) := by decide +kernel
theorem dX5_startHere_28 : decode cX5_startHere 28 = .ok (.aload_n 0, 1) := by decide +kernel
theorem dX5_startHere_29 : decode cX5_startHere 29 = .ok (.getfield 15, 3) := by decide +kernel
theorem dX5_startHere_32 : decode cX5_startHere 32 = .ok (.aload_n 0, 1) := by decide +kernel
theorem dX5_startHere_33 : decode cX5_startHere 33 = .ok (.getfield 25, 3) := by decide +kernel
theorem dX5_startHere_36 : decode cX5_startHere 36 = .ok (.iaload, 1) := by decide +kernel
theorem dX5_startHere_37 : decode cX5_startHere 37 = .ok (.goto 4, 3) := by decide +kernel
theorem dX5_startHere_40 : decode cX5_startHere 40 = .ok (.iload_n 1, 1) := by decide +kernel
theorem dX5_startHere_41 : decode cX5_startHere 41 = .ok (.ireturn, 1) := by decide +kernel
theorem dX5_addStep_0 : decode cX5_addStep 0 = .ok (.aload_n 0, 1) := by decide +kernel
theorem dX5_addStep_1 : decode cX5_addStep 1 = .ok (.getfield 29, 3) := by decide +kernel
theorem dX5_addStep_4 : decode cX5_addStep 4 = .ok (.ifCond .lt 33, 3) := by decide +kernel
theorem dX5_addStep_7 : decode cX5_addStep 7 = .ok (.aload_n 0, 1) := by decide +kernel
theorem dX5_addStep_8 : decode cX5_addStep 8 = .ok (.getfield 29, 3) := by decide +kernel
theorem dX5_addStep_11 : decode cX5_addStep 11 = .ok (.sipush 402, 3) := by decide +kernel
theorem dX5_addStep_14 : decode cX5_addStep 14 = .ok (.if_icmp .ge 23, 3) := by decide +kernel
theorem dX5_addStep_17 : decode cX5_addStep 17 = .ok (.aload_n 0, 1) := by decide +kernel
theorem dX5_addStep_18 : decode cX5_addStep 18 = .ok (.getfield 18, 3) := by decide +kernel
theorem dX5_addStep_21 : decode cX5_addStep 21 = .ok (.aload_n 0, 1) := by decide +kernel
theorem dX5_addStep_22 : decode cX5_addStep 22 = .ok (.getfield 29, 3) := by decide +kernel
theorem dX5_addStep_25 : decode cX5_addStep 25 = .ok (.iload_n 1, 1) := by decide +kernel
theorem dX5_addStep_26 : decode cX5_addStep 26 = .ok (.iastore, 1) := by decide +kernel
theorem dX5_addStep_27 : decode cX5_addStep 27 = .ok (.aload_n 0, 1) := by decide +kernel
theorem dX5_addStep_28 : decode cX5_addStep 28 = .ok (.dup, 1) := by decide +kernel
theorem dX5_addStep_29 : decode cX5_addStep 29 = .ok (.getfield 29, 3) := by decide +kernel
theorem dX5_addStep_32 : decode cX5_addStep 32 = .ok (.iconst 1, 1) := by decide +kernel
theorem dX5_addStep_33 : decode cX5_addStep 33 = .ok (.iadd, 1) := by decide +kernel
theorem dX5_addStep_34 : decode cX5_addStep 34 = .ok (.putfield 29, 3) := by decide +kernel
theorem dX5_addStep_37 : decode cX5_addStep 37 = .ok (.return_, 1) := by decide +kernel
theorem dX5_pass_0 : decode cX5_pass 0 = .ok (.aload_n 0, 1) := by decide +kernel
theorem dX5_pass_1 : decode cX5_pass 1 = .ok (.invokevirtual 36, 3) := by decide +kernel
theorem dX5_pass_4 : decode cX5_pass 4 = .ok (.iload_n 1, 1) := by decide +kernel
theorem dX5_pass_5 : decode cX5_pass 5 = .ok (.if_icmp .eq 5, 3) := by decide +kernel
theorem dX5_pass_8 : decode cX5_pass 8 = .ok (.iconst 0, 1) := by decide +kernel
theorem dX5_pass_9 : decode cX5_pass 9 = .ok (.ireturn, 1) := by decide +kernel
theorem dX5_pass_10 : decode cX5_pass 10 = .ok (.aload_n 0, 1) := by decide +kernel
theorem dX5_pass_11 : decode cX5_pass 11 = .ok (.dup, 1) := by decide +kernel
theorem dX5_pass_12 : decode cX5_pass 12 = .ok (.getfield 25, 3) := by decide +kernel
theorem dX5_pass_15 : decode cX5_pass 15 = .ok (.iconst 1, 1) := by decide +kernel
theorem dX5_pass_16 : decode cX5_pass 16 = .ok (.iadd, 1) := by decide +kernel
theorem dX5_pass_17 : decode cX5_pass 17 = .ok (.putfield 25, 3) := by decide +kernel
theorem dX5_pass_20 : decode cX5_pass 20 = .ok (.iconst 1, 1) := by decide +kernel
theorem dX5_pass_21 : decode cX5_pass 21 = .ok (.ireturn, 1) := by decide +kernel
theorem dX5_readRule_0 : decode cX5_readRule 0 = .ok (.aload_n 0, 1) := by decide +kernel
theorem dX5_readRule_1 : decode cX5_readRule 1 = .ok (.iconst 3, 1) := by decide +kernel
theorem dX5_readRule_2 : decode cX5_readRule 2 = .ok (.iconst 0, 1) := by decide +kernel
theorem dX5_readRule_3 : decode cX5_readRule 3 = .ok (.invokevirtual 111, 3) := by decide +kernel
theorem dX5_readRule_6 : decode cX5_readRule 6 = .ok (.ifCond .ne 5, 3) := by decide +kernel
theorem dX5_readRule_9 : decode cX5_readRule 9 = .ok (.iconst 0, 1) := by decide +kernel
theorem dX5_readRule_10 : decode cX5_readRule 10 = .ok (.ireturn, 1) := by decide +kernel
theorem dX5_readRule_11 : decode cX5_readRule 11 = .ok (.aload_n 0, 1) := by decide +kernel
theorem dX5_readRule_12 : decode cX5_readRule 12 = .ok (.sipush 141, 3) := by decide +kernel
theorem dX5_readRule_15 : decode cX5_readRule 15 = .ok (.invokevirtual 115, 3) := by decide +kernel
theorem dX5_readRule_18 : decode cX5_readRule 18 = .ok (.ifCond .ne 10, 3) := by decide +kernel
theorem dX5_readRule_21 : decode cX5_readRule 21 = .ok (.aload_n 0, 1) := by decide +kernel
theorem dX5_readRule_22 : decode cX5_readRule 22 = .ok (.iconst 1, 1) := by decide +kernel
theorem dX5_readRule_23 : decode cX5_readRule 23 = .ok (.invokevirtual 118, 3) := by decide +kernel
theorem dX5_readRule_26 : decode cX5_readRule 26 = .ok (.iconst 1, 1) := by decide +kernel
theorem dX5_readRule_27 : decode cX5_readRule 27 = .ok (.ireturn, 1) := by decide +kernel
theorem dX5_readRule_28 : decode cX5_readRule 28 = .ok (.aload_n 0, 1) := by decide +kernel
theorem dX5_readRule_29 : decode cX5_readRule 29 = .ok (.iconst 0, 1) := by decide +kernel
theorem dX5_readRule_30 : decode cX5_readRule 30 = .ok (.iconst 0, 1) := by decide +kernel
theorem dX5_readRule_31 : decode cX5_readRule 31 = .ok (.invokevirtual 111, 3) := by decide +kernel
theorem dX5_readRule_34 : decode cX5_readRule 34 = .ok (.ifCond .ne 5, 3) := by decide +kernel
theorem dX5_readRule_37 : decode cX5_readRule 37 = .ok (.iconst 0, 1) := by decide +kernel
theorem dX5_readRule_38 : decode cX5_readRule 38 = .ok (.ireturn, 1) := by decide +kernel
theorem dX5_readRule_39 : decode cX5_readRule 39 = .ok (.aload_n 0, 1) := by decide +kernel
theorem dX5_readRule_40 : decode cX5_readRule 40 = .ok (.sipush 141, 3) := by decide +kernel
theorem dX5_readRule_43 : decode cX5_readRule 43 = .ok (.invokevirtual 118, 3) := by decide +kernel
theorem dX5_readRule_46 : decode cX5_readRule 46 = .ok (.iconst 1, 1) := by decide +kernel
theorem dX5_readRule_47 : decode cX5_readRule 47 = .ok (.ireturn, 1) := by decide +kernel
theorem dX5_readPart_0 : decode cX5_readPart 0 = .ok (.iload_n 1, 1) := by decide +kernel
theorem dX5_readPart_1 : decode cX5_readPart 1 = .ok (.bipush 6, 2) := by decide +kernel
theorem dX5_readPart_3 : decode cX5_readPart 3 = .ok (.if_icmp .lt 9, 3) := by decide +kernel
theorem dX5_readPart_6 : decode cX5_readPart 6 = .ok (.aload_n 0, 1) := by decide +kernel
theorem dX5_readPart_7 : decode cX5_readPart 7 = .ok (.iload_n 2, 1) := by decide +kernel
theorem dX5_readPart_8 : decode cX5_readPart 8 = .ok (.invokevirtual 122, 3) := by decide +kernel
theorem dX5_readPart_11 : decode cX5_readPart 11 = .ok (.ireturn, 1) := by decide +kernel
theorem dX5_readPart_12 : decode cX5_readPart 12 = .ok (.iload_n 1, 1) := by decide +kernel
theorem dX5_readPart_13 : decode cX5_readPart 13 = .ok (.iconst 2, 1) := by decide +kernel
theorem dX5_readPart_14 : decode cX5_readPart 14 = .ok (.if_icmp .ne 19, 3) := by decide +kernel
theorem dX5_readPart_17 : decode cX5_readPart 17 = .ok (.aload_n 0, 1) := by decide +kernel
theorem dX5_readPart_18 : decode cX5_readPart 18 = .ok (.invokevirtual 36, 3) := by decide +kernel
theorem dX5_readPart_21 : decode cX5_readPart 21 = .ok (.sipush 144, 3) := by decide +kernel
theorem dX5_readPart_24 : decode cX5_readPart 24 = .ok (.if_icmp .ne 9, 3) := by decide +kernel
theorem dX5_readPart_27 : decode cX5_readPart 27 = .ok (.aload_n 0, 1) := by decide +kernel
theorem dX5_readPart_28 : decode cX5_readPart 28 = .ok (.iload_n 2, 1) := by decide +kernel
theorem dX5_readPart_29 : decode cX5_readPart 29 = .ok (.invokevirtual 125, 3) := by decide +kernel
theorem dX5_readPart_32 : decode cX5_readPart 32 = .ok (.ireturn, 1) := by decide +kernel
theorem dX5_readPart_33 : decode cX5_readPart 33 = .ok (.aload_n 0, 1) := by decide +kernel
theorem dX5_readPart_34 : decode cX5_readPart 34 = .ok (.iload_n 1, 1) := by decide +kernel
theorem dX5_readPart_35 : decode cX5_readPart 35 = .ok (.iconst 1, 1) := by decide +kernel
theorem dX5_readPart_36 : decode cX5_readPart 36 = .ok (.iadd, 1) := by decide +kernel
theorem dX5_readPart_37 : decode cX5_readPart 37 = .ok (.iload_n 2, 1) := by decide +kernel
theorem dX5_readPart_38 : decode cX5_readPart 38 = .ok (.invokevirtual 111, 3) := by decide +kernel
theorem dX5_readPart_41 : decode cX5_readPart 41 = .ok (.ifCond .ne 5, 3) := by decide +kernel
theorem dX5_readPart_44 : decode cX5_readPart 44 = .ok (.iconst 0, 1) := by decide +kernel
theorem dX5_readPart_45 : decode cX5_readPart 45 = .ok (.ireturn, 1) := by decide +kernel
theorem dX5_readPart_46 : decode cX5_readPart 46 = .ok (.iload_n 1, 1) := by decide +kernel
theorem dX5_readPart_47 : decode cX5_readPart 47 = .ok (.iconst 3, 1) := by decide +kernel
theorem dX5_readPart_48 : decode cX5_readPart 48 = .ok (.if_icmp .ne 7, 3) := by decide +kernel
theorem dX5_readPart_51 : decode cX5_readPart 51 = .ok (.iconst 1, 1) := by decide +kernel
theorem dX5_readPart_52 : decode cX5_readPart 52 = .ok (.goto 6, 3) := by decide +kernel
theorem dX5_readPart_55 : decode cX5_readPart 55 = .ok (.sipush 201, 3) := by decide +kernel
theorem dX5_readPart_58 : decode cX5_readPart 58 = .ok (.istore_n 3, 1) := by decide +kernel
theorem dX5_readPart_59 : decode cX5_readPart 59 = .ok (.iconst 0, 1) := by decide +kernel
theorem dX5_readPart_60 : decode cX5_readPart 60 = .ok (.istore 4, 2) := by decide +kernel
theorem dX5_readPart_62 : decode cX5_readPart 62 = .ok (.iload 4, 2) := by decide +kernel
theorem dX5_readPart_64 : decode cX5_readPart 64 = .ok (.iload_n 3, 1) := by decide +kernel
theorem dX5_readPart_65 : decode cX5_readPart 65 = .ok (.if_icmp .ge 55, 3) := by decide +kernel
theorem dX5_readPart_68 : decode cX5_readPart 68 = .ok (.aload_n 0, 1) := by decide +kernel
theorem dX5_readPart_69 : decode cX5_readPart 69 = .ok (.invokevirtual 36, 3) := by decide +kernel
theorem dX5_readPart_72 : decode cX5_readPart 72 = .ok (.invokestatic 128, 3) := by decide +kernel
theorem dX5_readPart_75 : decode cX5_readPart 75 = .ok (.iload_n 1, 1) := by decide +kernel
theorem dX5_readPart_76 : decode cX5_readPart 76 = .ok (.if_icmp .ne 44, 3) := by decide +kernel
theorem dX5_readPart_79 : decode cX5_readPart 79 = .ok (.aload_n 0, 1) := by decide +kernel
theorem dX5_readPart_80 : decode cX5_readPart 80 = .ok (.invokevirtual 36, 3) := by decide +kernel
theorem dX5_readPart_83 : decode cX5_readPart 83 = .ok (.istore 5, 2) := by decide +kernel
theorem dX5_readPart_85 : decode cX5_readPart 85 = .ok (.aload_n 0, 1) := by decide +kernel
theorem dX5_readPart_86 : decode cX5_readPart 86 = .ok (.dup, 1) := by decide +kernel
theorem dX5_readPart_87 : decode cX5_readPart 87 = .ok (.getfield 25, 3) := by decide +kernel
theorem dX5_readPart_90 : decode cX5_readPart 90 = .ok (.iconst 1, 1) := by decide +kernel
theorem dX5_readPart_91 : decode cX5_readPart 91 = .ok (.iadd, 1) := by decide +kernel
theorem dX5_readPart_92 : decode cX5_readPart 92 = .ok (.putfield 25, 3) := by decide +kernel
theorem dX5_readPart_95 : decode cX5_readPart 95 = .ok (.aload_n 0, 1) := by decide +kernel
theorem dX5_readPart_96 : decode cX5_readPart 96 = .ok (.iload_n 1, 1) := by decide +kernel
theorem dX5_readPart_97 : decode cX5_readPart 97 = .ok (.iconst 1, 1) := by decide +kernel
theorem dX5_readPart_98 : decode cX5_readPart 98 = .ok (.iadd, 1) := by decide +kernel
theorem dX5_readPart_99 : decode cX5_readPart 99 = .ok (.iload_n 2, 1) := by decide +kernel
theorem dX5_readPart_100 : decode cX5_readPart 100 = .ok (.invokevirtual 111, 3) := by decide +kernel
theorem dX5_readPart_103 : decode cX5_readPart 103 = .ok (.ifCond .ne 5, 3) := by decide +kernel
theorem dX5_readPart_106 : decode cX5_readPart 106 = .ok (.iconst 0, 1) := by decide +kernel
theorem dX5_readPart_107 : decode cX5_readPart 107 = .ok (.ireturn, 1) := by decide +kernel
theorem dX5_readPart_108 : decode cX5_readPart 108 = .ok (.aload_n 0, 1) := by decide +kernel
theorem dX5_readPart_109 : decode cX5_readPart 109 = .ok (.iload 5, 2) := by decide +kernel
theorem dX5_readPart_111 : decode cX5_readPart 111 = .ok (.invokevirtual 118, 3) := by decide +kernel
theorem dX5_readPart_114 : decode cX5_readPart 114 = .ok (.iinc 4 1, 3) := by decide +kernel
theorem dX5_readPart_117 : decode cX5_readPart 117 = .ok (.goto (-55), 3) := by decide +kernel
theorem dX5_readPart_120 : decode cX5_readPart 120 = .ok (.iconst 1, 1) := by decide +kernel
theorem dX5_readPart_121 : decode cX5_readPart 121 = .ok (.ireturn, 1) := by decide +kernel
theorem dX5_levelOf_0 : decode cX5_levelOf 0 = .ok (.iload_n 0, 1) := by decide +kernel
theorem dX5_levelOf_1 : decode cX5_levelOf 1 = .ok (.lookupswitch 93 #[(42, 91), (43, 89), (45, 89), (47, 91), (60, 87), (61, 87), (62, 87), (142, 83), (143, 85)], 83) := by decide +kernel
theorem dX5_levelOf_84 : decode cX5_levelOf 84 = .ok (.iconst 0, 1) := by decide +kernel
theorem dX5_levelOf_85 : decode cX5_levelOf 85 = .ok (.ireturn, 1) := by decide +kernel
theorem dX5_levelOf_86 : decode cX5_levelOf 86 = .ok (.iconst 1, 1) := by decide +kernel
theorem dX5_levelOf_87 : decode cX5_levelOf 87 = .ok (.ireturn, 1) := by decide +kernel
theorem dX5_levelOf_88 : decode cX5_levelOf 88 = .ok (.iconst 3, 1) := by decide +kernel
theorem dX5_levelOf_89 : decode cX5_levelOf 89 = .ok (.ireturn, 1) := by decide +kernel
theorem dX5_levelOf_90 : decode cX5_levelOf 90 = .ok (.iconst 4, 1) := by decide +kernel
theorem dX5_levelOf_91 : decode cX5_levelOf 91 = .ok (.ireturn, 1) := by decide +kernel
theorem dX5_levelOf_92 : decode cX5_levelOf 92 = .ok (.iconst 5, 1) := by decide +kernel
theorem dX5_levelOf_93 : decode cX5_levelOf 93 = .ok (.ireturn, 1) := by decide +kernel
theorem dX5_levelOf_94 : decode cX5_levelOf 94 = .ok (.iconst (-1), 1) := by decide +kernel
theorem dX5_levelOf_95 : decode cX5_levelOf 95 = .ok (.ireturn, 1) := by decide +kernel
theorem dX5_readNegation_0 : decode cX5_readNegation 0 = .ok (.iload_n 1, 1) := by decide +kernel
theorem dX5_readNegation_1 : decode cX5_readNegation 1 = .ok (.bipush 12, 2) := by decide +kernel
theorem dX5_readNegation_3 : decode cX5_readNegation 3 = .ok (.if_icmp .lt 5, 3) := by decide +kernel
theorem dX5_readNegation_6 : decode cX5_readNegation 6 = .ok (.iconst 0, 1) := by decide +kernel
theorem dX5_readNegation_7 : decode cX5_readNegation 7 = .ok (.ireturn, 1) := by decide +kernel
theorem dX5_readNegation_8 : decode cX5_readNegation 8 = .ok (.aload_n 0, 1) := by decide +kernel
theorem dX5_readNegation_9 : decode cX5_readNegation 9 = .ok (.dup, 1) := by decide +kernel
theorem dX5_readNegation_10 : decode cX5_readNegation 10 = .ok (.getfield 25, 3) := by decide +kernel
theorem dX5_readNegation_13 : decode cX5_readNegation 13 = .ok (.iconst 1, 1) := by decide +kernel
theorem dX5_readNegation_14 : decode cX5_readNegation 14 = .ok (.iadd, 1) := by decide +kernel
theorem dX5_readNegation_15 : decode cX5_readNegation 15 = .ok (.putfield 25, 3) := by decide +kernel
theorem dX5_readNegation_18 : decode cX5_readNegation 18 = .ok (.aload_n 0, 1) := by decide +kernel
theorem dX5_readNegation_19 : decode cX5_readNegation 19 = .ok (.iconst 2, 1) := by decide +kernel
theorem dX5_readNegation_20 : decode cX5_readNegation 20 = .ok (.iload_n 1, 1) := by decide +kernel
theorem dX5_readNegation_21 : decode cX5_readNegation 21 = .ok (.iconst 1, 1) := by decide +kernel
theorem dX5_readNegation_22 : decode cX5_readNegation 22 = .ok (.iadd, 1) := by decide +kernel
theorem dX5_readNegation_23 : decode cX5_readNegation 23 = .ok (.invokevirtual 111, 3) := by decide +kernel
theorem dX5_readNegation_26 : decode cX5_readNegation 26 = .ok (.ifCond .ne 5, 3) := by decide +kernel
theorem dX5_readNegation_29 : decode cX5_readNegation 29 = .ok (.iconst 0, 1) := by decide +kernel
theorem dX5_readNegation_30 : decode cX5_readNegation 30 = .ok (.ireturn, 1) := by decide +kernel
theorem dX5_readNegation_31 : decode cX5_readNegation 31 = .ok (.aload_n 0, 1) := by decide +kernel
theorem dX5_readNegation_32 : decode cX5_readNegation 32 = .ok (.sipush 144, 3) := by decide +kernel
theorem dX5_readNegation_35 : decode cX5_readNegation 35 = .ok (.invokevirtual 118, 3) := by decide +kernel
theorem dX5_readNegation_38 : decode cX5_readNegation 38 = .ok (.iconst 1, 1) := by decide +kernel
theorem dX5_readNegation_39 : decode cX5_readNegation 39 = .ok (.ireturn, 1) := by decide +kernel
theorem dX5_readOperand_0 : decode cX5_readOperand 0 = .ok (.aload_n 0, 1) := by decide +kernel
theorem dX5_readOperand_1 : decode cX5_readOperand 1 = .ok (.invokevirtual 36, 3) := by decide +kernel
theorem dX5_readOperand_4 : decode cX5_readOperand 4 = .ok (.istore_n 2, 1) := by decide +kernel
theorem dX5_readOperand_5 : decode cX5_readOperand 5 = .ok (.iload_n 2, 1) := by decide +kernel
theorem dX5_readOperand_6 : decode cX5_readOperand 6 = .ok (.invokestatic 131, 3) := by decide +kernel
theorem dX5_readOperand_9 : decode cX5_readOperand 9 = .ok (.ifCond .ne 10, 3) := by decide +kernel
theorem dX5_readOperand_12 : decode cX5_readOperand 12 = .ok (.iload_n 2, 1) := by decide +kernel
theorem dX5_readOperand_13 : decode cX5_readOperand 13 = .ok (.invokestatic 134, 3) := by decide +kernel
theorem dX5_readOperand_16 : decode cX5_readOperand 16 = .ok (.ifCond .eq 20, 3) := by decide +kernel
theorem dX5_readOperand_19 : decode cX5_readOperand 19 = .ok (.aload_n 0, 1) := by decide +kernel
theorem dX5_readOperand_20 : decode cX5_readOperand 20 = .ok (.iload_n 2, 1) := by decide +kernel
theorem dX5_readOperand_21 : decode cX5_readOperand 21 = .ok (.invokevirtual 118, 3) := by decide +kernel
theorem dX5_readOperand_24 : decode cX5_readOperand 24 = .ok (.aload_n 0, 1) := by decide +kernel
theorem dX5_readOperand_25 : decode cX5_readOperand 25 = .ok (.dup, 1) := by decide +kernel
theorem dX5_readOperand_26 : decode cX5_readOperand 26 = .ok (.getfield 25, 3) := by decide +kernel
theorem dX5_readOperand_29 : decode cX5_readOperand 29 = .ok (.iconst 1, 1) := by decide +kernel
theorem dX5_readOperand_30 : decode cX5_readOperand 30 = .ok (.iadd, 1) := by decide +kernel
theorem dX5_readOperand_31 : decode cX5_readOperand 31 = .ok (.putfield 25, 3) := by decide +kernel
theorem dX5_readOperand_34 : decode cX5_readOperand 34 = .ok (.iconst 1, 1) := by decide +kernel
theorem dX5_readOperand_35 : decode cX5_readOperand 35 = .ok (.ireturn, 1) := by decide +kernel
theorem dX5_readOperand_36 : decode cX5_readOperand 36 = .ok (.iload_n 2, 1) := by decide +kernel
theorem dX5_readOperand_37 : decode cX5_readOperand 37 = .ok (.sipush 145, 3) := by decide +kernel
theorem dX5_readOperand_40 : decode cX5_readOperand 40 = .ok (.if_icmp .eq 10, 3) := by decide +kernel
theorem dX5_readOperand_43 : decode cX5_readOperand 43 = .ok (.iload_n 2, 1) := by decide +kernel
theorem dX5_readOperand_44 : decode cX5_readOperand 44 = .ok (.sipush 146, 3) := by decide +kernel
theorem dX5_readOperand_47 : decode cX5_readOperand 47 = .ok (.if_icmp .ne 20, 3) := by decide +kernel
theorem dX5_readOperand_50 : decode cX5_readOperand 50 = .ok (.aload_n 0, 1) := by decide +kernel
theorem dX5_readOperand_51 : decode cX5_readOperand 51 = .ok (.dup, 1) := by decide +kernel
theorem dX5_readOperand_52 : decode cX5_readOperand 52 = .ok (.getfield 25, 3) := by decide +kernel
theorem dX5_readOperand_55 : decode cX5_readOperand 55 = .ok (.iconst 1, 1) := by decide +kernel
theorem dX5_readOperand_56 : decode cX5_readOperand 56 = .ok (.iadd, 1) := by decide +kernel
theorem dX5_readOperand_57 : decode cX5_readOperand 57 = .ok (.putfield 25, 3) := by decide +kernel
theorem dX5_readOperand_60 : decode cX5_readOperand 60 = .ok (.aload_n 0, 1) := by decide +kernel
theorem dX5_readOperand_61 : decode cX5_readOperand 61 = .ok (.iload_n 2, 1) := by decide +kernel
theorem dX5_readOperand_62 : decode cX5_readOperand 62 = .ok (.iload_n 1, 1) := by decide +kernel
theorem dX5_readOperand_63 : decode cX5_readOperand 63 = .ok (.invokevirtual 137, 3) := by decide +kernel
theorem dX5_readOperand_66 : decode cX5_readOperand 66 = .ok (.ireturn, 1) := by decide +kernel
theorem dX5_readOperand_67 : decode cX5_readOperand 67 = .ok (.iload_n 1, 1) := by decide +kernel
theorem dX5_readOperand_68 : decode cX5_readOperand 68 = .ok (.bipush 12, 2) := by decide +kernel
theorem dX5_readOperand_70 : decode cX5_readOperand 70 = .ok (.if_icmp .ge 36, 3) := by decide +kernel
theorem dX5_readOperand_73 : decode cX5_readOperand 73 = .ok (.aload_n 0, 1) := by decide +kernel
theorem dX5_readOperand_74 : decode cX5_readOperand 74 = .ok (.bipush 40, 2) := by decide +kernel
theorem dX5_readOperand_76 : decode cX5_readOperand 76 = .ok (.invokevirtual 115, 3) := by decide +kernel
theorem dX5_readOperand_79 : decode cX5_readOperand 79 = .ok (.ifCond .eq 27, 3) := by decide +kernel
theorem dX5_readOperand_82 : decode cX5_readOperand 82 = .ok (.aload_n 0, 1) := by decide +kernel
theorem dX5_readOperand_83 : decode cX5_readOperand 83 = .ok (.iconst 0, 1) := by decide +kernel
theorem dX5_readOperand_84 : decode cX5_readOperand 84 = .ok (.iload_n 1, 1) := by decide +kernel
theorem dX5_readOperand_85 : decode cX5_readOperand 85 = .ok (.iconst 1, 1) := by decide +kernel
theorem dX5_readOperand_86 : decode cX5_readOperand 86 = .ok (.iadd, 1) := by decide +kernel
theorem dX5_readOperand_87 : decode cX5_readOperand 87 = .ok (.invokevirtual 111, 3) := by decide +kernel
theorem dX5_readOperand_90 : decode cX5_readOperand 90 = .ok (.ifCond .eq 16, 3) := by decide +kernel
theorem dX5_readOperand_93 : decode cX5_readOperand 93 = .ok (.aload_n 0, 1) := by decide +kernel
theorem dX5_readOperand_94 : decode cX5_readOperand 94 = .ok (.bipush 41, 2) := by decide +kernel
theorem dX5_readOperand_96 : decode cX5_readOperand 96 = .ok (.invokevirtual 115, 3) := by decide +kernel
theorem dX5_readOperand_99 : decode cX5_readOperand 99 = .ok (.ifCond .eq 7, 3) := by decide +kernel
theorem dX5_readOperand_102 : decode cX5_readOperand 102 = .ok (.iconst 1, 1) := by decide +kernel
theorem dX5_readOperand_103 : decode cX5_readOperand 103 = .ok (.goto 4, 3) := by decide +kernel
theorem dX5_readOperand_106 : decode cX5_readOperand 106 = .ok (.iconst 0, 1) := by decide +kernel
theorem dX5_readOperand_107 : decode cX5_readOperand 107 = .ok (.ireturn, 1) := by decide +kernel
theorem dX5_readPair_0 : decode cX5_readPair 0 = .ok (.iload_n 2, 1) := by decide +kernel
theorem dX5_readPair_1 : decode cX5_readPair 1 = .ok (.bipush 12, 2) := by decide +kernel
theorem dX5_readPair_3 : decode cX5_readPair 3 = .ok (.if_icmp .ge 56, 3) := by decide +kernel
theorem dX5_readPair_6 : decode cX5_readPair 6 = .ok (.aload_n 0, 1) := by decide +kernel
theorem dX5_readPair_7 : decode cX5_readPair 7 = .ok (.bipush 40, 2) := by decide +kernel
theorem dX5_readPair_9 : decode cX5_readPair 9 = .ok (.invokevirtual 115, 3) := by decide +kernel
theorem dX5_readPair_12 : decode cX5_readPair 12 = .ok (.ifCond .eq 47, 3) := by decide +kernel
theorem dX5_readPair_15 : decode cX5_readPair 15 = .ok (.aload_n 0, 1) := by decide +kernel
theorem dX5_readPair_16 : decode cX5_readPair 16 = .ok (.iconst 3, 1) := by decide +kernel
theorem dX5_readPair_17 : decode cX5_readPair 17 = .ok (.iload_n 2, 1) := by decide +kernel
theorem dX5_readPair_18 : decode cX5_readPair 18 = .ok (.iconst 1, 1) := by decide +kernel
theorem dX5_readPair_19 : decode cX5_readPair 19 = .ok (.iadd, 1) := by decide +kernel
theorem dX5_readPair_20 : decode cX5_readPair 20 = .ok (.invokevirtual 111, 3) := by decide +kernel
theorem dX5_readPair_23 : decode cX5_readPair 23 = .ok (.ifCond .eq 36, 3) := by decide +kernel
theorem dX5_readPair_26 : decode cX5_readPair 26 = .ok (.aload_n 0, 1) := by decide +kernel
theorem dX5_readPair_27 : decode cX5_readPair 27 = .ok (.bipush 44, 2) := by decide +kernel
theorem dX5_readPair_29 : decode cX5_readPair 29 = .ok (.invokevirtual 115, 3) := by decide +kernel
theorem dX5_readPair_32 : decode cX5_readPair 32 = .ok (.ifCond .eq 27, 3) := by decide +kernel
theorem dX5_readPair_35 : decode cX5_readPair 35 = .ok (.aload_n 0, 1) := by decide +kernel
theorem dX5_readPair_36 : decode cX5_readPair 36 = .ok (.iconst 3, 1) := by decide +kernel
theorem dX5_readPair_37 : decode cX5_readPair 37 = .ok (.iload_n 2, 1) := by decide +kernel
theorem dX5_readPair_38 : decode cX5_readPair 38 = .ok (.iconst 1, 1) := by decide +kernel
theorem dX5_readPair_39 : decode cX5_readPair 39 = .ok (.iadd, 1) := by decide +kernel
theorem dX5_readPair_40 : decode cX5_readPair 40 = .ok (.invokevirtual 111, 3) := by decide +kernel
theorem dX5_readPair_43 : decode cX5_readPair 43 = .ok (.ifCond .eq 16, 3) := by decide +kernel
theorem dX5_readPair_46 : decode cX5_readPair 46 = .ok (.aload_n 0, 1) := by decide +kernel
theorem dX5_readPair_47 : decode cX5_readPair 47 = .ok (.bipush 41, 2) := by decide +kernel
theorem dX5_readPair_49 : decode cX5_readPair 49 = .ok (.invokevirtual 115, 3) := by decide +kernel
theorem dX5_readPair_52 : decode cX5_readPair 52 = .ok (.ifCond .eq 7, 3) := by decide +kernel
theorem dX5_readPair_55 : decode cX5_readPair 55 = .ok (.iconst 1, 1) := by decide +kernel
theorem dX5_readPair_56 : decode cX5_readPair 56 = .ok (.goto 4, 3) := by decide +kernel
theorem dX5_readPair_59 : decode cX5_readPair 59 = .ok (.iconst 0, 1) := by decide +kernel
theorem dX5_readPair_60 : decode cX5_readPair 60 = .ok (.istore_n 3, 1) := by decide +kernel
theorem dX5_readPair_61 : decode cX5_readPair 61 = .ok (.iload_n 3, 1) := by decide +kernel
theorem dX5_readPair_62 : decode cX5_readPair 62 = .ok (.ifCond .eq 8, 3) := by decide +kernel
theorem dX5_readPair_65 : decode cX5_readPair 65 = .ok (.aload_n 0, 1) := by decide +kernel
theorem dX5_readPair_66 : decode cX5_readPair 66 = .ok (.iload_n 1, 1) := by decide +kernel
theorem dX5_readPair_67 : decode cX5_readPair 67 = .ok (.invokevirtual 118, 3) := by decide +kernel
theorem dX5_readPair_70 : decode cX5_readPair 70 = .ok (.iload_n 3, 1) := by decide +kernel
theorem dX5_readPair_71 : decode cX5_readPair 71 = .ok (.ireturn, 1) := by decide +kernel
theorem dX6_init_0 : decode cX6_init 0 = .ok (.aload_n 0, 1) := by decide +kernel
theorem dX6_init_1 : decode cX6_init 1 = .ok (.invokespecial 3, 3) := by decide +kernel
theorem dX6_init_4 : decode cX6_init 4 = .ok (.aload_n 0, 1) := by decide +kernel
theorem dX6_init_5 : decode cX6_init 5 = .ok (.bipush 13, 2) := by decide +kernel
theorem dX6_init_7 : decode cX6_init 7 = .ok (.newarray .int, 2) := by decide +kernel
theorem dX6_init_9 : decode cX6_init 9 = .ok (.putfield 11, 3) := by decide +kernel
theorem dX6_init_12 : decode cX6_init 12 = .ok (.aload_n 0, 1) := by decide +kernel
theorem dX6_init_13 : decode cX6_init 13 = .ok (.sipush 200, 3) := by decide +kernel
theorem dX6_init_16 : decode cX6_init 16 = .ok (.newarray .int, 2) := by decide +kernel
theorem dX6_init_18 : decode cX6_init 18 = .ok (.putfield 17, 3) := by decide +kernel
theorem dX6_init_21 : decode cX6_init 21 = .ok (.return_, 1) := by decide +kernel
theorem dX6_lookAtMinute_0 : decode cX6_lookAtMinute 0 = .ok (.aload_n 0, 1) := by decide +kernel
theorem dX6_lookAtMinute_1 : decode cX6_lookAtMinute 1 = .ok (.getfield 11, 3) := by decide +kernel
theorem dX6_lookAtMinute_4 : decode cX6_lookAtMinute 4 = .ok (.iconst 0, 1) := by decide +kernel
theorem dX6_lookAtMinute_5 : decode cX6_lookAtMinute 5 = .ok (.invokestatic 20, 3) := by decide +kernel
theorem dX6_lookAtMinute_8 : decode cX6_lookAtMinute 8 = .ok (.aload_n 0, 1) := by decide +kernel
theorem dX6_lookAtMinute_9 : decode cX6_lookAtMinute 9 = .ok (.getfield 11, 3) := by decide +kernel
theorem dX6_lookAtMinute_12 : decode cX6_lookAtMinute 12 = .ok (.iconst 5, 1) := by decide +kernel
theorem dX6_lookAtMinute_13 : decode cX6_lookAtMinute 13 = .ok (.iload_n 1, 1) := by decide +kernel
theorem dX6_lookAtMinute_14 : decode cX6_lookAtMinute 14 = .ok (.sipush 600, 3) := by decide +kernel
theorem dX6_lookAtMinute_17 : decode cX6_lookAtMinute 17 = .ok (.irem, 1) := by decide +kernel
theorem dX6_lookAtMinute_18 : decode cX6_lookAtMinute 18 = .ok (.bipush 60, 2) := by decide +kernel
theorem dX6_lookAtMinute_20 : decode cX6_lookAtMinute 20 = .ok (.idiv, 1) := by decide +kernel
theorem dX6_lookAtMinute_21 : decode cX6_lookAtMinute 21 = .ok (.iastore, 1) := by decide +kernel
theorem dX6_lookAtMinute_22 : decode cX6_lookAtMinute 22 = .ok (.aload_n 0, 1) := by decide +kernel
theorem dX6_lookAtMinute_23 : decode cX6_lookAtMinute 23 = .ok (.getfield 11, 3) := by decide +kernel
theorem dX6_lookAtMinute_26 : decode cX6_lookAtMinute 26 = .ok (.bipush 6, 2) := by decide +kernel
theorem dX6_lookAtMinute_28 : decode cX6_lookAtMinute 28 = .ok (.iload_n 2, 1) := by decide +kernel
theorem dX6_lookAtMinute_29 : decode cX6_lookAtMinute 29 = .ok (.ifCond .eq 7, 3) := by decide +kernel
theorem dX6_lookAtMinute_32 : decode cX6_lookAtMinute 32 = .ok (.iconst 1, 1) := by decide +kernel
theorem dX6_lookAtMinute_33 : decode cX6_lookAtMinute 33 = .ok (.goto 4, 3) := by decide +kernel
theorem dX6_lookAtMinute_36 : decode cX6_lookAtMinute 36 = .ok (.iconst 0, 1) := by decide +kernel
theorem dX6_lookAtMinute_37 : decode cX6_lookAtMinute 37 = .ok (.iastore, 1) := by decide +kernel
theorem dX6_lookAtMinute_38 : decode cX6_lookAtMinute 38 = .ok (.aload_n 0, 1) := by decide +kernel
theorem dX6_lookAtMinute_39 : decode cX6_lookAtMinute 39 = .ok (.getfield 11, 3) := by decide +kernel
theorem dX6_lookAtMinute_42 : decode cX6_lookAtMinute 42 = .ok (.bipush 9, 2) := by decide +kernel
theorem dX6_lookAtMinute_44 : decode cX6_lookAtMinute 44 = .ok (.iload_n 1, 1) := by decide +kernel
