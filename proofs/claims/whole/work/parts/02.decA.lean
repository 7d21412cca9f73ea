theorem dX0_init_0 : decode cX0_init 0 = .ok (.aload_n 0, 1) := by decide +kernel
theorem dX0_init_1 : decode cX0_init 1 = .ok (.invokespecial 1, 3) := by decide +kernel
theorem dX0_init_4 : decode cX0_init 4 = .ok (.aload_n 0, 1) := by decide +kernel
theorem dX0_init_5 : decode cX0_init 5 = .ok (.new 7, 3) := by decide +kernel
theorem dX0_init_8 : decode cX0_init 8 = .ok (.dup, 1) := by decide +kernel
theorem dX0_init_9 : decode cX0_init 9 = .ok (.bipush 40, 2) := by decide +kernel
theorem dX0_init_11 : decode cX0_init 11 = .ok (.invokespecial 11, 3) := by decide +kernel
theorem dX0_init_14 : decode cX0_init 14 = .ok (.putfield 14, 3) := by decide +kernel
theorem dX0_init_17 : decode cX0_init 17 = .ok (.return_, 1) := by decide +kernel
theorem dX0_gather_0 : decode cX0_gather 0 = .ok (.aload_n 0, 1) := by decide +kernel
theorem dX0_gather_1 : decode cX0_gather 1 = .ok (.getfield 14, 3) := by decide +kernel
theorem dX0_gather_4 : decode cX0_gather 4 = .ok (.invokevirtual 18, 3) := by decide +kernel
theorem dX0_gather_7 : decode cX0_gather 7 = .ok (.bipush 12, 2) := by decide +kernel
theorem dX0_gather_9 : decode cX0_gather 9 = .ok (.istore_n 2, 1) := by decide +kernel
theorem dX0_gather_10 : decode cX0_gather 10 = .ok (.iload_n 2, 1) := by decide +kernel
theorem dX0_gather_11 : decode cX0_gather 11 = .ok (.ifCond .lt 82, 3) := by decide +kernel
theorem dX0_gather_14 : decode cX0_gather 14 = .ok (.iload_n 1, 1) := by decide +kernel
theorem dX0_gather_15 : decode cX0_gather 15 = .ok (.iload_n 2, 1) := by decide +kernel
theorem dX0_gather_16 : decode cX0_gather 16 = .ok (.iload_n 2, 1) := by decide +kernel
theorem dX0_gather_17 : decode cX0_gather 17 = .ok (.imul, 1) := by decide +kernel
theorem dX0_gather_18 : decode cX0_gather 18 = .ok (.isub, 1) := by decide +kernel
theorem dX0_gather_19 : decode cX0_gather 19 = .ok (.istore_n 3, 1) := by decide +kernel
theorem dX0_gather_20 : decode cX0_gather 20 = .ok (.iload_n 3, 1) := by decide +kernel
theorem dX0_gather_21 : decode cX0_gather 21 = .ok (.ifCond .lt 66, 3) := by decide +kernel
theorem dX0_gather_24 : decode cX0_gather 24 = .ok (.iload_n 3, 1) := by decide +kernel
theorem dX0_gather_25 : decode cX0_gather 25 = .ok (.iconst 3, 1) := by decide +kernel
theorem dX0_gather_26 : decode cX0_gather 26 = .ok (.iload_n 2, 1) := by decide +kernel
theorem dX0_gather_27 : decode cX0_gather 27 = .ok (.imul, 1) := by decide +kernel
theorem dX0_gather_28 : decode cX0_gather 28 = .ok (.iload_n 2, 1) := by decide +kernel
theorem dX0_gather_29 : decode cX0_gather 29 = .ok (.imul, 1) := by decide +kernel
theorem dX0_gather_30 : decode cX0_gather 30 = .ok (.if_icmp .le 6, 3) := by decide +kernel
theorem dX0_gather_33 : decode cX0_gather 33 = .ok (.goto 54, 3) := by decide +kernel
theorem dX0_gather_36 : decode cX0_gather 36 = .ok (.iload_n 2, 1) := by decide +kernel
theorem dX0_gather_37 : decode cX0_gather 37 = .ok (.istore 4, 2) := by decide +kernel
theorem dX0_gather_39 : decode cX0_gather 39 = .ok (.iload 4, 2) := by decide +kernel
theorem dX0_gather_41 : decode cX0_gather 41 = .ok (.ifCond .lt 46, 3) := by decide +kernel
theorem dX0_gather_44 : decode cX0_gather 44 = .ok (.iload 4, 2) := by decide +kernel
theorem dX0_gather_46 : decode cX0_gather 46 = .ok (.istore 5, 2) := by decide +kernel
theorem dX0_gather_48 : decode cX0_gather 48 = .ok (.iload 5, 2) := by decide +kernel
theorem dX0_gather_50 : decode cX0_gather 50 = .ok (.ifCond .lt 31, 3) := by decide +kernel
theorem dX0_gather_53 : decode cX0_gather 53 = .ok (.aload_n 0, 1) := by decide +kernel
theorem dX0_gather_54 : decode cX0_gather 54 = .ok (.iload_n 2, 1) := by decide +kernel
theorem dX0_gather_55 : decode cX0_gather 55 = .ok (.iload 4, 2) := by decide +kernel
theorem dX0_gather_57 : decode cX0_gather 57 = .ok (.iload 5, 2) := by decide +kernel
theorem dX0_gather_59 : decode cX0_gather 59 = .ok (.iload_n 3, 1) := by decide +kernel
theorem dX0_gather_60 : decode cX0_gather 60 = .ok (.iload 4, 2) := by decide +kernel
theorem dX0_gather_62 : decode cX0_gather 62 = .ok (.iload 4, 2) := by decide +kernel
theorem dX0_gather_64 : decode cX0_gather 64 = .ok (.imul, 1) := by decide +kernel
theorem dX0_gather_65 : decode cX0_gather 65 = .ok (.isub, 1) := by decide +kernel
theorem dX0_gather_66 : decode cX0_gather 66 = .ok (.iload 5, 2) := by decide +kernel
theorem dX0_gather_68 : decode cX0_gather 68 = .ok (.iload 5, 2) := by decide +kernel
theorem dX0_gather_70 : decode cX0_gather 70 = .ok (.imul, 1) := by decide +kernel
theorem dX0_gather_71 : decode cX0_gather 71 = .ok (.isub, 1) := by decide +kernel
theorem dX0_gather_72 : decode cX0_gather 72 = .ok (.invokevirtual 21, 3) := by decide +kernel
theorem dX0_gather_75 : decode cX0_gather 75 = .ok (.iinc 5 (-1), 3) := by decide +kernel
theorem dX0_gather_78 : decode cX0_gather 78 = .ok (.goto (-30), 3) := by decide +kernel
theorem dX0_gather_81 : decode cX0_gather 81 = .ok (.iinc 4 (-1), 3) := by decide +kernel
theorem dX0_gather_84 : decode cX0_gather 84 = .ok (.goto (-45), 3) := by decide +kernel
theorem dX0_gather_87 : decode cX0_gather 87 = .ok (.iinc 2 (-1), 3) := by decide +kernel
theorem dX0_gather_90 : decode cX0_gather 90 = .ok (.goto (-80), 3) := by decide +kernel
theorem dX0_gather_93 : decode cX0_gather 93 = .ok (.return_, 1) := by decide +kernel
theorem dX0_offer_0 : decode cX0_offer 0 = .ok (.iconst 0, 1) := by decide +kernel
theorem dX0_offer_1 : decode cX0_offer 1 = .ok (.istore 5, 2) := by decide +kernel
theorem dX0_offer_3 : decode cX0_offer 3 = .ok (.iload 5, 2) := by decide +kernel
theorem dX0_offer_5 : decode cX0_offer 5 = .ok (.iload_n 3, 1) := by decide +kernel
theorem dX0_offer_6 : decode cX0_offer 6 = .ok (.if_icmp .gt 41, 3) := by decide +kernel
theorem dX0_offer_9 : decode cX0_offer 9 = .ok (.iload 5, 2) := by decide +kernel
theorem dX0_offer_11 : decode cX0_offer 11 = .ok (.iload 5, 2) := by decide +kernel
theorem dX0_offer_13 : decode cX0_offer 13 = .ok (.imul, 1) := by decide +kernel
theorem dX0_offer_14 : decode cX0_offer 14 = .ok (.iload 4, 2) := by decide +kernel
theorem dX0_offer_16 : decode cX0_offer 16 = .ok (.if_icmp .gt 31, 3) := by decide +kernel
theorem dX0_offer_19 : decode cX0_offer 19 = .ok (.iload 5, 2) := by decide +kernel
theorem dX0_offer_21 : decode cX0_offer 21 = .ok (.iload 5, 2) := by decide +kernel
theorem dX0_offer_23 : decode cX0_offer 23 = .ok (.imul, 1) := by decide +kernel
theorem dX0_offer_24 : decode cX0_offer 24 = .ok (.iload 4, 2) := by decide +kernel
theorem dX0_offer_26 : decode cX0_offer 26 = .ok (.if_icmp .ne 15, 3) := by decide +kernel
theorem dX0_offer_29 : decode cX0_offer 29 = .ok (.aload_n 0, 1) := by decide +kernel
theorem dX0_offer_30 : decode cX0_offer 30 = .ok (.getfield 14, 3) := by decide +kernel
theorem dX0_offer_33 : decode cX0_offer 33 = .ok (.iload_n 1, 1) := by decide +kernel
theorem dX0_offer_34 : decode cX0_offer 34 = .ok (.iload_n 2, 1) := by decide +kernel
theorem dX0_offer_35 : decode cX0_offer 35 = .ok (.iload_n 3, 1) := by decide +kernel
theorem dX0_offer_36 : decode cX0_offer 36 = .ok (.iload 5, 2) := by decide +kernel
theorem dX0_offer_38 : decode cX0_offer 38 = .ok (.invokevirtual 25, 3) := by decide +kernel
theorem dX0_offer_41 : decode cX0_offer 41 = .ok (.iinc 5 1, 3) := by decide +kernel
theorem dX0_offer_44 : decode cX0_offer 44 = .ok (.goto (-41), 3) := by decide +kernel
theorem dX0_offer_47 : decode cX0_offer 47 = .ok (.return_, 1) := by decide +kernel
theorem dX0_arrangements_0 : decode cX0_arrangements 0 = .ok (.iconst 0, 1) := by decide +kernel
theorem dX0_arrangements_1 : decode cX0_arrangements 1 = .ok (.istore_n 1, 1) := by decide +kernel
theorem dX0_arrangements_2 : decode cX0_arrangements 2 = .ok (.iconst 0, 1) := by decide +kernel
theorem dX0_arrangements_3 : decode cX0_arrangements 3 = .ok (.istore_n 2, 1) := by decide +kernel
theorem dX0_arrangements_4 : decode cX0_arrangements 4 = .ok (.iload_n 2, 1) := by decide +kernel
theorem dX0_arrangements_5 : decode cX0_arrangements 5 = .ok (.aload_n 0, 1) := by decide +kernel
theorem dX0_arrangements_6 : decode cX0_arrangements 6 = .ok (.getfield 14, 3) := by decide +kernel
theorem dX0_arrangements_9 : decode cX0_arrangements 9 = .ok (.invokevirtual 28, 3) := by decide +kernel
theorem dX0_arrangements_12 : decode cX0_arrangements 12 = .ok (.if_icmp .ge 17, 3) := by decide +kernel
theorem dX0_arrangements_15 : decode cX0_arrangements 15 = .ok (.iload_n 1, 1) := by decide +kernel
theorem dX0_arrangements_16 : decode cX0_arrangements 16 = .ok (.aload_n 0, 1) := by decide +kernel
theorem dX0_arrangements_17 : decode cX0_arrangements 17 = .ok (.iload_n 2, 1) := by decide +kernel
theorem dX0_arrangements_18 : decode cX0_arrangements 18 = .ok (.invokevirtual 32, 3) := by decide +kernel
theorem dX0_arrangements_21 : decode cX0_arrangements 21 = .ok (.iadd, 1) := by decide +kernel
theorem dX0_arrangements_22 : decode cX0_arrangements 22 = .ok (.istore_n 1, 1) := by decide +kernel
theorem dX0_arrangements_23 : decode cX0_arrangements 23 = .ok (.iinc 2 1, 3) := by decide +kernel
theorem dX0_arrangements_26 : decode cX0_arrangements 26 = .ok (.goto (-22), 3) := by decide +kernel
theorem dX0_arrangements_29 : decode cX0_arrangements 29 = .ok (.iload_n 1, 1) := by decide +kernel
theorem dX0_arrangements_30 : decode cX0_arrangements 30 = .ok (.ireturn, 1) := by decide +kernel
theorem dX0_arrangementsOf_0 : decode cX0_arrangementsOf 0 = .ok (.iconst 1, 1) := by decide +kernel
theorem dX0_arrangementsOf_1 : decode cX0_arrangementsOf 1 = .ok (.istore_n 2, 1) := by decide +kernel
theorem dX0_arrangementsOf_2 : decode cX0_arrangementsOf 2 = .ok (.iconst 0, 1) := by decide +kernel
theorem dX0_arrangementsOf_3 : decode cX0_arrangementsOf 3 = .ok (.istore_n 3, 1) := by decide +kernel
theorem dX0_arrangementsOf_4 : decode cX0_arrangementsOf 4 = .ok (.iconst 0, 1) := by decide +kernel
theorem dX0_arrangementsOf_5 : decode cX0_arrangementsOf 5 = .ok (.istore 4, 2) := by decide +kernel
theorem dX0_arrangementsOf_7 : decode cX0_arrangementsOf 7 = .ok (.iload 4, 2) := by decide +kernel
theorem dX0_arrangementsOf_9 : decode cX0_arrangementsOf 9 = .ok (.iconst 4, 1) := by decide +kernel
theorem dX0_arrangementsOf_10 : decode cX0_arrangementsOf 10 = .ok (.if_icmp .ge 75, 3) := by decide +kernel
theorem dX0_arrangementsOf_13 : decode cX0_arrangementsOf 13 = .ok (.aload_n 0, 1) := by decide +kernel
theorem dX0_arrangementsOf_14 : decode cX0_arrangementsOf 14 = .ok (.getfield 14, 3) := by decide +kernel
theorem dX0_arrangementsOf_17 : decode cX0_arrangementsOf 17 = .ok (.iload_n 1, 1) := by decide +kernel
theorem dX0_arrangementsOf_18 : decode cX0_arrangementsOf 18 = .ok (.iload 4, 2) := by decide +kernel
theorem dX0_arrangementsOf_20 : decode cX0_arrangementsOf 20 = .ok (.invokevirtual 36, 3) := by decide +kernel
theorem dX0_arrangementsOf_23 : decode cX0_arrangementsOf 23 = .ok (.istore 5, 2) := by decide +kernel
theorem dX0_arrangementsOf_25 : decode cX0_arrangementsOf 25 = .ok (.iload 4, 2) := by decide +kernel
theorem dX0_arrangementsOf_27 : decode cX0_arrangementsOf 27 = .ok (.ifCond .le 26, 3) := by decide +kernel
theorem dX0_arrangementsOf_30 : decode cX0_arrangementsOf 30 = .ok (.iload 5, 2) := by decide +kernel
theorem dX0_arrangementsOf_32 : decode cX0_arrangementsOf 32 = .ok (.aload_n 0, 1) := by decide +kernel
theorem dX0_arrangementsOf_33 : decode cX0_arrangementsOf 33 = .ok (.getfield 14, 3) := by decide +kernel
theorem dX0_arrangementsOf_36 : decode cX0_arrangementsOf 36 = .ok (.iload_n 1, 1) := by decide +kernel
theorem dX0_arrangementsOf_37 : decode cX0_arrangementsOf 37 = .ok (.iload 4, 2) := by decide +kernel
theorem dX0_arrangementsOf_39 : decode cX0_arrangementsOf 39 = .ok (.iconst 1, 1) := by decide +kernel
theorem dX0_arrangementsOf_40 : decode cX0_arrangementsOf 40 = .ok (.isub, 1) := by decide +kernel
theorem dX0_arrangementsOf_41 : decode cX0_arrangementsOf 41 = .ok (.invokevirtual 36, 3) := by decide +kernel
theorem dX0_arrangementsOf_44 : decode cX0_arrangementsOf 44 = .ok (.if_icmp .ne 9, 3) := by decide +kernel
theorem dX0_arrangementsOf_47 : decode cX0_arrangementsOf 47 = .ok (.iload_n 3, 1) := by decide +kernel
theorem dX0_arrangementsOf_48 : decode cX0_arrangementsOf 48 = .ok (.iconst 1, 1) := by decide +kernel
theorem dX0_arrangementsOf_49 : decode cX0_arrangementsOf 49 = .ok (.iadd, 1) := by decide +kernel
theorem dX0_arrangementsOf_50 : decode cX0_arrangementsOf 50 = .ok (.goto 4, 3) := by decide +kernel
theorem dX0_arrangementsOf_53 : decode cX0_arrangementsOf 53 = .ok (.iconst 1, 1) := by decide +kernel
theorem dX0_arrangementsOf_54 : decode cX0_arrangementsOf 54 = .ok (.istore_n 3, 1) := by decide +kernel
theorem dX0_arrangementsOf_55 : decode cX0_arrangementsOf 55 = .ok (.iload_n 2, 1) := by decide +kernel
theorem dX0_arrangementsOf_56 : decode cX0_arrangementsOf 56 = .ok (.iload 4, 2) := by decide +kernel
theorem dX0_arrangementsOf_58 : decode cX0_arrangementsOf 58 = .ok (.iconst 1, 1) := by decide +kernel
theorem dX0_arrangementsOf_59 : decode cX0_arrangementsOf 59 = .ok (.iadd, 1) := by decide +kernel
theorem dX0_arrangementsOf_60 : decode cX0_arrangementsOf 60 = .ok (.imul, 1) := by decide +kernel
theorem dX0_arrangementsOf_61 : decode cX0_arrangementsOf 61 = .ok (.iload_n 3, 1) := by decide +kernel
theorem dX0_arrangementsOf_62 : decode cX0_arrangementsOf 62 = .ok (.iconst 1, 1) := by decide +kernel
theorem dX0_arrangementsOf_63 : decode cX0_arrangementsOf 63 = .ok (.invokestatic 40, 3) := by decide +kernel
theorem dX0_arrangementsOf_66 : decode cX0_arrangementsOf 66 = .ok (.idiv, 1) := by decide +kernel
theorem dX0_arrangementsOf_67 : decode cX0_arrangementsOf 67 = .ok (.iload 5, 2) := by decide +kernel
theorem dX0_arrangementsOf_69 : decode cX0_arrangementsOf 69 = .ok (.ifCond .ne 7, 3) := by decide +kernel
theorem dX0_arrangementsOf_72 : decode cX0_arrangementsOf 72 = .ok (.iconst 1, 1) := by decide +kernel
theorem dX0_arrangementsOf_73 : decode cX0_arrangementsOf 73 = .ok (.goto 4, 3) := by decide +kernel
theorem dX0_arrangementsOf_76 : decode cX0_arrangementsOf 76 = .ok (.iconst 2, 1) := by decide +kernel
theorem dX0_arrangementsOf_77 : decode cX0_arrangementsOf 77 = .ok (.imul, 1) := by decide +kernel
theorem dX0_arrangementsOf_78 : decode cX0_arrangementsOf 78 = .ok (.istore_n 2, 1) := by decide +kernel
theorem dX0_arrangementsOf_79 : decode cX0_arrangementsOf 79 = .ok (.iinc 4 1, 3) := by decide +kernel
theorem dX0_arrangementsOf_82 : decode cX0_arrangementsOf 82 = .ok (.goto (-75), 3) := by decide +kernel
theorem dX0_arrangementsOf_85 : decode cX0_arrangementsOf 85 = .ok (.iload_n 2, 1) := by decide +kernel
theorem dX0_arrangementsOf_86 : decode cX0_arrangementsOf 86 = .ok (.ireturn, 1) := by decide +kernel
theorem dX1_init_0 : decode cX1_init 0 = .ok (.aload_n 0, 1) := by decide +kernel
theorem dX1_init_1 : decode cX1_init 1 = .ok (.invokespecial 1, 3) := by decide +kernel
theorem dX1_init_4 : decode cX1_init 4 = .ok (.aload_n 0, 1) := by decide +kernel
theorem dX1_init_5 : decode cX1_init 5 = .ok (.new 7, 3) := by decide +kernel
theorem dX1_init_8 : decode cX1_init 8 = .ok (.dup, 1) := by decide +kernel
theorem dX1_init_9 : decode cX1_init 9 = .ok (.invokespecial 9, 3) := by decide +kernel
theorem dX1_init_12 : decode cX1_init 12 = .ok (.putfield 10, 3) := by decide +kernel
theorem dX1_init_15 : decode cX1_init 15 = .ok (.aload_n 0, 1) := by decide +kernel
theorem dX1_init_16 : decode cX1_init 16 = .ok (.new 7, 3) := by decide +kernel
theorem dX1_init_19 : decode cX1_init 19 = .ok (.dup, 1) := by decide +kernel
theorem dX1_init_20 : decode cX1_init 20 = .ok (.invokespecial 9, 3) := by decide +kernel
theorem dX1_init_23 : decode cX1_init 23 = .ok (.putfield 16, 3) := by decide +kernel
theorem dX1_init_26 : decode cX1_init 26 = .ok (.aload_n 0, 1) := by decide +kernel
theorem dX1_init_27 : decode cX1_init 27 = .ok (.new 7, 3) := by decide +kernel
theorem dX1_init_30 : decode cX1_init 30 = .ok (.dup, 1) := by decide +kernel
theorem dX1_init_31 : decode cX1_init 31 = .ok (.invokespecial 9, 3) := by decide +kernel
theorem dX1_init_34 : decode cX1_init 34 = .ok (.putfield 19, 3) := by decide +kernel
theorem dX1_init_37 : decode cX1_init 37 = .ok (.aload_n 0, 1) := by decide +kernel
theorem dX1_init_38 : decode cX1_init 38 = .ok (.new 7, 3) := by decide +kernel
theorem dX1_init_41 : decode cX1_init 41 = .ok (.dup, 1) := by decide +kernel
theorem dX1_init_42 : decode cX1_init 42 = .ok (.invokespecial 9, 3) := by decide +kernel
theorem dX1_init_45 : decode cX1_init 45 = .ok (.putfield 22, 3) := by decide +kernel
theorem dX1_init_48 : decode cX1_init 48 = .ok (.aload_n 0, 1) := by decide +kernel
theorem dX1_init_49 : decode cX1_init 49 = .ok (.new 7, 3) := by decide +kernel
theorem dX1_init_52 : decode cX1_init 52 = .ok (.dup, 1) := by decide +kernel
theorem dX1_init_53 : decode cX1_init 53 = .ok (.invokespecial 9, 3) := by decide +kernel
theorem dX1_init_56 : decode cX1_init 56 = .ok (.putfield 25, 3) := by decide +kernel
theorem dX1_init_59 : decode cX1_init 59 = .ok (.aload_n 0, 1) := by decide +kernel
theorem dX1_init_60 : decode cX1_init 60 = .ok (.new 7, 3) := by decide +kernel
theorem dX1_init_63 : decode cX1_init 63 = .ok (.dup, 1) := by decide +kernel
theorem dX1_init_64 : decode cX1_init 64 = .ok (.invokespecial 9, 3) := by decide +kernel
theorem dX1_init_67 : decode cX1_init 67 = .ok (.putfield 28, 3) := by decide +kernel
theorem dX1_init_70 : decode cX1_init 70 = .ok (.aload_n 0, 1) := by decide +kernel
theorem dX1_init_71 : decode cX1_init 71 = .ok (.new 7, 3) := by decide +kernel
theorem dX1_init_74 : decode cX1_init 74 = .ok (.dup, 1) := by decide +kernel
theorem dX1_init_75 : decode cX1_init 75 = .ok (.invokespecial 9, 3) := by decide +kernel
theorem dX1_init_78 : decode cX1_init 78 = .ok (.putfield 31, 3) := by decide +kernel
theorem dX1_init_81 : decode cX1_init 81 = .ok (.aload_n 0, 1) := by decide +kernel
theorem dX1_init_82 : decode cX1_init 82 = .ok (.new 7, 3) := by decide +kernel
theorem dX1_init_85 : decode cX1_init 85 = .ok (.dup, 1) := by decide +kernel
theorem dX1_init_86 : decode cX1_init 86 = .ok (.invokespecial 9, 3) := by decide +kernel
theorem dX1_init_89 : decode cX1_init 89 = .ok (.putfield 34, 3) := by decide +kernel
theorem dX1_init_92 : decode cX1_init 92 = .ok (.return_, 1) := by decide +kernel
theorem dX1_perform_0 : decode cX1_perform 0 = .ok (.aload_n 0, 1) := by decide +kernel
theorem dX1_perform_1 : decode cX1_perform 1 = .ok (.getfield 10, 3) := by decide +kernel
theorem dX1_perform_4 : decode cX1_perform 4 = .ok (.iconst 0, 1) := by decide +kernel
theorem dX1_perform_5 : decode cX1_perform 5 = .ok (.iconst 0, 1) := by decide +kernel
theorem dX1_perform_6 : decode cX1_perform 6 = .ok (.iconst 0, 1) := by decide +kernel
theorem dX1_perform_7 : decode cX1_perform 7 = .ok (.iconst 0, 1) := by decide +kernel
theorem dX1_perform_8 : decode cX1_perform 8 = .ok (.invokevirtual 37, 3) := by decide +kernel
theorem dX1_perform_11 : decode cX1_perform 11 = .ok (.aload_n 2, 1) := by decide +kernel
theorem dX1_perform_12 : decode cX1_perform 12 = .ok (.invokevirtual 41, 3) := by decide +kernel
theorem dX1_perform_15 : decode cX1_perform 15 = .ok (.istore 4, 2) := by decide +kernel
theorem dX1_perform_17 : decode cX1_perform 17 = .ok (.iload 4, 2) := by decide +kernel
theorem dX1_perform_19 : decode cX1_perform 19 = .ok (.ifCond .le 192, 3) := by decide +kernel
theorem dX1_perform_22 : decode cX1_perform 22 = .ok (.aload_n 0, 1) := by decide +kernel
theorem dX1_perform_23 : decode cX1_perform 23 = .ok (.getfield 19, 3) := by decide +kernel
theorem dX1_perform_26 : decode cX1_perform 26 = .ok (.aload_n 2, 1) := by decide +kernel
theorem dX1_perform_27 : decode cX1_perform 27 = .ok (.invokevirtual 45, 3) := by decide +kernel
theorem dX1_perform_30 : decode cX1_perform 30 = .ok (.aload_n 0, 1) := by decide +kernel
theorem dX1_perform_31 : decode cX1_perform 31 = .ok (.getfield 22, 3) := by decide +kernel
theorem dX1_perform_34 : decode cX1_perform 34 = .ok (.aload_n 0, 1) := by decide +kernel
theorem dX1_perform_35 : decode cX1_perform 35 = .ok (.getfield 19, 3) := by decide +kernel
theorem dX1_perform_38 : decode cX1_perform 38 = .ok (.aload_n 1, 1) := by decide +kernel
theorem dX1_perform_39 : decode cX1_perform 39 = .ok (.iload_n 3, 1) := by decide +kernel
theorem dX1_perform_40 : decode cX1_perform 40 = .ok (.invokevirtual 49, 3) := by decide +kernel
theorem dX1_perform_43 : decode cX1_perform 43 = .ok (.aload_n 0, 1) := by decide +kernel
theorem dX1_perform_44 : decode cX1_perform 44 = .ok (.getfield 10, 3) := by decide +kernel
theorem dX1_perform_47 : decode cX1_perform 47 = .ok (.aload_n 0, 1) := by decide +kernel
theorem dX1_perform_48 : decode cX1_perform 48 = .ok (.getfield 22, 3) := by decide +kernel
theorem dX1_perform_51 : decode cX1_perform 51 = .ok (.getfield 53, 3) := by decide +kernel
theorem dX1_perform_54 : decode cX1_perform 54 = .ok (.iload 4, 2) := by decide +kernel
theorem dX1_perform_56 : decode cX1_perform 56 = .ok (.invokestatic 57, 3) := by decide +kernel
theorem dX1_perform_59 : decode cX1_perform 59 = .ok (.aload_n 0, 1) := by decide +kernel
theorem dX1_perform_60 : decode cX1_perform 60 = .ok (.getfield 22, 3) := by decide +kernel
theorem dX1_perform_63 : decode cX1_perform 63 = .ok (.getfield 61, 3) := by decide +kernel
theorem dX1_perform_66 : decode cX1_perform 66 = .ok (.iload 4, 2) := by decide +kernel
theorem dX1_perform_68 : decode cX1_perform 68 = .ok (.invokestatic 57, 3) := by decide +kernel
theorem dX1_perform_71 : decode cX1_perform 71 = .ok (.aload_n 0, 1) := by decide +kernel
theorem dX1_perform_72 : decode cX1_perform 72 = .ok (.getfield 22, 3) := by decide +kernel
theorem dX1_perform_75 : decode cX1_perform 75 = .ok (.getfield 64, 3) := by decide +kernel
theorem dX1_perform_78 : decode cX1_perform 78 = .ok (.iload 4, 2) := by decide +kernel
theorem dX1_perform_80 : decode cX1_perform 80 = .ok (.invokestatic 57, 3) := by decide +kernel
theorem dX1_perform_83 : decode cX1_perform 83 = .ok (.aload_n 0, 1) := by decide +kernel
theorem dX1_perform_84 : decode cX1_perform 84 = .ok (.getfield 22, 3) := by decide +kernel
theorem dX1_perform_87 : decode cX1_perform 87 = .ok (.getfield 67, 3) := by decide +kernel
theorem dX1_perform_90 : decode cX1_perform 90 = .ok (.iload 4, 2) := by decide +kernel
theorem dX1_perform_92 : decode cX1_perform 92 = .ok (.invokestatic 57, 3) := by decide +kernel
theorem dX1_perform_95 : decode cX1_perform 95 = .ok (.invokevirtual 37, 3) := by decide +kernel
theorem dX1_perform_98 : decode cX1_perform 98 = .ok (.aload_n 0, 1) := by decide +kernel
theorem dX1_perform_99 : decode cX1_perform 99 = .ok (.getfield 25, 3) := by decide +kernel
theorem dX1_perform_102 : decode cX1_perform 102 = .ok (.aload_n 0, 1) := by decide +kernel
theorem dX1_perform_103 : decode cX1_perform 103 = .ok (.getfield 22, 3) := by decide +kernel
theorem dX1_perform_106 : decode cX1_perform 106 = .ok (.getfield 53, 3) := by decide +kernel
theorem dX1_perform_109 : decode cX1_perform 109 = .ok (.iload 4, 2) := by decide +kernel
theorem dX1_perform_111 : decode cX1_perform 111 = .ok (.invokestatic 70, 3) := by decide +kernel
theorem dX1_perform_114 : decode cX1_perform 114 = .ok (.aload_n 0, 1) := by decide +kernel
theorem dX1_perform_115 : decode cX1_perform 115 = .ok (.getfield 22, 3) := by decide +kernel
theorem dX1_perform_118 : decode cX1_perform 118 = .ok (.getfield 61, 3) := by decide +kernel
theorem dX1_perform_121 : decode cX1_perform 121 = .ok (.iload 4, 2) := by decide +kernel
theorem dX1_perform_123 : decode cX1_perform 123 = .ok (.invokestatic 70, 3) := by decide +kernel
theorem dX1_perform_126 : decode cX1_perform 126 = .ok (.aload_n 0, 1) := by decide +kernel
theorem dX1_perform_127 : decode cX1_perform 127 = .ok (.getfield 22, 3) := by decide +kernel
theorem dX1_perform_130 : decode cX1_perform 130 = .ok (.getfield 64, 3) := by decide +kernel
theorem dX1_perform_133 : decode cX1_perform 133 = .ok (.iload 4, 2) := by decide +kernel
theorem dX1_perform_135 : decode cX1_perform 135 = .ok (.invokestatic 70, 3) := by decide +kernel
theorem dX1_perform_138 : decode cX1_perform 138 = .ok (.aload_n 0, 1) := by decide +kernel
theorem dX1_perform_139 : decode cX1_perform 139 = .ok (.getfield 22, 3) := by decide +kernel
theorem dX1_perform_142 : decode cX1_perform 142 = .ok (.getfield 67, 3) := by decide +kernel
theorem dX1_perform_145 : decode cX1_perform 145 = .ok (.iload 4, 2) := by decide +kernel
theorem dX1_perform_147 : decode cX1_perform 147 = .ok (.invokestatic 70, 3) := by decide +kernel
theorem dX1_perform_150 : decode cX1_perform 150 = .ok (.invokevirtual 37, 3) := by decide +kernel
theorem dX1_perform_153 : decode cX1_perform 153 = .ok (.aload_n 0, 1) := by decide +kernel
theorem dX1_perform_154 : decode cX1_perform 154 = .ok (.aload_n 0, 1) := by decide +kernel
theorem dX1_perform_155 : decode cX1_perform 155 = .ok (.getfield 10, 3) := by decide +kernel
theorem dX1_perform_158 : decode cX1_perform 158 = .ok (.iload 4, 2) := by decide +kernel
theorem dX1_perform_160 : decode cX1_perform 160 = .ok (.invokevirtual 73, 3) := by decide +kernel
theorem dX1_perform_163 : decode cX1_perform 163 = .ok (.aload_n 0, 1) := by decide +kernel
theorem dX1_perform_164 : decode cX1_perform 164 = .ok (.aload_n 0, 1) := by decide +kernel
theorem dX1_perform_165 : decode cX1_perform 165 = .ok (.getfield 25, 3) := by decide +kernel
theorem dX1_perform_168 : decode cX1_perform 168 = .ok (.iload 4, 2) := by decide +kernel
theorem dX1_perform_170 : decode cX1_perform 170 = .ok (.invokevirtual 73, 3) := by decide +kernel
theorem dX1_perform_173 : decode cX1_perform 173 = .ok (.isub, 1) := by decide +kernel
theorem dX1_perform_174 : decode cX1_perform 174 = .ok (.istore 5, 2) := by decide +kernel
theorem dX1_perform_176 : decode cX1_perform 176 = .ok (.iload 5, 2) := by decide +kernel
theorem dX1_perform_178 : decode cX1_perform 178 = .ok (.ifCond .gt 22, 3) := by decide +kernel
theorem dX1_perform_181 : decode cX1_perform 181 = .ok (.iload 5, 2) := by decide +kernel
theorem dX1_perform_183 : decode cX1_perform 183 = .ok (.ifCond .ne 28, 3) := by decide +kernel
theorem dX1_perform_186 : decode cX1_perform 186 = .ok (.aload_n 0, 1) := by decide +kernel
theorem dX1_perform_187 : decode cX1_perform 187 = .ok (.getfield 25, 3) := by decide +kernel
theorem dX1_perform_190 : decode cX1_perform 190 = .ok (.aload_n 0, 1) := by decide +kernel
theorem dX1_perform_191 : decode cX1_perform 191 = .ok (.getfield 10, 3) := by decide +kernel
theorem dX1_perform_194 : decode cX1_perform 194 = .ok (.invokevirtual 77, 3) := by decide +kernel
theorem dX1_perform_197 : decode cX1_perform 197 = .ok (.ifCond .eq 14, 3) := by decide +kernel
theorem dX1_perform_200 : decode cX1_perform 200 = .ok (.aload_n 0, 1) := by decide +kernel
theorem dX1_perform_201 : decode cX1_perform 201 = .ok (.getfield 10, 3) := by decide +kernel
theorem dX1_perform_204 : decode cX1_perform 204 = .ok (.aload_n 0, 1) := by decide +kernel
theorem dX1_perform_205 : decode cX1_perform 205 = .ok (.getfield 25, 3) := by decide +kernel
theorem dX1_perform_208 : decode cX1_perform 208 = .ok (.invokevirtual 81, 3) := by decide +kernel
theorem dX1_perform_211 : decode cX1_perform 211 = .ok (.aload_n 0, 1) := by decide +kernel
theorem dX1_perform_212 : decode cX1_perform 212 = .ok (.getfield 28, 3) := by decide +kernel
theorem dX1_perform_215 : decode cX1_perform 215 = .ok (.aload_n 2, 1) := by decide +kernel
theorem dX1_perform_216 : decode cX1_perform 216 = .ok (.aload_n 0, 1) := by decide +kernel
theorem dX1_perform_217 : decode cX1_perform 217 = .ok (.getfield 10, 3) := by decide +kernel
theorem dX1_perform_220 : decode cX1_perform 220 = .ok (.iload_n 3, 1) := by decide +kernel
theorem dX1_perform_221 : decode cX1_perform 221 = .ok (.invokevirtual 49, 3) := by decide +kernel
theorem dX1_perform_224 : decode cX1_perform 224 = .ok (.aload_n 0, 1) := by decide +kernel
theorem dX1_perform_225 : decode cX1_perform 225 = .ok (.getfield 16, 3) := by decide +kernel
theorem dX1_perform_228 : decode cX1_perform 228 = .ok (.aload_n 1, 1) := by decide +kernel
theorem dX1_perform_229 : decode cX1_perform 229 = .ok (.aload_n 0, 1) := by decide +kernel
theorem dX1_perform_230 : decode cX1_perform 230 = .ok (.getfield 28, 3) := by decide +kernel
theorem dX1_perform_233 : decode cX1_perform 233 = .ok (.invokevirtual 84, 3) := by decide +kernel
theorem dX1_perform_236 : decode cX1_perform 236 = .ok (.return_, 1) := by decide +kernel
theorem dX1_descend_0 : decode cX1_descend 0 = .ok (.aload_n 0, 1) := by decide +kernel
theorem dX1_descend_1 : decode cX1_descend 1 = .ok (.getfield 31, 3) := by decide +kernel
theorem dX1_descend_4 : decode cX1_descend 4 = .ok (.aload_n 1, 1) := by decide +kernel
theorem dX1_descend_5 : decode cX1_descend 5 = .ok (.invokevirtual 81, 3) := by decide +kernel
theorem dX1_descend_8 : decode cX1_descend 8 = .ok (.aload_n 0, 1) := by decide +kernel
theorem dX1_descend_9 : decode cX1_descend 9 = .ok (.getfield 34, 3) := by decide +kernel
theorem dX1_descend_12 : decode cX1_descend 12 = .ok (.aload_n 2, 1) := by decide +kernel
theorem dX1_descend_13 : decode cX1_descend 13 = .ok (.invokevirtual 81, 3) := by decide +kernel
theorem dX1_descend_16 : decode cX1_descend 16 = .ok (.iconst 0, 1) := by decide +kernel
theorem dX1_descend_17 : decode cX1_descend 17 = .ok (.istore 4, 2) := by decide +kernel
theorem dX1_descend_19 : decode cX1_descend 19 = .ok (.iconst 0, 1) := by decide +kernel
theorem dX1_descend_20 : decode cX1_descend 20 = .ok (.istore 5, 2) := by decide +kernel
theorem dX1_descend_22 : decode cX1_descend 22 = .ok (.iload 5, 2) := by decide +kernel
theorem dX1_descend_24 : decode cX1_descend 24 = .ok (.sipush 1000, 3) := by decide +kernel
theorem dX1_descend_27 : decode cX1_descend 27 = .ok (.if_icmp .ge 57, 3) := by decide +kernel
theorem dX1_descend_30 : decode cX1_descend 30 = .ok (.aload_n 0, 1) := by decide +kernel
theorem dX1_descend_31 : decode cX1_descend 31 = .ok (.getfield 34, 3) := by decide +kernel
theorem dX1_descend_34 : decode cX1_descend 34 = .ok (.invokevirtual 88, 3) := by decide +kernel
theorem dX1_descend_37 : decode cX1_descend 37 = .ok (.ifCond .ne 47, 3) := by decide +kernel
theorem dX1_descend_40 : decode cX1_descend 40 = .ok (.aload_n 0, 1) := by decide +kernel
theorem dX1_descend_41 : decode cX1_descend 41 = .ok (.aload_n 0, 1) := by decide +kernel
theorem dX1_descend_42 : decode cX1_descend 42 = .ok (.getfield 31, 3) := by decide +kernel
theorem dX1_descend_45 : decode cX1_descend 45 = .ok (.aload_n 0, 1) := by decide +kernel
theorem dX1_descend_46 : decode cX1_descend 46 = .ok (.getfield 34, 3) := by decide +kernel
theorem dX1_descend_49 : decode cX1_descend 49 = .ok (.iload_n 3, 1) := by decide +kernel
theorem dX1_descend_50 : decode cX1_descend 50 = .ok (.invokevirtual 92, 3) := by decide +kernel
theorem dX1_descend_53 : decode cX1_descend 53 = .ok (.aload_n 0, 1) := by decide +kernel
theorem dX1_descend_54 : decode cX1_descend 54 = .ok (.getfield 31, 3) := by decide +kernel
theorem dX1_descend_57 : decode cX1_descend 57 = .ok (.aload_n 0, 1) := by decide +kernel
theorem dX1_descend_58 : decode cX1_descend 58 = .ok (.getfield 34, 3) := by decide +kernel
theorem dX1_descend_61 : decode cX1_descend 61 = .ok (.invokevirtual 81, 3) := by decide +kernel
theorem dX1_descend_64 : decode cX1_descend 64 = .ok (.aload_n 0, 1) := by decide +kernel
theorem dX1_descend_65 : decode cX1_descend 65 = .ok (.getfield 34, 3) := by decide +kernel
theorem dX1_descend_68 : decode cX1_descend 68 = .ok (.aload_n 0, 1) := by decide +kernel
theorem dX1_descend_69 : decode cX1_descend 69 = .ok (.getfield 16, 3) := by decide +kernel
theorem dX1_descend_72 : decode cX1_descend 72 = .ok (.invokevirtual 81, 3) := by decide +kernel
theorem dX1_descend_75 : decode cX1_descend 75 = .ok (.iinc 4 1, 3) := by decide +kernel
theorem dX1_descend_78 : decode cX1_descend 78 = .ok (.iinc 5 1, 3) := by decide +kernel
theorem dX1_descend_81 : decode cX1_descend 81 = .ok (.goto (-59), 3) := by decide +kernel
theorem dX1_descend_84 : decode cX1_descend 84 = .ok (.iload 4, 2) := by decide +kernel
theorem dX1_descend_86 : decode cX1_descend 86 = .ok (.ireturn, 1) := by decide +kernel
theorem dX1_isDivisor_0 : decode cX1_isDivisor 0 = .ok (.aload_n 1, 1) := by decide +kernel
theorem dX1_isDivisor_1 : decode cX1_isDivisor 1 = .ok (.invokevirtual 41, 3) := by decide +kernel
theorem dX1_isDivisor_4 : decode cX1_isDivisor 4 = .ok (.istore 4, 2) := by decide +kernel
theorem dX1_isDivisor_6 : decode cX1_isDivisor 6 = .ok (.iload 4, 2) := by decide +kernel
theorem dX1_isDivisor_8 : decode cX1_isDivisor 8 = .ok (.ifCond .ne 8, 3) := by decide +kernel
theorem dX1_isDivisor_11 : decode cX1_isDivisor 11 = .ok (.aload_n 2, 1) := by decide +kernel
theorem dX1_isDivisor_12 : decode cX1_isDivisor 12 = .ok (.invokevirtual 88, 3) := by decide +kernel
theorem dX1_isDivisor_15 : decode cX1_isDivisor 15 = .ok (.ireturn, 1) := by decide +kernel
theorem dX1_isDivisor_16 : decode cX1_isDivisor 16 = .ok (.aload_n 0, 1) := by decide +kernel
theorem dX1_isDivisor_17 : decode cX1_isDivisor 17 = .ok (.getfield 19, 3) := by decide +kernel
theorem dX1_isDivisor_20 : decode cX1_isDivisor 20 = .ok (.aload_n 1, 1) := by decide +kernel
theorem dX1_isDivisor_21 : decode cX1_isDivisor 21 = .ok (.invokevirtual 45, 3) := by decide +kernel
theorem dX1_isDivisor_24 : decode cX1_isDivisor 24 = .ok (.aload_n 0, 1) := by decide +kernel
theorem dX1_isDivisor_25 : decode cX1_isDivisor 25 = .ok (.getfield 22, 3) := by decide +kernel
theorem dX1_isDivisor_28 : decode cX1_isDivisor 28 = .ok (.aload_n 0, 1) := by decide +kernel
theorem dX1_isDivisor_29 : decode cX1_isDivisor 29 = .ok (.getfield 19, 3) := by decide +kernel
theorem dX1_isDivisor_32 : decode cX1_isDivisor 32 = .ok (.aload_n 2, 1) := by decide +kernel
theorem dX1_isDivisor_33 : decode cX1_isDivisor 33 = .ok (.iload_n 3, 1) := by decide +kernel
theorem dX1_isDivisor_34 : decode cX1_isDivisor 34 = .ok (.invokevirtual 49, 3) := by decide +kernel
theorem dX1_isDivisor_37 : decode cX1_isDivisor 37 = .ok (.aload_n 0, 1) := by decide +kernel
theorem dX1_isDivisor_38 : decode cX1_isDivisor 38 = .ok (.getfield 22, 3) := by decide +kernel
theorem dX1_isDivisor_41 : decode cX1_isDivisor 41 = .ok (.iload 4, 2) := by decide +kernel
theorem dX1_isDivisor_43 : decode cX1_isDivisor 43 = .ok (.invokevirtual 95, 3) := by decide +kernel
theorem dX1_isDivisor_46 : decode cX1_isDivisor 46 = .ok (.ireturn, 1) := by decide +kernel
theorem dX1_nearEven_0 : decode cX1_nearEven 0 = .ok (.iload_n 1, 1) := by decide +kernel
theorem dX1_nearEven_1 : decode cX1_nearEven 1 = .ok (.ifCond .le 17, 3) := by decide +kernel
theorem dX1_nearEven_4 : decode cX1_nearEven 4 = .ok (.iconst 2, 1) := by decide +kernel
theorem dX1_nearEven_5 : decode cX1_nearEven 5 = .ok (.iload_n 0, 1) := by decide +kernel
theorem dX1_nearEven_6 : decode cX1_nearEven 6 = .ok (.iload_n 1, 1) := by decide +kernel
theorem dX1_nearEven_7 : decode cX1_nearEven 7 = .ok (.iadd, 1) := by decide +kernel
theorem dX1_nearEven_8 : decode cX1_nearEven 8 = .ok (.iconst 2, 1) := by decide +kernel
theorem dX1_nearEven_9 : decode cX1_nearEven 9 = .ok (.iload_n 1, 1) := by decide +kernel
theorem dX1_nearEven_10 : decode cX1_nearEven 10 = .ok (.imul, 1) := by decide +kernel
theorem dX1_nearEven_11 : decode cX1_nearEven 11 = .ok (.invokestatic 99, 3) := by decide +kernel
theorem dX1_nearEven_14 : decode cX1_nearEven 14 = .ok (.imul, 1) := by decide +kernel
theorem dX1_nearEven_15 : decode cX1_nearEven 15 = .ok (.goto 4, 3) := by decide +kernel
theorem dX1_nearEven_18 : decode cX1_nearEven 18 = .ok (.iconst 0, 1) := by decide +kernel
theorem dX1_nearEven_19 : decode cX1_nearEven 19 = .ok (.ireturn, 1) := by decide +kernel
theorem dX1_nearOdd_0 : decode cX1_nearOdd 0 = .ok (.iload_n 1, 1) := by decide +kernel
theorem dX1_nearOdd_1 : decode cX1_nearOdd 1 = .ok (.ifCond .le 17, 3) := by decide +kernel
theorem dX1_nearOdd_4 : decode cX1_nearOdd 4 = .ok (.iconst 2, 1) := by decide +kernel
theorem dX1_nearOdd_5 : decode cX1_nearOdd 5 = .ok (.iload_n 0, 1) := by decide +kernel
theorem dX1_nearOdd_6 : decode cX1_nearOdd 6 = .ok (.iconst 2, 1) := by decide +kernel
theorem dX1_nearOdd_7 : decode cX1_nearOdd 7 = .ok (.iload_n 1, 1) := by decide +kernel
theorem dX1_nearOdd_8 : decode cX1_nearOdd 8 = .ok (.imul, 1) := by decide +kernel
theorem dX1_nearOdd_9 : decode cX1_nearOdd 9 = .ok (.invokestatic 99, 3) := by decide +kernel
theorem dX1_nearOdd_12 : decode cX1_nearOdd 12 = .ok (.imul, 1) := by decide +kernel
theorem dX1_nearOdd_13 : decode cX1_nearOdd 13 = .ok (.iconst 1, 1) := by decide +kernel
theorem dX1_nearOdd_14 : decode cX1_nearOdd 14 = .ok (.iadd, 1) := by decide +kernel
theorem dX1_nearOdd_15 : decode cX1_nearOdd 15 = .ok (.goto 4, 3) := by decide +kernel
theorem dX1_nearOdd_18 : decode cX1_nearOdd 18 = .ok (.iconst 1, 1) := by decide +kernel
theorem dX1_nearOdd_19 : decode cX1_nearOdd 19 = .ok (.ireturn, 1) := by decide +kernel
theorem dX1_distance_0 : decode cX1_distance 0 = .ok (.aload_n 0, 1) := by decide +kernel
theorem dX1_distance_1 : decode cX1_distance 1 = .ok (.getfield 22, 3) := by decide +kernel
theorem dX1_distance_4 : decode cX1_distance 4 = .ok (.getfield 53, 3) := by decide +kernel
theorem dX1_distance_7 : decode cX1_distance 7 = .ok (.iload_n 2, 1) := by decide +kernel
theorem dX1_distance_8 : decode cX1_distance 8 = .ok (.aload_n 1, 1) := by decide +kernel
theorem dX1_distance_9 : decode cX1_distance 9 = .ok (.getfield 53, 3) := by decide +kernel
theorem dX1_distance_12 : decode cX1_distance 12 = .ok (.imul, 1) := by decide +kernel
theorem dX1_distance_13 : decode cX1_distance 13 = .ok (.isub, 1) := by decide +kernel
theorem dX1_distance_14 : decode cX1_distance 14 = .ok (.istore_n 3, 1) := by decide +kernel
theorem dX1_distance_15 : decode cX1_distance 15 = .ok (.aload_n 0, 1) := by decide +kernel
theorem dX1_distance_16 : decode cX1_distance 16 = .ok (.getfield 22, 3) := by decide +kernel
theorem dX1_distance_19 : decode cX1_distance 19 = .ok (.getfield 61, 3) := by decide +kernel
theorem dX1_distance_22 : decode cX1_distance 22 = .ok (.iload_n 2, 1) := by decide +kernel
theorem dX1_distance_23 : decode cX1_distance 23 = .ok (.aload_n 1, 1) := by decide +kernel
theorem dX1_distance_24 : decode cX1_distance 24 = .ok (.getfield 61, 3) := by decide +kernel
theorem dX1_distance_27 : decode cX1_distance 27 = .ok (.imul, 1) := by decide +kernel
theorem dX1_distance_28 : decode cX1_distance 28 = .ok (.isub, 1) := by decide +kernel
theorem dX1_distance_29 : decode cX1_distance 29 = .ok (.istore 4, 2) := by decide +kernel
theorem dX1_distance_31 : decode cX1_distance 31 = .ok (.aload_n 0, 1) := by decide +kernel
theorem dX1_distance_32 : decode cX1_distance 32 = .ok (.getfield 22, 3) := by decide +kernel
theorem dX1_distance_35 : decode cX1_distance 35 = .ok (.getfield 64, 3) := by decide +kernel
theorem dX1_distance_38 : decode cX1_distance 38 = .ok (.iload_n 2, 1) := by decide +kernel
theorem dX1_distance_39 : decode cX1_distance 39 = .ok (.aload_n 1, 1) := by decide +kernel
theorem dX1_distance_40 : decode cX1_distance 40 = .ok (.getfield 64, 3) := by decide +kernel
theorem dX1_distance_43 : decode cX1_distance 43 = .ok (.imul, 1) := by decide +kernel
theorem dX1_distance_44 : decode cX1_distance 44 = .ok (.isub, 1) := by decide +kernel
theorem dX1_distance_45 : decode cX1_distance 45 = .ok (.istore 5, 2) := by decide +kernel
theorem dX1_distance_47 : decode cX1_distance 47 = .ok (.aload_n 0, 1) := by decide +kernel
theorem dX1_distance_48 : decode cX1_distance 48 = .ok (.getfield 22, 3) := by decide +kernel
theorem dX1_distance_51 : decode cX1_distance 51 = .ok (.getfield 67, 3) := by decide +kernel
theorem dX1_distance_54 : decode cX1_distance 54 = .ok (.iload_n 2, 1) := by decide +kernel
theorem dX1_distance_55 : decode cX1_distance 55 = .ok (.aload_n 1, 1) := by decide +kernel
theorem dX1_distance_56 : decode cX1_distance 56 = .ok (.getfield 67, 3) := by decide +kernel
theorem dX1_distance_59 : decode cX1_distance 59 = .ok (.imul, 1) := by decide +kernel
theorem dX1_distance_60 : decode cX1_distance 60 = .ok (.isub, 1) := by decide +kernel
theorem dX1_distance_61 : decode cX1_distance 61 = .ok (.istore 6, 2) := by decide +kernel
theorem dX1_distance_63 : decode cX1_distance 63 = .ok (.iload_n 3, 1) := by decide +kernel
theorem dX1_distance_64 : decode cX1_distance 64 = .ok (.iload_n 3, 1) := by decide +kernel
theorem dX1_distance_65 : decode cX1_distance 65 = .ok (.imul, 1) := by decide +kernel
theorem dX1_distance_66 : decode cX1_distance 66 = .ok (.iload 4, 2) := by decide +kernel
theorem dX1_distance_68 : decode cX1_distance 68 = .ok (.iload 4, 2) := by decide +kernel
theorem dX1_distance_70 : decode cX1_distance 70 = .ok (.imul, 1) := by decide +kernel
theorem dX1_distance_71 : decode cX1_distance 71 = .ok (.iadd, 1) := by decide +kernel
theorem dX1_distance_72 : decode cX1_distance 72 = .ok (.iload 5, 2) := by decide +kernel
theorem dX1_distance_74 : decode cX1_distance 74 = .ok (.iload 5, 2) := by decide +kernel
theorem dX1_distance_76 : decode cX1_distance 76 = .ok (.imul, 1) := by decide +kernel
theorem dX1_distance_77 : decode cX1_distance 77 = .ok (.iadd, 1) := by decide +kernel
theorem dX1_distance_78 : decode cX1_distance 78 = .ok (.iload 6, 2) := by decide +kernel
theorem dX1_distance_80 : decode cX1_distance 80 = .ok (.iload 6, 2) := by decide +kernel
theorem dX1_distance_82 : decode cX1_distance 82 = .ok (.imul, 1) := by decide +kernel
theorem dX1_distance_83 : decode cX1_distance 83 = .ok (.iadd, 1) := by decide +kernel
theorem dX1_distance_84 : decode cX1_distance 84 = .ok (.ireturn, 1) := by decide +kernel
theorem dX2_init_0 : decode cX2_init 0 = .ok (.aload_n 0, 1) := by decide +kernel
theorem dX2_init_1 : decode cX2_init 1 = .ok (.invokespecial 3, 3) := by decide +kernel
theorem dX2_init_4 : decode cX2_init 4 = .ok (.aload_n 0, 1) := by decide +kernel
theorem dX2_init_5 : decode cX2_init 5 = .ok (.new 9, 3) := by decide +kernel
theorem dX2_init_8 : decode cX2_init 8 = .ok (.dup, 1) := by decide +kernel
theorem dX2_init_9 : decode cX2_init 9 = .ok (.sipush 240, 3) := by decide +kernel
theorem dX2_init_12 : decode cX2_init 12 = .ok (.invokespecial 13, 3) := by decide +kernel
theorem dX2_init_15 : decode cX2_init 15 = .ok (.putfield 16, 3) := by decide +kernel
theorem dX2_init_18 : decode cX2_init 18 = .ok (.aload_n 0, 1) := by decide +kernel
theorem dX2_init_19 : decode cX2_init 19 = .ok (.new 20, 3) := by decide +kernel
theorem dX2_init_22 : decode cX2_init 22 = .ok (.dup, 1) := by decide +kernel
theorem dX2_init_23 : decode cX2_init 23 = .ok (.invokespecial 22, 3) := by decide +kernel
theorem dX2_init_26 : decode cX2_init 26 = .ok (.putfield 23, 3) := by decide +kernel
theorem dX2_init_29 : decode cX2_init 29 = .ok (.aload_n 0, 1) := by decide +kernel
theorem dX2_init_30 : decode cX2_init 30 = .ok (.new 20, 3) := by decide +kernel
theorem dX2_init_33 : decode cX2_init 33 = .ok (.dup, 1) := by decide +kernel
theorem dX2_init_34 : decode cX2_init 34 = .ok (.invokespecial 22, 3) := by decide +kernel
theorem dX2_init_37 : decode cX2_init 37 = .ok (.putfield 27, 3) := by decide +kernel
theorem dX2_init_40 : decode cX2_init 40 = .ok (.aload_n 0, 1) := by decide +kernel
theorem dX2_init_41 : decode cX2_init 41 = .ok (.new 20, 3) := by decide +kernel
theorem dX2_init_44 : decode cX2_init 44 = .ok (.dup, 1) := by decide +kernel
theorem dX2_init_45 : decode cX2_init 45 = .ok (.invokespecial 22, 3) := by decide +kernel
theorem dX2_init_48 : decode cX2_init 48 = .ok (.putfield 30, 3) := by decide +kernel
theorem dX2_init_51 : decode cX2_init 51 = .ok (.aload_n 0, 1) := by decide +kernel
theorem dX2_init_52 : decode cX2_init 52 = .ok (.sipush 601, 3) := by decide +kernel
theorem dX2_init_55 : decode cX2_init 55 = .ok (.newarray .int, 2) := by decide +kernel
theorem dX2_init_57 : decode cX2_init 57 = .ok (.putfield 33, 3) := by decide +kernel
theorem dX2_init_60 : decode cX2_init 60 = .ok (.iconst 0, 1) := by decide +kernel
theorem dX2_init_61 : decode cX2_init 61 = .ok (.istore_n 1, 1) := by decide +kernel
theorem dX2_init_62 : decode cX2_init 62 = .ok (.iconst 0, 1) := by decide +kernel
theorem dX2_init_63 : decode cX2_init 63 = .ok (.istore_n 2, 1) := by decide +kernel
theorem dX2_init_64 : decode cX2_init 64 = .ok (.iload_n 2, 1) := by decide +kernel
theorem dX2_init_65 : decode cX2_init 65 = .ok (.aload_n 0, 1) := by decide +kernel
theorem dX2_init_66 : decode cX2_init 66 = .ok (.getfield 33, 3) := by decide +kernel
theorem dX2_init_69 : decode cX2_init 69 = .ok (.arraylength, 1) := by decide +kernel
theorem dX2_init_70 : decode cX2_init 70 = .ok (.if_icmp .ge 30, 3) := by decide +kernel
theorem dX2_init_73 : decode cX2_init 73 = .ok (.iload_n 1, 1) := by decide +kernel
theorem dX2_init_74 : decode cX2_init 74 = .ok (.iconst 1, 1) := by decide +kernel
theorem dX2_init_75 : decode cX2_init 75 = .ok (.iadd, 1) := by decide +kernel
theorem dX2_init_76 : decode cX2_init 76 = .ok (.iload_n 1, 1) := by decide +kernel
theorem dX2_init_77 : decode cX2_init 77 = .ok (.iconst 1, 1) := by decide +kernel
theorem dX2_init_78 : decode cX2_init 78 = .ok (.iadd, 1) := by decide +kernel
theorem dX2_init_79 : decode cX2_init 79 = .ok (.imul, 1) := by decide +kernel
theorem dX2_init_80 : decode cX2_init 80 = .ok (.iload_n 2, 1) := by decide +kernel
theorem dX2_init_81 : decode cX2_init 81 = .ok (.if_icmp .gt 6, 3) := by decide +kernel
theorem dX2_init_84 : decode cX2_init 84 = .ok (.iinc 1 1, 3) := by decide +kernel
theorem dX2_init_87 : decode cX2_init 87 = .ok (.aload_n 0, 1) := by decide +kernel
theorem dX2_init_88 : decode cX2_init 88 = .ok (.getfield 33, 3) := by decide +kernel
theorem dX2_init_91 : decode cX2_init 91 = .ok (.iload_n 2, 1) := by decide +kernel
theorem dX2_init_92 : decode cX2_init 92 = .ok (.iload_n 1, 1) := by decide +kernel
theorem dX2_init_93 : decode cX2_init 93 = .ok (.iastore, 1) := by decide +kernel
theorem dX2_init_94 : decode cX2_init 94 = .ok (.iinc 2 1, 3) := by decide +kernel
theorem dX2_init_97 : decode cX2_init 97 = .ok (.goto (-33), 3) := by decide +kernel
theorem dX2_init_100 : decode cX2_init 100 = .ok (.return_, 1) := by decide +kernel
theorem dX2_putMate_0 : decode cX2_putMate 0 = .ok (.aload_n 0, 1) := by decide +kernel
theorem dX2_putMate_1 : decode cX2_putMate 1 = .ok (.getfield 27, 3) := by decide +kernel
theorem dX2_putMate_4 : decode cX2_putMate 4 = .ok (.iload 4, 2) := by decide +kernel
theorem dX2_putMate_6 : decode cX2_putMate 6 = .ok (.invokevirtual 37, 3) := by decide +kernel
theorem dX2_putMate_9 : decode cX2_putMate 9 = .ok (.aload_n 1, 1) := by decide +kernel
theorem dX2_putMate_10 : decode cX2_putMate 10 = .ok (.aload_n 2, 1) := by decide +kernel
theorem dX2_putMate_11 : decode cX2_putMate 11 = .ok (.aload_n 0, 1) := by decide +kernel
theorem dX2_putMate_12 : decode cX2_putMate 12 = .ok (.getfield 27, 3) := by decide +kernel
theorem dX2_putMate_15 : decode cX2_putMate 15 = .ok (.iload_n 3, 1) := by decide +kernel
theorem dX2_putMate_16 : decode cX2_putMate 16 = .ok (.invokevirtual 40, 3) := by decide +kernel
theorem dX2_putMate_19 : decode cX2_putMate 19 = .ok (.return_, 1) := by decide +kernel
theorem dX2_putHead_0 : decode cX2_putHead 0 = .ok (.aload_n 1, 1) := by decide +kernel
theorem dX2_putHead_1 : decode cX2_putHead 1 = .ok (.aload_n 2, 1) := by decide +kernel
theorem dX2_putHead_2 : decode cX2_putHead 2 = .ok (.invokevirtual 44, 3) := by decide +kernel
theorem dX2_putHead_5 : decode cX2_putHead 5 = .ok (.iconst 1, 1) := by decide +kernel
theorem dX2_putHead_6 : decode cX2_putHead 6 = .ok (.istore 4, 2) := by decide +kernel
theorem dX2_putHead_8 : decode cX2_putHead 8 = .ok (.iload 4, 2) := by decide +kernel
theorem dX2_putHead_10 : decode cX2_putHead 10 = .ok (.bipush 24, 2) := by decide +kernel
theorem dX2_putHead_12 : decode cX2_putHead 12 = .ok (.if_icmp .ge 40, 3) := by decide +kernel
theorem dX2_putHead_15 : decode cX2_putHead 15 = .ok (.aload_n 0, 1) := by decide +kernel
theorem dX2_putHead_16 : decode cX2_putHead 16 = .ok (.aload_n 0, 1) := by decide +kernel
theorem dX2_putHead_17 : decode cX2_putHead 17 = .ok (.getfield 30, 3) := by decide +kernel
theorem dX2_putHead_20 : decode cX2_putHead 20 = .ok (.aload_n 2, 1) := by decide +kernel
theorem dX2_putHead_21 : decode cX2_putHead 21 = .ok (.iload_n 3, 1) := by decide +kernel
theorem dX2_putHead_22 : decode cX2_putHead 22 = .ok (.iload 4, 2) := by decide +kernel
theorem dX2_putHead_24 : decode cX2_putHead 24 = .ok (.invokevirtual 48, 3) := by decide +kernel
theorem dX2_putHead_27 : decode cX2_putHead 27 = .ok (.aload_n 0, 1) := by decide +kernel
theorem dX2_putHead_28 : decode cX2_putHead 28 = .ok (.getfield 30, 3) := by decide +kernel
theorem dX2_putHead_31 : decode cX2_putHead 31 = .ok (.aload_n 1, 1) := by decide +kernel
theorem dX2_putHead_32 : decode cX2_putHead 32 = .ok (.invokevirtual 52, 3) := by decide +kernel
theorem dX2_putHead_35 : decode cX2_putHead 35 = .ok (.ifCond .eq 11, 3) := by decide +kernel
theorem dX2_putHead_38 : decode cX2_putHead 38 = .ok (.aload_n 1, 1) := by decide +kernel
theorem dX2_putHead_39 : decode cX2_putHead 39 = .ok (.aload_n 0, 1) := by decide +kernel
theorem dX2_putHead_40 : decode cX2_putHead 40 = .ok (.getfield 30, 3) := by decide +kernel
theorem dX2_putHead_43 : decode cX2_putHead 43 = .ok (.invokevirtual 44, 3) := by decide +kernel
theorem dX2_putHead_46 : decode cX2_putHead 46 = .ok (.iinc 4 1, 3) := by decide +kernel
theorem dX2_putHead_49 : decode cX2_putHead 49 = .ok (.goto (-41), 3) := by decide +kernel
theorem dX2_putHead_52 : decode cX2_putHead 52 = .ok (.return_, 1) := by decide +kernel
theorem dX2_gather_0 : decode cX2_gather 0 = .ok (.aload_n 0, 1) := by decide +kernel
theorem dX2_gather_1 : decode cX2_gather 1 = .ok (.getfield 16, 3) := by decide +kernel
theorem dX2_gather_4 : decode cX2_gather 4 = .ok (.invokevirtual 56, 3) := by decide +kernel
theorem dX2_gather_7 : decode cX2_gather 7 = .ok (.bipush 24, 2) := by decide +kernel
theorem dX2_gather_9 : decode cX2_gather 9 = .ok (.istore_n 3, 1) := by decide +kernel
theorem dX2_gather_10 : decode cX2_gather 10 = .ok (.iload_n 3, 1) := by decide +kernel
theorem dX2_gather_11 : decode cX2_gather 11 = .ok (.ifCond .le 116, 3) := by decide +kernel
theorem dX2_gather_14 : decode cX2_gather 14 = .ok (.iconst 4, 1) := by decide +kernel
theorem dX2_gather_15 : decode cX2_gather 15 = .ok (.iload_n 1, 1) := by decide +kernel
theorem dX2_gather_16 : decode cX2_gather 16 = .ok (.imul, 1) := by decide +kernel
theorem dX2_gather_17 : decode cX2_gather 17 = .ok (.iload_n 3, 1) := by decide +kernel
theorem dX2_gather_18 : decode cX2_gather 18 = .ok (.iload_n 3, 1) := by decide +kernel
theorem dX2_gather_19 : decode cX2_gather 19 = .ok (.imul, 1) := by decide +kernel
theorem dX2_gather_20 : decode cX2_gather 20 = .ok (.isub, 1) := by decide +kernel
theorem dX2_gather_21 : decode cX2_gather 21 = .ok (.istore 4, 2) := by decide +kernel
theorem dX2_gather_23 : decode cX2_gather 23 = .ok (.iload 4, 2) := by decide +kernel
theorem dX2_gather_25 : decode cX2_gather 25 = .ok (.ifCond .lt 96, 3) := by decide +kernel
theorem dX2_gather_28 : decode cX2_gather 28 = .ok (.iload 4, 2) := by decide +kernel
theorem dX2_gather_30 : decode cX2_gather 30 = .ok (.iload_n 3, 1) := by decide +kernel
theorem dX2_gather_31 : decode cX2_gather 31 = .ok (.iload_n 3, 1) := by decide +kernel
theorem dX2_gather_32 : decode cX2_gather 32 = .ok (.imul, 1) := by decide +kernel
theorem dX2_gather_33 : decode cX2_gather 33 = .ok (.if_icmp .le 6, 3) := by decide +kernel
theorem dX2_gather_36 : decode cX2_gather 36 = .ok (.goto 85, 3) := by decide +kernel
theorem dX2_gather_39 : decode cX2_gather 39 = .ok (.aload_n 0, 1) := by decide +kernel
theorem dX2_gather_40 : decode cX2_gather 40 = .ok (.iload 4, 2) := by decide +kernel
theorem dX2_gather_42 : decode cX2_gather 42 = .ok (.iload_n 3, 1) := by decide +kernel
theorem dX2_gather_43 : decode cX2_gather 43 = .ok (.invokevirtual 59, 3) := by decide +kernel
theorem dX2_gather_46 : decode cX2_gather 46 = .ok (.istore 5, 2) := by decide +kernel
theorem dX2_gather_48 : decode cX2_gather 48 = .ok (.iload 5, 2) := by decide +kernel
theorem dX2_gather_50 : decode cX2_gather 50 = .ok (.istore 6, 2) := by decide +kernel
theorem dX2_gather_52 : decode cX2_gather 52 = .ok (.iload 6, 2) := by decide +kernel
theorem dX2_gather_54 : decode cX2_gather 54 = .ok (.iload 5, 2) := by decide +kernel
theorem dX2_gather_56 : decode cX2_gather 56 = .ok (.ineg, 1) := by decide +kernel
theorem dX2_gather_57 : decode cX2_gather 57 = .ok (.if_icmp .lt 64, 3) := by decide +kernel
theorem dX2_gather_60 : decode cX2_gather 60 = .ok (.iload 4, 2) := by decide +kernel
theorem dX2_gather_62 : decode cX2_gather 62 = .ok (.iload 6, 2) := by decide +kernel
theorem dX2_gather_64 : decode cX2_gather 64 = .ok (.iload 6, 2) := by decide +kernel
theorem dX2_gather_66 : decode cX2_gather 66 = .ok (.imul, 1) := by decide +kernel
theorem dX2_gather_67 : decode cX2_gather 67 = .ok (.isub, 1) := by decide +kernel
theorem dX2_gather_68 : decode cX2_gather 68 = .ok (.istore 7, 2) := by decide +kernel
theorem dX2_gather_70 : decode cX2_gather 70 = .ok (.aload_n 0, 1) := by decide +kernel
theorem dX2_gather_71 : decode cX2_gather 71 = .ok (.iload 7, 2) := by decide +kernel
theorem dX2_gather_73 : decode cX2_gather 73 = .ok (.iload_n 3, 1) := by decide +kernel
theorem dX2_gather_74 : decode cX2_gather 74 = .ok (.invokevirtual 59, 3) := by decide +kernel
theorem dX2_gather_77 : decode cX2_gather 77 = .ok (.istore 8, 2) := by decide +kernel
theorem dX2_gather_79 : decode cX2_gather 79 = .ok (.iload 8, 2) := by decide +kernel
theorem dX2_gather_81 : decode cX2_gather 81 = .ok (.istore 9, 2) := by decide +kernel
theorem dX2_gather_83 : decode cX2_gather 83 = .ok (.iload 9, 2) := by decide +kernel
theorem dX2_gather_85 : decode cX2_gather 85 = .ok (.iload 8, 2) := by decide +kernel
theorem dX2_gather_87 : decode cX2_gather 87 = .ok (.ineg, 1) := by decide +kernel
theorem dX2_gather_88 : decode cX2_gather 88 = .ok (.if_icmp .lt 27, 3) := by decide +kernel
theorem dX2_gather_91 : decode cX2_gather 91 = .ok (.aload_n 0, 1) := by decide +kernel
theorem dX2_gather_92 : decode cX2_gather 92 = .ok (.iload_n 3, 1) := by decide +kernel
theorem dX2_gather_93 : decode cX2_gather 93 = .ok (.iload 6, 2) := by decide +kernel
theorem dX2_gather_95 : decode cX2_gather 95 = .ok (.iload 9, 2) := by decide +kernel
theorem dX2_gather_97 : decode cX2_gather 97 = .ok (.iload 7, 2) := by decide +kernel
theorem dX2_gather_99 : decode cX2_gather 99 = .ok (.iload 9, 2) := by decide +kernel
theorem dX2_gather_101 : decode cX2_gather 101 = .ok (.iload 9, 2) := by decide +kernel
theorem dX2_gather_103 : decode cX2_gather 103 = .ok (.imul, 1) := by decide +kernel
theorem dX2_gather_104 : decode cX2_gather 104 = .ok (.isub, 1) := by decide +kernel
theorem dX2_gather_105 : decode cX2_gather 105 = .ok (.iload_n 2, 1) := by decide +kernel
theorem dX2_gather_106 : decode cX2_gather 106 = .ok (.invokevirtual 63, 3) := by decide +kernel
theorem dX2_gather_109 : decode cX2_gather 109 = .ok (.iinc 9 (-2), 3) := by decide +kernel
theorem dX2_gather_112 : decode cX2_gather 112 = .ok (.goto (-29), 3) := by decide +kernel
theorem dX2_gather_115 : decode cX2_gather 115 = .ok (.iinc 6 (-2), 3) := by decide +kernel
theorem dX2_gather_118 : decode cX2_gather 118 = .ok (.goto (-66), 3) := by decide +kernel
theorem dX2_gather_121 : decode cX2_gather 121 = .ok (.iinc 3 (-1), 3) := by decide +kernel
theorem dX2_gather_124 : decode cX2_gather 124 = .ok (.goto (-114), 3) := by decide +kernel
theorem dX2_gather_127 : decode cX2_gather 127 = .ok (.return_, 1) := by decide +kernel
theorem dX2_likeRoot_0 : decode cX2_likeRoot 0 = .ok (.iload_n 1, 1) := by decide +kernel
theorem dX2_likeRoot_1 : decode cX2_likeRoot 1 = .ok (.ifCond .lt 12, 3) := by decide +kernel
theorem dX2_likeRoot_4 : decode cX2_likeRoot 4 = .ok (.iload_n 1, 1) := by decide +kernel
theorem dX2_likeRoot_5 : decode cX2_likeRoot 5 = .ok (.aload_n 0, 1) := by decide +kernel
theorem dX2_likeRoot_6 : decode cX2_likeRoot 6 = .ok (.getfield 33, 3) := by decide +kernel
theorem dX2_likeRoot_9 : decode cX2_likeRoot 9 = .ok (.arraylength, 1) := by decide +kernel
theorem dX2_likeRoot_10 : decode cX2_likeRoot 10 = .ok (.if_icmp .lt 5, 3) := by decide +kernel
theorem dX2_likeRoot_13 : decode cX2_likeRoot 13 = .ok (.iconst (-1), 1) := by decide +kernel
theorem dX2_likeRoot_14 : decode cX2_likeRoot 14 = .ok (.ireturn, 1) := by decide +kernel
theorem dX2_likeRoot_15 : decode cX2_likeRoot 15 = .ok (.aload_n 0, 1) := by decide +kernel
theorem dX2_likeRoot_16 : decode cX2_likeRoot 16 = .ok (.getfield 33, 3) := by decide +kernel
theorem dX2_likeRoot_19 : decode cX2_likeRoot 19 = .ok (.iload_n 1, 1) := by decide +kernel
theorem dX2_likeRoot_20 : decode cX2_likeRoot 20 = .ok (.iaload, 1) := by decide +kernel
theorem dX2_likeRoot_21 : decode cX2_likeRoot 21 = .ok (.istore_n 3, 1) := by decide +kernel
theorem dX2_likeRoot_22 : decode cX2_likeRoot 22 = .ok (.iload_n 3, 1) := by decide +kernel
theorem dX2_likeRoot_23 : decode cX2_likeRoot 23 = .ok (.iload_n 2, 1) := by decide +kernel
theorem dX2_likeRoot_24 : decode cX2_likeRoot 24 = .ok (.ixor, 1) := by decide +kernel
theorem dX2_likeRoot_25 : decode cX2_likeRoot 25 = .ok (.iconst 1, 1) := by decide +kernel
theorem dX2_likeRoot_26 : decode cX2_likeRoot 26 = .ok (.iand, 1) := by decide +kernel
theorem dX2_likeRoot_27 : decode cX2_likeRoot 27 = .ok (.ifCond .ne 7, 3) := by decide +kernel
theorem dX2_likeRoot_30 : decode cX2_likeRoot 30 = .ok (.iload_n 3, 1) := by decide +kernel
theorem dX2_likeRoot_31 : decode cX2_likeRoot 31 = .ok (.goto 6, 3) := by decide +kernel
theorem dX2_likeRoot_34 : decode cX2_likeRoot 34 = .ok (.iload_n 3, 1) := by decide +kernel
theorem dX2_likeRoot_35 : decode cX2_likeRoot 35 = .ok (.iconst 1, 1) := by decide +kernel
theorem dX2_likeRoot_36 : decode cX2_likeRoot 36 = .ok (.isub, 1) := by decide +kernel
theorem dX2_likeRoot_37 : decode cX2_likeRoot 37 = .ok (.ireturn, 1) := by decide +kernel
theorem dX2_offer_0 : decode cX2_offer 0 = .ok (.aload_n 0, 1) := by decide +kernel
theorem dX2_offer_1 : decode cX2_offer 1 = .ok (.iload 4, 2) := by decide +kernel
theorem dX2_offer_3 : decode cX2_offer 3 = .ok (.iload_n 1, 1) := by decide +kernel
theorem dX2_offer_4 : decode cX2_offer 4 = .ok (.invokevirtual 59, 3) := by decide +kernel
theorem dX2_offer_7 : decode cX2_offer 7 = .ok (.istore 6, 2) := by decide +kernel
theorem dX2_offer_9 : decode cX2_offer 9 = .ok (.iload 6, 2) := by decide +kernel
theorem dX2_offer_11 : decode cX2_offer 11 = .ok (.ifCond .lt 13, 3) := by decide +kernel
theorem dX2_offer_14 : decode cX2_offer 14 = .ok (.iload 6, 2) := by decide +kernel
theorem dX2_offer_16 : decode cX2_offer 16 = .ok (.iload 6, 2) := by decide +kernel
theorem dX2_offer_18 : decode cX2_offer 18 = .ok (.imul, 1) := by decide +kernel
theorem dX2_offer_19 : decode cX2_offer 19 = .ok (.iload 4, 2) := by decide +kernel
theorem dX2_offer_21 : decode cX2_offer 21 = .ok (.if_icmp .eq 4, 3) := by decide +kernel
theorem dX2_offer_24 : decode cX2_offer 24 = .ok (.return_, 1) := by decide +kernel
theorem dX2_offer_25 : decode cX2_offer 25 = .ok (.iload_n 2, 1) := by decide +kernel
theorem dX2_offer_26 : decode cX2_offer 26 = .ok (.invokestatic 67, 3) := by decide +kernel
theorem dX2_offer_29 : decode cX2_offer 29 = .ok (.iload_n 3, 1) := by decide +kernel
theorem dX2_offer_30 : decode cX2_offer 30 = .ok (.invokestatic 67, 3) := by decide +kernel
theorem dX2_offer_33 : decode cX2_offer 33 = .ok (.iadd, 1) := by decide +kernel
theorem dX2_offer_34 : decode cX2_offer 34 = .ok (.iload 6, 2) := by decide +kernel
theorem dX2_offer_36 : decode cX2_offer 36 = .ok (.iadd, 1) := by decide +kernel
theorem dX2_offer_37 : decode cX2_offer 37 = .ok (.istore 7, 2) := by decide +kernel
theorem dX2_offer_39 : decode cX2_offer 39 = .ok (.iload 7, 2) := by decide +kernel
theorem dX2_offer_41 : decode cX2_offer 41 = .ok (.iload_n 1, 1) := by decide +kernel
theorem dX2_offer_42 : decode cX2_offer 42 = .ok (.if_icmp .le 4, 3) := by decide +kernel
theorem dX2_offer_45 : decode cX2_offer 45 = .ok (.return_, 1) := by decide +kernel
theorem dX2_offer_46 : decode cX2_offer 46 = .ok (.aload_n 0, 1) := by decide +kernel
theorem dX2_offer_47 : decode cX2_offer 47 = .ok (.getfield 23, 3) := by decide +kernel
theorem dX2_offer_50 : decode cX2_offer 50 = .ok (.iload_n 1, 1) := by decide +kernel
theorem dX2_offer_51 : decode cX2_offer 51 = .ok (.iload_n 2, 1) := by decide +kernel
theorem dX2_offer_52 : decode cX2_offer 52 = .ok (.iload_n 3, 1) := by decide +kernel
theorem dX2_offer_53 : decode cX2_offer 53 = .ok (.iload 6, 2) := by decide +kernel
theorem dX2_offer_55 : decode cX2_offer 55 = .ok (.invokevirtual 73, 3) := by decide +kernel
theorem dX2_offer_58 : decode cX2_offer 58 = .ok (.iload 7, 2) := by decide +kernel
theorem dX2_offer_60 : decode cX2_offer 60 = .ok (.iload_n 1, 1) := by decide +kernel
theorem dX2_offer_61 : decode cX2_offer 61 = .ok (.if_icmp .lt 12, 3) := by decide +kernel
theorem dX2_offer_64 : decode cX2_offer 64 = .ok (.aload_n 0, 1) := by decide +kernel
theorem dX2_offer_65 : decode cX2_offer 65 = .ok (.iload 5, 2) := by decide +kernel
theorem dX2_offer_67 : decode cX2_offer 67 = .ok (.invokevirtual 77, 3) := by decide +kernel
theorem dX2_offer_70 : decode cX2_offer 70 = .ok (.ifCond .eq 15, 3) := by decide +kernel
theorem dX2_offer_73 : decode cX2_offer 73 = .ok (.aload_n 0, 1) := by decide +kernel
theorem dX2_offer_74 : decode cX2_offer 74 = .ok (.getfield 16, 3) := by decide +kernel
theorem dX2_offer_77 : decode cX2_offer 77 = .ok (.iload_n 1, 1) := by decide +kernel
theorem dX2_offer_78 : decode cX2_offer 78 = .ok (.iload_n 2, 1) := by decide +kernel
theorem dX2_offer_79 : decode cX2_offer 79 = .ok (.iload_n 3, 1) := by decide +kernel
theorem dX2_offer_80 : decode cX2_offer 80 = .ok (.iload 6, 2) := by decide +kernel
theorem dX2_offer_82 : decode cX2_offer 82 = .ok (.invokevirtual 81, 3) := by decide +kernel
theorem dX2_offer_85 : decode cX2_offer 85 = .ok (.aload_n 0, 1) := by decide +kernel
theorem dX2_offer_86 : decode cX2_offer 86 = .ok (.getfield 23, 3) := by decide +kernel
theorem dX2_offer_89 : decode cX2_offer 89 = .ok (.iload_n 1, 1) := by decide +kernel
theorem dX2_offer_90 : decode cX2_offer 90 = .ok (.iload_n 2, 1) := by decide +kernel
theorem dX2_offer_91 : decode cX2_offer 91 = .ok (.iload_n 3, 1) := by decide +kernel
theorem dX2_offer_92 : decode cX2_offer 92 = .ok (.iload 6, 2) := by decide +kernel
theorem dX2_offer_94 : decode cX2_offer 94 = .ok (.ineg, 1) := by decide +kernel
theorem dX2_offer_95 : decode cX2_offer 95 = .ok (.invokevirtual 73, 3) := by decide +kernel
theorem dX2_offer_98 : decode cX2_offer 98 = .ok (.iload 6, 2) := by decide +kernel
theorem dX2_offer_100 : decode cX2_offer 100 = .ok (.ifCond .le 31, 3) := by decide +kernel
theorem dX2_offer_103 : decode cX2_offer 103 = .ok (.iload 7, 2) := by decide +kernel
theorem dX2_offer_105 : decode cX2_offer 105 = .ok (.iload_n 1, 1) := by decide +kernel
theorem dX2_offer_106 : decode cX2_offer 106 = .ok (.if_icmp .lt 12, 3) := by decide +kernel
theorem dX2_offer_109 : decode cX2_offer 109 = .ok (.aload_n 0, 1) := by decide +kernel
theorem dX2_offer_110 : decode cX2_offer 110 = .ok (.iload 5, 2) := by decide +kernel
theorem dX2_offer_112 : decode cX2_offer 112 = .ok (.invokevirtual 77, 3) := by decide +kernel
theorem dX2_offer_115 : decode cX2_offer 115 = .ok (.ifCond .eq 16, 3) := by decide +kernel
theorem dX2_offer_118 : decode cX2_offer 118 = .ok (.aload_n 0, 1) := by decide +kernel
theorem dX2_offer_119 : decode cX2_offer 119 = .ok (.getfield 16, 3) := by decide +kernel
theorem dX2_offer_122 : decode cX2_offer 122 = .ok (.iload_n 1, 1) := by decide +kernel
theorem dX2_offer_123 : decode cX2_offer 123 = .ok (.iload_n 2, 1) := by decide +kernel
theorem dX2_offer_124 : decode cX2_offer 124 = .ok (.iload_n 3, 1) := by decide +kernel
theorem dX2_offer_125 : decode cX2_offer 125 = .ok (.iload 6, 2) := by decide +kernel
theorem dX2_offer_127 : decode cX2_offer 127 = .ok (.ineg, 1) := by decide +kernel
theorem dX2_offer_128 : decode cX2_offer 128 = .ok (.invokevirtual 81, 3) := by decide +kernel
theorem dX2_offer_131 : decode cX2_offer 131 = .ok (.return_, 1) := by decide +kernel
theorem dX2_isHead_0 : decode cX2_isHead 0 = .ok (.iconst 1, 1) := by decide +kernel
theorem dX2_isHead_1 : decode cX2_isHead 1 = .ok (.istore_n 2, 1) := by decide +kernel
theorem dX2_isHead_2 : decode cX2_isHead 2 = .ok (.iload_n 2, 1) := by decide +kernel
theorem dX2_isHead_3 : decode cX2_isHead 3 = .ok (.bipush 24, 2) := by decide +kernel
theorem dX2_isHead_5 : decode cX2_isHead 5 = .ok (.if_icmp .ge 49, 3) := by decide +kernel
theorem dX2_isHead_8 : decode cX2_isHead 8 = .ok (.aload_n 0, 1) := by decide +kernel
theorem dX2_isHead_9 : decode cX2_isHead 9 = .ok (.getfield 27, 3) := by decide +kernel
theorem dX2_isHead_12 : decode cX2_isHead 12 = .ok (.iload_n 2, 1) := by decide +kernel
theorem dX2_isHead_13 : decode cX2_isHead 13 = .ok (.invokevirtual 37, 3) := by decide +kernel
theorem dX2_isHead_16 : decode cX2_isHead 16 = .ok (.aload_n 0, 1) := by decide +kernel
theorem dX2_isHead_17 : decode cX2_isHead 17 = .ok (.getfield 30, 3) := by decide +kernel
theorem dX2_isHead_20 : decode cX2_isHead 20 = .ok (.aload_n 0, 1) := by decide +kernel
theorem dX2_isHead_21 : decode cX2_isHead 21 = .ok (.getfield 23, 3) := by decide +kernel
theorem dX2_isHead_24 : decode cX2_isHead 24 = .ok (.aload_n 0, 1) := by decide +kernel
theorem dX2_isHead_25 : decode cX2_isHead 25 = .ok (.getfield 27, 3) := by decide +kernel
theorem dX2_isHead_28 : decode cX2_isHead 28 = .ok (.iload_n 1, 1) := by decide +kernel
theorem dX2_isHead_29 : decode cX2_isHead 29 = .ok (.invokevirtual 40, 3) := by decide +kernel
theorem dX2_isHead_32 : decode cX2_isHead 32 = .ok (.aload_n 0, 1) := by decide +kernel
theorem dX2_isHead_33 : decode cX2_isHead 33 = .ok (.getfield 30, 3) := by decide +kernel
theorem dX2_isHead_36 : decode cX2_isHead 36 = .ok (.aload_n 0, 1) := by decide +kernel
theorem dX2_isHead_37 : decode cX2_isHead 37 = .ok (.getfield 23, 3) := by decide +kernel
theorem dX2_isHead_40 : decode cX2_isHead 40 = .ok (.invokevirtual 52, 3) := by decide +kernel
theorem dX2_isHead_43 : decode cX2_isHead 43 = .ok (.ifCond .eq 5, 3) := by decide +kernel
theorem dX2_isHead_46 : decode cX2_isHead 46 = .ok (.iconst 0, 1) := by decide +kernel
theorem dX2_isHead_47 : decode cX2_isHead 47 = .ok (.ireturn, 1) := by decide +kernel
theorem dX2_isHead_48 : decode cX2_isHead 48 = .ok (.iinc 2 1, 3) := by decide +kernel
theorem dX2_isHead_51 : decode cX2_isHead 51 = .ok (.goto (-49), 3) := by decide +kernel
theorem dX2_isHead_54 : decode cX2_isHead 54 = .ok (.iconst 1, 1) := by decide +kernel
theorem dX2_isHead_55 : decode cX2_isHead 55 = .ok (.ireturn, 1) := by decide +kernel
theorem dX3_init_0 : decode cX3_init 0 = .ok (.aload_n 0, 1) := by decide +kernel
theorem dX3_init_1 : decode cX3_init 1 = .ok (.invokespecial 3, 3) := by decide +kernel
theorem dX3_init_4 : decode cX3_init 4 = .ok (.aload_n 0, 1) := by decide +kernel
theorem dX3_init_5 : decode cX3_init 5 = .ok (.bipush 8, 2) := by decide +kernel
theorem dX3_init_7 : decode cX3_init 7 = .ok (.anewarray 9, 3) := by decide +kernel
theorem dX3_init_10 : decode cX3_init 10 = .ok (.putfield 11, 3) := by decide +kernel
theorem dX3_init_13 : decode cX3_init 13 = .ok (.aload_n 0, 1) := by decide +kernel
theorem dX3_init_14 : decode cX3_init 14 = .ok (.bipush 8, 2) := by decide +kernel
theorem dX3_init_16 : decode cX3_init 16 = .ok (.invokestatic 17, 3) := by decide +kernel
theorem dX3_init_19 : decode cX3_init 19 = .ok (.putfield 21, 3) := by decide +kernel
theorem dX3_init_22 : decode cX3_init 22 = .ok (.aload_n 0, 1) := by decide +kernel
theorem dX3_init_23 : decode cX3_init 23 = .ok (.new 25, 3) := by decide +kernel
theorem dX3_init_26 : decode cX3_init 26 = .ok (.dup, 1) := by decide +kernel
theorem dX3_init_27 : decode cX3_init 27 = .ok (.invokespecial 27, 3) := by decide +kernel
theorem dX3_init_30 : decode cX3_init 30 = .ok (.putfield 28, 3) := by decide +kernel
theorem dX3_init_33 : decode cX3_init 33 = .ok (.aload_n 0, 1) := by decide +kernel
theorem dX3_init_34 : decode cX3_init 34 = .ok (.aload_n 2, 1) := by decide +kernel
theorem dX3_init_35 : decode cX3_init 35 = .ok (.putfield 32, 3) := by decide +kernel
theorem dX3_init_38 : decode cX3_init 38 = .ok (.iconst 0, 1) := by decide +kernel
theorem dX3_init_39 : decode cX3_init 39 = .ok (.istore_n 3, 1) := by decide +kernel
theorem dX3_init_40 : decode cX3_init 40 = .ok (.iload_n 3, 1) := by decide +kernel
theorem dX3_init_41 : decode cX3_init 41 = .ok (.bipush 8, 2) := by decide +kernel
theorem dX3_init_43 : decode cX3_init 43 = .ok (.if_icmp .ge 24, 3) := by decide +kernel
theorem dX3_init_46 : decode cX3_init 46 = .ok (.aload_n 0, 1) := by decide +kernel
theorem dX3_init_47 : decode cX3_init 47 = .ok (.getfield 11, 3) := by decide +kernel
theorem dX3_init_50 : decode cX3_init 50 = .ok (.iload_n 3, 1) := by decide +kernel
theorem dX3_init_51 : decode cX3_init 51 = .ok (.new 9, 3) := by decide +kernel
theorem dX3_init_54 : decode cX3_init 54 = .ok (.dup, 1) := by decide +kernel
theorem dX3_init_55 : decode cX3_init 55 = .ok (.aload_n 1, 1) := by decide +kernel
theorem dX3_init_56 : decode cX3_init 56 = .ok (.aload_n 2, 1) := by decide +kernel
theorem dX3_init_57 : decode cX3_init 57 = .ok (.invokespecial 36, 3) := by decide +kernel
theorem dX3_init_60 : decode cX3_init 60 = .ok (.aastore, 1) := by decide +kernel
theorem dX3_init_61 : decode cX3_init 61 = .ok (.iinc 3 1, 3) := by decide +kernel
theorem dX3_init_64 : decode cX3_init 64 = .ok (.goto (-24), 3) := by decide +kernel
theorem dX3_init_67 : decode cX3_init 67 = .ok (.return_, 1) := by decide +kernel
theorem dX3_putFactor_0 : decode cX3_putFactor 0 = .ok (.aload_n 0, 1) := by decide +kernel
theorem dX3_putFactor_1 : decode cX3_putFactor 1 = .ok (.getfield 21, 3) := by decide +kernel
theorem dX3_putFactor_4 : decode cX3_putFactor 4 = .ok (.iconst 0, 1) := by decide +kernel
theorem dX3_putFactor_5 : decode cX3_putFactor 5 = .ok (.aaload, 1) := by decide +kernel
theorem dX3_putFactor_6 : decode cX3_putFactor 6 = .ok (.astore 4, 2) := by decide +kernel
theorem dX3_putFactor_8 : decode cX3_putFactor 8 = .ok (.aload 4, 2) := by decide +kernel
theorem dX3_putFactor_10 : decode cX3_putFactor 10 = .ok (.aload_n 2, 1) := by decide +kernel
theorem dX3_putFactor_11 : decode cX3_putFactor 11 = .ok (.invokevirtual 39, 3) := by decide +kernel
theorem dX3_putFactor_14 : decode cX3_putFactor 14 = .ok (.iconst 0, 1) := by decide +kernel
theorem dX3_putFactor_15 : decode cX3_putFactor 15 = .ok (.istore 5, 2) := by decide +kernel
theorem dX3_putFactor_17 : decode cX3_putFactor 17 = .ok (.iload 5, 2) := by decide +kernel
theorem dX3_putFactor_19 : decode cX3_putFactor 19 = .ok (.bipush 8, 2) := by decide +kernel
theorem dX3_putFactor_21 : decode cX3_putFactor 21 = .ok (.if_icmp .ge 101, 3) := by decide +kernel
theorem dX3_putFactor_24 : decode cX3_putFactor 24 = .ok (.aload 4, 2) := by decide +kernel
theorem dX3_putFactor_26 : decode cX3_putFactor 26 = .ok (.invokevirtual 43, 3) := by decide +kernel
theorem dX3_putFactor_29 : decode cX3_putFactor 29 = .ok (.ifCond .ne 93, 3) := by decide +kernel
theorem dX3_putFactor_32 : decode cX3_putFactor 32 = .ok (.aload 4, 2) := by decide +kernel
theorem dX3_putFactor_34 : decode cX3_putFactor 34 = .ok (.invokevirtual 47, 3) := by decide +kernel
theorem dX3_putFactor_37 : decode cX3_putFactor 37 = .ok (.iconst 1, 1) := by decide +kernel
theorem dX3_putFactor_38 : decode cX3_putFactor 38 = .ok (.if_icmp .ne 21, 3) := by decide +kernel
theorem dX3_putFactor_41 : decode cX3_putFactor 41 = .ok (.aload_n 1, 1) := by decide +kernel
theorem dX3_putFactor_42 : decode cX3_putFactor 42 = .ok (.aload 4, 2) := by decide +kernel
theorem dX3_putFactor_44 : decode cX3_putFactor 44 = .ok (.invokevirtual 39, 3) := by decide +kernel
theorem dX3_putFactor_47 : decode cX3_putFactor 47 = .ok (.iload 5, 2) := by decide +kernel
theorem dX3_putFactor_49 : decode cX3_putFactor 49 = .ok (.iload_n 3, 1) := by decide +kernel
theorem dX3_putFactor_50 : decode cX3_putFactor 50 = .ok (.if_icmp .ne 7, 3) := by decide +kernel
theorem dX3_putFactor_53 : decode cX3_putFactor 53 = .ok (.iconst 1, 1) := by decide +kernel
theorem dX3_putFactor_54 : decode cX3_putFactor 54 = .ok (.goto 4, 3) := by decide +kernel
theorem dX3_putFactor_57 : decode cX3_putFactor 57 = .ok (.iconst 0, 1) := by decide +kernel
theorem dX3_putFactor_58 : decode cX3_putFactor 58 = .ok (.ireturn, 1) := by decide +kernel
theorem dX3_putFactor_59 : decode cX3_putFactor 59 = .ok (.aload_n 0, 1) := by decide +kernel
theorem dX3_putFactor_60 : decode cX3_putFactor 60 = .ok (.getfield 11, 3) := by decide +kernel
theorem dX3_putFactor_63 : decode cX3_putFactor 63 = .ok (.iconst 0, 1) := by decide +kernel
theorem dX3_putFactor_64 : decode cX3_putFactor 64 = .ok (.aaload, 1) := by decide +kernel
theorem dX3_putFactor_65 : decode cX3_putFactor 65 = .ok (.aload 4, 2) := by decide +kernel
theorem dX3_putFactor_67 : decode cX3_putFactor 67 = .ok (.iconst 0, 1) := by decide +kernel
theorem dX3_putFactor_68 : decode cX3_putFactor 68 = .ok (.invokevirtual 51, 3) := by decide +kernel
theorem dX3_putFactor_71 : decode cX3_putFactor 71 = .ok (.aload_n 0, 1) := by decide +kernel
theorem dX3_putFactor_72 : decode cX3_putFactor 72 = .ok (.getfield 11, 3) := by decide +kernel
theorem dX3_putFactor_75 : decode cX3_putFactor 75 = .ok (.iconst 0, 1) := by decide +kernel
theorem dX3_putFactor_76 : decode cX3_putFactor 76 = .ok (.aaload, 1) := by decide +kernel
theorem dX3_putFactor_77 : decode cX3_putFactor 77 = .ok (.getfield 55, 3) := by decide +kernel
theorem dX3_putFactor_80 : decode cX3_putFactor 80 = .ok (.aload_n 1, 1) := by decide +kernel
theorem dX3_putFactor_81 : decode cX3_putFactor 81 = .ok (.iconst 0, 1) := by decide +kernel
theorem dX3_putFactor_82 : decode cX3_putFactor 82 = .ok (.invokevirtual 59, 3) := by decide +kernel
theorem dX3_putFactor_85 : decode cX3_putFactor 85 = .ok (.iload 5, 2) := by decide +kernel
theorem dX3_putFactor_87 : decode cX3_putFactor 87 = .ok (.iload_n 3, 1) := by decide +kernel
theorem dX3_putFactor_88 : decode cX3_putFactor 88 = .ok (.if_icmp .ne 5, 3) := by decide +kernel
theorem dX3_putFactor_91 : decode cX3_putFactor 91 = .ok (.iconst 1, 1) := by decide +kernel
theorem dX3_putFactor_92 : decode cX3_putFactor 92 = .ok (.ireturn, 1) := by decide +kernel
theorem dX3_putFactor_93 : decode cX3_putFactor 93 = .ok (.aload_n 0, 1) := by decide +kernel
theorem dX3_putFactor_94 : decode cX3_putFactor 94 = .ok (.getfield 32, 3) := by decide +kernel
theorem dX3_putFactor_97 : decode cX3_putFactor 97 = .ok (.aload 4, 2) := by decide +kernel
theorem dX3_putFactor_99 : decode cX3_putFactor 99 = .ok (.aload_n 1, 1) := by decide +kernel
theorem dX3_putFactor_100 : decode cX3_putFactor 100 = .ok (.iconst 0, 1) := by decide +kernel
theorem dX3_putFactor_101 : decode cX3_putFactor 101 = .ok (.invokevirtual 64, 3) := by decide +kernel
theorem dX3_putFactor_104 : decode cX3_putFactor 104 = .ok (.aload 4, 2) := by decide +kernel
theorem dX3_putFactor_106 : decode cX3_putFactor 106 = .ok (.aload_n 0, 1) := by decide +kernel
theorem dX3_putFactor_107 : decode cX3_putFactor 107 = .ok (.getfield 32, 3) := by decide +kernel
theorem dX3_putFactor_110 : decode cX3_putFactor 110 = .ok (.getfield 70, 3) := by decide +kernel
theorem dX3_putFactor_113 : decode cX3_putFactor 113 = .ok (.invokevirtual 39, 3) := by decide +kernel
theorem dX3_putFactor_116 : decode cX3_putFactor 116 = .ok (.iinc 5 1, 3) := by decide +kernel
theorem dX3_putFactor_119 : decode cX3_putFactor 119 = .ok (.goto (-102), 3) := by decide +kernel
theorem dX3_putFactor_122 : decode cX3_putFactor 122 = .ok (.iconst 0, 1) := by decide +kernel
theorem dX3_putFactor_123 : decode cX3_putFactor 123 = .ok (.ireturn, 1) := by decide +kernel
theorem dX3_chains_0 : decode cX3_chains 0 = .ok (.aload_n 1, 1) := by decide +kernel
theorem dX3_chains_1 : decode cX3_chains 1 = .ok (.invokevirtual 47, 3) := by decide +kernel
theorem dX3_chains_4 : decode cX3_chains 4 = .ok (.iconst 1, 1) := by decide +kernel
theorem dX3_chains_5 : decode cX3_chains 5 = .ok (.if_icmp .gt 5, 3) := by decide +kernel
theorem dX3_chains_8 : decode cX3_chains 8 = .ok (.iconst 1, 1) := by decide +kernel
theorem dX3_chains_9 : decode cX3_chains 9 = .ok (.ireturn, 1) := by decide +kernel
theorem dX3_chains_10 : decode cX3_chains 10 = .ok (.iload_n 2, 1) := by decide +kernel
theorem dX3_chains_11 : decode cX3_chains 11 = .ok (.ifCond .lt 9, 3) := by decide +kernel
theorem dX3_chains_14 : decode cX3_chains 14 = .ok (.iload_n 2, 1) := by decide +kernel
theorem dX3_chains_15 : decode cX3_chains 15 = .ok (.bipush 8, 2) := by decide +kernel
theorem dX3_chains_17 : decode cX3_chains 17 = .ok (.if_icmp .lt 5, 3) := by decide +kernel
theorem dX3_chains_20 : decode cX3_chains 20 = .ok (.iconst 0, 1) := by decide +kernel
theorem dX3_chains_21 : decode cX3_chains 21 = .ok (.ireturn, 1) := by decide +kernel
theorem dX3_chains_22 : decode cX3_chains 22 = .ok (.aload_n 0, 1) := by decide +kernel
theorem dX3_chains_23 : decode cX3_chains 23 = .ok (.getfield 11, 3) := by decide +kernel
theorem dX3_chains_26 : decode cX3_chains 26 = .ok (.iload_n 2, 1) := by decide +kernel
theorem dX3_chains_27 : decode cX3_chains 27 = .ok (.aaload, 1) := by decide +kernel
theorem dX3_chains_28 : decode cX3_chains 28 = .ok (.getfield 55, 3) := by decide +kernel
theorem dX3_chains_31 : decode cX3_chains 31 = .ok (.astore_n 3, 1) := by decide +kernel
theorem dX3_chains_32 : decode cX3_chains 32 = .ok (.aload_n 0, 1) := by decide +kernel
theorem dX3_chains_33 : decode cX3_chains 33 = .ok (.getfield 21, 3) := by decide +kernel
theorem dX3_chains_36 : decode cX3_chains 36 = .ok (.iload_n 2, 1) := by decide +kernel
theorem dX3_chains_37 : decode cX3_chains 37 = .ok (.aaload, 1) := by decide +kernel
theorem dX3_chains_38 : decode cX3_chains 38 = .ok (.astore 4, 2) := by decide +kernel
theorem dX3_chains_40 : decode cX3_chains 40 = .ok (.aload_n 0, 1) := by decide +kernel
theorem dX3_chains_41 : decode cX3_chains 41 = .ok (.getfield 11, 3) := by decide +kernel
theorem dX3_chains_44 : decode cX3_chains 44 = .ok (.iload_n 2, 1) := by decide +kernel
theorem dX3_chains_45 : decode cX3_chains 45 = .ok (.aaload, 1) := by decide +kernel
theorem dX3_chains_46 : decode cX3_chains 46 = .ok (.aload_n 1, 1) := by decide +kernel
theorem dX3_chains_47 : decode cX3_chains 47 = .ok (.iconst 0, 1) := by decide +kernel
theorem dX3_chains_48 : decode cX3_chains 48 = .ok (.invokevirtual 51, 3) := by decide +kernel
theorem dX3_chains_51 : decode cX3_chains 51 = .ok (.iconst 0, 1) := by decide +kernel
theorem dX3_chains_52 : decode cX3_chains 52 = .ok (.istore 5, 2) := by decide +kernel
theorem dX3_chains_54 : decode cX3_chains 54 = .ok (.iconst 0, 1) := by decide +kernel
theorem dX3_chains_55 : decode cX3_chains 55 = .ok (.istore 6, 2) := by decide +kernel
theorem dX3_chains_57 : decode cX3_chains 57 = .ok (.iload 6, 2) := by decide +kernel
theorem dX3_chains_59 : decode cX3_chains 59 = .ok (.aload_n 3, 1) := by decide +kernel
theorem dX3_chains_60 : decode cX3_chains 60 = .ok (.invokevirtual 73, 3) := by decide +kernel
theorem dX3_chains_63 : decode cX3_chains 63 = .ok (.if_icmp .ge 58, 3) := by decide +kernel
theorem dX3_chains_66 : decode cX3_chains 66 = .ok (.aload_n 3, 1) := by decide +kernel
theorem dX3_chains_67 : decode cX3_chains 67 = .ok (.aload_n 0, 1) := by decide +kernel
theorem dX3_chains_68 : decode cX3_chains 68 = .ok (.getfield 28, 3) := by decide +kernel
theorem dX3_chains_71 : decode cX3_chains 71 = .ok (.iload 6, 2) := by decide +kernel
theorem dX3_chains_73 : decode cX3_chains 73 = .ok (.invokevirtual 59, 3) := by decide +kernel
theorem dX3_chains_76 : decode cX3_chains 76 = .ok (.aload_n 0, 1) := by decide +kernel
theorem dX3_chains_77 : decode cX3_chains 77 = .ok (.getfield 32, 3) := by decide +kernel
theorem dX3_chains_80 : decode cX3_chains 80 = .ok (.aload_n 1, 1) := by decide +kernel
theorem dX3_chains_81 : decode cX3_chains 81 = .ok (.aload_n 0, 1) := by decide +kernel
theorem dX3_chains_82 : decode cX3_chains 82 = .ok (.getfield 28, 3) := by decide +kernel
theorem dX3_chains_85 : decode cX3_chains 85 = .ok (.iconst 0, 1) := by decide +kernel
theorem dX3_chains_86 : decode cX3_chains 86 = .ok (.invokevirtual 64, 3) := by decide +kernel
theorem dX3_chains_89 : decode cX3_chains 89 = .ok (.aload 4, 2) := by decide +kernel
theorem dX3_chains_91 : decode cX3_chains 91 = .ok (.aload_n 0, 1) := by decide +kernel
theorem dX3_chains_92 : decode cX3_chains 92 = .ok (.getfield 32, 3) := by decide +kernel
theorem dX3_chains_95 : decode cX3_chains 95 = .ok (.getfield 70, 3) := by decide +kernel
theorem dX3_chains_98 : decode cX3_chains 98 = .ok (.invokevirtual 39, 3) := by decide +kernel
theorem dX3_chains_101 : decode cX3_chains 101 = .ok (.iload 5, 2) := by decide +kernel
theorem dX3_chains_103 : decode cX3_chains 103 = .ok (.aload_n 0, 1) := by decide +kernel
theorem dX3_chains_104 : decode cX3_chains 104 = .ok (.aload 4, 2) := by decide +kernel
theorem dX3_chains_106 : decode cX3_chains 106 = .ok (.iload_n 2, 1) := by decide +kernel
theorem dX3_chains_107 : decode cX3_chains 107 = .ok (.iconst 1, 1) := by decide +kernel
theorem dX3_chains_108 : decode cX3_chains 108 = .ok (.iadd, 1) := by decide +kernel
theorem dX3_chains_109 : decode cX3_chains 109 = .ok (.invokestatic 76, 3) := by decide +kernel
theorem dX3_chains_112 : decode cX3_chains 112 = .ok (.iadd, 1) := by decide +kernel
theorem dX3_chains_113 : decode cX3_chains 113 = .ok (.istore 5, 2) := by decide +kernel
theorem dX3_chains_115 : decode cX3_chains 115 = .ok (.iinc 6 1, 3) := by decide +kernel
theorem dX3_chains_118 : decode cX3_chains 118 = .ok (.goto (-61), 3) := by decide +kernel
theorem dX3_chains_121 : decode cX3_chains 121 = .ok (.iload 5, 2) := by decide +kernel
theorem dX3_chains_123 : decode cX3_chains 123 = .ok (.ireturn, 1) := by decide +kernel
theorem dX4_init_0 : decode cX4_init 0 = .ok (.aload_n 0, 1) := by decide +kernel
theorem dX4_init_1 : decode cX4_init 1 = .ok (.invokespecial 3, 3) := by decide +kernel
theorem dX4_init_4 : decode cX4_init 4 = .ok (.aload_n 0, 1) := by decide +kernel
theorem dX4_init_5 : decode cX4_init 5 = .ok (.bipush 8, 2) := by decide +kernel
theorem dX4_init_7 : decode cX4_init 7 = .ok (.newarray .int, 2) := by decide +kernel
theorem dX4_init_9 : decode cX4_init 9 = .ok (.putfield 11, 3) := by decide +kernel
theorem dX4_init_12 : decode cX4_init 12 = .ok (.aload_n 0, 1) := by decide +kernel
theorem dX4_init_13 : decode cX4_init 13 = .ok (.bipush 8, 2) := by decide +kernel
theorem dX4_init_15 : decode cX4_init 15 = .ok (.invokestatic 15, 3) := by decide +kernel
theorem dX4_init_18 : decode cX4_init 18 = .ok (.putfield 19, 3) := by decide +kernel
theorem dX4_init_21 : decode cX4_init 21 = .ok (.aload_n 0, 1) := by decide +kernel
theorem dX4_init_22 : decode cX4_init 22 = .ok (.iconst 0, 1) := by decide +kernel
theorem dX4_init_23 : decode cX4_init 23 = .ok (.putfield 23, 3) := by decide +kernel
theorem dX4_init_26 : decode cX4_init 26 = .ok (.aload_n 0, 1) := by decide +kernel
theorem dX4_init_27 : decode cX4_init 27 = .ok (.iconst 0, 1) := by decide +kernel
theorem dX4_init_28 : decode cX4_init 28 = .ok (.putfield 27, 3) := by decide +kernel
theorem dX4_init_31 : decode cX4_init 31 = .ok (.return_, 1) := by decide +kernel
theorem dX4_clear_0 : decode cX4_clear 0 = .ok (.aload_n 0, 1) := by decide +kernel
theorem dX4_clear_1 : decode cX4_clear 1 = .ok (.iconst 0, 1) := by decide +kernel
theorem dX4_clear_2 : decode cX4_clear 2 = .ok (.putfield 27, 3) := by decide +kernel
theorem dX4_clear_5 : decode cX4_clear 5 = .ok (.return_, 1) := by decide +kernel
theorem dX4_size_0 : decode cX4_size 0 = .ok (.aload_n 0, 1) := by decide +kernel
theorem dX4_size_1 : decode cX4_size 1 = .ok (.getfield 27, 3) := by decide +kernel
theorem dX4_size_4 : decode cX4_size 4 = .ok (.ireturn, 1) := by decide +kernel
theorem dX4_append_0 : decode cX4_append 0 = .ok (.aload_n 0, 1) := by decide +kernel
theorem dX4_append_1 : decode cX4_append 1 = .ok (.getfield 23, 3) := by decide +kernel
theorem dX4_append_4 : decode cX4_append 4 = .ok (.aload_n 0, 1) := by decide +kernel
theorem dX4_append_5 : decode cX4_append 5 = .ok (.getfield 27, 3) := by decide +kernel
theorem dX4_append_8 : decode cX4_append 8 = .ok (.iadd, 1) := by decide +kernel
theorem dX4_append_9 : decode cX4_append 9 = .ok (.bipush 8, 2) := by decide +kernel
theorem dX4_append_11 : decode cX4_append 11 = .ok (.invokestatic 30, 3) := by decide +kernel
theorem dX4_append_14 : decode cX4_append 14 = .ok (.istore_n 3, 1) := by decide +kernel
theorem dX4_append_15 : decode cX4_append 15 = .ok (.aload_n 0, 1) := by decide +kernel
theorem dX4_append_16 : decode cX4_append 16 = .ok (.getfield 11, 3) := by decide +kernel
theorem dX4_append_19 : decode cX4_append 19 = .ok (.iload_n 3, 1) := by decide +kernel
theorem dX4_append_20 : decode cX4_append 20 = .ok (.iload_n 1, 1) := by decide +kernel
theorem dX4_append_21 : decode cX4_append 21 = .ok (.iastore, 1) := by decide +kernel
theorem dX4_append_22 : decode cX4_append 22 = .ok (.aload_n 0, 1) := by decide +kernel
theorem dX4_append_23 : decode cX4_append 23 = .ok (.getfield 19, 3) := by decide +kernel
theorem dX4_append_26 : decode cX4_append 26 = .ok (.iload_n 3, 1) := by decide +kernel
theorem dX4_append_27 : decode cX4_append 27 = .ok (.aaload, 1) := by decide +kernel
theorem dX4_append_28 : decode cX4_append 28 = .ok (.aload_n 2, 1) := by decide +kernel
theorem dX4_append_29 : decode cX4_append 29 = .ok (.invokevirtual 36, 3) := by decide +kernel
theorem dX4_append_32 : decode cX4_append 32 = .ok (.aload_n 0, 1) := by decide +kernel
theorem dX4_append_33 : decode cX4_append 33 = .ok (.getfield 27, 3) := by decide +kernel
theorem dX4_append_36 : decode cX4_append 36 = .ok (.bipush 8, 2) := by decide +kernel
theorem dX4_append_38 : decode cX4_append 38 = .ok (.if_icmp .ge 16, 3) := by decide +kernel
theorem dX4_append_41 : decode cX4_append 41 = .ok (.aload_n 0, 1) := by decide +kernel
theorem dX4_append_42 : decode cX4_append 42 = .ok (.dup, 1) := by decide +kernel
theorem dX4_append_43 : decode cX4_append 43 = .ok (.getfield 27, 3) := by decide +kernel
theorem dX4_append_46 : decode cX4_append 46 = .ok (.iconst 1, 1) := by decide +kernel
theorem dX4_append_47 : decode cX4_append 47 = .ok (.iadd, 1) := by decide +kernel
theorem dX4_append_48 : decode cX4_append 48 = .ok (.putfield 27, 3) := by decide +kernel
theorem dX4_append_51 : decode cX4_append 51 = .ok (.goto 18, 3) := by decide +kernel
theorem dX4_append_54 : decode cX4_append 54 = .ok (.aload_n 0, 1) := by decide +kernel
theorem dX4_append_55 : decode cX4_append 55 = .ok (.aload_n 0, 1) := by decide +kernel
theorem dX4_append_56 : decode cX4_append 56 = .ok (.getfield 23, 3) := by decide +kernel
theorem dX4_append_59 : decode cX4_append 59 = .ok (.iconst 1, 1) := by decide +kernel
theorem dX4_append_60 : decode cX4_append 60 = .ok (.iadd, 1) := by decide +kernel
theorem dX4_append_61 : decode cX4_append 61 = .ok (.bipush 8, 2) := by decide +kernel
theorem dX4_append_63 : decode cX4_append 63 = .ok (.invokestatic 30, 3) := by decide +kernel
theorem dX4_append_66 : decode cX4_append 66 = .ok (.putfield 23, 3) := by decide +kernel
theorem dX4_append_69 : decode cX4_append 69 = .ok (.return_, 1) := by decide +kernel
theorem dX4_takeLast_0 : decode cX4_takeLast 0 = .ok (.aload_n 0, 1) := by decide +kernel
theorem dX4_takeLast_1 : decode cX4_takeLast 1 = .ok (.getfield 27, 3) := by decide +kernel
theorem dX4_takeLast_4 : decode cX4_takeLast 4 = .ok (.ifCond .gt 5, 3) := by decide +kernel
theorem dX4_takeLast_7 : decode cX4_takeLast 7 = .ok (.iconst (-1), 1) := by decide +kernel
theorem dX4_takeLast_8 : decode cX4_takeLast 8 = .ok (.ireturn, 1) := by decide +kernel
theorem dX4_takeLast_9 : decode cX4_takeLast 9 = .ok (.aload_n 0, 1) := by decide +kernel
theorem dX4_takeLast_10 : decode cX4_takeLast 10 = .ok (.dup, 1) := by decide +kernel
theorem dX4_takeLast_11 : decode cX4_takeLast 11 = .ok (.getfield 27, 3) := by decide +kernel
theorem dX4_takeLast_14 : decode cX4_takeLast 14 = .ok (.iconst 1, 1) := by decide +kernel
theorem dX4_takeLast_15 : decode cX4_takeLast 15 = .ok (.isub, 1) := by decide +kernel
theorem dX4_takeLast_16 : decode cX4_takeLast 16 = .ok (.putfield 27, 3) := by decide +kernel
theorem dX4_takeLast_19 : decode cX4_takeLast 19 = .ok (.aload_n 0, 1) := by decide +kernel
theorem dX4_takeLast_20 : decode cX4_takeLast 20 = .ok (.getfield 23, 3) := by decide +kernel
theorem dX4_takeLast_23 : decode cX4_takeLast 23 = .ok (.aload_n 0, 1) := by decide +kernel
theorem dX4_takeLast_24 : decode cX4_takeLast 24 = .ok (.getfield 27, 3) := by decide +kernel
theorem dX4_takeLast_27 : decode cX4_takeLast 27 = .ok (.iadd, 1) := by decide +kernel
theorem dX4_takeLast_28 : decode cX4_takeLast 28 = .ok (.bipush 8, 2) := by decide +kernel
theorem dX4_takeLast_30 : decode cX4_takeLast 30 = .ok (.invokestatic 30, 3) := by decide +kernel
theorem dX4_takeLast_33 : decode cX4_takeLast 33 = .ok (.istore_n 2, 1) := by decide +kernel
theorem dX4_takeLast_34 : decode cX4_takeLast 34 = .ok (.aload_n 1, 1) := by decide +kernel
theorem dX4_takeLast_35 : decode cX4_takeLast 35 = .ok (.aload_n 0, 1) := by decide +kernel
theorem dX4_takeLast_36 : decode cX4_takeLast 36 = .ok (.getfield 19, 3) := by decide +kernel
theorem dX4_takeLast_39 : decode cX4_takeLast 39 = .ok (.iload_n 2, 1) := by decide +kernel
theorem dX4_takeLast_40 : decode cX4_takeLast 40 = .ok (.aaload, 1) := by decide +kernel
theorem dX4_takeLast_41 : decode cX4_takeLast 41 = .ok (.invokevirtual 36, 3) := by decide +kernel
theorem dX4_takeLast_44 : decode cX4_takeLast 44 = .ok (.aload_n 0, 1) := by decide +kernel
theorem dX4_takeLast_45 : decode cX4_takeLast 45 = .ok (.getfield 11, 3) := by decide +kernel
theorem dX4_takeLast_48 : decode cX4_takeLast 48 = .ok (.iload_n 2, 1) := by decide +kernel
theorem dX4_takeLast_49 : decode cX4_takeLast 49 = .ok (.iaload, 1) := by decide +kernel
theorem dX4_takeLast_50 : decode cX4_takeLast 50 = .ok (.ireturn, 1) := by decide +kernel
theorem dX5_init_0 : decode cX5_init 0 = .ok (.aload_n 0, 1) := by decide +kernel
theorem dX5_init_1 : decode cX5_init 1 = .ok (.invokespecial 3, 3) := by decide +kernel
theorem dX5_init_4 : decode cX5_init 4 = .ok (.aload_n 0, 1) := by decide +kernel
theorem dX5_init_5 : decode cX5_init 5 = .ok (.new 9, 3) := by decide +kernel
theorem dX5_init_8 : decode cX5_init 8 = .ok (.dup, 1) := by decide +kernel
theorem dX5_init_9 : decode cX5_init 9 = .ok (.bipush 16, 2) := by decide +kernel
theorem dX5_init_11 : decode cX5_init 11 = .ok (.invokespecial 13, 3) := by decide +kernel
theorem dX5_init_14 : decode cX5_init 14 = .ok (.putfield 16, 3) := by decide +kernel
theorem dX5_init_17 : decode cX5_init 17 = .ok (.aload_n 0, 1) := by decide +kernel
theorem dX5_init_18 : decode cX5_init 18 = .ok (.new 20, 3) := by decide +kernel
theorem dX5_init_21 : decode cX5_init 21 = .ok (.dup, 1) := by decide +kernel
theorem dX5_init_22 : decode cX5_init 22 = .ok (.invokespecial 22, 3) := by decide +kernel
theorem dX5_init_25 : decode cX5_init 25 = .ok (.putfield 23, 3) := by decide +kernel
theorem dX5_init_28 : decode cX5_init 28 = .ok (.aload_n 0, 1) := by decide +kernel
theorem dX5_init_29 : decode cX5_init 29 = .ok (.aload_n 1, 1) := by decide +kernel
theorem dX5_init_30 : decode cX5_init 30 = .ok (.putfield 27, 3) := by decide +kernel
theorem dX5_init_33 : decode cX5_init 33 = .ok (.aload_n 0, 1) := by decide +kernel
theorem dX5_init_34 : decode cX5_init 34 = .ok (.aload_n 2, 1) := by decide +kernel
theorem dX5_init_35 : decode cX5_init 35 = .ok (.putfield 31, 3) := by decide +kernel
theorem dX5_init_38 : decode cX5_init 38 = .ok (.return_, 1) := by decide +kernel
theorem dX5_gather_0 : decode cX5_gather 0 = .ok (.aload_n 0, 1) := by decide +kernel
theorem dX5_gather_1 : decode cX5_gather 1 = .ok (.getfield 16, 3) := by decide +kernel
theorem dX5_gather_4 : decode cX5_gather 4 = .ok (.invokevirtual 35, 3) := by decide +kernel
theorem dX5_gather_7 : decode cX5_gather 7 = .ok (.aload_n 1, 1) := by decide +kernel
theorem dX5_gather_8 : decode cX5_gather 8 = .ok (.invokevirtual 38, 3) := by decide +kernel
theorem dX5_gather_11 : decode cX5_gather 11 = .ok (.istore_n 3, 1) := by decide +kernel
theorem dX5_gather_12 : decode cX5_gather 12 = .ok (.iconst 2, 1) := by decide +kernel
theorem dX5_gather_13 : decode cX5_gather 13 = .ok (.istore 4, 2) := by decide +kernel
theorem dX5_gather_15 : decode cX5_gather 15 = .ok (.iload 4, 2) := by decide +kernel
theorem dX5_gather_17 : decode cX5_gather 17 = .ok (.sipush 150, 3) := by decide +kernel
theorem dX5_gather_20 : decode cX5_gather 20 = .ok (.if_icmp .gt 65, 3) := by decide +kernel
theorem dX5_gather_23 : decode cX5_gather 23 = .ok (.iload_n 3, 1) := by decide +kernel
theorem dX5_gather_24 : decode cX5_gather 24 = .ok (.iconst 1, 1) := by decide +kernel
theorem dX5_gather_25 : decode cX5_gather 25 = .ok (.if_icmp .le 60, 3) := by decide +kernel
theorem dX5_gather_28 : decode cX5_gather 28 = .ok (.iload_n 3, 1) := by decide +kernel
theorem dX5_gather_29 : decode cX5_gather 29 = .ok (.iload 4, 2) := by decide +kernel
theorem dX5_gather_31 : decode cX5_gather 31 = .ok (.irem, 1) := by decide +kernel
theorem dX5_gather_32 : decode cX5_gather 32 = .ok (.ifCond .ne 19, 3) := by decide +kernel
theorem dX5_gather_35 : decode cX5_gather 35 = .ok (.aload_n 0, 1) := by decide +kernel
theorem dX5_gather_36 : decode cX5_gather 36 = .ok (.getfield 27, 3) := by decide +kernel
theorem dX5_gather_39 : decode cX5_gather 39 = .ok (.iload 4, 2) := by decide +kernel
theorem dX5_gather_41 : decode cX5_gather 41 = .ok (.iload_n 2, 1) := by decide +kernel
theorem dX5_gather_42 : decode cX5_gather 42 = .ok (.invokevirtual 42, 3) := by decide +kernel
theorem dX5_gather_45 : decode cX5_gather 45 = .ok (.aload_n 0, 1) := by decide +kernel
theorem dX5_gather_46 : decode cX5_gather 46 = .ok (.aload_n 1, 1) := by decide +kernel
theorem dX5_gather_47 : decode cX5_gather 47 = .ok (.iload_n 2, 1) := by decide +kernel
theorem dX5_gather_48 : decode cX5_gather 48 = .ok (.invokevirtual 48, 3) := by decide +kernel
theorem dX5_gather_51 : decode cX5_gather 51 = .ok (.iconst 0, 1) := by decide +kernel
theorem dX5_gather_52 : decode cX5_gather 52 = .ok (.istore 5, 2) := by decide +kernel
theorem dX5_gather_54 : decode cX5_gather 54 = .ok (.iload 5, 2) := by decide +kernel
theorem dX5_gather_56 : decode cX5_gather 56 = .ok (.bipush 8, 2) := by decide +kernel
theorem dX5_gather_58 : decode cX5_gather 58 = .ok (.if_icmp .ge 21, 3) := by decide +kernel
theorem dX5_gather_61 : decode cX5_gather 61 = .ok (.iload_n 3, 1) := by decide +kernel
theorem dX5_gather_62 : decode cX5_gather 62 = .ok (.iload 4, 2) := by decide +kernel
theorem dX5_gather_64 : decode cX5_gather 64 = .ok (.irem, 1) := by decide +kernel
theorem dX5_gather_65 : decode cX5_gather 65 = .ok (.ifCond .ne 14, 3) := by decide +kernel
theorem dX5_gather_68 : decode cX5_gather 68 = .ok (.iload_n 3, 1) := by decide +kernel
theorem dX5_gather_69 : decode cX5_gather 69 = .ok (.iload 4, 2) := by decide +kernel
theorem dX5_gather_71 : decode cX5_gather 71 = .ok (.idiv, 1) := by decide +kernel
theorem dX5_gather_72 : decode cX5_gather 72 = .ok (.istore_n 3, 1) := by decide +kernel
theorem dX5_gather_73 : decode cX5_gather 73 = .ok (.iinc 5 1, 3) := by decide +kernel
theorem dX5_gather_76 : decode cX5_gather 76 = .ok (.goto (-22), 3) := by decide +kernel
theorem dX5_gather_79 : decode cX5_gather 79 = .ok (.iinc 4 1, 3) := by decide +kernel
theorem dX5_gather_82 : decode cX5_gather 82 = .ok (.goto (-67), 3) := by decide +kernel
theorem dX5_gather_85 : decode cX5_gather 85 = .ok (.return_, 1) := by decide +kernel
theorem dX5_takeDivisors_0 : decode cX5_takeDivisors 0 = .ok (.aload_n 0, 1) := by decide +kernel
theorem dX5_takeDivisors_1 : decode cX5_takeDivisors 1 = .ok (.getfield 27, 3) := by decide +kernel
theorem dX5_takeDivisors_4 : decode cX5_takeDivisors 4 = .ok (.getfield 52, 3) := by decide +kernel
theorem dX5_takeDivisors_7 : decode cX5_takeDivisors 7 = .ok (.invokevirtual 53, 3) := by decide +kernel
theorem dX5_takeDivisors_10 : decode cX5_takeDivisors 10 = .ok (.istore_n 3, 1) := by decide +kernel
theorem dX5_takeDivisors_11 : decode cX5_takeDivisors 11 = .ok (.iconst 0, 1) := by decide +kernel
theorem dX5_takeDivisors_12 : decode cX5_takeDivisors 12 = .ok (.istore 4, 2) := by decide +kernel
theorem dX5_takeDivisors_14 : decode cX5_takeDivisors 14 = .ok (.iload 4, 2) := by decide +kernel
theorem dX5_takeDivisors_16 : decode cX5_takeDivisors 16 = .ok (.iload_n 3, 1) := by decide +kernel
theorem dX5_takeDivisors_17 : decode cX5_takeDivisors 17 = .ok (.if_icmp .ge 76, 3) := by decide +kernel
theorem dX5_takeDivisors_20 : decode cX5_takeDivisors 20 = .ok (.aload_n 0, 1) := by decide +kernel
theorem dX5_takeDivisors_21 : decode cX5_takeDivisors 21 = .ok (.getfield 27, 3) := by decide +kernel
theorem dX5_takeDivisors_24 : decode cX5_takeDivisors 24 = .ok (.getfield 52, 3) := by decide +kernel
theorem dX5_takeDivisors_27 : decode cX5_takeDivisors 27 = .ok (.aload_n 0, 1) := by decide +kernel
theorem dX5_takeDivisors_28 : decode cX5_takeDivisors 28 = .ok (.getfield 23, 3) := by decide +kernel
theorem dX5_takeDivisors_31 : decode cX5_takeDivisors 31 = .ok (.iload 4, 2) := by decide +kernel
theorem dX5_takeDivisors_33 : decode cX5_takeDivisors 33 = .ok (.invokevirtual 56, 3) := by decide +kernel
theorem dX5_takeDivisors_36 : decode cX5_takeDivisors 36 = .ok (.aload_n 0, 1) := by decide +kernel
theorem dX5_takeDivisors_37 : decode cX5_takeDivisors 37 = .ok (.getfield 31, 3) := by decide +kernel
theorem dX5_takeDivisors_40 : decode cX5_takeDivisors 40 = .ok (.aload_n 0, 1) := by decide +kernel
theorem dX5_takeDivisors_41 : decode cX5_takeDivisors 41 = .ok (.getfield 23, 3) := by decide +kernel
theorem dX5_takeDivisors_44 : decode cX5_takeDivisors 44 = .ok (.aload_n 1, 1) := by decide +kernel
theorem dX5_takeDivisors_45 : decode cX5_takeDivisors 45 = .ok (.iload_n 2, 1) := by decide +kernel
theorem dX5_takeDivisors_46 : decode cX5_takeDivisors 46 = .ok (.invokevirtual 59, 3) := by decide +kernel
theorem dX5_takeDivisors_49 : decode cX5_takeDivisors 49 = .ok (.ifCond .eq 38, 3) := by decide +kernel
theorem dX5_takeDivisors_52 : decode cX5_takeDivisors 52 = .ok (.aload_n 0, 1) := by decide +kernel
theorem dX5_takeDivisors_53 : decode cX5_takeDivisors 53 = .ok (.getfield 16, 3) := by decide +kernel
theorem dX5_takeDivisors_56 : decode cX5_takeDivisors 56 = .ok (.aload_n 0, 1) := by decide +kernel
theorem dX5_takeDivisors_57 : decode cX5_takeDivisors 57 = .ok (.getfield 23, 3) := by decide +kernel
theorem dX5_takeDivisors_60 : decode cX5_takeDivisors 60 = .ok (.getfield 65, 3) := by decide +kernel
theorem dX5_takeDivisors_63 : decode cX5_takeDivisors 63 = .ok (.aload_n 0, 1) := by decide +kernel
theorem dX5_takeDivisors_64 : decode cX5_takeDivisors 64 = .ok (.getfield 23, 3) := by decide +kernel
theorem dX5_takeDivisors_67 : decode cX5_takeDivisors 67 = .ok (.getfield 69, 3) := by decide +kernel
theorem dX5_takeDivisors_70 : decode cX5_takeDivisors 70 = .ok (.aload_n 0, 1) := by decide +kernel
theorem dX5_takeDivisors_71 : decode cX5_takeDivisors 71 = .ok (.getfield 23, 3) := by decide +kernel
theorem dX5_takeDivisors_74 : decode cX5_takeDivisors 74 = .ok (.getfield 72, 3) := by decide +kernel
theorem dX5_takeDivisors_77 : decode cX5_takeDivisors 77 = .ok (.aload_n 0, 1) := by decide +kernel
theorem dX5_takeDivisors_78 : decode cX5_takeDivisors 78 = .ok (.getfield 23, 3) := by decide +kernel
theorem dX5_takeDivisors_81 : decode cX5_takeDivisors 81 = .ok (.getfield 75, 3) := by decide +kernel
theorem dX5_takeDivisors_84 : decode cX5_takeDivisors 84 = .ok (.invokevirtual 78, 3) := by decide +kernel
theorem dX5_takeDivisors_87 : decode cX5_takeDivisors 87 = .ok (.iinc 4 1, 3) := by decide +kernel
theorem dX5_takeDivisors_90 : decode cX5_takeDivisors 90 = .ok (.goto (-76), 3) := by decide +kernel
theorem dX5_takeDivisors_93 : decode cX5_takeDivisors 93 = .ok (.return_, 1) := by decide +kernel
theorem dX6_init_0 : decode cX6_init 0 = .ok (.aload_n 0, 1) := by decide +kernel
theorem dX6_init_1 : decode cX6_init 1 = .ok (.invokespecial 3, 3) := by decide +kernel
theorem dX6_init_4 : decode cX6_init 4 = .ok (.return_, 1) := by decide +kernel
theorem dX6_put_0 : decode cX6_put 0 = .ok (.aload_n 0, 1) := by decide +kernel
theorem dX6_put_1 : decode cX6_put 1 = .ok (.iload_n 1, 1) := by decide +kernel
theorem dX6_put_2 : decode cX6_put 2 = .ok (.putfield 9, 3) := by decide +kernel
theorem dX6_put_5 : decode cX6_put 5 = .ok (.aload_n 0, 1) := by decide +kernel
theorem dX6_put_6 : decode cX6_put 6 = .ok (.iload_n 2, 1) := by decide +kernel
theorem dX6_put_7 : decode cX6_put 7 = .ok (.putfield 15, 3) := by decide +kernel
theorem dX6_put_10 : decode cX6_put 10 = .ok (.aload_n 0, 1) := by decide +kernel
theorem dX6_put_11 : decode cX6_put 11 = .ok (.iload_n 3, 1) := by decide +kernel
theorem dX6_put_12 : decode cX6_put 12 = .ok (.putfield 18, 3) := by decide +kernel
theorem dX6_put_15 : decode cX6_put 15 = .ok (.aload_n 0, 1) := by decide +kernel
theorem dX6_put_16 : decode cX6_put 16 = .ok (.iload 4, 2) := by decide +kernel
theorem dX6_put_18 : decode cX6_put 18 = .ok (.putfield 21, 3) := by decide +kernel
theorem dX6_put_21 : decode cX6_put 21 = .ok (.return_, 1) := by decide +kernel
theorem dX6_copyFrom_0 : decode cX6_copyFrom 0 = .ok (.aload_n 0, 1) := by decide +kernel
theorem dX6_copyFrom_1 : decode cX6_copyFrom 1 = .ok (.aload_n 1, 1) := by decide +kernel
theorem dX6_copyFrom_2 : decode cX6_copyFrom 2 = .ok (.getfield 9, 3) := by decide +kernel
theorem dX6_copyFrom_5 : decode cX6_copyFrom 5 = .ok (.aload_n 1, 1) := by decide +kernel
theorem dX6_copyFrom_6 : decode cX6_copyFrom 6 = .ok (.getfield 15, 3) := by decide +kernel
theorem dX6_copyFrom_9 : decode cX6_copyFrom 9 = .ok (.aload_n 1, 1) := by decide +kernel
theorem dX6_copyFrom_10 : decode cX6_copyFrom 10 = .ok (.getfield 18, 3) := by decide +kernel
theorem dX6_copyFrom_13 : decode cX6_copyFrom 13 = .ok (.aload_n 1, 1) := by decide +kernel
theorem dX6_copyFrom_14 : decode cX6_copyFrom 14 = .ok (.getfield 21, 3) := by decide +kernel
theorem dX6_copyFrom_17 : decode cX6_copyFrom 17 = .ok (.invokevirtual 24, 3) := by decide +kernel
theorem dX6_copyFrom_20 : decode cX6_copyFrom 20 = .ok (.return_, 1) := by decide +kernel
theorem dX6_putUnit_0 : decode cX6_putUnit 0 = .ok (.iload_n 1, 1) := by decide +kernel
theorem dX6_putUnit_1 : decode cX6_putUnit 1 = .ok (.invokestatic 28, 3) := by decide +kernel
theorem dX6_putUnit_4 : decode cX6_putUnit 4 = .ok (.ifCond .eq 37, 3) := by decide +kernel
theorem dX6_putUnit_7 : decode cX6_putUnit 7 = .ok (.iconst 4, 1) := by decide +kernel
theorem dX6_putUnit_8 : decode cX6_putUnit 8 = .ok (.iload_n 1, 1) := by decide +kernel
theorem dX6_putUnit_9 : decode cX6_putUnit 9 = .ok (.imul, 1) := by decide +kernel
theorem dX6_putUnit_10 : decode cX6_putUnit 10 = .ok (.istore_n 2, 1) := by decide +kernel
theorem dX6_putUnit_11 : decode cX6_putUnit 11 = .ok (.aload_n 0, 1) := by decide +kernel
theorem dX6_putUnit_12 : decode cX6_putUnit 12 = .ok (.getstatic 32, 3) := by decide +kernel
theorem dX6_putUnit_15 : decode cX6_putUnit 15 = .ok (.iload_n 2, 1) := by decide +kernel
theorem dX6_putUnit_16 : decode cX6_putUnit 16 = .ok (.iaload, 1) := by decide +kernel
theorem dX6_putUnit_17 : decode cX6_putUnit 17 = .ok (.getstatic 32, 3) := by decide +kernel
theorem dX6_putUnit_20 : decode cX6_putUnit 20 = .ok (.iload_n 2, 1) := by decide +kernel
theorem dX6_putUnit_21 : decode cX6_putUnit 21 = .ok (.iconst 1, 1) := by decide +kernel
theorem dX6_putUnit_22 : decode cX6_putUnit 22 = .ok (.iadd, 1) := by decide +kernel
theorem dX6_putUnit_23 : decode cX6_putUnit 23 = .ok (.iaload, 1) := by decide +kernel
theorem dX6_putUnit_24 : decode cX6_putUnit 24 = .ok (.getstatic 32, 3) := by decide +kernel
theorem dX6_putUnit_27 : decode cX6_putUnit 27 = .ok (.iload_n 2, 1) := by decide +kernel
theorem dX6_putUnit_28 : decode cX6_putUnit 28 = .ok (.iconst 2, 1) := by decide +kernel
theorem dX6_putUnit_29 : decode cX6_putUnit 29 = .ok (.iadd, 1) := by decide +kernel
theorem dX6_putUnit_30 : decode cX6_putUnit 30 = .ok (.iaload, 1) := by decide +kernel
theorem dX6_putUnit_31 : decode cX6_putUnit 31 = .ok (.getstatic 32, 3) := by decide +kernel
theorem dX6_putUnit_34 : decode cX6_putUnit 34 = .ok (.iload_n 2, 1) := by decide +kernel
theorem dX6_putUnit_35 : decode cX6_putUnit 35 = .ok (.iconst 3, 1) := by decide +kernel
theorem dX6_putUnit_36 : decode cX6_putUnit 36 = .ok (.iadd, 1) := by decide +kernel
theorem dX6_putUnit_37 : decode cX6_putUnit 37 = .ok (.iaload, 1) := by decide +kernel
theorem dX6_putUnit_38 : decode cX6_putUnit 38 = .ok (.invokevirtual 24, 3) := by decide +kernel
theorem dX6_putUnit_41 : decode cX6_putUnit 41 = .ok (.return_, 1) := by decide +kernel
theorem dX6_part_0 : decode cX6_part 0 = .ok (.iload_n 1, 1) := by decide +kernel
theorem dX6_part_1 : decode cX6_part 1 = .ok (.tableswitch 42 0 2 #[27, 32, 37], 27) := by decide +kernel
theorem dX6_part_28 : decode cX6_part 28 = .ok (.aload_n 0, 1) := by decide +kernel
theorem dX6_part_29 : decode cX6_part 29 = .ok (.getfield 9, 3) := by decide +kernel
theorem dX6_part_32 : decode cX6_part 32 = .ok (.ireturn, 1) := by decide +kernel
theorem dX6_part_33 : decode cX6_part 33 = .ok (.aload_n 0, 1) := by decide +kernel
theorem dX6_part_34 : decode cX6_part 34 = .ok (.getfield 15, 3) := by decide +kernel
theorem dX6_part_37 : decode cX6_part 37 = .ok (.ireturn, 1) := by decide +kernel
theorem dX6_part_38 : decode cX6_part 38 = .ok (.aload_n 0, 1) := by decide +kernel
theorem dX6_part_39 : decode cX6_part 39 = .ok (.getfield 18, 3) := by decide +kernel
theorem dX6_part_42 : decode cX6_part 42 = .ok (.ireturn, 1) := by decide +kernel
theorem dX6_part_43 : decode cX6_part 43 = .ok (.aload_n 0, 1) := by decide +kernel
theorem dX6_part_44 : decode cX6_part 44 = .ok (.getfield 21, 3) := by decide +kernel
theorem dX6_part_47 : decode cX6_part 47 = .ok (.ireturn, 1) := by decide +kernel
theorem dX6_norm_0 : decode cX6_norm 0 = .ok (.aload_n 0, 1) := by decide +kernel
theorem dX6_norm_1 : decode cX6_norm 1 = .ok (.getfield 9, 3) := by decide +kernel
theorem dX6_norm_4 : decode cX6_norm 4 = .ok (.aload_n 0, 1) := by decide +kernel
theorem dX6_norm_5 : decode cX6_norm 5 = .ok (.getfield 9, 3) := by decide +kernel
theorem dX6_norm_8 : decode cX6_norm 8 = .ok (.imul, 1) := by decide +kernel
theorem dX6_norm_9 : decode cX6_norm 9 = .ok (.aload_n 0, 1) := by decide +kernel
theorem dX6_norm_10 : decode cX6_norm 10 = .ok (.getfield 15, 3) := by decide +kernel
theorem dX6_norm_13 : decode cX6_norm 13 = .ok (.aload_n 0, 1) := by decide +kernel
theorem dX6_norm_14 : decode cX6_norm 14 = .ok (.getfield 15, 3) := by decide +kernel
theorem dX6_norm_17 : decode cX6_norm 17 = .ok (.imul, 1) := by decide +kernel
theorem dX6_norm_18 : decode cX6_norm 18 = .ok (.iadd, 1) := by decide +kernel
theorem dX6_norm_19 : decode cX6_norm 19 = .ok (.aload_n 0, 1) := by decide +kernel
theorem dX6_norm_20 : decode cX6_norm 20 = .ok (.getfield 18, 3) := by decide +kernel
theorem dX6_norm_23 : decode cX6_norm 23 = .ok (.aload_n 0, 1) := by decide +kernel
theorem dX6_norm_24 : decode cX6_norm 24 = .ok (.getfield 18, 3) := by decide +kernel
theorem dX6_norm_27 : decode cX6_norm 27 = .ok (.imul, 1) := by decide +kernel
theorem dX6_norm_28 : decode cX6_norm 28 = .ok (.iadd, 1) := by decide +kernel
theorem dX6_norm_29 : decode cX6_norm 29 = .ok (.aload_n 0, 1) := by decide +kernel
theorem dX6_norm_30 : decode cX6_norm 30 = .ok (.getfield 21, 3) := by decide +kernel
theorem dX6_norm_33 : decode cX6_norm 33 = .ok (.aload_n 0, 1) := by decide +kernel
theorem dX6_norm_34 : decode cX6_norm 34 = .ok (.getfield 21, 3) := by decide +kernel
theorem dX6_norm_37 : decode cX6_norm 37 = .ok (.imul, 1) := by decide +kernel
theorem dX6_norm_38 : decode cX6_norm 38 = .ok (.iadd, 1) := by decide +kernel
theorem dX6_norm_39 : decode cX6_norm 39 = .ok (.iconst 4, 1) := by decide +kernel
theorem dX6_norm_40 : decode cX6_norm 40 = .ok (.idiv, 1) := by decide +kernel
theorem dX6_norm_41 : decode cX6_norm 41 = .ok (.ireturn, 1) := by decide +kernel
theorem dX6_isZero_0 : decode cX6_isZero 0 = .ok (.aload_n 0, 1) := by decide +kernel
theorem dX6_isZero_1 : decode cX6_isZero 1 = .ok (.getfield 9, 3) := by decide +kernel
theorem dX6_isZero_4 : decode cX6_isZero 4 = .ok (.ifCond .ne 28, 3) := by decide +kernel
theorem dX6_isZero_7 : decode cX6_isZero 7 = .ok (.aload_n 0, 1) := by decide +kernel
theorem dX6_isZero_8 : decode cX6_isZero 8 = .ok (.getfield 15, 3) := by decide +kernel
theorem dX6_isZero_11 : decode cX6_isZero 11 = .ok (.ifCond .ne 21, 3) := by decide +kernel
theorem dX6_isZero_14 : decode cX6_isZero 14 = .ok (.aload_n 0, 1) := by decide +kernel
theorem dX6_isZero_15 : decode cX6_isZero 15 = .ok (.getfield 18, 3) := by decide +kernel
theorem dX6_isZero_18 : decode cX6_isZero 18 = .ok (.ifCond .ne 14, 3) := by decide +kernel
theorem dX6_isZero_21 : decode cX6_isZero 21 = .ok (.aload_n 0, 1) := by decide +kernel
theorem dX6_isZero_22 : decode cX6_isZero 22 = .ok (.getfield 21, 3) := by decide +kernel
theorem dX6_isZero_25 : decode cX6_isZero 25 = .ok (.ifCond .ne 7, 3) := by decide +kernel
theorem dX6_isZero_28 : decode cX6_isZero 28 = .ok (.iconst 1, 1) := by decide +kernel
theorem dX6_isZero_29 : decode cX6_isZero 29 = .ok (.goto 4, 3) := by decide +kernel
theorem dX6_isZero_32 : decode cX6_isZero 32 = .ok (.iconst 0, 1) := by decide +kernel
theorem dX6_isZero_33 : decode cX6_isZero 33 = .ok (.ireturn, 1) := by decide +kernel
theorem dX6_isEven_0 : decode cX6_isEven 0 = .ok (.aload_n 0, 1) := by decide +kernel
theorem dX6_isEven_1 : decode cX6_isEven 1 = .ok (.getfield 9, 3) := by decide +kernel
theorem dX6_isEven_4 : decode cX6_isEven 4 = .ok (.iconst 1, 1) := by decide +kernel
theorem dX6_isEven_5 : decode cX6_isEven 5 = .ok (.iand, 1) := by decide +kernel
theorem dX6_isEven_6 : decode cX6_isEven 6 = .ok (.ifCond .ne 7, 3) := by decide +kernel
theorem dX6_isEven_9 : decode cX6_isEven 9 = .ok (.iconst 1, 1) := by decide +kernel
theorem dX6_isEven_10 : decode cX6_isEven 10 = .ok (.goto 4, 3) := by decide +kernel
theorem dX6_isEven_13 : decode cX6_isEven 13 = .ok (.iconst 0, 1) := by decide +kernel
theorem dX6_isEven_14 : decode cX6_isEven 14 = .ok (.ireturn, 1) := by decide +kernel
theorem dX6_isSame_0 : decode cX6_isSame 0 = .ok (.aload_n 0, 1) := by decide +kernel
theorem dX6_isSame_1 : decode cX6_isSame 1 = .ok (.getfield 9, 3) := by decide +kernel
theorem dX6_isSame_4 : decode cX6_isSame 4 = .ok (.aload_n 1, 1) := by decide +kernel
theorem dX6_isSame_5 : decode cX6_isSame 5 = .ok (.getfield 9, 3) := by decide +kernel
theorem dX6_isSame_8 : decode cX6_isSame 8 = .ok (.if_icmp .ne 40, 3) := by decide +kernel
theorem dX6_isSame_11 : decode cX6_isSame 11 = .ok (.aload_n 0, 1) := by decide +kernel
theorem dX6_isSame_12 : decode cX6_isSame 12 = .ok (.getfield 15, 3) := by decide +kernel
theorem dX6_isSame_15 : decode cX6_isSame 15 = .ok (.aload_n 1, 1) := by decide +kernel
theorem dX6_isSame_16 : decode cX6_isSame 16 = .ok (.getfield 15, 3) := by decide +kernel
theorem dX6_isSame_19 : decode cX6_isSame 19 = .ok (.if_icmp .ne 29, 3) := by decide +kernel
theorem dX6_isSame_22 : decode cX6_isSame 22 = .ok (.aload_n 0, 1) := by decide +kernel
theorem dX6_isSame_23 : decode cX6_isSame 23 = .ok (.getfield 18, 3) := by decide +kernel
theorem dX6_isSame_26 : decode cX6_isSame 26 = .ok (.aload_n 1, 1) := by decide +kernel
theorem dX6_isSame_27 : decode cX6_isSame 27 = .ok (.getfield 18, 3) := by decide +kernel
theorem dX6_isSame_30 : decode cX6_isSame 30 = .ok (.if_icmp .ne 18, 3) := by decide +kernel
theorem dX6_isSame_33 : decode cX6_isSame 33 = .ok (.aload_n 0, 1) := by decide +kernel
theorem dX6_isSame_34 : decode cX6_isSame 34 = .ok (.getfield 21, 3) := by decide +kernel
theorem dX6_isSame_37 : decode cX6_isSame 37 = .ok (.aload_n 1, 1) := by decide +kernel
theorem dX6_isSame_38 : decode cX6_isSame 38 = .ok (.getfield 21, 3) := by decide +kernel
theorem dX6_isSame_41 : decode cX6_isSame 41 = .ok (.if_icmp .ne 7, 3) := by decide +kernel
theorem dX6_isSame_44 : decode cX6_isSame 44 = .ok (.iconst 1, 1) := by decide +kernel
theorem dX6_isSame_45 : decode cX6_isSame 45 = .ok (.goto 4, 3) := by decide +kernel
theorem dX6_isSame_48 : decode cX6_isSame 48 = .ok (.iconst 0, 1) := by decide +kernel
theorem dX6_isSame_49 : decode cX6_isSame 49 = .ok (.ireturn, 1) := by decide +kernel
theorem dX6_isGreaterThan_0 : decode cX6_isGreaterThan 0 = .ok (.aload_n 0, 1) := by decide +kernel
theorem dX6_isGreaterThan_1 : decode cX6_isGreaterThan 1 = .ok (.getfield 9, 3) := by decide +kernel
theorem dX6_isGreaterThan_4 : decode cX6_isGreaterThan 4 = .ok (.aload_n 1, 1) := by decide +kernel
theorem dX6_isGreaterThan_5 : decode cX6_isGreaterThan 5 = .ok (.getfield 9, 3) := by decide +kernel
theorem dX6_isGreaterThan_8 : decode cX6_isGreaterThan 8 = .ok (.if_icmp .eq 20, 3) := by decide +kernel
theorem dX6_isGreaterThan_11 : decode cX6_isGreaterThan 11 = .ok (.aload_n 0, 1) := by decide +kernel
theorem dX6_isGreaterThan_12 : decode cX6_isGreaterThan 12 = .ok (.getfield 9, 3) := by decide +kernel
theorem dX6_isGreaterThan_15 : decode cX6_isGreaterThan 15 = .ok (.aload_n 1, 1) := by decide +kernel
theorem dX6_isGreaterThan_16 : decode cX6_isGreaterThan 16 = .ok (.getfield 9, 3) := by decide +kernel
theorem dX6_isGreaterThan_19 : decode cX6_isGreaterThan 19 = .ok (.if_icmp .le 7, 3) := by decide +kernel
theorem dX6_isGreaterThan_22 : decode cX6_isGreaterThan 22 = .ok (.iconst 1, 1) := by decide +kernel
theorem dX6_isGreaterThan_23 : decode cX6_isGreaterThan 23 = .ok (.goto 4, 3) := by decide +kernel
theorem dX6_isGreaterThan_26 : decode cX6_isGreaterThan 26 = .ok (.iconst 0, 1) := by decide +kernel
theorem dX6_isGreaterThan_27 : decode cX6_isGreaterThan 27 = .ok (.ireturn, 1) := by decide +kernel
theorem dX6_isGreaterThan_28 : decode cX6_isGreaterThan 28 = .ok (.aload_n 0, 1) := by decide +kernel
theorem dX6_isGreaterThan_29 : decode cX6_isGreaterThan 29 = .ok (.getfield 15, 3) := by decide +kernel
theorem dX6_isGreaterThan_32 : decode cX6_isGreaterThan 32 = .ok (.aload_n 1, 1) := by decide +kernel
theorem dX6_isGreaterThan_33 : decode cX6_isGreaterThan 33 = .ok (.getfield 15, 3) := by decide +kernel
theorem dX6_isGreaterThan_36 : decode cX6_isGreaterThan 36 = .ok (.if_icmp .eq 20, 3) := by decide +kernel
theorem dX6_isGreaterThan_39 : decode cX6_isGreaterThan 39 = .ok (.aload_n 0, 1) := by decide +kernel
theorem dX6_isGreaterThan_40 : decode cX6_isGreaterThan 40 = .ok (.getfield 15, 3) := by decide +kernel
theorem dX6_isGreaterThan_43 : decode cX6_isGreaterThan 43 = .ok (.aload_n 1, 1) := by decide +kernel
theorem dX6_isGreaterThan_44 : decode cX6_isGreaterThan 44 = .ok (.getfield 15, 3) := by decide +kernel
theorem dX6_isGreaterThan_47 : decode cX6_isGreaterThan 47 = .ok (.if_icmp .le 7, 3) := by decide +kernel
theorem dX6_isGreaterThan_50 : decode cX6_isGreaterThan 50 = .ok (.iconst 1, 1) := by decide +kernel
theorem dX6_isGreaterThan_51 : decode cX6_isGreaterThan 51 = .ok (.goto 4, 3) := by decide +kernel
theorem dX6_isGreaterThan_54 : decode cX6_isGreaterThan 54 = .ok (.iconst 0, 1) := by decide +kernel
theorem dX6_isGreaterThan_55 : decode cX6_isGreaterThan 55 = .ok (.ireturn, 1) := by decide +kernel
theorem dX6_isGreaterThan_56 : decode cX6_isGreaterThan 56 = .ok (.aload_n 0, 1) := by decide +kernel
theorem dX6_isGreaterThan_57 : decode cX6_isGreaterThan 57 = .ok (.getfield 18, 3) := by decide +kernel
theorem dX6_isGreaterThan_60 : decode cX6_isGreaterThan 60 = .ok (.aload_n 1, 1) := by decide +kernel
theorem dX6_isGreaterThan_61 : decode cX6_isGreaterThan 61 = .ok (.getfield 18, 3) := by decide +kernel
theorem dX6_isGreaterThan_64 : decode cX6_isGreaterThan 64 = .ok (.if_icmp .eq 22, 3) := by decide +kernel
theorem dX6_isGreaterThan_67 : decode cX6_isGreaterThan 67 = .ok (.aload_n 0, 1) := by decide +kernel
theorem dX6_isGreaterThan_68 : decode cX6_isGreaterThan 68 = .ok (.getfield 18, 3) := by decide +kernel
theorem dX6_isGreaterThan_71 : decode cX6_isGreaterThan 71 = .ok (.aload_n 1, 1) := by decide +kernel
theorem dX6_isGreaterThan_72 : decode cX6_isGreaterThan 72 = .ok (.getfield 18, 3) := by decide +kernel
theorem dX6_isGreaterThan_75 : decode cX6_isGreaterThan 75 = .ok (.if_icmp .le 7, 3) := by decide +kernel
theorem dX6_isGreaterThan_78 : decode cX6_isGreaterThan 78 = .ok (.iconst 1, 1) := by decide +kernel
theorem dX6_isGreaterThan_79 : decode cX6_isGreaterThan 79 = .ok (.goto 23, 3) := by decide +kernel
theorem dX6_isGreaterThan_82 : decode cX6_isGreaterThan 82 = .ok (.iconst 0, 1) := by decide +kernel
theorem dX6_isGreaterThan_83 : decode cX6_isGreaterThan 83 = .ok (.goto 19, 3) := by decide +kernel
theorem dX6_isGreaterThan_86 : decode cX6_isGreaterThan 86 = .ok (.aload_n 0, 1) := by decide +kernel
theorem dX6_isGreaterThan_87 : decode cX6_isGreaterThan 87 = .ok (.getfield 21, 3) := by decide +kernel
theorem dX6_isGreaterThan_90 : decode cX6_isGreaterThan 90 = .ok (.aload_n 1, 1) := by decide +kernel
theorem dX6_isGreaterThan_91 : decode cX6_isGreaterThan 91 = .ok (.getfield 21, 3) := by decide +kernel
theorem dX6_isGreaterThan_94 : decode cX6_isGreaterThan 94 = .ok (.if_icmp .le 7, 3) := by decide +kernel
theorem dX6_isGreaterThan_97 : decode cX6_isGreaterThan 97 = .ok (.iconst 1, 1) := by decide +kernel
theorem dX6_isGreaterThan_98 : decode cX6_isGreaterThan 98 = .ok (.goto 4, 3) := by decide +kernel
theorem dX6_isGreaterThan_101 : decode cX6_isGreaterThan 101 = .ok (.iconst 0, 1) := by decide +kernel
theorem dX6_isGreaterThan_102 : decode cX6_isGreaterThan 102 = .ok (.ireturn, 1) := by decide +kernel
theorem dX6_becomeSum_0 : decode cX6_becomeSum 0 = .ok (.aload_n 0, 1) := by decide +kernel
theorem dX6_becomeSum_1 : decode cX6_becomeSum 1 = .ok (.aload_n 1, 1) := by decide +kernel
theorem dX6_becomeSum_2 : decode cX6_becomeSum 2 = .ok (.getfield 9, 3) := by decide +kernel
theorem dX6_becomeSum_5 : decode cX6_becomeSum 5 = .ok (.aload_n 2, 1) := by decide +kernel
theorem dX6_becomeSum_6 : decode cX6_becomeSum 6 = .ok (.getfield 9, 3) := by decide +kernel
theorem dX6_becomeSum_9 : decode cX6_becomeSum 9 = .ok (.iadd, 1) := by decide +kernel
theorem dX6_becomeSum_10 : decode cX6_becomeSum 10 = .ok (.aload_n 1, 1) := by decide +kernel
theorem dX6_becomeSum_11 : decode cX6_becomeSum 11 = .ok (.getfield 15, 3) := by decide +kernel
theorem dX6_becomeSum_14 : decode cX6_becomeSum 14 = .ok (.aload_n 2, 1) := by decide +kernel
theorem dX6_becomeSum_15 : decode cX6_becomeSum 15 = .ok (.getfield 15, 3) := by decide +kernel
theorem dX6_becomeSum_18 : decode cX6_becomeSum 18 = .ok (.iadd, 1) := by decide +kernel
theorem dX6_becomeSum_19 : decode cX6_becomeSum 19 = .ok (.aload_n 1, 1) := by decide +kernel
theorem dX6_becomeSum_20 : decode cX6_becomeSum 20 = .ok (.getfield 18, 3) := by decide +kernel
theorem dX6_becomeSum_23 : decode cX6_becomeSum 23 = .ok (.aload_n 2, 1) := by decide +kernel
theorem dX6_becomeSum_24 : decode cX6_becomeSum 24 = .ok (.getfield 18, 3) := by decide +kernel
theorem dX6_becomeSum_27 : decode cX6_becomeSum 27 = .ok (.iadd, 1) := by decide +kernel
theorem dX6_becomeSum_28 : decode cX6_becomeSum 28 = .ok (.aload_n 1, 1) := by decide +kernel
theorem dX6_becomeSum_29 : decode cX6_becomeSum 29 = .ok (.getfield 21, 3) := by decide +kernel
theorem dX6_becomeSum_32 : decode cX6_becomeSum 32 = .ok (.aload_n 2, 1) := by decide +kernel
theorem dX6_becomeSum_33 : decode cX6_becomeSum 33 = .ok (.getfield 21, 3) := by decide +kernel
theorem dX6_becomeSum_36 : decode cX6_becomeSum 36 = .ok (.iadd, 1) := by decide +kernel
theorem dX6_becomeSum_37 : decode cX6_becomeSum 37 = .ok (.invokevirtual 24, 3) := by decide +kernel
theorem dX6_becomeSum_40 : decode cX6_becomeSum 40 = .ok (.return_, 1) := by decide +kernel
theorem dX6_becomeDifference_0 : decode cX6_becomeDifference 0 = .ok (.aload_n 0, 1) := by decide +kernel
theorem dX6_becomeDifference_1 : decode cX6_becomeDifference 1 = .ok (.aload_n 1, 1) := by decide +kernel
theorem dX6_becomeDifference_2 : decode cX6_becomeDifference 2 = .ok (.getfield 9, 3) := by decide +kernel
theorem dX6_becomeDifference_5 : decode cX6_becomeDifference 5 = .ok (.aload_n 2, 1) := by decide +kernel
theorem dX6_becomeDifference_6 : decode cX6_becomeDifference 6 = .ok (.getfield 9, 3) := by decide +kernel
theorem dX6_becomeDifference_9 : decode cX6_becomeDifference 9 = .ok (.isub, 1) := by decide +kernel
theorem dX6_becomeDifference_10 : decode cX6_becomeDifference 10 = .ok (.aload_n 1, 1) := by decide +kernel
theorem dX6_becomeDifference_11 : decode cX6_becomeDifference 11 = .ok (.getfield 15, 3) := by decide +kernel
theorem dX6_becomeDifference_14 : decode cX6_becomeDifference 14 = .ok (.aload_n 2, 1) := by decide +kernel
theorem dX6_becomeDifference_15 : decode cX6_becomeDifference 15 = .ok (.getfield 15, 3) := by decide +kernel
theorem dX6_becomeDifference_18 : decode cX6_becomeDifference 18 = .ok (.isub, 1) := by decide +kernel
theorem dX6_becomeDifference_19 : decode cX6_becomeDifference 19 = .ok (.aload_n 1, 1) := by decide +kernel
theorem dX6_becomeDifference_20 : decode cX6_becomeDifference 20 = .ok (.getfield 18, 3) := by decide +kernel
theorem dX6_becomeDifference_23 : decode cX6_becomeDifference 23 = .ok (.aload_n 2, 1) := by decide +kernel
theorem dX6_becomeDifference_24 : decode cX6_becomeDifference 24 = .ok (.getfield 18, 3) := by decide +kernel
theorem dX6_becomeDifference_27 : decode cX6_becomeDifference 27 = .ok (.isub, 1) := by decide +kernel
theorem dX6_becomeDifference_28 : decode cX6_becomeDifference 28 = .ok (.aload_n 1, 1) := by decide +kernel
theorem dX6_becomeDifference_29 : decode cX6_becomeDifference 29 = .ok (.getfield 21, 3) := by decide +kernel
theorem dX6_becomeDifference_32 : decode cX6_becomeDifference 32 = .ok (.aload_n 2, 1) := by decide +kernel
theorem dX6_becomeDifference_33 : decode cX6_becomeDifference 33 = .ok (.getfield 21, 3) := by decide +kernel
theorem dX6_becomeDifference_36 : decode cX6_becomeDifference 36 = .ok (.isub, 1) := by decide +kernel
theorem dX6_becomeDifference_37 : decode cX6_becomeDifference 37 = .ok (.invokevirtual 24, 3) := by decide +kernel
theorem dX6_becomeDifference_40 : decode cX6_becomeDifference 40 = .ok (.return_, 1) := by decide +kernel
theorem dX6_becomeConjugate_0 : decode cX6_becomeConjugate 0 = .ok (.aload_n 0, 1) := by decide +kernel
theorem dX6_becomeConjugate_1 : decode cX6_becomeConjugate 1 = .ok (.aload_n 1, 1) := by decide +kernel
theorem dX6_becomeConjugate_2 : decode cX6_becomeConjugate 2 = .ok (.getfield 9, 3) := by decide +kernel
theorem dX6_becomeConjugate_5 : decode cX6_becomeConjugate 5 = .ok (.aload_n 1, 1) := by decide +kernel
theorem dX6_becomeConjugate_6 : decode cX6_becomeConjugate 6 = .ok (.getfield 15, 3) := by decide +kernel
theorem dX6_becomeConjugate_9 : decode cX6_becomeConjugate 9 = .ok (.ineg, 1) := by decide +kernel
theorem dX6_becomeConjugate_10 : decode cX6_becomeConjugate 10 = .ok (.aload_n 1, 1) := by decide +kernel
theorem dX6_becomeConjugate_11 : decode cX6_becomeConjugate 11 = .ok (.getfield 18, 3) := by decide +kernel
theorem dX6_becomeConjugate_14 : decode cX6_becomeConjugate 14 = .ok (.ineg, 1) := by decide +kernel
theorem dX6_becomeConjugate_15 : decode cX6_becomeConjugate 15 = .ok (.aload_n 1, 1) := by decide +kernel
theorem dX6_becomeConjugate_16 : decode cX6_becomeConjugate 16 = .ok (.getfield 21, 3) := by decide +kernel
theorem dX6_becomeConjugate_19 : decode cX6_becomeConjugate 19 = .ok (.ineg, 1) := by decide +kernel
theorem dX6_becomeConjugate_20 : decode cX6_becomeConjugate 20 = .ok (.invokevirtual 24, 3) := by decide +kernel
theorem dX6_becomeConjugate_23 : decode cX6_becomeConjugate 23 = .ok (.return_, 1) := by decide +kernel
theorem dX6_becomeNegative_0 : decode cX6_becomeNegative 0 = .ok (.aload_n 0, 1) := by decide +kernel
theorem dX6_becomeNegative_1 : decode cX6_becomeNegative 1 = .ok (.aload_n 1, 1) := by decide +kernel
theorem dX6_becomeNegative_2 : decode cX6_becomeNegative 2 = .ok (.getfield 9, 3) := by decide +kernel
theorem dX6_becomeNegative_5 : decode cX6_becomeNegative 5 = .ok (.ineg, 1) := by decide +kernel
theorem dX6_becomeNegative_6 : decode cX6_becomeNegative 6 = .ok (.aload_n 1, 1) := by decide +kernel
theorem dX6_becomeNegative_7 : decode cX6_becomeNegative 7 = .ok (.getfield 15, 3) := by decide +kernel
theorem dX6_becomeNegative_10 : decode cX6_becomeNegative 10 = .ok (.ineg, 1) := by decide +kernel
theorem dX6_becomeNegative_11 : decode cX6_becomeNegative 11 = .ok (.aload_n 1, 1) := by decide +kernel
theorem dX6_becomeNegative_12 : decode cX6_becomeNegative 12 = .ok (.getfield 18, 3) := by decide +kernel
theorem dX6_becomeNegative_15 : decode cX6_becomeNegative 15 = .ok (.ineg, 1) := by decide +kernel
theorem dX6_becomeNegative_16 : decode cX6_becomeNegative 16 = .ok (.aload_n 1, 1) := by decide +kernel
theorem dX6_becomeNegative_17 : decode cX6_becomeNegative 17 = .ok (.getfield 21, 3) := by decide +kernel
theorem dX6_becomeNegative_20 : decode cX6_becomeNegative 20 = .ok (.ineg, 1) := by decide +kernel
theorem dX6_becomeNegative_21 : decode cX6_becomeNegative 21 = .ok (.invokevirtual 24, 3) := by decide +kernel
theorem dX6_becomeNegative_24 : decode cX6_becomeNegative 24 = .ok (.return_, 1) := by decide +kernel
theorem dX6_becomeProduct_0 : decode cX6_becomeProduct 0 = .ok (.aload_n 1, 1) := by decide +kernel
theorem dX6_becomeProduct_1 : decode cX6_becomeProduct 1 = .ok (.getfield 9, 3) := by decide +kernel
theorem dX6_becomeProduct_4 : decode cX6_becomeProduct 4 = .ok (.aload_n 2, 1) := by decide +kernel
theorem dX6_becomeProduct_5 : decode cX6_becomeProduct 5 = .ok (.getfield 9, 3) := by decide +kernel
theorem dX6_becomeProduct_8 : decode cX6_becomeProduct 8 = .ok (.imul, 1) := by decide +kernel
theorem dX6_becomeProduct_9 : decode cX6_becomeProduct 9 = .ok (.aload_n 1, 1) := by decide +kernel
theorem dX6_becomeProduct_10 : decode cX6_becomeProduct 10 = .ok (.getfield 15, 3) := by decide +kernel
theorem dX6_becomeProduct_13 : decode cX6_becomeProduct 13 = .ok (.aload_n 2, 1) := by decide +kernel
theorem dX6_becomeProduct_14 : decode cX6_becomeProduct 14 = .ok (.getfield 15, 3) := by decide +kernel
theorem dX6_becomeProduct_17 : decode cX6_becomeProduct 17 = .ok (.imul, 1) := by decide +kernel
theorem dX6_becomeProduct_18 : decode cX6_becomeProduct 18 = .ok (.isub, 1) := by decide +kernel
theorem dX6_becomeProduct_19 : decode cX6_becomeProduct 19 = .ok (.aload_n 1, 1) := by decide +kernel
theorem dX6_becomeProduct_20 : decode cX6_becomeProduct 20 = .ok (.getfield 18, 3) := by decide +kernel
theorem dX6_becomeProduct_23 : decode cX6_becomeProduct 23 = .ok (.aload_n 2, 1) := by decide +kernel
theorem dX6_becomeProduct_24 : decode cX6_becomeProduct 24 = .ok (.getfield 18, 3) := by decide +kernel
theorem dX6_becomeProduct_27 : decode cX6_becomeProduct 27 = .ok (.imul, 1) := by decide +kernel
theorem dX6_becomeProduct_28 : decode cX6_becomeProduct 28 = .ok (.isub, 1) := by decide +kernel
theorem dX6_becomeProduct_29 : decode cX6_becomeProduct 29 = .ok (.aload_n 1, 1) := by decide +kernel
theorem dX6_becomeProduct_30 : decode cX6_becomeProduct 30 = .ok (.getfield 21, 3) := by decide +kernel
theorem dX6_becomeProduct_33 : decode cX6_becomeProduct 33 = .ok (.aload_n 2, 1) := by decide +kernel
theorem dX6_becomeProduct_34 : decode cX6_becomeProduct 34 = .ok (.getfield 21, 3) := by decide +kernel
theorem dX6_becomeProduct_37 : decode cX6_becomeProduct 37 = .ok (.imul, 1) := by decide +kernel
theorem dX6_becomeProduct_38 : decode cX6_becomeProduct 38 = .ok (.isub, 1) := by decide +kernel
theorem dX6_becomeProduct_39 : decode cX6_becomeProduct 39 = .ok (.istore_n 3, 1) := by decide +kernel
theorem dX6_becomeProduct_40 : decode cX6_becomeProduct 40 = .ok (.aload_n 1, 1) := by decide +kernel
theorem dX6_becomeProduct_41 : decode cX6_becomeProduct 41 = .ok (.getfield 9, 3) := by decide +kernel
theorem dX6_becomeProduct_44 : decode cX6_becomeProduct 44 = .ok (.aload_n 2, 1) := by decide +kernel
theorem dX6_becomeProduct_45 : decode cX6_becomeProduct 45 = .ok (.getfield 15, 3) := by decide +kernel
theorem dX6_becomeProduct_48 : decode cX6_becomeProduct 48 = .ok (.imul, 1) := by decide +kernel
theorem dX6_becomeProduct_49 : decode cX6_becomeProduct 49 = .ok (.aload_n 1, 1) := by decide +kernel
theorem dX6_becomeProduct_50 : decode cX6_becomeProduct 50 = .ok (.getfield 15, 3) := by decide +kernel
theorem dX6_becomeProduct_53 : decode cX6_becomeProduct 53 = .ok (.aload_n 2, 1) := by decide +kernel
theorem dX6_becomeProduct_54 : decode cX6_becomeProduct 54 = .ok (.getfield 9, 3) := by decide +kernel
theorem dX6_becomeProduct_57 : decode cX6_becomeProduct 57 = .ok (.imul, 1) := by decide +kernel
theorem dX6_becomeProduct_58 : decode cX6_becomeProduct 58 = .ok (.iadd, 1) := by decide +kernel
theorem dX6_becomeProduct_59 : decode cX6_becomeProduct 59 = .ok (.aload_n 1, 1) := by decide +kernel
theorem dX6_becomeProduct_60 : decode cX6_becomeProduct 60 = .ok (.getfield 18, 3) := by decide +kernel
theorem dX6_becomeProduct_63 : decode cX6_becomeProduct 63 = .ok (.aload_n 2, 1) := by decide +kernel
theorem dX6_becomeProduct_64 : decode cX6_becomeProduct 64 = .ok (.getfield 21, 3) := by decide +kernel
theorem dX6_becomeProduct_67 : decode cX6_becomeProduct 67 = .ok (.imul, 1) := by decide +kernel
theorem dX6_becomeProduct_68 : decode cX6_becomeProduct 68 = .ok (.iadd, 1) := by decide +kernel
theorem dX6_becomeProduct_69 : decode cX6_becomeProduct 69 = .ok (.aload_n 1, 1) := by decide +kernel
theorem dX6_becomeProduct_70 : decode cX6_becomeProduct 70 = .ok (.getfield 21, 3) := by decide +kernel
theorem dX6_becomeProduct_73 : decode cX6_becomeProduct 73 = .ok (.aload_n 2, 1) := by decide +kernel
theorem dX6_becomeProduct_74 : decode cX6_becomeProduct 74 = .ok (.getfield 18, 3) := by decide +kernel
theorem dX6_becomeProduct_77 : decode cX6_becomeProduct 77 = .ok (.imul, 1) := by decide +kernel
theorem dX6_becomeProduct_78 : decode cX6_becomeProduct 78 = .ok (.isub, 1) := by decide +kernel
theorem dX6_becomeProduct_79 : decode cX6_becomeProduct 79 = .ok (.istore 4, 2) := by decide +kernel
theorem dX6_becomeProduct_81 : decode cX6_becomeProduct 81 = .ok (.aload_n 1, 1) := by decide +kernel
theorem dX6_becomeProduct_82 : decode cX6_becomeProduct 82 = .ok (.getfield 9, 3) := by decide +kernel
theorem dX6_becomeProduct_85 : decode cX6_becomeProduct 85 = .ok (.aload_n 2, 1) := by decide +kernel
theorem dX6_becomeProduct_86 : decode cX6_becomeProduct 86 = .ok (.getfield 18, 3) := by decide +kernel
theorem dX6_becomeProduct_89 : decode cX6_becomeProduct 89 = .ok (.imul, 1) := by decide +kernel
theorem dX6_becomeProduct_90 : decode cX6_becomeProduct 90 = .ok (.aload_n 1, 1) := by decide +kernel
theorem dX6_becomeProduct_91 : decode cX6_becomeProduct 91 = .ok (.getfield 15, 3) := by decide +kernel
theorem dX6_becomeProduct_94 : decode cX6_becomeProduct 94 = .ok (.aload_n 2, 1) := by decide +kernel
theorem dX6_becomeProduct_95 : decode cX6_becomeProduct 95 = .ok (.getfield 21, 3) := by decide +kernel
theorem dX6_becomeProduct_98 : decode cX6_becomeProduct 98 = .ok (.imul, 1) := by decide +kernel
theorem dX6_becomeProduct_99 : decode cX6_becomeProduct 99 = .ok (.isub, 1) := by decide +kernel
theorem dX6_becomeProduct_100 : decode cX6_becomeProduct 100 = .ok (.aload_n 1, 1) := by decide +kernel
theorem dX6_becomeProduct_101 : decode cX6_becomeProduct 101 = .ok (.getfield 18, 3) := by decide +kernel
theorem dX6_becomeProduct_104 : decode cX6_becomeProduct 104 = .ok (.aload_n 2, 1) := by decide +kernel
theorem dX6_becomeProduct_105 : decode cX6_becomeProduct 105 = .ok (.getfield 9, 3) := by decide +kernel
theorem dX6_becomeProduct_108 : decode cX6_becomeProduct 108 = .ok (.imul, 1) := by decide +kernel
theorem dX6_becomeProduct_109 : decode cX6_becomeProduct 109 = .ok (.iadd, 1) := by decide +kernel
theorem dX6_becomeProduct_110 : decode cX6_becomeProduct 110 = .ok (.aload_n 1, 1) := by decide +kernel
theorem dX6_becomeProduct_111 : decode cX6_becomeProduct 111 = .ok (.getfield 21, 3) := by decide +kernel
theorem dX6_becomeProduct_114 : decode cX6_becomeProduct 114 = .ok (.aload_n 2, 1) := by decide +kernel
theorem dX6_becomeProduct_115 : decode cX6_becomeProduct 115 = .ok (.getfield 15, 3) := by decide +kernel
theorem dX6_becomeProduct_118 : decode cX6_becomeProduct 118 = .ok (.imul, 1) := by decide +kernel
theorem dX6_becomeProduct_119 : decode cX6_becomeProduct 119 = .ok (.iadd, 1) := by decide +kernel
theorem dX6_becomeProduct_120 : decode cX6_becomeProduct 120 = .ok (.istore 5, 2) := by decide +kernel
theorem dX6_becomeProduct_122 : decode cX6_becomeProduct 122 = .ok (.aload_n 1, 1) := by decide +kernel
theorem dX6_becomeProduct_123 : decode cX6_becomeProduct 123 = .ok (.getfield 9, 3) := by decide +kernel
theorem dX6_becomeProduct_126 : decode cX6_becomeProduct 126 = .ok (.aload_n 2, 1) := by decide +kernel
theorem dX6_becomeProduct_127 : decode cX6_becomeProduct 127 = .ok (.getfield 21, 3) := by decide +kernel
theorem dX6_becomeProduct_130 : decode cX6_becomeProduct 130 = .ok (.imul, 1) := by decide +kernel
theorem dX6_becomeProduct_131 : decode cX6_becomeProduct 131 = .ok (.aload_n 1, 1) := by decide +kernel
theorem dX6_becomeProduct_132 : decode cX6_becomeProduct 132 = .ok (.getfield 15, 3) := by decide +kernel
theorem dX6_becomeProduct_135 : decode cX6_becomeProduct 135 = .ok (.aload_n 2, 1) := by decide +kernel
theorem dX6_becomeProduct_136 : decode cX6_becomeProduct 136 = .ok (.getfield 18, 3) := by decide +kernel
theorem dX6_becomeProduct_139 : decode cX6_becomeProduct 139 = .ok (.imul, 1) := by decide +kernel
theorem dX6_becomeProduct_140 : decode cX6_becomeProduct 140 = .ok (.iadd, 1) := by decide +kernel
theorem dX6_becomeProduct_141 : decode cX6_becomeProduct 141 = .ok (.aload_n 1, 1) := by decide +kernel
theorem dX6_becomeProduct_142 : decode cX6_becomeProduct 142 = .ok (.getfield 18, 3) := by decide +kernel
theorem dX6_becomeProduct_145 : decode cX6_becomeProduct 145 = .ok (.aload_n 2, 1) := by decide +kernel
theorem dX6_becomeProduct_146 : decode cX6_becomeProduct 146 = .ok (.getfield 15, 3) := by decide +kernel
theorem dX6_becomeProduct_149 : decode cX6_becomeProduct 149 = .ok (.imul, 1) := by decide +kernel
theorem dX6_becomeProduct_150 : decode cX6_becomeProduct 150 = .ok (.isub, 1) := by decide +kernel
theorem dX6_becomeProduct_151 : decode cX6_becomeProduct 151 = .ok (.aload_n 1, 1) := by decide +kernel
theorem dX6_becomeProduct_152 : decode cX6_becomeProduct 152 = .ok (.getfield 21, 3) := by decide +kernel
theorem dX6_becomeProduct_155 : decode cX6_becomeProduct 155 = .ok (.aload_n 2, 1) := by decide +kernel
theorem dX6_becomeProduct_156 : decode cX6_becomeProduct 156 = .ok (.getfield 9, 3) := by decide +kernel
theorem dX6_becomeProduct_159 : decode cX6_becomeProduct 159 = .ok (.imul, 1) := by decide +kernel
theorem dX6_becomeProduct_160 : decode cX6_becomeProduct 160 = .ok (.iadd, 1) := by decide +kernel
theorem dX6_becomeProduct_161 : decode cX6_becomeProduct 161 = .ok (.istore 6, 2) := by decide +kernel
theorem dX6_becomeProduct_163 : decode cX6_becomeProduct 163 = .ok (.aload_n 0, 1) := by decide +kernel
theorem dX6_becomeProduct_164 : decode cX6_becomeProduct 164 = .ok (.iload_n 3, 1) := by decide +kernel
theorem dX6_becomeProduct_165 : decode cX6_becomeProduct 165 = .ok (.iconst 2, 1) := by decide +kernel
theorem dX6_becomeProduct_166 : decode cX6_becomeProduct 166 = .ok (.idiv, 1) := by decide +kernel
theorem dX6_becomeProduct_167 : decode cX6_becomeProduct 167 = .ok (.putfield 9, 3) := by decide +kernel
theorem dX6_becomeProduct_170 : decode cX6_becomeProduct 170 = .ok (.aload_n 0, 1) := by decide +kernel
theorem dX6_becomeProduct_171 : decode cX6_becomeProduct 171 = .ok (.iload 4, 2) := by decide +kernel
theorem dX6_becomeProduct_173 : decode cX6_becomeProduct 173 = .ok (.iconst 2, 1) := by decide +kernel
theorem dX6_becomeProduct_174 : decode cX6_becomeProduct 174 = .ok (.idiv, 1) := by decide +kernel
theorem dX6_becomeProduct_175 : decode cX6_becomeProduct 175 = .ok (.putfield 15, 3) := by decide +kernel
theorem dX6_becomeProduct_178 : decode cX6_becomeProduct 178 = .ok (.aload_n 0, 1) := by decide +kernel
theorem dX6_becomeProduct_179 : decode cX6_becomeProduct 179 = .ok (.iload 5, 2) := by decide +kernel
theorem dX6_becomeProduct_181 : decode cX6_becomeProduct 181 = .ok (.iconst 2, 1) := by decide +kernel
theorem dX6_becomeProduct_182 : decode cX6_becomeProduct 182 = .ok (.idiv, 1) := by decide +kernel
theorem dX6_becomeProduct_183 : decode cX6_becomeProduct 183 = .ok (.putfield 18, 3) := by decide +kernel
theorem dX6_becomeProduct_186 : decode cX6_becomeProduct 186 = .ok (.aload_n 0, 1) := by decide +kernel
theorem dX6_becomeProduct_187 : decode cX6_becomeProduct 187 = .ok (.iload 6, 2) := by decide +kernel
theorem dX6_becomeProduct_189 : decode cX6_becomeProduct 189 = .ok (.iconst 2, 1) := by decide +kernel
theorem dX6_becomeProduct_190 : decode cX6_becomeProduct 190 = .ok (.idiv, 1) := by decide +kernel
theorem dX6_becomeProduct_191 : decode cX6_becomeProduct 191 = .ok (.putfield 21, 3) := by decide +kernel
theorem dX6_becomeProduct_194 : decode cX6_becomeProduct 194 = .ok (.return_, 1) := by decide +kernel
theorem dX6_becomeMade_0 : decode cX6_becomeMade 0 = .ok (.iload_n 3, 1) := by decide +kernel
theorem dX6_becomeMade_1 : decode cX6_becomeMade 1 = .ok (.ifCond .ne 12, 3) := by decide +kernel
theorem dX6_becomeMade_4 : decode cX6_becomeMade 4 = .ok (.aload_n 0, 1) := by decide +kernel
theorem dX6_becomeMade_5 : decode cX6_becomeMade 5 = .ok (.aload_n 1, 1) := by decide +kernel
theorem dX6_becomeMade_6 : decode cX6_becomeMade 6 = .ok (.aload_n 2, 1) := by decide +kernel
theorem dX6_becomeMade_7 : decode cX6_becomeMade 7 = .ok (.invokevirtual 36, 3) := by decide +kernel
theorem dX6_becomeMade_10 : decode cX6_becomeMade 10 = .ok (.goto 9, 3) := by decide +kernel
theorem dX6_becomeMade_13 : decode cX6_becomeMade 13 = .ok (.aload_n 0, 1) := by decide +kernel
theorem dX6_becomeMade_14 : decode cX6_becomeMade 14 = .ok (.aload_n 2, 1) := by decide +kernel
theorem dX6_becomeMade_15 : decode cX6_becomeMade 15 = .ok (.aload_n 1, 1) := by decide +kernel
theorem dX6_becomeMade_16 : decode cX6_becomeMade 16 = .ok (.invokevirtual 36, 3) := by decide +kernel
theorem dX6_becomeMade_19 : decode cX6_becomeMade 19 = .ok (.return_, 1) := by decide +kernel
theorem dX6_content_0 : decode cX6_content 0 = .ok (.bipush 24, 2) := by decide +kernel
theorem dX6_content_2 : decode cX6_content 2 = .ok (.istore_n 1, 1) := by decide +kernel
theorem dX6_content_3 : decode cX6_content 3 = .ok (.iload_n 1, 1) := by decide +kernel
theorem dX6_content_4 : decode cX6_content 4 = .ok (.iconst 1, 1) := by decide +kernel
theorem dX6_content_5 : decode cX6_content 5 = .ok (.if_icmp .le 26, 3) := by decide +kernel
theorem dX6_content_8 : decode cX6_content 8 = .ok (.aload_n 0, 1) := by decide +kernel
theorem dX6_content_9 : decode cX6_content 9 = .ok (.invokevirtual 40, 3) := by decide +kernel
theorem dX6_content_12 : decode cX6_content 12 = .ok (.ifCond .ne 19, 3) := by decide +kernel
theorem dX6_content_15 : decode cX6_content 15 = .ok (.aload_n 0, 1) := by decide +kernel
theorem dX6_content_16 : decode cX6_content 16 = .ok (.iload_n 1, 1) := by decide +kernel
theorem dX6_content_17 : decode cX6_content 17 = .ok (.invokevirtual 44, 3) := by decide +kernel
theorem dX6_content_20 : decode cX6_content 20 = .ok (.ifCond .eq 5, 3) := by decide +kernel
theorem dX6_content_23 : decode cX6_content 23 = .ok (.iload_n 1, 1) := by decide +kernel
theorem dX6_content_24 : decode cX6_content 24 = .ok (.ireturn, 1) := by decide +kernel
theorem dX6_content_25 : decode cX6_content 25 = .ok (.iinc 1 (-1), 3) := by decide +kernel
theorem dX6_content_28 : decode cX6_content 28 = .ok (.goto (-25), 3) := by decide +kernel
theorem dX6_content_31 : decode cX6_content 31 = .ok (.iconst 1, 1) := by decide +kernel
theorem dX6_content_32 : decode cX6_content 32 = .ok (.ireturn, 1) := by decide +kernel
theorem dX6_isTimes_0 : decode cX6_isTimes 0 = .ok (.iload_n 1, 1) := by decide +kernel
theorem dX6_isTimes_1 : decode cX6_isTimes 1 = .ok (.iconst 1, 1) := by decide +kernel
theorem dX6_isTimes_2 : decode cX6_isTimes 2 = .ok (.if_icmp .lt 39, 3) := by decide +kernel
theorem dX6_isTimes_5 : decode cX6_isTimes 5 = .ok (.aload_n 0, 1) := by decide +kernel
theorem dX6_isTimes_6 : decode cX6_isTimes 6 = .ok (.getfield 9, 3) := by decide +kernel
theorem dX6_isTimes_9 : decode cX6_isTimes 9 = .ok (.iload_n 1, 1) := by decide +kernel
theorem dX6_isTimes_10 : decode cX6_isTimes 10 = .ok (.irem, 1) := by decide +kernel
theorem dX6_isTimes_11 : decode cX6_isTimes 11 = .ok (.ifCond .ne 30, 3) := by decide +kernel
theorem dX6_isTimes_14 : decode cX6_isTimes 14 = .ok (.aload_n 0, 1) := by decide +kernel
theorem dX6_isTimes_15 : decode cX6_isTimes 15 = .ok (.getfield 15, 3) := by decide +kernel
theorem dX6_isTimes_18 : decode cX6_isTimes 18 = .ok (.iload_n 1, 1) := by decide +kernel
theorem dX6_isTimes_19 : decode cX6_isTimes 19 = .ok (.irem, 1) := by decide +kernel
theorem dX6_isTimes_20 : decode cX6_isTimes 20 = .ok (.ifCond .ne 21, 3) := by decide +kernel
theorem dX6_isTimes_23 : decode cX6_isTimes 23 = .ok (.aload_n 0, 1) := by decide +kernel
theorem dX6_isTimes_24 : decode cX6_isTimes 24 = .ok (.getfield 18, 3) := by decide +kernel
theorem dX6_isTimes_27 : decode cX6_isTimes 27 = .ok (.iload_n 1, 1) := by decide +kernel
theorem dX6_isTimes_28 : decode cX6_isTimes 28 = .ok (.irem, 1) := by decide +kernel
theorem dX6_isTimes_29 : decode cX6_isTimes 29 = .ok (.ifCond .ne 12, 3) := by decide +kernel
theorem dX6_isTimes_32 : decode cX6_isTimes 32 = .ok (.aload_n 0, 1) := by decide +kernel
theorem dX6_isTimes_33 : decode cX6_isTimes 33 = .ok (.getfield 21, 3) := by decide +kernel
theorem dX6_isTimes_36 : decode cX6_isTimes 36 = .ok (.iload_n 1, 1) := by decide +kernel
theorem dX6_isTimes_37 : decode cX6_isTimes 37 = .ok (.irem, 1) := by decide +kernel
theorem dX6_isTimes_38 : decode cX6_isTimes 38 = .ok (.ifCond .eq 5, 3) := by decide +kernel
theorem dX6_isTimes_41 : decode cX6_isTimes 41 = .ok (.iconst 0, 1) := by decide +kernel
theorem dX6_isTimes_42 : decode cX6_isTimes 42 = .ok (.ireturn, 1) := by decide +kernel
theorem dX6_isTimes_43 : decode cX6_isTimes 43 = .ok (.aload_n 0, 1) := by decide +kernel
theorem dX6_isTimes_44 : decode cX6_isTimes 44 = .ok (.getfield 9, 3) := by decide +kernel
theorem dX6_isTimes_47 : decode cX6_isTimes 47 = .ok (.iload_n 1, 1) := by decide +kernel
theorem dX6_isTimes_48 : decode cX6_isTimes 48 = .ok (.idiv, 1) := by decide +kernel
theorem dX6_isTimes_49 : decode cX6_isTimes 49 = .ok (.istore_n 2, 1) := by decide +kernel
theorem dX6_isTimes_50 : decode cX6_isTimes 50 = .ok (.iload_n 2, 1) := by decide +kernel
theorem dX6_isTimes_51 : decode cX6_isTimes 51 = .ok (.aload_n 0, 1) := by decide +kernel
theorem dX6_isTimes_52 : decode cX6_isTimes 52 = .ok (.getfield 15, 3) := by decide +kernel
theorem dX6_isTimes_55 : decode cX6_isTimes 55 = .ok (.iload_n 1, 1) := by decide +kernel
theorem dX6_isTimes_56 : decode cX6_isTimes 56 = .ok (.idiv, 1) := by decide +kernel
theorem dX6_isTimes_57 : decode cX6_isTimes 57 = .ok (.ixor, 1) := by decide +kernel
theorem dX6_isTimes_58 : decode cX6_isTimes 58 = .ok (.iconst 1, 1) := by decide +kernel
theorem dX6_isTimes_59 : decode cX6_isTimes 59 = .ok (.iand, 1) := by decide +kernel
theorem dX6_isTimes_60 : decode cX6_isTimes 60 = .ok (.ifCond .ne 33, 3) := by decide +kernel
theorem dX6_isTimes_63 : decode cX6_isTimes 63 = .ok (.iload_n 2, 1) := by decide +kernel
theorem dX6_isTimes_64 : decode cX6_isTimes 64 = .ok (.aload_n 0, 1) := by decide +kernel
theorem dX6_isTimes_65 : decode cX6_isTimes 65 = .ok (.getfield 18, 3) := by decide +kernel
theorem dX6_isTimes_68 : decode cX6_isTimes 68 = .ok (.iload_n 1, 1) := by decide +kernel
theorem dX6_isTimes_69 : decode cX6_isTimes 69 = .ok (.idiv, 1) := by decide +kernel
theorem dX6_isTimes_70 : decode cX6_isTimes 70 = .ok (.ixor, 1) := by decide +kernel
theorem dX6_isTimes_71 : decode cX6_isTimes 71 = .ok (.iconst 1, 1) := by decide +kernel
theorem dX6_isTimes_72 : decode cX6_isTimes 72 = .ok (.iand, 1) := by decide +kernel
theorem dX6_isTimes_73 : decode cX6_isTimes 73 = .ok (.ifCond .ne 20, 3) := by decide +kernel
theorem dX6_isTimes_76 : decode cX6_isTimes 76 = .ok (.iload_n 2, 1) := by decide +kernel
theorem dX6_isTimes_77 : decode cX6_isTimes 77 = .ok (.aload_n 0, 1) := by decide +kernel
theorem dX6_isTimes_78 : decode cX6_isTimes 78 = .ok (.getfield 21, 3) := by decide +kernel
theorem dX6_isTimes_81 : decode cX6_isTimes 81 = .ok (.iload_n 1, 1) := by decide +kernel
theorem dX6_isTimes_82 : decode cX6_isTimes 82 = .ok (.idiv, 1) := by decide +kernel
theorem dX6_isTimes_83 : decode cX6_isTimes 83 = .ok (.ixor, 1) := by decide +kernel
theorem dX6_isTimes_84 : decode cX6_isTimes 84 = .ok (.iconst 1, 1) := by decide +kernel
theorem dX6_isTimes_85 : decode cX6_isTimes 85 = .ok (.iand, 1) := by decide +kernel
theorem dX6_isTimes_86 : decode cX6_isTimes 86 = .ok (.ifCond .ne 7, 3) := by decide +kernel
theorem dX6_isTimes_89 : decode cX6_isTimes 89 = .ok (.iconst 1, 1) := by decide +kernel
theorem dX6_isTimes_90 : decode cX6_isTimes 90 = .ok (.goto 4, 3) := by decide +kernel
theorem dX6_isTimes_93 : decode cX6_isTimes 93 = .ok (.iconst 0, 1) := by decide +kernel
theorem dX6_isTimes_94 : decode cX6_isTimes 94 = .ok (.ireturn, 1) := by decide +kernel
theorem dX7_init_0 : decode cX7_init 0 = .ok (.aload_n 0, 1) := by decide +kernel
theorem dX7_init_1 : decode cX7_init 1 = .ok (.invokespecial 1, 3) := by decide +kernel
theorem dX7_init_4 : decode cX7_init 4 = .ok (.aload_n 0, 1) := by decide +kernel
theorem dX7_init_5 : decode cX7_init 5 = .ok (.iconst 4, 1) := by decide +kernel
theorem dX7_init_6 : decode cX7_init 6 = .ok (.iload_n 1, 1) := by decide +kernel
theorem dX7_init_7 : decode cX7_init 7 = .ok (.iconst 0, 1) := by decide +kernel
theorem dX7_init_8 : decode cX7_init 8 = .ok (.invokestatic 7, 3) := by decide +kernel
theorem dX7_init_11 : decode cX7_init 11 = .ok (.imul, 1) := by decide +kernel
theorem dX7_init_12 : decode cX7_init 12 = .ok (.newarray .int, 2) := by decide +kernel
theorem dX7_init_14 : decode cX7_init 14 = .ok (.putfield 13, 3) := by decide +kernel
theorem dX7_init_17 : decode cX7_init 17 = .ok (.aload_n 0, 1) := by decide +kernel
theorem dX7_init_18 : decode cX7_init 18 = .ok (.iconst 0, 1) := by decide +kernel
theorem dX7_init_19 : decode cX7_init 19 = .ok (.putfield 19, 3) := by decide +kernel
theorem dX7_init_22 : decode cX7_init 22 = .ok (.return_, 1) := by decide +kernel
theorem dX7_clear_0 : decode cX7_clear 0 = .ok (.aload_n 0, 1) := by decide +kernel
theorem dX7_clear_1 : decode cX7_clear 1 = .ok (.iconst 0, 1) := by decide +kernel
theorem dX7_clear_2 : decode cX7_clear 2 = .ok (.putfield 19, 3) := by decide +kernel
theorem dX7_clear_5 : decode cX7_clear 5 = .ok (.return_, 1) := by decide +kernel
theorem dX7_size_0 : decode cX7_size 0 = .ok (.aload_n 0, 1) := by decide +kernel
theorem dX7_size_1 : decode cX7_size 1 = .ok (.getfield 19, 3) := by decide +kernel
theorem dX7_size_4 : decode cX7_size 4 = .ok (.ireturn, 1) := by decide +kernel
theorem dX7_append_0 : decode cX7_append 0 = .ok (.iconst 4, 1) := by decide +kernel
theorem dX7_append_1 : decode cX7_append 1 = .ok (.aload_n 0, 1) := by decide +kernel
theorem dX7_append_2 : decode cX7_append 2 = .ok (.getfield 19, 3) := by decide +kernel
theorem dX7_append_5 : decode cX7_append 5 = .ok (.imul, 1) := by decide +kernel
theorem dX7_append_6 : decode cX7_append 6 = .ok (.istore 5, 2) := by decide +kernel
theorem dX7_append_8 : decode cX7_append 8 = .ok (.iload 5, 2) := by decide +kernel
theorem dX7_append_10 : decode cX7_append 10 = .ok (.ifCond .lt 15, 3) := by decide +kernel
theorem dX7_append_13 : decode cX7_append 13 = .ok (.iload 5, 2) := by decide +kernel
theorem dX7_append_15 : decode cX7_append 15 = .ok (.iconst 3, 1) := by decide +kernel
theorem dX7_append_16 : decode cX7_append 16 = .ok (.iadd, 1) := by decide +kernel
theorem dX7_append_17 : decode cX7_append 17 = .ok (.aload_n 0, 1) := by decide +kernel
theorem dX7_append_18 : decode cX7_append 18 = .ok (.getfield 13, 3) := by decide +kernel
theorem dX7_append_21 : decode cX7_append 21 = .ok (.arraylength, 1) := by decide +kernel
theorem dX7_append_22 : decode cX7_append 22 = .ok (.if_icmp .lt 4, 3) := by decide +kernel
theorem dX7_append_25 : decode cX7_append 25 = .ok (.return_, 1) := by decide +kernel
theorem dX7_append_26 : decode cX7_append 26 = .ok (.aload_n 0, 1) := by decide +kernel
theorem dX7_append_27 : decode cX7_append 27 = .ok (.getfield 13, 3) := by decide +kernel
theorem dX7_append_30 : decode cX7_append 30 = .ok (.iload 5, 2) := by decide +kernel
theorem dX7_append_32 : decode cX7_append 32 = .ok (.iload_n 1, 1) := by decide +kernel
theorem dX7_append_33 : decode cX7_append 33 = .ok (.iastore, 1) := by decide +kernel
theorem dX7_append_34 : decode cX7_append 34 = .ok (.aload_n 0, 1) := by decide +kernel
theorem dX7_append_35 : decode cX7_append 35 = .ok (.getfield 13, 3) := by decide +kernel
theorem dX7_append_38 : decode cX7_append 38 = .ok (.iload 5, 2) := by decide +kernel
theorem dX7_append_40 : decode cX7_append 40 = .ok (.iconst 1, 1) := by decide +kernel
theorem dX7_append_41 : decode cX7_append 41 = .ok (.iadd, 1) := by decide +kernel
theorem dX7_append_42 : decode cX7_append 42 = .ok (.iload_n 2, 1) := by decide +kernel
theorem dX7_append_43 : decode cX7_append 43 = .ok (.iastore, 1) := by decide +kernel
theorem dX7_append_44 : decode cX7_append 44 = .ok (.aload_n 0, 1) := by decide +kernel
theorem dX7_append_45 : decode cX7_append 45 = .ok (.getfield 13, 3) := by decide +kernel
theorem dX7_append_48 : decode cX7_append 48 = .ok (.iload 5, 2) := by decide +kernel
theorem dX7_append_50 : decode cX7_append 50 = .ok (.iconst 2, 1) := by decide +kernel
theorem dX7_append_51 : decode cX7_append 51 = .ok (.iadd, 1) := by decide +kernel
theorem dX7_append_52 : decode cX7_append 52 = .ok (.iload_n 3, 1) := by decide +kernel
theorem dX7_append_53 : decode cX7_append 53 = .ok (.iastore, 1) := by decide +kernel
theorem dX7_append_54 : decode cX7_append 54 = .ok (.aload_n 0, 1) := by decide +kernel
theorem dX7_append_55 : decode cX7_append 55 = .ok (.getfield 13, 3) := by decide +kernel
theorem dX7_append_58 : decode cX7_append 58 = .ok (.iload 5, 2) := by decide +kernel
theorem dX7_append_60 : decode cX7_append 60 = .ok (.iconst 3, 1) := by decide +kernel
theorem dX7_append_61 : decode cX7_append 61 = .ok (.iadd, 1) := by decide +kernel
theorem dX7_append_62 : decode cX7_append 62 = .ok (.iload 4, 2) := by decide +kernel
theorem dX7_append_64 : decode cX7_append 64 = .ok (.iastore, 1) := by decide +kernel
theorem dX7_append_65 : decode cX7_append 65 = .ok (.aload_n 0, 1) := by decide +kernel
theorem dX7_append_66 : decode cX7_append 66 = .ok (.dup, 1) := by decide +kernel
theorem dX7_append_67 : decode cX7_append 67 = .ok (.getfield 19, 3) := by decide +kernel
theorem dX7_append_70 : decode cX7_append 70 = .ok (.iconst 1, 1) := by decide +kernel
theorem dX7_append_71 : decode cX7_append 71 = .ok (.iadd, 1) := by decide +kernel
theorem dX7_append_72 : decode cX7_append 72 = .ok (.putfield 19, 3) := by decide +kernel
theorem dX7_append_75 : decode cX7_append 75 = .ok (.return_, 1) := by decide +kernel
theorem dX7_part_0 : decode cX7_part 0 = .ok (.iload_n 1, 1) := by decide +kernel
theorem dX7_part_1 : decode cX7_part 1 = .ok (.ifCond .lt 18, 3) := by decide +kernel
theorem dX7_part_4 : decode cX7_part 4 = .ok (.iload_n 1, 1) := by decide +kernel
theorem dX7_part_5 : decode cX7_part 5 = .ok (.aload_n 0, 1) := by decide +kernel
theorem dX7_part_6 : decode cX7_part 6 = .ok (.getfield 19, 3) := by decide +kernel
theorem dX7_part_9 : decode cX7_part 9 = .ok (.if_icmp .ge 10, 3) := by decide +kernel
theorem dX7_part_12 : decode cX7_part 12 = .ok (.iload_n 2, 1) := by decide +kernel
theorem dX7_part_13 : decode cX7_part 13 = .ok (.invokestatic 23, 3) := by decide +kernel
theorem dX7_part_16 : decode cX7_part 16 = .ok (.ifCond .ne 5, 3) := by decide +kernel
theorem dX7_part_19 : decode cX7_part 19 = .ok (.iconst 0, 1) := by decide +kernel
theorem dX7_part_20 : decode cX7_part 20 = .ok (.ireturn, 1) := by decide +kernel
theorem dX7_part_21 : decode cX7_part 21 = .ok (.iconst 4, 1) := by decide +kernel
theorem dX7_part_22 : decode cX7_part 22 = .ok (.iload_n 1, 1) := by decide +kernel
theorem dX7_part_23 : decode cX7_part 23 = .ok (.imul, 1) := by decide +kernel
theorem dX7_part_24 : decode cX7_part 24 = .ok (.iload_n 2, 1) := by decide +kernel
theorem dX7_part_25 : decode cX7_part 25 = .ok (.iadd, 1) := by decide +kernel
theorem dX7_part_26 : decode cX7_part 26 = .ok (.istore_n 3, 1) := by decide +kernel
theorem dX7_part_27 : decode cX7_part 27 = .ok (.iload_n 3, 1) := by decide +kernel
theorem dX7_part_28 : decode cX7_part 28 = .ok (.aload_n 0, 1) := by decide +kernel
theorem dX7_part_29 : decode cX7_part 29 = .ok (.getfield 13, 3) := by decide +kernel
theorem dX7_part_32 : decode cX7_part 32 = .ok (.arraylength, 1) := by decide +kernel
theorem dX7_part_33 : decode cX7_part 33 = .ok (.if_icmp .ge 12, 3) := by decide +kernel
theorem dX7_part_36 : decode cX7_part 36 = .ok (.aload_n 0, 1) := by decide +kernel
theorem dX7_part_37 : decode cX7_part 37 = .ok (.getfield 13, 3) := by decide +kernel
theorem dX7_part_40 : decode cX7_part 40 = .ok (.iload_n 3, 1) := by decide +kernel
theorem dX7_part_41 : decode cX7_part 41 = .ok (.iaload, 1) := by decide +kernel
theorem dX7_part_42 : decode cX7_part 42 = .ok (.goto 4, 3) := by decide +kernel
theorem dX7_part_45 : decode cX7_part 45 = .ok (.iconst 0, 1) := by decide +kernel
theorem dX7_part_46 : decode cX7_part 46 = .ok (.ireturn, 1) := by decide +kernel
theorem dX7_putRow_0 : decode cX7_putRow 0 = .ok (.aload_n 1, 1) := by decide +kernel
theorem dX7_putRow_1 : decode cX7_putRow 1 = .ok (.aload_n 0, 1) := by decide +kernel
theorem dX7_putRow_2 : decode cX7_putRow 2 = .ok (.iload_n 2, 1) := by decide +kernel
theorem dX7_putRow_3 : decode cX7_putRow 3 = .ok (.iconst 0, 1) := by decide +kernel
theorem dX7_putRow_4 : decode cX7_putRow 4 = .ok (.invokevirtual 29, 3) := by decide +kernel
theorem dX7_putRow_7 : decode cX7_putRow 7 = .ok (.aload_n 0, 1) := by decide +kernel
theorem dX7_putRow_8 : decode cX7_putRow 8 = .ok (.iload_n 2, 1) := by decide +kernel
theorem dX7_putRow_9 : decode cX7_putRow 9 = .ok (.iconst 1, 1) := by decide +kernel
theorem dX7_putRow_10 : decode cX7_putRow 10 = .ok (.invokevirtual 29, 3) := by decide +kernel
theorem dX7_putRow_13 : decode cX7_putRow 13 = .ok (.aload_n 0, 1) := by decide +kernel
theorem dX7_putRow_14 : decode cX7_putRow 14 = .ok (.iload_n 2, 1) := by decide +kernel
theorem dX7_putRow_15 : decode cX7_putRow 15 = .ok (.iconst 2, 1) := by decide +kernel
theorem dX7_putRow_16 : decode cX7_putRow 16 = .ok (.invokevirtual 29, 3) := by decide +kernel
theorem dX7_putRow_19 : decode cX7_putRow 19 = .ok (.aload_n 0, 1) := by decide +kernel
theorem dX7_putRow_20 : decode cX7_putRow 20 = .ok (.iload_n 2, 1) := by decide +kernel
theorem dX7_putRow_21 : decode cX7_putRow 21 = .ok (.iconst 3, 1) := by decide +kernel
theorem dX7_putRow_22 : decode cX7_putRow 22 = .ok (.invokevirtual 29, 3) := by decide +kernel
theorem dX7_putRow_25 : decode cX7_putRow 25 = .ok (.invokevirtual 32, 3) := by decide +kernel
theorem dX7_putRow_28 : decode cX7_putRow 28 = .ok (.return_, 1) := by decide +kernel
theorem dX8_init_0 : decode cX8_init 0 = .ok (.aload_n 0, 1) := by decide +kernel
theorem dX8_init_1 : decode cX8_init 1 = .ok (.invokespecial 3, 3) := by decide +kernel
theorem dX8_init_4 : decode cX8_init 4 = .ok (.aload_n 0, 1) := by decide +kernel
theorem dX8_init_5 : decode cX8_init 5 = .ok (.sipush 200, 3) := by decide +kernel
theorem dX8_init_8 : decode cX8_init 8 = .ok (.newarray .int, 2) := by decide +kernel
theorem dX8_init_10 : decode cX8_init 10 = .ok (.putfield 11, 3) := by decide +kernel
theorem dX8_init_13 : decode cX8_init 13 = .ok (.aload_n 0, 1) := by decide +kernel
theorem dX8_init_14 : decode cX8_init 14 = .ok (.sipush 144, 3) := by decide +kernel
theorem dX8_init_17 : decode cX8_init 17 = .ok (.newarray .int, 2) := by decide +kernel
theorem dX8_init_19 : decode cX8_init 19 = .ok (.putfield 15, 3) := by decide +kernel
theorem dX8_init_22 : decode cX8_init 22 = .ok (.aload_n 0, 1) := by decide +kernel
theorem dX8_init_23 : decode cX8_init 23 = .ok (.iconst 0, 1) := by decide +kernel
theorem dX8_init_24 : decode cX8_init 24 = .ok (.putfield 18, 3) := by decide +kernel
theorem dX8_init_27 : decode cX8_init 27 = .ok (.aload_n 0, 1) := by decide +kernel
theorem dX8_init_28 : decode cX8_init 28 = .ok (.iconst 0, 1) := by decide +kernel
theorem dX8_init_29 : decode cX8_init 29 = .ok (.putfield 22, 3) := by decide +kernel
theorem dX8_init_32 : decode cX8_init 32 = .ok (.aload_n 0, 1) := by decide +kernel
theorem dX8_init_33 : decode cX8_init 33 = .ok (.iconst 0, 1) := by decide +kernel
theorem dX8_init_34 : decode cX8_init 34 = .ok (.putfield 25, 3) := by decide +kernel
theorem dX8_init_37 : decode cX8_init 37 = .ok (.aload_n 0, 1) := by decide +kernel
theorem dX8_init_38 : decode cX8_init 38 = .ok (.iconst 0, 1) := by decide +kernel
theorem dX8_init_39 : decode cX8_init 39 = .ok (.putfield 28, 3) := by decide +kernel
theorem dX8_init_42 : decode cX8_init 42 = .ok (.aload_n 0, 1) := by decide +kernel
theorem dX8_init_43 : decode cX8_init 43 = .ok (.iconst 0, 1) := by decide +kernel
theorem dX8_init_44 : decode cX8_init 44 = .ok (.putfield 31, 3) := by decide +kernel
theorem dX8_init_47 : decode cX8_init 47 = .ok (.return_, 1) := by decide +kernel
theorem dX8_isFull_0 : decode cX8_isFull 0 = .ok (.aload_n 0, 1) := by decide +kernel
theorem dX8_isFull_1 : decode cX8_isFull 1 = .ok (.getfield 18, 3) := by decide +kernel
theorem dX8_isFull_4 : decode cX8_isFull 4 = .ok (.sipush 200, 3) := by decide +kernel
theorem dX8_isFull_7 : decode cX8_isFull 7 = .ok (.if_icmp .lt 7, 3) := by decide +kernel
theorem dX8_isFull_10 : decode cX8_isFull 10 = .ok (.iconst 1, 1) := by decide +kernel
theorem dX8_isFull_11 : decode cX8_isFull 11 = .ok (.goto 4, 3) := by decide +kernel
theorem dX8_isFull_14 : decode cX8_isFull 14 = .ok (.iconst 0, 1) := by decide +kernel
theorem dX8_isFull_15 : decode cX8_isFull 15 = .ok (.ireturn, 1) := by decide +kernel
theorem dX8_size_0 : decode cX8_size 0 = .ok (.aload_n 0, 1) := by decide +kernel
theorem dX8_size_1 : decode cX8_size 1 = .ok (.getfield 18, 3) := by decide +kernel
theorem dX8_size_4 : decode cX8_size 4 = .ok (.ireturn, 1) := by decide +kernel
theorem dX8_append_0 : decode cX8_append 0 = .ok (.aload_n 0, 1) := by decide +kernel
theorem dX8_append_1 : decode cX8_append 1 = .ok (.getfield 18, 3) := by decide +kernel
theorem dX8_append_4 : decode cX8_append 4 = .ok (.ifCond .lt 33, 3) := by decide +kernel
theorem dX8_append_7 : decode cX8_append 7 = .ok (.aload_n 0, 1) := by decide +kernel
theorem dX8_append_8 : decode cX8_append 8 = .ok (.getfield 18, 3) := by decide +kernel
theorem dX8_append_11 : decode cX8_append 11 = .ok (.sipush 200, 3) := by decide +kernel
theorem dX8_append_14 : decode cX8_append 14 = .ok (.if_icmp .ge 23, 3) := by decide +kernel
theorem dX8_append_17 : decode cX8_append 17 = .ok (.aload_n 0, 1) := by decide +kernel
theorem dX8_append_18 : decode cX8_append 18 = .ok (.getfield 11, 3) := by decide +kernel
theorem dX8_append_21 : decode cX8_append 21 = .ok (.aload_n 0, 1) := by decide +kernel
theorem dX8_append_22 : decode cX8_append 22 = .ok (.getfield 18, 3) := by decide +kernel
theorem dX8_append_25 : decode cX8_append 25 = .ok (.iload_n 1, 1) := by decide +kernel
theorem dX8_append_26 : decode cX8_append 26 = .ok (.iastore, 1) := by decide +kernel
theorem dX8_append_27 : decode cX8_append 27 = .ok (.aload_n 0, 1) := by decide +kernel
theorem dX8_append_28 : decode cX8_append 28 = .ok (.dup, 1) := by decide +kernel
theorem dX8_append_29 : decode cX8_append 29 = .ok (.getfield 18, 3) := by decide +kernel
theorem dX8_append_32 : decode cX8_append 32 = .ok (.iconst 1, 1) := by decide +kernel
theorem dX8_append_33 : decode cX8_append 33 = .ok (.iadd, 1) := by decide +kernel
theorem dX8_append_34 : decode cX8_append 34 = .ok (.putfield 18, 3) := by decide +kernel
theorem dX8_append_37 : decode cX8_append 37 = .ok (.return_, 1) := by decide +kernel
theorem dX8_clear_0 : decode cX8_clear 0 = .ok (.aload_n 0, 1) := by decide +kernel
theorem dX8_clear_1 : decode cX8_clear 1 = .ok (.iconst 0, 1) := by decide +kernel
theorem dX8_clear_2 : decode cX8_clear 2 = .ok (.putfield 18, 3) := by decide +kernel
theorem dX8_clear_5 : decode cX8_clear 5 = .ok (.return_, 1) := by decide +kernel
theorem dX8_clauses_0 : decode cX8_clauses 0 = .ok (.aload_n 0, 1) := by decide +kernel
theorem dX8_clauses_1 : decode cX8_clauses 1 = .ok (.getfield 22, 3) := by decide +kernel
theorem dX8_clauses_4 : decode cX8_clauses 4 = .ok (.ireturn, 1) := by decide +kernel
theorem dX8_word_0 : decode cX8_word 0 = .ok (.iload_n 1, 1) := by decide +kernel
theorem dX8_word_1 : decode cX8_word 1 = .ok (.ifCond .lt 19, 3) := by decide +kernel
theorem dX8_word_4 : decode cX8_word 4 = .ok (.iload_n 1, 1) := by decide +kernel
theorem dX8_word_5 : decode cX8_word 5 = .ok (.bipush 24, 2) := by decide +kernel
theorem dX8_word_7 : decode cX8_word 7 = .ok (.if_icmp .ge 13, 3) := by decide +kernel
theorem dX8_word_10 : decode cX8_word 10 = .ok (.iload_n 2, 1) := by decide +kernel
theorem dX8_word_11 : decode cX8_word 11 = .ok (.ifCond .lt 9, 3) := by decide +kernel
theorem dX8_word_14 : decode cX8_word 14 = .ok (.iload_n 2, 1) := by decide +kernel
theorem dX8_word_15 : decode cX8_word 15 = .ok (.bipush 6, 2) := by decide +kernel
theorem dX8_word_17 : decode cX8_word 17 = .ok (.if_icmp .lt 5, 3) := by decide +kernel
theorem dX8_word_20 : decode cX8_word 20 = .ok (.iconst 0, 1) := by decide +kernel
theorem dX8_word_21 : decode cX8_word 21 = .ok (.ireturn, 1) := by decide +kernel
theorem dX8_word_22 : decode cX8_word 22 = .ok (.aload_n 0, 1) := by decide +kernel
theorem dX8_word_23 : decode cX8_word 23 = .ok (.getfield 15, 3) := by decide +kernel
theorem dX8_word_26 : decode cX8_word 26 = .ok (.bipush 6, 2) := by decide +kernel
theorem dX8_word_28 : decode cX8_word 28 = .ok (.iload_n 1, 1) := by decide +kernel
theorem dX8_word_29 : decode cX8_word 29 = .ok (.imul, 1) := by decide +kernel
theorem dX8_word_30 : decode cX8_word 30 = .ok (.iload_n 2, 1) := by decide +kernel
theorem dX8_word_31 : decode cX8_word 31 = .ok (.iadd, 1) := by decide +kernel
theorem dX8_word_32 : decode cX8_word 32 = .ok (.iaload, 1) := by decide +kernel
theorem dX8_word_33 : decode cX8_word 33 = .ok (.ireturn, 1) := by decide +kernel
theorem dX8_putWord_0 : decode cX8_putWord 0 = .ok (.iload_n 1, 1) := by decide +kernel
theorem dX8_putWord_1 : decode cX8_putWord 1 = .ok (.ifCond .lt 31, 3) := by decide +kernel
theorem dX8_putWord_4 : decode cX8_putWord 4 = .ok (.iload_n 1, 1) := by decide +kernel
theorem dX8_putWord_5 : decode cX8_putWord 5 = .ok (.bipush 24, 2) := by decide +kernel
theorem dX8_putWord_7 : decode cX8_putWord 7 = .ok (.if_icmp .ge 25, 3) := by decide +kernel
theorem dX8_putWord_10 : decode cX8_putWord 10 = .ok (.iload_n 2, 1) := by decide +kernel
theorem dX8_putWord_11 : decode cX8_putWord 11 = .ok (.ifCond .lt 21, 3) := by decide +kernel
theorem dX8_putWord_14 : decode cX8_putWord 14 = .ok (.iload_n 2, 1) := by decide +kernel
theorem dX8_putWord_15 : decode cX8_putWord 15 = .ok (.bipush 6, 2) := by decide +kernel
theorem dX8_putWord_17 : decode cX8_putWord 17 = .ok (.if_icmp .ge 15, 3) := by decide +kernel
theorem dX8_putWord_20 : decode cX8_putWord 20 = .ok (.aload_n 0, 1) := by decide +kernel
theorem dX8_putWord_21 : decode cX8_putWord 21 = .ok (.getfield 15, 3) := by decide +kernel
theorem dX8_putWord_24 : decode cX8_putWord 24 = .ok (.bipush 6, 2) := by decide +kernel
theorem dX8_putWord_26 : decode cX8_putWord 26 = .ok (.iload_n 1, 1) := by decide +kernel
theorem dX8_putWord_27 : decode cX8_putWord 27 = .ok (.imul, 1) := by decide +kernel
theorem dX8_putWord_28 : decode cX8_putWord 28 = .ok (.iload_n 2, 1) := by decide +kernel
theorem dX8_putWord_29 : decode cX8_putWord 29 = .ok (.iadd, 1) := by decide +kernel
theorem dX8_putWord_30 : decode cX8_putWord 30 = .ok (.iload_n 3, 1) := by decide +kernel
theorem dX8_putWord_31 : decode cX8_putWord 31 = .ok (.iastore, 1) := by decide +kernel
theorem dX8_putWord_32 : decode cX8_putWord 32 = .ok (.return_, 1) := by decide +kernel
theorem dX8_findFault_0 : decode cX8_findFault 0 = .ok (.aload_n 0, 1) := by decide +kernel
theorem dX8_findFault_1 : decode cX8_findFault 1 = .ok (.iconst 0, 1) := by decide +kernel
theorem dX8_findFault_2 : decode cX8_findFault 2 = .ok (.putfield 22, 3) := by decide +kernel
theorem dX8_findFault_5 : decode cX8_findFault 5 = .ok (.aload_n 0, 1) := by decide +kernel
theorem dX8_findFault_6 : decode cX8_findFault 6 = .ok (.iconst 0, 1) := by decide +kernel
theorem dX8_findFault_7 : decode cX8_findFault 7 = .ok (.putfield 31, 3) := by decide +kernel
theorem dX8_findFault_10 : decode cX8_findFault 10 = .ok (.aload_n 0, 1) := by decide +kernel
theorem dX8_findFault_11 : decode cX8_findFault 11 = .ok (.invokevirtual 34, 3) := by decide +kernel
theorem dX8_findFault_14 : decode cX8_findFault 14 = .ok (.iconst 0, 1) := by decide +kernel
theorem dX8_findFault_15 : decode cX8_findFault 15 = .ok (.istore_n 1, 1) := by decide +kernel
theorem dX8_findFault_16 : decode cX8_findFault 16 = .ok (.iload_n 1, 1) := by decide +kernel
theorem dX8_findFault_17 : decode cX8_findFault 17 = .ok (.bipush 24, 2) := by decide +kernel
theorem dX8_findFault_19 : decode cX8_findFault 19 = .ok (.if_icmp .ge 65, 3) := by decide +kernel
theorem dX8_findFault_22 : decode cX8_findFault 22 = .ok (.aload_n 0, 1) := by decide +kernel
theorem dX8_findFault_23 : decode cX8_findFault 23 = .ok (.iload_n 1, 1) := by decide +kernel
theorem dX8_findFault_24 : decode cX8_findFault 24 = .ok (.invokevirtual 37, 3) := by decide +kernel
theorem dX8_findFault_27 : decode cX8_findFault 27 = .ok (.ifCond .ne 8, 3) := by decide +kernel
theorem dX8_findFault_30 : decode cX8_findFault 30 = .ok (.aload_n 0, 1) := by decide +kernel
theorem dX8_findFault_31 : decode cX8_findFault 31 = .ok (.getfield 28, 3) := by decide +kernel
theorem dX8_findFault_34 : decode cX8_findFault 34 = .ok (.ireturn, 1) := by decide +kernel
theorem dX8_findFault_35 : decode cX8_findFault 35 = .ok (.aload_n 0, 1) := by decide +kernel
theorem dX8_findFault_36 : decode cX8_findFault 36 = .ok (.iload_n 1, 1) := by decide +kernel
theorem dX8_findFault_37 : decode cX8_findFault 37 = .ok (.iconst 1, 1) := by decide +kernel
theorem dX8_findFault_38 : decode cX8_findFault 38 = .ok (.iadd, 1) := by decide +kernel
theorem dX8_findFault_39 : decode cX8_findFault 39 = .ok (.putfield 22, 3) := by decide +kernel
theorem dX8_findFault_42 : decode cX8_findFault 42 = .ok (.aload_n 0, 1) := by decide +kernel
theorem dX8_findFault_43 : decode cX8_findFault 43 = .ok (.getfield 25, 3) := by decide +kernel
theorem dX8_findFault_46 : decode cX8_findFault 46 = .ok (.ifCond .ne 5, 3) := by decide +kernel
theorem dX8_findFault_49 : decode cX8_findFault 49 = .ok (.iconst (-1), 1) := by decide +kernel
theorem dX8_findFault_50 : decode cX8_findFault 50 = .ok (.ireturn, 1) := by decide +kernel
theorem dX8_findFault_51 : decode cX8_findFault 51 = .ok (.aload_n 0, 1) := by decide +kernel
theorem dX8_findFault_52 : decode cX8_findFault 52 = .ok (.bipush 59, 2) := by decide +kernel
theorem dX8_findFault_54 : decode cX8_findFault 54 = .ok (.invokevirtual 41, 3) := by decide +kernel
theorem dX8_findFault_57 : decode cX8_findFault 57 = .ok (.ifCond .eq 12, 3) := by decide +kernel
theorem dX8_findFault_60 : decode cX8_findFault 60 = .ok (.aload_n 0, 1) := by decide +kernel
theorem dX8_findFault_61 : decode cX8_findFault 61 = .ok (.getfield 22, 3) := by decide +kernel
theorem dX8_findFault_64 : decode cX8_findFault 64 = .ok (.bipush 24, 2) := by decide +kernel
theorem dX8_findFault_66 : decode cX8_findFault 66 = .ok (.if_icmp .ne 8, 3) := by decide +kernel
theorem dX8_findFault_69 : decode cX8_findFault 69 = .ok (.aload_n 0, 1) := by decide +kernel
theorem dX8_findFault_70 : decode cX8_findFault 70 = .ok (.getfield 28, 3) := by decide +kernel
theorem dX8_findFault_73 : decode cX8_findFault 73 = .ok (.ireturn, 1) := by decide +kernel
theorem dX8_findFault_74 : decode cX8_findFault 74 = .ok (.aload_n 0, 1) := by decide +kernel
theorem dX8_findFault_75 : decode cX8_findFault 75 = .ok (.invokevirtual 34, 3) := by decide +kernel
theorem dX8_findFault_78 : decode cX8_findFault 78 = .ok (.iinc 1 1, 3) := by decide +kernel
theorem dX8_findFault_81 : decode cX8_findFault 81 = .ok (.goto (-65), 3) := by decide +kernel
theorem dX8_findFault_84 : decode cX8_findFault 84 = .ok (.aload_n 0, 1) := by decide +kernel
theorem dX8_findFault_85 : decode cX8_findFault 85 = .ok (.getfield 28, 3) := by decide +kernel
theorem dX8_findFault_88 : decode cX8_findFault 88 = .ok (.ireturn, 1) := by decide +kernel
theorem dX8_readClause_0 : decode cX8_readClause 0 = .ok (.aload_n 0, 1) := by decide +kernel
theorem dX8_readClause_1 : decode cX8_readClause 1 = .ok (.iload_n 1, 1) := by decide +kernel
theorem dX8_readClause_2 : decode cX8_readClause 2 = .ok (.iconst 1, 1) := by decide +kernel
theorem dX8_readClause_3 : decode cX8_readClause 3 = .ok (.iconst 0, 1) := by decide +kernel
theorem dX8_readClause_4 : decode cX8_readClause 4 = .ok (.invokevirtual 45, 3) := by decide +kernel
theorem dX8_readClause_7 : decode cX8_readClause 7 = .ok (.aload_n 0, 1) := by decide +kernel
theorem dX8_readClause_8 : decode cX8_readClause 8 = .ok (.ldc 49, 2) := by decide +kernel
theorem dX8_readClause_10 : decode cX8_readClause 10 = .ok (.invokevirtual 51, 3) := by decide +kernel
theorem dX8_readClause_13 : decode cX8_readClause 13 = .ok (.ifCond .eq 16, 3) := by decide +kernel
theorem dX8_readClause_16 : decode cX8_readClause 16 = .ok (.aload_n 0, 1) := by decide +kernel
theorem dX8_readClause_17 : decode cX8_readClause 17 = .ok (.iload_n 1, 1) := by decide +kernel
theorem dX8_readClause_18 : decode cX8_readClause 18 = .ok (.iconst 0, 1) := by decide +kernel
theorem dX8_readClause_19 : decode cX8_readClause 19 = .ok (.iconst 0, 1) := by decide +kernel
theorem dX8_readClause_20 : decode cX8_readClause 20 = .ok (.invokevirtual 45, 3) := by decide +kernel
theorem dX8_readClause_23 : decode cX8_readClause 23 = .ok (.aload_n 0, 1) := by decide +kernel
theorem dX8_readClause_24 : decode cX8_readClause 24 = .ok (.invokevirtual 34, 3) := by decide +kernel
theorem dX8_readClause_27 : decode cX8_readClause 27 = .ok (.iconst 1, 1) := by decide +kernel
theorem dX8_readClause_28 : decode cX8_readClause 28 = .ok (.ireturn, 1) := by decide +kernel
theorem dX8_readClause_29 : decode cX8_readClause 29 = .ok (.aload_n 0, 1) := by decide +kernel
theorem dX8_readClause_30 : decode cX8_readClause 30 = .ok (.ldc 55, 2) := by decide +kernel
theorem dX8_readClause_32 : decode cX8_readClause 32 = .ok (.invokevirtual 51, 3) := by decide +kernel
theorem dX8_readClause_35 : decode cX8_readClause 35 = .ok (.ifCond .eq 38, 3) := by decide +kernel
theorem dX8_readClause_38 : decode cX8_readClause 38 = .ok (.aload_n 0, 1) := by decide +kernel
theorem dX8_readClause_39 : decode cX8_readClause 39 = .ok (.iload_n 1, 1) := by decide +kernel
theorem dX8_readClause_40 : decode cX8_readClause 40 = .ok (.iconst 0, 1) := by decide +kernel
theorem dX8_readClause_41 : decode cX8_readClause 41 = .ok (.iconst 1, 1) := by decide +kernel
theorem dX8_readClause_42 : decode cX8_readClause 42 = .ok (.invokevirtual 45, 3) := by decide +kernel
theorem dX8_readClause_45 : decode cX8_readClause 45 = .ok (.aload_n 0, 1) := by decide +kernel
theorem dX8_readClause_46 : decode cX8_readClause 46 = .ok (.invokevirtual 34, 3) := by decide +kernel
theorem dX8_readClause_49 : decode cX8_readClause 49 = .ok (.aload_n 0, 1) := by decide +kernel
theorem dX8_readClause_50 : decode cX8_readClause 50 = .ok (.iload_n 1, 1) := by decide +kernel
theorem dX8_readClause_51 : decode cX8_readClause 51 = .ok (.iconst 1, 1) := by decide +kernel
theorem dX8_readClause_52 : decode cX8_readClause 52 = .ok (.iconst 5, 1) := by decide +kernel
theorem dX8_readClause_53 : decode cX8_readClause 53 = .ok (.invokevirtual 57, 3) := by decide +kernel
theorem dX8_readClause_56 : decode cX8_readClause 56 = .ok (.ifCond .eq 15, 3) := by decide +kernel
theorem dX8_readClause_59 : decode cX8_readClause 59 = .ok (.aload_n 0, 1) := by decide +kernel
theorem dX8_readClause_60 : decode cX8_readClause 60 = .ok (.iload_n 1, 1) := by decide +kernel
theorem dX8_readClause_61 : decode cX8_readClause 61 = .ok (.invokevirtual 61, 3) := by decide +kernel
theorem dX8_readClause_64 : decode cX8_readClause 64 = .ok (.ifCond .eq 7, 3) := by decide +kernel
theorem dX8_readClause_67 : decode cX8_readClause 67 = .ok (.iconst 1, 1) := by decide +kernel
theorem dX8_readClause_68 : decode cX8_readClause 68 = .ok (.goto 4, 3) := by decide +kernel
theorem dX8_readClause_71 : decode cX8_readClause 71 = .ok (.iconst 0, 1) := by decide +kernel
theorem dX8_readClause_72 : decode cX8_readClause 72 = .ok (.ireturn, 1) := by decide +kernel
theorem dX8_readClause_73 : decode cX8_readClause 73 = .ok (.aload_n 0, 1) := by decide +kernel
theorem dX8_readClause_74 : decode cX8_readClause 74 = .ok (.ldc 64, 2) := by decide +kernel
theorem dX8_readClause_76 : decode cX8_readClause 76 = .ok (.invokevirtual 51, 3) := by decide +kernel
theorem dX8_readClause_79 : decode cX8_readClause 79 = .ok (.ifCond .eq 41, 3) := by decide +kernel
theorem dX8_readClause_82 : decode cX8_readClause 82 = .ok (.aload_n 0, 1) := by decide +kernel
theorem dX8_readClause_83 : decode cX8_readClause 83 = .ok (.iload_n 1, 1) := by decide +kernel
theorem dX8_readClause_84 : decode cX8_readClause 84 = .ok (.iconst 0, 1) := by decide +kernel
theorem dX8_readClause_85 : decode cX8_readClause 85 = .ok (.iconst 2, 1) := by decide +kernel
theorem dX8_readClause_86 : decode cX8_readClause 86 = .ok (.invokevirtual 45, 3) := by decide +kernel
theorem dX8_readClause_89 : decode cX8_readClause 89 = .ok (.aload_n 0, 1) := by decide +kernel
theorem dX8_readClause_90 : decode cX8_readClause 90 = .ok (.invokevirtual 34, 3) := by decide +kernel
theorem dX8_readClause_93 : decode cX8_readClause 93 = .ok (.aload_n 0, 1) := by decide +kernel
theorem dX8_readClause_94 : decode cX8_readClause 94 = .ok (.iload_n 1, 1) := by decide +kernel
theorem dX8_readClause_95 : decode cX8_readClause 95 = .ok (.iconst 1, 1) := by decide +kernel
theorem dX8_readClause_96 : decode cX8_readClause 96 = .ok (.iconst 5, 1) := by decide +kernel
theorem dX8_readClause_97 : decode cX8_readClause 97 = .ok (.invokevirtual 57, 3) := by decide +kernel
theorem dX8_readClause_100 : decode cX8_readClause 100 = .ok (.ifCond .eq 18, 3) := by decide +kernel
theorem dX8_readClause_103 : decode cX8_readClause 103 = .ok (.aload_n 0, 1) := by decide +kernel
theorem dX8_readClause_104 : decode cX8_readClause 104 = .ok (.iload_n 1, 1) := by decide +kernel
theorem dX8_readClause_105 : decode cX8_readClause 105 = .ok (.iconst 2, 1) := by decide +kernel
theorem dX8_readClause_106 : decode cX8_readClause 106 = .ok (.bipush 23, 2) := by decide +kernel
theorem dX8_readClause_108 : decode cX8_readClause 108 = .ok (.invokevirtual 57, 3) := by decide +kernel
theorem dX8_readClause_111 : decode cX8_readClause 111 = .ok (.ifCond .eq 7, 3) := by decide +kernel
theorem dX8_readClause_114 : decode cX8_readClause 114 = .ok (.iconst 1, 1) := by decide +kernel
theorem dX8_readClause_115 : decode cX8_readClause 115 = .ok (.goto 4, 3) := by decide +kernel
theorem dX8_readClause_118 : decode cX8_readClause 118 = .ok (.iconst 0, 1) := by decide +kernel
theorem dX8_readClause_119 : decode cX8_readClause 119 = .ok (.ireturn, 1) := by decide +kernel
theorem dX8_readClause_120 : decode cX8_readClause 120 = .ok (.aload_n 0, 1) := by decide +kernel
theorem dX8_readClause_121 : decode cX8_readClause 121 = .ok (.ldc 66, 2) := by decide +kernel
theorem dX8_readClause_123 : decode cX8_readClause 123 = .ok (.invokevirtual 51, 3) := by decide +kernel
theorem dX8_readClause_126 : decode cX8_readClause 126 = .ok (.ifCond .eq 40, 3) := by decide +kernel
theorem dX8_readClause_129 : decode cX8_readClause 129 = .ok (.aload_n 0, 1) := by decide +kernel
theorem dX8_readClause_130 : decode cX8_readClause 130 = .ok (.iload_n 1, 1) := by decide +kernel
theorem dX8_readClause_131 : decode cX8_readClause 131 = .ok (.iconst 0, 1) := by decide +kernel
theorem dX8_readClause_132 : decode cX8_readClause 132 = .ok (.iconst 3, 1) := by decide +kernel
theorem dX8_readClause_133 : decode cX8_readClause 133 = .ok (.invokevirtual 45, 3) := by decide +kernel
theorem dX8_readClause_136 : decode cX8_readClause 136 = .ok (.aload_n 0, 1) := by decide +kernel
theorem dX8_readClause_137 : decode cX8_readClause 137 = .ok (.invokevirtual 34, 3) := by decide +kernel
theorem dX8_readClause_140 : decode cX8_readClause 140 = .ok (.aload_n 0, 1) := by decide +kernel
theorem dX8_readClause_141 : decode cX8_readClause 141 = .ok (.iload_n 1, 1) := by decide +kernel
theorem dX8_readClause_142 : decode cX8_readClause 142 = .ok (.iconst 1, 1) := by decide +kernel
theorem dX8_readClause_143 : decode cX8_readClause 143 = .ok (.iconst 5, 1) := by decide +kernel
theorem dX8_readClause_144 : decode cX8_readClause 144 = .ok (.invokevirtual 57, 3) := by decide +kernel
theorem dX8_readClause_147 : decode cX8_readClause 147 = .ok (.ifCond .eq 17, 3) := by decide +kernel
theorem dX8_readClause_150 : decode cX8_readClause 150 = .ok (.aload_n 0, 1) := by decide +kernel
theorem dX8_readClause_151 : decode cX8_readClause 151 = .ok (.iload_n 1, 1) := by decide +kernel
theorem dX8_readClause_152 : decode cX8_readClause 152 = .ok (.iconst 2, 1) := by decide +kernel
theorem dX8_readClause_153 : decode cX8_readClause 153 = .ok (.iconst 5, 1) := by decide +kernel
theorem dX8_readClause_154 : decode cX8_readClause 154 = .ok (.invokevirtual 57, 3) := by decide +kernel
theorem dX8_readClause_157 : decode cX8_readClause 157 = .ok (.ifCond .eq 7, 3) := by decide +kernel
theorem dX8_readClause_160 : decode cX8_readClause 160 = .ok (.iconst 1, 1) := by decide +kernel
theorem dX8_readClause_161 : decode cX8_readClause 161 = .ok (.goto 4, 3) := by decide +kernel
theorem dX8_readClause_164 : decode cX8_readClause 164 = .ok (.iconst 0, 1) := by decide +kernel
theorem dX8_readClause_165 : decode cX8_readClause 165 = .ok (.ireturn, 1) := by decide +kernel
theorem dX8_readClause_166 : decode cX8_readClause 166 = .ok (.iconst 0, 1) := by decide +kernel
theorem dX8_readClause_167 : decode cX8_readClause 167 = .ok (.ireturn, 1) := by decide +kernel
theorem dX8_readNumber_0 : decode cX8_readNumber 0 = .ok (.aload_n 0, 1) := by decide +kernel
theorem dX8_readNumber_1 : decode cX8_readNumber 1 = .ok (.iload_n 3, 1) := by decide +kernel
theorem dX8_readNumber_2 : decode cX8_readNumber 2 = .ok (.invokevirtual 68, 3) := by decide +kernel
theorem dX8_readNumber_5 : decode cX8_readNumber 5 = .ok (.istore 4, 2) := by decide +kernel
theorem dX8_readNumber_7 : decode cX8_readNumber 7 = .ok (.iload 4, 2) := by decide +kernel
theorem dX8_readNumber_9 : decode cX8_readNumber 9 = .ok (.ifCond .ge 5, 3) := by decide +kernel
theorem dX8_readNumber_12 : decode cX8_readNumber 12 = .ok (.iconst 0, 1) := by decide +kernel
theorem dX8_readNumber_13 : decode cX8_readNumber 13 = .ok (.ireturn, 1) := by decide +kernel
theorem dX8_readNumber_14 : decode cX8_readNumber 14 = .ok (.aload_n 0, 1) := by decide +kernel
theorem dX8_readNumber_15 : decode cX8_readNumber 15 = .ok (.iload_n 1, 1) := by decide +kernel
theorem dX8_readNumber_16 : decode cX8_readNumber 16 = .ok (.iload_n 2, 1) := by decide +kernel
theorem dX8_readNumber_17 : decode cX8_readNumber 17 = .ok (.iload 4, 2) := by decide +kernel
theorem dX8_readNumber_19 : decode cX8_readNumber 19 = .ok (.invokevirtual 45, 3) := by decide +kernel
theorem dX8_readNumber_22 : decode cX8_readNumber 22 = .ok (.aload_n 0, 1) := by decide +kernel
theorem dX8_readNumber_23 : decode cX8_readNumber 23 = .ok (.invokevirtual 34, 3) := by decide +kernel
theorem dX8_readNumber_26 : decode cX8_readNumber 26 = .ok (.iconst 1, 1) := by decide +kernel
theorem dX8_readNumber_27 : decode cX8_readNumber 27 = .ok (.ireturn, 1) := by decide +kernel
theorem dX8_readParts_0 : decode cX8_readParts 0 = .ok (.iconst 0, 1) := by decide +kernel
theorem dX8_readParts_1 : decode cX8_readParts 1 = .ok (.istore_n 2, 1) := by decide +kernel
theorem dX8_readParts_2 : decode cX8_readParts 2 = .ok (.iconst 0, 1) := by decide +kernel
theorem dX8_readParts_3 : decode cX8_readParts 3 = .ok (.istore_n 3, 1) := by decide +kernel
theorem dX8_readParts_4 : decode cX8_readParts 4 = .ok (.iconst 0, 1) := by decide +kernel
theorem dX8_readParts_5 : decode cX8_readParts 5 = .ok (.istore 4, 2) := by decide +kernel
theorem dX8_readParts_7 : decode cX8_readParts 7 = .ok (.iload 4, 2) := by decide +kernel
theorem dX8_readParts_9 : decode cX8_readParts 9 = .ok (.iconst 4, 1) := by decide +kernel
theorem dX8_readParts_10 : decode cX8_readParts 10 = .ok (.if_icmp .ge 111, 3) := by decide +kernel
theorem dX8_readParts_13 : decode cX8_readParts 13 = .ok (.aload_n 0, 1) := by decide +kernel
theorem dX8_readParts_14 : decode cX8_readParts 14 = .ok (.bipush 45, 2) := by decide +kernel
theorem dX8_readParts_16 : decode cX8_readParts 16 = .ok (.invokevirtual 41, 3) := by decide +kernel
theorem dX8_readParts_19 : decode cX8_readParts 19 = .ok (.istore 5, 2) := by decide +kernel
theorem dX8_readParts_21 : decode cX8_readParts 21 = .ok (.iload 5, 2) := by decide +kernel
theorem dX8_readParts_23 : decode cX8_readParts 23 = .ok (.ifCond .eq 7, 3) := by decide +kernel
theorem dX8_readParts_26 : decode cX8_readParts 26 = .ok (.aload_n 0, 1) := by decide +kernel
theorem dX8_readParts_27 : decode cX8_readParts 27 = .ok (.invokevirtual 34, 3) := by decide +kernel
theorem dX8_readParts_30 : decode cX8_readParts 30 = .ok (.aload_n 0, 1) := by decide +kernel
theorem dX8_readParts_31 : decode cX8_readParts 31 = .ok (.bipush 24, 2) := by decide +kernel
theorem dX8_readParts_33 : decode cX8_readParts 33 = .ok (.invokevirtual 68, 3) := by decide +kernel
theorem dX8_readParts_36 : decode cX8_readParts 36 = .ok (.istore 6, 2) := by decide +kernel
theorem dX8_readParts_38 : decode cX8_readParts 38 = .ok (.iload 6, 2) := by decide +kernel
theorem dX8_readParts_40 : decode cX8_readParts 40 = .ok (.ifCond .ge 5, 3) := by decide +kernel
theorem dX8_readParts_43 : decode cX8_readParts 43 = .ok (.iconst 0, 1) := by decide +kernel
theorem dX8_readParts_44 : decode cX8_readParts 44 = .ok (.ireturn, 1) := by decide +kernel
theorem dX8_readParts_45 : decode cX8_readParts 45 = .ok (.iload 4, 2) := by decide +kernel
theorem dX8_readParts_47 : decode cX8_readParts 47 = .ok (.ifCond .ne 8, 3) := by decide +kernel
theorem dX8_readParts_50 : decode cX8_readParts 50 = .ok (.iload 6, 2) := by decide +kernel
theorem dX8_readParts_52 : decode cX8_readParts 52 = .ok (.goto 4, 3) := by decide +kernel
theorem dX8_readParts_55 : decode cX8_readParts 55 = .ok (.iload_n 2, 1) := by decide +kernel
theorem dX8_readParts_56 : decode cX8_readParts 56 = .ok (.istore_n 2, 1) := by decide +kernel
theorem dX8_readParts_57 : decode cX8_readParts 57 = .ok (.iload_n 3, 1) := by decide +kernel
theorem dX8_readParts_58 : decode cX8_readParts 58 = .ok (.iload 6, 2) := by decide +kernel
theorem dX8_readParts_60 : decode cX8_readParts 60 = .ok (.iload 6, 2) := by decide +kernel
theorem dX8_readParts_62 : decode cX8_readParts 62 = .ok (.imul, 1) := by decide +kernel
theorem dX8_readParts_63 : decode cX8_readParts 63 = .ok (.iadd, 1) := by decide +kernel
theorem dX8_readParts_64 : decode cX8_readParts 64 = .ok (.istore_n 3, 1) := by decide +kernel
theorem dX8_readParts_65 : decode cX8_readParts 65 = .ok (.iload 6, 2) := by decide +kernel
theorem dX8_readParts_67 : decode cX8_readParts 67 = .ok (.iload_n 2, 1) := by decide +kernel
theorem dX8_readParts_68 : decode cX8_readParts 68 = .ok (.ixor, 1) := by decide +kernel
theorem dX8_readParts_69 : decode cX8_readParts 69 = .ok (.iconst 1, 1) := by decide +kernel
theorem dX8_readParts_70 : decode cX8_readParts 70 = .ok (.iand, 1) := by decide +kernel
theorem dX8_readParts_71 : decode cX8_readParts 71 = .ok (.ifCond .ne 16, 3) := by decide +kernel
theorem dX8_readParts_74 : decode cX8_readParts 74 = .ok (.iload 4, 2) := by decide +kernel
theorem dX8_readParts_76 : decode cX8_readParts 76 = .ok (.iconst 3, 1) := by decide +kernel
theorem dX8_readParts_77 : decode cX8_readParts 77 = .ok (.if_icmp .ne 12, 3) := by decide +kernel
theorem dX8_readParts_80 : decode cX8_readParts 80 = .ok (.iload_n 3, 1) := by decide +kernel
theorem dX8_readParts_81 : decode cX8_readParts 81 = .ok (.sipush 600, 3) := by decide +kernel
theorem dX8_readParts_84 : decode cX8_readParts 84 = .ok (.if_icmp .le 5, 3) := by decide +kernel
theorem dX8_readParts_87 : decode cX8_readParts 87 = .ok (.iconst 0, 1) := by decide +kernel
theorem dX8_readParts_88 : decode cX8_readParts 88 = .ok (.ireturn, 1) := by decide +kernel
theorem dX8_readParts_89 : decode cX8_readParts 89 = .ok (.aload_n 0, 1) := by decide +kernel
theorem dX8_readParts_90 : decode cX8_readParts 90 = .ok (.iload_n 1, 1) := by decide +kernel
theorem dX8_readParts_91 : decode cX8_readParts 91 = .ok (.iconst 2, 1) := by decide +kernel
theorem dX8_readParts_92 : decode cX8_readParts 92 = .ok (.iload 4, 2) := by decide +kernel
theorem dX8_readParts_94 : decode cX8_readParts 94 = .ok (.iadd, 1) := by decide +kernel
theorem dX8_readParts_95 : decode cX8_readParts 95 = .ok (.iload 5, 2) := by decide +kernel
theorem dX8_readParts_97 : decode cX8_readParts 97 = .ok (.ifCond .eq 9, 3) := by decide +kernel
theorem dX8_readParts_100 : decode cX8_readParts 100 = .ok (.iload 6, 2) := by decide +kernel
theorem dX8_readParts_102 : decode cX8_readParts 102 = .ok (.ineg, 1) := by decide +kernel
theorem dX8_readParts_103 : decode cX8_readParts 103 = .ok (.goto 5, 3) := by decide +kernel
theorem dX8_readParts_106 : decode cX8_readParts 106 = .ok (.iload 6, 2) := by decide +kernel
theorem dX8_readParts_108 : decode cX8_readParts 108 = .ok (.invokevirtual 45, 3) := by decide +kernel
theorem dX8_readParts_111 : decode cX8_readParts 111 = .ok (.aload_n 0, 1) := by decide +kernel
theorem dX8_readParts_112 : decode cX8_readParts 112 = .ok (.invokevirtual 34, 3) := by decide +kernel
theorem dX8_readParts_115 : decode cX8_readParts 115 = .ok (.iinc 4 1, 3) := by decide +kernel
theorem dX8_readParts_118 : decode cX8_readParts 118 = .ok (.goto (-111), 3) := by decide +kernel
theorem dX8_readParts_121 : decode cX8_readParts 121 = .ok (.iconst 1, 1) := by decide +kernel
theorem dX8_readParts_122 : decode cX8_readParts 122 = .ok (.ireturn, 1) := by decide +kernel
theorem dX8_tokenNumber_0 : decode cX8_tokenNumber 0 = .ok (.aload_n 0, 1) := by decide +kernel
theorem dX8_tokenNumber_1 : decode cX8_tokenNumber 1 = .ok (.getfield 31, 3) := by decide +kernel
theorem dX8_tokenNumber_4 : decode cX8_tokenNumber 4 = .ok (.aload_n 0, 1) := by decide +kernel
theorem dX8_tokenNumber_5 : decode cX8_tokenNumber 5 = .ok (.getfield 28, 3) := by decide +kernel
theorem dX8_tokenNumber_8 : decode cX8_tokenNumber 8 = .ok (.isub, 1) := by decide +kernel
theorem dX8_tokenNumber_9 : decode cX8_tokenNumber 9 = .ok (.istore_n 2, 1) := by decide +kernel
theorem dX8_tokenNumber_10 : decode cX8_tokenNumber 10 = .ok (.aload_n 0, 1) := by decide +kernel
theorem dX8_tokenNumber_11 : decode cX8_tokenNumber 11 = .ok (.getfield 25, 3) := by decide +kernel
theorem dX8_tokenNumber_14 : decode cX8_tokenNumber 14 = .ok (.iconst 2, 1) := by decide +kernel
theorem dX8_tokenNumber_15 : decode cX8_tokenNumber 15 = .ok (.if_icmp .ne 13, 3) := by decide +kernel
theorem dX8_tokenNumber_18 : decode cX8_tokenNumber 18 = .ok (.iload_n 2, 1) := by decide +kernel
theorem dX8_tokenNumber_19 : decode cX8_tokenNumber 19 = .ok (.iconst 1, 1) := by decide +kernel
theorem dX8_tokenNumber_20 : decode cX8_tokenNumber 20 = .ok (.if_icmp .lt 8, 3) := by decide +kernel
theorem dX8_tokenNumber_23 : decode cX8_tokenNumber 23 = .ok (.iload_n 2, 1) := by decide +kernel
theorem dX8_tokenNumber_24 : decode cX8_tokenNumber 24 = .ok (.iconst 2, 1) := by decide +kernel
theorem dX8_tokenNumber_25 : decode cX8_tokenNumber 25 = .ok (.if_icmp .le 5, 3) := by decide +kernel
theorem dX8_tokenNumber_28 : decode cX8_tokenNumber 28 = .ok (.iconst (-1), 1) := by decide +kernel
theorem dX8_tokenNumber_29 : decode cX8_tokenNumber 29 = .ok (.ireturn, 1) := by decide +kernel
theorem dX8_tokenNumber_30 : decode cX8_tokenNumber 30 = .ok (.aload_n 0, 1) := by decide +kernel
theorem dX8_tokenNumber_31 : decode cX8_tokenNumber 31 = .ok (.aload_n 0, 1) := by decide +kernel
theorem dX8_tokenNumber_32 : decode cX8_tokenNumber 32 = .ok (.getfield 28, 3) := by decide +kernel
theorem dX8_tokenNumber_35 : decode cX8_tokenNumber 35 = .ok (.invokevirtual 72, 3) := by decide +kernel
theorem dX8_tokenNumber_38 : decode cX8_tokenNumber 38 = .ok (.bipush 48, 2) := by decide +kernel
theorem dX8_tokenNumber_40 : decode cX8_tokenNumber 40 = .ok (.isub, 1) := by decide +kernel
theorem dX8_tokenNumber_41 : decode cX8_tokenNumber 41 = .ok (.istore_n 3, 1) := by decide +kernel
theorem dX8_tokenNumber_42 : decode cX8_tokenNumber 42 = .ok (.iload_n 2, 1) := by decide +kernel
theorem dX8_tokenNumber_43 : decode cX8_tokenNumber 43 = .ok (.iconst 2, 1) := by decide +kernel
theorem dX8_tokenNumber_44 : decode cX8_tokenNumber 44 = .ok (.if_icmp .ne 22, 3) := by decide +kernel
theorem dX8_tokenNumber_47 : decode cX8_tokenNumber 47 = .ok (.bipush 10, 2) := by decide +kernel
theorem dX8_tokenNumber_49 : decode cX8_tokenNumber 49 = .ok (.iload_n 3, 1) := by decide +kernel
theorem dX8_tokenNumber_50 : decode cX8_tokenNumber 50 = .ok (.imul, 1) := by decide +kernel
theorem dX8_tokenNumber_51 : decode cX8_tokenNumber 51 = .ok (.aload_n 0, 1) := by decide +kernel
theorem dX8_tokenNumber_52 : decode cX8_tokenNumber 52 = .ok (.aload_n 0, 1) := by decide +kernel
theorem dX8_tokenNumber_53 : decode cX8_tokenNumber 53 = .ok (.getfield 28, 3) := by decide +kernel
theorem dX8_tokenNumber_56 : decode cX8_tokenNumber 56 = .ok (.iconst 1, 1) := by decide +kernel
theorem dX8_tokenNumber_57 : decode cX8_tokenNumber 57 = .ok (.iadd, 1) := by decide +kernel
theorem dX8_tokenNumber_58 : decode cX8_tokenNumber 58 = .ok (.invokevirtual 72, 3) := by decide +kernel
theorem dX8_tokenNumber_61 : decode cX8_tokenNumber 61 = .ok (.iadd, 1) := by decide +kernel
theorem dX8_tokenNumber_62 : decode cX8_tokenNumber 62 = .ok (.bipush 48, 2) := by decide +kernel
theorem dX8_tokenNumber_64 : decode cX8_tokenNumber 64 = .ok (.isub, 1) := by decide +kernel
theorem dX8_tokenNumber_65 : decode cX8_tokenNumber 65 = .ok (.istore_n 3, 1) := by decide +kernel
theorem dX8_tokenNumber_66 : decode cX8_tokenNumber 66 = .ok (.iload_n 3, 1) := by decide +kernel
theorem dX8_tokenNumber_67 : decode cX8_tokenNumber 67 = .ok (.iload_n 1, 1) := by decide +kernel
theorem dX8_tokenNumber_68 : decode cX8_tokenNumber 68 = .ok (.if_icmp .gt 7, 3) := by decide +kernel
theorem dX8_tokenNumber_71 : decode cX8_tokenNumber 71 = .ok (.iload_n 3, 1) := by decide +kernel
theorem dX8_tokenNumber_72 : decode cX8_tokenNumber 72 = .ok (.goto 4, 3) := by decide +kernel
theorem dX8_tokenNumber_75 : decode cX8_tokenNumber 75 = .ok (.iconst (-1), 1) := by decide +kernel
theorem dX8_tokenNumber_76 : decode cX8_tokenNumber 76 = .ok (.ireturn, 1) := by decide +kernel
theorem dX8_isSign_0 : decode cX8_isSign 0 = .ok (.aload_n 0, 1) := by decide +kernel
theorem dX8_isSign_1 : decode cX8_isSign 1 = .ok (.getfield 25, 3) := by decide +kernel
theorem dX8_isSign_4 : decode cX8_isSign 4 = .ok (.iconst 3, 1) := by decide +kernel
theorem dX8_isSign_5 : decode cX8_isSign 5 = .ok (.if_icmp .ne 19, 3) := by decide +kernel
theorem dX8_isSign_8 : decode cX8_isSign 8 = .ok (.aload_n 0, 1) := by decide +kernel
theorem dX8_isSign_9 : decode cX8_isSign 9 = .ok (.aload_n 0, 1) := by decide +kernel
theorem dX8_isSign_10 : decode cX8_isSign 10 = .ok (.getfield 28, 3) := by decide +kernel
theorem dX8_isSign_13 : decode cX8_isSign 13 = .ok (.invokevirtual 72, 3) := by decide +kernel
theorem dX8_isSign_16 : decode cX8_isSign 16 = .ok (.iload_n 1, 1) := by decide +kernel
theorem dX8_isSign_17 : decode cX8_isSign 17 = .ok (.if_icmp .ne 7, 3) := by decide +kernel
theorem dX8_isSign_20 : decode cX8_isSign 20 = .ok (.iconst 1, 1) := by decide +kernel
theorem dX8_isSign_21 : decode cX8_isSign 21 = .ok (.goto 4, 3) := by decide +kernel
theorem dX8_isSign_24 : decode cX8_isSign 24 = .ok (.iconst 0, 1) := by decide +kernel
theorem dX8_isSign_25 : decode cX8_isSign 25 = .ok (.ireturn, 1) := by decide +kernel
theorem dX8_isName_0 : decode cX8_isName 0 = .ok (.aload_n 0, 1) := by decide +kernel
theorem dX8_isName_1 : decode cX8_isName 1 = .ok (.getfield 25, 3) := by decide +kernel
theorem dX8_isName_4 : decode cX8_isName 4 = .ok (.iconst 1, 1) := by decide +kernel
theorem dX8_isName_5 : decode cX8_isName 5 = .ok (.if_icmp .ne 19, 3) := by decide +kernel
theorem dX8_isName_8 : decode cX8_isName 8 = .ok (.aload_n 0, 1) := by decide +kernel
theorem dX8_isName_9 : decode cX8_isName 9 = .ok (.getfield 31, 3) := by decide +kernel
theorem dX8_isName_12 : decode cX8_isName 12 = .ok (.aload_n 0, 1) := by decide +kernel
theorem dX8_isName_13 : decode cX8_isName 13 = .ok (.getfield 28, 3) := by decide +kernel
theorem dX8_isName_16 : decode cX8_isName 16 = .ok (.isub, 1) := by decide +kernel
theorem dX8_isName_17 : decode cX8_isName 17 = .ok (.aload_n 1, 1) := by decide +kernel
theorem dX8_isName_18 : decode cX8_isName 18 = .ok (.invokevirtual 75, 3) := by decide +kernel
theorem dX8_isName_21 : decode cX8_isName 21 = .ok (.if_icmp .eq 5, 3) := by decide +kernel
theorem dX8_isName_24 : decode cX8_isName 24 = .ok (.iconst 0, 1) := by decide +kernel
theorem dX8_isName_25 : decode cX8_isName 25 = .ok (.ireturn, 1) := by decide +kernel
theorem dX8_isName_26 : decode cX8_isName 26 = .ok (.iconst 0, 1) := by decide +kernel
theorem dX8_isName_27 : decode cX8_isName 27 = .ok (.istore_n 2, 1) := by decide +kernel
theorem dX8_isName_28 : decode cX8_isName 28 = .ok (.iload_n 2, 1) := by decide +kernel
theorem dX8_isName_29 : decode cX8_isName 29 = .ok (.aload_n 1, 1) := by decide +kernel
theorem dX8_isName_30 : decode cX8_isName 30 = .ok (.invokevirtual 75, 3) := by decide +kernel
theorem dX8_isName_33 : decode cX8_isName 33 = .ok (.if_icmp .ge 29, 3) := by decide +kernel
theorem dX8_isName_36 : decode cX8_isName 36 = .ok (.aload_n 0, 1) := by decide +kernel
theorem dX8_isName_37 : decode cX8_isName 37 = .ok (.aload_n 0, 1) := by decide +kernel
theorem dX8_isName_38 : decode cX8_isName 38 = .ok (.getfield 28, 3) := by decide +kernel
theorem dX8_isName_41 : decode cX8_isName 41 = .ok (.iload_n 2, 1) := by decide +kernel
theorem dX8_isName_42 : decode cX8_isName 42 = .ok (.iadd, 1) := by decide +kernel
theorem dX8_isName_43 : decode cX8_isName 43 = .ok (.invokevirtual 72, 3) := by decide +kernel
theorem dX8_isName_46 : decode cX8_isName 46 = .ok (.aload_n 1, 1) := by decide +kernel
theorem dX8_isName_47 : decode cX8_isName 47 = .ok (.iload_n 2, 1) := by decide +kernel
theorem dX8_isName_48 : decode cX8_isName 48 = .ok (.invokevirtual 81, 3) := by decide +kernel
theorem dX8_isName_51 : decode cX8_isName 51 = .ok (.if_icmp .eq 5, 3) := by decide +kernel
theorem dX8_isName_54 : decode cX8_isName 54 = .ok (.iconst 0, 1) := by decide +kernel
theorem dX8_isName_55 : decode cX8_isName 55 = .ok (.ireturn, 1) := by decide +kernel
theorem dX8_isName_56 : decode cX8_isName 56 = .ok (.iinc 2 1, 3) := by decide +kernel
theorem dX8_isName_59 : decode cX8_isName 59 = .ok (.goto (-31), 3) := by decide +kernel
theorem dX8_isName_62 : decode cX8_isName 62 = .ok (.iconst 1, 1) := by decide +kernel
theorem dX8_isName_63 : decode cX8_isName 63 = .ok (.ireturn, 1) := by decide +kernel
theorem dX8_nextToken_0 : decode cX8_nextToken 0 = .ok (.aload_n 0, 1) := by decide +kernel
theorem dX8_nextToken_1 : decode cX8_nextToken 1 = .ok (.aload_n 0, 1) := by decide +kernel
theorem dX8_nextToken_2 : decode cX8_nextToken 2 = .ok (.getfield 31, 3) := by decide +kernel
theorem dX8_nextToken_5 : decode cX8_nextToken 5 = .ok (.putfield 28, 3) := by decide +kernel
theorem dX8_nextToken_8 : decode cX8_nextToken 8 = .ok (.iconst 0, 1) := by decide +kernel
theorem dX8_nextToken_9 : decode cX8_nextToken 9 = .ok (.istore_n 1, 1) := by decide +kernel
theorem dX8_nextToken_10 : decode cX8_nextToken 10 = .ok (.iload_n 1, 1) := by decide +kernel
theorem dX8_nextToken_11 : decode cX8_nextToken 11 = .ok (.sipush 200, 3) := by decide +kernel
theorem dX8_nextToken_14 : decode cX8_nextToken 14 = .ok (.if_icmp .ge 32, 3) := by decide +kernel
theorem dX8_nextToken_17 : decode cX8_nextToken 17 = .ok (.aload_n 0, 1) := by decide +kernel
theorem dX8_nextToken_18 : decode cX8_nextToken 18 = .ok (.aload_n 0, 1) := by decide +kernel
theorem dX8_nextToken_19 : decode cX8_nextToken 19 = .ok (.getfield 28, 3) := by decide +kernel
theorem dX8_nextToken_22 : decode cX8_nextToken 22 = .ok (.invokevirtual 72, 3) := by decide +kernel
theorem dX8_nextToken_25 : decode cX8_nextToken 25 = .ok (.bipush 32, 2) := by decide +kernel
theorem dX8_nextToken_27 : decode cX8_nextToken 27 = .ok (.if_icmp .ne 19, 3) := by decide +kernel
theorem dX8_nextToken_30 : decode cX8_nextToken 30 = .ok (.aload_n 0, 1) := by decide +kernel
theorem dX8_nextToken_31 : decode cX8_nextToken 31 = .ok (.dup, 1) := by decide +kernel
theorem dX8_nextToken_32 : decode cX8_nextToken 32 = .ok (.getfield 28, 3) := by decide +kernel
theorem dX8_nextToken_35 : decode cX8_nextToken 35 = .ok (.iconst 1, 1) := by decide +kernel
theorem dX8_nextToken_36 : decode cX8_nextToken 36 = .ok (.iadd, 1) := by decide +kernel
theorem dX8_nextToken_37 : decode cX8_nextToken 37 = .ok (.putfield 28, 3) := by decide +kernel
theorem dX8_nextToken_40 : decode cX8_nextToken 40 = .ok (.iinc 1 1, 3) := by decide +kernel
theorem dX8_nextToken_43 : decode cX8_nextToken 43 = .ok (.goto (-33), 3) := by decide +kernel
theorem dX8_nextToken_46 : decode cX8_nextToken 46 = .ok (.aload_n 0, 1) := by decide +kernel
theorem dX8_nextToken_47 : decode cX8_nextToken 47 = .ok (.aload_n 0, 1) := by decide +kernel
theorem dX8_nextToken_48 : decode cX8_nextToken 48 = .ok (.getfield 28, 3) := by decide +kernel
theorem dX8_nextToken_51 : decode cX8_nextToken 51 = .ok (.putfield 31, 3) := by decide +kernel
theorem dX8_nextToken_54 : decode cX8_nextToken 54 = .ok (.aload_n 0, 1) := by decide +kernel
theorem dX8_nextToken_55 : decode cX8_nextToken 55 = .ok (.aload_n 0, 1) := by decide +kernel
theorem dX8_nextToken_56 : decode cX8_nextToken 56 = .ok (.aload_n 0, 1) := by decide +kernel
theorem dX8_nextToken_57 : decode cX8_nextToken 57 = .ok (.getfield 28, 3) := by decide +kernel
theorem dX8_nextToken_60 : decode cX8_nextToken 60 = .ok (.invokevirtual 85, 3) := by decide +kernel
theorem dX8_nextToken_63 : decode cX8_nextToken 63 = .ok (.putfield 25, 3) := by decide +kernel
theorem dX8_nextToken_66 : decode cX8_nextToken 66 = .ok (.aload_n 0, 1) := by decide +kernel
theorem dX8_nextToken_67 : decode cX8_nextToken 67 = .ok (.getfield 25, 3) := by decide +kernel
theorem dX8_nextToken_70 : decode cX8_nextToken 70 = .ok (.ifCond .ne 4, 3) := by decide +kernel
theorem dX8_nextToken_73 : decode cX8_nextToken 73 = .ok (.return_, 1) := by decide +kernel
theorem dX8_nextToken_74 : decode cX8_nextToken 74 = .ok (.aload_n 0, 1) := by decide +kernel
theorem dX8_nextToken_75 : decode cX8_nextToken 75 = .ok (.dup, 1) := by decide +kernel
theorem dX8_nextToken_76 : decode cX8_nextToken 76 = .ok (.getfield 31, 3) := by decide +kernel
theorem dX8_nextToken_79 : decode cX8_nextToken 79 = .ok (.iconst 1, 1) := by decide +kernel
theorem dX8_nextToken_80 : decode cX8_nextToken 80 = .ok (.iadd, 1) := by decide +kernel
theorem dX8_nextToken_81 : decode cX8_nextToken 81 = .ok (.putfield 31, 3) := by decide +kernel
theorem dX8_nextToken_84 : decode cX8_nextToken 84 = .ok (.aload_n 0, 1) := by decide +kernel
theorem dX8_nextToken_85 : decode cX8_nextToken 85 = .ok (.getfield 25, 3) := by decide +kernel
theorem dX8_nextToken_88 : decode cX8_nextToken 88 = .ok (.iconst 3, 1) := by decide +kernel
theorem dX8_nextToken_89 : decode cX8_nextToken 89 = .ok (.if_icmp .ne 4, 3) := by decide +kernel
theorem dX8_nextToken_92 : decode cX8_nextToken 92 = .ok (.return_, 1) := by decide +kernel
theorem dX8_nextToken_93 : decode cX8_nextToken 93 = .ok (.iconst 0, 1) := by decide +kernel
theorem dX8_nextToken_94 : decode cX8_nextToken 94 = .ok (.istore_n 1, 1) := by decide +kernel
theorem dX8_nextToken_95 : decode cX8_nextToken 95 = .ok (.iload_n 1, 1) := by decide +kernel
theorem dX8_nextToken_96 : decode cX8_nextToken 96 = .ok (.sipush 200, 3) := by decide +kernel
theorem dX8_nextToken_99 : decode cX8_nextToken 99 = .ok (.if_icmp .ge 34, 3) := by decide +kernel
theorem dX8_nextToken_102 : decode cX8_nextToken 102 = .ok (.aload_n 0, 1) := by decide +kernel
theorem dX8_nextToken_103 : decode cX8_nextToken 103 = .ok (.aload_n 0, 1) := by decide +kernel
theorem dX8_nextToken_104 : decode cX8_nextToken 104 = .ok (.getfield 31, 3) := by decide +kernel
theorem dX8_nextToken_107 : decode cX8_nextToken 107 = .ok (.invokevirtual 85, 3) := by decide +kernel
theorem dX8_nextToken_110 : decode cX8_nextToken 110 = .ok (.aload_n 0, 1) := by decide +kernel
theorem dX8_nextToken_111 : decode cX8_nextToken 111 = .ok (.getfield 25, 3) := by decide +kernel
theorem dX8_nextToken_114 : decode cX8_nextToken 114 = .ok (.if_icmp .ne 19, 3) := by decide +kernel
theorem dX8_nextToken_117 : decode cX8_nextToken 117 = .ok (.aload_n 0, 1) := by decide +kernel
theorem dX8_nextToken_118 : decode cX8_nextToken 118 = .ok (.dup, 1) := by decide +kernel
theorem dX8_nextToken_119 : decode cX8_nextToken 119 = .ok (.getfield 31, 3) := by decide +kernel
theorem dX8_nextToken_122 : decode cX8_nextToken 122 = .ok (.iconst 1, 1) := by decide +kernel
theorem dX8_nextToken_123 : decode cX8_nextToken 123 = .ok (.iadd, 1) := by decide +kernel
theorem dX8_nextToken_124 : decode cX8_nextToken 124 = .ok (.putfield 31, 3) := by decide +kernel
theorem dX8_nextToken_127 : decode cX8_nextToken 127 = .ok (.iinc 1 1, 3) := by decide +kernel
theorem dX8_nextToken_130 : decode cX8_nextToken 130 = .ok (.goto (-35), 3) := by decide +kernel
theorem dX8_nextToken_133 : decode cX8_nextToken 133 = .ok (.return_, 1) := by decide +kernel
theorem dX8_letterAt_0 : decode cX8_letterAt 0 = .ok (.iload_n 1, 1) := by decide +kernel
theorem dX8_letterAt_1 : decode cX8_letterAt 1 = .ok (.ifCond .lt 27, 3) := by decide +kernel
theorem dX8_letterAt_4 : decode cX8_letterAt 4 = .ok (.iload_n 1, 1) := by decide +kernel
theorem dX8_letterAt_5 : decode cX8_letterAt 5 = .ok (.aload_n 0, 1) := by decide +kernel
theorem dX8_letterAt_6 : decode cX8_letterAt 6 = .ok (.getfield 18, 3) := by decide +kernel
theorem dX8_letterAt_9 : decode cX8_letterAt 9 = .ok (.if_icmp .ge 19, 3) := by decide +kernel
theorem dX8_letterAt_12 : decode cX8_letterAt 12 = .ok (.iload_n 1, 1) := by decide +kernel
theorem dX8_letterAt_13 : decode cX8_letterAt 13 = .ok (.sipush 200, 3) := by decide +kernel
theorem dX8_letterAt_16 : decode cX8_letterAt 16 = .ok (.if_icmp .ge 12, 3) := by decide +kernel
theorem dX8_letterAt_19 : decode cX8_letterAt 19 = .ok (.aload_n 0, 1) := by decide +kernel
theorem dX8_letterAt_20 : decode cX8_letterAt 20 = .ok (.getfield 11, 3) := by decide +kernel
theorem dX8_letterAt_23 : decode cX8_letterAt 23 = .ok (.iload_n 1, 1) := by decide +kernel
theorem dX8_letterAt_24 : decode cX8_letterAt 24 = .ok (.iaload, 1) := by decide +kernel
theorem dX8_letterAt_25 : decode cX8_letterAt 25 = .ok (.goto 4, 3) := by decide +kernel
theorem dX8_letterAt_28 : decode cX8_letterAt 28 = .ok (.iconst (-1), 1) := by decide +kernel
theorem dX8_letterAt_29 : decode cX8_letterAt 29 = .ok (.ireturn, 1) := by decide +kernel
theorem dX8_kindAt_0 : decode cX8_kindAt 0 = .ok (.aload_n 0, 1) := by decide +kernel
theorem dX8_kindAt_1 : decode cX8_kindAt 1 = .ok (.iload_n 1, 1) := by decide +kernel
theorem dX8_kindAt_2 : decode cX8_kindAt 2 = .ok (.invokevirtual 72, 3) := by decide +kernel
theorem dX8_kindAt_5 : decode cX8_kindAt 5 = .ok (.istore_n 2, 1) := by decide +kernel
theorem dX8_kindAt_6 : decode cX8_kindAt 6 = .ok (.iload_n 2, 1) := by decide +kernel
theorem dX8_kindAt_7 : decode cX8_kindAt 7 = .ok (.iconst (-1), 1) := by decide +kernel
theorem dX8_kindAt_8 : decode cX8_kindAt 8 = .ok (.if_icmp .ne 5, 3) := by decide +kernel
theorem dX8_kindAt_11 : decode cX8_kindAt 11 = .ok (.iconst 0, 1) := by decide +kernel
theorem dX8_kindAt_12 : decode cX8_kindAt 12 = .ok (.ireturn, 1) := by decide +kernel
theorem dX8_kindAt_13 : decode cX8_kindAt 13 = .ok (.iload_n 2, 1) := by decide +kernel
theorem dX8_kindAt_14 : decode cX8_kindAt 14 = .ok (.bipush 97, 2) := by decide +kernel
theorem dX8_kindAt_16 : decode cX8_kindAt 16 = .ok (.if_icmp .lt 11, 3) := by decide +kernel
theorem dX8_kindAt_19 : decode cX8_kindAt 19 = .ok (.iload_n 2, 1) := by decide +kernel
theorem dX8_kindAt_20 : decode cX8_kindAt 20 = .ok (.bipush 122, 2) := by decide +kernel
theorem dX8_kindAt_22 : decode cX8_kindAt 22 = .ok (.if_icmp .gt 5, 3) := by decide +kernel
theorem dX8_kindAt_25 : decode cX8_kindAt 25 = .ok (.iconst 1, 1) := by decide +kernel
theorem dX8_kindAt_26 : decode cX8_kindAt 26 = .ok (.ireturn, 1) := by decide +kernel
theorem dX8_kindAt_27 : decode cX8_kindAt 27 = .ok (.iload_n 2, 1) := by decide +kernel
theorem dX8_kindAt_28 : decode cX8_kindAt 28 = .ok (.bipush 48, 2) := by decide +kernel
theorem dX8_kindAt_30 : decode cX8_kindAt 30 = .ok (.if_icmp .lt 13, 3) := by decide +kernel
theorem dX8_kindAt_33 : decode cX8_kindAt 33 = .ok (.iload_n 2, 1) := by decide +kernel
theorem dX8_kindAt_34 : decode cX8_kindAt 34 = .ok (.bipush 57, 2) := by decide +kernel
theorem dX8_kindAt_36 : decode cX8_kindAt 36 = .ok (.if_icmp .gt 7, 3) := by decide +kernel
theorem dX8_kindAt_39 : decode cX8_kindAt 39 = .ok (.iconst 2, 1) := by decide +kernel
theorem dX8_kindAt_40 : decode cX8_kindAt 40 = .ok (.goto 4, 3) := by decide +kernel
theorem dX8_kindAt_43 : decode cX8_kindAt 43 = .ok (.iconst 3, 1) := by decide +kernel
theorem dX8_kindAt_44 : decode cX8_kindAt 44 = .ok (.ireturn, 1) := by decide +kernel
theorem dX9_init_0 : decode cX9_init 0 = .ok (.aload_n 0, 1) := by decide +kernel
theorem dX9_init_1 : decode cX9_init 1 = .ok (.invokespecial 3, 3) := by decide +kernel
theorem dX9_init_4 : decode cX9_init 4 = .ok (.aload_n 0, 1) := by decide +kernel
theorem dX9_init_5 : decode cX9_init 5 = .ok (.bipush 6, 2) := by decide +kernel
theorem dX9_init_7 : decode cX9_init 7 = .ok (.invokestatic 9, 3) := by decide +kernel
theorem dX9_init_10 : decode cX9_init 10 = .ok (.putfield 13, 3) := by decide +kernel
theorem dX9_init_13 : decode cX9_init 13 = .ok (.aload_n 0, 1) := by decide +kernel
theorem dX9_init_14 : decode cX9_init 14 = .ok (.iconst 0, 1) := by decide +kernel
theorem dX9_init_15 : decode cX9_init 15 = .ok (.putfield 19, 3) := by decide +kernel
theorem dX9_init_18 : decode cX9_init 18 = .ok (.return_, 1) := by decide +kernel
theorem dX9_clear_0 : decode cX9_clear 0 = .ok (.aload_n 0, 1) := by decide +kernel
theorem dX9_clear_1 : decode cX9_clear 1 = .ok (.iconst 0, 1) := by decide +kernel
theorem dX9_clear_2 : decode cX9_clear 2 = .ok (.putfield 19, 3) := by decide +kernel
theorem dX9_clear_5 : decode cX9_clear 5 = .ok (.return_, 1) := by decide +kernel
theorem dX9_isStored_0 : decode cX9_isStored 0 = .ok (.aload_n 0, 1) := by decide +kernel
theorem dX9_isStored_1 : decode cX9_isStored 1 = .ok (.getfield 19, 3) := by decide +kernel
theorem dX9_isStored_4 : decode cX9_isStored 4 = .ok (.ireturn, 1) := by decide +kernel
theorem dX9_store_0 : decode cX9_store 0 = .ok (.iconst 0, 1) := by decide +kernel
theorem dX9_store_1 : decode cX9_store 1 = .ok (.istore_n 2, 1) := by decide +kernel
theorem dX9_store_2 : decode cX9_store 2 = .ok (.iload_n 2, 1) := by decide +kernel
theorem dX9_store_3 : decode cX9_store 3 = .ok (.aload_n 0, 1) := by decide +kernel
theorem dX9_store_4 : decode cX9_store 4 = .ok (.getfield 13, 3) := by decide +kernel
theorem dX9_store_7 : decode cX9_store 7 = .ok (.arraylength, 1) := by decide +kernel
theorem dX9_store_8 : decode cX9_store 8 = .ok (.if_icmp .ge 27, 3) := by decide +kernel
theorem dX9_store_11 : decode cX9_store 11 = .ok (.iload_n 2, 1) := by decide +kernel
theorem dX9_store_12 : decode cX9_store 12 = .ok (.aload_n 1, 1) := by decide +kernel
theorem dX9_store_13 : decode cX9_store 13 = .ok (.arraylength, 1) := by decide +kernel
theorem dX9_store_14 : decode cX9_store 14 = .ok (.if_icmp .ge 21, 3) := by decide +kernel
theorem dX9_store_17 : decode cX9_store 17 = .ok (.aload_n 0, 1) := by decide +kernel
theorem dX9_store_18 : decode cX9_store 18 = .ok (.getfield 13, 3) := by decide +kernel
theorem dX9_store_21 : decode cX9_store 21 = .ok (.iload_n 2, 1) := by decide +kernel
theorem dX9_store_22 : decode cX9_store 22 = .ok (.aaload, 1) := by decide +kernel
theorem dX9_store_23 : decode cX9_store 23 = .ok (.aload_n 1, 1) := by decide +kernel
theorem dX9_store_24 : decode cX9_store 24 = .ok (.iload_n 2, 1) := by decide +kernel
theorem dX9_store_25 : decode cX9_store 25 = .ok (.aaload, 1) := by decide +kernel
theorem dX9_store_26 : decode cX9_store 26 = .ok (.invokevirtual 23, 3) := by decide +kernel
theorem dX9_store_29 : decode cX9_store 29 = .ok (.iinc 2 1, 3) := by decide +kernel
theorem dX9_store_32 : decode cX9_store 32 = .ok (.goto (-30), 3) := by decide +kernel
theorem dX9_store_35 : decode cX9_store 35 = .ok (.aload_n 0, 1) := by decide +kernel
theorem dX9_store_36 : decode cX9_store 36 = .ok (.iconst 1, 1) := by decide +kernel
theorem dX9_store_37 : decode cX9_store 37 = .ok (.putfield 19, 3) := by decide +kernel
theorem dX9_store_40 : decode cX9_store 40 = .ok (.return_, 1) := by decide +kernel
theorem dX9_restore_0 : decode cX9_restore 0 = .ok (.iconst 0, 1) := by decide +kernel
theorem dX9_restore_1 : decode cX9_restore 1 = .ok (.istore_n 2, 1) := by decide +kernel
theorem dX9_restore_2 : decode cX9_restore 2 = .ok (.iload_n 2, 1) := by decide +kernel
theorem dX9_restore_3 : decode cX9_restore 3 = .ok (.aload_n 0, 1) := by decide +kernel
theorem dX9_restore_4 : decode cX9_restore 4 = .ok (.getfield 13, 3) := by decide +kernel
theorem dX9_restore_7 : decode cX9_restore 7 = .ok (.arraylength, 1) := by decide +kernel
theorem dX9_restore_8 : decode cX9_restore 8 = .ok (.if_icmp .ge 27, 3) := by decide +kernel
theorem dX9_restore_11 : decode cX9_restore 11 = .ok (.iload_n 2, 1) := by decide +kernel
theorem dX9_restore_12 : decode cX9_restore 12 = .ok (.aload_n 1, 1) := by decide +kernel
theorem dX9_restore_13 : decode cX9_restore 13 = .ok (.arraylength, 1) := by decide +kernel
theorem dX9_restore_14 : decode cX9_restore 14 = .ok (.if_icmp .ge 21, 3) := by decide +kernel
theorem dX9_restore_17 : decode cX9_restore 17 = .ok (.aload_n 1, 1) := by decide +kernel
theorem dX9_restore_18 : decode cX9_restore 18 = .ok (.iload_n 2, 1) := by decide +kernel
theorem dX9_restore_19 : decode cX9_restore 19 = .ok (.aaload, 1) := by decide +kernel
theorem dX9_restore_20 : decode cX9_restore 20 = .ok (.aload_n 0, 1) := by decide +kernel
theorem dX9_restore_21 : decode cX9_restore 21 = .ok (.getfield 13, 3) := by decide +kernel
theorem dX9_restore_24 : decode cX9_restore 24 = .ok (.iload_n 2, 1) := by decide +kernel
theorem dX9_restore_25 : decode cX9_restore 25 = .ok (.aaload, 1) := by decide +kernel
theorem dX9_restore_26 : decode cX9_restore 26 = .ok (.invokevirtual 23, 3) := by decide +kernel
theorem dX9_restore_29 : decode cX9_restore 29 = .ok (.iinc 2 1, 3) := by decide +kernel
theorem dX9_restore_32 : decode cX9_restore 32 = .ok (.goto (-30), 3) := by decide +kernel
theorem dX9_restore_35 : decode cX9_restore 35 = .ok (.return_, 1) := by decide +kernel
theorem dX10_init_0 : decode cX10_init 0 = .ok (.aload_n 0, 1) := by decide +kernel
theorem dX10_init_1 : decode cX10_init 1 = .ok (.invokespecial 3, 3) := by decide +kernel
theorem dX10_init_4 : decode cX10_init 4 = .ok (.aload_n 0, 1) := by decide +kernel
theorem dX10_init_5 : decode cX10_init 5 = .ok (.bipush 6, 2) := by decide +kernel
theorem dX10_init_7 : decode cX10_init 7 = .ok (.newarray .int, 2) := by decide +kernel
theorem dX10_init_9 : decode cX10_init 9 = .ok (.putfield 9, 3) := by decide +kernel
theorem dX10_init_12 : decode cX10_init 12 = .ok (.aload_n 0, 1) := by decide +kernel
theorem dX10_init_13 : decode cX10_init 13 = .ok (.iconst 0, 1) := by decide +kernel
theorem dX10_init_14 : decode cX10_init 14 = .ok (.putfield 15, 3) := by decide +kernel
theorem dX10_init_17 : decode cX10_init 17 = .ok (.aload_n 0, 1) := by decide +kernel
theorem dX10_init_18 : decode cX10_init 18 = .ok (.iconst 0, 1) := by decide +kernel
theorem dX10_init_19 : decode cX10_init 19 = .ok (.putfield 19, 3) := by decide +kernel
theorem dX10_init_22 : decode cX10_init 22 = .ok (.return_, 1) := by decide +kernel
theorem dX10_isMissing_0 : decode cX10_isMissing 0 = .ok (.aload_n 0, 1) := by decide +kernel
theorem dX10_isMissing_1 : decode cX10_isMissing 1 = .ok (.getfield 19, 3) := by decide +kernel
theorem dX10_isMissing_4 : decode cX10_isMissing 4 = .ok (.ifCond .ne 7, 3) := by decide +kernel
theorem dX10_isMissing_7 : decode cX10_isMissing 7 = .ok (.iconst 1, 1) := by decide +kernel
theorem dX10_isMissing_8 : decode cX10_isMissing 8 = .ok (.goto 4, 3) := by decide +kernel
theorem dX10_isMissing_11 : decode cX10_isMissing 11 = .ok (.iconst 0, 1) := by decide +kernel
theorem dX10_isMissing_12 : decode cX10_isMissing 12 = .ok (.ireturn, 1) := by decide +kernel
theorem dX10_size_0 : decode cX10_size 0 = .ok (.aload_n 0, 1) := by decide +kernel
theorem dX10_size_1 : decode cX10_size 1 = .ok (.getfield 15, 3) := by decide +kernel
theorem dX10_size_4 : decode cX10_size 4 = .ok (.ireturn, 1) := by decide +kernel
theorem dX10_hasPlace_0 : decode cX10_hasPlace 0 = .ok (.iload_n 1, 1) := by decide +kernel
theorem dX10_hasPlace_1 : decode cX10_hasPlace 1 = .ok (.ifCond .lt 15, 3) := by decide +kernel
theorem dX10_hasPlace_4 : decode cX10_hasPlace 4 = .ok (.iload_n 1, 1) := by decide +kernel
theorem dX10_hasPlace_5 : decode cX10_hasPlace 5 = .ok (.aload_n 0, 1) := by decide +kernel
theorem dX10_hasPlace_6 : decode cX10_hasPlace 6 = .ok (.getfield 15, 3) := by decide +kernel
theorem dX10_hasPlace_9 : decode cX10_hasPlace 9 = .ok (.if_icmp .ge 7, 3) := by decide +kernel
theorem dX10_hasPlace_12 : decode cX10_hasPlace 12 = .ok (.iconst 1, 1) := by decide +kernel
theorem dX10_hasPlace_13 : decode cX10_hasPlace 13 = .ok (.goto 4, 3) := by decide +kernel
theorem dX10_hasPlace_16 : decode cX10_hasPlace 16 = .ok (.iconst 0, 1) := by decide +kernel
theorem dX10_hasPlace_17 : decode cX10_hasPlace 17 = .ok (.ireturn, 1) := by decide +kernel
theorem dX10_begin_0 : decode cX10_begin 0 = .ok (.aload_n 0, 1) := by decide +kernel
theorem dX10_begin_1 : decode cX10_begin 1 = .ok (.iconst 1, 1) := by decide +kernel
theorem dX10_begin_2 : decode cX10_begin 2 = .ok (.putfield 19, 3) := by decide +kernel
theorem dX10_begin_5 : decode cX10_begin 5 = .ok (.aload_n 0, 1) := by decide +kernel
theorem dX10_begin_6 : decode cX10_begin 6 = .ok (.iload_n 1, 1) := by decide +kernel
theorem dX10_begin_7 : decode cX10_begin 7 = .ok (.iconst 0, 1) := by decide +kernel
theorem dX10_begin_8 : decode cX10_begin 8 = .ok (.invokestatic 23, 3) := by decide +kernel
theorem dX10_begin_11 : decode cX10_begin 11 = .ok (.bipush 6, 2) := by decide +kernel
theorem dX10_begin_13 : decode cX10_begin 13 = .ok (.invokestatic 29, 3) := by decide +kernel
theorem dX10_begin_16 : decode cX10_begin 16 = .ok (.putfield 15, 3) := by decide +kernel
theorem dX10_begin_19 : decode cX10_begin 19 = .ok (.iconst 0, 1) := by decide +kernel
theorem dX10_begin_20 : decode cX10_begin 20 = .ok (.istore_n 2, 1) := by decide +kernel
theorem dX10_begin_21 : decode cX10_begin 21 = .ok (.iload_n 2, 1) := by decide +kernel
theorem dX10_begin_22 : decode cX10_begin 22 = .ok (.bipush 6, 2) := by decide +kernel
theorem dX10_begin_24 : decode cX10_begin 24 = .ok (.if_icmp .ge 16, 3) := by decide +kernel
theorem dX10_begin_27 : decode cX10_begin 27 = .ok (.aload_n 0, 1) := by decide +kernel
theorem dX10_begin_28 : decode cX10_begin 28 = .ok (.getfield 9, 3) := by decide +kernel
theorem dX10_begin_31 : decode cX10_begin 31 = .ok (.iload_n 2, 1) := by decide +kernel
theorem dX10_begin_32 : decode cX10_begin 32 = .ok (.iconst 0, 1) := by decide +kernel
theorem dX10_begin_33 : decode cX10_begin 33 = .ok (.iastore, 1) := by decide +kernel
theorem dX10_begin_34 : decode cX10_begin 34 = .ok (.iinc 2 1, 3) := by decide +kernel
theorem dX10_begin_37 : decode cX10_begin 37 = .ok (.goto (-16), 3) := by decide +kernel
theorem dX10_begin_40 : decode cX10_begin 40 = .ok (.return_, 1) := by decide +kernel
theorem dX10_discard_0 : decode cX10_discard 0 = .ok (.aload_n 0, 1) := by decide +kernel
theorem dX10_discard_1 : decode cX10_discard 1 = .ok (.iconst 0, 1) := by decide +kernel
theorem dX10_discard_2 : decode cX10_discard 2 = .ok (.putfield 19, 3) := by decide +kernel
theorem dX10_discard_5 : decode cX10_discard 5 = .ok (.aload_n 0, 1) := by decide +kernel
theorem dX10_discard_6 : decode cX10_discard 6 = .ok (.iconst 0, 1) := by decide +kernel
theorem dX10_discard_7 : decode cX10_discard 7 = .ok (.putfield 15, 3) := by decide +kernel
theorem dX10_discard_10 : decode cX10_discard 10 = .ok (.return_, 1) := by decide +kernel
theorem dX10_at_0 : decode cX10_at 0 = .ok (.iload_n 1, 1) := by decide +kernel
theorem dX10_at_1 : decode cX10_at 1 = .ok (.ifCond .lt 18, 3) := by decide +kernel
theorem dX10_at_4 : decode cX10_at 4 = .ok (.iload_n 1, 1) := by decide +kernel
theorem dX10_at_5 : decode cX10_at 5 = .ok (.bipush 6, 2) := by decide +kernel
theorem dX10_at_7 : decode cX10_at 7 = .ok (.if_icmp .ge 12, 3) := by decide +kernel
theorem dX10_at_10 : decode cX10_at 10 = .ok (.aload_n 0, 1) := by decide +kernel
theorem dX10_at_11 : decode cX10_at 11 = .ok (.getfield 9, 3) := by decide +kernel
theorem dX10_at_14 : decode cX10_at 14 = .ok (.iload_n 1, 1) := by decide +kernel
theorem dX10_at_15 : decode cX10_at 15 = .ok (.iaload, 1) := by decide +kernel
theorem dX10_at_16 : decode cX10_at 16 = .ok (.goto 4, 3) := by decide +kernel
theorem dX10_at_19 : decode cX10_at 19 = .ok (.iconst 0, 1) := by decide +kernel
theorem dX10_at_20 : decode cX10_at 20 = .ok (.ireturn, 1) := by decide +kernel
theorem dX10_store_0 : decode cX10_store 0 = .ok (.iload_n 1, 1) := by decide +kernel
theorem dX10_store_1 : decode cX10_store 1 = .ok (.ifCond .lt 16, 3) := by decide +kernel
theorem dX10_store_4 : decode cX10_store 4 = .ok (.iload_n 1, 1) := by decide +kernel
theorem dX10_store_5 : decode cX10_store 5 = .ok (.bipush 6, 2) := by decide +kernel
theorem dX10_store_7 : decode cX10_store 7 = .ok (.if_icmp .ge 10, 3) := by decide +kernel
theorem dX10_store_10 : decode cX10_store 10 = .ok (.aload_n 0, 1) := by decide +kernel
theorem dX10_store_11 : decode cX10_store 11 = .ok (.getfield 9, 3) := by decide +kernel
theorem dX10_store_14 : decode cX10_store 14 = .ok (.iload_n 1, 1) := by decide +kernel
theorem dX10_store_15 : decode cX10_store 15 = .ok (.iload_n 2, 1) := by decide +kernel
theorem dX10_store_16 : decode cX10_store 16 = .ok (.iastore, 1) := by decide +kernel
theorem dX10_store_17 : decode cX10_store 17 = .ok (.return_, 1) := by decide +kernel
theorem dJ9_floorDiv_7cf53_0 : decode cJ9_floorDiv_7cf53 0 = .ok (.iload_n 0, 1) := by decide +kernel
theorem dJ9_floorDiv_7cf53_1 : decode cJ9_floorDiv_7cf53 1 = .ok (.iload_n 1, 1) := by decide +kernel
theorem dJ9_floorDiv_7cf53_2 : decode cJ9_floorDiv_7cf53 2 = .ok (.idiv, 1) := by decide +kernel
theorem dJ9_floorDiv_7cf53_3 : decode cJ9_floorDiv_7cf53 3 = .ok (.istore_n 2, 1) := by decide +kernel
theorem dJ9_floorDiv_7cf53_4 : decode cJ9_floorDiv_7cf53 4 = .ok (.iload_n 0, 1) := by decide +kernel
theorem dJ9_floorDiv_7cf53_5 : decode cJ9_floorDiv_7cf53 5 = .ok (.iload_n 1, 1) := by decide +kernel
theorem dJ9_floorDiv_7cf53_6 : decode cJ9_floorDiv_7cf53 6 = .ok (.ixor, 1) := by decide +kernel
theorem dJ9_floorDiv_7cf53_7 : decode cJ9_floorDiv_7cf53 7 = .ok (.ifCond .ge 14, 3) := by decide +kernel
theorem dJ9_floorDiv_7cf53_10 : decode cJ9_floorDiv_7cf53 10 = .ok (.iload_n 2, 1) := by decide +kernel
theorem dJ9_floorDiv_7cf53_11 : decode cJ9_floorDiv_7cf53 11 = .ok (.iload_n 1, 1) := by decide +kernel
theorem dJ9_floorDiv_7cf53_12 : decode cJ9_floorDiv_7cf53 12 = .ok (.imul, 1) := by decide +kernel
theorem dJ9_floorDiv_7cf53_13 : decode cJ9_floorDiv_7cf53 13 = .ok (.iload_n 0, 1) := by decide +kernel
theorem dJ9_floorDiv_7cf53_14 : decode cJ9_floorDiv_7cf53 14 = .ok (.if_icmp .eq 7, 3) := by decide +kernel
theorem dJ9_floorDiv_7cf53_17 : decode cJ9_floorDiv_7cf53 17 = .ok (.iload_n 2, 1) := by decide +kernel
theorem dJ9_floorDiv_7cf53_18 : decode cJ9_floorDiv_7cf53 18 = .ok (.iconst 1, 1) := by decide +kernel
theorem dJ9_floorDiv_7cf53_19 : decode cJ9_floorDiv_7cf53 19 = .ok (.isub, 1) := by decide +kernel
theorem dJ9_floorDiv_7cf53_20 : decode cJ9_floorDiv_7cf53 20 = .ok (.ireturn, 1) := by decide +kernel
theorem dJ9_floorDiv_7cf53_21 : decode cJ9_floorDiv_7cf53 21 = .ok (.iload_n 2, 1) := by decide +kernel
theorem dJ9_floorDiv_7cf53_22 : decode cJ9_floorDiv_7cf53 22 = .ok (.ireturn, 1) := by decide +kernel
theorem dJ9_floorMod_7cf53_0 : decode cJ9_floorMod_7cf53 0 = .ok (.iload_n 0, 1) := by decide +kernel
theorem dJ9_floorMod_7cf53_1 : decode cJ9_floorMod_7cf53 1 = .ok (.iload_n 1, 1) := by decide +kernel
theorem dJ9_floorMod_7cf53_2 : decode cJ9_floorMod_7cf53 2 = .ok (.irem, 1) := by decide +kernel
theorem dJ9_floorMod_7cf53_3 : decode cJ9_floorMod_7cf53 3 = .ok (.istore_n 2, 1) := by decide +kernel
theorem dJ9_floorMod_7cf53_4 : decode cJ9_floorMod_7cf53 4 = .ok (.iload_n 0, 1) := by decide +kernel
theorem dJ9_floorMod_7cf53_5 : decode cJ9_floorMod_7cf53 5 = .ok (.iload_n 1, 1) := by decide +kernel
theorem dJ9_floorMod_7cf53_6 : decode cJ9_floorMod_7cf53 6 = .ok (.ixor, 1) := by decide +kernel
theorem dJ9_floorMod_7cf53_7 : decode cJ9_floorMod_7cf53 7 = .ok (.ifCond .ge 11, 3) := by decide +kernel
theorem dJ9_floorMod_7cf53_10 : decode cJ9_floorMod_7cf53 10 = .ok (.iload_n 2, 1) := by decide +kernel
theorem dJ9_floorMod_7cf53_11 : decode cJ9_floorMod_7cf53 11 = .ok (.ifCond .eq 7, 3) := by decide +kernel
theorem dJ9_floorMod_7cf53_14 : decode cJ9_floorMod_7cf53 14 = .ok (.iload_n 2, 1) := by decide +kernel
theorem dJ9_floorMod_7cf53_15 : decode cJ9_floorMod_7cf53 15 = .ok (.iload_n 1, 1) := by decide +kernel
theorem dJ9_floorMod_7cf53_16 : decode cJ9_floorMod_7cf53 16 = .ok (.iadd, 1) := by decide +kernel
theorem dJ9_floorMod_7cf53_17 : decode cJ9_floorMod_7cf53 17 = .ok (.ireturn, 1) := by decide +kernel
theorem dJ9_floorMod_7cf53_18 : decode cJ9_floorMod_7cf53 18 = .ok (.iload_n 2, 1) := by decide +kernel
theorem dJ9_floorMod_7cf53_19 : decode cJ9_floorMod_7cf53 19 = .ok (.ireturn, 1) := by decide +kernel
theorem dJ9_abs_0f7a4_0 : decode cJ9_abs_0f7a4 0 = .ok (.iload_n 0, 1) := by decide +kernel
theorem dJ9_abs_0f7a4_1 : decode cJ9_abs_0f7a4 1 = .ok (.ifCond .ge 8, 3) := by decide +kernel
theorem dJ9_abs_0f7a4_4 : decode cJ9_abs_0f7a4 4 = .ok (.iload_n 0, 1) := by decide +kernel
theorem dJ9_abs_0f7a4_5 : decode cJ9_abs_0f7a4 5 = .ok (.ineg, 1) := by decide +kernel
theorem dJ9_abs_0f7a4_6 : decode cJ9_abs_0f7a4 6 = .ok (.goto 4, 3) := by decide +kernel
theorem dJ9_abs_0f7a4_9 : decode cJ9_abs_0f7a4 9 = .ok (.iload_n 0, 1) := by decide +kernel
theorem dJ9_abs_0f7a4_10 : decode cJ9_abs_0f7a4 10 = .ok (.ireturn, 1) := by decide +kernel
theorem dJ9_max_7cf53_0 : decode cJ9_max_7cf53 0 = .ok (.iload_n 0, 1) := by decide +kernel
theorem dJ9_max_7cf53_1 : decode cJ9_max_7cf53 1 = .ok (.iload_n 1, 1) := by decide +kernel
theorem dJ9_max_7cf53_2 : decode cJ9_max_7cf53 2 = .ok (.if_icmp .lt 7, 3) := by decide +kernel
theorem dJ9_max_7cf53_5 : decode cJ9_max_7cf53 5 = .ok (.iload_n 0, 1) := by decide +kernel
theorem dJ9_max_7cf53_6 : decode cJ9_max_7cf53 6 = .ok (.goto 4, 3) := by decide +kernel
theorem dJ9_max_7cf53_9 : decode cJ9_max_7cf53 9 = .ok (.iload_n 1, 1) := by decide +kernel
theorem dJ9_max_7cf53_10 : decode cJ9_max_7cf53 10 = .ok (.ireturn, 1) := by decide +kernel
theorem dJ9_min_7cf53_0 : decode cJ9_min_7cf53 0 = .ok (.iload_n 0, 1) := by decide +kernel
theorem dJ9_min_7cf53_1 : decode cJ9_min_7cf53 1 = .ok (.iload_n 1, 1) := by decide +kernel
theorem dJ9_min_7cf53_2 : decode cJ9_min_7cf53 2 = .ok (.if_icmp .gt 7, 3) := by decide +kernel
theorem dJ9_min_7cf53_5 : decode cJ9_min_7cf53 5 = .ok (.iload_n 0, 1) := by decide +kernel
theorem dJ9_min_7cf53_6 : decode cJ9_min_7cf53 6 = .ok (.goto 4, 3) := by decide +kernel
theorem dJ9_min_7cf53_9 : decode cJ9_min_7cf53 9 = .ok (.iload_n 1, 1) := by decide +kernel
theorem dJ9_min_7cf53_10 : decode cJ9_min_7cf53 10 = .ok (.ireturn, 1) := by decide +kernel
