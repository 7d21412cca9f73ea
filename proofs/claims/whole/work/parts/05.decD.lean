theorem dX12_divide_82 : decode cX12_divide 82 = .ok (.invokevirtual 203, 3) := by decide +kernel
theorem dX12_divide_85 : decode cX12_divide 85 = .ok (.goto 13, 3) := by decide +kernel
theorem dX12_divide_88 : decode cX12_divide 88 = .ok (.aload_n 0, 1) := by decide +kernel
theorem dX12_divide_89 : decode cX12_divide 89 = .ok (.iload_n 1, 1) := by decide +kernel
theorem dX12_divide_90 : decode cX12_divide 90 = .ok (.aload_n 0, 1) := by decide +kernel
theorem dX12_divide_91 : decode cX12_divide 91 = .ok (.getfield 37, 3) := by decide +kernel
theorem dX12_divide_94 : decode cX12_divide 94 = .ok (.iconst 0, 1) := by decide +kernel
theorem dX12_divide_95 : decode cX12_divide 95 = .ok (.invokevirtual 203, 3) := by decide +kernel
theorem dX12_divide_98 : decode cX12_divide 98 = .ok (.ireturn, 1) := by decide +kernel
theorem dX12_common_0 : decode cX12_common 0 = .ok (.iload_n 1, 1) := by decide +kernel
theorem dX12_common_1 : decode cX12_common 1 = .ok (.invokestatic 177, 3) := by decide +kernel
theorem dX12_common_4 : decode cX12_common 4 = .ok (.ifCond .eq 10, 3) := by decide +kernel
theorem dX12_common_7 : decode cX12_common 7 = .ok (.iload_n 2, 1) := by decide +kernel
theorem dX12_common_8 : decode cX12_common 8 = .ok (.invokestatic 177, 3) := by decide +kernel
theorem dX12_common_11 : decode cX12_common 11 = .ok (.ifCond .ne 7, 3) := by decide +kernel
theorem dX12_common_14 : decode cX12_common 14 = .ok (.sipush (-1001), 3) := by decide +kernel
theorem dX12_common_17 : decode cX12_common 17 = .ok (.ireturn, 1) := by decide +kernel
theorem dX12_common_18 : decode cX12_common 18 = .ok (.iload_n 3, 1) := by decide +kernel
theorem dX12_common_19 : decode cX12_common 19 = .ok (.invokestatic 207, 3) := by decide +kernel
theorem dX12_common_22 : decode cX12_common 22 = .ok (.ifCond .ne 7, 3) := by decide +kernel
theorem dX12_common_25 : decode cX12_common 25 = .ok (.sipush (-1002), 3) := by decide +kernel
theorem dX12_common_28 : decode cX12_common 28 = .ok (.ireturn, 1) := by decide +kernel
theorem dX12_common_29 : decode cX12_common 29 = .ok (.aload_n 0, 1) := by decide +kernel
theorem dX12_common_30 : decode cX12_common 30 = .ok (.iload_n 1, 1) := by decide +kernel
theorem dX12_common_31 : decode cX12_common 31 = .ok (.invokevirtual 163, 3) := by decide +kernel
theorem dX12_common_34 : decode cX12_common 34 = .ok (.ifCond .eq 15, 3) := by decide +kernel
theorem dX12_common_37 : decode cX12_common 37 = .ok (.aload_n 0, 1) := by decide +kernel
theorem dX12_common_38 : decode cX12_common 38 = .ok (.iload_n 2, 1) := by decide +kernel
theorem dX12_common_39 : decode cX12_common 39 = .ok (.invokevirtual 163, 3) := by decide +kernel
theorem dX12_common_42 : decode cX12_common 42 = .ok (.ifCond .eq 7, 3) := by decide +kernel
theorem dX12_common_45 : decode cX12_common 45 = .ok (.sipush (-1003), 3) := by decide +kernel
theorem dX12_common_48 : decode cX12_common 48 = .ok (.ireturn, 1) := by decide +kernel
theorem dX12_common_49 : decode cX12_common 49 = .ok (.aload_n 0, 1) := by decide +kernel
theorem dX12_common_50 : decode cX12_common 50 = .ok (.getfield 49, 3) := by decide +kernel
theorem dX12_common_53 : decode cX12_common 53 = .ok (.iconst 4, 1) := by decide +kernel
theorem dX12_common_54 : decode cX12_common 54 = .ok (.iload_n 1, 1) := by decide +kernel
theorem dX12_common_55 : decode cX12_common 55 = .ok (.imul, 1) := by decide +kernel
theorem dX12_common_56 : decode cX12_common 56 = .ok (.aload_n 0, 1) := by decide +kernel
theorem dX12_common_57 : decode cX12_common 57 = .ok (.getfield 31, 3) := by decide +kernel
theorem dX12_common_60 : decode cX12_common 60 = .ok (.iconst 0, 1) := by decide +kernel
theorem dX12_common_61 : decode cX12_common 61 = .ok (.invokestatic 135, 3) := by decide +kernel
theorem dX12_common_64 : decode cX12_common 64 = .ok (.aload_n 0, 1) := by decide +kernel
theorem dX12_common_65 : decode cX12_common 65 = .ok (.getfield 49, 3) := by decide +kernel
theorem dX12_common_68 : decode cX12_common 68 = .ok (.iconst 4, 1) := by decide +kernel
theorem dX12_common_69 : decode cX12_common 69 = .ok (.iload_n 2, 1) := by decide +kernel
theorem dX12_common_70 : decode cX12_common 70 = .ok (.imul, 1) := by decide +kernel
theorem dX12_common_71 : decode cX12_common 71 = .ok (.aload_n 0, 1) := by decide +kernel
theorem dX12_common_72 : decode cX12_common 72 = .ok (.getfield 31, 3) := by decide +kernel
theorem dX12_common_75 : decode cX12_common 75 = .ok (.iconst 4, 1) := by decide +kernel
theorem dX12_common_76 : decode cX12_common 76 = .ok (.invokestatic 135, 3) := by decide +kernel
theorem dX12_common_79 : decode cX12_common 79 = .ok (.aload_n 0, 1) := by decide +kernel
theorem dX12_common_80 : decode cX12_common 80 = .ok (.iconst 0, 1) := by decide +kernel
theorem dX12_common_81 : decode cX12_common 81 = .ok (.putfield 95, 3) := by decide +kernel
theorem dX12_common_84 : decode cX12_common 84 = .ok (.sipush 150, 3) := by decide +kernel
theorem dX12_common_87 : decode cX12_common 87 = .ok (.istore 4, 2) := by decide +kernel
theorem dX12_common_89 : decode cX12_common 89 = .ok (.iload 4, 2) := by decide +kernel
theorem dX12_common_91 : decode cX12_common 91 = .ok (.iconst 1, 1) := by decide +kernel
theorem dX12_common_92 : decode cX12_common 92 = .ok (.if_icmp .lt 48, 3) := by decide +kernel
theorem dX12_common_95 : decode cX12_common 95 = .ok (.aload_n 0, 1) := by decide +kernel
theorem dX12_common_96 : decode cX12_common 96 = .ok (.getfield 95, 3) := by decide +kernel
theorem dX12_common_99 : decode cX12_common 99 = .ok (.ifCond .ne 41, 3) := by decide +kernel
theorem dX12_common_102 : decode cX12_common 102 = .ok (.aload_n 0, 1) := by decide +kernel
theorem dX12_common_103 : decode cX12_common 103 = .ok (.iload_n 1, 1) := by decide +kernel
theorem dX12_common_104 : decode cX12_common 104 = .ok (.invokevirtual 173, 3) := by decide +kernel
theorem dX12_common_107 : decode cX12_common 107 = .ok (.iload 4, 2) := by decide +kernel
theorem dX12_common_109 : decode cX12_common 109 = .ok (.irem, 1) := by decide +kernel
theorem dX12_common_110 : decode cX12_common 110 = .ok (.ifCond .ne 24, 3) := by decide +kernel
theorem dX12_common_113 : decode cX12_common 113 = .ok (.aload_n 0, 1) := by decide +kernel
theorem dX12_common_114 : decode cX12_common 114 = .ok (.iload_n 2, 1) := by decide +kernel
theorem dX12_common_115 : decode cX12_common 115 = .ok (.invokevirtual 173, 3) := by decide +kernel
theorem dX12_common_118 : decode cX12_common 118 = .ok (.iload 4, 2) := by decide +kernel
theorem dX12_common_120 : decode cX12_common 120 = .ok (.irem, 1) := by decide +kernel
theorem dX12_common_121 : decode cX12_common 121 = .ok (.ifCond .ne 13, 3) := by decide +kernel
theorem dX12_common_124 : decode cX12_common 124 = .ok (.aload_n 0, 1) := by decide +kernel
theorem dX12_common_125 : decode cX12_common 125 = .ok (.iload 4, 2) := by decide +kernel
theorem dX12_common_127 : decode cX12_common 127 = .ok (.iload_n 3, 1) := by decide +kernel
theorem dX12_common_128 : decode cX12_common 128 = .ok (.iconst 0, 1) := by decide +kernel
theorem dX12_common_129 : decode cX12_common 129 = .ok (.iconst 2, 1) := by decide +kernel
theorem dX12_common_130 : decode cX12_common 130 = .ok (.iconst 1, 1) := by decide +kernel
theorem dX12_common_131 : decode cX12_common 131 = .ok (.invokevirtual 99, 3) := by decide +kernel
theorem dX12_common_134 : decode cX12_common 134 = .ok (.iinc 4 (-1), 3) := by decide +kernel
theorem dX12_common_137 : decode cX12_common 137 = .ok (.goto (-48), 3) := by decide +kernel
theorem dX12_common_140 : decode cX12_common 140 = .ok (.aload_n 0, 1) := by decide +kernel
theorem dX12_common_141 : decode cX12_common 141 = .ok (.iload_n 1, 1) := by decide +kernel
theorem dX12_common_142 : decode cX12_common 142 = .ok (.aload_n 0, 1) := by decide +kernel
theorem dX12_common_143 : decode cX12_common 143 = .ok (.getfield 25, 3) := by decide +kernel
theorem dX12_common_146 : decode cX12_common 146 = .ok (.iconst 0, 1) := by decide +kernel
theorem dX12_common_147 : decode cX12_common 147 = .ok (.invokevirtual 203, 3) := by decide +kernel
theorem dX12_common_150 : decode cX12_common 150 = .ok (.ireturn, 1) := by decide +kernel
theorem dX12_undo_0 : decode cX12_undo 0 = .ok (.aload_n 0, 1) := by decide +kernel
theorem dX12_undo_1 : decode cX12_undo 1 = .ok (.getfield 167, 3) := by decide +kernel
theorem dX12_undo_4 : decode cX12_undo 4 = .ok (.ifCond .ne 7, 3) := by decide +kernel
theorem dX12_undo_7 : decode cX12_undo 7 = .ok (.sipush (-1003), 3) := by decide +kernel
theorem dX12_undo_10 : decode cX12_undo 10 = .ok (.ireturn, 1) := by decide +kernel
theorem dX12_undo_11 : decode cX12_undo 11 = .ok (.aload_n 0, 1) := by decide +kernel
theorem dX12_undo_12 : decode cX12_undo 12 = .ok (.dup, 1) := by decide +kernel
theorem dX12_undo_13 : decode cX12_undo 13 = .ok (.getfield 167, 3) := by decide +kernel
theorem dX12_undo_16 : decode cX12_undo 16 = .ok (.iconst 1, 1) := by decide +kernel
theorem dX12_undo_17 : decode cX12_undo 17 = .ok (.isub, 1) := by decide +kernel
theorem dX12_undo_18 : decode cX12_undo 18 = .ok (.putfield 167, 3) := by decide +kernel
theorem dX12_undo_21 : decode cX12_undo 21 = .ok (.iconst 0, 1) := by decide +kernel
theorem dX12_undo_22 : decode cX12_undo 22 = .ok (.istore_n 1, 1) := by decide +kernel
theorem dX12_undo_23 : decode cX12_undo 23 = .ok (.iload_n 1, 1) := by decide +kernel
theorem dX12_undo_24 : decode cX12_undo 24 = .ok (.bipush 24, 2) := by decide +kernel
theorem dX12_undo_26 : decode cX12_undo 26 = .ok (.if_icmp .ge 29, 3) := by decide +kernel
theorem dX12_undo_29 : decode cX12_undo 29 = .ok (.aload_n 0, 1) := by decide +kernel
theorem dX12_undo_30 : decode cX12_undo 30 = .ok (.getfield 49, 3) := by decide +kernel
theorem dX12_undo_33 : decode cX12_undo 33 = .ok (.iload_n 1, 1) := by decide +kernel
theorem dX12_undo_34 : decode cX12_undo 34 = .ok (.aload_n 0, 1) := by decide +kernel
theorem dX12_undo_35 : decode cX12_undo 35 = .ok (.getfield 52, 3) := by decide +kernel
theorem dX12_undo_38 : decode cX12_undo 38 = .ok (.bipush 24, 2) := by decide +kernel
theorem dX12_undo_40 : decode cX12_undo 40 = .ok (.aload_n 0, 1) := by decide +kernel
theorem dX12_undo_41 : decode cX12_undo 41 = .ok (.getfield 167, 3) := by decide +kernel
theorem dX12_undo_44 : decode cX12_undo 44 = .ok (.imul, 1) := by decide +kernel
theorem dX12_undo_45 : decode cX12_undo 45 = .ok (.iload_n 1, 1) := by decide +kernel
theorem dX12_undo_46 : decode cX12_undo 46 = .ok (.iadd, 1) := by decide +kernel
theorem dX12_undo_47 : decode cX12_undo 47 = .ok (.iaload, 1) := by decide +kernel
theorem dX12_undo_48 : decode cX12_undo 48 = .ok (.iastore, 1) := by decide +kernel
theorem dX12_undo_49 : decode cX12_undo 49 = .ok (.iinc 1 1, 3) := by decide +kernel
theorem dX12_undo_52 : decode cX12_undo 52 = .ok (.goto (-29), 3) := by decide +kernel
theorem dX12_undo_55 : decode cX12_undo 55 = .ok (.aload_n 0, 1) := by decide +kernel
theorem dX12_undo_56 : decode cX12_undo 56 = .ok (.getfield 167, 3) := by decide +kernel
theorem dX12_undo_59 : decode cX12_undo 59 = .ok (.ireturn, 1) := by decide +kernel
theorem dX12_keep_0 : decode cX12_keep 0 = .ok (.iload_n 1, 1) := by decide +kernel
theorem dX12_keep_1 : decode cX12_keep 1 = .ok (.iconst 0, 1) := by decide +kernel
theorem dX12_keep_2 : decode cX12_keep 2 = .ok (.iconst 1, 1) := by decide +kernel
theorem dX12_keep_3 : decode cX12_keep 3 = .ok (.invokestatic 155, 3) := by decide +kernel
theorem dX12_keep_6 : decode cX12_keep 6 = .ok (.ifCond .ne 7, 3) := by decide +kernel
theorem dX12_keep_9 : decode cX12_keep 9 = .ok (.sipush (-1002), 3) := by decide +kernel
theorem dX12_keep_12 : decode cX12_keep 12 = .ok (.ireturn, 1) := by decide +kernel
theorem dX12_keep_13 : decode cX12_keep 13 = .ok (.aload_n 0, 1) := by decide +kernel
theorem dX12_keep_14 : decode cX12_keep 14 = .ok (.getfield 55, 3) := by decide +kernel
theorem dX12_keep_17 : decode cX12_keep 17 = .ok (.iload_n 1, 1) := by decide +kernel
theorem dX12_keep_18 : decode cX12_keep 18 = .ok (.iconst 1, 1) := by decide +kernel
theorem dX12_keep_19 : decode cX12_keep 19 = .ok (.bastore, 1) := by decide +kernel
theorem dX12_keep_20 : decode cX12_keep 20 = .ok (.iconst 0, 1) := by decide +kernel
theorem dX12_keep_21 : decode cX12_keep 21 = .ok (.istore_n 2, 1) := by decide +kernel
theorem dX12_keep_22 : decode cX12_keep 22 = .ok (.iload_n 2, 1) := by decide +kernel
theorem dX12_keep_23 : decode cX12_keep 23 = .ok (.bipush 24, 2) := by decide +kernel
theorem dX12_keep_25 : decode cX12_keep 25 = .ok (.if_icmp .ge 26, 3) := by decide +kernel
theorem dX12_keep_28 : decode cX12_keep 28 = .ok (.aload_n 0, 1) := by decide +kernel
theorem dX12_keep_29 : decode cX12_keep 29 = .ok (.getfield 59, 3) := by decide +kernel
theorem dX12_keep_32 : decode cX12_keep 32 = .ok (.bipush 24, 2) := by decide +kernel
theorem dX12_keep_34 : decode cX12_keep 34 = .ok (.iload_n 1, 1) := by decide +kernel
theorem dX12_keep_35 : decode cX12_keep 35 = .ok (.imul, 1) := by decide +kernel
theorem dX12_keep_36 : decode cX12_keep 36 = .ok (.iload_n 2, 1) := by decide +kernel
theorem dX12_keep_37 : decode cX12_keep 37 = .ok (.iadd, 1) := by decide +kernel
theorem dX12_keep_38 : decode cX12_keep 38 = .ok (.aload_n 0, 1) := by decide +kernel
theorem dX12_keep_39 : decode cX12_keep 39 = .ok (.getfield 49, 3) := by decide +kernel
theorem dX12_keep_42 : decode cX12_keep 42 = .ok (.iload_n 2, 1) := by decide +kernel
theorem dX12_keep_43 : decode cX12_keep 43 = .ok (.iaload, 1) := by decide +kernel
theorem dX12_keep_44 : decode cX12_keep 44 = .ok (.iastore, 1) := by decide +kernel
theorem dX12_keep_45 : decode cX12_keep 45 = .ok (.iinc 2 1, 3) := by decide +kernel
theorem dX12_keep_48 : decode cX12_keep 48 = .ok (.goto (-26), 3) := by decide +kernel
theorem dX12_keep_51 : decode cX12_keep 51 = .ok (.aload_n 0, 1) := by decide +kernel
theorem dX12_keep_52 : decode cX12_keep 52 = .ok (.invokevirtual 218, 3) := by decide +kernel
theorem dX12_keep_55 : decode cX12_keep 55 = .ok (.ireturn, 1) := by decide +kernel
theorem dX12_back_0 : decode cX12_back 0 = .ok (.iload_n 1, 1) := by decide +kernel
theorem dX12_back_1 : decode cX12_back 1 = .ok (.iconst 0, 1) := by decide +kernel
theorem dX12_back_2 : decode cX12_back 2 = .ok (.iconst 1, 1) := by decide +kernel
theorem dX12_back_3 : decode cX12_back 3 = .ok (.invokestatic 155, 3) := by decide +kernel
theorem dX12_back_6 : decode cX12_back 6 = .ok (.ifCond .ne 7, 3) := by decide +kernel
theorem dX12_back_9 : decode cX12_back 9 = .ok (.sipush (-1002), 3) := by decide +kernel
theorem dX12_back_12 : decode cX12_back 12 = .ok (.ireturn, 1) := by decide +kernel
theorem dX12_back_13 : decode cX12_back 13 = .ok (.aload_n 0, 1) := by decide +kernel
theorem dX12_back_14 : decode cX12_back 14 = .ok (.getfield 55, 3) := by decide +kernel
theorem dX12_back_17 : decode cX12_back 17 = .ok (.iload_n 1, 1) := by decide +kernel
theorem dX12_back_18 : decode cX12_back 18 = .ok (.baload, 1) := by decide +kernel
theorem dX12_back_19 : decode cX12_back 19 = .ok (.ifCond .ne 7, 3) := by decide +kernel
theorem dX12_back_22 : decode cX12_back 22 = .ok (.sipush (-1003), 3) := by decide +kernel
theorem dX12_back_25 : decode cX12_back 25 = .ok (.ireturn, 1) := by decide +kernel
theorem dX12_back_26 : decode cX12_back 26 = .ok (.iconst 0, 1) := by decide +kernel
theorem dX12_back_27 : decode cX12_back 27 = .ok (.istore_n 2, 1) := by decide +kernel
theorem dX12_back_28 : decode cX12_back 28 = .ok (.iload_n 2, 1) := by decide +kernel
theorem dX12_back_29 : decode cX12_back 29 = .ok (.bipush 24, 2) := by decide +kernel
theorem dX12_back_31 : decode cX12_back 31 = .ok (.if_icmp .ge 26, 3) := by decide +kernel
theorem dX12_back_34 : decode cX12_back 34 = .ok (.aload_n 0, 1) := by decide +kernel
theorem dX12_back_35 : decode cX12_back 35 = .ok (.getfield 49, 3) := by decide +kernel
theorem dX12_back_38 : decode cX12_back 38 = .ok (.iload_n 2, 1) := by decide +kernel
theorem dX12_back_39 : decode cX12_back 39 = .ok (.aload_n 0, 1) := by decide +kernel
theorem dX12_back_40 : decode cX12_back 40 = .ok (.getfield 59, 3) := by decide +kernel
theorem dX12_back_43 : decode cX12_back 43 = .ok (.bipush 24, 2) := by decide +kernel
theorem dX12_back_45 : decode cX12_back 45 = .ok (.iload_n 1, 1) := by decide +kernel
theorem dX12_back_46 : decode cX12_back 46 = .ok (.imul, 1) := by decide +kernel
theorem dX12_back_47 : decode cX12_back 47 = .ok (.iload_n 2, 1) := by decide +kernel
theorem dX12_back_48 : decode cX12_back 48 = .ok (.iadd, 1) := by decide +kernel
theorem dX12_back_49 : decode cX12_back 49 = .ok (.iaload, 1) := by decide +kernel
theorem dX12_back_50 : decode cX12_back 50 = .ok (.iastore, 1) := by decide +kernel
theorem dX12_back_51 : decode cX12_back 51 = .ok (.iinc 2 1, 3) := by decide +kernel
theorem dX12_back_54 : decode cX12_back 54 = .ok (.goto (-26), 3) := by decide +kernel
theorem dX12_back_57 : decode cX12_back 57 = .ok (.aload_n 0, 1) := by decide +kernel
theorem dX12_back_58 : decode cX12_back 58 = .ok (.iconst 0, 1) := by decide +kernel
theorem dX12_back_59 : decode cX12_back 59 = .ok (.putfield 167, 3) := by decide +kernel
theorem dX12_back_62 : decode cX12_back 62 = .ok (.aload_n 0, 1) := by decide +kernel
theorem dX12_back_63 : decode cX12_back 63 = .ok (.invokevirtual 218, 3) := by decide +kernel
theorem dX12_back_66 : decode cX12_back 66 = .ok (.ireturn, 1) := by decide +kernel
theorem dX12_divides_0 : decode cX12_divides 0 = .ok (.iload_n 1, 1) := by decide +kernel
theorem dX12_divides_1 : decode cX12_divides 1 = .ok (.invokestatic 177, 3) := by decide +kernel
theorem dX12_divides_4 : decode cX12_divides 4 = .ok (.ifCond .eq 10, 3) := by decide +kernel
theorem dX12_divides_7 : decode cX12_divides 7 = .ok (.iload_n 2, 1) := by decide +kernel
theorem dX12_divides_8 : decode cX12_divides 8 = .ok (.invokestatic 177, 3) := by decide +kernel
theorem dX12_divides_11 : decode cX12_divides 11 = .ok (.ifCond .ne 7, 3) := by decide +kernel
theorem dX12_divides_14 : decode cX12_divides 14 = .ok (.sipush (-1001), 3) := by decide +kernel
theorem dX12_divides_17 : decode cX12_divides 17 = .ok (.ireturn, 1) := by decide +kernel
theorem dX12_divides_18 : decode cX12_divides 18 = .ok (.iload_n 3, 1) := by decide +kernel
theorem dX12_divides_19 : decode cX12_divides 19 = .ok (.invokestatic 207, 3) := by decide +kernel
theorem dX12_divides_22 : decode cX12_divides 22 = .ok (.ifCond .ne 7, 3) := by decide +kernel
theorem dX12_divides_25 : decode cX12_divides 25 = .ok (.sipush (-1002), 3) := by decide +kernel
theorem dX12_divides_28 : decode cX12_divides 28 = .ok (.ireturn, 1) := by decide +kernel
theorem dX12_divides_29 : decode cX12_divides 29 = .ok (.aload_n 0, 1) := by decide +kernel
theorem dX12_divides_30 : decode cX12_divides 30 = .ok (.iload_n 1, 1) := by decide +kernel
theorem dX12_divides_31 : decode cX12_divides 31 = .ok (.invokevirtual 163, 3) := by decide +kernel
theorem dX12_divides_34 : decode cX12_divides 34 = .ok (.ifCond .eq 17, 3) := by decide +kernel
theorem dX12_divides_37 : decode cX12_divides 37 = .ok (.aload_n 0, 1) := by decide +kernel
theorem dX12_divides_38 : decode cX12_divides 38 = .ok (.iload_n 2, 1) := by decide +kernel
theorem dX12_divides_39 : decode cX12_divides 39 = .ok (.invokevirtual 163, 3) := by decide +kernel
theorem dX12_divides_42 : decode cX12_divides 42 = .ok (.ifCond .eq 7, 3) := by decide +kernel
theorem dX12_divides_45 : decode cX12_divides 45 = .ok (.iconst 1, 1) := by decide +kernel
theorem dX12_divides_46 : decode cX12_divides 46 = .ok (.goto 4, 3) := by decide +kernel
theorem dX12_divides_49 : decode cX12_divides 49 = .ok (.iconst 0, 1) := by decide +kernel
theorem dX12_divides_50 : decode cX12_divides 50 = .ok (.ireturn, 1) := by decide +kernel
theorem dX12_divides_51 : decode cX12_divides 51 = .ok (.aload_n 0, 1) := by decide +kernel
theorem dX12_divides_52 : decode cX12_divides 52 = .ok (.aload_n 0, 1) := by decide +kernel
theorem dX12_divides_53 : decode cX12_divides 53 = .ok (.getfield 49, 3) := by decide +kernel
theorem dX12_divides_56 : decode cX12_divides 56 = .ok (.iconst 4, 1) := by decide +kernel
theorem dX12_divides_57 : decode cX12_divides 57 = .ok (.iload_n 1, 1) := by decide +kernel
theorem dX12_divides_58 : decode cX12_divides 58 = .ok (.imul, 1) := by decide +kernel
theorem dX12_divides_59 : decode cX12_divides 59 = .ok (.aload_n 0, 1) := by decide +kernel
theorem dX12_divides_60 : decode cX12_divides 60 = .ok (.getfield 49, 3) := by decide +kernel
theorem dX12_divides_63 : decode cX12_divides 63 = .ok (.iconst 4, 1) := by decide +kernel
theorem dX12_divides_64 : decode cX12_divides 64 = .ok (.iload_n 2, 1) := by decide +kernel
theorem dX12_divides_65 : decode cX12_divides 65 = .ok (.imul, 1) := by decide +kernel
theorem dX12_divides_66 : decode cX12_divides 66 = .ok (.iload_n 3, 1) := by decide +kernel
theorem dX12_divides_67 : decode cX12_divides 67 = .ok (.invokevirtual 127, 3) := by decide +kernel
theorem dX12_divides_70 : decode cX12_divides 70 = .ok (.ifCond .eq 7, 3) := by decide +kernel
theorem dX12_divides_73 : decode cX12_divides 73 = .ok (.iconst 1, 1) := by decide +kernel
theorem dX12_divides_74 : decode cX12_divides 74 = .ok (.goto 4, 3) := by decide +kernel
theorem dX12_divides_77 : decode cX12_divides 77 = .ok (.iconst 0, 1) := by decide +kernel
theorem dX12_divides_78 : decode cX12_divides 78 = .ok (.ireturn, 1) := by decide +kernel
theorem dX12_nearest_0 : decode cX12_nearest 0 = .ok (.iload_n 1, 1) := by decide +kernel
theorem dX12_nearest_1 : decode cX12_nearest 1 = .ok (.invokestatic 177, 3) := by decide +kernel
theorem dX12_nearest_4 : decode cX12_nearest 4 = .ok (.ifCond .eq 10, 3) := by decide +kernel
theorem dX12_nearest_7 : decode cX12_nearest 7 = .ok (.iload_n 2, 1) := by decide +kernel
theorem dX12_nearest_8 : decode cX12_nearest 8 = .ok (.invokestatic 177, 3) := by decide +kernel
theorem dX12_nearest_11 : decode cX12_nearest 11 = .ok (.ifCond .ne 7, 3) := by decide +kernel
theorem dX12_nearest_14 : decode cX12_nearest 14 = .ok (.sipush (-1001), 3) := by decide +kernel
theorem dX12_nearest_17 : decode cX12_nearest 17 = .ok (.ireturn, 1) := by decide +kernel
theorem dX12_nearest_18 : decode cX12_nearest 18 = .ok (.iload_n 3, 1) := by decide +kernel
theorem dX12_nearest_19 : decode cX12_nearest 19 = .ok (.invokestatic 207, 3) := by decide +kernel
theorem dX12_nearest_22 : decode cX12_nearest 22 = .ok (.ifCond .eq 14, 3) := by decide +kernel
theorem dX12_nearest_25 : decode cX12_nearest 25 = .ok (.iload 4, 2) := by decide +kernel
theorem dX12_nearest_27 : decode cX12_nearest 27 = .ok (.iconst 0, 1) := by decide +kernel
theorem dX12_nearest_28 : decode cX12_nearest 28 = .ok (.bipush 8, 2) := by decide +kernel
theorem dX12_nearest_30 : decode cX12_nearest 30 = .ok (.invokestatic 155, 3) := by decide +kernel
theorem dX12_nearest_33 : decode cX12_nearest 33 = .ok (.ifCond .ne 7, 3) := by decide +kernel
theorem dX12_nearest_36 : decode cX12_nearest 36 = .ok (.sipush (-1002), 3) := by decide +kernel
theorem dX12_nearest_39 : decode cX12_nearest 39 = .ok (.ireturn, 1) := by decide +kernel
theorem dX12_nearest_40 : decode cX12_nearest 40 = .ok (.aload_n 0, 1) := by decide +kernel
theorem dX12_nearest_41 : decode cX12_nearest 41 = .ok (.iload_n 2, 1) := by decide +kernel
theorem dX12_nearest_42 : decode cX12_nearest 42 = .ok (.invokevirtual 163, 3) := by decide +kernel
theorem dX12_nearest_45 : decode cX12_nearest 45 = .ok (.ifCond .eq 7, 3) := by decide +kernel
theorem dX12_nearest_48 : decode cX12_nearest 48 = .ok (.sipush (-1003), 3) := by decide +kernel
theorem dX12_nearest_51 : decode cX12_nearest 51 = .ok (.ireturn, 1) := by decide +kernel
theorem dX12_nearest_52 : decode cX12_nearest 52 = .ok (.aload_n 0, 1) := by decide +kernel
theorem dX12_nearest_53 : decode cX12_nearest 53 = .ok (.aload_n 0, 1) := by decide +kernel
theorem dX12_nearest_54 : decode cX12_nearest 54 = .ok (.getfield 49, 3) := by decide +kernel
theorem dX12_nearest_57 : decode cX12_nearest 57 = .ok (.iconst 4, 1) := by decide +kernel
theorem dX12_nearest_58 : decode cX12_nearest 58 = .ok (.iload_n 1, 1) := by decide +kernel
theorem dX12_nearest_59 : decode cX12_nearest 59 = .ok (.imul, 1) := by decide +kernel
theorem dX12_nearest_60 : decode cX12_nearest 60 = .ok (.aload_n 0, 1) := by decide +kernel
theorem dX12_nearest_61 : decode cX12_nearest 61 = .ok (.getfield 49, 3) := by decide +kernel
theorem dX12_nearest_64 : decode cX12_nearest 64 = .ok (.iconst 4, 1) := by decide +kernel
theorem dX12_nearest_65 : decode cX12_nearest 65 = .ok (.iload_n 2, 1) := by decide +kernel
theorem dX12_nearest_66 : decode cX12_nearest 66 = .ok (.imul, 1) := by decide +kernel
theorem dX12_nearest_67 : decode cX12_nearest 67 = .ok (.iload_n 3, 1) := by decide +kernel
theorem dX12_nearest_68 : decode cX12_nearest 68 = .ok (.invokevirtual 214, 3) := by decide +kernel
theorem dX12_nearest_71 : decode cX12_nearest 71 = .ok (.iload 4, 2) := by decide +kernel
theorem dX12_nearest_73 : decode cX12_nearest 73 = .ok (.iconst 4, 1) := by decide +kernel
theorem dX12_nearest_74 : decode cX12_nearest 74 = .ok (.if_icmp .ge 13, 3) := by decide +kernel
theorem dX12_nearest_77 : decode cX12_nearest 77 = .ok (.aload_n 0, 1) := by decide +kernel
theorem dX12_nearest_78 : decode cX12_nearest 78 = .ok (.getfield 34, 3) := by decide +kernel
theorem dX12_nearest_81 : decode cX12_nearest 81 = .ok (.iload 4, 2) := by decide +kernel
theorem dX12_nearest_83 : decode cX12_nearest 83 = .ok (.iaload, 1) := by decide +kernel
theorem dX12_nearest_84 : decode cX12_nearest 84 = .ok (.goto 30, 3) := by decide +kernel
theorem dX12_nearest_87 : decode cX12_nearest 87 = .ok (.iload 4, 2) := by decide +kernel
theorem dX12_nearest_89 : decode cX12_nearest 89 = .ok (.bipush 8, 2) := by decide +kernel
theorem dX12_nearest_91 : decode cX12_nearest 91 = .ok (.if_icmp .ge 15, 3) := by decide +kernel
theorem dX12_nearest_94 : decode cX12_nearest 94 = .ok (.aload_n 0, 1) := by decide +kernel
theorem dX12_nearest_95 : decode cX12_nearest 95 = .ok (.getfield 37, 3) := by decide +kernel
theorem dX12_nearest_98 : decode cX12_nearest 98 = .ok (.iload 4, 2) := by decide +kernel
theorem dX12_nearest_100 : decode cX12_nearest 100 = .ok (.iconst 4, 1) := by decide +kernel
theorem dX12_nearest_101 : decode cX12_nearest 101 = .ok (.isub, 1) := by decide +kernel
theorem dX12_nearest_102 : decode cX12_nearest 102 = .ok (.iaload, 1) := by decide +kernel
theorem dX12_nearest_103 : decode cX12_nearest 103 = .ok (.goto 11, 3) := by decide +kernel
theorem dX12_nearest_106 : decode cX12_nearest 106 = .ok (.aload_n 0, 1) := by decide +kernel
theorem dX12_nearest_107 : decode cX12_nearest 107 = .ok (.getfield 37, 3) := by decide +kernel
theorem dX12_nearest_110 : decode cX12_nearest 110 = .ok (.iconst 0, 1) := by decide +kernel
theorem dX12_nearest_111 : decode cX12_nearest 111 = .ok (.invokestatic 107, 3) := by decide +kernel
theorem dX12_nearest_114 : decode cX12_nearest 114 = .ok (.ireturn, 1) := by decide +kernel
theorem dX12_steps_0 : decode cX12_steps 0 = .ok (.iload_n 1, 1) := by decide +kernel
theorem dX12_steps_1 : decode cX12_steps 1 = .ok (.invokestatic 177, 3) := by decide +kernel
theorem dX12_steps_4 : decode cX12_steps 4 = .ok (.ifCond .eq 10, 3) := by decide +kernel
theorem dX12_steps_7 : decode cX12_steps 7 = .ok (.iload_n 2, 1) := by decide +kernel
theorem dX12_steps_8 : decode cX12_steps 8 = .ok (.invokestatic 177, 3) := by decide +kernel
theorem dX12_steps_11 : decode cX12_steps 11 = .ok (.ifCond .ne 7, 3) := by decide +kernel
theorem dX12_steps_14 : decode cX12_steps 14 = .ok (.sipush (-1001), 3) := by decide +kernel
theorem dX12_steps_17 : decode cX12_steps 17 = .ok (.ireturn, 1) := by decide +kernel
theorem dX12_steps_18 : decode cX12_steps 18 = .ok (.iload_n 3, 1) := by decide +kernel
theorem dX12_steps_19 : decode cX12_steps 19 = .ok (.invokestatic 207, 3) := by decide +kernel
theorem dX12_steps_22 : decode cX12_steps 22 = .ok (.ifCond .ne 7, 3) := by decide +kernel
theorem dX12_steps_25 : decode cX12_steps 25 = .ok (.sipush (-1002), 3) := by decide +kernel
theorem dX12_steps_28 : decode cX12_steps 28 = .ok (.ireturn, 1) := by decide +kernel
theorem dX12_steps_29 : decode cX12_steps 29 = .ok (.aload_n 0, 1) := by decide +kernel
theorem dX12_steps_30 : decode cX12_steps 30 = .ok (.getfield 49, 3) := by decide +kernel
theorem dX12_steps_33 : decode cX12_steps 33 = .ok (.iconst 4, 1) := by decide +kernel
theorem dX12_steps_34 : decode cX12_steps 34 = .ok (.iload_n 1, 1) := by decide +kernel
theorem dX12_steps_35 : decode cX12_steps 35 = .ok (.imul, 1) := by decide +kernel
theorem dX12_steps_36 : decode cX12_steps 36 = .ok (.aload_n 0, 1) := by decide +kernel
theorem dX12_steps_37 : decode cX12_steps 37 = .ok (.getfield 74, 3) := by decide +kernel
theorem dX12_steps_40 : decode cX12_steps 40 = .ok (.iconst 0, 1) := by decide +kernel
theorem dX12_steps_41 : decode cX12_steps 41 = .ok (.invokestatic 135, 3) := by decide +kernel
theorem dX12_steps_44 : decode cX12_steps 44 = .ok (.aload_n 0, 1) := by decide +kernel
theorem dX12_steps_45 : decode cX12_steps 45 = .ok (.getfield 49, 3) := by decide +kernel
theorem dX12_steps_48 : decode cX12_steps 48 = .ok (.iconst 4, 1) := by decide +kernel
theorem dX12_steps_49 : decode cX12_steps 49 = .ok (.iload_n 2, 1) := by decide +kernel
theorem dX12_steps_50 : decode cX12_steps 50 = .ok (.imul, 1) := by decide +kernel
theorem dX12_steps_51 : decode cX12_steps 51 = .ok (.aload_n 0, 1) := by decide +kernel
theorem dX12_steps_52 : decode cX12_steps 52 = .ok (.getfield 77, 3) := by decide +kernel
theorem dX12_steps_55 : decode cX12_steps 55 = .ok (.iconst 0, 1) := by decide +kernel
theorem dX12_steps_56 : decode cX12_steps 56 = .ok (.invokestatic 135, 3) := by decide +kernel
theorem dX12_steps_59 : decode cX12_steps 59 = .ok (.iconst 0, 1) := by decide +kernel
theorem dX12_steps_60 : decode cX12_steps 60 = .ok (.istore 4, 2) := by decide +kernel
theorem dX12_steps_62 : decode cX12_steps 62 = .ok (.aload_n 0, 1) := by decide +kernel
theorem dX12_steps_63 : decode cX12_steps 63 = .ok (.getfield 77, 3) := by decide +kernel
theorem dX12_steps_66 : decode cX12_steps 66 = .ok (.iconst 0, 1) := by decide +kernel
theorem dX12_steps_67 : decode cX12_steps 67 = .ok (.invokestatic 159, 3) := by decide +kernel
theorem dX12_steps_70 : decode cX12_steps 70 = .ok (.ifCond .ne 50, 3) := by decide +kernel
theorem dX12_steps_73 : decode cX12_steps 73 = .ok (.aload_n 0, 1) := by decide +kernel
theorem dX12_steps_74 : decode cX12_steps 74 = .ok (.aload_n 0, 1) := by decide +kernel
theorem dX12_steps_75 : decode cX12_steps 75 = .ok (.getfield 74, 3) := by decide +kernel
theorem dX12_steps_78 : decode cX12_steps 78 = .ok (.iconst 0, 1) := by decide +kernel
theorem dX12_steps_79 : decode cX12_steps 79 = .ok (.aload_n 0, 1) := by decide +kernel
theorem dX12_steps_80 : decode cX12_steps 80 = .ok (.getfield 77, 3) := by decide +kernel
theorem dX12_steps_83 : decode cX12_steps 83 = .ok (.iconst 0, 1) := by decide +kernel
theorem dX12_steps_84 : decode cX12_steps 84 = .ok (.iload_n 3, 1) := by decide +kernel
theorem dX12_steps_85 : decode cX12_steps 85 = .ok (.invokevirtual 214, 3) := by decide +kernel
theorem dX12_steps_88 : decode cX12_steps 88 = .ok (.aload_n 0, 1) := by decide +kernel
theorem dX12_steps_89 : decode cX12_steps 89 = .ok (.getfield 77, 3) := by decide +kernel
theorem dX12_steps_92 : decode cX12_steps 92 = .ok (.iconst 0, 1) := by decide +kernel
theorem dX12_steps_93 : decode cX12_steps 93 = .ok (.aload_n 0, 1) := by decide +kernel
theorem dX12_steps_94 : decode cX12_steps 94 = .ok (.getfield 74, 3) := by decide +kernel
theorem dX12_steps_97 : decode cX12_steps 97 = .ok (.iconst 0, 1) := by decide +kernel
theorem dX12_steps_98 : decode cX12_steps 98 = .ok (.invokestatic 135, 3) := by decide +kernel
theorem dX12_steps_101 : decode cX12_steps 101 = .ok (.aload_n 0, 1) := by decide +kernel
theorem dX12_steps_102 : decode cX12_steps 102 = .ok (.getfield 37, 3) := by decide +kernel
theorem dX12_steps_105 : decode cX12_steps 105 = .ok (.iconst 0, 1) := by decide +kernel
theorem dX12_steps_106 : decode cX12_steps 106 = .ok (.aload_n 0, 1) := by decide +kernel
theorem dX12_steps_107 : decode cX12_steps 107 = .ok (.getfield 77, 3) := by decide +kernel
theorem dX12_steps_110 : decode cX12_steps 110 = .ok (.iconst 0, 1) := by decide +kernel
theorem dX12_steps_111 : decode cX12_steps 111 = .ok (.invokestatic 135, 3) := by decide +kernel
theorem dX12_steps_114 : decode cX12_steps 114 = .ok (.iinc 4 1, 3) := by decide +kernel
theorem dX12_steps_117 : decode cX12_steps 117 = .ok (.goto (-55), 3) := by decide +kernel
theorem dX12_steps_120 : decode cX12_steps 120 = .ok (.iload 4, 2) := by decide +kernel
theorem dX12_steps_122 : decode cX12_steps 122 = .ok (.ireturn, 1) := by decide +kernel
theorem dX12_mate_0 : decode cX12_mate 0 = .ok (.iload_n 1, 1) := by decide +kernel
theorem dX12_mate_1 : decode cX12_mate 1 = .ok (.invokestatic 177, 3) := by decide +kernel
theorem dX12_mate_4 : decode cX12_mate 4 = .ok (.ifCond .ne 7, 3) := by decide +kernel
theorem dX12_mate_7 : decode cX12_mate 7 = .ok (.sipush (-1001), 3) := by decide +kernel
theorem dX12_mate_10 : decode cX12_mate 10 = .ok (.ireturn, 1) := by decide +kernel
theorem dX12_mate_11 : decode cX12_mate 11 = .ok (.iload_n 2, 1) := by decide +kernel
theorem dX12_mate_12 : decode cX12_mate 12 = .ok (.invokestatic 207, 3) := by decide +kernel
theorem dX12_mate_15 : decode cX12_mate 15 = .ok (.ifCond .eq 23, 3) := by decide +kernel
theorem dX12_mate_18 : decode cX12_mate 18 = .ok (.iload_n 3, 1) := by decide +kernel
theorem dX12_mate_19 : decode cX12_mate 19 = .ok (.iconst 0, 1) := by decide +kernel
theorem dX12_mate_20 : decode cX12_mate 20 = .ok (.bipush 23, 2) := by decide +kernel
theorem dX12_mate_22 : decode cX12_mate 22 = .ok (.invokestatic 155, 3) := by decide +kernel
theorem dX12_mate_25 : decode cX12_mate 25 = .ok (.ifCond .eq 13, 3) := by decide +kernel
theorem dX12_mate_28 : decode cX12_mate 28 = .ok (.iload 4, 2) := by decide +kernel
theorem dX12_mate_30 : decode cX12_mate 30 = .ok (.iconst 0, 1) := by decide +kernel
theorem dX12_mate_31 : decode cX12_mate 31 = .ok (.iconst 3, 1) := by decide +kernel
theorem dX12_mate_32 : decode cX12_mate 32 = .ok (.invokestatic 155, 3) := by decide +kernel
theorem dX12_mate_35 : decode cX12_mate 35 = .ok (.ifCond .ne 7, 3) := by decide +kernel
theorem dX12_mate_38 : decode cX12_mate 38 = .ok (.sipush (-1002), 3) := by decide +kernel
theorem dX12_mate_41 : decode cX12_mate 41 = .ok (.ireturn, 1) := by decide +kernel
theorem dX12_mate_42 : decode cX12_mate 42 = .ok (.aload_n 0, 1) := by decide +kernel
theorem dX12_mate_43 : decode cX12_mate 43 = .ok (.getfield 49, 3) := by decide +kernel
theorem dX12_mate_46 : decode cX12_mate 46 = .ok (.iconst 4, 1) := by decide +kernel
theorem dX12_mate_47 : decode cX12_mate 47 = .ok (.iload_n 1, 1) := by decide +kernel
theorem dX12_mate_48 : decode cX12_mate 48 = .ok (.imul, 1) := by decide +kernel
theorem dX12_mate_49 : decode cX12_mate 49 = .ok (.aload_n 0, 1) := by decide +kernel
theorem dX12_mate_50 : decode cX12_mate 50 = .ok (.getfield 13, 3) := by decide +kernel
theorem dX12_mate_53 : decode cX12_mate 53 = .ok (.iconst 4, 1) := by decide +kernel
theorem dX12_mate_54 : decode cX12_mate 54 = .ok (.iload_n 3, 1) := by decide +kernel
theorem dX12_mate_55 : decode cX12_mate 55 = .ok (.imul, 1) := by decide +kernel
theorem dX12_mate_56 : decode cX12_mate 56 = .ok (.iload_n 2, 1) := by decide +kernel
theorem dX12_mate_57 : decode cX12_mate 57 = .ok (.aload_n 0, 1) := by decide +kernel
theorem dX12_mate_58 : decode cX12_mate 58 = .ok (.getfield 22, 3) := by decide +kernel
theorem dX12_mate_61 : decode cX12_mate 61 = .ok (.invokestatic 115, 3) := by decide +kernel
theorem dX12_mate_64 : decode cX12_mate 64 = .ok (.aload_n 0, 1) := by decide +kernel
theorem dX12_mate_65 : decode cX12_mate 65 = .ok (.getfield 22, 3) := by decide +kernel
theorem dX12_mate_68 : decode cX12_mate 68 = .ok (.iload 4, 2) := by decide +kernel
theorem dX12_mate_70 : decode cX12_mate 70 = .ok (.iaload, 1) := by decide +kernel
theorem dX12_mate_71 : decode cX12_mate 71 = .ok (.ireturn, 1) := by decide +kernel
theorem dX12_leastPrime_0 : decode cX12_leastPrime 0 = .ok (.iconst 2, 1) := by decide +kernel
theorem dX12_leastPrime_1 : decode cX12_leastPrime 1 = .ok (.istore_n 1, 1) := by decide +kernel
theorem dX12_leastPrime_2 : decode cX12_leastPrime 2 = .ok (.iload_n 0, 1) := by decide +kernel
theorem dX12_leastPrime_3 : decode cX12_leastPrime 3 = .ok (.iload_n 1, 1) := by decide +kernel
theorem dX12_leastPrime_4 : decode cX12_leastPrime 4 = .ok (.irem, 1) := by decide +kernel
theorem dX12_leastPrime_5 : decode cX12_leastPrime 5 = .ok (.ifCond .eq 9, 3) := by decide +kernel
theorem dX12_leastPrime_8 : decode cX12_leastPrime 8 = .ok (.iinc 1 1, 3) := by decide +kernel
theorem dX12_leastPrime_11 : decode cX12_leastPrime 11 = .ok (.goto (-9), 3) := by decide +kernel
theorem dX12_leastPrime_14 : decode cX12_leastPrime 14 = .ok (.iload_n 1, 1) := by decide +kernel
theorem dX12_leastPrime_15 : decode cX12_leastPrime 15 = .ok (.ireturn, 1) := by decide +kernel
theorem dX12_factor_0 : decode cX12_factor 0 = .ok (.iload_n 1, 1) := by decide +kernel
theorem dX12_factor_1 : decode cX12_factor 1 = .ok (.invokestatic 177, 3) := by decide +kernel
theorem dX12_factor_4 : decode cX12_factor 4 = .ok (.ifCond .ne 7, 3) := by decide +kernel
theorem dX12_factor_7 : decode cX12_factor 7 = .ok (.sipush (-1001), 3) := by decide +kernel
theorem dX12_factor_10 : decode cX12_factor 10 = .ok (.ireturn, 1) := by decide +kernel
theorem dX12_factor_11 : decode cX12_factor 11 = .ok (.iload_n 3, 1) := by decide +kernel
theorem dX12_factor_12 : decode cX12_factor 12 = .ok (.iconst 0, 1) := by decide +kernel
theorem dX12_factor_13 : decode cX12_factor 13 = .ok (.iconst 3, 1) := by decide +kernel
theorem dX12_factor_14 : decode cX12_factor 14 = .ok (.invokestatic 155, 3) := by decide +kernel
theorem dX12_factor_17 : decode cX12_factor 17 = .ok (.ifCond .eq 7, 3) := by decide +kernel
theorem dX12_factor_20 : decode cX12_factor 20 = .ok (.iload_n 2, 1) := by decide +kernel
theorem dX12_factor_21 : decode cX12_factor 21 = .ok (.ifCond .ge 7, 3) := by decide +kernel
theorem dX12_factor_24 : decode cX12_factor 24 = .ok (.sipush (-1002), 3) := by decide +kernel
theorem dX12_factor_27 : decode cX12_factor 27 = .ok (.ireturn, 1) := by decide +kernel
theorem dX12_factor_28 : decode cX12_factor 28 = .ok (.aload_n 0, 1) := by decide +kernel
theorem dX12_factor_29 : decode cX12_factor 29 = .ok (.iload_n 1, 1) := by decide +kernel
theorem dX12_factor_30 : decode cX12_factor 30 = .ok (.invokevirtual 163, 3) := by decide +kernel
theorem dX12_factor_33 : decode cX12_factor 33 = .ok (.ifCond .ne 16, 3) := by decide +kernel
theorem dX12_factor_36 : decode cX12_factor 36 = .ok (.iload_n 2, 1) := by decide +kernel
theorem dX12_factor_37 : decode cX12_factor 37 = .ok (.aload_n 0, 1) := by decide +kernel
theorem dX12_factor_38 : decode cX12_factor 38 = .ok (.aload_n 0, 1) := by decide +kernel
theorem dX12_factor_39 : decode cX12_factor 39 = .ok (.iload_n 1, 1) := by decide +kernel
theorem dX12_factor_40 : decode cX12_factor 40 = .ok (.invokevirtual 173, 3) := by decide +kernel
theorem dX12_factor_43 : decode cX12_factor 43 = .ok (.invokevirtual 193, 3) := by decide +kernel
theorem dX12_factor_46 : decode cX12_factor 46 = .ok (.if_icmp .le 7, 3) := by decide +kernel
theorem dX12_factor_49 : decode cX12_factor 49 = .ok (.sipush (-1003), 3) := by decide +kernel
theorem dX12_factor_52 : decode cX12_factor 52 = .ok (.ireturn, 1) := by decide +kernel
theorem dX12_factor_53 : decode cX12_factor 53 = .ok (.aload_n 0, 1) := by decide +kernel
theorem dX12_factor_54 : decode cX12_factor 54 = .ok (.getfield 49, 3) := by decide +kernel
theorem dX12_factor_57 : decode cX12_factor 57 = .ok (.iconst 4, 1) := by decide +kernel
theorem dX12_factor_58 : decode cX12_factor 58 = .ok (.iload_n 1, 1) := by decide +kernel
theorem dX12_factor_59 : decode cX12_factor 59 = .ok (.imul, 1) := by decide +kernel
theorem dX12_factor_60 : decode cX12_factor 60 = .ok (.aload_n 0, 1) := by decide +kernel
theorem dX12_factor_61 : decode cX12_factor 61 = .ok (.getfield 31, 3) := by decide +kernel
theorem dX12_factor_64 : decode cX12_factor 64 = .ok (.iconst 0, 1) := by decide +kernel
theorem dX12_factor_65 : decode cX12_factor 65 = .ok (.invokestatic 135, 3) := by decide +kernel
theorem dX12_factor_68 : decode cX12_factor 68 = .ok (.iconst 0, 1) := by decide +kernel
theorem dX12_factor_69 : decode cX12_factor 69 = .ok (.istore 4, 2) := by decide +kernel
theorem dX12_factor_71 : decode cX12_factor 71 = .ok (.iload 4, 2) := by decide +kernel
theorem dX12_factor_73 : decode cX12_factor 73 = .ok (.iload_n 2, 1) := by decide +kernel
theorem dX12_factor_74 : decode cX12_factor 74 = .ok (.if_icmp .gt 92, 3) := by decide +kernel
theorem dX12_factor_77 : decode cX12_factor 77 = .ok (.aload_n 0, 1) := by decide +kernel
theorem dX12_factor_78 : decode cX12_factor 78 = .ok (.getfield 31, 3) := by decide +kernel
theorem dX12_factor_81 : decode cX12_factor 81 = .ok (.iconst 0, 1) := by decide +kernel
theorem dX12_factor_82 : decode cX12_factor 82 = .ok (.invokestatic 107, 3) := by decide +kernel
theorem dX12_factor_85 : decode cX12_factor 85 = .ok (.istore 5, 2) := by decide +kernel
theorem dX12_factor_87 : decode cX12_factor 87 = .ok (.iload 5, 2) := by decide +kernel
theorem dX12_factor_89 : decode cX12_factor 89 = .ok (.iconst 1, 1) := by decide +kernel
theorem dX12_factor_90 : decode cX12_factor 90 = .ok (.if_icmp .ne 10, 3) := by decide +kernel
theorem dX12_factor_93 : decode cX12_factor 93 = .ok (.aload_n 0, 1) := by decide +kernel
theorem dX12_factor_94 : decode cX12_factor 94 = .ok (.getfield 31, 3) := by decide +kernel
theorem dX12_factor_97 : decode cX12_factor 97 = .ok (.iload_n 3, 1) := by decide +kernel
theorem dX12_factor_98 : decode cX12_factor 98 = .ok (.iaload, 1) := by decide +kernel
theorem dX12_factor_99 : decode cX12_factor 99 = .ok (.ireturn, 1) := by decide +kernel
theorem dX12_factor_100 : decode cX12_factor 100 = .ok (.aload_n 0, 1) := by decide +kernel
theorem dX12_factor_101 : decode cX12_factor 101 = .ok (.iconst 0, 1) := by decide +kernel
theorem dX12_factor_102 : decode cX12_factor 102 = .ok (.putfield 95, 3) := by decide +kernel
theorem dX12_factor_105 : decode cX12_factor 105 = .ok (.aload_n 0, 1) := by decide +kernel
theorem dX12_factor_106 : decode cX12_factor 106 = .ok (.iload 5, 2) := by decide +kernel
theorem dX12_factor_108 : decode cX12_factor 108 = .ok (.invokestatic 222, 3) := by decide +kernel
theorem dX12_factor_111 : decode cX12_factor 111 = .ok (.iconst 0, 1) := by decide +kernel
theorem dX12_factor_112 : decode cX12_factor 112 = .ok (.iconst 0, 1) := by decide +kernel
theorem dX12_factor_113 : decode cX12_factor 113 = .ok (.iconst 1, 1) := by decide +kernel
theorem dX12_factor_114 : decode cX12_factor 114 = .ok (.iconst 1, 1) := by decide +kernel
theorem dX12_factor_115 : decode cX12_factor 115 = .ok (.invokevirtual 99, 3) := by decide +kernel
theorem dX12_factor_118 : decode cX12_factor 118 = .ok (.aload_n 0, 1) := by decide +kernel
theorem dX12_factor_119 : decode cX12_factor 119 = .ok (.getfield 25, 3) := by decide +kernel
theorem dX12_factor_122 : decode cX12_factor 122 = .ok (.iconst 0, 1) := by decide +kernel
theorem dX12_factor_123 : decode cX12_factor 123 = .ok (.aload_n 0, 1) := by decide +kernel
theorem dX12_factor_124 : decode cX12_factor 124 = .ok (.getfield 74, 3) := by decide +kernel
theorem dX12_factor_127 : decode cX12_factor 127 = .ok (.iconst 0, 1) := by decide +kernel
theorem dX12_factor_128 : decode cX12_factor 128 = .ok (.invokestatic 135, 3) := by decide +kernel
theorem dX12_factor_131 : decode cX12_factor 131 = .ok (.aload_n 0, 1) := by decide +kernel
theorem dX12_factor_132 : decode cX12_factor 132 = .ok (.aload_n 0, 1) := by decide +kernel
theorem dX12_factor_133 : decode cX12_factor 133 = .ok (.getfield 74, 3) := by decide +kernel
theorem dX12_factor_136 : decode cX12_factor 136 = .ok (.iconst 0, 1) := by decide +kernel
theorem dX12_factor_137 : decode cX12_factor 137 = .ok (.aload_n 0, 1) := by decide +kernel
theorem dX12_factor_138 : decode cX12_factor 138 = .ok (.getfield 31, 3) := by decide +kernel
theorem dX12_factor_141 : decode cX12_factor 141 = .ok (.iconst 0, 1) := by decide +kernel
theorem dX12_factor_142 : decode cX12_factor 142 = .ok (.iconst 0, 1) := by decide +kernel
theorem dX12_factor_143 : decode cX12_factor 143 = .ok (.invokevirtual 127, 3) := by decide +kernel
theorem dX12_factor_146 : decode cX12_factor 146 = .ok (.pop, 1) := by decide +kernel
theorem dX12_factor_147 : decode cX12_factor 147 = .ok (.aload_n 0, 1) := by decide +kernel
theorem dX12_factor_148 : decode cX12_factor 148 = .ok (.getfield 19, 3) := by decide +kernel
theorem dX12_factor_151 : decode cX12_factor 151 = .ok (.iconst 0, 1) := by decide +kernel
theorem dX12_factor_152 : decode cX12_factor 152 = .ok (.aload_n 0, 1) := by decide +kernel
theorem dX12_factor_153 : decode cX12_factor 153 = .ok (.getfield 31, 3) := by decide +kernel
theorem dX12_factor_156 : decode cX12_factor 156 = .ok (.iconst 0, 1) := by decide +kernel
theorem dX12_factor_157 : decode cX12_factor 157 = .ok (.invokestatic 135, 3) := by decide +kernel
theorem dX12_factor_160 : decode cX12_factor 160 = .ok (.iinc 4 1, 3) := by decide +kernel
theorem dX12_factor_163 : decode cX12_factor 163 = .ok (.goto (-92), 3) := by decide +kernel
theorem dX12_factor_166 : decode cX12_factor 166 = .ok (.aload_n 0, 1) := by decide +kernel
theorem dX12_factor_167 : decode cX12_factor 167 = .ok (.getfield 74, 3) := by decide +kernel
theorem dX12_factor_170 : decode cX12_factor 170 = .ok (.iload_n 3, 1) := by decide +kernel
theorem dX12_factor_171 : decode cX12_factor 171 = .ok (.iaload, 1) := by decide +kernel
theorem dX12_factor_172 : decode cX12_factor 172 = .ok (.ireturn, 1) := by decide +kernel
theorem dX12_tells_0 : decode cX12_tells 0 = .ok (.iload_n 1, 1) := by decide +kernel
theorem dX12_tells_1 : decode cX12_tells 1 = .ok (.ifCond .ge 10, 3) := by decide +kernel
theorem dX12_tells_4 : decode cX12_tells 4 = .ok (.aload_n 0, 1) := by decide +kernel
theorem dX12_tells_5 : decode cX12_tells 5 = .ok (.getfield 95, 3) := by decide +kernel
theorem dX12_tells_8 : decode cX12_tells 8 = .ok (.goto 27, 3) := by decide +kernel
theorem dX12_tells_11 : decode cX12_tells 11 = .ok (.iload_n 1, 1) := by decide +kernel
theorem dX12_tells_12 : decode cX12_tells 12 = .ok (.aload_n 0, 1) := by decide +kernel
theorem dX12_tells_13 : decode cX12_tells 13 = .ok (.getfield 95, 3) := by decide +kernel
theorem dX12_tells_16 : decode cX12_tells 16 = .ok (.if_icmp .ge 16, 3) := by decide +kernel
theorem dX12_tells_19 : decode cX12_tells 19 = .ok (.aload_n 0, 1) := by decide +kernel
theorem dX12_tells_20 : decode cX12_tells 20 = .ok (.getfield 25, 3) := by decide +kernel
theorem dX12_tells_23 : decode cX12_tells 23 = .ok (.iconst 4, 1) := by decide +kernel
theorem dX12_tells_24 : decode cX12_tells 24 = .ok (.iload_n 1, 1) := by decide +kernel
theorem dX12_tells_25 : decode cX12_tells 25 = .ok (.imul, 1) := by decide +kernel
theorem dX12_tells_26 : decode cX12_tells 26 = .ok (.iload_n 2, 1) := by decide +kernel
theorem dX12_tells_27 : decode cX12_tells 27 = .ok (.iadd, 1) := by decide +kernel
theorem dX12_tells_28 : decode cX12_tells 28 = .ok (.iaload, 1) := by decide +kernel
theorem dX12_tells_29 : decode cX12_tells 29 = .ok (.goto 6, 3) := by decide +kernel
theorem dX12_tells_32 : decode cX12_tells 32 = .ok (.sipush (-1003), 3) := by decide +kernel
theorem dX12_tells_35 : decode cX12_tells 35 = .ok (.ireturn, 1) := by decide +kernel
theorem dX12_prime_0 : decode cX12_prime 0 = .ok (.iload_n 1, 1) := by decide +kernel
theorem dX12_prime_1 : decode cX12_prime 1 = .ok (.invokestatic 177, 3) := by decide +kernel
theorem dX12_prime_4 : decode cX12_prime 4 = .ok (.ifCond .ne 7, 3) := by decide +kernel
theorem dX12_prime_7 : decode cX12_prime 7 = .ok (.sipush (-1001), 3) := by decide +kernel
theorem dX12_prime_10 : decode cX12_prime 10 = .ok (.ireturn, 1) := by decide +kernel
theorem dX12_prime_11 : decode cX12_prime 11 = .ok (.iload_n 2, 1) := by decide +kernel
theorem dX12_prime_12 : decode cX12_prime 12 = .ok (.invokestatic 207, 3) := by decide +kernel
theorem dX12_prime_15 : decode cX12_prime 15 = .ok (.ifCond .eq 22, 3) := by decide +kernel
theorem dX12_prime_18 : decode cX12_prime 18 = .ok (.iload_n 3, 1) := by decide +kernel
theorem dX12_prime_19 : decode cX12_prime 19 = .ok (.iconst (-1), 1) := by decide +kernel
theorem dX12_prime_20 : decode cX12_prime 20 = .ok (.if_icmp .lt 17, 3) := by decide +kernel
theorem dX12_prime_23 : decode cX12_prime 23 = .ok (.iload_n 3, 1) := by decide +kernel
theorem dX12_prime_24 : decode cX12_prime 24 = .ok (.ifCond .lt 17, 3) := by decide +kernel
theorem dX12_prime_27 : decode cX12_prime 27 = .ok (.iload 4, 2) := by decide +kernel
theorem dX12_prime_29 : decode cX12_prime 29 = .ok (.iconst 0, 1) := by decide +kernel
theorem dX12_prime_30 : decode cX12_prime 30 = .ok (.iconst 3, 1) := by decide +kernel
theorem dX12_prime_31 : decode cX12_prime 31 = .ok (.invokestatic 155, 3) := by decide +kernel
theorem dX12_prime_34 : decode cX12_prime 34 = .ok (.ifCond .ne 7, 3) := by decide +kernel
theorem dX12_prime_37 : decode cX12_prime 37 = .ok (.sipush (-1002), 3) := by decide +kernel
theorem dX12_prime_40 : decode cX12_prime 40 = .ok (.ireturn, 1) := by decide +kernel
theorem dX12_prime_41 : decode cX12_prime 41 = .ok (.aload_n 0, 1) := by decide +kernel
theorem dX12_prime_42 : decode cX12_prime 42 = .ok (.iload_n 1, 1) := by decide +kernel
theorem dX12_prime_43 : decode cX12_prime 43 = .ok (.invokevirtual 163, 3) := by decide +kernel
theorem dX12_prime_46 : decode cX12_prime 46 = .ok (.ifCond .eq 7, 3) := by decide +kernel
theorem dX12_prime_49 : decode cX12_prime 49 = .ok (.sipush (-1003), 3) := by decide +kernel
theorem dX12_prime_52 : decode cX12_prime 52 = .ok (.ireturn, 1) := by decide +kernel
theorem dX12_prime_53 : decode cX12_prime 53 = .ok (.aload_n 0, 1) := by decide +kernel
theorem dX12_prime_54 : decode cX12_prime 54 = .ok (.getfield 49, 3) := by decide +kernel
theorem dX12_prime_57 : decode cX12_prime 57 = .ok (.iconst 4, 1) := by decide +kernel
theorem dX12_prime_58 : decode cX12_prime 58 = .ok (.iload_n 1, 1) := by decide +kernel
theorem dX12_prime_59 : decode cX12_prime 59 = .ok (.imul, 1) := by decide +kernel
theorem dX12_prime_60 : decode cX12_prime 60 = .ok (.aload_n 0, 1) := by decide +kernel
theorem dX12_prime_61 : decode cX12_prime 61 = .ok (.getfield 31, 3) := by decide +kernel
theorem dX12_prime_64 : decode cX12_prime 64 = .ok (.iconst 0, 1) := by decide +kernel
theorem dX12_prime_65 : decode cX12_prime 65 = .ok (.invokestatic 135, 3) := by decide +kernel
theorem dX12_prime_68 : decode cX12_prime 68 = .ok (.aload_n 0, 1) := by decide +kernel
theorem dX12_prime_69 : decode cX12_prime 69 = .ok (.iconst 0, 1) := by decide +kernel
theorem dX12_prime_70 : decode cX12_prime 70 = .ok (.putfield 95, 3) := by decide +kernel
theorem dX12_prime_73 : decode cX12_prime 73 = .ok (.iconst 2, 1) := by decide +kernel
theorem dX12_prime_74 : decode cX12_prime 74 = .ok (.istore 5, 2) := by decide +kernel
theorem dX12_prime_76 : decode cX12_prime 76 = .ok (.iload 5, 2) := by decide +kernel
theorem dX12_prime_78 : decode cX12_prime 78 = .ok (.aload_n 0, 1) := by decide +kernel
theorem dX12_prime_79 : decode cX12_prime 79 = .ok (.iload_n 1, 1) := by decide +kernel
theorem dX12_prime_80 : decode cX12_prime 80 = .ok (.invokevirtual 173, 3) := by decide +kernel
theorem dX12_prime_83 : decode cX12_prime 83 = .ok (.if_icmp .gt 40, 3) := by decide +kernel
theorem dX12_prime_86 : decode cX12_prime 86 = .ok (.aload_n 0, 1) := by decide +kernel
theorem dX12_prime_87 : decode cX12_prime 87 = .ok (.iload_n 1, 1) := by decide +kernel
theorem dX12_prime_88 : decode cX12_prime 88 = .ok (.invokevirtual 173, 3) := by decide +kernel
theorem dX12_prime_91 : decode cX12_prime 91 = .ok (.iload 5, 2) := by decide +kernel
theorem dX12_prime_93 : decode cX12_prime 93 = .ok (.irem, 1) := by decide +kernel
theorem dX12_prime_94 : decode cX12_prime 94 = .ok (.ifCond .ne 23, 3) := by decide +kernel
theorem dX12_prime_97 : decode cX12_prime 97 = .ok (.iload 5, 2) := by decide +kernel
theorem dX12_prime_99 : decode cX12_prime 99 = .ok (.invokestatic 180, 3) := by decide +kernel
theorem dX12_prime_102 : decode cX12_prime 102 = .ok (.ifCond .eq 15, 3) := by decide +kernel
theorem dX12_prime_105 : decode cX12_prime 105 = .ok (.aload_n 0, 1) := by decide +kernel
theorem dX12_prime_106 : decode cX12_prime 106 = .ok (.iload 5, 2) := by decide +kernel
theorem dX12_prime_108 : decode cX12_prime 108 = .ok (.iload_n 2, 1) := by decide +kernel
theorem dX12_prime_109 : decode cX12_prime 109 = .ok (.iconst 1, 1) := by decide +kernel
theorem dX12_prime_110 : decode cX12_prime 110 = .ok (.iconst 1, 1) := by decide +kernel
theorem dX12_prime_111 : decode cX12_prime 111 = .ok (.sipush 600, 3) := by decide +kernel
theorem dX12_prime_114 : decode cX12_prime 114 = .ok (.invokevirtual 99, 3) := by decide +kernel
theorem dX12_prime_117 : decode cX12_prime 117 = .ok (.iinc 5 1, 3) := by decide +kernel
theorem dX12_prime_120 : decode cX12_prime 120 = .ok (.goto (-44), 3) := by decide +kernel
theorem dX12_prime_123 : decode cX12_prime 123 = .ok (.aload_n 0, 1) := by decide +kernel
theorem dX12_prime_124 : decode cX12_prime 124 = .ok (.iload_n 3, 1) := by decide +kernel
theorem dX12_prime_125 : decode cX12_prime 125 = .ok (.iload 4, 2) := by decide +kernel
theorem dX12_prime_127 : decode cX12_prime 127 = .ok (.invokevirtual 225, 3) := by decide +kernel
theorem dX12_prime_130 : decode cX12_prime 130 = .ok (.ireturn, 1) := by decide +kernel
theorem dX12_list_0 : decode cX12_list 0 = .ok (.iload_n 1, 1) := by decide +kernel
theorem dX12_list_1 : decode cX12_list 1 = .ok (.iconst 1, 1) := by decide +kernel
theorem dX12_list_2 : decode cX12_list 2 = .ok (.sipush 150, 3) := by decide +kernel
theorem dX12_list_5 : decode cX12_list 5 = .ok (.invokestatic 155, 3) := by decide +kernel
theorem dX12_list_8 : decode cX12_list 8 = .ok (.ifCond .eq 29, 3) := by decide +kernel
theorem dX12_list_11 : decode cX12_list 11 = .ok (.iload_n 2, 1) := by decide +kernel
theorem dX12_list_12 : decode cX12_list 12 = .ok (.invokestatic 207, 3) := by decide +kernel
theorem dX12_list_15 : decode cX12_list 15 = .ok (.ifCond .eq 22, 3) := by decide +kernel
theorem dX12_list_18 : decode cX12_list 18 = .ok (.iload_n 3, 1) := by decide +kernel
theorem dX12_list_19 : decode cX12_list 19 = .ok (.iconst (-1), 1) := by decide +kernel
theorem dX12_list_20 : decode cX12_list 20 = .ok (.if_icmp .lt 17, 3) := by decide +kernel
theorem dX12_list_23 : decode cX12_list 23 = .ok (.iload_n 3, 1) := by decide +kernel
theorem dX12_list_24 : decode cX12_list 24 = .ok (.ifCond .lt 17, 3) := by decide +kernel
theorem dX12_list_27 : decode cX12_list 27 = .ok (.iload 4, 2) := by decide +kernel
theorem dX12_list_29 : decode cX12_list 29 = .ok (.iconst 0, 1) := by decide +kernel
theorem dX12_list_30 : decode cX12_list 30 = .ok (.iconst 3, 1) := by decide +kernel
theorem dX12_list_31 : decode cX12_list 31 = .ok (.invokestatic 155, 3) := by decide +kernel
theorem dX12_list_34 : decode cX12_list 34 = .ok (.ifCond .ne 7, 3) := by decide +kernel
theorem dX12_list_37 : decode cX12_list 37 = .ok (.sipush (-1002), 3) := by decide +kernel
theorem dX12_list_40 : decode cX12_list 40 = .ok (.ireturn, 1) := by decide +kernel
theorem dX12_list_41 : decode cX12_list 41 = .ok (.aload_n 0, 1) := by decide +kernel
theorem dX12_list_42 : decode cX12_list 42 = .ok (.iconst 0, 1) := by decide +kernel
theorem dX12_list_43 : decode cX12_list 43 = .ok (.putfield 95, 3) := by decide +kernel
theorem dX12_list_46 : decode cX12_list 46 = .ok (.aload_n 0, 1) := by decide +kernel
theorem dX12_list_47 : decode cX12_list 47 = .ok (.iload_n 1, 1) := by decide +kernel
theorem dX12_list_48 : decode cX12_list 48 = .ok (.iload_n 2, 1) := by decide +kernel
theorem dX12_list_49 : decode cX12_list 49 = .ok (.iconst 1, 1) := by decide +kernel
theorem dX12_list_50 : decode cX12_list 50 = .ok (.iconst 0, 1) := by decide +kernel
theorem dX12_list_51 : decode cX12_list 51 = .ok (.sipush 600, 3) := by decide +kernel
theorem dX12_list_54 : decode cX12_list 54 = .ok (.invokevirtual 99, 3) := by decide +kernel
theorem dX12_list_57 : decode cX12_list 57 = .ok (.aload_n 0, 1) := by decide +kernel
theorem dX12_list_58 : decode cX12_list 58 = .ok (.iload_n 3, 1) := by decide +kernel
theorem dX12_list_59 : decode cX12_list 59 = .ok (.iload 4, 2) := by decide +kernel
theorem dX12_list_61 : decode cX12_list 61 = .ok (.invokevirtual 225, 3) := by decide +kernel
theorem dX12_list_64 : decode cX12_list 64 = .ok (.ireturn, 1) := by decide +kernel
theorem dX12_isBase_0 : decode cX12_isBase 0 = .ok (.iload_n 0, 1) := by decide +kernel
theorem dX12_isBase_1 : decode cX12_isBase 1 = .ok (.iload_n 1, 1) := by decide +kernel
theorem dX12_isBase_2 : decode cX12_isBase 2 = .ok (.if_icmp .lt 21, 3) := by decide +kernel
theorem dX12_isBase_5 : decode cX12_isBase 5 = .ok (.iload_n 1, 1) := by decide +kernel
theorem dX12_isBase_6 : decode cX12_isBase 6 = .ok (.iload_n 2, 1) := by decide +kernel
theorem dX12_isBase_7 : decode cX12_isBase 7 = .ok (.if_icmp .lt 16, 3) := by decide +kernel
theorem dX12_isBase_10 : decode cX12_isBase 10 = .ok (.iload_n 2, 1) := by decide +kernel
theorem dX12_isBase_11 : decode cX12_isBase 11 = .ok (.iload_n 3, 1) := by decide +kernel
theorem dX12_isBase_12 : decode cX12_isBase 12 = .ok (.if_icmp .lt 11, 3) := by decide +kernel
theorem dX12_isBase_15 : decode cX12_isBase 15 = .ok (.iload_n 3, 1) := by decide +kernel
theorem dX12_isBase_16 : decode cX12_isBase 16 = .ok (.ifCond .lt 7, 3) := by decide +kernel
theorem dX12_isBase_19 : decode cX12_isBase 19 = .ok (.iconst 1, 1) := by decide +kernel
theorem dX12_isBase_20 : decode cX12_isBase 20 = .ok (.goto 4, 3) := by decide +kernel
theorem dX12_isBase_23 : decode cX12_isBase 23 = .ok (.iconst 0, 1) := by decide +kernel
theorem dX12_isBase_24 : decode cX12_isBase 24 = .ok (.ireturn, 1) := by decide +kernel
theorem dX12_rowsOf_0 : decode cX12_rowsOf 0 = .ok (.iconst 0, 1) := by decide +kernel
theorem dX12_rowsOf_1 : decode cX12_rowsOf 1 = .ok (.istore 4, 2) := by decide +kernel
theorem dX12_rowsOf_3 : decode cX12_rowsOf 3 = .ok (.iconst 0, 1) := by decide +kernel
theorem dX12_rowsOf_4 : decode cX12_rowsOf 4 = .ok (.istore 5, 2) := by decide +kernel
theorem dX12_rowsOf_6 : decode cX12_rowsOf 6 = .ok (.bipush 12, 2) := by decide +kernel
theorem dX12_rowsOf_8 : decode cX12_rowsOf 8 = .ok (.istore 6, 2) := by decide +kernel
theorem dX12_rowsOf_10 : decode cX12_rowsOf 10 = .ok (.iload 6, 2) := by decide +kernel
theorem dX12_rowsOf_12 : decode cX12_rowsOf 12 = .ok (.bipush (-12), 2) := by decide +kernel
theorem dX12_rowsOf_14 : decode cX12_rowsOf 14 = .ok (.if_icmp .lt 166, 3) := by decide +kernel
theorem dX12_rowsOf_17 : decode cX12_rowsOf 17 = .ok (.bipush 12, 2) := by decide +kernel
theorem dX12_rowsOf_19 : decode cX12_rowsOf 19 = .ok (.istore 7, 2) := by decide +kernel
theorem dX12_rowsOf_21 : decode cX12_rowsOf 21 = .ok (.iload 7, 2) := by decide +kernel
theorem dX12_rowsOf_23 : decode cX12_rowsOf 23 = .ok (.bipush (-12), 2) := by decide +kernel
theorem dX12_rowsOf_25 : decode cX12_rowsOf 25 = .ok (.if_icmp .lt 149, 3) := by decide +kernel
theorem dX12_rowsOf_28 : decode cX12_rowsOf 28 = .ok (.bipush 12, 2) := by decide +kernel
theorem dX12_rowsOf_30 : decode cX12_rowsOf 30 = .ok (.istore 8, 2) := by decide +kernel
theorem dX12_rowsOf_32 : decode cX12_rowsOf 32 = .ok (.iload 8, 2) := by decide +kernel
theorem dX12_rowsOf_34 : decode cX12_rowsOf 34 = .ok (.bipush (-12), 2) := by decide +kernel
theorem dX12_rowsOf_36 : decode cX12_rowsOf 36 = .ok (.if_icmp .lt 132, 3) := by decide +kernel
theorem dX12_rowsOf_39 : decode cX12_rowsOf 39 = .ok (.iload_n 1, 1) := by decide +kernel
theorem dX12_rowsOf_40 : decode cX12_rowsOf 40 = .ok (.iload 6, 2) := by decide +kernel
theorem dX12_rowsOf_42 : decode cX12_rowsOf 42 = .ok (.iload 6, 2) := by decide +kernel
theorem dX12_rowsOf_44 : decode cX12_rowsOf 44 = .ok (.imul, 1) := by decide +kernel
theorem dX12_rowsOf_45 : decode cX12_rowsOf 45 = .ok (.isub, 1) := by decide +kernel
theorem dX12_rowsOf_46 : decode cX12_rowsOf 46 = .ok (.iload 7, 2) := by decide +kernel
theorem dX12_rowsOf_48 : decode cX12_rowsOf 48 = .ok (.iload 7, 2) := by decide +kernel
theorem dX12_rowsOf_50 : decode cX12_rowsOf 50 = .ok (.imul, 1) := by decide +kernel
theorem dX12_rowsOf_51 : decode cX12_rowsOf 51 = .ok (.isub, 1) := by decide +kernel
theorem dX12_rowsOf_52 : decode cX12_rowsOf 52 = .ok (.iload 8, 2) := by decide +kernel
theorem dX12_rowsOf_54 : decode cX12_rowsOf 54 = .ok (.iload 8, 2) := by decide +kernel
theorem dX12_rowsOf_56 : decode cX12_rowsOf 56 = .ok (.imul, 1) := by decide +kernel
theorem dX12_rowsOf_57 : decode cX12_rowsOf 57 = .ok (.isub, 1) := by decide +kernel
theorem dX12_rowsOf_58 : decode cX12_rowsOf 58 = .ok (.istore 9, 2) := by decide +kernel
theorem dX12_rowsOf_60 : decode cX12_rowsOf 60 = .ok (.iload 9, 2) := by decide +kernel
theorem dX12_rowsOf_62 : decode cX12_rowsOf 62 = .ok (.ifCond .ge 7, 3) := by decide +kernel
theorem dX12_rowsOf_65 : decode cX12_rowsOf 65 = .ok (.iconst (-1), 1) := by decide +kernel
theorem dX12_rowsOf_66 : decode cX12_rowsOf 66 = .ok (.goto 10, 3) := by decide +kernel
theorem dX12_rowsOf_69 : decode cX12_rowsOf 69 = .ok (.aload_n 0, 1) := by decide +kernel
theorem dX12_rowsOf_70 : decode cX12_rowsOf 70 = .ok (.getfield 7, 3) := by decide +kernel
theorem dX12_rowsOf_73 : decode cX12_rowsOf 73 = .ok (.iload 9, 2) := by decide +kernel
theorem dX12_rowsOf_75 : decode cX12_rowsOf 75 = .ok (.iaload, 1) := by decide +kernel
theorem dX12_rowsOf_76 : decode cX12_rowsOf 76 = .ok (.istore 10, 2) := by decide +kernel
theorem dX12_rowsOf_78 : decode cX12_rowsOf 78 = .ok (.iload 4, 2) := by decide +kernel
theorem dX12_rowsOf_80 : decode cX12_rowsOf 80 = .ok (.iload 10, 2) := by decide +kernel
theorem dX12_rowsOf_82 : decode cX12_rowsOf 82 = .ok (.ifCond .ge 7, 3) := by decide +kernel
theorem dX12_rowsOf_85 : decode cX12_rowsOf 85 = .ok (.iconst 0, 1) := by decide +kernel
theorem dX12_rowsOf_86 : decode cX12_rowsOf 86 = .ok (.goto 13, 3) := by decide +kernel
theorem dX12_rowsOf_89 : decode cX12_rowsOf 89 = .ok (.iload 10, 2) := by decide +kernel
theorem dX12_rowsOf_91 : decode cX12_rowsOf 91 = .ok (.ifCond .ne 7, 3) := by decide +kernel
theorem dX12_rowsOf_94 : decode cX12_rowsOf 94 = .ok (.iconst 1, 1) := by decide +kernel
theorem dX12_rowsOf_95 : decode cX12_rowsOf 95 = .ok (.goto 4, 3) := by decide +kernel
theorem dX12_rowsOf_98 : decode cX12_rowsOf 98 = .ok (.iconst 2, 1) := by decide +kernel
theorem dX12_rowsOf_99 : decode cX12_rowsOf 99 = .ok (.iadd, 1) := by decide +kernel
theorem dX12_rowsOf_100 : decode cX12_rowsOf 100 = .ok (.istore 4, 2) := by decide +kernel
theorem dX12_rowsOf_102 : decode cX12_rowsOf 102 = .ok (.iload 10, 2) := by decide +kernel
theorem dX12_rowsOf_104 : decode cX12_rowsOf 104 = .ok (.ifCond .lt 58, 3) := by decide +kernel
theorem dX12_rowsOf_107 : decode cX12_rowsOf 107 = .ok (.iload 6, 2) := by decide +kernel
theorem dX12_rowsOf_109 : decode cX12_rowsOf 109 = .ok (.iload 7, 2) := by decide +kernel
theorem dX12_rowsOf_111 : decode cX12_rowsOf 111 = .ok (.iload 8, 2) := by decide +kernel
theorem dX12_rowsOf_113 : decode cX12_rowsOf 113 = .ok (.iload 10, 2) := by decide +kernel
theorem dX12_rowsOf_115 : decode cX12_rowsOf 115 = .ok (.invokestatic 228, 3) := by decide +kernel
theorem dX12_rowsOf_118 : decode cX12_rowsOf 118 = .ok (.ifCond .eq 44, 3) := by decide +kernel
theorem dX12_rowsOf_121 : decode cX12_rowsOf 121 = .ok (.iload 5, 2) := by decide +kernel
theorem dX12_rowsOf_123 : decode cX12_rowsOf 123 = .ok (.iload_n 2, 1) := by decide +kernel
theorem dX12_rowsOf_124 : decode cX12_rowsOf 124 = .ok (.if_icmp .ne 35, 3) := by decide +kernel
theorem dX12_rowsOf_127 : decode cX12_rowsOf 127 = .ok (.iload_n 3, 1) := by decide +kernel
theorem dX12_rowsOf_128 : decode cX12_rowsOf 128 = .ok (.ifCond .ne 8, 3) := by decide +kernel
theorem dX12_rowsOf_131 : decode cX12_rowsOf 131 = .ok (.iload 6, 2) := by decide +kernel
theorem dX12_rowsOf_133 : decode cX12_rowsOf 133 = .ok (.goto 25, 3) := by decide +kernel
theorem dX12_rowsOf_136 : decode cX12_rowsOf 136 = .ok (.iload_n 3, 1) := by decide +kernel
theorem dX12_rowsOf_137 : decode cX12_rowsOf 137 = .ok (.iconst 1, 1) := by decide +kernel
theorem dX12_rowsOf_138 : decode cX12_rowsOf 138 = .ok (.if_icmp .ne 8, 3) := by decide +kernel
theorem dX12_rowsOf_141 : decode cX12_rowsOf 141 = .ok (.iload 7, 2) := by decide +kernel
theorem dX12_rowsOf_143 : decode cX12_rowsOf 143 = .ok (.goto 15, 3) := by decide +kernel
theorem dX12_rowsOf_146 : decode cX12_rowsOf 146 = .ok (.iload_n 3, 1) := by decide +kernel
theorem dX12_rowsOf_147 : decode cX12_rowsOf 147 = .ok (.iconst 2, 1) := by decide +kernel
theorem dX12_rowsOf_148 : decode cX12_rowsOf 148 = .ok (.if_icmp .ne 8, 3) := by decide +kernel
theorem dX12_rowsOf_151 : decode cX12_rowsOf 151 = .ok (.iload 8, 2) := by decide +kernel
theorem dX12_rowsOf_153 : decode cX12_rowsOf 153 = .ok (.goto 5, 3) := by decide +kernel
theorem dX12_rowsOf_156 : decode cX12_rowsOf 156 = .ok (.iload 10, 2) := by decide +kernel
theorem dX12_rowsOf_158 : decode cX12_rowsOf 158 = .ok (.ireturn, 1) := by decide +kernel
theorem dX12_rowsOf_159 : decode cX12_rowsOf 159 = .ok (.iinc 5 1, 3) := by decide +kernel
theorem dX12_rowsOf_162 : decode cX12_rowsOf 162 = .ok (.iinc 8 (-1), 3) := by decide +kernel
theorem dX12_rowsOf_165 : decode cX12_rowsOf 165 = .ok (.goto (-133), 3) := by decide +kernel
theorem dX12_rowsOf_168 : decode cX12_rowsOf 168 = .ok (.iinc 7 (-1), 3) := by decide +kernel
theorem dX12_rowsOf_171 : decode cX12_rowsOf 171 = .ok (.goto (-150), 3) := by decide +kernel
theorem dX12_rowsOf_174 : decode cX12_rowsOf 174 = .ok (.iinc 6 (-1), 3) := by decide +kernel
theorem dX12_rowsOf_177 : decode cX12_rowsOf 177 = .ok (.goto (-167), 3) := by decide +kernel
theorem dX12_rowsOf_180 : decode cX12_rowsOf 180 = .ok (.iload_n 2, 1) := by decide +kernel
theorem dX12_rowsOf_181 : decode cX12_rowsOf 181 = .ok (.bipush (-2), 2) := by decide +kernel
theorem dX12_rowsOf_183 : decode cX12_rowsOf 183 = .ok (.if_icmp .ne 8, 3) := by decide +kernel
theorem dX12_rowsOf_186 : decode cX12_rowsOf 186 = .ok (.iload 4, 2) := by decide +kernel
theorem dX12_rowsOf_188 : decode cX12_rowsOf 188 = .ok (.goto 16, 3) := by decide +kernel
theorem dX12_rowsOf_191 : decode cX12_rowsOf 191 = .ok (.iload_n 2, 1) := by decide +kernel
theorem dX12_rowsOf_192 : decode cX12_rowsOf 192 = .ok (.iconst (-1), 1) := by decide +kernel
theorem dX12_rowsOf_193 : decode cX12_rowsOf 193 = .ok (.if_icmp .ne 8, 3) := by decide +kernel
theorem dX12_rowsOf_196 : decode cX12_rowsOf 196 = .ok (.iload 5, 2) := by decide +kernel
theorem dX12_rowsOf_198 : decode cX12_rowsOf 198 = .ok (.goto 6, 3) := by decide +kernel
theorem dX12_rowsOf_201 : decode cX12_rowsOf 201 = .ok (.sipush (-1003), 3) := by decide +kernel
theorem dX12_rowsOf_204 : decode cX12_rowsOf 204 = .ok (.ireturn, 1) := by decide +kernel
theorem dX12_squares_0 : decode cX12_squares 0 = .ok (.iload_n 1, 1) := by decide +kernel
theorem dX12_squares_1 : decode cX12_squares 1 = .ok (.iconst 0, 1) := by decide +kernel
theorem dX12_squares_2 : decode cX12_squares 2 = .ok (.sipush 150, 3) := by decide +kernel
theorem dX12_squares_5 : decode cX12_squares 5 = .ok (.invokestatic 155, 3) := by decide +kernel
theorem dX12_squares_8 : decode cX12_squares 8 = .ok (.ifCond .eq 22, 3) := by decide +kernel
theorem dX12_squares_11 : decode cX12_squares 11 = .ok (.iload_n 2, 1) := by decide +kernel
theorem dX12_squares_12 : decode cX12_squares 12 = .ok (.bipush (-2), 2) := by decide +kernel
theorem dX12_squares_14 : decode cX12_squares 14 = .ok (.if_icmp .lt 16, 3) := by decide +kernel
theorem dX12_squares_17 : decode cX12_squares 17 = .ok (.iload_n 2, 1) := by decide +kernel
theorem dX12_squares_18 : decode cX12_squares 18 = .ok (.ifCond .lt 16, 3) := by decide +kernel
theorem dX12_squares_21 : decode cX12_squares 21 = .ok (.iload_n 3, 1) := by decide +kernel
theorem dX12_squares_22 : decode cX12_squares 22 = .ok (.iconst 0, 1) := by decide +kernel
theorem dX12_squares_23 : decode cX12_squares 23 = .ok (.iconst 3, 1) := by decide +kernel
theorem dX12_squares_24 : decode cX12_squares 24 = .ok (.invokestatic 155, 3) := by decide +kernel
theorem dX12_squares_27 : decode cX12_squares 27 = .ok (.ifCond .ne 7, 3) := by decide +kernel
theorem dX12_squares_30 : decode cX12_squares 30 = .ok (.sipush (-1002), 3) := by decide +kernel
theorem dX12_squares_33 : decode cX12_squares 33 = .ok (.ireturn, 1) := by decide +kernel
theorem dX12_squares_34 : decode cX12_squares 34 = .ok (.aload_n 0, 1) := by decide +kernel
theorem dX12_squares_35 : decode cX12_squares 35 = .ok (.iload_n 1, 1) := by decide +kernel
theorem dX12_squares_36 : decode cX12_squares 36 = .ok (.iload_n 2, 1) := by decide +kernel
theorem dX12_squares_37 : decode cX12_squares 37 = .ok (.iload_n 3, 1) := by decide +kernel
theorem dX12_squares_38 : decode cX12_squares 38 = .ok (.invokevirtual 231, 3) := by decide +kernel
theorem dX12_squares_41 : decode cX12_squares 41 = .ok (.ireturn, 1) := by decide +kernel
theorem dX12_turned_0 : decode cX12_turned 0 = .ok (.iload_n 1, 1) := by decide +kernel
theorem dX12_turned_1 : decode cX12_turned 1 = .ok (.invokestatic 177, 3) := by decide +kernel
theorem dX12_turned_4 : decode cX12_turned 4 = .ok (.ifCond .ne 7, 3) := by decide +kernel
theorem dX12_turned_7 : decode cX12_turned 7 = .ok (.sipush (-1001), 3) := by decide +kernel
theorem dX12_turned_10 : decode cX12_turned 10 = .ok (.ireturn, 1) := by decide +kernel
theorem dX12_turned_11 : decode cX12_turned 11 = .ok (.iload_n 2, 1) := by decide +kernel
theorem dX12_turned_12 : decode cX12_turned 12 = .ok (.iconst 0, 1) := by decide +kernel
theorem dX12_turned_13 : decode cX12_turned 13 = .ok (.iconst 2, 1) := by decide +kernel
theorem dX12_turned_14 : decode cX12_turned 14 = .ok (.invokestatic 155, 3) := by decide +kernel
theorem dX12_turned_17 : decode cX12_turned 17 = .ok (.ifCond .eq 12, 3) := by decide +kernel
theorem dX12_turned_20 : decode cX12_turned 20 = .ok (.iload_n 3, 1) := by decide +kernel
theorem dX12_turned_21 : decode cX12_turned 21 = .ok (.iconst 0, 1) := by decide +kernel
theorem dX12_turned_22 : decode cX12_turned 22 = .ok (.iconst 2, 1) := by decide +kernel
theorem dX12_turned_23 : decode cX12_turned 23 = .ok (.invokestatic 155, 3) := by decide +kernel
theorem dX12_turned_26 : decode cX12_turned 26 = .ok (.ifCond .ne 7, 3) := by decide +kernel
theorem dX12_turned_29 : decode cX12_turned 29 = .ok (.sipush (-1002), 3) := by decide +kernel
theorem dX12_turned_32 : decode cX12_turned 32 = .ok (.ireturn, 1) := by decide +kernel
theorem dX12_turned_33 : decode cX12_turned 33 = .ok (.iconst 0, 1) := by decide +kernel
theorem dX12_turned_34 : decode cX12_turned 34 = .ok (.istore 4, 2) := by decide +kernel
theorem dX12_turned_36 : decode cX12_turned 36 = .ok (.iload 4, 2) := by decide +kernel
theorem dX12_turned_38 : decode cX12_turned 38 = .ok (.iconst 4, 1) := by decide +kernel
theorem dX12_turned_39 : decode cX12_turned 39 = .ok (.if_icmp .ge 29, 3) := by decide +kernel
theorem dX12_turned_42 : decode cX12_turned 42 = .ok (.aload_n 0, 1) := by decide +kernel
theorem dX12_turned_43 : decode cX12_turned 43 = .ok (.getfield 68, 3) := by decide +kernel
theorem dX12_turned_46 : decode cX12_turned 46 = .ok (.iload 4, 2) := by decide +kernel
theorem dX12_turned_48 : decode cX12_turned 48 = .ok (.iload 4, 2) := by decide +kernel
theorem dX12_turned_50 : decode cX12_turned 50 = .ok (.iload_n 2, 1) := by decide +kernel
theorem dX12_turned_51 : decode cX12_turned 51 = .ok (.iconst 1, 1) := by decide +kernel
theorem dX12_turned_52 : decode cX12_turned 52 = .ok (.iadd, 1) := by decide +kernel
theorem dX12_turned_53 : decode cX12_turned 53 = .ok (.if_icmp .ne 7, 3) := by decide +kernel
theorem dX12_turned_56 : decode cX12_turned 56 = .ok (.iconst 2, 1) := by decide +kernel
theorem dX12_turned_57 : decode cX12_turned 57 = .ok (.goto 4, 3) := by decide +kernel
theorem dX12_turned_60 : decode cX12_turned 60 = .ok (.iconst 0, 1) := by decide +kernel
theorem dX12_turned_61 : decode cX12_turned 61 = .ok (.iastore, 1) := by decide +kernel
theorem dX12_turned_62 : decode cX12_turned 62 = .ok (.iinc 4 1, 3) := by decide +kernel
theorem dX12_turned_65 : decode cX12_turned 65 = .ok (.goto (-29), 3) := by decide +kernel
theorem dX12_turned_68 : decode cX12_turned 68 = .ok (.aload_n 0, 1) := by decide +kernel
theorem dX12_turned_69 : decode cX12_turned 69 = .ok (.getfield 49, 3) := by decide +kernel
theorem dX12_turned_72 : decode cX12_turned 72 = .ok (.iconst 4, 1) := by decide +kernel
theorem dX12_turned_73 : decode cX12_turned 73 = .ok (.iload_n 1, 1) := by decide +kernel
theorem dX12_turned_74 : decode cX12_turned 74 = .ok (.imul, 1) := by decide +kernel
theorem dX12_turned_75 : decode cX12_turned 75 = .ok (.aload_n 0, 1) := by decide +kernel
theorem dX12_turned_76 : decode cX12_turned 76 = .ok (.getfield 68, 3) := by decide +kernel
theorem dX12_turned_79 : decode cX12_turned 79 = .ok (.iconst 0, 1) := by decide +kernel
theorem dX12_turned_80 : decode cX12_turned 80 = .ok (.aload_n 0, 1) := by decide +kernel
theorem dX12_turned_81 : decode cX12_turned 81 = .ok (.getfield 71, 3) := by decide +kernel
theorem dX12_turned_84 : decode cX12_turned 84 = .ok (.invokestatic 103, 3) := by decide +kernel
theorem dX12_turned_87 : decode cX12_turned 87 = .ok (.aload_n 0, 1) := by decide +kernel
theorem dX12_turned_88 : decode cX12_turned 88 = .ok (.getfield 49, 3) := by decide +kernel
theorem dX12_turned_91 : decode cX12_turned 91 = .ok (.iconst 4, 1) := by decide +kernel
theorem dX12_turned_92 : decode cX12_turned 92 = .ok (.iload_n 1, 1) := by decide +kernel
theorem dX12_turned_93 : decode cX12_turned 93 = .ok (.imul, 1) := by decide +kernel
theorem dX12_turned_94 : decode cX12_turned 94 = .ok (.aload_n 0, 1) := by decide +kernel
theorem dX12_turned_95 : decode cX12_turned 95 = .ok (.getfield 16, 3) := by decide +kernel
theorem dX12_turned_98 : decode cX12_turned 98 = .ok (.invokestatic 111, 3) := by decide +kernel
theorem dX12_turned_101 : decode cX12_turned 101 = .ok (.aload_n 0, 1) := by decide +kernel
theorem dX12_turned_102 : decode cX12_turned 102 = .ok (.getfield 71, 3) := by decide +kernel
theorem dX12_turned_105 : decode cX12_turned 105 = .ok (.iconst 0, 1) := by decide +kernel
theorem dX12_turned_106 : decode cX12_turned 106 = .ok (.aload_n 0, 1) := by decide +kernel
theorem dX12_turned_107 : decode cX12_turned 107 = .ok (.getfield 16, 3) := by decide +kernel
theorem dX12_turned_110 : decode cX12_turned 110 = .ok (.iconst 0, 1) := by decide +kernel
theorem dX12_turned_111 : decode cX12_turned 111 = .ok (.aload_n 0, 1) := by decide +kernel
theorem dX12_turned_112 : decode cX12_turned 112 = .ok (.getfield 68, 3) := by decide +kernel
theorem dX12_turned_115 : decode cX12_turned 115 = .ok (.invokestatic 103, 3) := by decide +kernel
theorem dX12_turned_118 : decode cX12_turned 118 = .ok (.aload_n 0, 1) := by decide +kernel
theorem dX12_turned_119 : decode cX12_turned 119 = .ok (.getfield 68, 3) := by decide +kernel
theorem dX12_turned_122 : decode cX12_turned 122 = .ok (.iconst 1, 1) := by decide +kernel
theorem dX12_turned_123 : decode cX12_turned 123 = .ok (.iload_n 3, 1) := by decide +kernel
theorem dX12_turned_124 : decode cX12_turned 124 = .ok (.iadd, 1) := by decide +kernel
theorem dX12_turned_125 : decode cX12_turned 125 = .ok (.iaload, 1) := by decide +kernel
theorem dX12_turned_126 : decode cX12_turned 126 = .ok (.ireturn, 1) := by decide +kernel
theorem dX12_isAhead_0 : decode cX12_isAhead 0 = .ok (.aload_n 0, 1) := by decide +kernel
theorem dX12_isAhead_1 : decode cX12_isAhead 1 = .ok (.iload_n 1, 1) := by decide +kernel
theorem dX12_isAhead_2 : decode cX12_isAhead 2 = .ok (.invokevirtual 173, 3) := by decide +kernel
theorem dX12_isAhead_5 : decode cX12_isAhead 5 = .ok (.aload_n 0, 1) := by decide +kernel
theorem dX12_isAhead_6 : decode cX12_isAhead 6 = .ok (.iload_n 2, 1) := by decide +kernel
theorem dX12_isAhead_7 : decode cX12_isAhead 7 = .ok (.invokevirtual 173, 3) := by decide +kernel
theorem dX12_isAhead_10 : decode cX12_isAhead 10 = .ok (.if_icmp .eq 22, 3) := by decide +kernel
theorem dX12_isAhead_13 : decode cX12_isAhead 13 = .ok (.aload_n 0, 1) := by decide +kernel
theorem dX12_isAhead_14 : decode cX12_isAhead 14 = .ok (.iload_n 1, 1) := by decide +kernel
theorem dX12_isAhead_15 : decode cX12_isAhead 15 = .ok (.invokevirtual 173, 3) := by decide +kernel
theorem dX12_isAhead_18 : decode cX12_isAhead 18 = .ok (.aload_n 0, 1) := by decide +kernel
theorem dX12_isAhead_19 : decode cX12_isAhead 19 = .ok (.iload_n 2, 1) := by decide +kernel
theorem dX12_isAhead_20 : decode cX12_isAhead 20 = .ok (.invokevirtual 173, 3) := by decide +kernel
theorem dX12_isAhead_23 : decode cX12_isAhead 23 = .ok (.if_icmp .ge 7, 3) := by decide +kernel
theorem dX12_isAhead_26 : decode cX12_isAhead 26 = .ok (.iconst 1, 1) := by decide +kernel
theorem dX12_isAhead_27 : decode cX12_isAhead 27 = .ok (.goto 4, 3) := by decide +kernel
theorem dX12_isAhead_30 : decode cX12_isAhead 30 = .ok (.iconst 0, 1) := by decide +kernel
theorem dX12_isAhead_31 : decode cX12_isAhead 31 = .ok (.ireturn, 1) := by decide +kernel
theorem dX12_isAhead_32 : decode cX12_isAhead 32 = .ok (.aload_n 0, 1) := by decide +kernel
theorem dX12_isAhead_33 : decode cX12_isAhead 33 = .ok (.getfield 49, 3) := by decide +kernel
theorem dX12_isAhead_36 : decode cX12_isAhead 36 = .ok (.iconst 4, 1) := by decide +kernel
theorem dX12_isAhead_37 : decode cX12_isAhead 37 = .ok (.iload_n 1, 1) := by decide +kernel
theorem dX12_isAhead_38 : decode cX12_isAhead 38 = .ok (.imul, 1) := by decide +kernel
theorem dX12_isAhead_39 : decode cX12_isAhead 39 = .ok (.aload_n 0, 1) := by decide +kernel
theorem dX12_isAhead_40 : decode cX12_isAhead 40 = .ok (.getfield 49, 3) := by decide +kernel
theorem dX12_isAhead_43 : decode cX12_isAhead 43 = .ok (.iconst 4, 1) := by decide +kernel
theorem dX12_isAhead_44 : decode cX12_isAhead 44 = .ok (.iload_n 2, 1) := by decide +kernel
theorem dX12_isAhead_45 : decode cX12_isAhead 45 = .ok (.imul, 1) := by decide +kernel
theorem dX12_isAhead_46 : decode cX12_isAhead 46 = .ok (.invokestatic 123, 3) := by decide +kernel
theorem dX12_isAhead_49 : decode cX12_isAhead 49 = .ok (.ifCond .ne 28, 3) := by decide +kernel
theorem dX12_isAhead_52 : decode cX12_isAhead 52 = .ok (.aload_n 0, 1) := by decide +kernel
theorem dX12_isAhead_53 : decode cX12_isAhead 53 = .ok (.getfield 49, 3) := by decide +kernel
theorem dX12_isAhead_56 : decode cX12_isAhead 56 = .ok (.iconst 4, 1) := by decide +kernel
theorem dX12_isAhead_57 : decode cX12_isAhead 57 = .ok (.iload_n 2, 1) := by decide +kernel
theorem dX12_isAhead_58 : decode cX12_isAhead 58 = .ok (.imul, 1) := by decide +kernel
theorem dX12_isAhead_59 : decode cX12_isAhead 59 = .ok (.aload_n 0, 1) := by decide +kernel
theorem dX12_isAhead_60 : decode cX12_isAhead 60 = .ok (.getfield 49, 3) := by decide +kernel
theorem dX12_isAhead_63 : decode cX12_isAhead 63 = .ok (.iconst 4, 1) := by decide +kernel
theorem dX12_isAhead_64 : decode cX12_isAhead 64 = .ok (.iload_n 1, 1) := by decide +kernel
theorem dX12_isAhead_65 : decode cX12_isAhead 65 = .ok (.imul, 1) := by decide +kernel
theorem dX12_isAhead_66 : decode cX12_isAhead 66 = .ok (.invokestatic 123, 3) := by decide +kernel
theorem dX12_isAhead_69 : decode cX12_isAhead 69 = .ok (.ifCond .ne 12, 3) := by decide +kernel
theorem dX12_isAhead_72 : decode cX12_isAhead 72 = .ok (.iload_n 1, 1) := by decide +kernel
theorem dX12_isAhead_73 : decode cX12_isAhead 73 = .ok (.iload_n 2, 1) := by decide +kernel
theorem dX12_isAhead_74 : decode cX12_isAhead 74 = .ok (.if_icmp .ge 7, 3) := by decide +kernel
theorem dX12_isAhead_77 : decode cX12_isAhead 77 = .ok (.iconst 1, 1) := by decide +kernel
theorem dX12_isAhead_78 : decode cX12_isAhead 78 = .ok (.goto 4, 3) := by decide +kernel
theorem dX12_isAhead_81 : decode cX12_isAhead 81 = .ok (.iconst 0, 1) := by decide +kernel
theorem dX12_isAhead_82 : decode cX12_isAhead 82 = .ok (.ireturn, 1) := by decide +kernel
theorem dX12_rank_0 : decode cX12_rank 0 = .ok (.iconst 0, 1) := by decide +kernel
theorem dX12_rank_1 : decode cX12_rank 1 = .ok (.istore_n 2, 1) := by decide +kernel
theorem dX12_rank_2 : decode cX12_rank 2 = .ok (.iload_n 2, 1) := by decide +kernel
theorem dX12_rank_3 : decode cX12_rank 3 = .ok (.bipush 6, 2) := by decide +kernel
theorem dX12_rank_5 : decode cX12_rank 5 = .ok (.if_icmp .ge 58, 3) := by decide +kernel
theorem dX12_rank_8 : decode cX12_rank 8 = .ok (.iconst 0, 1) := by decide +kernel
theorem dX12_rank_9 : decode cX12_rank 9 = .ok (.istore_n 3, 1) := by decide +kernel
theorem dX12_rank_10 : decode cX12_rank 10 = .ok (.iconst 0, 1) := by decide +kernel
theorem dX12_rank_11 : decode cX12_rank 11 = .ok (.istore 4, 2) := by decide +kernel
theorem dX12_rank_13 : decode cX12_rank 13 = .ok (.iload 4, 2) := by decide +kernel
theorem dX12_rank_15 : decode cX12_rank 15 = .ok (.bipush 6, 2) := by decide +kernel
theorem dX12_rank_17 : decode cX12_rank 17 = .ok (.if_icmp .ge 33, 3) := by decide +kernel
theorem dX12_rank_20 : decode cX12_rank 20 = .ok (.iload_n 3, 1) := by decide +kernel
theorem dX12_rank_21 : decode cX12_rank 21 = .ok (.iload 4, 2) := by decide +kernel
theorem dX12_rank_23 : decode cX12_rank 23 = .ok (.iload_n 2, 1) := by decide +kernel
theorem dX12_rank_24 : decode cX12_rank 24 = .ok (.if_icmp .eq 17, 3) := by decide +kernel
theorem dX12_rank_27 : decode cX12_rank 27 = .ok (.aload_n 0, 1) := by decide +kernel
theorem dX12_rank_28 : decode cX12_rank 28 = .ok (.iload 4, 2) := by decide +kernel
theorem dX12_rank_30 : decode cX12_rank 30 = .ok (.iload_n 2, 1) := by decide +kernel
theorem dX12_rank_31 : decode cX12_rank 31 = .ok (.invokevirtual 235, 3) := by decide +kernel
theorem dX12_rank_34 : decode cX12_rank 34 = .ok (.ifCond .eq 7, 3) := by decide +kernel
theorem dX12_rank_37 : decode cX12_rank 37 = .ok (.iconst 1, 1) := by decide +kernel
theorem dX12_rank_38 : decode cX12_rank 38 = .ok (.goto 4, 3) := by decide +kernel
theorem dX12_rank_41 : decode cX12_rank 41 = .ok (.iconst 0, 1) := by decide +kernel
theorem dX12_rank_42 : decode cX12_rank 42 = .ok (.iadd, 1) := by decide +kernel
theorem dX12_rank_43 : decode cX12_rank 43 = .ok (.istore_n 3, 1) := by decide +kernel
theorem dX12_rank_44 : decode cX12_rank 44 = .ok (.iinc 4 1, 3) := by decide +kernel
theorem dX12_rank_47 : decode cX12_rank 47 = .ok (.goto (-34), 3) := by decide +kernel
theorem dX12_rank_50 : decode cX12_rank 50 = .ok (.iload_n 3, 1) := by decide +kernel
theorem dX12_rank_51 : decode cX12_rank 51 = .ok (.iload_n 1, 1) := by decide +kernel
theorem dX12_rank_52 : decode cX12_rank 52 = .ok (.if_icmp .ne 5, 3) := by decide +kernel
theorem dX12_rank_55 : decode cX12_rank 55 = .ok (.iload_n 2, 1) := by decide +kernel
theorem dX12_rank_56 : decode cX12_rank 56 = .ok (.ireturn, 1) := by decide +kernel
theorem dX12_rank_57 : decode cX12_rank 57 = .ok (.iinc 2 1, 3) := by decide +kernel
theorem dX12_rank_60 : decode cX12_rank 60 = .ok (.goto (-58), 3) := by decide +kernel
theorem dX12_rank_63 : decode cX12_rank 63 = .ok (.sipush (-1002), 3) := by decide +kernel
theorem dX12_rank_66 : decode cX12_rank 66 = .ok (.ireturn, 1) := by decide +kernel
theorem dX12_write_0 : decode cX12_write 0 = .ok (.iload_n 1, 1) := by decide +kernel
theorem dX12_write_1 : decode cX12_write 1 = .ok (.iconst 0, 1) := by decide +kernel
theorem dX12_write_2 : decode cX12_write 2 = .ok (.sipush 255, 3) := by decide +kernel
theorem dX12_write_5 : decode cX12_write 5 = .ok (.invokestatic 155, 3) := by decide +kernel
theorem dX12_write_8 : decode cX12_write 8 = .ok (.ifCond .ne 7, 3) := by decide +kernel
theorem dX12_write_11 : decode cX12_write 11 = .ok (.sipush (-1002), 3) := by decide +kernel
theorem dX12_write_14 : decode cX12_write 14 = .ok (.ireturn, 1) := by decide +kernel
theorem dX12_write_15 : decode cX12_write 15 = .ok (.aload_n 0, 1) := by decide +kernel
theorem dX12_write_16 : decode cX12_write 16 = .ok (.getfield 239, 3) := by decide +kernel
theorem dX12_write_19 : decode cX12_write 19 = .ok (.sipush 200, 3) := by decide +kernel
theorem dX12_write_22 : decode cX12_write 22 = .ok (.if_icmp .ne 7, 3) := by decide +kernel
theorem dX12_write_25 : decode cX12_write 25 = .ok (.sipush (-1004), 3) := by decide +kernel
theorem dX12_write_28 : decode cX12_write 28 = .ok (.ireturn, 1) := by decide +kernel
theorem dX12_write_29 : decode cX12_write 29 = .ok (.aload_n 0, 1) := by decide +kernel
theorem dX12_write_30 : decode cX12_write 30 = .ok (.getfield 80, 3) := by decide +kernel
theorem dX12_write_33 : decode cX12_write 33 = .ok (.aload_n 0, 1) := by decide +kernel
theorem dX12_write_34 : decode cX12_write 34 = .ok (.getfield 239, 3) := by decide +kernel
theorem dX12_write_37 : decode cX12_write 37 = .ok (.iload_n 1, 1) := by decide +kernel
theorem dX12_write_38 : decode cX12_write 38 = .ok (.iastore, 1) := by decide +kernel
theorem dX12_write_39 : decode cX12_write 39 = .ok (.aload_n 0, 1) := by decide +kernel
theorem dX12_write_40 : decode cX12_write 40 = .ok (.dup, 1) := by decide +kernel
theorem dX12_write_41 : decode cX12_write 41 = .ok (.getfield 239, 3) := by decide +kernel
theorem dX12_write_44 : decode cX12_write 44 = .ok (.iconst 1, 1) := by decide +kernel
theorem dX12_write_45 : decode cX12_write 45 = .ok (.iadd, 1) := by decide +kernel
theorem dX12_write_46 : decode cX12_write 46 = .ok (.putfield 239, 3) := by decide +kernel
theorem dX12_write_49 : decode cX12_write 49 = .ok (.aload_n 0, 1) := by decide +kernel
theorem dX12_write_50 : decode cX12_write 50 = .ok (.getfield 239, 3) := by decide +kernel
theorem dX12_write_53 : decode cX12_write 53 = .ok (.ireturn, 1) := by decide +kernel
theorem dX12_erase_0 : decode cX12_erase 0 = .ok (.aload_n 0, 1) := by decide +kernel
theorem dX12_erase_1 : decode cX12_erase 1 = .ok (.getfield 239, 3) := by decide +kernel
theorem dX12_erase_4 : decode cX12_erase 4 = .ok (.istore_n 1, 1) := by decide +kernel
theorem dX12_erase_5 : decode cX12_erase 5 = .ok (.aload_n 0, 1) := by decide +kernel
theorem dX12_erase_6 : decode cX12_erase 6 = .ok (.iconst 0, 1) := by decide +kernel
theorem dX12_erase_7 : decode cX12_erase 7 = .ok (.putfield 239, 3) := by decide +kernel
theorem dX12_erase_10 : decode cX12_erase 10 = .ok (.iload_n 1, 1) := by decide +kernel
theorem dX12_erase_11 : decode cX12_erase 11 = .ok (.ireturn, 1) := by decide +kernel
theorem dX12_looks_0 : decode cX12_looks 0 = .ok (.aload_n 0, 1) := by decide +kernel
theorem dX12_looks_1 : decode cX12_looks 1 = .ok (.getfield 242, 3) := by decide +kernel
theorem dX12_looks_4 : decode cX12_looks 4 = .ok (.aload_n 0, 1) := by decide +kernel
theorem dX12_looks_5 : decode cX12_looks 5 = .ok (.getfield 239, 3) := by decide +kernel
theorem dX12_looks_8 : decode cX12_looks 8 = .ok (.if_icmp .ge 30, 3) := by decide +kernel
theorem dX12_looks_11 : decode cX12_looks 11 = .ok (.aload_n 0, 1) := by decide +kernel
theorem dX12_looks_12 : decode cX12_looks 12 = .ok (.getfield 80, 3) := by decide +kernel
theorem dX12_looks_15 : decode cX12_looks 15 = .ok (.aload_n 0, 1) := by decide +kernel
theorem dX12_looks_16 : decode cX12_looks 16 = .ok (.getfield 242, 3) := by decide +kernel
theorem dX12_looks_19 : decode cX12_looks 19 = .ok (.iaload, 1) := by decide +kernel
theorem dX12_looks_20 : decode cX12_looks 20 = .ok (.bipush 32, 2) := by decide +kernel
theorem dX12_looks_22 : decode cX12_looks 22 = .ok (.if_icmp .ne 16, 3) := by decide +kernel
theorem dX12_looks_25 : decode cX12_looks 25 = .ok (.aload_n 0, 1) := by decide +kernel
theorem dX12_looks_26 : decode cX12_looks 26 = .ok (.dup, 1) := by decide +kernel
theorem dX12_looks_27 : decode cX12_looks 27 = .ok (.getfield 242, 3) := by decide +kernel
theorem dX12_looks_30 : decode cX12_looks 30 = .ok (.iconst 1, 1) := by decide +kernel
theorem dX12_looks_31 : decode cX12_looks 31 = .ok (.iadd, 1) := by decide +kernel
theorem dX12_looks_32 : decode cX12_looks 32 = .ok (.putfield 242, 3) := by decide +kernel
theorem dX12_looks_35 : decode cX12_looks 35 = .ok (.goto (-35), 3) := by decide +kernel
theorem dX12_looks_38 : decode cX12_looks 38 = .ok (.aload_n 0, 1) := by decide +kernel
theorem dX12_looks_39 : decode cX12_looks 39 = .ok (.getfield 242, 3) := by decide +kernel
theorem dX12_looks_42 : decode cX12_looks 42 = .ok (.aload_n 0, 1) := by decide +kernel
theorem dX12_looks_43 : decode cX12_looks 43 = .ok (.getfield 239, 3) := by decide +kernel
theorem dX12_looks_46 : decode cX12_looks 46 = .ok (.if_icmp .ge 15, 3) := by decide +kernel
theorem dX12_looks_49 : decode cX12_looks 49 = .ok (.aload_n 0, 1) := by decide +kernel
theorem dX12_looks_50 : decode cX12_looks 50 = .ok (.getfield 80, 3) := by decide +kernel
theorem dX12_looks_53 : decode cX12_looks 53 = .ok (.aload_n 0, 1) := by decide +kernel
theorem dX12_looks_54 : decode cX12_looks 54 = .ok (.getfield 242, 3) := by decide +kernel
theorem dX12_looks_57 : decode cX12_looks 57 = .ok (.iaload, 1) := by decide +kernel
theorem dX12_looks_58 : decode cX12_looks 58 = .ok (.goto 4, 3) := by decide +kernel
theorem dX12_looks_61 : decode cX12_looks 61 = .ok (.iconst (-1), 1) := by decide +kernel
theorem dX12_looks_62 : decode cX12_looks 62 = .ok (.ireturn, 1) := by decide +kernel
theorem dX12_isLetter_0 : decode cX12_isLetter 0 = .ok (.iload_n 1, 1) := by decide +kernel
theorem dX12_isLetter_1 : decode cX12_isLetter 1 = .ok (.aload_n 0, 1) := by decide +kernel
theorem dX12_isLetter_2 : decode cX12_isLetter 2 = .ok (.getfield 239, 3) := by decide +kernel
theorem dX12_isLetter_5 : decode cX12_isLetter 5 = .ok (.if_icmp .ge 23, 3) := by decide +kernel
theorem dX12_isLetter_8 : decode cX12_isLetter 8 = .ok (.aload_n 0, 1) := by decide +kernel
theorem dX12_isLetter_9 : decode cX12_isLetter 9 = .ok (.getfield 80, 3) := by decide +kernel
theorem dX12_isLetter_12 : decode cX12_isLetter 12 = .ok (.iload_n 1, 1) := by decide +kernel
theorem dX12_isLetter_13 : decode cX12_isLetter 13 = .ok (.iaload, 1) := by decide +kernel
theorem dX12_isLetter_14 : decode cX12_isLetter 14 = .ok (.bipush 97, 2) := by decide +kernel
theorem dX12_isLetter_16 : decode cX12_isLetter 16 = .ok (.bipush 122, 2) := by decide +kernel
theorem dX12_isLetter_18 : decode cX12_isLetter 18 = .ok (.invokestatic 155, 3) := by decide +kernel
theorem dX12_isLetter_21 : decode cX12_isLetter 21 = .ok (.ifCond .eq 7, 3) := by decide +kernel
theorem dX12_isLetter_24 : decode cX12_isLetter 24 = .ok (.iconst 1, 1) := by decide +kernel
theorem dX12_isLetter_25 : decode cX12_isLetter 25 = .ok (.goto 4, 3) := by decide +kernel
theorem dX12_isLetter_28 : decode cX12_isLetter 28 = .ok (.iconst 0, 1) := by decide +kernel
theorem dX12_isLetter_29 : decode cX12_isLetter 29 = .ok (.ireturn, 1) := by decide +kernel
theorem dX12_isFigure_0 : decode cX12_isFigure 0 = .ok (.iload_n 1, 1) := by decide +kernel
theorem dX12_isFigure_1 : decode cX12_isFigure 1 = .ok (.aload_n 0, 1) := by decide +kernel
theorem dX12_isFigure_2 : decode cX12_isFigure 2 = .ok (.getfield 239, 3) := by decide +kernel
theorem dX12_isFigure_5 : decode cX12_isFigure 5 = .ok (.if_icmp .ge 23, 3) := by decide +kernel
theorem dX12_isFigure_8 : decode cX12_isFigure 8 = .ok (.aload_n 0, 1) := by decide +kernel
theorem dX12_isFigure_9 : decode cX12_isFigure 9 = .ok (.getfield 80, 3) := by decide +kernel
theorem dX12_isFigure_12 : decode cX12_isFigure 12 = .ok (.iload_n 1, 1) := by decide +kernel
theorem dX12_isFigure_13 : decode cX12_isFigure 13 = .ok (.iaload, 1) := by decide +kernel
theorem dX12_isFigure_14 : decode cX12_isFigure 14 = .ok (.bipush 48, 2) := by decide +kernel
theorem dX12_isFigure_16 : decode cX12_isFigure 16 = .ok (.bipush 57, 2) := by decide +kernel
theorem dX12_isFigure_18 : decode cX12_isFigure 18 = .ok (.invokestatic 155, 3) := by decide +kernel
theorem dX12_isFigure_21 : decode cX12_isFigure 21 = .ok (.ifCond .eq 7, 3) := by decide +kernel
theorem dX12_isFigure_24 : decode cX12_isFigure 24 = .ok (.iconst 1, 1) := by decide +kernel
theorem dX12_isFigure_25 : decode cX12_isFigure 25 = .ok (.goto 4, 3) := by decide +kernel
theorem dX12_isFigure_28 : decode cX12_isFigure 28 = .ok (.iconst 0, 1) := by decide +kernel
theorem dX12_isFigure_29 : decode cX12_isFigure 29 = .ok (.ireturn, 1) := by decide +kernel
theorem dX12_isWord_0 : decode cX12_isWord 0 = .ok (.iload 4, 2) := by decide +kernel
theorem dX12_isWord_2 : decode cX12_isWord 2 = .ok (.ifCond .ne 7, 3) := by decide +kernel
theorem dX12_isWord_5 : decode cX12_isWord 5 = .ok (.iconst 3, 1) := by decide +kernel
theorem dX12_isWord_6 : decode cX12_isWord 6 = .ok (.goto 4, 3) := by decide +kernel
theorem dX12_isWord_9 : decode cX12_isWord 9 = .ok (.iconst 4, 1) := by decide +kernel
theorem dX12_isWord_10 : decode cX12_isWord 10 = .ok (.istore 5, 2) := by decide +kernel
theorem dX12_isWord_12 : decode cX12_isWord 12 = .ok (.aload_n 0, 1) := by decide +kernel
theorem dX12_isWord_13 : decode cX12_isWord 13 = .ok (.getfield 242, 3) := by decide +kernel
theorem dX12_isWord_16 : decode cX12_isWord 16 = .ok (.iload 5, 2) := by decide +kernel
theorem dX12_isWord_18 : decode cX12_isWord 18 = .ok (.iadd, 1) := by decide +kernel
theorem dX12_isWord_19 : decode cX12_isWord 19 = .ok (.aload_n 0, 1) := by decide +kernel
theorem dX12_isWord_20 : decode cX12_isWord 20 = .ok (.getfield 239, 3) := by decide +kernel
theorem dX12_isWord_23 : decode cX12_isWord 23 = .ok (.if_icmp .gt 50, 3) := by decide +kernel
theorem dX12_isWord_26 : decode cX12_isWord 26 = .ok (.aload_n 0, 1) := by decide +kernel
theorem dX12_isWord_27 : decode cX12_isWord 27 = .ok (.getfield 80, 3) := by decide +kernel
theorem dX12_isWord_30 : decode cX12_isWord 30 = .ok (.aload_n 0, 1) := by decide +kernel
theorem dX12_isWord_31 : decode cX12_isWord 31 = .ok (.getfield 242, 3) := by decide +kernel
theorem dX12_isWord_34 : decode cX12_isWord 34 = .ok (.iaload, 1) := by decide +kernel
theorem dX12_isWord_35 : decode cX12_isWord 35 = .ok (.iload_n 1, 1) := by decide +kernel
theorem dX12_isWord_36 : decode cX12_isWord 36 = .ok (.if_icmp .ne 37, 3) := by decide +kernel
theorem dX12_isWord_39 : decode cX12_isWord 39 = .ok (.aload_n 0, 1) := by decide +kernel
theorem dX12_isWord_40 : decode cX12_isWord 40 = .ok (.getfield 80, 3) := by decide +kernel
theorem dX12_isWord_43 : decode cX12_isWord 43 = .ok (.aload_n 0, 1) := by decide +kernel
theorem dX12_isWord_44 : decode cX12_isWord 44 = .ok (.getfield 242, 3) := by decide +kernel
theorem dX12_isWord_47 : decode cX12_isWord 47 = .ok (.iconst 1, 1) := by decide +kernel
theorem dX12_isWord_48 : decode cX12_isWord 48 = .ok (.iadd, 1) := by decide +kernel
theorem dX12_isWord_49 : decode cX12_isWord 49 = .ok (.iaload, 1) := by decide +kernel
theorem dX12_isWord_50 : decode cX12_isWord 50 = .ok (.iload_n 2, 1) := by decide +kernel
theorem dX12_isWord_51 : decode cX12_isWord 51 = .ok (.if_icmp .ne 22, 3) := by decide +kernel
theorem dX12_isWord_54 : decode cX12_isWord 54 = .ok (.aload_n 0, 1) := by decide +kernel
theorem dX12_isWord_55 : decode cX12_isWord 55 = .ok (.getfield 80, 3) := by decide +kernel
theorem dX12_isWord_58 : decode cX12_isWord 58 = .ok (.aload_n 0, 1) := by decide +kernel
theorem dX12_isWord_59 : decode cX12_isWord 59 = .ok (.getfield 242, 3) := by decide +kernel
theorem dX12_isWord_62 : decode cX12_isWord 62 = .ok (.iconst 2, 1) := by decide +kernel
theorem dX12_isWord_63 : decode cX12_isWord 63 = .ok (.iadd, 1) := by decide +kernel
theorem dX12_isWord_64 : decode cX12_isWord 64 = .ok (.iaload, 1) := by decide +kernel
theorem dX12_isWord_65 : decode cX12_isWord 65 = .ok (.iload_n 3, 1) := by decide +kernel
theorem dX12_isWord_66 : decode cX12_isWord 66 = .ok (.if_icmp .ne 7, 3) := by decide +kernel
theorem dX12_isWord_69 : decode cX12_isWord 69 = .ok (.iconst 1, 1) := by decide +kernel
theorem dX12_isWord_70 : decode cX12_isWord 70 = .ok (.goto 4, 3) := by decide +kernel
theorem dX12_isWord_73 : decode cX12_isWord 73 = .ok (.iconst 0, 1) := by decide +kernel
theorem dX12_isWord_74 : decode cX12_isWord 74 = .ok (.istore 6, 2) := by decide +kernel
theorem dX12_isWord_76 : decode cX12_isWord 76 = .ok (.iload 6, 2) := by decide +kernel
theorem dX12_isWord_78 : decode cX12_isWord 78 = .ok (.ifCond .eq 42, 3) := by decide +kernel
theorem dX12_isWord_81 : decode cX12_isWord 81 = .ok (.iload 4, 2) := by decide +kernel
theorem dX12_isWord_83 : decode cX12_isWord 83 = .ok (.ifCond .eq 19, 3) := by decide +kernel
theorem dX12_isWord_86 : decode cX12_isWord 86 = .ok (.aload_n 0, 1) := by decide +kernel
theorem dX12_isWord_87 : decode cX12_isWord 87 = .ok (.getfield 80, 3) := by decide +kernel
theorem dX12_isWord_90 : decode cX12_isWord 90 = .ok (.aload_n 0, 1) := by decide +kernel
theorem dX12_isWord_91 : decode cX12_isWord 91 = .ok (.getfield 242, 3) := by decide +kernel
theorem dX12_isWord_94 : decode cX12_isWord 94 = .ok (.iconst 3, 1) := by decide +kernel
theorem dX12_isWord_95 : decode cX12_isWord 95 = .ok (.iadd, 1) := by decide +kernel
theorem dX12_isWord_96 : decode cX12_isWord 96 = .ok (.iaload, 1) := by decide +kernel
theorem dX12_isWord_97 : decode cX12_isWord 97 = .ok (.iload 4, 2) := by decide +kernel
theorem dX12_isWord_99 : decode cX12_isWord 99 = .ok (.if_icmp .ne 21, 3) := by decide +kernel
theorem dX12_isWord_102 : decode cX12_isWord 102 = .ok (.aload_n 0, 1) := by decide +kernel
theorem dX12_isWord_103 : decode cX12_isWord 103 = .ok (.aload_n 0, 1) := by decide +kernel
theorem dX12_isWord_104 : decode cX12_isWord 104 = .ok (.getfield 242, 3) := by decide +kernel
theorem dX12_isWord_107 : decode cX12_isWord 107 = .ok (.iload 5, 2) := by decide +kernel
theorem dX12_isWord_109 : decode cX12_isWord 109 = .ok (.iadd, 1) := by decide +kernel
theorem dX12_isWord_110 : decode cX12_isWord 110 = .ok (.invokevirtual 245, 3) := by decide +kernel
theorem dX12_isWord_113 : decode cX12_isWord 113 = .ok (.ifCond .ne 7, 3) := by decide +kernel
theorem dX12_isWord_116 : decode cX12_isWord 116 = .ok (.iconst 1, 1) := by decide +kernel
theorem dX12_isWord_117 : decode cX12_isWord 117 = .ok (.goto 4, 3) := by decide +kernel
theorem dX12_isWord_120 : decode cX12_isWord 120 = .ok (.iconst 0, 1) := by decide +kernel
theorem dX12_isWord_121 : decode cX12_isWord 121 = .ok (.ireturn, 1) := by decide +kernel
theorem dX12_readsWord_0 : decode cX12_readsWord 0 = .ok (.aload_n 0, 1) := by decide +kernel
theorem dX12_readsWord_1 : decode cX12_readsWord 1 = .ok (.invokevirtual 248, 3) := by decide +kernel
theorem dX12_readsWord_4 : decode cX12_readsWord 4 = .ok (.pop, 1) := by decide +kernel
theorem dX12_readsWord_5 : decode cX12_readsWord 5 = .ok (.aload_n 0, 1) := by decide +kernel
theorem dX12_readsWord_6 : decode cX12_readsWord 6 = .ok (.bipush 97, 2) := by decide +kernel
theorem dX12_readsWord_8 : decode cX12_readsWord 8 = .ok (.bipush 108, 2) := by decide +kernel
theorem dX12_readsWord_10 : decode cX12_readsWord 10 = .ok (.bipush 108, 2) := by decide +kernel
theorem dX12_readsWord_12 : decode cX12_readsWord 12 = .ok (.iconst 0, 1) := by decide +kernel
theorem dX12_readsWord_13 : decode cX12_readsWord 13 = .ok (.invokevirtual 251, 3) := by decide +kernel
theorem dX12_readsWord_16 : decode cX12_readsWord 16 = .ok (.ifCond .eq 7, 3) := by decide +kernel
theorem dX12_readsWord_19 : decode cX12_readsWord 19 = .ok (.iconst 0, 1) := by decide +kernel
theorem dX12_readsWord_20 : decode cX12_readsWord 20 = .ok (.goto 60, 3) := by decide +kernel
theorem dX12_readsWord_23 : decode cX12_readsWord 23 = .ok (.aload_n 0, 1) := by decide +kernel
theorem dX12_readsWord_24 : decode cX12_readsWord 24 = .ok (.bipush 112, 2) := by decide +kernel
theorem dX12_readsWord_26 : decode cX12_readsWord 26 = .ok (.bipush 117, 2) := by decide +kernel
theorem dX12_readsWord_28 : decode cX12_readsWord 28 = .ok (.bipush 116, 2) := by decide +kernel
theorem dX12_readsWord_30 : decode cX12_readsWord 30 = .ok (.iconst 0, 1) := by decide +kernel
theorem dX12_readsWord_31 : decode cX12_readsWord 31 = .ok (.invokevirtual 251, 3) := by decide +kernel
theorem dX12_readsWord_34 : decode cX12_readsWord 34 = .ok (.ifCond .eq 7, 3) := by decide +kernel
theorem dX12_readsWord_37 : decode cX12_readsWord 37 = .ok (.iconst 1, 1) := by decide +kernel
theorem dX12_readsWord_38 : decode cX12_readsWord 38 = .ok (.goto 42, 3) := by decide +kernel
theorem dX12_readsWord_41 : decode cX12_readsWord 41 = .ok (.aload_n 0, 1) := by decide +kernel
theorem dX12_readsWord_42 : decode cX12_readsWord 42 = .ok (.bipush 117, 2) := by decide +kernel
theorem dX12_readsWord_44 : decode cX12_readsWord 44 = .ok (.bipush 110, 2) := by decide +kernel
theorem dX12_readsWord_46 : decode cX12_readsWord 46 = .ok (.bipush 105, 2) := by decide +kernel
theorem dX12_readsWord_48 : decode cX12_readsWord 48 = .ok (.bipush 116, 2) := by decide +kernel
theorem dX12_readsWord_50 : decode cX12_readsWord 50 = .ok (.invokevirtual 251, 3) := by decide +kernel
theorem dX12_readsWord_53 : decode cX12_readsWord 53 = .ok (.ifCond .eq 7, 3) := by decide +kernel
theorem dX12_readsWord_56 : decode cX12_readsWord 56 = .ok (.iconst 2, 1) := by decide +kernel
theorem dX12_readsWord_57 : decode cX12_readsWord 57 = .ok (.goto 23, 3) := by decide +kernel
theorem dX12_readsWord_60 : decode cX12_readsWord 60 = .ok (.aload_n 0, 1) := by decide +kernel
theorem dX12_readsWord_61 : decode cX12_readsWord 61 = .ok (.bipush 99, 2) := by decide +kernel
theorem dX12_readsWord_63 : decode cX12_readsWord 63 = .ok (.bipush 111, 2) := by decide +kernel
theorem dX12_readsWord_65 : decode cX12_readsWord 65 = .ok (.bipush 112, 2) := by decide +kernel
theorem dX12_readsWord_67 : decode cX12_readsWord 67 = .ok (.bipush 121, 2) := by decide +kernel
theorem dX12_readsWord_69 : decode cX12_readsWord 69 = .ok (.invokevirtual 251, 3) := by decide +kernel
theorem dX12_readsWord_72 : decode cX12_readsWord 72 = .ok (.ifCond .eq 7, 3) := by decide +kernel
theorem dX12_readsWord_75 : decode cX12_readsWord 75 = .ok (.iconst 3, 1) := by decide +kernel
theorem dX12_readsWord_76 : decode cX12_readsWord 76 = .ok (.goto 4, 3) := by decide +kernel
theorem dX12_readsWord_79 : decode cX12_readsWord 79 = .ok (.iconst (-1), 1) := by decide +kernel
theorem dX12_readsWord_80 : decode cX12_readsWord 80 = .ok (.istore_n 1, 1) := by decide +kernel
theorem dX12_readsWord_81 : decode cX12_readsWord 81 = .ok (.aload_n 0, 1) := by decide +kernel
theorem dX12_readsWord_82 : decode cX12_readsWord 82 = .ok (.iload_n 1, 1) := by decide +kernel
theorem dX12_readsWord_83 : decode cX12_readsWord 83 = .ok (.iconst (-1), 1) := by decide +kernel
theorem dX12_readsWord_84 : decode cX12_readsWord 84 = .ok (.if_icmp .ne 7, 3) := by decide +kernel
theorem dX12_readsWord_87 : decode cX12_readsWord 87 = .ok (.iconst 1, 1) := by decide +kernel
theorem dX12_readsWord_88 : decode cX12_readsWord 88 = .ok (.goto 4, 3) := by decide +kernel
theorem dX12_readsWord_91 : decode cX12_readsWord 91 = .ok (.iconst 0, 1) := by decide +kernel
theorem dX12_readsWord_92 : decode cX12_readsWord 92 = .ok (.putfield 254, 3) := by decide +kernel
theorem dX12_readsWord_95 : decode cX12_readsWord 95 = .ok (.aload_n 0, 1) := by decide +kernel
theorem dX12_readsWord_96 : decode cX12_readsWord 96 = .ok (.dup, 1) := by decide +kernel
theorem dX12_readsWord_97 : decode cX12_readsWord 97 = .ok (.getfield 242, 3) := by decide +kernel
theorem dX12_readsWord_100 : decode cX12_readsWord 100 = .ok (.aload_n 0, 1) := by decide +kernel
theorem dX12_readsWord_101 : decode cX12_readsWord 101 = .ok (.getfield 254, 3) := by decide +kernel
theorem dX12_readsWord_104 : decode cX12_readsWord 104 = .ok (.ifCond .eq 7, 3) := by decide +kernel
theorem dX12_readsWord_107 : decode cX12_readsWord 107 = .ok (.iconst 0, 1) := by decide +kernel
theorem dX12_readsWord_108 : decode cX12_readsWord 108 = .ok (.goto 13, 3) := by decide +kernel
theorem dX12_readsWord_111 : decode cX12_readsWord 111 = .ok (.iload_n 1, 1) := by decide +kernel
theorem dX12_readsWord_112 : decode cX12_readsWord 112 = .ok (.iconst 2, 1) := by decide +kernel
theorem dX12_readsWord_113 : decode cX12_readsWord 113 = .ok (.if_icmp .ge 7, 3) := by decide +kernel
theorem dX12_readsWord_116 : decode cX12_readsWord 116 = .ok (.iconst 3, 1) := by decide +kernel
theorem dX12_readsWord_117 : decode cX12_readsWord 117 = .ok (.goto 4, 3) := by decide +kernel
theorem dX12_readsWord_120 : decode cX12_readsWord 120 = .ok (.iconst 4, 1) := by decide +kernel
theorem dX12_readsWord_121 : decode cX12_readsWord 121 = .ok (.iadd, 1) := by decide +kernel
theorem dX12_readsWord_122 : decode cX12_readsWord 122 = .ok (.putfield 242, 3) := by decide +kernel
theorem dX12_readsWord_125 : decode cX12_readsWord 125 = .ok (.iload_n 1, 1) := by decide +kernel
theorem dX12_readsWord_126 : decode cX12_readsWord 126 = .ok (.ireturn, 1) := by decide +kernel
theorem dX12_figures_0 : decode cX12_figures 0 = .ok (.aload_n 0, 1) := by decide +kernel
theorem dX12_figures_1 : decode cX12_figures 1 = .ok (.invokevirtual 248, 3) := by decide +kernel
theorem dX12_figures_4 : decode cX12_figures 4 = .ok (.pop, 1) := by decide +kernel
theorem dX12_figures_5 : decode cX12_figures 5 = .ok (.iconst 0, 1) := by decide +kernel
theorem dX12_figures_6 : decode cX12_figures 6 = .ok (.istore_n 2, 1) := by decide +kernel
theorem dX12_figures_7 : decode cX12_figures 7 = .ok (.iconst 0, 1) := by decide +kernel
theorem dX12_figures_8 : decode cX12_figures 8 = .ok (.istore_n 3, 1) := by decide +kernel
theorem dX12_figures_9 : decode cX12_figures 9 = .ok (.aload_n 0, 1) := by decide +kernel
theorem dX12_figures_10 : decode cX12_figures 10 = .ok (.aload_n 0, 1) := by decide +kernel
theorem dX12_figures_11 : decode cX12_figures 11 = .ok (.getfield 242, 3) := by decide +kernel
theorem dX12_figures_14 : decode cX12_figures 14 = .ok (.iload_n 3, 1) := by decide +kernel
theorem dX12_figures_15 : decode cX12_figures 15 = .ok (.iadd, 1) := by decide +kernel
theorem dX12_figures_16 : decode cX12_figures 16 = .ok (.invokevirtual 258, 3) := by decide +kernel
theorem dX12_figures_19 : decode cX12_figures 19 = .ok (.ifCond .eq 38, 3) := by decide +kernel
theorem dX12_figures_22 : decode cX12_figures 22 = .ok (.iload_n 3, 1) := by decide +kernel
theorem dX12_figures_23 : decode cX12_figures 23 = .ok (.iconst 2, 1) := by decide +kernel
theorem dX12_figures_24 : decode cX12_figures 24 = .ok (.if_icmp .ge 25, 3) := by decide +kernel
theorem dX12_figures_27 : decode cX12_figures 27 = .ok (.bipush 10, 2) := by decide +kernel
theorem dX12_figures_29 : decode cX12_figures 29 = .ok (.iload_n 2, 1) := by decide +kernel
theorem dX12_figures_30 : decode cX12_figures 30 = .ok (.imul, 1) := by decide +kernel
theorem dX12_figures_31 : decode cX12_figures 31 = .ok (.aload_n 0, 1) := by decide +kernel
theorem dX12_figures_32 : decode cX12_figures 32 = .ok (.getfield 80, 3) := by decide +kernel
theorem dX12_figures_35 : decode cX12_figures 35 = .ok (.aload_n 0, 1) := by decide +kernel
theorem dX12_figures_36 : decode cX12_figures 36 = .ok (.getfield 242, 3) := by decide +kernel
theorem dX12_figures_39 : decode cX12_figures 39 = .ok (.iload_n 3, 1) := by decide +kernel
theorem dX12_figures_40 : decode cX12_figures 40 = .ok (.iadd, 1) := by decide +kernel
theorem dX12_figures_41 : decode cX12_figures 41 = .ok (.iaload, 1) := by decide +kernel
theorem dX12_figures_42 : decode cX12_figures 42 = .ok (.iadd, 1) := by decide +kernel
theorem dX12_figures_43 : decode cX12_figures 43 = .ok (.bipush 48, 2) := by decide +kernel
theorem dX12_figures_45 : decode cX12_figures 45 = .ok (.isub, 1) := by decide +kernel
theorem dX12_figures_46 : decode cX12_figures 46 = .ok (.goto 4, 3) := by decide +kernel
theorem dX12_figures_49 : decode cX12_figures 49 = .ok (.iload_n 2, 1) := by decide +kernel
theorem dX12_figures_50 : decode cX12_figures 50 = .ok (.istore_n 2, 1) := by decide +kernel
theorem dX12_figures_51 : decode cX12_figures 51 = .ok (.iinc 3 1, 3) := by decide +kernel
theorem dX12_figures_54 : decode cX12_figures 54 = .ok (.goto (-45), 3) := by decide +kernel
theorem dX12_figures_57 : decode cX12_figures 57 = .ok (.iload_n 3, 1) := by decide +kernel
theorem dX12_figures_58 : decode cX12_figures 58 = .ok (.iconst 1, 1) := by decide +kernel
theorem dX12_figures_59 : decode cX12_figures 59 = .ok (.if_icmp .lt 13, 3) := by decide +kernel
theorem dX12_figures_62 : decode cX12_figures 62 = .ok (.iload_n 3, 1) := by decide +kernel
theorem dX12_figures_63 : decode cX12_figures 63 = .ok (.iconst 2, 1) := by decide +kernel
theorem dX12_figures_64 : decode cX12_figures 64 = .ok (.if_icmp .gt 8, 3) := by decide +kernel
theorem dX12_figures_67 : decode cX12_figures 67 = .ok (.iload_n 2, 1) := by decide +kernel
theorem dX12_figures_68 : decode cX12_figures 68 = .ok (.iload_n 1, 1) := by decide +kernel
theorem dX12_figures_69 : decode cX12_figures 69 = .ok (.if_icmp .le 10, 3) := by decide +kernel
theorem dX12_figures_72 : decode cX12_figures 72 = .ok (.aload_n 0, 1) := by decide +kernel
theorem dX12_figures_73 : decode cX12_figures 73 = .ok (.iconst 1, 1) := by decide +kernel
theorem dX12_figures_74 : decode cX12_figures 74 = .ok (.putfield 254, 3) := by decide +kernel
theorem dX12_figures_77 : decode cX12_figures 77 = .ok (.iconst (-1), 1) := by decide +kernel
theorem dX12_figures_78 : decode cX12_figures 78 = .ok (.ireturn, 1) := by decide +kernel
theorem dX12_figures_79 : decode cX12_figures 79 = .ok (.aload_n 0, 1) := by decide +kernel
theorem dX12_figures_80 : decode cX12_figures 80 = .ok (.dup, 1) := by decide +kernel
theorem dX12_figures_81 : decode cX12_figures 81 = .ok (.getfield 242, 3) := by decide +kernel
theorem dX12_figures_84 : decode cX12_figures 84 = .ok (.iload_n 3, 1) := by decide +kernel
theorem dX12_figures_85 : decode cX12_figures 85 = .ok (.iadd, 1) := by decide +kernel
theorem dX12_figures_86 : decode cX12_figures 86 = .ok (.putfield 242, 3) := by decide +kernel
theorem dX12_figures_89 : decode cX12_figures 89 = .ok (.iload_n 2, 1) := by decide +kernel
theorem dX12_figures_90 : decode cX12_figures 90 = .ok (.ireturn, 1) := by decide +kernel
theorem dX12_takes_0 : decode cX12_takes 0 = .ok (.aload_n 0, 1) := by decide +kernel
theorem dX12_takes_1 : decode cX12_takes 1 = .ok (.getfield 254, 3) := by decide +kernel
theorem dX12_takes_4 : decode cX12_takes 4 = .ok (.ifCond .ne 14, 3) := by decide +kernel
theorem dX12_takes_7 : decode cX12_takes 7 = .ok (.aload_n 0, 1) := by decide +kernel
theorem dX12_takes_8 : decode cX12_takes 8 = .ok (.getfield 86, 3) := by decide +kernel
theorem dX12_takes_11 : decode cX12_takes 11 = .ok (.iload_n 1, 1) := by decide +kernel
theorem dX12_takes_12 : decode cX12_takes 12 = .ok (.aload_n 0, 1) := by decide +kernel
theorem dX12_takes_13 : decode cX12_takes 13 = .ok (.iload_n 2, 1) := by decide +kernel
theorem dX12_takes_14 : decode cX12_takes 14 = .ok (.invokevirtual 261, 3) := by decide +kernel
theorem dX12_takes_17 : decode cX12_takes 17 = .ok (.iastore, 1) := by decide +kernel
theorem dX12_takes_18 : decode cX12_takes 18 = .ok (.return_, 1) := by decide +kernel
theorem dX12_takesPart_0 : decode cX12_takesPart 0 = .ok (.aload_n 0, 1) := by decide +kernel
theorem dX12_takesPart_1 : decode cX12_takesPart 1 = .ok (.getfield 254, 3) := by decide +kernel
theorem dX12_takesPart_4 : decode cX12_takesPart 4 = .ok (.ifCond .eq 4, 3) := by decide +kernel
theorem dX12_takesPart_7 : decode cX12_takesPart 7 = .ok (.return_, 1) := by decide +kernel
theorem dX12_takesPart_8 : decode cX12_takesPart 8 = .ok (.aload_n 0, 1) := by decide +kernel
theorem dX12_takesPart_9 : decode cX12_takesPart 9 = .ok (.invokevirtual 248, 3) := by decide +kernel
theorem dX12_takesPart_12 : decode cX12_takesPart 12 = .ok (.bipush 45, 2) := by decide +kernel
theorem dX12_takesPart_14 : decode cX12_takesPart 14 = .ok (.if_icmp .ne 7, 3) := by decide +kernel
theorem dX12_takesPart_17 : decode cX12_takesPart 17 = .ok (.iconst 1, 1) := by decide +kernel
theorem dX12_takesPart_18 : decode cX12_takesPart 18 = .ok (.goto 4, 3) := by decide +kernel
theorem dX12_takesPart_21 : decode cX12_takesPart 21 = .ok (.iconst 0, 1) := by decide +kernel
theorem dX12_takesPart_22 : decode cX12_takesPart 22 = .ok (.istore_n 3, 1) := by decide +kernel
theorem dX12_takesPart_23 : decode cX12_takesPart 23 = .ok (.aload_n 0, 1) := by decide +kernel
theorem dX12_takesPart_24 : decode cX12_takesPart 24 = .ok (.dup, 1) := by decide +kernel
theorem dX12_takesPart_25 : decode cX12_takesPart 25 = .ok (.getfield 242, 3) := by decide +kernel
theorem dX12_takesPart_28 : decode cX12_takesPart 28 = .ok (.iload_n 3, 1) := by decide +kernel
theorem dX12_takesPart_29 : decode cX12_takesPart 29 = .ok (.ifCond .eq 7, 3) := by decide +kernel
theorem dX12_takesPart_32 : decode cX12_takesPart 32 = .ok (.iconst 1, 1) := by decide +kernel
theorem dX12_takesPart_33 : decode cX12_takesPart 33 = .ok (.goto 4, 3) := by decide +kernel
theorem dX12_takesPart_36 : decode cX12_takesPart 36 = .ok (.iconst 0, 1) := by decide +kernel
theorem dX12_takesPart_37 : decode cX12_takesPart 37 = .ok (.iadd, 1) := by decide +kernel
theorem dX12_takesPart_38 : decode cX12_takesPart 38 = .ok (.putfield 242, 3) := by decide +kernel
theorem dX12_takesPart_41 : decode cX12_takesPart 41 = .ok (.aload_n 0, 1) := by decide +kernel
theorem dX12_takesPart_42 : decode cX12_takesPart 42 = .ok (.invokevirtual 248, 3) := by decide +kernel
theorem dX12_takesPart_45 : decode cX12_takesPart 45 = .ok (.pop, 1) := by decide +kernel
theorem dX12_takesPart_46 : decode cX12_takesPart 46 = .ok (.aload_n 0, 1) := by decide +kernel
theorem dX12_takesPart_47 : decode cX12_takesPart 47 = .ok (.getfield 242, 3) := by decide +kernel
theorem dX12_takesPart_50 : decode cX12_takesPart 50 = .ok (.istore 4, 2) := by decide +kernel
theorem dX12_takesPart_52 : decode cX12_takesPart 52 = .ok (.aload_n 0, 1) := by decide +kernel
theorem dX12_takesPart_53 : decode cX12_takesPart 53 = .ok (.bipush 24, 2) := by decide +kernel
theorem dX12_takesPart_55 : decode cX12_takesPart 55 = .ok (.invokevirtual 261, 3) := by decide +kernel
theorem dX12_takesPart_58 : decode cX12_takesPart 58 = .ok (.istore 5, 2) := by decide +kernel
theorem dX12_takesPart_60 : decode cX12_takesPart 60 = .ok (.aload_n 0, 1) := by decide +kernel
theorem dX12_takesPart_61 : decode cX12_takesPart 61 = .ok (.getfield 254, 3) := by decide +kernel
theorem dX12_takesPart_64 : decode cX12_takesPart 64 = .ok (.ifCond .eq 4, 3) := by decide +kernel
theorem dX12_takesPart_67 : decode cX12_takesPart 67 = .ok (.return_, 1) := by decide +kernel
theorem dX12_takesPart_68 : decode cX12_takesPart 68 = .ok (.aload_n 0, 1) := by decide +kernel
theorem dX12_takesPart_69 : decode cX12_takesPart 69 = .ok (.getfield 86, 3) := by decide +kernel
theorem dX12_takesPart_72 : decode cX12_takesPart 72 = .ok (.iload_n 1, 1) := by decide +kernel
theorem dX12_takesPart_73 : decode cX12_takesPart 73 = .ok (.iload_n 2, 1) := by decide +kernel
theorem dX12_takesPart_74 : decode cX12_takesPart 74 = .ok (.iadd, 1) := by decide +kernel
theorem dX12_takesPart_75 : decode cX12_takesPart 75 = .ok (.iload_n 3, 1) := by decide +kernel
theorem dX12_takesPart_76 : decode cX12_takesPart 76 = .ok (.ifCond .eq 9, 3) := by decide +kernel
theorem dX12_takesPart_79 : decode cX12_takesPart 79 = .ok (.iload 5, 2) := by decide +kernel
theorem dX12_takesPart_81 : decode cX12_takesPart 81 = .ok (.ineg, 1) := by decide +kernel
theorem dX12_takesPart_82 : decode cX12_takesPart 82 = .ok (.goto 5, 3) := by decide +kernel
theorem dX12_takesPart_85 : decode cX12_takesPart 85 = .ok (.iload 5, 2) := by decide +kernel
theorem dX12_takesPart_87 : decode cX12_takesPart 87 = .ok (.iastore, 1) := by decide +kernel
theorem dX12_takesPart_88 : decode cX12_takesPart 88 = .ok (.iload 5, 2) := by decide +kernel
theorem dX12_takesPart_90 : decode cX12_takesPart 90 = .ok (.aload_n 0, 1) := by decide +kernel
theorem dX12_takesPart_91 : decode cX12_takesPart 91 = .ok (.getfield 86, 3) := by decide +kernel
theorem dX12_takesPart_94 : decode cX12_takesPart 94 = .ok (.iload_n 1, 1) := by decide +kernel
theorem dX12_takesPart_95 : decode cX12_takesPart 95 = .ok (.iaload, 1) := by decide +kernel
theorem dX12_takesPart_96 : decode cX12_takesPart 96 = .ok (.isub, 1) := by decide +kernel
theorem dX12_takesPart_97 : decode cX12_takesPart 97 = .ok (.iconst 2, 1) := by decide +kernel
theorem dX12_takesPart_98 : decode cX12_takesPart 98 = .ok (.irem, 1) := by decide +kernel
theorem dX12_takesPart_99 : decode cX12_takesPart 99 = .ok (.ifCond .ne 26, 3) := by decide +kernel
theorem dX12_takesPart_102 : decode cX12_takesPart 102 = .ok (.iload_n 2, 1) := by decide +kernel
theorem dX12_takesPart_103 : decode cX12_takesPart 103 = .ok (.iconst 3, 1) := by decide +kernel
theorem dX12_takesPart_104 : decode cX12_takesPart 104 = .ok (.if_icmp .lt 17, 3) := by decide +kernel
theorem dX12_takesPart_107 : decode cX12_takesPart 107 = .ok (.aload_n 0, 1) := by decide +kernel
theorem dX12_takesPart_108 : decode cX12_takesPart 108 = .ok (.getfield 86, 3) := by decide +kernel
theorem dX12_takesPart_111 : decode cX12_takesPart 111 = .ok (.iload_n 1, 1) := by decide +kernel
theorem dX12_takesPart_112 : decode cX12_takesPart 112 = .ok (.invokestatic 107, 3) := by decide +kernel
theorem dX12_takesPart_115 : decode cX12_takesPart 115 = .ok (.sipush 150, 3) := by decide +kernel
theorem dX12_takesPart_118 : decode cX12_takesPart 118 = .ok (.if_icmp .gt 7, 3) := by decide +kernel
theorem dX12_takesPart_121 : decode cX12_takesPart 121 = .ok (.iconst 1, 1) := by decide +kernel
theorem dX12_takesPart_122 : decode cX12_takesPart 122 = .ok (.goto 4, 3) := by decide +kernel
theorem dX12_takesPart_125 : decode cX12_takesPart 125 = .ok (.iconst 0, 1) := by decide +kernel
theorem dX12_takesPart_126 : decode cX12_takesPart 126 = .ok (.istore 6, 2) := by decide +kernel
theorem dX12_takesPart_128 : decode cX12_takesPart 128 = .ok (.iload 6, 2) := by decide +kernel
theorem dX12_takesPart_130 : decode cX12_takesPart 130 = .ok (.ifCond .ne 14, 3) := by decide +kernel
theorem dX12_takesPart_133 : decode cX12_takesPart 133 = .ok (.aload_n 0, 1) := by decide +kernel
theorem dX12_takesPart_134 : decode cX12_takesPart 134 = .ok (.iconst 1, 1) := by decide +kernel
theorem dX12_takesPart_135 : decode cX12_takesPart 135 = .ok (.putfield 254, 3) := by decide +kernel
theorem dX12_takesPart_138 : decode cX12_takesPart 138 = .ok (.aload_n 0, 1) := by decide +kernel
theorem dX12_takesPart_139 : decode cX12_takesPart 139 = .ok (.iload 4, 2) := by decide +kernel
theorem dX12_takesPart_141 : decode cX12_takesPart 141 = .ok (.putfield 242, 3) := by decide +kernel
theorem dX12_takesPart_144 : decode cX12_takesPart 144 = .ok (.return_, 1) := by decide +kernel
theorem dX12_readsClause_0 : decode cX12_readsClause 0 = .ok (.aload_n 0, 1) := by decide +kernel
theorem dX12_readsClause_1 : decode cX12_readsClause 1 = .ok (.getfield 83, 3) := by decide +kernel
theorem dX12_readsClause_4 : decode cX12_readsClause 4 = .ok (.iload_n 1, 1) := by decide +kernel
theorem dX12_readsClause_5 : decode cX12_readsClause 5 = .ok (.aload_n 0, 1) := by decide +kernel
theorem dX12_readsClause_6 : decode cX12_readsClause 6 = .ok (.invokevirtual 264, 3) := by decide +kernel
theorem dX12_readsClause_9 : decode cX12_readsClause 9 = .ok (.iastore, 1) := by decide +kernel
theorem dX12_readsClause_10 : decode cX12_readsClause 10 = .ok (.iconst 5, 1) := by decide +kernel
theorem dX12_readsClause_11 : decode cX12_readsClause 11 = .ok (.iload_n 1, 1) := by decide +kernel
theorem dX12_readsClause_12 : decode cX12_readsClause 12 = .ok (.imul, 1) := by decide +kernel
theorem dX12_readsClause_13 : decode cX12_readsClause 13 = .ok (.istore_n 2, 1) := by decide +kernel
theorem dX12_readsClause_14 : decode cX12_readsClause 14 = .ok (.aload_n 0, 1) := by decide +kernel
theorem dX12_readsClause_15 : decode cX12_readsClause 15 = .ok (.getfield 83, 3) := by decide +kernel
theorem dX12_readsClause_18 : decode cX12_readsClause 18 = .ok (.iload_n 1, 1) := by decide +kernel
theorem dX12_readsClause_19 : decode cX12_readsClause 19 = .ok (.iaload, 1) := by decide +kernel
theorem dX12_readsClause_20 : decode cX12_readsClause 20 = .ok (.ifCond .le 9, 3) := by decide +kernel
theorem dX12_readsClause_23 : decode cX12_readsClause 23 = .ok (.aload_n 0, 1) := by decide +kernel
theorem dX12_readsClause_24 : decode cX12_readsClause 24 = .ok (.iload_n 2, 1) := by decide +kernel
theorem dX12_readsClause_25 : decode cX12_readsClause 25 = .ok (.iconst 5, 1) := by decide +kernel
theorem dX12_readsClause_26 : decode cX12_readsClause 26 = .ok (.invokevirtual 267, 3) := by decide +kernel
theorem dX12_readsClause_29 : decode cX12_readsClause 29 = .ok (.aload_n 0, 1) := by decide +kernel
theorem dX12_readsClause_30 : decode cX12_readsClause 30 = .ok (.getfield 83, 3) := by decide +kernel
theorem dX12_readsClause_33 : decode cX12_readsClause 33 = .ok (.iload_n 1, 1) := by decide +kernel
theorem dX12_readsClause_34 : decode cX12_readsClause 34 = .ok (.iaload, 1) := by decide +kernel
theorem dX12_readsClause_35 : decode cX12_readsClause 35 = .ok (.iconst 2, 1) := by decide +kernel
theorem dX12_readsClause_36 : decode cX12_readsClause 36 = .ok (.if_icmp .ne 12, 3) := by decide +kernel
theorem dX12_readsClause_39 : decode cX12_readsClause 39 = .ok (.aload_n 0, 1) := by decide +kernel
theorem dX12_readsClause_40 : decode cX12_readsClause 40 = .ok (.iload_n 2, 1) := by decide +kernel
theorem dX12_readsClause_41 : decode cX12_readsClause 41 = .ok (.iconst 1, 1) := by decide +kernel
theorem dX12_readsClause_42 : decode cX12_readsClause 42 = .ok (.iadd, 1) := by decide +kernel
theorem dX12_readsClause_43 : decode cX12_readsClause 43 = .ok (.bipush 23, 2) := by decide +kernel
theorem dX12_readsClause_45 : decode cX12_readsClause 45 = .ok (.invokevirtual 267, 3) := by decide +kernel
theorem dX12_readsClause_48 : decode cX12_readsClause 48 = .ok (.aload_n 0, 1) := by decide +kernel
theorem dX12_readsClause_49 : decode cX12_readsClause 49 = .ok (.getfield 83, 3) := by decide +kernel
theorem dX12_readsClause_52 : decode cX12_readsClause 52 = .ok (.iload_n 1, 1) := by decide +kernel
theorem dX12_readsClause_53 : decode cX12_readsClause 53 = .ok (.iaload, 1) := by decide +kernel
theorem dX12_readsClause_54 : decode cX12_readsClause 54 = .ok (.iconst 3, 1) := by decide +kernel
theorem dX12_readsClause_55 : decode cX12_readsClause 55 = .ok (.if_icmp .ne 11, 3) := by decide +kernel
theorem dX12_readsClause_58 : decode cX12_readsClause 58 = .ok (.aload_n 0, 1) := by decide +kernel
theorem dX12_readsClause_59 : decode cX12_readsClause 59 = .ok (.iload_n 2, 1) := by decide +kernel
theorem dX12_readsClause_60 : decode cX12_readsClause 60 = .ok (.iconst 1, 1) := by decide +kernel
theorem dX12_readsClause_61 : decode cX12_readsClause 61 = .ok (.iadd, 1) := by decide +kernel
theorem dX12_readsClause_62 : decode cX12_readsClause 62 = .ok (.iconst 5, 1) := by decide +kernel
theorem dX12_readsClause_63 : decode cX12_readsClause 63 = .ok (.invokevirtual 267, 3) := by decide +kernel
theorem dX12_readsClause_66 : decode cX12_readsClause 66 = .ok (.iconst 0, 1) := by decide +kernel
theorem dX12_readsClause_67 : decode cX12_readsClause 67 = .ok (.istore_n 3, 1) := by decide +kernel
theorem dX12_readsClause_68 : decode cX12_readsClause 68 = .ok (.iload_n 3, 1) := by decide +kernel
theorem dX12_readsClause_69 : decode cX12_readsClause 69 = .ok (.iconst 4, 1) := by decide +kernel
theorem dX12_readsClause_70 : decode cX12_readsClause 70 = .ok (.if_icmp .ge 27, 3) := by decide +kernel
theorem dX12_readsClause_73 : decode cX12_readsClause 73 = .ok (.aload_n 0, 1) := by decide +kernel
theorem dX12_readsClause_74 : decode cX12_readsClause 74 = .ok (.getfield 83, 3) := by decide +kernel
theorem dX12_readsClause_77 : decode cX12_readsClause 77 = .ok (.iload_n 1, 1) := by decide +kernel
theorem dX12_readsClause_78 : decode cX12_readsClause 78 = .ok (.iaload, 1) := by decide +kernel
theorem dX12_readsClause_79 : decode cX12_readsClause 79 = .ok (.iconst 1, 1) := by decide +kernel
theorem dX12_readsClause_80 : decode cX12_readsClause 80 = .ok (.if_icmp .ne 17, 3) := by decide +kernel
theorem dX12_readsClause_83 : decode cX12_readsClause 83 = .ok (.aload_n 0, 1) := by decide +kernel
theorem dX12_readsClause_84 : decode cX12_readsClause 84 = .ok (.iload_n 2, 1) := by decide +kernel
theorem dX12_readsClause_85 : decode cX12_readsClause 85 = .ok (.iconst 1, 1) := by decide +kernel
theorem dX12_readsClause_86 : decode cX12_readsClause 86 = .ok (.iadd, 1) := by decide +kernel
theorem dX12_readsClause_87 : decode cX12_readsClause 87 = .ok (.iload_n 3, 1) := by decide +kernel
theorem dX12_readsClause_88 : decode cX12_readsClause 88 = .ok (.invokevirtual 270, 3) := by decide +kernel
theorem dX12_readsClause_91 : decode cX12_readsClause 91 = .ok (.iinc 3 1, 3) := by decide +kernel
theorem dX12_readsClause_94 : decode cX12_readsClause 94 = .ok (.goto (-26), 3) := by decide +kernel
theorem dX12_readsClause_97 : decode cX12_readsClause 97 = .ok (.return_, 1) := by decide +kernel
theorem dX12_reads_0 : decode cX12_reads 0 = .ok (.aload_n 0, 1) := by decide +kernel
theorem dX12_reads_1 : decode cX12_reads 1 = .ok (.iconst 0, 1) := by decide +kernel
theorem dX12_reads_2 : decode cX12_reads 2 = .ok (.putfield 242, 3) := by decide +kernel
theorem dX12_reads_5 : decode cX12_reads 5 = .ok (.aload_n 0, 1) := by decide +kernel
theorem dX12_reads_6 : decode cX12_reads 6 = .ok (.iconst 0, 1) := by decide +kernel
theorem dX12_reads_7 : decode cX12_reads 7 = .ok (.putfield 254, 3) := by decide +kernel
theorem dX12_reads_10 : decode cX12_reads 10 = .ok (.iconst 0, 1) := by decide +kernel
theorem dX12_reads_11 : decode cX12_reads 11 = .ok (.istore_n 1, 1) := by decide +kernel
theorem dX12_reads_12 : decode cX12_reads 12 = .ok (.iconst 1, 1) := by decide +kernel
theorem dX12_reads_13 : decode cX12_reads 13 = .ok (.istore_n 2, 1) := by decide +kernel
theorem dX12_reads_14 : decode cX12_reads 14 = .ok (.iload_n 2, 1) := by decide +kernel
theorem dX12_reads_15 : decode cX12_reads 15 = .ok (.ifCond .eq 95, 3) := by decide +kernel
theorem dX12_reads_18 : decode cX12_reads 18 = .ok (.aload_n 0, 1) := by decide +kernel
theorem dX12_reads_19 : decode cX12_reads 19 = .ok (.getfield 254, 3) := by decide +kernel
theorem dX12_reads_22 : decode cX12_reads 22 = .ok (.ifCond .ne 88, 3) := by decide +kernel
theorem dX12_reads_25 : decode cX12_reads 25 = .ok (.aload_n 0, 1) := by decide +kernel
theorem dX12_reads_26 : decode cX12_reads 26 = .ok (.iload_n 1, 1) := by decide +kernel
theorem dX12_reads_27 : decode cX12_reads 27 = .ok (.invokevirtual 273, 3) := by decide +kernel
theorem dX12_reads_30 : decode cX12_reads 30 = .ok (.iinc 1 1, 3) := by decide +kernel
theorem dX12_reads_33 : decode cX12_reads 33 = .ok (.aload_n 0, 1) := by decide +kernel
theorem dX12_reads_34 : decode cX12_reads 34 = .ok (.getfield 254, 3) := by decide +kernel
theorem dX12_reads_37 : decode cX12_reads 37 = .ok (.ifCond .ne (-23), 3) := by decide +kernel
theorem dX12_reads_40 : decode cX12_reads 40 = .ok (.aload_n 0, 1) := by decide +kernel
theorem dX12_reads_41 : decode cX12_reads 41 = .ok (.invokevirtual 248, 3) := by decide +kernel
theorem dX12_reads_44 : decode cX12_reads 44 = .ok (.istore_n 3, 1) := by decide +kernel
theorem dX12_reads_45 : decode cX12_reads 45 = .ok (.iload_n 3, 1) := by decide +kernel
theorem dX12_reads_46 : decode cX12_reads 46 = .ok (.bipush 59, 2) := by decide +kernel
theorem dX12_reads_48 : decode cX12_reads 48 = .ok (.if_icmp .ne 7, 3) := by decide +kernel
theorem dX12_reads_51 : decode cX12_reads 51 = .ok (.iconst 1, 1) := by decide +kernel
theorem dX12_reads_52 : decode cX12_reads 52 = .ok (.goto 4, 3) := by decide +kernel
theorem dX12_reads_55 : decode cX12_reads 55 = .ok (.iconst 0, 1) := by decide +kernel
theorem dX12_reads_56 : decode cX12_reads 56 = .ok (.istore_n 2, 1) := by decide +kernel
theorem dX12_reads_57 : decode cX12_reads 57 = .ok (.aload_n 0, 1) := by decide +kernel
theorem dX12_reads_58 : decode cX12_reads 58 = .ok (.iload_n 3, 1) := by decide +kernel
theorem dX12_reads_59 : decode cX12_reads 59 = .ok (.ifCond .lt 19, 3) := by decide +kernel
theorem dX12_reads_62 : decode cX12_reads 62 = .ok (.iload_n 3, 1) := by decide +kernel
theorem dX12_reads_63 : decode cX12_reads 63 = .ok (.bipush 59, 2) := by decide +kernel
theorem dX12_reads_65 : decode cX12_reads 65 = .ok (.if_icmp .ne 9, 3) := by decide +kernel
theorem dX12_reads_68 : decode cX12_reads 68 = .ok (.iload_n 1, 1) := by decide +kernel
theorem dX12_reads_69 : decode cX12_reads 69 = .ok (.bipush 24, 2) := by decide +kernel
theorem dX12_reads_71 : decode cX12_reads 71 = .ok (.if_icmp .ne 7, 3) := by decide +kernel
theorem dX12_reads_74 : decode cX12_reads 74 = .ok (.iconst 1, 1) := by decide +kernel
theorem dX12_reads_75 : decode cX12_reads 75 = .ok (.goto 4, 3) := by decide +kernel
theorem dX12_reads_78 : decode cX12_reads 78 = .ok (.iconst 0, 1) := by decide +kernel
theorem dX12_reads_79 : decode cX12_reads 79 = .ok (.putfield 254, 3) := by decide +kernel
theorem dX12_reads_82 : decode cX12_reads 82 = .ok (.aload_n 0, 1) := by decide +kernel
theorem dX12_reads_83 : decode cX12_reads 83 = .ok (.dup, 1) := by decide +kernel
theorem dX12_reads_84 : decode cX12_reads 84 = .ok (.getfield 242, 3) := by decide +kernel
theorem dX12_reads_87 : decode cX12_reads 87 = .ok (.iload_n 2, 1) := by decide +kernel
theorem dX12_reads_88 : decode cX12_reads 88 = .ok (.ifCond .eq 14, 3) := by decide +kernel
theorem dX12_reads_91 : decode cX12_reads 91 = .ok (.aload_n 0, 1) := by decide +kernel
theorem dX12_reads_92 : decode cX12_reads 92 = .ok (.getfield 254, 3) := by decide +kernel
theorem dX12_reads_95 : decode cX12_reads 95 = .ok (.ifCond .ne 7, 3) := by decide +kernel
theorem dX12_reads_98 : decode cX12_reads 98 = .ok (.iconst 1, 1) := by decide +kernel
theorem dX12_reads_99 : decode cX12_reads 99 = .ok (.goto 4, 3) := by decide +kernel
theorem dX12_reads_102 : decode cX12_reads 102 = .ok (.iconst 0, 1) := by decide +kernel
theorem dX12_reads_103 : decode cX12_reads 103 = .ok (.iadd, 1) := by decide +kernel
theorem dX12_reads_104 : decode cX12_reads 104 = .ok (.putfield 242, 3) := by decide +kernel
theorem dX12_reads_107 : decode cX12_reads 107 = .ok (.goto (-93), 3) := by decide +kernel
theorem dX12_reads_110 : decode cX12_reads 110 = .ok (.iload_n 1, 1) := by decide +kernel
theorem dX12_reads_111 : decode cX12_reads 111 = .ok (.ireturn, 1) := by decide +kernel
theorem dX12_fault_0 : decode cX12_fault 0 = .ok (.aload_n 0, 1) := by decide +kernel
theorem dX12_fault_1 : decode cX12_fault 1 = .ok (.invokevirtual 276, 3) := by decide +kernel
theorem dX12_fault_4 : decode cX12_fault 4 = .ok (.pop, 1) := by decide +kernel
theorem dX12_fault_5 : decode cX12_fault 5 = .ok (.aload_n 0, 1) := by decide +kernel
theorem dX12_fault_6 : decode cX12_fault 6 = .ok (.getfield 254, 3) := by decide +kernel
theorem dX12_fault_9 : decode cX12_fault 9 = .ok (.ifCond .eq 10, 3) := by decide +kernel
theorem dX12_fault_12 : decode cX12_fault 12 = .ok (.aload_n 0, 1) := by decide +kernel
theorem dX12_fault_13 : decode cX12_fault 13 = .ok (.getfield 242, 3) := by decide +kernel
theorem dX12_fault_16 : decode cX12_fault 16 = .ok (.goto 4, 3) := by decide +kernel
theorem dX12_fault_19 : decode cX12_fault 19 = .ok (.iconst (-1), 1) := by decide +kernel
theorem dX12_fault_20 : decode cX12_fault 20 = .ok (.ireturn, 1) := by decide +kernel
theorem dX12_does_0 : decode cX12_does 0 = .ok (.iconst 4, 1) := by decide +kernel
theorem dX12_does_1 : decode cX12_does 1 = .ok (.aload_n 0, 1) := by decide +kernel
theorem dX12_does_2 : decode cX12_does 2 = .ok (.getfield 86, 3) := by decide +kernel
theorem dX12_does_5 : decode cX12_does 5 = .ok (.iconst 5, 1) := by decide +kernel
theorem dX12_does_6 : decode cX12_does 6 = .ok (.iload_n 1, 1) := by decide +kernel
theorem dX12_does_7 : decode cX12_does 7 = .ok (.imul, 1) := by decide +kernel
theorem dX12_does_8 : decode cX12_does 8 = .ok (.iaload, 1) := by decide +kernel
theorem dX12_does_9 : decode cX12_does 9 = .ok (.imul, 1) := by decide +kernel
theorem dX12_does_10 : decode cX12_does 10 = .ok (.istore_n 2, 1) := by decide +kernel
theorem dX12_does_11 : decode cX12_does 11 = .ok (.aload_n 0, 1) := by decide +kernel
theorem dX12_does_12 : decode cX12_does 12 = .ok (.getfield 83, 3) := by decide +kernel
theorem dX12_does_15 : decode cX12_does 15 = .ok (.iload_n 1, 1) := by decide +kernel
theorem dX12_does_16 : decode cX12_does 16 = .ok (.iaload, 1) := by decide +kernel
theorem dX12_does_17 : decode cX12_does 17 = .ok (.tableswitch 98 0 2 #[27, 51, 71], 27) := by decide +kernel
theorem dX12_does_44 : decode cX12_does 44 = .ok (.iconst 0, 1) := by decide +kernel
theorem dX12_does_45 : decode cX12_does 45 = .ok (.istore_n 3, 1) := by decide +kernel
theorem dX12_does_46 : decode cX12_does 46 = .ok (.iload_n 3, 1) := by decide +kernel
theorem dX12_does_47 : decode cX12_does 47 = .ok (.bipush 24, 2) := by decide +kernel
theorem dX12_does_49 : decode cX12_does 49 = .ok (.if_icmp .ge 16, 3) := by decide +kernel
theorem dX12_does_52 : decode cX12_does 52 = .ok (.aload_n 0, 1) := by decide +kernel
theorem dX12_does_53 : decode cX12_does 53 = .ok (.getfield 49, 3) := by decide +kernel
theorem dX12_does_56 : decode cX12_does 56 = .ok (.iload_n 3, 1) := by decide +kernel
theorem dX12_does_57 : decode cX12_does 57 = .ok (.iconst 0, 1) := by decide +kernel
theorem dX12_does_58 : decode cX12_does 58 = .ok (.iastore, 1) := by decide +kernel
theorem dX12_does_59 : decode cX12_does 59 = .ok (.iinc 3 1, 3) := by decide +kernel
theorem dX12_does_62 : decode cX12_does 62 = .ok (.goto (-16), 3) := by decide +kernel
theorem dX12_does_65 : decode cX12_does 65 = .ok (.goto 74, 3) := by decide +kernel
theorem dX12_does_68 : decode cX12_does 68 = .ok (.aload_n 0, 1) := by decide +kernel
theorem dX12_does_69 : decode cX12_does 69 = .ok (.getfield 86, 3) := by decide +kernel
theorem dX12_does_72 : decode cX12_does 72 = .ok (.iconst 5, 1) := by decide +kernel
theorem dX12_does_73 : decode cX12_does 73 = .ok (.iload_n 1, 1) := by decide +kernel
theorem dX12_does_74 : decode cX12_does 74 = .ok (.imul, 1) := by decide +kernel
theorem dX12_does_75 : decode cX12_does 75 = .ok (.iconst 1, 1) := by decide +kernel
theorem dX12_does_76 : decode cX12_does 76 = .ok (.iadd, 1) := by decide +kernel
theorem dX12_does_77 : decode cX12_does 77 = .ok (.aload_n 0, 1) := by decide +kernel
theorem dX12_does_78 : decode cX12_does 78 = .ok (.getfield 49, 3) := by decide +kernel
theorem dX12_does_81 : decode cX12_does 81 = .ok (.iload_n 2, 1) := by decide +kernel
theorem dX12_does_82 : decode cX12_does 82 = .ok (.invokestatic 135, 3) := by decide +kernel
theorem dX12_does_85 : decode cX12_does 85 = .ok (.goto 54, 3) := by decide +kernel
theorem dX12_does_88 : decode cX12_does 88 = .ok (.aload_n 0, 1) := by decide +kernel
theorem dX12_does_89 : decode cX12_does 89 = .ok (.getfield 13, 3) := by decide +kernel
theorem dX12_does_92 : decode cX12_does 92 = .ok (.iconst 4, 1) := by decide +kernel
theorem dX12_does_93 : decode cX12_does 93 = .ok (.aload_n 0, 1) := by decide +kernel
theorem dX12_does_94 : decode cX12_does 94 = .ok (.getfield 86, 3) := by decide +kernel
theorem dX12_does_97 : decode cX12_does 97 = .ok (.iconst 5, 1) := by decide +kernel
theorem dX12_does_98 : decode cX12_does 98 = .ok (.iload_n 1, 1) := by decide +kernel
theorem dX12_does_99 : decode cX12_does 99 = .ok (.imul, 1) := by decide +kernel
theorem dX12_does_100 : decode cX12_does 100 = .ok (.iconst 1, 1) := by decide +kernel
theorem dX12_does_101 : decode cX12_does 101 = .ok (.iadd, 1) := by decide +kernel
theorem dX12_does_102 : decode cX12_does 102 = .ok (.iaload, 1) := by decide +kernel
theorem dX12_does_103 : decode cX12_does 103 = .ok (.imul, 1) := by decide +kernel
theorem dX12_does_104 : decode cX12_does 104 = .ok (.aload_n 0, 1) := by decide +kernel
theorem dX12_does_105 : decode cX12_does 105 = .ok (.getfield 49, 3) := by decide +kernel
theorem dX12_does_108 : decode cX12_does 108 = .ok (.iload_n 2, 1) := by decide +kernel
theorem dX12_does_109 : decode cX12_does 109 = .ok (.invokestatic 135, 3) := by decide +kernel
theorem dX12_does_112 : decode cX12_does 112 = .ok (.goto 27, 3) := by decide +kernel
theorem dX12_does_115 : decode cX12_does 115 = .ok (.aload_n 0, 1) := by decide +kernel
theorem dX12_does_116 : decode cX12_does 116 = .ok (.getfield 49, 3) := by decide +kernel
theorem dX12_does_119 : decode cX12_does 119 = .ok (.iconst 4, 1) := by decide +kernel
theorem dX12_does_120 : decode cX12_does 120 = .ok (.aload_n 0, 1) := by decide +kernel
theorem dX12_does_121 : decode cX12_does 121 = .ok (.getfield 86, 3) := by decide +kernel
theorem dX12_does_124 : decode cX12_does 124 = .ok (.iconst 5, 1) := by decide +kernel
theorem dX12_does_125 : decode cX12_does 125 = .ok (.iload_n 1, 1) := by decide +kernel
theorem dX12_does_126 : decode cX12_does 126 = .ok (.imul, 1) := by decide +kernel
theorem dX12_does_127 : decode cX12_does 127 = .ok (.iconst 1, 1) := by decide +kernel
theorem dX12_does_128 : decode cX12_does 128 = .ok (.iadd, 1) := by decide +kernel
theorem dX12_does_129 : decode cX12_does 129 = .ok (.iaload, 1) := by decide +kernel
theorem dX12_does_130 : decode cX12_does 130 = .ok (.imul, 1) := by decide +kernel
theorem dX12_does_131 : decode cX12_does 131 = .ok (.aload_n 0, 1) := by decide +kernel
theorem dX12_does_132 : decode cX12_does 132 = .ok (.getfield 49, 3) := by decide +kernel
theorem dX12_does_135 : decode cX12_does 135 = .ok (.iload_n 2, 1) := by decide +kernel
theorem dX12_does_136 : decode cX12_does 136 = .ok (.invokestatic 135, 3) := by decide +kernel
theorem dX12_does_139 : decode cX12_does 139 = .ok (.return_, 1) := by decide +kernel
theorem dX12_desk_0 : decode cX12_desk 0 = .ok (.aload_n 0, 1) := by decide +kernel
theorem dX12_desk_1 : decode cX12_desk 1 = .ok (.invokevirtual 276, 3) := by decide +kernel
theorem dX12_desk_4 : decode cX12_desk 4 = .ok (.istore_n 1, 1) := by decide +kernel
theorem dX12_desk_5 : decode cX12_desk 5 = .ok (.aload_n 0, 1) := by decide +kernel
theorem dX12_desk_6 : decode cX12_desk 6 = .ok (.getfield 254, 3) := by decide +kernel
theorem dX12_desk_9 : decode cX12_desk 9 = .ok (.ifCond .eq 7, 3) := by decide +kernel
theorem dX12_desk_12 : decode cX12_desk 12 = .ok (.sipush (-1003), 3) := by decide +kernel
theorem dX12_desk_15 : decode cX12_desk 15 = .ok (.ireturn, 1) := by decide +kernel
theorem dX12_desk_16 : decode cX12_desk 16 = .ok (.aload_n 0, 1) := by decide +kernel
theorem dX12_desk_17 : decode cX12_desk 17 = .ok (.iconst 0, 1) := by decide +kernel
theorem dX12_desk_18 : decode cX12_desk 18 = .ok (.putfield 239, 3) := by decide +kernel
theorem dX12_desk_21 : decode cX12_desk 21 = .ok (.iconst 0, 1) := by decide +kernel
theorem dX12_desk_22 : decode cX12_desk 22 = .ok (.istore_n 2, 1) := by decide +kernel
theorem dX12_desk_23 : decode cX12_desk 23 = .ok (.iload_n 2, 1) := by decide +kernel
theorem dX12_desk_24 : decode cX12_desk 24 = .ok (.iload_n 1, 1) := by decide +kernel
theorem dX12_desk_25 : decode cX12_desk 25 = .ok (.if_icmp .ge 14, 3) := by decide +kernel
theorem dX12_desk_28 : decode cX12_desk 28 = .ok (.aload_n 0, 1) := by decide +kernel
theorem dX12_desk_29 : decode cX12_desk 29 = .ok (.iload_n 2, 1) := by decide +kernel
theorem dX12_desk_30 : decode cX12_desk 30 = .ok (.invokevirtual 279, 3) := by decide +kernel
theorem dX12_desk_33 : decode cX12_desk 33 = .ok (.iinc 2 1, 3) := by decide +kernel
theorem dX12_desk_36 : decode cX12_desk 36 = .ok (.goto (-13), 3) := by decide +kernel
theorem dX12_desk_39 : decode cX12_desk 39 = .ok (.aload_n 0, 1) := by decide +kernel
theorem dX12_desk_40 : decode cX12_desk 40 = .ok (.iconst 0, 1) := by decide +kernel
theorem dX12_desk_41 : decode cX12_desk 41 = .ok (.putfield 167, 3) := by decide +kernel
theorem dX12_desk_44 : decode cX12_desk 44 = .ok (.aload_n 0, 1) := by decide +kernel
theorem dX12_desk_45 : decode cX12_desk 45 = .ok (.getfield 55, 3) := by decide +kernel
theorem dX12_desk_48 : decode cX12_desk 48 = .ok (.iconst 0, 1) := by decide +kernel
theorem dX12_desk_49 : decode cX12_desk 49 = .ok (.iconst 0, 1) := by decide +kernel
theorem dX12_desk_50 : decode cX12_desk 50 = .ok (.bastore, 1) := by decide +kernel
theorem dX12_desk_51 : decode cX12_desk 51 = .ok (.aload_n 0, 1) := by decide +kernel
theorem dX12_desk_52 : decode cX12_desk 52 = .ok (.getfield 55, 3) := by decide +kernel
theorem dX12_desk_55 : decode cX12_desk 55 = .ok (.iconst 1, 1) := by decide +kernel
theorem dX12_desk_56 : decode cX12_desk 56 = .ok (.iconst 0, 1) := by decide +kernel
theorem dX12_desk_57 : decode cX12_desk 57 = .ok (.bastore, 1) := by decide +kernel
theorem dX12_desk_58 : decode cX12_desk 58 = .ok (.iconst 0, 1) := by decide +kernel
theorem dX12_desk_59 : decode cX12_desk 59 = .ok (.istore_n 2, 1) := by decide +kernel
theorem dX12_desk_60 : decode cX12_desk 60 = .ok (.iload_n 2, 1) := by decide +kernel
theorem dX12_desk_61 : decode cX12_desk 61 = .ok (.iconst 3, 1) := by decide +kernel
theorem dX12_desk_62 : decode cX12_desk 62 = .ok (.if_icmp .ge 16, 3) := by decide +kernel
theorem dX12_desk_65 : decode cX12_desk 65 = .ok (.aload_n 0, 1) := by decide +kernel
theorem dX12_desk_66 : decode cX12_desk 66 = .ok (.getfield 89, 3) := by decide +kernel
theorem dX12_desk_69 : decode cX12_desk 69 = .ok (.iload_n 2, 1) := by decide +kernel
theorem dX12_desk_70 : decode cX12_desk 70 = .ok (.iconst (-1), 1) := by decide +kernel
theorem dX12_desk_71 : decode cX12_desk 71 = .ok (.iastore, 1) := by decide +kernel
theorem dX12_desk_72 : decode cX12_desk 72 = .ok (.iinc 2 1, 3) := by decide +kernel
theorem dX12_desk_75 : decode cX12_desk 75 = .ok (.goto (-15), 3) := by decide +kernel
theorem dX12_desk_78 : decode cX12_desk 78 = .ok (.iload_n 1, 1) := by decide +kernel
theorem dX12_desk_79 : decode cX12_desk 79 = .ok (.ireturn, 1) := by decide +kernel
theorem dX12_isTally_0 : decode cX12_isTally 0 = .ok (.iload_n 0, 1) := by decide +kernel
theorem dX12_isTally_1 : decode cX12_isTally 1 = .ok (.iconst 0, 1) := by decide +kernel
theorem dX12_isTally_2 : decode cX12_isTally 2 = .ok (.iconst 2, 1) := by decide +kernel
theorem dX12_isTally_3 : decode cX12_isTally 3 = .ok (.invokestatic 155, 3) := by decide +kernel
theorem dX12_isTally_6 : decode cX12_isTally 6 = .ok (.ireturn, 1) := by decide +kernel
theorem dX12_tally_0 : decode cX12_tally 0 = .ok (.iload_n 1, 1) := by decide +kernel
theorem dX12_tally_1 : decode cX12_tally 1 = .ok (.invokestatic 282, 3) := by decide +kernel
theorem dX12_tally_4 : decode cX12_tally 4 = .ok (.ifCond .ne 7, 3) := by decide +kernel
theorem dX12_tally_7 : decode cX12_tally 7 = .ok (.sipush (-1001), 3) := by decide +kernel
theorem dX12_tally_10 : decode cX12_tally 10 = .ok (.ireturn, 1) := by decide +kernel
theorem dX12_tally_11 : decode cX12_tally 11 = .ok (.iload_n 2, 1) := by decide +kernel
theorem dX12_tally_12 : decode cX12_tally 12 = .ok (.bipush 6, 2) := by decide +kernel
theorem dX12_tally_14 : decode cX12_tally 14 = .ok (.if_icmp .le 7, 3) := by decide +kernel
theorem dX12_tally_17 : decode cX12_tally 17 = .ok (.sipush (-1002), 3) := by decide +kernel
theorem dX12_tally_20 : decode cX12_tally 20 = .ok (.ireturn, 1) := by decide +kernel
theorem dX12_tally_21 : decode cX12_tally 21 = .ok (.iload_n 2, 1) := by decide +kernel
theorem dX12_tally_22 : decode cX12_tally 22 = .ok (.ifCond .ge 7, 3) := by decide +kernel
theorem dX12_tally_25 : decode cX12_tally 25 = .ok (.sipush (-1013), 3) := by decide +kernel
theorem dX12_tally_28 : decode cX12_tally 28 = .ok (.ireturn, 1) := by decide +kernel
theorem dX12_tally_29 : decode cX12_tally 29 = .ok (.aload_n 0, 1) := by decide +kernel
theorem dX12_tally_30 : decode cX12_tally 30 = .ok (.getfield 89, 3) := by decide +kernel
theorem dX12_tally_33 : decode cX12_tally 33 = .ok (.iload_n 1, 1) := by decide +kernel
theorem dX12_tally_34 : decode cX12_tally 34 = .ok (.iload_n 2, 1) := by decide +kernel
theorem dX12_tally_35 : decode cX12_tally 35 = .ok (.iastore, 1) := by decide +kernel
theorem dX12_tally_36 : decode cX12_tally 36 = .ok (.iconst 0, 1) := by decide +kernel
theorem dX12_tally_37 : decode cX12_tally 37 = .ok (.istore_n 3, 1) := by decide +kernel
theorem dX12_tally_38 : decode cX12_tally 38 = .ok (.iload_n 3, 1) := by decide +kernel
theorem dX12_tally_39 : decode cX12_tally 39 = .ok (.bipush 6, 2) := by decide +kernel
theorem dX12_tally_41 : decode cX12_tally 41 = .ok (.if_icmp .ge 21, 3) := by decide +kernel
theorem dX12_tally_44 : decode cX12_tally 44 = .ok (.aload_n 0, 1) := by decide +kernel
theorem dX12_tally_45 : decode cX12_tally 45 = .ok (.getfield 92, 3) := by decide +kernel
theorem dX12_tally_48 : decode cX12_tally 48 = .ok (.bipush 6, 2) := by decide +kernel
theorem dX12_tally_50 : decode cX12_tally 50 = .ok (.iload_n 1, 1) := by decide +kernel
theorem dX12_tally_51 : decode cX12_tally 51 = .ok (.imul, 1) := by decide +kernel
theorem dX12_tally_52 : decode cX12_tally 52 = .ok (.iload_n 3, 1) := by decide +kernel
theorem dX12_tally_53 : decode cX12_tally 53 = .ok (.iadd, 1) := by decide +kernel
theorem dX12_tally_54 : decode cX12_tally 54 = .ok (.iconst 0, 1) := by decide +kernel
theorem dX12_tally_55 : decode cX12_tally 55 = .ok (.iastore, 1) := by decide +kernel
theorem dX12_tally_56 : decode cX12_tally 56 = .ok (.iinc 3 1, 3) := by decide +kernel
theorem dX12_tally_59 : decode cX12_tally 59 = .ok (.goto (-21), 3) := by decide +kernel
theorem dX12_tally_62 : decode cX12_tally 62 = .ok (.iload_n 2, 1) := by decide +kernel
theorem dX12_tally_63 : decode cX12_tally 63 = .ok (.ireturn, 1) := by decide +kernel
theorem dX12_lacks_0 : decode cX12_lacks 0 = .ok (.aload_n 0, 1) := by decide +kernel
theorem dX12_lacks_1 : decode cX12_lacks 1 = .ok (.getfield 89, 3) := by decide +kernel
theorem dX12_lacks_4 : decode cX12_lacks 4 = .ok (.iload_n 1, 1) := by decide +kernel
theorem dX12_lacks_5 : decode cX12_lacks 5 = .ok (.iaload, 1) := by decide +kernel
theorem dX12_lacks_6 : decode cX12_lacks 6 = .ok (.ifCond .ge 9, 3) := by decide +kernel
theorem dX12_lacks_9 : decode cX12_lacks 9 = .ok (.sipush (-1011), 3) := by decide +kernel
theorem dX12_lacks_12 : decode cX12_lacks 12 = .ok (.goto 26, 3) := by decide +kernel
theorem dX12_lacks_15 : decode cX12_lacks 15 = .ok (.iload_n 2, 1) := by decide +kernel
theorem dX12_lacks_16 : decode cX12_lacks 16 = .ok (.iconst 0, 1) := by decide +kernel
theorem dX12_lacks_17 : decode cX12_lacks 17 = .ok (.aload_n 0, 1) := by decide +kernel
theorem dX12_lacks_18 : decode cX12_lacks 18 = .ok (.getfield 89, 3) := by decide +kernel
theorem dX12_lacks_21 : decode cX12_lacks 21 = .ok (.iload_n 1, 1) := by decide +kernel
theorem dX12_lacks_22 : decode cX12_lacks 22 = .ok (.iaload, 1) := by decide +kernel
theorem dX12_lacks_23 : decode cX12_lacks 23 = .ok (.iconst 1, 1) := by decide +kernel
theorem dX12_lacks_24 : decode cX12_lacks 24 = .ok (.isub, 1) := by decide +kernel
theorem dX12_lacks_25 : decode cX12_lacks 25 = .ok (.invokestatic 155, 3) := by decide +kernel
theorem dX12_lacks_28 : decode cX12_lacks 28 = .ok (.ifCond .eq 7, 3) := by decide +kernel
theorem dX12_lacks_31 : decode cX12_lacks 31 = .ok (.iconst 0, 1) := by decide +kernel
theorem dX12_lacks_32 : decode cX12_lacks 32 = .ok (.goto 6, 3) := by decide +kernel
theorem dX12_lacks_35 : decode cX12_lacks 35 = .ok (.sipush (-1012), 3) := by decide +kernel
theorem dX12_lacks_38 : decode cX12_lacks 38 = .ok (.ireturn, 1) := by decide +kernel
theorem dX12_load_0 : decode cX12_load 0 = .ok (.iload_n 1, 1) := by decide +kernel
theorem dX12_load_1 : decode cX12_load 1 = .ok (.invokestatic 282, 3) := by decide +kernel
theorem dX12_load_4 : decode cX12_load 4 = .ok (.ifCond .eq 10, 3) := by decide +kernel
theorem dX12_load_7 : decode cX12_load 7 = .ok (.iload_n 3, 1) := by decide +kernel
theorem dX12_load_8 : decode cX12_load 8 = .ok (.invokestatic 177, 3) := by decide +kernel
theorem dX12_load_11 : decode cX12_load 11 = .ok (.ifCond .ne 7, 3) := by decide +kernel
theorem dX12_load_14 : decode cX12_load 14 = .ok (.sipush (-1001), 3) := by decide +kernel
theorem dX12_load_17 : decode cX12_load 17 = .ok (.ireturn, 1) := by decide +kernel
theorem dX12_load_18 : decode cX12_load 18 = .ok (.aload_n 0, 1) := by decide +kernel
theorem dX12_load_19 : decode cX12_load 19 = .ok (.iload_n 1, 1) := by decide +kernel
theorem dX12_load_20 : decode cX12_load 20 = .ok (.iload_n 2, 1) := by decide +kernel
theorem dX12_load_21 : decode cX12_load 21 = .ok (.invokevirtual 285, 3) := by decide +kernel
theorem dX12_load_24 : decode cX12_load 24 = .ok (.istore 4, 2) := by decide +kernel
theorem dX12_load_26 : decode cX12_load 26 = .ok (.iload 4, 2) := by decide +kernel
theorem dX12_load_28 : decode cX12_load 28 = .ok (.ifCond .ge 6, 3) := by decide +kernel
theorem dX12_load_31 : decode cX12_load 31 = .ok (.iload 4, 2) := by decide +kernel
theorem dX12_load_33 : decode cX12_load 33 = .ok (.ireturn, 1) := by decide +kernel
theorem dX12_load_34 : decode cX12_load 34 = .ok (.aload_n 0, 1) := by decide +kernel
theorem dX12_load_35 : decode cX12_load 35 = .ok (.getfield 92, 3) := by decide +kernel
theorem dX12_load_38 : decode cX12_load 38 = .ok (.bipush 6, 2) := by decide +kernel
theorem dX12_load_40 : decode cX12_load 40 = .ok (.iload_n 1, 1) := by decide +kernel
theorem dX12_load_41 : decode cX12_load 41 = .ok (.imul, 1) := by decide +kernel
theorem dX12_load_42 : decode cX12_load 42 = .ok (.iload_n 2, 1) := by decide +kernel
theorem dX12_load_43 : decode cX12_load 43 = .ok (.iadd, 1) := by decide +kernel
theorem dX12_load_44 : decode cX12_load 44 = .ok (.aload_n 0, 1) := by decide +kernel
theorem dX12_load_45 : decode cX12_load 45 = .ok (.iload_n 3, 1) := by decide +kernel
theorem dX12_load_46 : decode cX12_load 46 = .ok (.invokevirtual 173, 3) := by decide +kernel
theorem dX12_load_49 : decode cX12_load 49 = .ok (.iastore, 1) := by decide +kernel
theorem dX12_load_50 : decode cX12_load 50 = .ok (.aload_n 0, 1) := by decide +kernel
theorem dX12_load_51 : decode cX12_load 51 = .ok (.iload_n 3, 1) := by decide +kernel
theorem dX12_load_52 : decode cX12_load 52 = .ok (.invokevirtual 173, 3) := by decide +kernel
theorem dX12_load_55 : decode cX12_load 55 = .ok (.ireturn, 1) := by decide +kernel
theorem dX12_worked_0 : decode cX12_worked 0 = .ok (.iload_n 0, 1) := by decide +kernel
theorem dX12_worked_1 : decode cX12_worked 1 = .ok (.tableswitch 55 0 4 #[35, 39, 43, 47, 51], 35) := by decide +kernel
theorem dX12_worked_36 : decode cX12_worked 36 = .ok (.lload_n 1, 1) := by decide +kernel
theorem dX12_worked_37 : decode cX12_worked 37 = .ok (.lload_n 3, 1) := by decide +kernel
theorem dX12_worked_38 : decode cX12_worked 38 = .ok (.ladd, 1) := by decide +kernel
theorem dX12_worked_39 : decode cX12_worked 39 = .ok (.lreturn, 1) := by decide +kernel
theorem dX12_worked_40 : decode cX12_worked 40 = .ok (.lload_n 1, 1) := by decide +kernel
theorem dX12_worked_41 : decode cX12_worked 41 = .ok (.lload_n 3, 1) := by decide +kernel
theorem dX12_worked_42 : decode cX12_worked 42 = .ok (.lsub, 1) := by decide +kernel
theorem dX12_worked_43 : decode cX12_worked 43 = .ok (.lreturn, 1) := by decide +kernel
theorem dX12_worked_44 : decode cX12_worked 44 = .ok (.lload_n 1, 1) := by decide +kernel
theorem dX12_worked_45 : decode cX12_worked 45 = .ok (.lload_n 3, 1) := by decide +kernel
theorem dX12_worked_46 : decode cX12_worked 46 = .ok (.lmul, 1) := by decide +kernel
theorem dX12_worked_47 : decode cX12_worked 47 = .ok (.lreturn, 1) := by decide +kernel
theorem dX12_worked_48 : decode cX12_worked 48 = .ok (.lload_n 1, 1) := by decide +kernel
theorem dX12_worked_49 : decode cX12_worked 49 = .ok (.lload_n 3, 1) := by decide +kernel
theorem dX12_worked_50 : decode cX12_worked 50 = .ok (.ldiv, 1) := by decide +kernel
theorem dX12_worked_51 : decode cX12_worked 51 = .ok (.lreturn, 1) := by decide +kernel
theorem dX12_worked_52 : decode cX12_worked 52 = .ok (.lload_n 1, 1) := by decide +kernel
theorem dX12_worked_53 : decode cX12_worked 53 = .ok (.lload_n 3, 1) := by decide +kernel
theorem dX12_worked_54 : decode cX12_worked 54 = .ok (.lrem, 1) := by decide +kernel
theorem dX12_worked_55 : decode cX12_worked 55 = .ok (.lreturn, 1) := by decide +kernel
theorem dX12_worked_56 : decode cX12_worked 56 = .ok (.lload_n 3, 1) := by decide +kernel
theorem dX12_worked_57 : decode cX12_worked 57 = .ok (.lreturn, 1) := by decide +kernel
theorem dX12_work_0 : decode cX12_work 0 = .ok (.iload_n 1, 1) := by decide +kernel
theorem dX12_work_1 : decode cX12_work 1 = .ok (.invokestatic 282, 3) := by decide +kernel
theorem dX12_work_4 : decode cX12_work 4 = .ok (.ifCond .ne 7, 3) := by decide +kernel
theorem dX12_work_7 : decode cX12_work 7 = .ok (.sipush (-1001), 3) := by decide +kernel
theorem dX12_work_10 : decode cX12_work 10 = .ok (.ireturn, 1) := by decide +kernel
theorem dX12_work_11 : decode cX12_work 11 = .ok (.iload_n 2, 1) := by decide +kernel
theorem dX12_work_12 : decode cX12_work 12 = .ok (.iconst 0, 1) := by decide +kernel
theorem dX12_work_13 : decode cX12_work 13 = .ok (.iconst 5, 1) := by decide +kernel
theorem dX12_work_14 : decode cX12_work 14 = .ok (.invokestatic 155, 3) := by decide +kernel
theorem dX12_work_17 : decode cX12_work 17 = .ok (.ifCond .ne 7, 3) := by decide +kernel
theorem dX12_work_20 : decode cX12_work 20 = .ok (.sipush (-1002), 3) := by decide +kernel
theorem dX12_work_23 : decode cX12_work 23 = .ok (.ireturn, 1) := by decide +kernel
theorem dX12_work_24 : decode cX12_work 24 = .ok (.aload_n 0, 1) := by decide +kernel
theorem dX12_work_25 : decode cX12_work 25 = .ok (.iload_n 1, 1) := by decide +kernel
theorem dX12_work_26 : decode cX12_work 26 = .ok (.iload_n 3, 1) := by decide +kernel
theorem dX12_work_27 : decode cX12_work 27 = .ok (.invokevirtual 285, 3) := by decide +kernel
theorem dX12_work_30 : decode cX12_work 30 = .ok (.ifCond .ge 12, 3) := by decide +kernel
theorem dX12_work_33 : decode cX12_work 33 = .ok (.aload_n 0, 1) := by decide +kernel
theorem dX12_work_34 : decode cX12_work 34 = .ok (.iload_n 1, 1) := by decide +kernel
theorem dX12_work_35 : decode cX12_work 35 = .ok (.iload_n 3, 1) := by decide +kernel
theorem dX12_work_36 : decode cX12_work 36 = .ok (.invokevirtual 285, 3) := by decide +kernel
theorem dX12_work_39 : decode cX12_work 39 = .ok (.goto 10, 3) := by decide +kernel
theorem dX12_work_42 : decode cX12_work 42 = .ok (.aload_n 0, 1) := by decide +kernel
theorem dX12_work_43 : decode cX12_work 43 = .ok (.iload_n 1, 1) := by decide +kernel
theorem dX12_work_44 : decode cX12_work 44 = .ok (.iload 4, 2) := by decide +kernel
theorem dX12_work_46 : decode cX12_work 46 = .ok (.invokevirtual 285, 3) := by decide +kernel
theorem dX12_work_49 : decode cX12_work 49 = .ok (.istore 5, 2) := by decide +kernel
theorem dX12_work_51 : decode cX12_work 51 = .ok (.iload 5, 2) := by decide +kernel
theorem dX12_work_53 : decode cX12_work 53 = .ok (.ifCond .ge 6, 3) := by decide +kernel
theorem dX12_work_56 : decode cX12_work 56 = .ok (.iload 5, 2) := by decide +kernel
theorem dX12_work_58 : decode cX12_work 58 = .ok (.ireturn, 1) := by decide +kernel
theorem dX12_work_59 : decode cX12_work 59 = .ok (.aload_n 0, 1) := by decide +kernel
theorem dX12_work_60 : decode cX12_work 60 = .ok (.getfield 92, 3) := by decide +kernel
theorem dX12_work_63 : decode cX12_work 63 = .ok (.bipush 6, 2) := by decide +kernel
theorem dX12_work_65 : decode cX12_work 65 = .ok (.iload_n 1, 1) := by decide +kernel
theorem dX12_work_66 : decode cX12_work 66 = .ok (.imul, 1) := by decide +kernel
theorem dX12_work_67 : decode cX12_work 67 = .ok (.iload 4, 2) := by decide +kernel
theorem dX12_work_69 : decode cX12_work 69 = .ok (.iadd, 1) := by decide +kernel
theorem dX12_work_70 : decode cX12_work 70 = .ok (.iaload, 1) := by decide +kernel
theorem dX12_work_71 : decode cX12_work 71 = .ok (.istore 6, 2) := by decide +kernel
theorem dX12_work_73 : decode cX12_work 73 = .ok (.iload 6, 2) := by decide +kernel
theorem dX12_work_75 : decode cX12_work 75 = .ok (.ifCond .ne 16, 3) := by decide +kernel
theorem dX12_work_78 : decode cX12_work 78 = .ok (.iload_n 2, 1) := by decide +kernel
theorem dX12_work_79 : decode cX12_work 79 = .ok (.iconst 3, 1) := by decide +kernel
theorem dX12_work_80 : decode cX12_work 80 = .ok (.iconst 4, 1) := by decide +kernel
theorem dX12_work_81 : decode cX12_work 81 = .ok (.invokestatic 155, 3) := by decide +kernel
theorem dX12_work_84 : decode cX12_work 84 = .ok (.ifCond .eq 7, 3) := by decide +kernel
theorem dX12_work_87 : decode cX12_work 87 = .ok (.sipush (-1014), 3) := by decide +kernel
theorem dX12_work_90 : decode cX12_work 90 = .ok (.ireturn, 1) := by decide +kernel
theorem dX12_work_91 : decode cX12_work 91 = .ok (.iload_n 2, 1) := by decide +kernel
theorem dX12_work_92 : decode cX12_work 92 = .ok (.aload_n 0, 1) := by decide +kernel
theorem dX12_work_93 : decode cX12_work 93 = .ok (.getfield 92, 3) := by decide +kernel
theorem dX12_work_96 : decode cX12_work 96 = .ok (.bipush 6, 2) := by decide +kernel
theorem dX12_work_98 : decode cX12_work 98 = .ok (.iload_n 1, 1) := by decide +kernel
theorem dX12_work_99 : decode cX12_work 99 = .ok (.imul, 1) := by decide +kernel
theorem dX12_work_100 : decode cX12_work 100 = .ok (.iload_n 3, 1) := by decide +kernel
theorem dX12_work_101 : decode cX12_work 101 = .ok (.iadd, 1) := by decide +kernel
theorem dX12_work_102 : decode cX12_work 102 = .ok (.iaload, 1) := by decide +kernel
theorem dX12_work_103 : decode cX12_work 103 = .ok (.i2l, 1) := by decide +kernel
theorem dX12_work_104 : decode cX12_work 104 = .ok (.iload 6, 2) := by decide +kernel
theorem dX12_work_106 : decode cX12_work 106 = .ok (.i2l, 1) := by decide +kernel
theorem dX12_work_107 : decode cX12_work 107 = .ok (.invokestatic 288, 3) := by decide +kernel
theorem dX12_work_110 : decode cX12_work 110 = .ok (.lstore 7, 2) := by decide +kernel
theorem dX12_work_112 : decode cX12_work 112 = .ok (.lload 7, 2) := by decide +kernel
theorem dX12_work_114 : decode cX12_work 114 = .ok (.lload 7, 2) := by decide +kernel
theorem dX12_work_116 : decode cX12_work 116 = .ok (.l2i, 1) := by decide +kernel
theorem dX12_work_117 : decode cX12_work 117 = .ok (.i2l, 1) := by decide +kernel
theorem dX12_work_118 : decode cX12_work 118 = .ok (.lcmp, 1) := by decide +kernel
theorem dX12_work_119 : decode cX12_work 119 = .ok (.ifCond .eq 7, 3) := by decide +kernel
theorem dX12_work_122 : decode cX12_work 122 = .ok (.sipush (-1015), 3) := by decide +kernel
theorem dX12_work_125 : decode cX12_work 125 = .ok (.ireturn, 1) := by decide +kernel
theorem dX12_work_126 : decode cX12_work 126 = .ok (.aload_n 0, 1) := by decide +kernel
theorem dX12_work_127 : decode cX12_work 127 = .ok (.lload 7, 2) := by decide +kernel
theorem dX12_work_129 : decode cX12_work 129 = .ok (.l2i, 1) := by decide +kernel
theorem dX12_work_130 : decode cX12_work 130 = .ok (.putfield 292, 3) := by decide +kernel
theorem dX12_work_133 : decode cX12_work 133 = .ok (.aload_n 0, 1) := by decide +kernel
theorem dX12_work_134 : decode cX12_work 134 = .ok (.getfield 92, 3) := by decide +kernel
theorem dX12_work_137 : decode cX12_work 137 = .ok (.bipush 6, 2) := by decide +kernel
theorem dX12_work_139 : decode cX12_work 139 = .ok (.iload_n 1, 1) := by decide +kernel
theorem dX12_work_140 : decode cX12_work 140 = .ok (.imul, 1) := by decide +kernel
theorem dX12_work_141 : decode cX12_work 141 = .ok (.iload_n 3, 1) := by decide +kernel
theorem dX12_work_142 : decode cX12_work 142 = .ok (.iadd, 1) := by decide +kernel
theorem dX12_work_143 : decode cX12_work 143 = .ok (.aload_n 0, 1) := by decide +kernel
theorem dX12_work_144 : decode cX12_work 144 = .ok (.getfield 292, 3) := by decide +kernel
theorem dX12_work_147 : decode cX12_work 147 = .ok (.iastore, 1) := by decide +kernel
theorem dX12_work_148 : decode cX12_work 148 = .ok (.iconst 0, 1) := by decide +kernel
theorem dX12_work_149 : decode cX12_work 149 = .ok (.ireturn, 1) := by decide +kernel
theorem dX12_latest_0 : decode cX12_latest 0 = .ok (.aload_n 0, 1) := by decide +kernel
theorem dX12_latest_1 : decode cX12_latest 1 = .ok (.getfield 292, 3) := by decide +kernel
theorem dX12_latest_4 : decode cX12_latest 4 = .ok (.ireturn, 1) := by decide +kernel
theorem dX12_drop_0 : decode cX12_drop 0 = .ok (.iload_n 1, 1) := by decide +kernel
theorem dX12_drop_1 : decode cX12_drop 1 = .ok (.invokestatic 282, 3) := by decide +kernel
theorem dX12_drop_4 : decode cX12_drop 4 = .ok (.ifCond .ne 7, 3) := by decide +kernel
theorem dX12_drop_7 : decode cX12_drop 7 = .ok (.sipush (-1001), 3) := by decide +kernel
theorem dX12_drop_10 : decode cX12_drop 10 = .ok (.ireturn, 1) := by decide +kernel
theorem dX12_drop_11 : decode cX12_drop 11 = .ok (.aload_n 0, 1) := by decide +kernel
theorem dX12_drop_12 : decode cX12_drop 12 = .ok (.getfield 89, 3) := by decide +kernel
theorem dX12_drop_15 : decode cX12_drop 15 = .ok (.iload_n 1, 1) := by decide +kernel
theorem dX12_drop_16 : decode cX12_drop 16 = .ok (.iaload, 1) := by decide +kernel
theorem dX12_drop_17 : decode cX12_drop 17 = .ok (.ifCond .ge 7, 3) := by decide +kernel
theorem dX12_drop_20 : decode cX12_drop 20 = .ok (.sipush (-1011), 3) := by decide +kernel
theorem dX12_drop_23 : decode cX12_drop 23 = .ok (.ireturn, 1) := by decide +kernel
theorem dX12_drop_24 : decode cX12_drop 24 = .ok (.aload_n 0, 1) := by decide +kernel
theorem dX12_drop_25 : decode cX12_drop 25 = .ok (.getfield 89, 3) := by decide +kernel
theorem dX12_drop_28 : decode cX12_drop 28 = .ok (.iload_n 1, 1) := by decide +kernel
theorem dX12_drop_29 : decode cX12_drop 29 = .ok (.iaload, 1) := by decide +kernel
theorem dX12_drop_30 : decode cX12_drop 30 = .ok (.istore_n 2, 1) := by decide +kernel
theorem dX12_drop_31 : decode cX12_drop 31 = .ok (.aload_n 0, 1) := by decide +kernel
theorem dX12_drop_32 : decode cX12_drop 32 = .ok (.getfield 89, 3) := by decide +kernel
theorem dX12_drop_35 : decode cX12_drop 35 = .ok (.iload_n 1, 1) := by decide +kernel
theorem dX12_drop_36 : decode cX12_drop 36 = .ok (.iconst (-1), 1) := by decide +kernel
theorem dX12_drop_37 : decode cX12_drop 37 = .ok (.iastore, 1) := by decide +kernel
theorem dX12_drop_38 : decode cX12_drop 38 = .ok (.iload_n 2, 1) := by decide +kernel
theorem dX12_drop_39 : decode cX12_drop 39 = .ok (.ireturn, 1) := by decide +kernel
theorem dX12_count_0 : decode cX12_count 0 = .ok (.iconst 0, 1) := by decide +kernel
theorem dX12_count_1 : decode cX12_count 1 = .ok (.istore_n 2, 1) := by decide +kernel
theorem dX12_count_2 : decode cX12_count 2 = .ok (.iload_n 1, 1) := by decide +kernel
theorem dX12_count_3 : decode cX12_count 3 = .ok (.tableswitch 134 0 6 #[41, 46, 70, 75, 80, 117, 117], 41) := by decide +kernel
theorem dX12_count_44 : decode cX12_count 44 = .ok (.aload_n 0, 1) := by decide +kernel
theorem dX12_count_45 : decode cX12_count 45 = .ok (.invokevirtual 218, 3) := by decide +kernel
theorem dX12_count_48 : decode cX12_count 48 = .ok (.ireturn, 1) := by decide +kernel
theorem dX12_count_49 : decode cX12_count 49 = .ok (.iconst 0, 1) := by decide +kernel
theorem dX12_count_50 : decode cX12_count 50 = .ok (.istore_n 3, 1) := by decide +kernel
theorem dX12_count_51 : decode cX12_count 51 = .ok (.iload_n 3, 1) := by decide +kernel
theorem dX12_count_52 : decode cX12_count 52 = .ok (.bipush 6, 2) := by decide +kernel
theorem dX12_count_54 : decode cX12_count 54 = .ok (.if_icmp .ge 17, 3) := by decide +kernel
theorem dX12_count_57 : decode cX12_count 57 = .ok (.iload_n 2, 1) := by decide +kernel
theorem dX12_count_58 : decode cX12_count 58 = .ok (.aload_n 0, 1) := by decide +kernel
theorem dX12_count_59 : decode cX12_count 59 = .ok (.iload_n 3, 1) := by decide +kernel
theorem dX12_count_60 : decode cX12_count 60 = .ok (.invokevirtual 173, 3) := by decide +kernel
theorem dX12_count_63 : decode cX12_count 63 = .ok (.iadd, 1) := by decide +kernel
theorem dX12_count_64 : decode cX12_count 64 = .ok (.istore_n 2, 1) := by decide +kernel
theorem dX12_count_65 : decode cX12_count 65 = .ok (.iinc 3 1, 3) := by decide +kernel
theorem dX12_count_68 : decode cX12_count 68 = .ok (.goto (-17), 3) := by decide +kernel
theorem dX12_count_71 : decode cX12_count 71 = .ok (.iload_n 2, 1) := by decide +kernel
theorem dX12_count_72 : decode cX12_count 72 = .ok (.ireturn, 1) := by decide +kernel
theorem dX12_count_73 : decode cX12_count 73 = .ok (.aload_n 0, 1) := by decide +kernel
theorem dX12_count_74 : decode cX12_count 74 = .ok (.getfield 167, 3) := by decide +kernel
theorem dX12_count_77 : decode cX12_count 77 = .ok (.ireturn, 1) := by decide +kernel
theorem dX12_count_78 : decode cX12_count 78 = .ok (.aload_n 0, 1) := by decide +kernel
theorem dX12_count_79 : decode cX12_count 79 = .ok (.getfield 239, 3) := by decide +kernel
theorem dX12_count_82 : decode cX12_count 82 = .ok (.ireturn, 1) := by decide +kernel
theorem dX12_count_83 : decode cX12_count 83 = .ok (.iconst 0, 1) := by decide +kernel
theorem dX12_count_84 : decode cX12_count 84 = .ok (.istore_n 3, 1) := by decide +kernel
theorem dX12_count_85 : decode cX12_count 85 = .ok (.iload_n 3, 1) := by decide +kernel
theorem dX12_count_86 : decode cX12_count 86 = .ok (.iconst 3, 1) := by decide +kernel
theorem dX12_count_87 : decode cX12_count 87 = .ok (.if_icmp .ge 31, 3) := by decide +kernel
theorem dX12_count_90 : decode cX12_count 90 = .ok (.iload_n 2, 1) := by decide +kernel
theorem dX12_count_91 : decode cX12_count 91 = .ok (.aload_n 0, 1) := by decide +kernel
theorem dX12_count_92 : decode cX12_count 92 = .ok (.getfield 89, 3) := by decide +kernel
theorem dX12_count_95 : decode cX12_count 95 = .ok (.iload_n 3, 1) := by decide +kernel
theorem dX12_count_96 : decode cX12_count 96 = .ok (.iaload, 1) := by decide +kernel
theorem dX12_count_97 : decode cX12_count 97 = .ok (.ifCond .ge 7, 3) := by decide +kernel
theorem dX12_count_100 : decode cX12_count 100 = .ok (.iconst 0, 1) := by decide +kernel
theorem dX12_count_101 : decode cX12_count 101 = .ok (.goto 9, 3) := by decide +kernel
theorem dX12_count_104 : decode cX12_count 104 = .ok (.aload_n 0, 1) := by decide +kernel
theorem dX12_count_105 : decode cX12_count 105 = .ok (.getfield 89, 3) := by decide +kernel
theorem dX12_count_108 : decode cX12_count 108 = .ok (.iload_n 3, 1) := by decide +kernel
theorem dX12_count_109 : decode cX12_count 109 = .ok (.iaload, 1) := by decide +kernel
theorem dX12_count_110 : decode cX12_count 110 = .ok (.iadd, 1) := by decide +kernel
theorem dX12_count_111 : decode cX12_count 111 = .ok (.istore_n 2, 1) := by decide +kernel
theorem dX12_count_112 : decode cX12_count 112 = .ok (.iinc 3 1, 3) := by decide +kernel
theorem dX12_count_115 : decode cX12_count 115 = .ok (.goto (-30), 3) := by decide +kernel
theorem dX12_count_118 : decode cX12_count 118 = .ok (.iload_n 2, 1) := by decide +kernel
theorem dX12_count_119 : decode cX12_count 119 = .ok (.ireturn, 1) := by decide +kernel
theorem dX12_count_120 : decode cX12_count 120 = .ok (.aload_n 0, 1) := by decide +kernel
theorem dX12_count_121 : decode cX12_count 121 = .ok (.getfield 55, 3) := by decide +kernel
theorem dX12_count_124 : decode cX12_count 124 = .ok (.iload_n 1, 1) := by decide +kernel
theorem dX12_count_125 : decode cX12_count 125 = .ok (.iconst 5, 1) := by decide +kernel
theorem dX12_count_126 : decode cX12_count 126 = .ok (.isub, 1) := by decide +kernel
theorem dX12_count_127 : decode cX12_count 127 = .ok (.baload, 1) := by decide +kernel
theorem dX12_count_128 : decode cX12_count 128 = .ok (.ifCond .eq 7, 3) := by decide +kernel
theorem dX12_count_131 : decode cX12_count 131 = .ok (.iconst 1, 1) := by decide +kernel
theorem dX12_count_132 : decode cX12_count 132 = .ok (.goto 4, 3) := by decide +kernel
theorem dX12_count_135 : decode cX12_count 135 = .ok (.iconst 0, 1) := by decide +kernel
theorem dX12_count_136 : decode cX12_count 136 = .ok (.ireturn, 1) := by decide +kernel
theorem dX12_count_137 : decode cX12_count 137 = .ok (.sipush (-1002), 3) := by decide +kernel
theorem dX12_count_140 : decode cX12_count 140 = .ok (.ireturn, 1) := by decide +kernel
