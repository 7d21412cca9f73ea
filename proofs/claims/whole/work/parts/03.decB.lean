theorem dX11_init_0 : decode cX11_init 0 = .ok (.aload_n 0, 1) := by decide +kernel
theorem dX11_init_1 : decode cX11_init 1 = .ok (.invokespecial 1, 3) := by decide +kernel
theorem dX11_init_4 : decode cX11_init 4 = .ok (.aload_n 0, 1) := by decide +kernel
theorem dX11_init_5 : decode cX11_init 5 = .ok (.bipush 6, 2) := by decide +kernel
theorem dX11_init_7 : decode cX11_init 7 = .ok (.invokestatic 9, 3) := by decide +kernel
theorem dX11_init_10 : decode cX11_init 10 = .ok (.putfield 13, 3) := by decide +kernel
theorem dX11_init_13 : decode cX11_init 13 = .ok (.aload_n 0, 1) := by decide +kernel
theorem dX11_init_14 : decode cX11_init 14 = .ok (.iconst 2, 1) := by decide +kernel
theorem dX11_init_15 : decode cX11_init 15 = .ok (.anewarray 17, 3) := by decide +kernel
theorem dX11_init_18 : decode cX11_init 18 = .ok (.putfield 19, 3) := by decide +kernel
theorem dX11_init_21 : decode cX11_init 21 = .ok (.iconst 0, 1) := by decide +kernel
theorem dX11_init_22 : decode cX11_init 22 = .ok (.istore_n 1, 1) := by decide +kernel
theorem dX11_init_23 : decode cX11_init 23 = .ok (.iload_n 1, 1) := by decide +kernel
theorem dX11_init_24 : decode cX11_init 24 = .ok (.iconst 2, 1) := by decide +kernel
theorem dX11_init_25 : decode cX11_init 25 = .ok (.if_icmp .ge 22, 3) := by decide +kernel
theorem dX11_init_28 : decode cX11_init 28 = .ok (.aload_n 0, 1) := by decide +kernel
theorem dX11_init_29 : decode cX11_init 29 = .ok (.getfield 19, 3) := by decide +kernel
theorem dX11_init_32 : decode cX11_init 32 = .ok (.iload_n 1, 1) := by decide +kernel
theorem dX11_init_33 : decode cX11_init 33 = .ok (.new 17, 3) := by decide +kernel
theorem dX11_init_36 : decode cX11_init 36 = .ok (.dup, 1) := by decide +kernel
theorem dX11_init_37 : decode cX11_init 37 = .ok (.invokespecial 23, 3) := by decide +kernel
theorem dX11_init_40 : decode cX11_init 40 = .ok (.aastore, 1) := by decide +kernel
theorem dX11_init_41 : decode cX11_init 41 = .ok (.iinc 1 1, 3) := by decide +kernel
theorem dX11_init_44 : decode cX11_init 44 = .ok (.goto (-21), 3) := by decide +kernel
theorem dX11_init_47 : decode cX11_init 47 = .ok (.aload_n 0, 1) := by decide +kernel
theorem dX11_init_48 : decode cX11_init 48 = .ok (.iconst 3, 1) := by decide +kernel
theorem dX11_init_49 : decode cX11_init 49 = .ok (.anewarray 24, 3) := by decide +kernel
theorem dX11_init_52 : decode cX11_init 52 = .ok (.putfield 26, 3) := by decide +kernel
theorem dX11_init_55 : decode cX11_init 55 = .ok (.iconst 0, 1) := by decide +kernel
theorem dX11_init_56 : decode cX11_init 56 = .ok (.istore_n 1, 1) := by decide +kernel
theorem dX11_init_57 : decode cX11_init 57 = .ok (.iload_n 1, 1) := by decide +kernel
theorem dX11_init_58 : decode cX11_init 58 = .ok (.iconst 3, 1) := by decide +kernel
theorem dX11_init_59 : decode cX11_init 59 = .ok (.if_icmp .ge 22, 3) := by decide +kernel
theorem dX11_init_62 : decode cX11_init 62 = .ok (.aload_n 0, 1) := by decide +kernel
theorem dX11_init_63 : decode cX11_init 63 = .ok (.getfield 26, 3) := by decide +kernel
theorem dX11_init_66 : decode cX11_init 66 = .ok (.iload_n 1, 1) := by decide +kernel
theorem dX11_init_67 : decode cX11_init 67 = .ok (.new 24, 3) := by decide +kernel
theorem dX11_init_70 : decode cX11_init 70 = .ok (.dup, 1) := by decide +kernel
theorem dX11_init_71 : decode cX11_init 71 = .ok (.invokespecial 30, 3) := by decide +kernel
theorem dX11_init_74 : decode cX11_init 74 = .ok (.aastore, 1) := by decide +kernel
theorem dX11_init_75 : decode cX11_init 75 = .ok (.iinc 1 1, 3) := by decide +kernel
theorem dX11_init_78 : decode cX11_init 78 = .ok (.goto (-21), 3) := by decide +kernel
theorem dX11_init_81 : decode cX11_init 81 = .ok (.aload_n 0, 1) := by decide +kernel
theorem dX11_init_82 : decode cX11_init 82 = .ok (.new 31, 3) := by decide +kernel
theorem dX11_init_85 : decode cX11_init 85 = .ok (.dup, 1) := by decide +kernel
theorem dX11_init_86 : decode cX11_init 86 = .ok (.invokespecial 33, 3) := by decide +kernel
theorem dX11_init_89 : decode cX11_init 89 = .ok (.putfield 34, 3) := by decide +kernel
theorem dX11_init_92 : decode cX11_init 92 = .ok (.aload_n 0, 1) := by decide +kernel
theorem dX11_init_93 : decode cX11_init 93 = .ok (.new 38, 3) := by decide +kernel
theorem dX11_init_96 : decode cX11_init 96 = .ok (.dup, 1) := by decide +kernel
theorem dX11_init_97 : decode cX11_init 97 = .ok (.invokespecial 40, 3) := by decide +kernel
theorem dX11_init_100 : decode cX11_init 100 = .ok (.putfield 41, 3) := by decide +kernel
theorem dX11_init_103 : decode cX11_init 103 = .ok (.aload_n 0, 1) := by decide +kernel
theorem dX11_init_104 : decode cX11_init 104 = .ok (.new 45, 3) := by decide +kernel
theorem dX11_init_107 : decode cX11_init 107 = .ok (.dup, 1) := by decide +kernel
theorem dX11_init_108 : decode cX11_init 108 = .ok (.invokespecial 47, 3) := by decide +kernel
theorem dX11_init_111 : decode cX11_init 111 = .ok (.putfield 48, 3) := by decide +kernel
theorem dX11_init_114 : decode cX11_init 114 = .ok (.aload_n 0, 1) := by decide +kernel
theorem dX11_init_115 : decode cX11_init 115 = .ok (.new 52, 3) := by decide +kernel
theorem dX11_init_118 : decode cX11_init 118 = .ok (.dup, 1) := by decide +kernel
theorem dX11_init_119 : decode cX11_init 119 = .ok (.invokespecial 54, 3) := by decide +kernel
theorem dX11_init_122 : decode cX11_init 122 = .ok (.putfield 55, 3) := by decide +kernel
theorem dX11_init_125 : decode cX11_init 125 = .ok (.aload_n 0, 1) := by decide +kernel
theorem dX11_init_126 : decode cX11_init 126 = .ok (.new 59, 3) := by decide +kernel
theorem dX11_init_129 : decode cX11_init 129 = .ok (.dup, 1) := by decide +kernel
theorem dX11_init_130 : decode cX11_init 130 = .ok (.aload_n 0, 1) := by decide +kernel
theorem dX11_init_131 : decode cX11_init 131 = .ok (.getfield 55, 3) := by decide +kernel
theorem dX11_init_134 : decode cX11_init 134 = .ok (.aload_n 0, 1) := by decide +kernel
theorem dX11_init_135 : decode cX11_init 135 = .ok (.getfield 48, 3) := by decide +kernel
theorem dX11_init_138 : decode cX11_init 138 = .ok (.invokespecial 61, 3) := by decide +kernel
theorem dX11_init_141 : decode cX11_init 141 = .ok (.putfield 64, 3) := by decide +kernel
theorem dX11_init_144 : decode cX11_init 144 = .ok (.aload_n 0, 1) := by decide +kernel
theorem dX11_init_145 : decode cX11_init 145 = .ok (.new 68, 3) := by decide +kernel
theorem dX11_init_148 : decode cX11_init 148 = .ok (.dup, 1) := by decide +kernel
theorem dX11_init_149 : decode cX11_init 149 = .ok (.aload_n 0, 1) := by decide +kernel
theorem dX11_init_150 : decode cX11_init 150 = .ok (.getfield 55, 3) := by decide +kernel
theorem dX11_init_153 : decode cX11_init 153 = .ok (.aload_n 0, 1) := by decide +kernel
theorem dX11_init_154 : decode cX11_init 154 = .ok (.getfield 48, 3) := by decide +kernel
theorem dX11_init_157 : decode cX11_init 157 = .ok (.invokespecial 70, 3) := by decide +kernel
theorem dX11_init_160 : decode cX11_init 160 = .ok (.putfield 71, 3) := by decide +kernel
theorem dX11_init_163 : decode cX11_init 163 = .ok (.aload_n 0, 1) := by decide +kernel
theorem dX11_init_164 : decode cX11_init 164 = .ok (.new 75, 3) := by decide +kernel
theorem dX11_init_167 : decode cX11_init 167 = .ok (.dup, 1) := by decide +kernel
theorem dX11_init_168 : decode cX11_init 168 = .ok (.invokespecial 77, 3) := by decide +kernel
theorem dX11_init_171 : decode cX11_init 171 = .ok (.putfield 78, 3) := by decide +kernel
theorem dX11_init_174 : decode cX11_init 174 = .ok (.aload_n 0, 1) := by decide +kernel
theorem dX11_init_175 : decode cX11_init 175 = .ok (.new 82, 3) := by decide +kernel
theorem dX11_init_178 : decode cX11_init 178 = .ok (.dup, 1) := by decide +kernel
theorem dX11_init_179 : decode cX11_init 179 = .ok (.invokespecial 84, 3) := by decide +kernel
theorem dX11_init_182 : decode cX11_init 182 = .ok (.putfield 85, 3) := by decide +kernel
theorem dX11_init_185 : decode cX11_init 185 = .ok (.aload_n 0, 1) := by decide +kernel
theorem dX11_init_186 : decode cX11_init 186 = .ok (.new 82, 3) := by decide +kernel
theorem dX11_init_189 : decode cX11_init 189 = .ok (.dup, 1) := by decide +kernel
theorem dX11_init_190 : decode cX11_init 190 = .ok (.invokespecial 84, 3) := by decide +kernel
theorem dX11_init_193 : decode cX11_init 193 = .ok (.putfield 89, 3) := by decide +kernel
theorem dX11_init_196 : decode cX11_init 196 = .ok (.aload_n 0, 1) := by decide +kernel
theorem dX11_init_197 : decode cX11_init 197 = .ok (.iconst 0, 1) := by decide +kernel
theorem dX11_init_198 : decode cX11_init 198 = .ok (.putfield 92, 3) := by decide +kernel
theorem dX11_init_201 : decode cX11_init 201 = .ok (.return_, 1) := by decide +kernel
theorem dX11_write_0 : decode cX11_write 0 = .ok (.iload_n 1, 1) := by decide +kernel
theorem dX11_write_1 : decode cX11_write 1 = .ok (.ifCond .lt 10, 3) := by decide +kernel
theorem dX11_write_4 : decode cX11_write 4 = .ok (.iload_n 1, 1) := by decide +kernel
theorem dX11_write_5 : decode cX11_write 5 = .ok (.sipush 255, 3) := by decide +kernel
theorem dX11_write_8 : decode cX11_write 8 = .ok (.if_icmp .le 7, 3) := by decide +kernel
theorem dX11_write_11 : decode cX11_write 11 = .ok (.sipush (-1002), 3) := by decide +kernel
theorem dX11_write_14 : decode cX11_write 14 = .ok (.ireturn, 1) := by decide +kernel
theorem dX11_write_15 : decode cX11_write 15 = .ok (.aload_n 0, 1) := by decide +kernel
theorem dX11_write_16 : decode cX11_write 16 = .ok (.getfield 41, 3) := by decide +kernel
theorem dX11_write_19 : decode cX11_write 19 = .ok (.invokevirtual 96, 3) := by decide +kernel
theorem dX11_write_22 : decode cX11_write 22 = .ok (.ifCond .eq 7, 3) := by decide +kernel
theorem dX11_write_25 : decode cX11_write 25 = .ok (.sipush (-1004), 3) := by decide +kernel
theorem dX11_write_28 : decode cX11_write 28 = .ok (.ireturn, 1) := by decide +kernel
theorem dX11_write_29 : decode cX11_write 29 = .ok (.aload_n 0, 1) := by decide +kernel
theorem dX11_write_30 : decode cX11_write 30 = .ok (.getfield 41, 3) := by decide +kernel
theorem dX11_write_33 : decode cX11_write 33 = .ok (.iload_n 1, 1) := by decide +kernel
theorem dX11_write_34 : decode cX11_write 34 = .ok (.invokevirtual 100, 3) := by decide +kernel
theorem dX11_write_37 : decode cX11_write 37 = .ok (.aload_n 0, 1) := by decide +kernel
theorem dX11_write_38 : decode cX11_write 38 = .ok (.getfield 41, 3) := by decide +kernel
theorem dX11_write_41 : decode cX11_write 41 = .ok (.invokevirtual 104, 3) := by decide +kernel
theorem dX11_write_44 : decode cX11_write 44 = .ok (.ireturn, 1) := by decide +kernel
theorem dX11_erase_0 : decode cX11_erase 0 = .ok (.aload_n 0, 1) := by decide +kernel
theorem dX11_erase_1 : decode cX11_erase 1 = .ok (.getfield 41, 3) := by decide +kernel
theorem dX11_erase_4 : decode cX11_erase 4 = .ok (.invokevirtual 104, 3) := by decide +kernel
theorem dX11_erase_7 : decode cX11_erase 7 = .ok (.istore_n 1, 1) := by decide +kernel
theorem dX11_erase_8 : decode cX11_erase 8 = .ok (.aload_n 0, 1) := by decide +kernel
theorem dX11_erase_9 : decode cX11_erase 9 = .ok (.getfield 41, 3) := by decide +kernel
theorem dX11_erase_12 : decode cX11_erase 12 = .ok (.invokevirtual 108, 3) := by decide +kernel
theorem dX11_erase_15 : decode cX11_erase 15 = .ok (.iload_n 1, 1) := by decide +kernel
theorem dX11_erase_16 : decode cX11_erase 16 = .ok (.ireturn, 1) := by decide +kernel
theorem dX11_fault_0 : decode cX11_fault 0 = .ok (.aload_n 0, 1) := by decide +kernel
theorem dX11_fault_1 : decode cX11_fault 1 = .ok (.getfield 41, 3) := by decide +kernel
theorem dX11_fault_4 : decode cX11_fault 4 = .ok (.invokevirtual 111, 3) := by decide +kernel
theorem dX11_fault_7 : decode cX11_fault 7 = .ok (.ireturn, 1) := by decide +kernel
theorem dX11_desk_0 : decode cX11_desk 0 = .ok (.aload_n 0, 1) := by decide +kernel
theorem dX11_desk_1 : decode cX11_desk 1 = .ok (.getfield 41, 3) := by decide +kernel
theorem dX11_desk_4 : decode cX11_desk 4 = .ok (.invokevirtual 111, 3) := by decide +kernel
theorem dX11_desk_7 : decode cX11_desk 7 = .ok (.iconst (-1), 1) := by decide +kernel
theorem dX11_desk_8 : decode cX11_desk 8 = .ok (.if_icmp .eq 7, 3) := by decide +kernel
theorem dX11_desk_11 : decode cX11_desk 11 = .ok (.sipush (-1003), 3) := by decide +kernel
theorem dX11_desk_14 : decode cX11_desk 14 = .ok (.ireturn, 1) := by decide +kernel
theorem dX11_desk_15 : decode cX11_desk 15 = .ok (.aload_n 0, 1) := by decide +kernel
theorem dX11_desk_16 : decode cX11_desk 16 = .ok (.getfield 41, 3) := by decide +kernel
theorem dX11_desk_19 : decode cX11_desk 19 = .ok (.invokevirtual 114, 3) := by decide +kernel
theorem dX11_desk_22 : decode cX11_desk 22 = .ok (.istore_n 1, 1) := by decide +kernel
theorem dX11_desk_23 : decode cX11_desk 23 = .ok (.iconst 0, 1) := by decide +kernel
theorem dX11_desk_24 : decode cX11_desk 24 = .ok (.istore_n 2, 1) := by decide +kernel
theorem dX11_desk_25 : decode cX11_desk 25 = .ok (.iload_n 2, 1) := by decide +kernel
theorem dX11_desk_26 : decode cX11_desk 26 = .ok (.iload_n 1, 1) := by decide +kernel
theorem dX11_desk_27 : decode cX11_desk 27 = .ok (.if_icmp .ge 14, 3) := by decide +kernel
theorem dX11_desk_30 : decode cX11_desk 30 = .ok (.aload_n 0, 1) := by decide +kernel
theorem dX11_desk_31 : decode cX11_desk 31 = .ok (.iload_n 2, 1) := by decide +kernel
theorem dX11_desk_32 : decode cX11_desk 32 = .ok (.invokevirtual 117, 3) := by decide +kernel
theorem dX11_desk_35 : decode cX11_desk 35 = .ok (.iinc 2 1, 3) := by decide +kernel
theorem dX11_desk_38 : decode cX11_desk 38 = .ok (.goto (-13), 3) := by decide +kernel
theorem dX11_desk_41 : decode cX11_desk 41 = .ok (.aload_n 0, 1) := by decide +kernel
theorem dX11_desk_42 : decode cX11_desk 42 = .ok (.getfield 41, 3) := by decide +kernel
theorem dX11_desk_45 : decode cX11_desk 45 = .ok (.invokevirtual 108, 3) := by decide +kernel
theorem dX11_desk_48 : decode cX11_desk 48 = .ok (.aload_n 0, 1) := by decide +kernel
theorem dX11_desk_49 : decode cX11_desk 49 = .ok (.getfield 34, 3) := by decide +kernel
theorem dX11_desk_52 : decode cX11_desk 52 = .ok (.invokevirtual 120, 3) := by decide +kernel
theorem dX11_desk_55 : decode cX11_desk 55 = .ok (.iconst 0, 1) := by decide +kernel
theorem dX11_desk_56 : decode cX11_desk 56 = .ok (.istore_n 2, 1) := by decide +kernel
theorem dX11_desk_57 : decode cX11_desk 57 = .ok (.iload_n 2, 1) := by decide +kernel
theorem dX11_desk_58 : decode cX11_desk 58 = .ok (.iconst 2, 1) := by decide +kernel
theorem dX11_desk_59 : decode cX11_desk 59 = .ok (.if_icmp .ge 18, 3) := by decide +kernel
theorem dX11_desk_62 : decode cX11_desk 62 = .ok (.aload_n 0, 1) := by decide +kernel
theorem dX11_desk_63 : decode cX11_desk 63 = .ok (.getfield 19, 3) := by decide +kernel
theorem dX11_desk_66 : decode cX11_desk 66 = .ok (.iload_n 2, 1) := by decide +kernel
theorem dX11_desk_67 : decode cX11_desk 67 = .ok (.aaload, 1) := by decide +kernel
theorem dX11_desk_68 : decode cX11_desk 68 = .ok (.invokevirtual 121, 3) := by decide +kernel
theorem dX11_desk_71 : decode cX11_desk 71 = .ok (.iinc 2 1, 3) := by decide +kernel
theorem dX11_desk_74 : decode cX11_desk 74 = .ok (.goto (-17), 3) := by decide +kernel
theorem dX11_desk_77 : decode cX11_desk 77 = .ok (.iconst 0, 1) := by decide +kernel
theorem dX11_desk_78 : decode cX11_desk 78 = .ok (.istore_n 2, 1) := by decide +kernel
theorem dX11_desk_79 : decode cX11_desk 79 = .ok (.iload_n 2, 1) := by decide +kernel
theorem dX11_desk_80 : decode cX11_desk 80 = .ok (.iconst 3, 1) := by decide +kernel
theorem dX11_desk_81 : decode cX11_desk 81 = .ok (.if_icmp .ge 18, 3) := by decide +kernel
theorem dX11_desk_84 : decode cX11_desk 84 = .ok (.aload_n 0, 1) := by decide +kernel
theorem dX11_desk_85 : decode cX11_desk 85 = .ok (.getfield 26, 3) := by decide +kernel
theorem dX11_desk_88 : decode cX11_desk 88 = .ok (.iload_n 2, 1) := by decide +kernel
theorem dX11_desk_89 : decode cX11_desk 89 = .ok (.aaload, 1) := by decide +kernel
theorem dX11_desk_90 : decode cX11_desk 90 = .ok (.invokevirtual 122, 3) := by decide +kernel
theorem dX11_desk_93 : decode cX11_desk 93 = .ok (.iinc 2 1, 3) := by decide +kernel
theorem dX11_desk_96 : decode cX11_desk 96 = .ok (.goto (-17), 3) := by decide +kernel
theorem dX11_desk_99 : decode cX11_desk 99 = .ok (.iload_n 1, 1) := by decide +kernel
theorem dX11_desk_100 : decode cX11_desk 100 = .ok (.ireturn, 1) := by decide +kernel
theorem dX11_number_0 : decode cX11_number 0 = .ok (.iload_n 1, 1) := by decide +kernel
theorem dX11_number_1 : decode cX11_number 1 = .ok (.invokestatic 125, 3) := by decide +kernel
theorem dX11_number_4 : decode cX11_number 4 = .ok (.ifCond .ne 7, 3) := by decide +kernel
theorem dX11_number_7 : decode cX11_number 7 = .ok (.sipush (-1001), 3) := by decide +kernel
theorem dX11_number_10 : decode cX11_number 10 = .ok (.ireturn, 1) := by decide +kernel
theorem dX11_number_11 : decode cX11_number 11 = .ok (.iload_n 2, 1) := by decide +kernel
theorem dX11_number_12 : decode cX11_number 12 = .ok (.invokestatic 129, 3) := by decide +kernel
theorem dX11_number_15 : decode cX11_number 15 = .ok (.ifCond .ne 7, 3) := by decide +kernel
theorem dX11_number_18 : decode cX11_number 18 = .ok (.sipush (-1002), 3) := by decide +kernel
theorem dX11_number_21 : decode cX11_number 21 = .ok (.ireturn, 1) := by decide +kernel
theorem dX11_number_22 : decode cX11_number 22 = .ok (.aload_n 0, 1) := by decide +kernel
theorem dX11_number_23 : decode cX11_number 23 = .ok (.getfield 13, 3) := by decide +kernel
theorem dX11_number_26 : decode cX11_number 26 = .ok (.iload_n 1, 1) := by decide +kernel
theorem dX11_number_27 : decode cX11_number 27 = .ok (.aaload, 1) := by decide +kernel
theorem dX11_number_28 : decode cX11_number 28 = .ok (.iload_n 2, 1) := by decide +kernel
theorem dX11_number_29 : decode cX11_number 29 = .ok (.invokevirtual 132, 3) := by decide +kernel
theorem dX11_number_32 : decode cX11_number 32 = .ok (.ireturn, 1) := by decide +kernel
theorem dX11_of_0 : decode cX11_of 0 = .ok (.iload_n 1, 1) := by decide +kernel
theorem dX11_of_1 : decode cX11_of 1 = .ok (.invokestatic 125, 3) := by decide +kernel
theorem dX11_of_4 : decode cX11_of 4 = .ok (.ifCond .ne 7, 3) := by decide +kernel
theorem dX11_of_7 : decode cX11_of 7 = .ok (.sipush (-1001), 3) := by decide +kernel
theorem dX11_of_10 : decode cX11_of 10 = .ok (.ireturn, 1) := by decide +kernel
theorem dX11_of_11 : decode cX11_of 11 = .ok (.iload_n 2, 1) := by decide +kernel
theorem dX11_of_12 : decode cX11_of 12 = .ok (.ifCond .lt 8, 3) := by decide +kernel
theorem dX11_of_15 : decode cX11_of 15 = .ok (.iload_n 2, 1) := by decide +kernel
theorem dX11_of_16 : decode cX11_of 16 = .ok (.iconst 5, 1) := by decide +kernel
theorem dX11_of_17 : decode cX11_of 17 = .ok (.if_icmp .le 7, 3) := by decide +kernel
theorem dX11_of_20 : decode cX11_of 20 = .ok (.sipush (-1002), 3) := by decide +kernel
theorem dX11_of_23 : decode cX11_of 23 = .ok (.ireturn, 1) := by decide +kernel
theorem dX11_of_24 : decode cX11_of 24 = .ok (.aload_n 0, 1) := by decide +kernel
theorem dX11_of_25 : decode cX11_of 25 = .ok (.getfield 13, 3) := by decide +kernel
theorem dX11_of_28 : decode cX11_of 28 = .ok (.iload_n 1, 1) := by decide +kernel
theorem dX11_of_29 : decode cX11_of 29 = .ok (.aaload, 1) := by decide +kernel
theorem dX11_of_30 : decode cX11_of 30 = .ok (.astore_n 3, 1) := by decide +kernel
theorem dX11_of_31 : decode cX11_of 31 = .ok (.iload_n 2, 1) := by decide +kernel
theorem dX11_of_32 : decode cX11_of 32 = .ok (.iconst 3, 1) := by decide +kernel
theorem dX11_of_33 : decode cX11_of 33 = .ok (.if_icmp .lt 14, 3) := by decide +kernel
theorem dX11_of_36 : decode cX11_of 36 = .ok (.aload_n 3, 1) := by decide +kernel
theorem dX11_of_37 : decode cX11_of 37 = .ok (.invokevirtual 136, 3) := by decide +kernel
theorem dX11_of_40 : decode cX11_of 40 = .ok (.ifCond .eq 7, 3) := by decide +kernel
theorem dX11_of_43 : decode cX11_of 43 = .ok (.sipush (-1003), 3) := by decide +kernel
theorem dX11_of_46 : decode cX11_of 46 = .ok (.ireturn, 1) := by decide +kernel
theorem dX11_of_47 : decode cX11_of 47 = .ok (.iload_n 2, 1) := by decide +kernel
theorem dX11_of_48 : decode cX11_of 48 = .ok (.tableswitch 73 0 4 #[36, 41, 47, 60, 65], 36) := by decide +kernel
theorem dX11_of_84 : decode cX11_of 84 = .ok (.aload_n 3, 1) := by decide +kernel
theorem dX11_of_85 : decode cX11_of 85 = .ok (.invokevirtual 139, 3) := by decide +kernel
theorem dX11_of_88 : decode cX11_of 88 = .ok (.ireturn, 1) := by decide +kernel
theorem dX11_of_89 : decode cX11_of 89 = .ok (.aload_n 0, 1) := by decide +kernel
theorem dX11_of_90 : decode cX11_of 90 = .ok (.aload_n 3, 1) := by decide +kernel
theorem dX11_of_91 : decode cX11_of 91 = .ok (.invokevirtual 142, 3) := by decide +kernel
theorem dX11_of_94 : decode cX11_of 94 = .ok (.ireturn, 1) := by decide +kernel
theorem dX11_of_95 : decode cX11_of 95 = .ok (.aload_n 3, 1) := by decide +kernel
theorem dX11_of_96 : decode cX11_of 96 = .ok (.invokevirtual 146, 3) := by decide +kernel
theorem dX11_of_99 : decode cX11_of 99 = .ok (.ifCond .eq 7, 3) := by decide +kernel
theorem dX11_of_102 : decode cX11_of 102 = .ok (.iconst 1, 1) := by decide +kernel
theorem dX11_of_103 : decode cX11_of 103 = .ok (.goto 4, 3) := by decide +kernel
theorem dX11_of_106 : decode cX11_of 106 = .ok (.iconst 0, 1) := by decide +kernel
theorem dX11_of_107 : decode cX11_of 107 = .ok (.ireturn, 1) := by decide +kernel
theorem dX11_of_108 : decode cX11_of 108 = .ok (.aload_n 3, 1) := by decide +kernel
theorem dX11_of_109 : decode cX11_of 109 = .ok (.invokevirtual 149, 3) := by decide +kernel
theorem dX11_of_112 : decode cX11_of 112 = .ok (.ireturn, 1) := by decide +kernel
theorem dX11_of_113 : decode cX11_of 113 = .ok (.aload_n 3, 1) := by decide +kernel
theorem dX11_of_114 : decode cX11_of 114 = .ok (.invokevirtual 139, 3) := by decide +kernel
theorem dX11_of_117 : decode cX11_of 117 = .ok (.invokestatic 152, 3) := by decide +kernel
theorem dX11_of_120 : decode cX11_of 120 = .ok (.ireturn, 1) := by decide +kernel
theorem dX11_of_121 : decode cX11_of 121 = .ok (.aload_n 0, 1) := by decide +kernel
theorem dX11_of_122 : decode cX11_of 122 = .ok (.getfield 71, 3) := by decide +kernel
theorem dX11_of_125 : decode cX11_of 125 = .ok (.aload_n 3, 1) := by decide +kernel
theorem dX11_of_126 : decode cX11_of 126 = .ok (.iconst 0, 1) := by decide +kernel
theorem dX11_of_127 : decode cX11_of 127 = .ok (.invokestatic 155, 3) := by decide +kernel
theorem dX11_of_130 : decode cX11_of 130 = .ok (.ireturn, 1) := by decide +kernel
theorem dX11_unit_0 : decode cX11_unit 0 = .ok (.iload_n 1, 1) := by decide +kernel
theorem dX11_unit_1 : decode cX11_unit 1 = .ok (.invokestatic 159, 3) := by decide +kernel
theorem dX11_unit_4 : decode cX11_unit 4 = .ok (.ifCond .ne 7, 3) := by decide +kernel
theorem dX11_unit_7 : decode cX11_unit 7 = .ok (.sipush (-1001), 3) := by decide +kernel
theorem dX11_unit_10 : decode cX11_unit 10 = .ok (.ireturn, 1) := by decide +kernel
theorem dX11_unit_11 : decode cX11_unit 11 = .ok (.iload_n 2, 1) := by decide +kernel
theorem dX11_unit_12 : decode cX11_unit 12 = .ok (.invokestatic 129, 3) := by decide +kernel
theorem dX11_unit_15 : decode cX11_unit 15 = .ok (.ifCond .ne 7, 3) := by decide +kernel
theorem dX11_unit_18 : decode cX11_unit 18 = .ok (.sipush (-1002), 3) := by decide +kernel
theorem dX11_unit_21 : decode cX11_unit 21 = .ok (.ireturn, 1) := by decide +kernel
theorem dX11_unit_22 : decode cX11_unit 22 = .ok (.getstatic 162, 3) := by decide +kernel
theorem dX11_unit_25 : decode cX11_unit 25 = .ok (.iconst 4, 1) := by decide +kernel
theorem dX11_unit_26 : decode cX11_unit 26 = .ok (.iload_n 1, 1) := by decide +kernel
theorem dX11_unit_27 : decode cX11_unit 27 = .ok (.imul, 1) := by decide +kernel
theorem dX11_unit_28 : decode cX11_unit 28 = .ok (.iload_n 2, 1) := by decide +kernel
theorem dX11_unit_29 : decode cX11_unit 29 = .ok (.iadd, 1) := by decide +kernel
theorem dX11_unit_30 : decode cX11_unit 30 = .ok (.iaload, 1) := by decide +kernel
theorem dX11_unit_31 : decode cX11_unit 31 = .ok (.ireturn, 1) := by decide +kernel
theorem dX11_set_0 : decode cX11_set 0 = .ok (.iload_n 1, 1) := by decide +kernel
theorem dX11_set_1 : decode cX11_set 1 = .ok (.invokestatic 125, 3) := by decide +kernel
theorem dX11_set_4 : decode cX11_set 4 = .ok (.ifCond .ne 7, 3) := by decide +kernel
theorem dX11_set_7 : decode cX11_set 7 = .ok (.sipush (-1001), 3) := by decide +kernel
theorem dX11_set_10 : decode cX11_set 10 = .ok (.ireturn, 1) := by decide +kernel
theorem dX11_set_11 : decode cX11_set 11 = .ok (.iload_n 2, 1) := by decide +kernel
theorem dX11_set_12 : decode cX11_set 12 = .ok (.invokestatic 166, 3) := by decide +kernel
theorem dX11_set_15 : decode cX11_set 15 = .ok (.ifCond .eq 26, 3) := by decide +kernel
theorem dX11_set_18 : decode cX11_set 18 = .ok (.iload_n 3, 1) := by decide +kernel
theorem dX11_set_19 : decode cX11_set 19 = .ok (.invokestatic 166, 3) := by decide +kernel
theorem dX11_set_22 : decode cX11_set 22 = .ok (.ifCond .eq 19, 3) := by decide +kernel
theorem dX11_set_25 : decode cX11_set 25 = .ok (.iload 4, 2) := by decide +kernel
theorem dX11_set_27 : decode cX11_set 27 = .ok (.invokestatic 166, 3) := by decide +kernel
theorem dX11_set_30 : decode cX11_set 30 = .ok (.ifCond .eq 11, 3) := by decide +kernel
theorem dX11_set_33 : decode cX11_set 33 = .ok (.iload 5, 2) := by decide +kernel
theorem dX11_set_35 : decode cX11_set 35 = .ok (.invokestatic 166, 3) := by decide +kernel
theorem dX11_set_38 : decode cX11_set 38 = .ok (.ifCond .ne 7, 3) := by decide +kernel
theorem dX11_set_41 : decode cX11_set 41 = .ok (.sipush (-1002), 3) := by decide +kernel
theorem dX11_set_44 : decode cX11_set 44 = .ok (.ireturn, 1) := by decide +kernel
theorem dX11_set_45 : decode cX11_set 45 = .ok (.iload_n 2, 1) := by decide +kernel
theorem dX11_set_46 : decode cX11_set 46 = .ok (.iload_n 3, 1) := by decide +kernel
theorem dX11_set_47 : decode cX11_set 47 = .ok (.ixor, 1) := by decide +kernel
theorem dX11_set_48 : decode cX11_set 48 = .ok (.iconst 1, 1) := by decide +kernel
theorem dX11_set_49 : decode cX11_set 49 = .ok (.iand, 1) := by decide +kernel
theorem dX11_set_50 : decode cX11_set 50 = .ok (.ifCond .ne 21, 3) := by decide +kernel
theorem dX11_set_53 : decode cX11_set 53 = .ok (.iload_n 2, 1) := by decide +kernel
theorem dX11_set_54 : decode cX11_set 54 = .ok (.iload 4, 2) := by decide +kernel
theorem dX11_set_56 : decode cX11_set 56 = .ok (.ixor, 1) := by decide +kernel
theorem dX11_set_57 : decode cX11_set 57 = .ok (.iconst 1, 1) := by decide +kernel
theorem dX11_set_58 : decode cX11_set 58 = .ok (.iand, 1) := by decide +kernel
theorem dX11_set_59 : decode cX11_set 59 = .ok (.ifCond .ne 12, 3) := by decide +kernel
theorem dX11_set_62 : decode cX11_set 62 = .ok (.iload_n 2, 1) := by decide +kernel
theorem dX11_set_63 : decode cX11_set 63 = .ok (.iload 5, 2) := by decide +kernel
theorem dX11_set_65 : decode cX11_set 65 = .ok (.ixor, 1) := by decide +kernel
theorem dX11_set_66 : decode cX11_set 66 = .ok (.iconst 1, 1) := by decide +kernel
theorem dX11_set_67 : decode cX11_set 67 = .ok (.iand, 1) := by decide +kernel
theorem dX11_set_68 : decode cX11_set 68 = .ok (.ifCond .eq 7, 3) := by decide +kernel
theorem dX11_set_71 : decode cX11_set 71 = .ok (.sipush (-1002), 3) := by decide +kernel
theorem dX11_set_74 : decode cX11_set 74 = .ok (.ireturn, 1) := by decide +kernel
theorem dX11_set_75 : decode cX11_set 75 = .ok (.aload_n 0, 1) := by decide +kernel
theorem dX11_set_76 : decode cX11_set 76 = .ok (.getfield 85, 3) := by decide +kernel
theorem dX11_set_79 : decode cX11_set 79 = .ok (.iload_n 2, 1) := by decide +kernel
theorem dX11_set_80 : decode cX11_set 80 = .ok (.iload_n 3, 1) := by decide +kernel
theorem dX11_set_81 : decode cX11_set 81 = .ok (.iload 4, 2) := by decide +kernel
theorem dX11_set_83 : decode cX11_set 83 = .ok (.iload 5, 2) := by decide +kernel
theorem dX11_set_85 : decode cX11_set 85 = .ok (.invokevirtual 169, 3) := by decide +kernel
theorem dX11_set_88 : decode cX11_set 88 = .ok (.aload_n 0, 1) := by decide +kernel
theorem dX11_set_89 : decode cX11_set 89 = .ok (.getfield 85, 3) := by decide +kernel
theorem dX11_set_92 : decode cX11_set 92 = .ok (.invokevirtual 139, 3) := by decide +kernel
theorem dX11_set_95 : decode cX11_set 95 = .ok (.sipush 150, 3) := by decide +kernel
theorem dX11_set_98 : decode cX11_set 98 = .ok (.if_icmp .le 7, 3) := by decide +kernel
theorem dX11_set_101 : decode cX11_set 101 = .ok (.sipush (-1002), 3) := by decide +kernel
theorem dX11_set_104 : decode cX11_set 104 = .ok (.ireturn, 1) := by decide +kernel
theorem dX11_set_105 : decode cX11_set 105 = .ok (.aload_n 0, 1) := by decide +kernel
theorem dX11_set_106 : decode cX11_set 106 = .ok (.iload_n 1, 1) := by decide +kernel
theorem dX11_set_107 : decode cX11_set 107 = .ok (.aload_n 0, 1) := by decide +kernel
theorem dX11_set_108 : decode cX11_set 108 = .ok (.getfield 85, 3) := by decide +kernel
theorem dX11_set_111 : decode cX11_set 111 = .ok (.invokevirtual 173, 3) := by decide +kernel
theorem dX11_set_114 : decode cX11_set 114 = .ok (.ireturn, 1) := by decide +kernel
theorem dX11_add_0 : decode cX11_add 0 = .ok (.iload_n 1, 1) := by decide +kernel
theorem dX11_add_1 : decode cX11_add 1 = .ok (.invokestatic 125, 3) := by decide +kernel
theorem dX11_add_4 : decode cX11_add 4 = .ok (.ifCond .eq 10, 3) := by decide +kernel
theorem dX11_add_7 : decode cX11_add 7 = .ok (.iload_n 2, 1) := by decide +kernel
theorem dX11_add_8 : decode cX11_add 8 = .ok (.invokestatic 125, 3) := by decide +kernel
theorem dX11_add_11 : decode cX11_add 11 = .ok (.ifCond .ne 7, 3) := by decide +kernel
theorem dX11_add_14 : decode cX11_add 14 = .ok (.sipush (-1001), 3) := by decide +kernel
theorem dX11_add_17 : decode cX11_add 17 = .ok (.ireturn, 1) := by decide +kernel
theorem dX11_add_18 : decode cX11_add 18 = .ok (.aload_n 0, 1) := by decide +kernel
theorem dX11_add_19 : decode cX11_add 19 = .ok (.getfield 85, 3) := by decide +kernel
theorem dX11_add_22 : decode cX11_add 22 = .ok (.aload_n 0, 1) := by decide +kernel
theorem dX11_add_23 : decode cX11_add 23 = .ok (.getfield 13, 3) := by decide +kernel
theorem dX11_add_26 : decode cX11_add 26 = .ok (.iload_n 1, 1) := by decide +kernel
theorem dX11_add_27 : decode cX11_add 27 = .ok (.aaload, 1) := by decide +kernel
theorem dX11_add_28 : decode cX11_add 28 = .ok (.aload_n 0, 1) := by decide +kernel
theorem dX11_add_29 : decode cX11_add 29 = .ok (.getfield 13, 3) := by decide +kernel
theorem dX11_add_32 : decode cX11_add 32 = .ok (.iload_n 2, 1) := by decide +kernel
theorem dX11_add_33 : decode cX11_add 33 = .ok (.aaload, 1) := by decide +kernel
theorem dX11_add_34 : decode cX11_add 34 = .ok (.invokevirtual 177, 3) := by decide +kernel
theorem dX11_add_37 : decode cX11_add 37 = .ok (.aload_n 0, 1) := by decide +kernel
theorem dX11_add_38 : decode cX11_add 38 = .ok (.getfield 85, 3) := by decide +kernel
theorem dX11_add_41 : decode cX11_add 41 = .ok (.invokevirtual 139, 3) := by decide +kernel
theorem dX11_add_44 : decode cX11_add 44 = .ok (.sipush 150, 3) := by decide +kernel
theorem dX11_add_47 : decode cX11_add 47 = .ok (.if_icmp .le 7, 3) := by decide +kernel
theorem dX11_add_50 : decode cX11_add 50 = .ok (.sipush (-1003), 3) := by decide +kernel
theorem dX11_add_53 : decode cX11_add 53 = .ok (.ireturn, 1) := by decide +kernel
theorem dX11_add_54 : decode cX11_add 54 = .ok (.aload_n 0, 1) := by decide +kernel
theorem dX11_add_55 : decode cX11_add 55 = .ok (.iload_n 1, 1) := by decide +kernel
theorem dX11_add_56 : decode cX11_add 56 = .ok (.aload_n 0, 1) := by decide +kernel
theorem dX11_add_57 : decode cX11_add 57 = .ok (.getfield 85, 3) := by decide +kernel
theorem dX11_add_60 : decode cX11_add 60 = .ok (.invokevirtual 173, 3) := by decide +kernel
theorem dX11_add_63 : decode cX11_add 63 = .ok (.ireturn, 1) := by decide +kernel
theorem dX11_times_0 : decode cX11_times 0 = .ok (.iload_n 1, 1) := by decide +kernel
theorem dX11_times_1 : decode cX11_times 1 = .ok (.invokestatic 125, 3) := by decide +kernel
theorem dX11_times_4 : decode cX11_times 4 = .ok (.ifCond .eq 10, 3) := by decide +kernel
theorem dX11_times_7 : decode cX11_times 7 = .ok (.iload_n 2, 1) := by decide +kernel
theorem dX11_times_8 : decode cX11_times 8 = .ok (.invokestatic 125, 3) := by decide +kernel
theorem dX11_times_11 : decode cX11_times 11 = .ok (.ifCond .ne 7, 3) := by decide +kernel
theorem dX11_times_14 : decode cX11_times 14 = .ok (.sipush (-1001), 3) := by decide +kernel
theorem dX11_times_17 : decode cX11_times 17 = .ok (.ireturn, 1) := by decide +kernel
theorem dX11_times_18 : decode cX11_times 18 = .ok (.iload_n 3, 1) := by decide +kernel
theorem dX11_times_19 : decode cX11_times 19 = .ok (.invokestatic 181, 3) := by decide +kernel
theorem dX11_times_22 : decode cX11_times 22 = .ok (.ifCond .ne 7, 3) := by decide +kernel
theorem dX11_times_25 : decode cX11_times 25 = .ok (.sipush (-1002), 3) := by decide +kernel
theorem dX11_times_28 : decode cX11_times 28 = .ok (.ireturn, 1) := by decide +kernel
theorem dX11_times_29 : decode cX11_times 29 = .ok (.aload_n 0, 1) := by decide +kernel
theorem dX11_times_30 : decode cX11_times 30 = .ok (.getfield 85, 3) := by decide +kernel
theorem dX11_times_33 : decode cX11_times 33 = .ok (.aload_n 0, 1) := by decide +kernel
theorem dX11_times_34 : decode cX11_times 34 = .ok (.getfield 13, 3) := by decide +kernel
theorem dX11_times_37 : decode cX11_times 37 = .ok (.iload_n 1, 1) := by decide +kernel
theorem dX11_times_38 : decode cX11_times 38 = .ok (.aaload, 1) := by decide +kernel
theorem dX11_times_39 : decode cX11_times 39 = .ok (.aload_n 0, 1) := by decide +kernel
theorem dX11_times_40 : decode cX11_times 40 = .ok (.getfield 13, 3) := by decide +kernel
theorem dX11_times_43 : decode cX11_times 43 = .ok (.iload_n 2, 1) := by decide +kernel
theorem dX11_times_44 : decode cX11_times 44 = .ok (.aaload, 1) := by decide +kernel
theorem dX11_times_45 : decode cX11_times 45 = .ok (.iload_n 3, 1) := by decide +kernel
theorem dX11_times_46 : decode cX11_times 46 = .ok (.invokevirtual 184, 3) := by decide +kernel
theorem dX11_times_49 : decode cX11_times 49 = .ok (.aload_n 0, 1) := by decide +kernel
theorem dX11_times_50 : decode cX11_times 50 = .ok (.getfield 85, 3) := by decide +kernel
theorem dX11_times_53 : decode cX11_times 53 = .ok (.invokevirtual 139, 3) := by decide +kernel
theorem dX11_times_56 : decode cX11_times 56 = .ok (.sipush 150, 3) := by decide +kernel
theorem dX11_times_59 : decode cX11_times 59 = .ok (.if_icmp .le 7, 3) := by decide +kernel
theorem dX11_times_62 : decode cX11_times 62 = .ok (.sipush (-1003), 3) := by decide +kernel
theorem dX11_times_65 : decode cX11_times 65 = .ok (.ireturn, 1) := by decide +kernel
theorem dX11_times_66 : decode cX11_times 66 = .ok (.aload_n 0, 1) := by decide +kernel
theorem dX11_times_67 : decode cX11_times 67 = .ok (.iload_n 1, 1) := by decide +kernel
theorem dX11_times_68 : decode cX11_times 68 = .ok (.aload_n 0, 1) := by decide +kernel
theorem dX11_times_69 : decode cX11_times 69 = .ok (.getfield 85, 3) := by decide +kernel
theorem dX11_times_72 : decode cX11_times 72 = .ok (.invokevirtual 173, 3) := by decide +kernel
theorem dX11_times_75 : decode cX11_times 75 = .ok (.ireturn, 1) := by decide +kernel
theorem dX11_turn_0 : decode cX11_turn 0 = .ok (.iload_n 1, 1) := by decide +kernel
theorem dX11_turn_1 : decode cX11_turn 1 = .ok (.invokestatic 125, 3) := by decide +kernel
theorem dX11_turn_4 : decode cX11_turn 4 = .ok (.ifCond .ne 7, 3) := by decide +kernel
theorem dX11_turn_7 : decode cX11_turn 7 = .ok (.sipush (-1001), 3) := by decide +kernel
theorem dX11_turn_10 : decode cX11_turn 10 = .ok (.ireturn, 1) := by decide +kernel
theorem dX11_turn_11 : decode cX11_turn 11 = .ok (.iload_n 2, 1) := by decide +kernel
theorem dX11_turn_12 : decode cX11_turn 12 = .ok (.tableswitch 106 0 3 #[32, 48, 69, 90], 32) := by decide +kernel
theorem dX11_turn_44 : decode cX11_turn 44 = .ok (.aload_n 0, 1) := by decide +kernel
theorem dX11_turn_45 : decode cX11_turn 45 = .ok (.getfield 85, 3) := by decide +kernel
theorem dX11_turn_48 : decode cX11_turn 48 = .ok (.aload_n 0, 1) := by decide +kernel
theorem dX11_turn_49 : decode cX11_turn 49 = .ok (.getfield 13, 3) := by decide +kernel
theorem dX11_turn_52 : decode cX11_turn 52 = .ok (.iload_n 1, 1) := by decide +kernel
theorem dX11_turn_53 : decode cX11_turn 53 = .ok (.aaload, 1) := by decide +kernel
theorem dX11_turn_54 : decode cX11_turn 54 = .ok (.invokevirtual 188, 3) := by decide +kernel
theorem dX11_turn_57 : decode cX11_turn 57 = .ok (.goto 65, 3) := by decide +kernel
theorem dX11_turn_60 : decode cX11_turn 60 = .ok (.aload_n 0, 1) := by decide +kernel
theorem dX11_turn_61 : decode cX11_turn 61 = .ok (.getfield 55, 3) := by decide +kernel
theorem dX11_turn_64 : decode cX11_turn 64 = .ok (.aload_n 0, 1) := by decide +kernel
theorem dX11_turn_65 : decode cX11_turn 65 = .ok (.getfield 85, 3) := by decide +kernel
theorem dX11_turn_68 : decode cX11_turn 68 = .ok (.aload_n 0, 1) := by decide +kernel
theorem dX11_turn_69 : decode cX11_turn 69 = .ok (.getfield 13, 3) := by decide +kernel
theorem dX11_turn_72 : decode cX11_turn 72 = .ok (.iload_n 1, 1) := by decide +kernel
theorem dX11_turn_73 : decode cX11_turn 73 = .ok (.aaload, 1) := by decide +kernel
theorem dX11_turn_74 : decode cX11_turn 74 = .ok (.iconst 0, 1) := by decide +kernel
theorem dX11_turn_75 : decode cX11_turn 75 = .ok (.invokevirtual 192, 3) := by decide +kernel
theorem dX11_turn_78 : decode cX11_turn 78 = .ok (.goto 44, 3) := by decide +kernel
theorem dX11_turn_81 : decode cX11_turn 81 = .ok (.aload_n 0, 1) := by decide +kernel
theorem dX11_turn_82 : decode cX11_turn 82 = .ok (.getfield 55, 3) := by decide +kernel
theorem dX11_turn_85 : decode cX11_turn 85 = .ok (.aload_n 0, 1) := by decide +kernel
theorem dX11_turn_86 : decode cX11_turn 86 = .ok (.getfield 85, 3) := by decide +kernel
theorem dX11_turn_89 : decode cX11_turn 89 = .ok (.aload_n 0, 1) := by decide +kernel
theorem dX11_turn_90 : decode cX11_turn 90 = .ok (.getfield 13, 3) := by decide +kernel
theorem dX11_turn_93 : decode cX11_turn 93 = .ok (.iload_n 1, 1) := by decide +kernel
theorem dX11_turn_94 : decode cX11_turn 94 = .ok (.aaload, 1) := by decide +kernel
theorem dX11_turn_95 : decode cX11_turn 95 = .ok (.iconst 1, 1) := by decide +kernel
theorem dX11_turn_96 : decode cX11_turn 96 = .ok (.invokevirtual 192, 3) := by decide +kernel
theorem dX11_turn_99 : decode cX11_turn 99 = .ok (.goto 23, 3) := by decide +kernel
theorem dX11_turn_102 : decode cX11_turn 102 = .ok (.aload_n 0, 1) := by decide +kernel
theorem dX11_turn_103 : decode cX11_turn 103 = .ok (.getfield 85, 3) := by decide +kernel
theorem dX11_turn_106 : decode cX11_turn 106 = .ok (.aload_n 0, 1) := by decide +kernel
theorem dX11_turn_107 : decode cX11_turn 107 = .ok (.getfield 13, 3) := by decide +kernel
theorem dX11_turn_110 : decode cX11_turn 110 = .ok (.iload_n 1, 1) := by decide +kernel
theorem dX11_turn_111 : decode cX11_turn 111 = .ok (.aaload, 1) := by decide +kernel
theorem dX11_turn_112 : decode cX11_turn 112 = .ok (.invokevirtual 195, 3) := by decide +kernel
theorem dX11_turn_115 : decode cX11_turn 115 = .ok (.goto 7, 3) := by decide +kernel
theorem dX11_turn_118 : decode cX11_turn 118 = .ok (.sipush (-1002), 3) := by decide +kernel
theorem dX11_turn_121 : decode cX11_turn 121 = .ok (.ireturn, 1) := by decide +kernel
theorem dX11_turn_122 : decode cX11_turn 122 = .ok (.aload_n 0, 1) := by decide +kernel
theorem dX11_turn_123 : decode cX11_turn 123 = .ok (.iload_n 1, 1) := by decide +kernel
theorem dX11_turn_124 : decode cX11_turn 124 = .ok (.aload_n 0, 1) := by decide +kernel
theorem dX11_turn_125 : decode cX11_turn 125 = .ok (.getfield 85, 3) := by decide +kernel
theorem dX11_turn_128 : decode cX11_turn 128 = .ok (.invokevirtual 173, 3) := by decide +kernel
theorem dX11_turn_131 : decode cX11_turn 131 = .ok (.ireturn, 1) := by decide +kernel
theorem dX11_divide_0 : decode cX11_divide 0 = .ok (.iload_n 1, 1) := by decide +kernel
theorem dX11_divide_1 : decode cX11_divide 1 = .ok (.invokestatic 125, 3) := by decide +kernel
theorem dX11_divide_4 : decode cX11_divide 4 = .ok (.ifCond .eq 10, 3) := by decide +kernel
theorem dX11_divide_7 : decode cX11_divide 7 = .ok (.iload_n 2, 1) := by decide +kernel
theorem dX11_divide_8 : decode cX11_divide 8 = .ok (.invokestatic 125, 3) := by decide +kernel
theorem dX11_divide_11 : decode cX11_divide 11 = .ok (.ifCond .ne 7, 3) := by decide +kernel
theorem dX11_divide_14 : decode cX11_divide 14 = .ok (.sipush (-1001), 3) := by decide +kernel
theorem dX11_divide_17 : decode cX11_divide 17 = .ok (.ireturn, 1) := by decide +kernel
theorem dX11_divide_18 : decode cX11_divide 18 = .ok (.iload_n 3, 1) := by decide +kernel
theorem dX11_divide_19 : decode cX11_divide 19 = .ok (.ifCond .lt 16, 3) := by decide +kernel
theorem dX11_divide_22 : decode cX11_divide 22 = .ok (.iload_n 3, 1) := by decide +kernel
theorem dX11_divide_23 : decode cX11_divide 23 = .ok (.iconst 1, 1) := by decide +kernel
theorem dX11_divide_24 : decode cX11_divide 24 = .ok (.if_icmp .gt 11, 3) := by decide +kernel
theorem dX11_divide_27 : decode cX11_divide 27 = .ok (.iload 4, 2) := by decide +kernel
theorem dX11_divide_29 : decode cX11_divide 29 = .ok (.invokestatic 181, 3) := by decide +kernel
theorem dX11_divide_32 : decode cX11_divide 32 = .ok (.ifCond .ne 7, 3) := by decide +kernel
theorem dX11_divide_35 : decode cX11_divide 35 = .ok (.sipush (-1002), 3) := by decide +kernel
theorem dX11_divide_38 : decode cX11_divide 38 = .ok (.ireturn, 1) := by decide +kernel
theorem dX11_divide_39 : decode cX11_divide 39 = .ok (.aload_n 0, 1) := by decide +kernel
theorem dX11_divide_40 : decode cX11_divide 40 = .ok (.getfield 13, 3) := by decide +kernel
theorem dX11_divide_43 : decode cX11_divide 43 = .ok (.iload_n 2, 1) := by decide +kernel
theorem dX11_divide_44 : decode cX11_divide 44 = .ok (.aaload, 1) := by decide +kernel
theorem dX11_divide_45 : decode cX11_divide 45 = .ok (.invokevirtual 136, 3) := by decide +kernel
theorem dX11_divide_48 : decode cX11_divide 48 = .ok (.ifCond .eq 7, 3) := by decide +kernel
theorem dX11_divide_51 : decode cX11_divide 51 = .ok (.sipush (-1003), 3) := by decide +kernel
theorem dX11_divide_54 : decode cX11_divide 54 = .ok (.ireturn, 1) := by decide +kernel
theorem dX11_divide_55 : decode cX11_divide 55 = .ok (.aload_n 0, 1) := by decide +kernel
theorem dX11_divide_56 : decode cX11_divide 56 = .ok (.getfield 48, 3) := by decide +kernel
theorem dX11_divide_59 : decode cX11_divide 59 = .ok (.aload_n 0, 1) := by decide +kernel
theorem dX11_divide_60 : decode cX11_divide 60 = .ok (.getfield 13, 3) := by decide +kernel
theorem dX11_divide_63 : decode cX11_divide 63 = .ok (.iload_n 1, 1) := by decide +kernel
theorem dX11_divide_64 : decode cX11_divide 64 = .ok (.aaload, 1) := by decide +kernel
theorem dX11_divide_65 : decode cX11_divide 65 = .ok (.aload_n 0, 1) := by decide +kernel
theorem dX11_divide_66 : decode cX11_divide 66 = .ok (.getfield 13, 3) := by decide +kernel
theorem dX11_divide_69 : decode cX11_divide 69 = .ok (.iload_n 2, 1) := by decide +kernel
theorem dX11_divide_70 : decode cX11_divide 70 = .ok (.aaload, 1) := by decide +kernel
theorem dX11_divide_71 : decode cX11_divide 71 = .ok (.iload 4, 2) := by decide +kernel
theorem dX11_divide_73 : decode cX11_divide 73 = .ok (.invokevirtual 198, 3) := by decide +kernel
theorem dX11_divide_76 : decode cX11_divide 76 = .ok (.aload_n 0, 1) := by decide +kernel
theorem dX11_divide_77 : decode cX11_divide 77 = .ok (.iload_n 1, 1) := by decide +kernel
theorem dX11_divide_78 : decode cX11_divide 78 = .ok (.iload_n 3, 1) := by decide +kernel
theorem dX11_divide_79 : decode cX11_divide 79 = .ok (.ifCond .ne 13, 3) := by decide +kernel
theorem dX11_divide_82 : decode cX11_divide 82 = .ok (.aload_n 0, 1) := by decide +kernel
theorem dX11_divide_83 : decode cX11_divide 83 = .ok (.getfield 48, 3) := by decide +kernel
theorem dX11_divide_86 : decode cX11_divide 86 = .ok (.getfield 201, 3) := by decide +kernel
theorem dX11_divide_89 : decode cX11_divide 89 = .ok (.goto 10, 3) := by decide +kernel
theorem dX11_divide_92 : decode cX11_divide 92 = .ok (.aload_n 0, 1) := by decide +kernel
theorem dX11_divide_93 : decode cX11_divide 93 = .ok (.getfield 48, 3) := by decide +kernel
theorem dX11_divide_96 : decode cX11_divide 96 = .ok (.getfield 204, 3) := by decide +kernel
theorem dX11_divide_99 : decode cX11_divide 99 = .ok (.invokevirtual 173, 3) := by decide +kernel
theorem dX11_divide_102 : decode cX11_divide 102 = .ok (.ireturn, 1) := by decide +kernel
theorem dX11_common_0 : decode cX11_common 0 = .ok (.iload_n 1, 1) := by decide +kernel
theorem dX11_common_1 : decode cX11_common 1 = .ok (.invokestatic 125, 3) := by decide +kernel
theorem dX11_common_4 : decode cX11_common 4 = .ok (.ifCond .eq 10, 3) := by decide +kernel
theorem dX11_common_7 : decode cX11_common 7 = .ok (.iload_n 2, 1) := by decide +kernel
theorem dX11_common_8 : decode cX11_common 8 = .ok (.invokestatic 125, 3) := by decide +kernel
theorem dX11_common_11 : decode cX11_common 11 = .ok (.ifCond .ne 7, 3) := by decide +kernel
theorem dX11_common_14 : decode cX11_common 14 = .ok (.sipush (-1001), 3) := by decide +kernel
theorem dX11_common_17 : decode cX11_common 17 = .ok (.ireturn, 1) := by decide +kernel
theorem dX11_common_18 : decode cX11_common 18 = .ok (.iload_n 3, 1) := by decide +kernel
theorem dX11_common_19 : decode cX11_common 19 = .ok (.invokestatic 181, 3) := by decide +kernel
theorem dX11_common_22 : decode cX11_common 22 = .ok (.ifCond .ne 7, 3) := by decide +kernel
theorem dX11_common_25 : decode cX11_common 25 = .ok (.sipush (-1002), 3) := by decide +kernel
theorem dX11_common_28 : decode cX11_common 28 = .ok (.ireturn, 1) := by decide +kernel
theorem dX11_common_29 : decode cX11_common 29 = .ok (.aload_n 0, 1) := by decide +kernel
theorem dX11_common_30 : decode cX11_common 30 = .ok (.getfield 13, 3) := by decide +kernel
theorem dX11_common_33 : decode cX11_common 33 = .ok (.iload_n 1, 1) := by decide +kernel
theorem dX11_common_34 : decode cX11_common 34 = .ok (.aaload, 1) := by decide +kernel
theorem dX11_common_35 : decode cX11_common 35 = .ok (.invokevirtual 136, 3) := by decide +kernel
theorem dX11_common_38 : decode cX11_common 38 = .ok (.ifCond .eq 19, 3) := by decide +kernel
theorem dX11_common_41 : decode cX11_common 41 = .ok (.aload_n 0, 1) := by decide +kernel
theorem dX11_common_42 : decode cX11_common 42 = .ok (.getfield 13, 3) := by decide +kernel
theorem dX11_common_45 : decode cX11_common 45 = .ok (.iload_n 2, 1) := by decide +kernel
theorem dX11_common_46 : decode cX11_common 46 = .ok (.aaload, 1) := by decide +kernel
theorem dX11_common_47 : decode cX11_common 47 = .ok (.invokevirtual 136, 3) := by decide +kernel
theorem dX11_common_50 : decode cX11_common 50 = .ok (.ifCond .eq 7, 3) := by decide +kernel
theorem dX11_common_53 : decode cX11_common 53 = .ok (.sipush (-1003), 3) := by decide +kernel
theorem dX11_common_56 : decode cX11_common 56 = .ok (.ireturn, 1) := by decide +kernel
theorem dX11_common_57 : decode cX11_common 57 = .ok (.aload_n 0, 1) := by decide +kernel
theorem dX11_common_58 : decode cX11_common 58 = .ok (.getfield 48, 3) := by decide +kernel
theorem dX11_common_61 : decode cX11_common 61 = .ok (.aload_n 0, 1) := by decide +kernel
theorem dX11_common_62 : decode cX11_common 62 = .ok (.getfield 13, 3) := by decide +kernel
theorem dX11_common_65 : decode cX11_common 65 = .ok (.iload_n 1, 1) := by decide +kernel
theorem dX11_common_66 : decode cX11_common 66 = .ok (.aaload, 1) := by decide +kernel
theorem dX11_common_67 : decode cX11_common 67 = .ok (.aload_n 0, 1) := by decide +kernel
theorem dX11_common_68 : decode cX11_common 68 = .ok (.getfield 13, 3) := by decide +kernel
theorem dX11_common_71 : decode cX11_common 71 = .ok (.iload_n 2, 1) := by decide +kernel
theorem dX11_common_72 : decode cX11_common 72 = .ok (.aaload, 1) := by decide +kernel
theorem dX11_common_73 : decode cX11_common 73 = .ok (.iload_n 3, 1) := by decide +kernel
theorem dX11_common_74 : decode cX11_common 74 = .ok (.invokevirtual 207, 3) := by decide +kernel
theorem dX11_common_77 : decode cX11_common 77 = .ok (.pop, 1) := by decide +kernel
theorem dX11_common_78 : decode cX11_common 78 = .ok (.aload_n 0, 1) := by decide +kernel
theorem dX11_common_79 : decode cX11_common 79 = .ok (.getfield 55, 3) := by decide +kernel
theorem dX11_common_82 : decode cX11_common 82 = .ok (.aload_n 0, 1) := by decide +kernel
theorem dX11_common_83 : decode cX11_common 83 = .ok (.getfield 85, 3) := by decide +kernel
theorem dX11_common_86 : decode cX11_common 86 = .ok (.aload_n 0, 1) := by decide +kernel
theorem dX11_common_87 : decode cX11_common 87 = .ok (.getfield 48, 3) := by decide +kernel
theorem dX11_common_90 : decode cX11_common 90 = .ok (.getfield 211, 3) := by decide +kernel
theorem dX11_common_93 : decode cX11_common 93 = .ok (.iload_n 3, 1) := by decide +kernel
theorem dX11_common_94 : decode cX11_common 94 = .ok (.invokevirtual 192, 3) := by decide +kernel
theorem dX11_common_97 : decode cX11_common 97 = .ok (.aload_n 0, 1) := by decide +kernel
theorem dX11_common_98 : decode cX11_common 98 = .ok (.iload_n 1, 1) := by decide +kernel
theorem dX11_common_99 : decode cX11_common 99 = .ok (.aload_n 0, 1) := by decide +kernel
theorem dX11_common_100 : decode cX11_common 100 = .ok (.getfield 85, 3) := by decide +kernel
theorem dX11_common_103 : decode cX11_common 103 = .ok (.invokevirtual 173, 3) := by decide +kernel
theorem dX11_common_106 : decode cX11_common 106 = .ok (.ireturn, 1) := by decide +kernel
theorem dX11_undo_0 : decode cX11_undo 0 = .ok (.aload_n 0, 1) := by decide +kernel
theorem dX11_undo_1 : decode cX11_undo 1 = .ok (.getfield 34, 3) := by decide +kernel
theorem dX11_undo_4 : decode cX11_undo 4 = .ok (.invokevirtual 214, 3) := by decide +kernel
theorem dX11_undo_7 : decode cX11_undo 7 = .ok (.ifCond .ne 7, 3) := by decide +kernel
theorem dX11_undo_10 : decode cX11_undo 10 = .ok (.sipush (-1003), 3) := by decide +kernel
theorem dX11_undo_13 : decode cX11_undo 13 = .ok (.ireturn, 1) := by decide +kernel
theorem dX11_undo_14 : decode cX11_undo 14 = .ok (.aload_n 0, 1) := by decide +kernel
theorem dX11_undo_15 : decode cX11_undo 15 = .ok (.getfield 34, 3) := by decide +kernel
theorem dX11_undo_18 : decode cX11_undo 18 = .ok (.aload_n 0, 1) := by decide +kernel
theorem dX11_undo_19 : decode cX11_undo 19 = .ok (.getfield 85, 3) := by decide +kernel
theorem dX11_undo_22 : decode cX11_undo 22 = .ok (.invokevirtual 215, 3) := by decide +kernel
theorem dX11_undo_25 : decode cX11_undo 25 = .ok (.istore_n 1, 1) := by decide +kernel
theorem dX11_undo_26 : decode cX11_undo 26 = .ok (.iload_n 1, 1) := by decide +kernel
theorem dX11_undo_27 : decode cX11_undo 27 = .ok (.invokestatic 125, 3) := by decide +kernel
theorem dX11_undo_30 : decode cX11_undo 30 = .ok (.ifCond .eq 16, 3) := by decide +kernel
theorem dX11_undo_33 : decode cX11_undo 33 = .ok (.aload_n 0, 1) := by decide +kernel
theorem dX11_undo_34 : decode cX11_undo 34 = .ok (.getfield 13, 3) := by decide +kernel
theorem dX11_undo_37 : decode cX11_undo 37 = .ok (.iload_n 1, 1) := by decide +kernel
theorem dX11_undo_38 : decode cX11_undo 38 = .ok (.aaload, 1) := by decide +kernel
theorem dX11_undo_39 : decode cX11_undo 39 = .ok (.aload_n 0, 1) := by decide +kernel
theorem dX11_undo_40 : decode cX11_undo 40 = .ok (.getfield 85, 3) := by decide +kernel
theorem dX11_undo_43 : decode cX11_undo 43 = .ok (.invokevirtual 218, 3) := by decide +kernel
theorem dX11_undo_46 : decode cX11_undo 46 = .ok (.aload_n 0, 1) := by decide +kernel
theorem dX11_undo_47 : decode cX11_undo 47 = .ok (.getfield 34, 3) := by decide +kernel
theorem dX11_undo_50 : decode cX11_undo 50 = .ok (.invokevirtual 214, 3) := by decide +kernel
theorem dX11_undo_53 : decode cX11_undo 53 = .ok (.ireturn, 1) := by decide +kernel
theorem dX11_keep_0 : decode cX11_keep 0 = .ok (.iload_n 1, 1) := by decide +kernel
theorem dX11_keep_1 : decode cX11_keep 1 = .ok (.ifCond .lt 8, 3) := by decide +kernel
theorem dX11_keep_4 : decode cX11_keep 4 = .ok (.iload_n 1, 1) := by decide +kernel
theorem dX11_keep_5 : decode cX11_keep 5 = .ok (.iconst 2, 1) := by decide +kernel
theorem dX11_keep_6 : decode cX11_keep 6 = .ok (.if_icmp .lt 7, 3) := by decide +kernel
theorem dX11_keep_9 : decode cX11_keep 9 = .ok (.sipush (-1002), 3) := by decide +kernel
theorem dX11_keep_12 : decode cX11_keep 12 = .ok (.ireturn, 1) := by decide +kernel
theorem dX11_keep_13 : decode cX11_keep 13 = .ok (.aload_n 0, 1) := by decide +kernel
theorem dX11_keep_14 : decode cX11_keep 14 = .ok (.getfield 19, 3) := by decide +kernel
theorem dX11_keep_17 : decode cX11_keep 17 = .ok (.iload_n 1, 1) := by decide +kernel
theorem dX11_keep_18 : decode cX11_keep 18 = .ok (.aaload, 1) := by decide +kernel
theorem dX11_keep_19 : decode cX11_keep 19 = .ok (.aload_n 0, 1) := by decide +kernel
theorem dX11_keep_20 : decode cX11_keep 20 = .ok (.getfield 13, 3) := by decide +kernel
theorem dX11_keep_23 : decode cX11_keep 23 = .ok (.invokevirtual 221, 3) := by decide +kernel
theorem dX11_keep_26 : decode cX11_keep 26 = .ok (.aload_n 0, 1) := by decide +kernel
theorem dX11_keep_27 : decode cX11_keep 27 = .ok (.invokevirtual 225, 3) := by decide +kernel
theorem dX11_keep_30 : decode cX11_keep 30 = .ok (.ireturn, 1) := by decide +kernel
theorem dX11_back_0 : decode cX11_back 0 = .ok (.iload_n 1, 1) := by decide +kernel
theorem dX11_back_1 : decode cX11_back 1 = .ok (.ifCond .lt 8, 3) := by decide +kernel
theorem dX11_back_4 : decode cX11_back 4 = .ok (.iload_n 1, 1) := by decide +kernel
theorem dX11_back_5 : decode cX11_back 5 = .ok (.iconst 2, 1) := by decide +kernel
theorem dX11_back_6 : decode cX11_back 6 = .ok (.if_icmp .lt 7, 3) := by decide +kernel
theorem dX11_back_9 : decode cX11_back 9 = .ok (.sipush (-1002), 3) := by decide +kernel
theorem dX11_back_12 : decode cX11_back 12 = .ok (.ireturn, 1) := by decide +kernel
theorem dX11_back_13 : decode cX11_back 13 = .ok (.aload_n 0, 1) := by decide +kernel
theorem dX11_back_14 : decode cX11_back 14 = .ok (.getfield 19, 3) := by decide +kernel
theorem dX11_back_17 : decode cX11_back 17 = .ok (.iload_n 1, 1) := by decide +kernel
theorem dX11_back_18 : decode cX11_back 18 = .ok (.aaload, 1) := by decide +kernel
theorem dX11_back_19 : decode cX11_back 19 = .ok (.invokevirtual 228, 3) := by decide +kernel
theorem dX11_back_22 : decode cX11_back 22 = .ok (.ifCond .ne 7, 3) := by decide +kernel
theorem dX11_back_25 : decode cX11_back 25 = .ok (.sipush (-1003), 3) := by decide +kernel
theorem dX11_back_28 : decode cX11_back 28 = .ok (.ireturn, 1) := by decide +kernel
theorem dX11_back_29 : decode cX11_back 29 = .ok (.aload_n 0, 1) := by decide +kernel
theorem dX11_back_30 : decode cX11_back 30 = .ok (.getfield 19, 3) := by decide +kernel
theorem dX11_back_33 : decode cX11_back 33 = .ok (.iload_n 1, 1) := by decide +kernel
theorem dX11_back_34 : decode cX11_back 34 = .ok (.aaload, 1) := by decide +kernel
theorem dX11_back_35 : decode cX11_back 35 = .ok (.aload_n 0, 1) := by decide +kernel
theorem dX11_back_36 : decode cX11_back 36 = .ok (.getfield 13, 3) := by decide +kernel
theorem dX11_back_39 : decode cX11_back 39 = .ok (.invokevirtual 231, 3) := by decide +kernel
theorem dX11_back_42 : decode cX11_back 42 = .ok (.aload_n 0, 1) := by decide +kernel
theorem dX11_back_43 : decode cX11_back 43 = .ok (.getfield 34, 3) := by decide +kernel
theorem dX11_back_46 : decode cX11_back 46 = .ok (.invokevirtual 120, 3) := by decide +kernel
theorem dX11_back_49 : decode cX11_back 49 = .ok (.aload_n 0, 1) := by decide +kernel
theorem dX11_back_50 : decode cX11_back 50 = .ok (.invokevirtual 225, 3) := by decide +kernel
theorem dX11_back_53 : decode cX11_back 53 = .ok (.ireturn, 1) := by decide +kernel
theorem dX11_divides_0 : decode cX11_divides 0 = .ok (.iload_n 1, 1) := by decide +kernel
theorem dX11_divides_1 : decode cX11_divides 1 = .ok (.invokestatic 125, 3) := by decide +kernel
theorem dX11_divides_4 : decode cX11_divides 4 = .ok (.ifCond .eq 10, 3) := by decide +kernel
theorem dX11_divides_7 : decode cX11_divides 7 = .ok (.iload_n 2, 1) := by decide +kernel
theorem dX11_divides_8 : decode cX11_divides 8 = .ok (.invokestatic 125, 3) := by decide +kernel
theorem dX11_divides_11 : decode cX11_divides 11 = .ok (.ifCond .ne 7, 3) := by decide +kernel
theorem dX11_divides_14 : decode cX11_divides 14 = .ok (.sipush (-1001), 3) := by decide +kernel
theorem dX11_divides_17 : decode cX11_divides 17 = .ok (.ireturn, 1) := by decide +kernel
theorem dX11_divides_18 : decode cX11_divides 18 = .ok (.iload_n 3, 1) := by decide +kernel
theorem dX11_divides_19 : decode cX11_divides 19 = .ok (.invokestatic 181, 3) := by decide +kernel
theorem dX11_divides_22 : decode cX11_divides 22 = .ok (.ifCond .ne 7, 3) := by decide +kernel
theorem dX11_divides_25 : decode cX11_divides 25 = .ok (.sipush (-1002), 3) := by decide +kernel
theorem dX11_divides_28 : decode cX11_divides 28 = .ok (.ireturn, 1) := by decide +kernel
theorem dX11_divides_29 : decode cX11_divides 29 = .ok (.aload_n 0, 1) := by decide +kernel
theorem dX11_divides_30 : decode cX11_divides 30 = .ok (.getfield 48, 3) := by decide +kernel
theorem dX11_divides_33 : decode cX11_divides 33 = .ok (.aload_n 0, 1) := by decide +kernel
theorem dX11_divides_34 : decode cX11_divides 34 = .ok (.getfield 13, 3) := by decide +kernel
theorem dX11_divides_37 : decode cX11_divides 37 = .ok (.iload_n 1, 1) := by decide +kernel
theorem dX11_divides_38 : decode cX11_divides 38 = .ok (.aaload, 1) := by decide +kernel
theorem dX11_divides_39 : decode cX11_divides 39 = .ok (.aload_n 0, 1) := by decide +kernel
theorem dX11_divides_40 : decode cX11_divides 40 = .ok (.getfield 13, 3) := by decide +kernel
theorem dX11_divides_43 : decode cX11_divides 43 = .ok (.iload_n 2, 1) := by decide +kernel
theorem dX11_divides_44 : decode cX11_divides 44 = .ok (.aaload, 1) := by decide +kernel
theorem dX11_divides_45 : decode cX11_divides 45 = .ok (.iload_n 3, 1) := by decide +kernel
theorem dX11_divides_46 : decode cX11_divides 46 = .ok (.invokevirtual 234, 3) := by decide +kernel
theorem dX11_divides_49 : decode cX11_divides 49 = .ok (.ifCond .eq 7, 3) := by decide +kernel
theorem dX11_divides_52 : decode cX11_divides 52 = .ok (.iconst 1, 1) := by decide +kernel
theorem dX11_divides_53 : decode cX11_divides 53 = .ok (.goto 4, 3) := by decide +kernel
theorem dX11_divides_56 : decode cX11_divides 56 = .ok (.iconst 0, 1) := by decide +kernel
theorem dX11_divides_57 : decode cX11_divides 57 = .ok (.ireturn, 1) := by decide +kernel
theorem dX11_nearest_0 : decode cX11_nearest 0 = .ok (.iload_n 1, 1) := by decide +kernel
theorem dX11_nearest_1 : decode cX11_nearest 1 = .ok (.invokestatic 125, 3) := by decide +kernel
theorem dX11_nearest_4 : decode cX11_nearest 4 = .ok (.ifCond .eq 10, 3) := by decide +kernel
theorem dX11_nearest_7 : decode cX11_nearest 7 = .ok (.iload_n 2, 1) := by decide +kernel
theorem dX11_nearest_8 : decode cX11_nearest 8 = .ok (.invokestatic 125, 3) := by decide +kernel
theorem dX11_nearest_11 : decode cX11_nearest 11 = .ok (.ifCond .ne 7, 3) := by decide +kernel
theorem dX11_nearest_14 : decode cX11_nearest 14 = .ok (.sipush (-1001), 3) := by decide +kernel
theorem dX11_nearest_17 : decode cX11_nearest 17 = .ok (.ireturn, 1) := by decide +kernel
theorem dX11_nearest_18 : decode cX11_nearest 18 = .ok (.iload_n 3, 1) := by decide +kernel
theorem dX11_nearest_19 : decode cX11_nearest 19 = .ok (.invokestatic 181, 3) := by decide +kernel
theorem dX11_nearest_22 : decode cX11_nearest 22 = .ok (.ifCond .eq 15, 3) := by decide +kernel
theorem dX11_nearest_25 : decode cX11_nearest 25 = .ok (.iload 4, 2) := by decide +kernel
theorem dX11_nearest_27 : decode cX11_nearest 27 = .ok (.ifCond .lt 10, 3) := by decide +kernel
theorem dX11_nearest_30 : decode cX11_nearest 30 = .ok (.iload 4, 2) := by decide +kernel
theorem dX11_nearest_32 : decode cX11_nearest 32 = .ok (.bipush 8, 2) := by decide +kernel
theorem dX11_nearest_34 : decode cX11_nearest 34 = .ok (.if_icmp .le 7, 3) := by decide +kernel
theorem dX11_nearest_37 : decode cX11_nearest 37 = .ok (.sipush (-1002), 3) := by decide +kernel
theorem dX11_nearest_40 : decode cX11_nearest 40 = .ok (.ireturn, 1) := by decide +kernel
theorem dX11_nearest_41 : decode cX11_nearest 41 = .ok (.aload_n 0, 1) := by decide +kernel
theorem dX11_nearest_42 : decode cX11_nearest 42 = .ok (.getfield 13, 3) := by decide +kernel
theorem dX11_nearest_45 : decode cX11_nearest 45 = .ok (.iload_n 2, 1) := by decide +kernel
theorem dX11_nearest_46 : decode cX11_nearest 46 = .ok (.aaload, 1) := by decide +kernel
theorem dX11_nearest_47 : decode cX11_nearest 47 = .ok (.invokevirtual 136, 3) := by decide +kernel
theorem dX11_nearest_50 : decode cX11_nearest 50 = .ok (.ifCond .eq 7, 3) := by decide +kernel
theorem dX11_nearest_53 : decode cX11_nearest 53 = .ok (.sipush (-1003), 3) := by decide +kernel
theorem dX11_nearest_56 : decode cX11_nearest 56 = .ok (.ireturn, 1) := by decide +kernel
theorem dX11_nearest_57 : decode cX11_nearest 57 = .ok (.aload_n 0, 1) := by decide +kernel
theorem dX11_nearest_58 : decode cX11_nearest 58 = .ok (.getfield 48, 3) := by decide +kernel
theorem dX11_nearest_61 : decode cX11_nearest 61 = .ok (.aload_n 0, 1) := by decide +kernel
theorem dX11_nearest_62 : decode cX11_nearest 62 = .ok (.getfield 13, 3) := by decide +kernel
theorem dX11_nearest_65 : decode cX11_nearest 65 = .ok (.iload_n 1, 1) := by decide +kernel
theorem dX11_nearest_66 : decode cX11_nearest 66 = .ok (.aaload, 1) := by decide +kernel
theorem dX11_nearest_67 : decode cX11_nearest 67 = .ok (.aload_n 0, 1) := by decide +kernel
theorem dX11_nearest_68 : decode cX11_nearest 68 = .ok (.getfield 13, 3) := by decide +kernel
theorem dX11_nearest_71 : decode cX11_nearest 71 = .ok (.iload_n 2, 1) := by decide +kernel
theorem dX11_nearest_72 : decode cX11_nearest 72 = .ok (.aaload, 1) := by decide +kernel
theorem dX11_nearest_73 : decode cX11_nearest 73 = .ok (.iload_n 3, 1) := by decide +kernel
theorem dX11_nearest_74 : decode cX11_nearest 74 = .ok (.invokevirtual 198, 3) := by decide +kernel
theorem dX11_nearest_77 : decode cX11_nearest 77 = .ok (.iload 4, 2) := by decide +kernel
theorem dX11_nearest_79 : decode cX11_nearest 79 = .ok (.bipush 8, 2) := by decide +kernel
theorem dX11_nearest_81 : decode cX11_nearest 81 = .ok (.if_icmp .ne 14, 3) := by decide +kernel
theorem dX11_nearest_84 : decode cX11_nearest 84 = .ok (.aload_n 0, 1) := by decide +kernel
theorem dX11_nearest_85 : decode cX11_nearest 85 = .ok (.getfield 48, 3) := by decide +kernel
theorem dX11_nearest_88 : decode cX11_nearest 88 = .ok (.getfield 204, 3) := by decide +kernel
theorem dX11_nearest_91 : decode cX11_nearest 91 = .ok (.invokevirtual 139, 3) := by decide +kernel
theorem dX11_nearest_94 : decode cX11_nearest 94 = .ok (.ireturn, 1) := by decide +kernel
theorem dX11_nearest_95 : decode cX11_nearest 95 = .ok (.iload 4, 2) := by decide +kernel
theorem dX11_nearest_97 : decode cX11_nearest 97 = .ok (.iconst 4, 1) := by decide +kernel
theorem dX11_nearest_98 : decode cX11_nearest 98 = .ok (.if_icmp .ge 18, 3) := by decide +kernel
theorem dX11_nearest_101 : decode cX11_nearest 101 = .ok (.aload_n 0, 1) := by decide +kernel
theorem dX11_nearest_102 : decode cX11_nearest 102 = .ok (.getfield 48, 3) := by decide +kernel
theorem dX11_nearest_105 : decode cX11_nearest 105 = .ok (.getfield 201, 3) := by decide +kernel
theorem dX11_nearest_108 : decode cX11_nearest 108 = .ok (.iload 4, 2) := by decide +kernel
theorem dX11_nearest_110 : decode cX11_nearest 110 = .ok (.invokevirtual 132, 3) := by decide +kernel
theorem dX11_nearest_113 : decode cX11_nearest 113 = .ok (.goto 17, 3) := by decide +kernel
theorem dX11_nearest_116 : decode cX11_nearest 116 = .ok (.aload_n 0, 1) := by decide +kernel
theorem dX11_nearest_117 : decode cX11_nearest 117 = .ok (.getfield 48, 3) := by decide +kernel
theorem dX11_nearest_120 : decode cX11_nearest 120 = .ok (.getfield 204, 3) := by decide +kernel
theorem dX11_nearest_123 : decode cX11_nearest 123 = .ok (.iload 4, 2) := by decide +kernel
theorem dX11_nearest_125 : decode cX11_nearest 125 = .ok (.iconst 4, 1) := by decide +kernel
theorem dX11_nearest_126 : decode cX11_nearest 126 = .ok (.isub, 1) := by decide +kernel
theorem dX11_nearest_127 : decode cX11_nearest 127 = .ok (.invokevirtual 132, 3) := by decide +kernel
theorem dX11_nearest_130 : decode cX11_nearest 130 = .ok (.ireturn, 1) := by decide +kernel
theorem dX11_steps_0 : decode cX11_steps 0 = .ok (.iload_n 1, 1) := by decide +kernel
theorem dX11_steps_1 : decode cX11_steps 1 = .ok (.invokestatic 125, 3) := by decide +kernel
theorem dX11_steps_4 : decode cX11_steps 4 = .ok (.ifCond .eq 10, 3) := by decide +kernel
theorem dX11_steps_7 : decode cX11_steps 7 = .ok (.iload_n 2, 1) := by decide +kernel
theorem dX11_steps_8 : decode cX11_steps 8 = .ok (.invokestatic 125, 3) := by decide +kernel
theorem dX11_steps_11 : decode cX11_steps 11 = .ok (.ifCond .ne 7, 3) := by decide +kernel
theorem dX11_steps_14 : decode cX11_steps 14 = .ok (.sipush (-1001), 3) := by decide +kernel
theorem dX11_steps_17 : decode cX11_steps 17 = .ok (.ireturn, 1) := by decide +kernel
theorem dX11_steps_18 : decode cX11_steps 18 = .ok (.iload_n 3, 1) := by decide +kernel
theorem dX11_steps_19 : decode cX11_steps 19 = .ok (.invokestatic 181, 3) := by decide +kernel
theorem dX11_steps_22 : decode cX11_steps 22 = .ok (.ifCond .ne 7, 3) := by decide +kernel
theorem dX11_steps_25 : decode cX11_steps 25 = .ok (.sipush (-1002), 3) := by decide +kernel
theorem dX11_steps_28 : decode cX11_steps 28 = .ok (.ireturn, 1) := by decide +kernel
theorem dX11_steps_29 : decode cX11_steps 29 = .ok (.aload_n 0, 1) := by decide +kernel
theorem dX11_steps_30 : decode cX11_steps 30 = .ok (.getfield 48, 3) := by decide +kernel
theorem dX11_steps_33 : decode cX11_steps 33 = .ok (.aload_n 0, 1) := by decide +kernel
theorem dX11_steps_34 : decode cX11_steps 34 = .ok (.getfield 13, 3) := by decide +kernel
theorem dX11_steps_37 : decode cX11_steps 37 = .ok (.iload_n 1, 1) := by decide +kernel
theorem dX11_steps_38 : decode cX11_steps 38 = .ok (.aaload, 1) := by decide +kernel
theorem dX11_steps_39 : decode cX11_steps 39 = .ok (.aload_n 0, 1) := by decide +kernel
theorem dX11_steps_40 : decode cX11_steps 40 = .ok (.getfield 13, 3) := by decide +kernel
theorem dX11_steps_43 : decode cX11_steps 43 = .ok (.iload_n 2, 1) := by decide +kernel
theorem dX11_steps_44 : decode cX11_steps 44 = .ok (.aaload, 1) := by decide +kernel
theorem dX11_steps_45 : decode cX11_steps 45 = .ok (.iload_n 3, 1) := by decide +kernel
theorem dX11_steps_46 : decode cX11_steps 46 = .ok (.invokevirtual 207, 3) := by decide +kernel
theorem dX11_steps_49 : decode cX11_steps 49 = .ok (.ireturn, 1) := by decide +kernel
theorem dX11_mate_0 : decode cX11_mate 0 = .ok (.iload_n 1, 1) := by decide +kernel
theorem dX11_mate_1 : decode cX11_mate 1 = .ok (.invokestatic 125, 3) := by decide +kernel
theorem dX11_mate_4 : decode cX11_mate 4 = .ok (.ifCond .ne 7, 3) := by decide +kernel
theorem dX11_mate_7 : decode cX11_mate 7 = .ok (.sipush (-1001), 3) := by decide +kernel
theorem dX11_mate_10 : decode cX11_mate 10 = .ok (.ireturn, 1) := by decide +kernel
theorem dX11_mate_11 : decode cX11_mate 11 = .ok (.iload_n 2, 1) := by decide +kernel
theorem dX11_mate_12 : decode cX11_mate 12 = .ok (.invokestatic 181, 3) := by decide +kernel
theorem dX11_mate_15 : decode cX11_mate 15 = .ok (.ifCond .eq 18, 3) := by decide +kernel
theorem dX11_mate_18 : decode cX11_mate 18 = .ok (.iload_n 3, 1) := by decide +kernel
theorem dX11_mate_19 : decode cX11_mate 19 = .ok (.invokestatic 159, 3) := by decide +kernel
theorem dX11_mate_22 : decode cX11_mate 22 = .ok (.ifCond .eq 11, 3) := by decide +kernel
theorem dX11_mate_25 : decode cX11_mate 25 = .ok (.iload 4, 2) := by decide +kernel
theorem dX11_mate_27 : decode cX11_mate 27 = .ok (.invokestatic 129, 3) := by decide +kernel
theorem dX11_mate_30 : decode cX11_mate 30 = .ok (.ifCond .ne 7, 3) := by decide +kernel
theorem dX11_mate_33 : decode cX11_mate 33 = .ok (.sipush (-1002), 3) := by decide +kernel
theorem dX11_mate_36 : decode cX11_mate 36 = .ok (.ireturn, 1) := by decide +kernel
theorem dX11_mate_37 : decode cX11_mate 37 = .ok (.aload_n 0, 1) := by decide +kernel
theorem dX11_mate_38 : decode cX11_mate 38 = .ok (.getfield 55, 3) := by decide +kernel
theorem dX11_mate_41 : decode cX11_mate 41 = .ok (.aload_n 0, 1) := by decide +kernel
theorem dX11_mate_42 : decode cX11_mate 42 = .ok (.getfield 85, 3) := by decide +kernel
theorem dX11_mate_45 : decode cX11_mate 45 = .ok (.aload_n 0, 1) := by decide +kernel
theorem dX11_mate_46 : decode cX11_mate 46 = .ok (.getfield 13, 3) := by decide +kernel
theorem dX11_mate_49 : decode cX11_mate 49 = .ok (.iload_n 1, 1) := by decide +kernel
theorem dX11_mate_50 : decode cX11_mate 50 = .ok (.aaload, 1) := by decide +kernel
theorem dX11_mate_51 : decode cX11_mate 51 = .ok (.iload_n 2, 1) := by decide +kernel
theorem dX11_mate_52 : decode cX11_mate 52 = .ok (.iload_n 3, 1) := by decide +kernel
theorem dX11_mate_53 : decode cX11_mate 53 = .ok (.invokevirtual 238, 3) := by decide +kernel
theorem dX11_mate_56 : decode cX11_mate 56 = .ok (.aload_n 0, 1) := by decide +kernel
theorem dX11_mate_57 : decode cX11_mate 57 = .ok (.getfield 85, 3) := by decide +kernel
theorem dX11_mate_60 : decode cX11_mate 60 = .ok (.iload 4, 2) := by decide +kernel
theorem dX11_mate_62 : decode cX11_mate 62 = .ok (.invokevirtual 132, 3) := by decide +kernel
theorem dX11_mate_65 : decode cX11_mate 65 = .ok (.ireturn, 1) := by decide +kernel
theorem dX11_factor_0 : decode cX11_factor 0 = .ok (.iload_n 1, 1) := by decide +kernel
theorem dX11_factor_1 : decode cX11_factor 1 = .ok (.invokestatic 125, 3) := by decide +kernel
theorem dX11_factor_4 : decode cX11_factor 4 = .ok (.ifCond .ne 7, 3) := by decide +kernel
theorem dX11_factor_7 : decode cX11_factor 7 = .ok (.sipush (-1001), 3) := by decide +kernel
theorem dX11_factor_10 : decode cX11_factor 10 = .ok (.ireturn, 1) := by decide +kernel
theorem dX11_factor_11 : decode cX11_factor 11 = .ok (.iload_n 3, 1) := by decide +kernel
theorem dX11_factor_12 : decode cX11_factor 12 = .ok (.invokestatic 129, 3) := by decide +kernel
theorem dX11_factor_15 : decode cX11_factor 15 = .ok (.ifCond .eq 7, 3) := by decide +kernel
theorem dX11_factor_18 : decode cX11_factor 18 = .ok (.iload_n 2, 1) := by decide +kernel
theorem dX11_factor_19 : decode cX11_factor 19 = .ok (.ifCond .ge 7, 3) := by decide +kernel
theorem dX11_factor_22 : decode cX11_factor 22 = .ok (.sipush (-1002), 3) := by decide +kernel
theorem dX11_factor_25 : decode cX11_factor 25 = .ok (.ireturn, 1) := by decide +kernel
theorem dX11_factor_26 : decode cX11_factor 26 = .ok (.aload_n 0, 1) := by decide +kernel
theorem dX11_factor_27 : decode cX11_factor 27 = .ok (.getfield 13, 3) := by decide +kernel
theorem dX11_factor_30 : decode cX11_factor 30 = .ok (.iload_n 1, 1) := by decide +kernel
theorem dX11_factor_31 : decode cX11_factor 31 = .ok (.aaload, 1) := by decide +kernel
theorem dX11_factor_32 : decode cX11_factor 32 = .ok (.invokevirtual 136, 3) := by decide +kernel
theorem dX11_factor_35 : decode cX11_factor 35 = .ok (.ifCond .ne 24, 3) := by decide +kernel
theorem dX11_factor_38 : decode cX11_factor 38 = .ok (.aload_n 0, 1) := by decide +kernel
theorem dX11_factor_39 : decode cX11_factor 39 = .ok (.getfield 71, 3) := by decide +kernel
theorem dX11_factor_42 : decode cX11_factor 42 = .ok (.aload_n 0, 1) := by decide +kernel
theorem dX11_factor_43 : decode cX11_factor 43 = .ok (.getfield 85, 3) := by decide +kernel
theorem dX11_factor_46 : decode cX11_factor 46 = .ok (.aload_n 0, 1) := by decide +kernel
theorem dX11_factor_47 : decode cX11_factor 47 = .ok (.getfield 13, 3) := by decide +kernel
theorem dX11_factor_50 : decode cX11_factor 50 = .ok (.iload_n 1, 1) := by decide +kernel
theorem dX11_factor_51 : decode cX11_factor 51 = .ok (.aaload, 1) := by decide +kernel
theorem dX11_factor_52 : decode cX11_factor 52 = .ok (.iload_n 2, 1) := by decide +kernel
theorem dX11_factor_53 : decode cX11_factor 53 = .ok (.invokevirtual 242, 3) := by decide +kernel
theorem dX11_factor_56 : decode cX11_factor 56 = .ok (.ifCond .ne 7, 3) := by decide +kernel
theorem dX11_factor_59 : decode cX11_factor 59 = .ok (.sipush (-1003), 3) := by decide +kernel
theorem dX11_factor_62 : decode cX11_factor 62 = .ok (.ireturn, 1) := by decide +kernel
theorem dX11_factor_63 : decode cX11_factor 63 = .ok (.aload_n 0, 1) := by decide +kernel
theorem dX11_factor_64 : decode cX11_factor 64 = .ok (.getfield 85, 3) := by decide +kernel
theorem dX11_factor_67 : decode cX11_factor 67 = .ok (.iload_n 3, 1) := by decide +kernel
theorem dX11_factor_68 : decode cX11_factor 68 = .ok (.invokevirtual 132, 3) := by decide +kernel
theorem dX11_factor_71 : decode cX11_factor 71 = .ok (.ireturn, 1) := by decide +kernel
theorem dX11_prime_0 : decode cX11_prime 0 = .ok (.iload_n 1, 1) := by decide +kernel
theorem dX11_prime_1 : decode cX11_prime 1 = .ok (.invokestatic 125, 3) := by decide +kernel
theorem dX11_prime_4 : decode cX11_prime 4 = .ok (.ifCond .ne 7, 3) := by decide +kernel
theorem dX11_prime_7 : decode cX11_prime 7 = .ok (.sipush (-1001), 3) := by decide +kernel
theorem dX11_prime_10 : decode cX11_prime 10 = .ok (.ireturn, 1) := by decide +kernel
theorem dX11_prime_11 : decode cX11_prime 11 = .ok (.iload_n 2, 1) := by decide +kernel
theorem dX11_prime_12 : decode cX11_prime 12 = .ok (.invokestatic 181, 3) := by decide +kernel
theorem dX11_prime_15 : decode cX11_prime 15 = .ok (.ifCond .eq 20, 3) := by decide +kernel
theorem dX11_prime_18 : decode cX11_prime 18 = .ok (.iload_n 3, 1) := by decide +kernel
theorem dX11_prime_19 : decode cX11_prime 19 = .ok (.iconst (-1), 1) := by decide +kernel
theorem dX11_prime_20 : decode cX11_prime 20 = .ok (.if_icmp .lt 15, 3) := by decide +kernel
theorem dX11_prime_23 : decode cX11_prime 23 = .ok (.iload_n 3, 1) := by decide +kernel
theorem dX11_prime_24 : decode cX11_prime 24 = .ok (.ifCond .lt 15, 3) := by decide +kernel
theorem dX11_prime_27 : decode cX11_prime 27 = .ok (.iload 4, 2) := by decide +kernel
theorem dX11_prime_29 : decode cX11_prime 29 = .ok (.invokestatic 129, 3) := by decide +kernel
theorem dX11_prime_32 : decode cX11_prime 32 = .ok (.ifCond .ne 7, 3) := by decide +kernel
theorem dX11_prime_35 : decode cX11_prime 35 = .ok (.sipush (-1002), 3) := by decide +kernel
theorem dX11_prime_38 : decode cX11_prime 38 = .ok (.ireturn, 1) := by decide +kernel
theorem dX11_prime_39 : decode cX11_prime 39 = .ok (.aload_n 0, 1) := by decide +kernel
theorem dX11_prime_40 : decode cX11_prime 40 = .ok (.getfield 13, 3) := by decide +kernel
theorem dX11_prime_43 : decode cX11_prime 43 = .ok (.iload_n 1, 1) := by decide +kernel
theorem dX11_prime_44 : decode cX11_prime 44 = .ok (.aaload, 1) := by decide +kernel
theorem dX11_prime_45 : decode cX11_prime 45 = .ok (.invokevirtual 136, 3) := by decide +kernel
theorem dX11_prime_48 : decode cX11_prime 48 = .ok (.ifCond .eq 7, 3) := by decide +kernel
theorem dX11_prime_51 : decode cX11_prime 51 = .ok (.sipush (-1003), 3) := by decide +kernel
theorem dX11_prime_54 : decode cX11_prime 54 = .ok (.ireturn, 1) := by decide +kernel
theorem dX11_prime_55 : decode cX11_prime 55 = .ok (.aload_n 0, 1) := by decide +kernel
theorem dX11_prime_56 : decode cX11_prime 56 = .ok (.getfield 64, 3) := by decide +kernel
theorem dX11_prime_59 : decode cX11_prime 59 = .ok (.aload_n 0, 1) := by decide +kernel
theorem dX11_prime_60 : decode cX11_prime 60 = .ok (.getfield 13, 3) := by decide +kernel
theorem dX11_prime_63 : decode cX11_prime 63 = .ok (.iload_n 1, 1) := by decide +kernel
theorem dX11_prime_64 : decode cX11_prime 64 = .ok (.aaload, 1) := by decide +kernel
theorem dX11_prime_65 : decode cX11_prime 65 = .ok (.iload_n 2, 1) := by decide +kernel
theorem dX11_prime_66 : decode cX11_prime 66 = .ok (.invokevirtual 245, 3) := by decide +kernel
theorem dX11_prime_69 : decode cX11_prime 69 = .ok (.iload_n 3, 1) := by decide +kernel
theorem dX11_prime_70 : decode cX11_prime 70 = .ok (.iconst (-1), 1) := by decide +kernel
theorem dX11_prime_71 : decode cX11_prime 71 = .ok (.if_icmp .ne 14, 3) := by decide +kernel
theorem dX11_prime_74 : decode cX11_prime 74 = .ok (.aload_n 0, 1) := by decide +kernel
theorem dX11_prime_75 : decode cX11_prime 75 = .ok (.getfield 64, 3) := by decide +kernel
theorem dX11_prime_78 : decode cX11_prime 78 = .ok (.getfield 249, 3) := by decide +kernel
theorem dX11_prime_81 : decode cX11_prime 81 = .ok (.invokevirtual 253, 3) := by decide +kernel
theorem dX11_prime_84 : decode cX11_prime 84 = .ok (.ireturn, 1) := by decide +kernel
theorem dX11_prime_85 : decode cX11_prime 85 = .ok (.iload_n 3, 1) := by decide +kernel
theorem dX11_prime_86 : decode cX11_prime 86 = .ok (.aload_n 0, 1) := by decide +kernel
theorem dX11_prime_87 : decode cX11_prime 87 = .ok (.getfield 64, 3) := by decide +kernel
theorem dX11_prime_90 : decode cX11_prime 90 = .ok (.getfield 249, 3) := by decide +kernel
theorem dX11_prime_93 : decode cX11_prime 93 = .ok (.invokevirtual 253, 3) := by decide +kernel
theorem dX11_prime_96 : decode cX11_prime 96 = .ok (.if_icmp .ge 19, 3) := by decide +kernel
theorem dX11_prime_99 : decode cX11_prime 99 = .ok (.aload_n 0, 1) := by decide +kernel
theorem dX11_prime_100 : decode cX11_prime 100 = .ok (.getfield 64, 3) := by decide +kernel
theorem dX11_prime_103 : decode cX11_prime 103 = .ok (.getfield 249, 3) := by decide +kernel
theorem dX11_prime_106 : decode cX11_prime 106 = .ok (.iload_n 3, 1) := by decide +kernel
theorem dX11_prime_107 : decode cX11_prime 107 = .ok (.iload 4, 2) := by decide +kernel
theorem dX11_prime_109 : decode cX11_prime 109 = .ok (.invokevirtual 256, 3) := by decide +kernel
theorem dX11_prime_112 : decode cX11_prime 112 = .ok (.goto 6, 3) := by decide +kernel
theorem dX11_prime_115 : decode cX11_prime 115 = .ok (.sipush (-1003), 3) := by decide +kernel
theorem dX11_prime_118 : decode cX11_prime 118 = .ok (.ireturn, 1) := by decide +kernel
theorem dX11_list_0 : decode cX11_list 0 = .ok (.iload_n 1, 1) := by decide +kernel
theorem dX11_list_1 : decode cX11_list 1 = .ok (.iconst 1, 1) := by decide +kernel
theorem dX11_list_2 : decode cX11_list 2 = .ok (.if_icmp .lt 34, 3) := by decide +kernel
theorem dX11_list_5 : decode cX11_list 5 = .ok (.iload_n 1, 1) := by decide +kernel
theorem dX11_list_6 : decode cX11_list 6 = .ok (.sipush 150, 3) := by decide +kernel
theorem dX11_list_9 : decode cX11_list 9 = .ok (.if_icmp .gt 27, 3) := by decide +kernel
theorem dX11_list_12 : decode cX11_list 12 = .ok (.iload_n 2, 1) := by decide +kernel
theorem dX11_list_13 : decode cX11_list 13 = .ok (.invokestatic 181, 3) := by decide +kernel
theorem dX11_list_16 : decode cX11_list 16 = .ok (.ifCond .eq 20, 3) := by decide +kernel
theorem dX11_list_19 : decode cX11_list 19 = .ok (.iload_n 3, 1) := by decide +kernel
theorem dX11_list_20 : decode cX11_list 20 = .ok (.iconst (-1), 1) := by decide +kernel
theorem dX11_list_21 : decode cX11_list 21 = .ok (.if_icmp .lt 15, 3) := by decide +kernel
theorem dX11_list_24 : decode cX11_list 24 = .ok (.iload_n 3, 1) := by decide +kernel
theorem dX11_list_25 : decode cX11_list 25 = .ok (.ifCond .lt 15, 3) := by decide +kernel
theorem dX11_list_28 : decode cX11_list 28 = .ok (.iload 4, 2) := by decide +kernel
theorem dX11_list_30 : decode cX11_list 30 = .ok (.invokestatic 129, 3) := by decide +kernel
theorem dX11_list_33 : decode cX11_list 33 = .ok (.ifCond .ne 7, 3) := by decide +kernel
theorem dX11_list_36 : decode cX11_list 36 = .ok (.sipush (-1002), 3) := by decide +kernel
theorem dX11_list_39 : decode cX11_list 39 = .ok (.ireturn, 1) := by decide +kernel
theorem dX11_list_40 : decode cX11_list 40 = .ok (.aload_n 0, 1) := by decide +kernel
theorem dX11_list_41 : decode cX11_list 41 = .ok (.getfield 55, 3) := by decide +kernel
theorem dX11_list_44 : decode cX11_list 44 = .ok (.iload_n 1, 1) := by decide +kernel
theorem dX11_list_45 : decode cX11_list 45 = .ok (.iload_n 2, 1) := by decide +kernel
theorem dX11_list_46 : decode cX11_list 46 = .ok (.invokevirtual 259, 3) := by decide +kernel
theorem dX11_list_49 : decode cX11_list 49 = .ok (.iload_n 3, 1) := by decide +kernel
theorem dX11_list_50 : decode cX11_list 50 = .ok (.iconst (-1), 1) := by decide +kernel
theorem dX11_list_51 : decode cX11_list 51 = .ok (.if_icmp .ne 14, 3) := by decide +kernel
theorem dX11_list_54 : decode cX11_list 54 = .ok (.aload_n 0, 1) := by decide +kernel
theorem dX11_list_55 : decode cX11_list 55 = .ok (.getfield 55, 3) := by decide +kernel
theorem dX11_list_58 : decode cX11_list 58 = .ok (.getfield 262, 3) := by decide +kernel
theorem dX11_list_61 : decode cX11_list 61 = .ok (.invokevirtual 253, 3) := by decide +kernel
theorem dX11_list_64 : decode cX11_list 64 = .ok (.ireturn, 1) := by decide +kernel
theorem dX11_list_65 : decode cX11_list 65 = .ok (.iload_n 3, 1) := by decide +kernel
theorem dX11_list_66 : decode cX11_list 66 = .ok (.aload_n 0, 1) := by decide +kernel
theorem dX11_list_67 : decode cX11_list 67 = .ok (.getfield 55, 3) := by decide +kernel
theorem dX11_list_70 : decode cX11_list 70 = .ok (.getfield 262, 3) := by decide +kernel
theorem dX11_list_73 : decode cX11_list 73 = .ok (.invokevirtual 253, 3) := by decide +kernel
theorem dX11_list_76 : decode cX11_list 76 = .ok (.if_icmp .ge 19, 3) := by decide +kernel
theorem dX11_list_79 : decode cX11_list 79 = .ok (.aload_n 0, 1) := by decide +kernel
theorem dX11_list_80 : decode cX11_list 80 = .ok (.getfield 55, 3) := by decide +kernel
theorem dX11_list_83 : decode cX11_list 83 = .ok (.getfield 262, 3) := by decide +kernel
theorem dX11_list_86 : decode cX11_list 86 = .ok (.iload_n 3, 1) := by decide +kernel
theorem dX11_list_87 : decode cX11_list 87 = .ok (.iload 4, 2) := by decide +kernel
theorem dX11_list_89 : decode cX11_list 89 = .ok (.invokevirtual 256, 3) := by decide +kernel
theorem dX11_list_92 : decode cX11_list 92 = .ok (.goto 6, 3) := by decide +kernel
theorem dX11_list_95 : decode cX11_list 95 = .ok (.sipush (-1003), 3) := by decide +kernel
theorem dX11_list_98 : decode cX11_list 98 = .ok (.ireturn, 1) := by decide +kernel
theorem dX11_squares_0 : decode cX11_squares 0 = .ok (.iload_n 1, 1) := by decide +kernel
theorem dX11_squares_1 : decode cX11_squares 1 = .ok (.ifCond .lt 27, 3) := by decide +kernel
theorem dX11_squares_4 : decode cX11_squares 4 = .ok (.iload_n 1, 1) := by decide +kernel
theorem dX11_squares_5 : decode cX11_squares 5 = .ok (.sipush 150, 3) := by decide +kernel
theorem dX11_squares_8 : decode cX11_squares 8 = .ok (.if_icmp .gt 20, 3) := by decide +kernel
theorem dX11_squares_11 : decode cX11_squares 11 = .ok (.iload_n 2, 1) := by decide +kernel
theorem dX11_squares_12 : decode cX11_squares 12 = .ok (.bipush (-2), 2) := by decide +kernel
theorem dX11_squares_14 : decode cX11_squares 14 = .ok (.if_icmp .lt 14, 3) := by decide +kernel
theorem dX11_squares_17 : decode cX11_squares 17 = .ok (.iload_n 2, 1) := by decide +kernel
theorem dX11_squares_18 : decode cX11_squares 18 = .ok (.ifCond .lt 14, 3) := by decide +kernel
theorem dX11_squares_21 : decode cX11_squares 21 = .ok (.iload_n 3, 1) := by decide +kernel
theorem dX11_squares_22 : decode cX11_squares 22 = .ok (.invokestatic 129, 3) := by decide +kernel
theorem dX11_squares_25 : decode cX11_squares 25 = .ok (.ifCond .ne 7, 3) := by decide +kernel
theorem dX11_squares_28 : decode cX11_squares 28 = .ok (.sipush (-1002), 3) := by decide +kernel
theorem dX11_squares_31 : decode cX11_squares 31 = .ok (.ireturn, 1) := by decide +kernel
theorem dX11_squares_32 : decode cX11_squares 32 = .ok (.aload_n 0, 1) := by decide +kernel
theorem dX11_squares_33 : decode cX11_squares 33 = .ok (.getfield 78, 3) := by decide +kernel
theorem dX11_squares_36 : decode cX11_squares 36 = .ok (.iload_n 1, 1) := by decide +kernel
theorem dX11_squares_37 : decode cX11_squares 37 = .ok (.invokevirtual 263, 3) := by decide +kernel
theorem dX11_squares_40 : decode cX11_squares 40 = .ok (.iload_n 2, 1) := by decide +kernel
theorem dX11_squares_41 : decode cX11_squares 41 = .ok (.bipush (-2), 2) := by decide +kernel
theorem dX11_squares_43 : decode cX11_squares 43 = .ok (.if_icmp .ne 11, 3) := by decide +kernel
theorem dX11_squares_46 : decode cX11_squares 46 = .ok (.aload_n 0, 1) := by decide +kernel
theorem dX11_squares_47 : decode cX11_squares 47 = .ok (.getfield 78, 3) := by decide +kernel
theorem dX11_squares_50 : decode cX11_squares 50 = .ok (.invokevirtual 265, 3) := by decide +kernel
theorem dX11_squares_53 : decode cX11_squares 53 = .ok (.ireturn, 1) := by decide +kernel
theorem dX11_squares_54 : decode cX11_squares 54 = .ok (.iload_n 2, 1) := by decide +kernel
theorem dX11_squares_55 : decode cX11_squares 55 = .ok (.iconst (-1), 1) := by decide +kernel
theorem dX11_squares_56 : decode cX11_squares 56 = .ok (.if_icmp .ne 14, 3) := by decide +kernel
theorem dX11_squares_59 : decode cX11_squares 59 = .ok (.aload_n 0, 1) := by decide +kernel
theorem dX11_squares_60 : decode cX11_squares 60 = .ok (.getfield 78, 3) := by decide +kernel
theorem dX11_squares_63 : decode cX11_squares 63 = .ok (.getfield 268, 3) := by decide +kernel
theorem dX11_squares_66 : decode cX11_squares 66 = .ok (.invokevirtual 253, 3) := by decide +kernel
theorem dX11_squares_69 : decode cX11_squares 69 = .ok (.ireturn, 1) := by decide +kernel
theorem dX11_squares_70 : decode cX11_squares 70 = .ok (.iload_n 2, 1) := by decide +kernel
theorem dX11_squares_71 : decode cX11_squares 71 = .ok (.aload_n 0, 1) := by decide +kernel
theorem dX11_squares_72 : decode cX11_squares 72 = .ok (.getfield 78, 3) := by decide +kernel
theorem dX11_squares_75 : decode cX11_squares 75 = .ok (.getfield 268, 3) := by decide +kernel
theorem dX11_squares_78 : decode cX11_squares 78 = .ok (.invokevirtual 253, 3) := by decide +kernel
theorem dX11_squares_81 : decode cX11_squares 81 = .ok (.if_icmp .ge 18, 3) := by decide +kernel
theorem dX11_squares_84 : decode cX11_squares 84 = .ok (.aload_n 0, 1) := by decide +kernel
theorem dX11_squares_85 : decode cX11_squares 85 = .ok (.getfield 78, 3) := by decide +kernel
theorem dX11_squares_88 : decode cX11_squares 88 = .ok (.getfield 268, 3) := by decide +kernel
theorem dX11_squares_91 : decode cX11_squares 91 = .ok (.iload_n 2, 1) := by decide +kernel
theorem dX11_squares_92 : decode cX11_squares 92 = .ok (.iload_n 3, 1) := by decide +kernel
theorem dX11_squares_93 : decode cX11_squares 93 = .ok (.invokevirtual 256, 3) := by decide +kernel
theorem dX11_squares_96 : decode cX11_squares 96 = .ok (.goto 6, 3) := by decide +kernel
theorem dX11_squares_99 : decode cX11_squares 99 = .ok (.sipush (-1003), 3) := by decide +kernel
theorem dX11_squares_102 : decode cX11_squares 102 = .ok (.ireturn, 1) := by decide +kernel
theorem dX11_turned_0 : decode cX11_turned 0 = .ok (.iload_n 1, 1) := by decide +kernel
theorem dX11_turned_1 : decode cX11_turned 1 = .ok (.invokestatic 125, 3) := by decide +kernel
theorem dX11_turned_4 : decode cX11_turned 4 = .ok (.ifCond .ne 7, 3) := by decide +kernel
theorem dX11_turned_7 : decode cX11_turned 7 = .ok (.sipush (-1001), 3) := by decide +kernel
theorem dX11_turned_10 : decode cX11_turned 10 = .ok (.ireturn, 1) := by decide +kernel
theorem dX11_turned_11 : decode cX11_turned 11 = .ok (.iload_n 2, 1) := by decide +kernel
theorem dX11_turned_12 : decode cX11_turned 12 = .ok (.ifCond .lt 17, 3) := by decide +kernel
theorem dX11_turned_15 : decode cX11_turned 15 = .ok (.iload_n 2, 1) := by decide +kernel
theorem dX11_turned_16 : decode cX11_turned 16 = .ok (.iconst 2, 1) := by decide +kernel
theorem dX11_turned_17 : decode cX11_turned 17 = .ok (.if_icmp .gt 12, 3) := by decide +kernel
theorem dX11_turned_20 : decode cX11_turned 20 = .ok (.iload_n 3, 1) := by decide +kernel
theorem dX11_turned_21 : decode cX11_turned 21 = .ok (.ifCond .lt 8, 3) := by decide +kernel
theorem dX11_turned_24 : decode cX11_turned 24 = .ok (.iload_n 3, 1) := by decide +kernel
theorem dX11_turned_25 : decode cX11_turned 25 = .ok (.iconst 2, 1) := by decide +kernel
theorem dX11_turned_26 : decode cX11_turned 26 = .ok (.if_icmp .le 7, 3) := by decide +kernel
theorem dX11_turned_29 : decode cX11_turned 29 = .ok (.sipush (-1002), 3) := by decide +kernel
theorem dX11_turned_32 : decode cX11_turned 32 = .ok (.ireturn, 1) := by decide +kernel
theorem dX11_turned_33 : decode cX11_turned 33 = .ok (.aload_n 0, 1) := by decide +kernel
theorem dX11_turned_34 : decode cX11_turned 34 = .ok (.getfield 89, 3) := by decide +kernel
theorem dX11_turned_37 : decode cX11_turned 37 = .ok (.iconst 0, 1) := by decide +kernel
theorem dX11_turned_38 : decode cX11_turned 38 = .ok (.iload_n 2, 1) := by decide +kernel
theorem dX11_turned_39 : decode cX11_turned 39 = .ok (.ifCond .ne 7, 3) := by decide +kernel
theorem dX11_turned_42 : decode cX11_turned 42 = .ok (.iconst 2, 1) := by decide +kernel
theorem dX11_turned_43 : decode cX11_turned 43 = .ok (.goto 4, 3) := by decide +kernel
theorem dX11_turned_46 : decode cX11_turned 46 = .ok (.iconst 0, 1) := by decide +kernel
theorem dX11_turned_47 : decode cX11_turned 47 = .ok (.iload_n 2, 1) := by decide +kernel
theorem dX11_turned_48 : decode cX11_turned 48 = .ok (.iconst 1, 1) := by decide +kernel
theorem dX11_turned_49 : decode cX11_turned 49 = .ok (.if_icmp .ne 7, 3) := by decide +kernel
theorem dX11_turned_52 : decode cX11_turned 52 = .ok (.iconst 2, 1) := by decide +kernel
theorem dX11_turned_53 : decode cX11_turned 53 = .ok (.goto 4, 3) := by decide +kernel
theorem dX11_turned_56 : decode cX11_turned 56 = .ok (.iconst 0, 1) := by decide +kernel
theorem dX11_turned_57 : decode cX11_turned 57 = .ok (.iload_n 2, 1) := by decide +kernel
theorem dX11_turned_58 : decode cX11_turned 58 = .ok (.iconst 2, 1) := by decide +kernel
theorem dX11_turned_59 : decode cX11_turned 59 = .ok (.if_icmp .ne 7, 3) := by decide +kernel
theorem dX11_turned_62 : decode cX11_turned 62 = .ok (.iconst 2, 1) := by decide +kernel
theorem dX11_turned_63 : decode cX11_turned 63 = .ok (.goto 4, 3) := by decide +kernel
theorem dX11_turned_66 : decode cX11_turned 66 = .ok (.iconst 0, 1) := by decide +kernel
theorem dX11_turned_67 : decode cX11_turned 67 = .ok (.invokevirtual 169, 3) := by decide +kernel
theorem dX11_turned_70 : decode cX11_turned 70 = .ok (.aload_n 0, 1) := by decide +kernel
theorem dX11_turned_71 : decode cX11_turned 71 = .ok (.getfield 85, 3) := by decide +kernel
theorem dX11_turned_74 : decode cX11_turned 74 = .ok (.aload_n 0, 1) := by decide +kernel
theorem dX11_turned_75 : decode cX11_turned 75 = .ok (.getfield 13, 3) := by decide +kernel
theorem dX11_turned_78 : decode cX11_turned 78 = .ok (.iload_n 1, 1) := by decide +kernel
theorem dX11_turned_79 : decode cX11_turned 79 = .ok (.aaload, 1) := by decide +kernel
theorem dX11_turned_80 : decode cX11_turned 80 = .ok (.aload_n 0, 1) := by decide +kernel
theorem dX11_turned_81 : decode cX11_turned 81 = .ok (.getfield 89, 3) := by decide +kernel
theorem dX11_turned_84 : decode cX11_turned 84 = .ok (.invokevirtual 269, 3) := by decide +kernel
theorem dX11_turned_87 : decode cX11_turned 87 = .ok (.aload_n 0, 1) := by decide +kernel
theorem dX11_turned_88 : decode cX11_turned 88 = .ok (.getfield 89, 3) := by decide +kernel
theorem dX11_turned_91 : decode cX11_turned 91 = .ok (.aload_n 0, 1) := by decide +kernel
theorem dX11_turned_92 : decode cX11_turned 92 = .ok (.getfield 13, 3) := by decide +kernel
theorem dX11_turned_95 : decode cX11_turned 95 = .ok (.iload_n 1, 1) := by decide +kernel
theorem dX11_turned_96 : decode cX11_turned 96 = .ok (.aaload, 1) := by decide +kernel
theorem dX11_turned_97 : decode cX11_turned 97 = .ok (.invokevirtual 188, 3) := by decide +kernel
theorem dX11_turned_100 : decode cX11_turned 100 = .ok (.aload_n 0, 1) := by decide +kernel
theorem dX11_turned_101 : decode cX11_turned 101 = .ok (.getfield 85, 3) := by decide +kernel
theorem dX11_turned_104 : decode cX11_turned 104 = .ok (.aload_n 0, 1) := by decide +kernel
theorem dX11_turned_105 : decode cX11_turned 105 = .ok (.getfield 85, 3) := by decide +kernel
theorem dX11_turned_108 : decode cX11_turned 108 = .ok (.aload_n 0, 1) := by decide +kernel
theorem dX11_turned_109 : decode cX11_turned 109 = .ok (.getfield 89, 3) := by decide +kernel
theorem dX11_turned_112 : decode cX11_turned 112 = .ok (.invokevirtual 269, 3) := by decide +kernel
theorem dX11_turned_115 : decode cX11_turned 115 = .ok (.aload_n 0, 1) := by decide +kernel
theorem dX11_turned_116 : decode cX11_turned 116 = .ok (.getfield 85, 3) := by decide +kernel
theorem dX11_turned_119 : decode cX11_turned 119 = .ok (.iload_n 3, 1) := by decide +kernel
theorem dX11_turned_120 : decode cX11_turned 120 = .ok (.iconst 1, 1) := by decide +kernel
theorem dX11_turned_121 : decode cX11_turned 121 = .ok (.iadd, 1) := by decide +kernel
theorem dX11_turned_122 : decode cX11_turned 122 = .ok (.invokevirtual 132, 3) := by decide +kernel
theorem dX11_turned_125 : decode cX11_turned 125 = .ok (.ireturn, 1) := by decide +kernel
theorem dX11_rank_0 : decode cX11_rank 0 = .ok (.iload_n 1, 1) := by decide +kernel
theorem dX11_rank_1 : decode cX11_rank 1 = .ok (.ifCond .lt 9, 3) := by decide +kernel
theorem dX11_rank_4 : decode cX11_rank 4 = .ok (.iload_n 1, 1) := by decide +kernel
theorem dX11_rank_5 : decode cX11_rank 5 = .ok (.bipush 6, 2) := by decide +kernel
theorem dX11_rank_7 : decode cX11_rank 7 = .ok (.if_icmp .lt 7, 3) := by decide +kernel
theorem dX11_rank_10 : decode cX11_rank 10 = .ok (.sipush (-1002), 3) := by decide +kernel
theorem dX11_rank_13 : decode cX11_rank 13 = .ok (.ireturn, 1) := by decide +kernel
theorem dX11_rank_14 : decode cX11_rank 14 = .ok (.iconst 0, 1) := by decide +kernel
theorem dX11_rank_15 : decode cX11_rank 15 = .ok (.istore_n 2, 1) := by decide +kernel
theorem dX11_rank_16 : decode cX11_rank 16 = .ok (.iload_n 2, 1) := by decide +kernel
theorem dX11_rank_17 : decode cX11_rank 17 = .ok (.bipush 6, 2) := by decide +kernel
theorem dX11_rank_19 : decode cX11_rank 19 = .ok (.if_icmp .ge 20, 3) := by decide +kernel
theorem dX11_rank_22 : decode cX11_rank 22 = .ok (.aload_n 0, 1) := by decide +kernel
theorem dX11_rank_23 : decode cX11_rank 23 = .ok (.iload_n 2, 1) := by decide +kernel
theorem dX11_rank_24 : decode cX11_rank 24 = .ok (.invokevirtual 272, 3) := by decide +kernel
theorem dX11_rank_27 : decode cX11_rank 27 = .ok (.iload_n 1, 1) := by decide +kernel
theorem dX11_rank_28 : decode cX11_rank 28 = .ok (.if_icmp .ne 5, 3) := by decide +kernel
theorem dX11_rank_31 : decode cX11_rank 31 = .ok (.iload_n 2, 1) := by decide +kernel
theorem dX11_rank_32 : decode cX11_rank 32 = .ok (.ireturn, 1) := by decide +kernel
theorem dX11_rank_33 : decode cX11_rank 33 = .ok (.iinc 2 1, 3) := by decide +kernel
theorem dX11_rank_36 : decode cX11_rank 36 = .ok (.goto (-20), 3) := by decide +kernel
theorem dX11_rank_39 : decode cX11_rank 39 = .ok (.iconst (-1), 1) := by decide +kernel
theorem dX11_rank_40 : decode cX11_rank 40 = .ok (.ireturn, 1) := by decide +kernel
theorem dX11_tally_0 : decode cX11_tally 0 = .ok (.iload_n 1, 1) := by decide +kernel
theorem dX11_tally_1 : decode cX11_tally 1 = .ok (.invokestatic 275, 3) := by decide +kernel
theorem dX11_tally_4 : decode cX11_tally 4 = .ok (.ifCond .ne 7, 3) := by decide +kernel
theorem dX11_tally_7 : decode cX11_tally 7 = .ok (.sipush (-1001), 3) := by decide +kernel
theorem dX11_tally_10 : decode cX11_tally 10 = .ok (.ireturn, 1) := by decide +kernel
theorem dX11_tally_11 : decode cX11_tally 11 = .ok (.iload_n 2, 1) := by decide +kernel
theorem dX11_tally_12 : decode cX11_tally 12 = .ok (.bipush 6, 2) := by decide +kernel
theorem dX11_tally_14 : decode cX11_tally 14 = .ok (.if_icmp .le 7, 3) := by decide +kernel
theorem dX11_tally_17 : decode cX11_tally 17 = .ok (.sipush (-1002), 3) := by decide +kernel
theorem dX11_tally_20 : decode cX11_tally 20 = .ok (.ireturn, 1) := by decide +kernel
theorem dX11_tally_21 : decode cX11_tally 21 = .ok (.iload_n 2, 1) := by decide +kernel
theorem dX11_tally_22 : decode cX11_tally 22 = .ok (.ifCond .ge 7, 3) := by decide +kernel
theorem dX11_tally_25 : decode cX11_tally 25 = .ok (.sipush (-1013), 3) := by decide +kernel
theorem dX11_tally_28 : decode cX11_tally 28 = .ok (.ireturn, 1) := by decide +kernel
theorem dX11_tally_29 : decode cX11_tally 29 = .ok (.aload_n 0, 1) := by decide +kernel
theorem dX11_tally_30 : decode cX11_tally 30 = .ok (.getfield 26, 3) := by decide +kernel
theorem dX11_tally_33 : decode cX11_tally 33 = .ok (.iload_n 1, 1) := by decide +kernel
theorem dX11_tally_34 : decode cX11_tally 34 = .ok (.aaload, 1) := by decide +kernel
theorem dX11_tally_35 : decode cX11_tally 35 = .ok (.iload_n 2, 1) := by decide +kernel
theorem dX11_tally_36 : decode cX11_tally 36 = .ok (.invokevirtual 278, 3) := by decide +kernel
theorem dX11_tally_39 : decode cX11_tally 39 = .ok (.iload_n 2, 1) := by decide +kernel
theorem dX11_tally_40 : decode cX11_tally 40 = .ok (.ireturn, 1) := by decide +kernel
theorem dX11_load_0 : decode cX11_load 0 = .ok (.iload_n 1, 1) := by decide +kernel
theorem dX11_load_1 : decode cX11_load 1 = .ok (.invokestatic 275, 3) := by decide +kernel
theorem dX11_load_4 : decode cX11_load 4 = .ok (.ifCond .eq 10, 3) := by decide +kernel
theorem dX11_load_7 : decode cX11_load 7 = .ok (.iload_n 3, 1) := by decide +kernel
theorem dX11_load_8 : decode cX11_load 8 = .ok (.invokestatic 125, 3) := by decide +kernel
theorem dX11_load_11 : decode cX11_load 11 = .ok (.ifCond .ne 7, 3) := by decide +kernel
theorem dX11_load_14 : decode cX11_load 14 = .ok (.sipush (-1001), 3) := by decide +kernel
theorem dX11_load_17 : decode cX11_load 17 = .ok (.ireturn, 1) := by decide +kernel
theorem dX11_load_18 : decode cX11_load 18 = .ok (.aload_n 0, 1) := by decide +kernel
theorem dX11_load_19 : decode cX11_load 19 = .ok (.getfield 26, 3) := by decide +kernel
theorem dX11_load_22 : decode cX11_load 22 = .ok (.iload_n 1, 1) := by decide +kernel
theorem dX11_load_23 : decode cX11_load 23 = .ok (.aaload, 1) := by decide +kernel
theorem dX11_load_24 : decode cX11_load 24 = .ok (.astore 4, 2) := by decide +kernel
theorem dX11_load_26 : decode cX11_load 26 = .ok (.aload 4, 2) := by decide +kernel
theorem dX11_load_28 : decode cX11_load 28 = .ok (.invokevirtual 281, 3) := by decide +kernel
theorem dX11_load_31 : decode cX11_load 31 = .ok (.ifCond .eq 7, 3) := by decide +kernel
theorem dX11_load_34 : decode cX11_load 34 = .ok (.sipush (-1011), 3) := by decide +kernel
theorem dX11_load_37 : decode cX11_load 37 = .ok (.ireturn, 1) := by decide +kernel
theorem dX11_load_38 : decode cX11_load 38 = .ok (.aload 4, 2) := by decide +kernel
theorem dX11_load_40 : decode cX11_load 40 = .ok (.iload_n 2, 1) := by decide +kernel
theorem dX11_load_41 : decode cX11_load 41 = .ok (.invokevirtual 284, 3) := by decide +kernel
theorem dX11_load_44 : decode cX11_load 44 = .ok (.ifCond .ne 7, 3) := by decide +kernel
theorem dX11_load_47 : decode cX11_load 47 = .ok (.sipush (-1012), 3) := by decide +kernel
theorem dX11_load_50 : decode cX11_load 50 = .ok (.ireturn, 1) := by decide +kernel
theorem dX11_load_51 : decode cX11_load 51 = .ok (.aload_n 0, 1) := by decide +kernel
theorem dX11_load_52 : decode cX11_load 52 = .ok (.getfield 13, 3) := by decide +kernel
theorem dX11_load_55 : decode cX11_load 55 = .ok (.iload_n 3, 1) := by decide +kernel
theorem dX11_load_56 : decode cX11_load 56 = .ok (.aaload, 1) := by decide +kernel
theorem dX11_load_57 : decode cX11_load 57 = .ok (.invokevirtual 139, 3) := by decide +kernel
theorem dX11_load_60 : decode cX11_load 60 = .ok (.istore 5, 2) := by decide +kernel
theorem dX11_load_62 : decode cX11_load 62 = .ok (.aload 4, 2) := by decide +kernel
theorem dX11_load_64 : decode cX11_load 64 = .ok (.iload_n 2, 1) := by decide +kernel
theorem dX11_load_65 : decode cX11_load 65 = .ok (.iload 5, 2) := by decide +kernel
theorem dX11_load_67 : decode cX11_load 67 = .ok (.invokevirtual 287, 3) := by decide +kernel
theorem dX11_load_70 : decode cX11_load 70 = .ok (.iload 5, 2) := by decide +kernel
theorem dX11_load_72 : decode cX11_load 72 = .ok (.ireturn, 1) := by decide +kernel
theorem dX11_work_0 : decode cX11_work 0 = .ok (.iload_n 1, 1) := by decide +kernel
theorem dX11_work_1 : decode cX11_work 1 = .ok (.invokestatic 275, 3) := by decide +kernel
theorem dX11_work_4 : decode cX11_work 4 = .ok (.ifCond .ne 7, 3) := by decide +kernel
theorem dX11_work_7 : decode cX11_work 7 = .ok (.sipush (-1001), 3) := by decide +kernel
theorem dX11_work_10 : decode cX11_work 10 = .ok (.ireturn, 1) := by decide +kernel
theorem dX11_work_11 : decode cX11_work 11 = .ok (.iload_n 2, 1) := by decide +kernel
theorem dX11_work_12 : decode cX11_work 12 = .ok (.ifCond .lt 8, 3) := by decide +kernel
theorem dX11_work_15 : decode cX11_work 15 = .ok (.iload_n 2, 1) := by decide +kernel
theorem dX11_work_16 : decode cX11_work 16 = .ok (.iconst 5, 1) := by decide +kernel
theorem dX11_work_17 : decode cX11_work 17 = .ok (.if_icmp .le 7, 3) := by decide +kernel
theorem dX11_work_20 : decode cX11_work 20 = .ok (.sipush (-1002), 3) := by decide +kernel
theorem dX11_work_23 : decode cX11_work 23 = .ok (.ireturn, 1) := by decide +kernel
theorem dX11_work_24 : decode cX11_work 24 = .ok (.aload_n 0, 1) := by decide +kernel
theorem dX11_work_25 : decode cX11_work 25 = .ok (.getfield 26, 3) := by decide +kernel
theorem dX11_work_28 : decode cX11_work 28 = .ok (.iload_n 1, 1) := by decide +kernel
theorem dX11_work_29 : decode cX11_work 29 = .ok (.aaload, 1) := by decide +kernel
theorem dX11_work_30 : decode cX11_work 30 = .ok (.astore 5, 2) := by decide +kernel
theorem dX11_work_32 : decode cX11_work 32 = .ok (.aload 5, 2) := by decide +kernel
theorem dX11_work_34 : decode cX11_work 34 = .ok (.invokevirtual 281, 3) := by decide +kernel
theorem dX11_work_37 : decode cX11_work 37 = .ok (.ifCond .eq 7, 3) := by decide +kernel
theorem dX11_work_40 : decode cX11_work 40 = .ok (.sipush (-1011), 3) := by decide +kernel
theorem dX11_work_43 : decode cX11_work 43 = .ok (.ireturn, 1) := by decide +kernel
theorem dX11_work_44 : decode cX11_work 44 = .ok (.aload 5, 2) := by decide +kernel
theorem dX11_work_46 : decode cX11_work 46 = .ok (.iload_n 3, 1) := by decide +kernel
theorem dX11_work_47 : decode cX11_work 47 = .ok (.invokevirtual 284, 3) := by decide +kernel
theorem dX11_work_50 : decode cX11_work 50 = .ok (.ifCond .eq 13, 3) := by decide +kernel
theorem dX11_work_53 : decode cX11_work 53 = .ok (.aload 5, 2) := by decide +kernel
theorem dX11_work_55 : decode cX11_work 55 = .ok (.iload 4, 2) := by decide +kernel
theorem dX11_work_57 : decode cX11_work 57 = .ok (.invokevirtual 284, 3) := by decide +kernel
theorem dX11_work_60 : decode cX11_work 60 = .ok (.ifCond .ne 7, 3) := by decide +kernel
theorem dX11_work_63 : decode cX11_work 63 = .ok (.sipush (-1012), 3) := by decide +kernel
theorem dX11_work_66 : decode cX11_work 66 = .ok (.ireturn, 1) := by decide +kernel
theorem dX11_work_67 : decode cX11_work 67 = .ok (.aload 5, 2) := by decide +kernel
theorem dX11_work_69 : decode cX11_work 69 = .ok (.iload 4, 2) := by decide +kernel
theorem dX11_work_71 : decode cX11_work 71 = .ok (.invokevirtual 289, 3) := by decide +kernel
theorem dX11_work_74 : decode cX11_work 74 = .ok (.istore 6, 2) := by decide +kernel
theorem dX11_work_76 : decode cX11_work 76 = .ok (.iload 6, 2) := by decide +kernel
theorem dX11_work_78 : decode cX11_work 78 = .ok (.ifCond .ne 17, 3) := by decide +kernel
theorem dX11_work_81 : decode cX11_work 81 = .ok (.iload_n 2, 1) := by decide +kernel
theorem dX11_work_82 : decode cX11_work 82 = .ok (.iconst 3, 1) := by decide +kernel
theorem dX11_work_83 : decode cX11_work 83 = .ok (.if_icmp .eq 8, 3) := by decide +kernel
theorem dX11_work_86 : decode cX11_work 86 = .ok (.iload_n 2, 1) := by decide +kernel
theorem dX11_work_87 : decode cX11_work 87 = .ok (.iconst 4, 1) := by decide +kernel
theorem dX11_work_88 : decode cX11_work 88 = .ok (.if_icmp .ne 7, 3) := by decide +kernel
theorem dX11_work_91 : decode cX11_work 91 = .ok (.sipush (-1014), 3) := by decide +kernel
theorem dX11_work_94 : decode cX11_work 94 = .ok (.ireturn, 1) := by decide +kernel
theorem dX11_work_95 : decode cX11_work 95 = .ok (.iload_n 2, 1) := by decide +kernel
theorem dX11_work_96 : decode cX11_work 96 = .ok (.aload 5, 2) := by decide +kernel
theorem dX11_work_98 : decode cX11_work 98 = .ok (.iload_n 3, 1) := by decide +kernel
theorem dX11_work_99 : decode cX11_work 99 = .ok (.invokevirtual 289, 3) := by decide +kernel
theorem dX11_work_102 : decode cX11_work 102 = .ok (.i2l, 1) := by decide +kernel
theorem dX11_work_103 : decode cX11_work 103 = .ok (.iload 6, 2) := by decide +kernel
theorem dX11_work_105 : decode cX11_work 105 = .ok (.i2l, 1) := by decide +kernel
theorem dX11_work_106 : decode cX11_work 106 = .ok (.invokestatic 292, 3) := by decide +kernel
theorem dX11_work_109 : decode cX11_work 109 = .ok (.lstore 7, 2) := by decide +kernel
theorem dX11_work_111 : decode cX11_work 111 = .ok (.lload 7, 2) := by decide +kernel
theorem dX11_work_113 : decode cX11_work 113 = .ok (.lload 7, 2) := by decide +kernel
theorem dX11_work_115 : decode cX11_work 115 = .ok (.l2i, 1) := by decide +kernel
theorem dX11_work_116 : decode cX11_work 116 = .ok (.i2l, 1) := by decide +kernel
theorem dX11_work_117 : decode cX11_work 117 = .ok (.lcmp, 1) := by decide +kernel
theorem dX11_work_118 : decode cX11_work 118 = .ok (.ifCond .eq 7, 3) := by decide +kernel
theorem dX11_work_121 : decode cX11_work 121 = .ok (.sipush (-1015), 3) := by decide +kernel
theorem dX11_work_124 : decode cX11_work 124 = .ok (.ireturn, 1) := by decide +kernel
theorem dX11_work_125 : decode cX11_work 125 = .ok (.aload_n 0, 1) := by decide +kernel
theorem dX11_work_126 : decode cX11_work 126 = .ok (.lload 7, 2) := by decide +kernel
theorem dX11_work_128 : decode cX11_work 128 = .ok (.l2i, 1) := by decide +kernel
theorem dX11_work_129 : decode cX11_work 129 = .ok (.putfield 92, 3) := by decide +kernel
theorem dX11_work_132 : decode cX11_work 132 = .ok (.aload 5, 2) := by decide +kernel
theorem dX11_work_134 : decode cX11_work 134 = .ok (.iload_n 3, 1) := by decide +kernel
theorem dX11_work_135 : decode cX11_work 135 = .ok (.aload_n 0, 1) := by decide +kernel
theorem dX11_work_136 : decode cX11_work 136 = .ok (.getfield 92, 3) := by decide +kernel
theorem dX11_work_139 : decode cX11_work 139 = .ok (.invokevirtual 287, 3) := by decide +kernel
theorem dX11_work_142 : decode cX11_work 142 = .ok (.iconst 0, 1) := by decide +kernel
theorem dX11_work_143 : decode cX11_work 143 = .ok (.ireturn, 1) := by decide +kernel
theorem dX11_latest_0 : decode cX11_latest 0 = .ok (.aload_n 0, 1) := by decide +kernel
theorem dX11_latest_1 : decode cX11_latest 1 = .ok (.getfield 92, 3) := by decide +kernel
theorem dX11_latest_4 : decode cX11_latest 4 = .ok (.ireturn, 1) := by decide +kernel
theorem dX11_drop_0 : decode cX11_drop 0 = .ok (.iload_n 1, 1) := by decide +kernel
theorem dX11_drop_1 : decode cX11_drop 1 = .ok (.invokestatic 275, 3) := by decide +kernel
theorem dX11_drop_4 : decode cX11_drop 4 = .ok (.ifCond .ne 7, 3) := by decide +kernel
theorem dX11_drop_7 : decode cX11_drop 7 = .ok (.sipush (-1001), 3) := by decide +kernel
theorem dX11_drop_10 : decode cX11_drop 10 = .ok (.ireturn, 1) := by decide +kernel
theorem dX11_drop_11 : decode cX11_drop 11 = .ok (.aload_n 0, 1) := by decide +kernel
theorem dX11_drop_12 : decode cX11_drop 12 = .ok (.getfield 26, 3) := by decide +kernel
theorem dX11_drop_15 : decode cX11_drop 15 = .ok (.iload_n 1, 1) := by decide +kernel
theorem dX11_drop_16 : decode cX11_drop 16 = .ok (.aaload, 1) := by decide +kernel
theorem dX11_drop_17 : decode cX11_drop 17 = .ok (.invokevirtual 281, 3) := by decide +kernel
theorem dX11_drop_20 : decode cX11_drop 20 = .ok (.ifCond .eq 7, 3) := by decide +kernel
theorem dX11_drop_23 : decode cX11_drop 23 = .ok (.sipush (-1011), 3) := by decide +kernel
theorem dX11_drop_26 : decode cX11_drop 26 = .ok (.ireturn, 1) := by decide +kernel
theorem dX11_drop_27 : decode cX11_drop 27 = .ok (.aload_n 0, 1) := by decide +kernel
theorem dX11_drop_28 : decode cX11_drop 28 = .ok (.getfield 26, 3) := by decide +kernel
theorem dX11_drop_31 : decode cX11_drop 31 = .ok (.iload_n 1, 1) := by decide +kernel
theorem dX11_drop_32 : decode cX11_drop 32 = .ok (.aaload, 1) := by decide +kernel
theorem dX11_drop_33 : decode cX11_drop 33 = .ok (.invokevirtual 296, 3) := by decide +kernel
theorem dX11_drop_36 : decode cX11_drop 36 = .ok (.istore_n 2, 1) := by decide +kernel
theorem dX11_drop_37 : decode cX11_drop 37 = .ok (.aload_n 0, 1) := by decide +kernel
theorem dX11_drop_38 : decode cX11_drop 38 = .ok (.getfield 26, 3) := by decide +kernel
theorem dX11_drop_41 : decode cX11_drop 41 = .ok (.iload_n 1, 1) := by decide +kernel
theorem dX11_drop_42 : decode cX11_drop 42 = .ok (.aaload, 1) := by decide +kernel
theorem dX11_drop_43 : decode cX11_drop 43 = .ok (.invokevirtual 122, 3) := by decide +kernel
theorem dX11_drop_46 : decode cX11_drop 46 = .ok (.iload_n 2, 1) := by decide +kernel
theorem dX11_drop_47 : decode cX11_drop 47 = .ok (.ireturn, 1) := by decide +kernel
theorem dX11_count_0 : decode cX11_count 0 = .ok (.iload_n 1, 1) := by decide +kernel
theorem dX11_count_1 : decode cX11_count 1 = .ok (.tableswitch 110 0 6 #[43, 48, 53, 61, 69, 74, 92], 43) := by decide +kernel
theorem dX11_count_44 : decode cX11_count 44 = .ok (.aload_n 0, 1) := by decide +kernel
theorem dX11_count_45 : decode cX11_count 45 = .ok (.invokevirtual 225, 3) := by decide +kernel
theorem dX11_count_48 : decode cX11_count 48 = .ok (.ireturn, 1) := by decide +kernel
theorem dX11_count_49 : decode cX11_count 49 = .ok (.aload_n 0, 1) := by decide +kernel
theorem dX11_count_50 : decode cX11_count 50 = .ok (.invokevirtual 297, 3) := by decide +kernel
theorem dX11_count_53 : decode cX11_count 53 = .ok (.ireturn, 1) := by decide +kernel
theorem dX11_count_54 : decode cX11_count 54 = .ok (.aload_n 0, 1) := by decide +kernel
theorem dX11_count_55 : decode cX11_count 55 = .ok (.getfield 34, 3) := by decide +kernel
theorem dX11_count_58 : decode cX11_count 58 = .ok (.invokevirtual 214, 3) := by decide +kernel
theorem dX11_count_61 : decode cX11_count 61 = .ok (.ireturn, 1) := by decide +kernel
theorem dX11_count_62 : decode cX11_count 62 = .ok (.aload_n 0, 1) := by decide +kernel
theorem dX11_count_63 : decode cX11_count 63 = .ok (.getfield 41, 3) := by decide +kernel
theorem dX11_count_66 : decode cX11_count 66 = .ok (.invokevirtual 104, 3) := by decide +kernel
theorem dX11_count_69 : decode cX11_count 69 = .ok (.ireturn, 1) := by decide +kernel
theorem dX11_count_70 : decode cX11_count 70 = .ok (.aload_n 0, 1) := by decide +kernel
theorem dX11_count_71 : decode cX11_count 71 = .ok (.invokevirtual 300, 3) := by decide +kernel
theorem dX11_count_74 : decode cX11_count 74 = .ok (.ireturn, 1) := by decide +kernel
theorem dX11_count_75 : decode cX11_count 75 = .ok (.aload_n 0, 1) := by decide +kernel
theorem dX11_count_76 : decode cX11_count 76 = .ok (.getfield 19, 3) := by decide +kernel
theorem dX11_count_79 : decode cX11_count 79 = .ok (.iconst 0, 1) := by decide +kernel
theorem dX11_count_80 : decode cX11_count 80 = .ok (.aaload, 1) := by decide +kernel
theorem dX11_count_81 : decode cX11_count 81 = .ok (.invokevirtual 228, 3) := by decide +kernel
theorem dX11_count_84 : decode cX11_count 84 = .ok (.ifCond .eq 7, 3) := by decide +kernel
theorem dX11_count_87 : decode cX11_count 87 = .ok (.iconst 1, 1) := by decide +kernel
theorem dX11_count_88 : decode cX11_count 88 = .ok (.goto 4, 3) := by decide +kernel
theorem dX11_count_91 : decode cX11_count 91 = .ok (.iconst 0, 1) := by decide +kernel
theorem dX11_count_92 : decode cX11_count 92 = .ok (.ireturn, 1) := by decide +kernel
theorem dX11_count_93 : decode cX11_count 93 = .ok (.aload_n 0, 1) := by decide +kernel
theorem dX11_count_94 : decode cX11_count 94 = .ok (.getfield 19, 3) := by decide +kernel
theorem dX11_count_97 : decode cX11_count 97 = .ok (.iconst 1, 1) := by decide +kernel
theorem dX11_count_98 : decode cX11_count 98 = .ok (.aaload, 1) := by decide +kernel
theorem dX11_count_99 : decode cX11_count 99 = .ok (.invokevirtual 228, 3) := by decide +kernel
theorem dX11_count_102 : decode cX11_count 102 = .ok (.ifCond .eq 7, 3) := by decide +kernel
theorem dX11_count_105 : decode cX11_count 105 = .ok (.iconst 1, 1) := by decide +kernel
theorem dX11_count_106 : decode cX11_count 106 = .ok (.goto 4, 3) := by decide +kernel
theorem dX11_count_109 : decode cX11_count 109 = .ok (.iconst 0, 1) := by decide +kernel
theorem dX11_count_110 : decode cX11_count 110 = .ok (.ireturn, 1) := by decide +kernel
theorem dX11_count_111 : decode cX11_count 111 = .ok (.sipush (-1002), 3) := by decide +kernel
theorem dX11_count_114 : decode cX11_count 114 = .ok (.ireturn, 1) := by decide +kernel
theorem dX11_isSlot_0 : decode cX11_isSlot 0 = .ok (.iload_n 0, 1) := by decide +kernel
theorem dX11_isSlot_1 : decode cX11_isSlot 1 = .ok (.ifCond .lt 13, 3) := by decide +kernel
theorem dX11_isSlot_4 : decode cX11_isSlot 4 = .ok (.iload_n 0, 1) := by decide +kernel
theorem dX11_isSlot_5 : decode cX11_isSlot 5 = .ok (.bipush 6, 2) := by decide +kernel
theorem dX11_isSlot_7 : decode cX11_isSlot 7 = .ok (.if_icmp .ge 7, 3) := by decide +kernel
theorem dX11_isSlot_10 : decode cX11_isSlot 10 = .ok (.iconst 1, 1) := by decide +kernel
theorem dX11_isSlot_11 : decode cX11_isSlot 11 = .ok (.goto 4, 3) := by decide +kernel
theorem dX11_isSlot_14 : decode cX11_isSlot 14 = .ok (.iconst 0, 1) := by decide +kernel
theorem dX11_isSlot_15 : decode cX11_isSlot 15 = .ok (.ireturn, 1) := by decide +kernel
theorem dX11_isUnit_0 : decode cX11_isUnit 0 = .ok (.iload_n 0, 1) := by decide +kernel
theorem dX11_isUnit_1 : decode cX11_isUnit 1 = .ok (.ifCond .lt 13, 3) := by decide +kernel
theorem dX11_isUnit_4 : decode cX11_isUnit 4 = .ok (.iload_n 0, 1) := by decide +kernel
theorem dX11_isUnit_5 : decode cX11_isUnit 5 = .ok (.bipush 24, 2) := by decide +kernel
theorem dX11_isUnit_7 : decode cX11_isUnit 7 = .ok (.if_icmp .ge 7, 3) := by decide +kernel
theorem dX11_isUnit_10 : decode cX11_isUnit 10 = .ok (.iconst 1, 1) := by decide +kernel
theorem dX11_isUnit_11 : decode cX11_isUnit 11 = .ok (.goto 4, 3) := by decide +kernel
theorem dX11_isUnit_14 : decode cX11_isUnit 14 = .ok (.iconst 0, 1) := by decide +kernel
theorem dX11_isUnit_15 : decode cX11_isUnit 15 = .ok (.ireturn, 1) := by decide +kernel
theorem dX11_isTally_0 : decode cX11_isTally 0 = .ok (.iload_n 0, 1) := by decide +kernel
theorem dX11_isTally_1 : decode cX11_isTally 1 = .ok (.ifCond .lt 12, 3) := by decide +kernel
theorem dX11_isTally_4 : decode cX11_isTally 4 = .ok (.iload_n 0, 1) := by decide +kernel
theorem dX11_isTally_5 : decode cX11_isTally 5 = .ok (.iconst 3, 1) := by decide +kernel
theorem dX11_isTally_6 : decode cX11_isTally 6 = .ok (.if_icmp .ge 7, 3) := by decide +kernel
theorem dX11_isTally_9 : decode cX11_isTally 9 = .ok (.iconst 1, 1) := by decide +kernel
theorem dX11_isTally_10 : decode cX11_isTally 10 = .ok (.goto 4, 3) := by decide +kernel
theorem dX11_isTally_13 : decode cX11_isTally 13 = .ok (.iconst 0, 1) := by decide +kernel
theorem dX11_isTally_14 : decode cX11_isTally 14 = .ok (.ireturn, 1) := by decide +kernel
theorem dX11_isSide_0 : decode cX11_isSide 0 = .ok (.iload_n 0, 1) := by decide +kernel
theorem dX11_isSide_1 : decode cX11_isSide 1 = .ok (.ifCond .eq 8, 3) := by decide +kernel
theorem dX11_isSide_4 : decode cX11_isSide 4 = .ok (.iload_n 0, 1) := by decide +kernel
theorem dX11_isSide_5 : decode cX11_isSide 5 = .ok (.iconst 1, 1) := by decide +kernel
theorem dX11_isSide_6 : decode cX11_isSide 6 = .ok (.if_icmp .ne 7, 3) := by decide +kernel
theorem dX11_isSide_9 : decode cX11_isSide 9 = .ok (.iconst 1, 1) := by decide +kernel
theorem dX11_isSide_10 : decode cX11_isSide 10 = .ok (.goto 4, 3) := by decide +kernel
theorem dX11_isSide_13 : decode cX11_isSide 13 = .ok (.iconst 0, 1) := by decide +kernel
theorem dX11_isSide_14 : decode cX11_isSide 14 = .ok (.ireturn, 1) := by decide +kernel
theorem dX11_isPart_0 : decode cX11_isPart 0 = .ok (.iload_n 0, 1) := by decide +kernel
theorem dX11_isPart_1 : decode cX11_isPart 1 = .ok (.ifCond .lt 12, 3) := by decide +kernel
theorem dX11_isPart_4 : decode cX11_isPart 4 = .ok (.iload_n 0, 1) := by decide +kernel
theorem dX11_isPart_5 : decode cX11_isPart 5 = .ok (.iconst 4, 1) := by decide +kernel
theorem dX11_isPart_6 : decode cX11_isPart 6 = .ok (.if_icmp .ge 7, 3) := by decide +kernel
theorem dX11_isPart_9 : decode cX11_isPart 9 = .ok (.iconst 1, 1) := by decide +kernel
theorem dX11_isPart_10 : decode cX11_isPart 10 = .ok (.goto 4, 3) := by decide +kernel
theorem dX11_isPart_13 : decode cX11_isPart 13 = .ok (.iconst 0, 1) := by decide +kernel
theorem dX11_isPart_14 : decode cX11_isPart 14 = .ok (.ireturn, 1) := by decide +kernel
theorem dX11_isInReach_0 : decode cX11_isInReach 0 = .ok (.iload_n 0, 1) := by decide +kernel
theorem dX11_isInReach_1 : decode cX11_isInReach 1 = .ok (.bipush (-24), 2) := by decide +kernel
theorem dX11_isInReach_3 : decode cX11_isInReach 3 = .ok (.if_icmp .lt 13, 3) := by decide +kernel
theorem dX11_isInReach_6 : decode cX11_isInReach 6 = .ok (.iload_n 0, 1) := by decide +kernel
theorem dX11_isInReach_7 : decode cX11_isInReach 7 = .ok (.bipush 24, 2) := by decide +kernel
theorem dX11_isInReach_9 : decode cX11_isInReach 9 = .ok (.if_icmp .gt 7, 3) := by decide +kernel
theorem dX11_isInReach_12 : decode cX11_isInReach 12 = .ok (.iconst 1, 1) := by decide +kernel
theorem dX11_isInReach_13 : decode cX11_isInReach 13 = .ok (.goto 4, 3) := by decide +kernel
theorem dX11_isInReach_16 : decode cX11_isInReach 16 = .ok (.iconst 0, 1) := by decide +kernel
theorem dX11_isInReach_17 : decode cX11_isInReach 17 = .ok (.ireturn, 1) := by decide +kernel
theorem dX11_newQuats_0 : decode cX11_newQuats 0 = .ok (.iload_n 0, 1) := by decide +kernel
theorem dX11_newQuats_1 : decode cX11_newQuats 1 = .ok (.iconst 0, 1) := by decide +kernel
theorem dX11_newQuats_2 : decode cX11_newQuats 2 = .ok (.invokestatic 303, 3) := by decide +kernel
theorem dX11_newQuats_5 : decode cX11_newQuats 5 = .ok (.anewarray 82, 3) := by decide +kernel
theorem dX11_newQuats_8 : decode cX11_newQuats 8 = .ok (.astore_n 1, 1) := by decide +kernel
theorem dX11_newQuats_9 : decode cX11_newQuats 9 = .ok (.iconst 0, 1) := by decide +kernel
theorem dX11_newQuats_10 : decode cX11_newQuats 10 = .ok (.istore_n 2, 1) := by decide +kernel
theorem dX11_newQuats_11 : decode cX11_newQuats 11 = .ok (.iload_n 2, 1) := by decide +kernel
theorem dX11_newQuats_12 : decode cX11_newQuats 12 = .ok (.aload_n 1, 1) := by decide +kernel
theorem dX11_newQuats_13 : decode cX11_newQuats 13 = .ok (.arraylength, 1) := by decide +kernel
theorem dX11_newQuats_14 : decode cX11_newQuats 14 = .ok (.if_icmp .ge 19, 3) := by decide +kernel
theorem dX11_newQuats_17 : decode cX11_newQuats 17 = .ok (.aload_n 1, 1) := by decide +kernel
theorem dX11_newQuats_18 : decode cX11_newQuats 18 = .ok (.iload_n 2, 1) := by decide +kernel
theorem dX11_newQuats_19 : decode cX11_newQuats 19 = .ok (.new 82, 3) := by decide +kernel
theorem dX11_newQuats_22 : decode cX11_newQuats 22 = .ok (.dup, 1) := by decide +kernel
theorem dX11_newQuats_23 : decode cX11_newQuats 23 = .ok (.invokespecial 84, 3) := by decide +kernel
theorem dX11_newQuats_26 : decode cX11_newQuats 26 = .ok (.aastore, 1) := by decide +kernel
theorem dX11_newQuats_27 : decode cX11_newQuats 27 = .ok (.iinc 2 1, 3) := by decide +kernel
theorem dX11_newQuats_30 : decode cX11_newQuats 30 = .ok (.goto (-19), 3) := by decide +kernel
theorem dX11_newQuats_33 : decode cX11_newQuats 33 = .ok (.aload_n 1, 1) := by decide +kernel
theorem dX11_newQuats_34 : decode cX11_newQuats 34 = .ok (.areturn, 1) := by decide +kernel
theorem dX11_primeFactors_0 : decode cX11_primeFactors 0 = .ok (.iload_n 0, 1) := by decide +kernel
theorem dX11_primeFactors_1 : decode cX11_primeFactors 1 = .ok (.istore_n 1, 1) := by decide +kernel
theorem dX11_primeFactors_2 : decode cX11_primeFactors 2 = .ok (.iconst 0, 1) := by decide +kernel
theorem dX11_primeFactors_3 : decode cX11_primeFactors 3 = .ok (.istore_n 2, 1) := by decide +kernel
theorem dX11_primeFactors_4 : decode cX11_primeFactors 4 = .ok (.iconst 2, 1) := by decide +kernel
theorem dX11_primeFactors_5 : decode cX11_primeFactors 5 = .ok (.istore_n 3, 1) := by decide +kernel
theorem dX11_primeFactors_6 : decode cX11_primeFactors 6 = .ok (.iload_n 3, 1) := by decide +kernel
theorem dX11_primeFactors_7 : decode cX11_primeFactors 7 = .ok (.iload_n 0, 1) := by decide +kernel
theorem dX11_primeFactors_8 : decode cX11_primeFactors 8 = .ok (.if_icmp .gt 43, 3) := by decide +kernel
theorem dX11_primeFactors_11 : decode cX11_primeFactors 11 = .ok (.iconst 0, 1) := by decide +kernel
theorem dX11_primeFactors_12 : decode cX11_primeFactors 12 = .ok (.istore 4, 2) := by decide +kernel
theorem dX11_primeFactors_14 : decode cX11_primeFactors 14 = .ok (.iload 4, 2) := by decide +kernel
theorem dX11_primeFactors_16 : decode cX11_primeFactors 16 = .ok (.bipush 8, 2) := by decide +kernel
theorem dX11_primeFactors_18 : decode cX11_primeFactors 18 = .ok (.if_icmp .ge 27, 3) := by decide +kernel
theorem dX11_primeFactors_21 : decode cX11_primeFactors 21 = .ok (.iload_n 1, 1) := by decide +kernel
theorem dX11_primeFactors_22 : decode cX11_primeFactors 22 = .ok (.iconst 1, 1) := by decide +kernel
theorem dX11_primeFactors_23 : decode cX11_primeFactors 23 = .ok (.if_icmp .le 22, 3) := by decide +kernel
theorem dX11_primeFactors_26 : decode cX11_primeFactors 26 = .ok (.iload_n 1, 1) := by decide +kernel
theorem dX11_primeFactors_27 : decode cX11_primeFactors 27 = .ok (.iload_n 3, 1) := by decide +kernel
theorem dX11_primeFactors_28 : decode cX11_primeFactors 28 = .ok (.irem, 1) := by decide +kernel
theorem dX11_primeFactors_29 : decode cX11_primeFactors 29 = .ok (.ifCond .ne 16, 3) := by decide +kernel
theorem dX11_primeFactors_32 : decode cX11_primeFactors 32 = .ok (.iload_n 1, 1) := by decide +kernel
theorem dX11_primeFactors_33 : decode cX11_primeFactors 33 = .ok (.iload_n 3, 1) := by decide +kernel
theorem dX11_primeFactors_34 : decode cX11_primeFactors 34 = .ok (.idiv, 1) := by decide +kernel
theorem dX11_primeFactors_35 : decode cX11_primeFactors 35 = .ok (.istore_n 1, 1) := by decide +kernel
theorem dX11_primeFactors_36 : decode cX11_primeFactors 36 = .ok (.iinc 2 1, 3) := by decide +kernel
theorem dX11_primeFactors_39 : decode cX11_primeFactors 39 = .ok (.iinc 4 1, 3) := by decide +kernel
theorem dX11_primeFactors_42 : decode cX11_primeFactors 42 = .ok (.goto (-28), 3) := by decide +kernel
theorem dX11_primeFactors_45 : decode cX11_primeFactors 45 = .ok (.iinc 3 1, 3) := by decide +kernel
theorem dX11_primeFactors_48 : decode cX11_primeFactors 48 = .ok (.goto (-42), 3) := by decide +kernel
theorem dX11_primeFactors_51 : decode cX11_primeFactors 51 = .ok (.iload_n 2, 1) := by decide +kernel
theorem dX11_primeFactors_52 : decode cX11_primeFactors 52 = .ok (.ireturn, 1) := by decide +kernel
theorem dX11_calculate_0 : decode cX11_calculate 0 = .ok (.iload_n 0, 1) := by decide +kernel
theorem dX11_calculate_1 : decode cX11_calculate 1 = .ok (.tableswitch 75 0 4 #[35, 39, 43, 47, 61], 35) := by decide +kernel
theorem dX11_calculate_36 : decode cX11_calculate 36 = .ok (.lload_n 1, 1) := by decide +kernel
theorem dX11_calculate_37 : decode cX11_calculate 37 = .ok (.lload_n 3, 1) := by decide +kernel
theorem dX11_calculate_38 : decode cX11_calculate 38 = .ok (.ladd, 1) := by decide +kernel
theorem dX11_calculate_39 : decode cX11_calculate 39 = .ok (.lreturn, 1) := by decide +kernel
theorem dX11_calculate_40 : decode cX11_calculate 40 = .ok (.lload_n 1, 1) := by decide +kernel
theorem dX11_calculate_41 : decode cX11_calculate 41 = .ok (.lload_n 3, 1) := by decide +kernel
theorem dX11_calculate_42 : decode cX11_calculate 42 = .ok (.lsub, 1) := by decide +kernel
theorem dX11_calculate_43 : decode cX11_calculate 43 = .ok (.lreturn, 1) := by decide +kernel
theorem dX11_calculate_44 : decode cX11_calculate 44 = .ok (.lload_n 1, 1) := by decide +kernel
theorem dX11_calculate_45 : decode cX11_calculate 45 = .ok (.lload_n 3, 1) := by decide +kernel
theorem dX11_calculate_46 : decode cX11_calculate 46 = .ok (.lmul, 1) := by decide +kernel
theorem dX11_calculate_47 : decode cX11_calculate 47 = .ok (.lreturn, 1) := by decide +kernel
theorem dX11_calculate_48 : decode cX11_calculate 48 = .ok (.lload_n 3, 1) := by decide +kernel
theorem dX11_calculate_49 : decode cX11_calculate 49 = .ok (.lconst 0, 1) := by decide +kernel
theorem dX11_calculate_50 : decode cX11_calculate 50 = .ok (.lcmp, 1) := by decide +kernel
theorem dX11_calculate_51 : decode cX11_calculate 51 = .ok (.ifCond .ne 7, 3) := by decide +kernel
theorem dX11_calculate_54 : decode cX11_calculate 54 = .ok (.lconst 0, 1) := by decide +kernel
theorem dX11_calculate_55 : decode cX11_calculate 55 = .ok (.goto 6, 3) := by decide +kernel
theorem dX11_calculate_58 : decode cX11_calculate 58 = .ok (.lload_n 1, 1) := by decide +kernel
theorem dX11_calculate_59 : decode cX11_calculate 59 = .ok (.lload_n 3, 1) := by decide +kernel
theorem dX11_calculate_60 : decode cX11_calculate 60 = .ok (.ldiv, 1) := by decide +kernel
theorem dX11_calculate_61 : decode cX11_calculate 61 = .ok (.lreturn, 1) := by decide +kernel
theorem dX11_calculate_62 : decode cX11_calculate 62 = .ok (.lload_n 3, 1) := by decide +kernel
theorem dX11_calculate_63 : decode cX11_calculate 63 = .ok (.lconst 0, 1) := by decide +kernel
theorem dX11_calculate_64 : decode cX11_calculate 64 = .ok (.lcmp, 1) := by decide +kernel
theorem dX11_calculate_65 : decode cX11_calculate 65 = .ok (.ifCond .ne 7, 3) := by decide +kernel
theorem dX11_calculate_68 : decode cX11_calculate 68 = .ok (.lconst 0, 1) := by decide +kernel
theorem dX11_calculate_69 : decode cX11_calculate 69 = .ok (.goto 6, 3) := by decide +kernel
theorem dX11_calculate_72 : decode cX11_calculate 72 = .ok (.lload_n 1, 1) := by decide +kernel
theorem dX11_calculate_73 : decode cX11_calculate 73 = .ok (.lload_n 3, 1) := by decide +kernel
theorem dX11_calculate_74 : decode cX11_calculate 74 = .ok (.lrem, 1) := by decide +kernel
theorem dX11_calculate_75 : decode cX11_calculate 75 = .ok (.lreturn, 1) := by decide +kernel
theorem dX11_calculate_76 : decode cX11_calculate 76 = .ok (.lload_n 3, 1) := by decide +kernel
theorem dX11_calculate_77 : decode cX11_calculate 77 = .ok (.lreturn, 1) := by decide +kernel
theorem dX11_unitNumber_0 : decode cX11_unitNumber 0 = .ok (.iconst 0, 1) := by decide +kernel
theorem dX11_unitNumber_1 : decode cX11_unitNumber 1 = .ok (.istore_n 2, 1) := by decide +kernel
theorem dX11_unitNumber_2 : decode cX11_unitNumber 2 = .ok (.iload_n 2, 1) := by decide +kernel
theorem dX11_unitNumber_3 : decode cX11_unitNumber 3 = .ok (.bipush 24, 2) := by decide +kernel
theorem dX11_unitNumber_5 : decode cX11_unitNumber 5 = .ok (.if_icmp .ge 30, 3) := by decide +kernel
theorem dX11_unitNumber_8 : decode cX11_unitNumber 8 = .ok (.aload_n 0, 1) := by decide +kernel
theorem dX11_unitNumber_9 : decode cX11_unitNumber 9 = .ok (.getfield 89, 3) := by decide +kernel
theorem dX11_unitNumber_12 : decode cX11_unitNumber 12 = .ok (.iload_n 2, 1) := by decide +kernel
theorem dX11_unitNumber_13 : decode cX11_unitNumber 13 = .ok (.invokevirtual 308, 3) := by decide +kernel
theorem dX11_unitNumber_16 : decode cX11_unitNumber 16 = .ok (.aload_n 0, 1) := by decide +kernel
theorem dX11_unitNumber_17 : decode cX11_unitNumber 17 = .ok (.getfield 89, 3) := by decide +kernel
theorem dX11_unitNumber_20 : decode cX11_unitNumber 20 = .ok (.aload_n 1, 1) := by decide +kernel
theorem dX11_unitNumber_21 : decode cX11_unitNumber 21 = .ok (.invokevirtual 311, 3) := by decide +kernel
theorem dX11_unitNumber_24 : decode cX11_unitNumber 24 = .ok (.ifCond .eq 5, 3) := by decide +kernel
theorem dX11_unitNumber_27 : decode cX11_unitNumber 27 = .ok (.iload_n 2, 1) := by decide +kernel
theorem dX11_unitNumber_28 : decode cX11_unitNumber 28 = .ok (.ireturn, 1) := by decide +kernel
theorem dX11_unitNumber_29 : decode cX11_unitNumber 29 = .ok (.iinc 2 1, 3) := by decide +kernel
theorem dX11_unitNumber_32 : decode cX11_unitNumber 32 = .ok (.goto (-30), 3) := by decide +kernel
theorem dX11_unitNumber_35 : decode cX11_unitNumber 35 = .ok (.iconst (-1), 1) := by decide +kernel
theorem dX11_unitNumber_36 : decode cX11_unitNumber 36 = .ok (.ireturn, 1) := by decide +kernel
theorem dX11_change_0 : decode cX11_change 0 = .ok (.iload_n 1, 1) := by decide +kernel
theorem dX11_change_1 : decode cX11_change 1 = .ok (.invokestatic 125, 3) := by decide +kernel
theorem dX11_change_4 : decode cX11_change 4 = .ok (.ifCond .ne 7, 3) := by decide +kernel
theorem dX11_change_7 : decode cX11_change 7 = .ok (.sipush (-1001), 3) := by decide +kernel
theorem dX11_change_10 : decode cX11_change 10 = .ok (.ireturn, 1) := by decide +kernel
theorem dX11_change_11 : decode cX11_change 11 = .ok (.aload_n 0, 1) := by decide +kernel
theorem dX11_change_12 : decode cX11_change 12 = .ok (.getfield 34, 3) := by decide +kernel
theorem dX11_change_15 : decode cX11_change 15 = .ok (.iload_n 1, 1) := by decide +kernel
theorem dX11_change_16 : decode cX11_change 16 = .ok (.aload_n 0, 1) := by decide +kernel
theorem dX11_change_17 : decode cX11_change 17 = .ok (.getfield 13, 3) := by decide +kernel
theorem dX11_change_20 : decode cX11_change 20 = .ok (.iload_n 1, 1) := by decide +kernel
theorem dX11_change_21 : decode cX11_change 21 = .ok (.aaload, 1) := by decide +kernel
theorem dX11_change_22 : decode cX11_change 22 = .ok (.invokevirtual 315, 3) := by decide +kernel
theorem dX11_change_25 : decode cX11_change 25 = .ok (.aload_n 0, 1) := by decide +kernel
theorem dX11_change_26 : decode cX11_change 26 = .ok (.getfield 13, 3) := by decide +kernel
theorem dX11_change_29 : decode cX11_change 29 = .ok (.iload_n 1, 1) := by decide +kernel
theorem dX11_change_30 : decode cX11_change 30 = .ok (.aaload, 1) := by decide +kernel
theorem dX11_change_31 : decode cX11_change 31 = .ok (.aload_n 2, 1) := by decide +kernel
theorem dX11_change_32 : decode cX11_change 32 = .ok (.invokevirtual 218, 3) := by decide +kernel
theorem dX11_change_35 : decode cX11_change 35 = .ok (.aload_n 2, 1) := by decide +kernel
theorem dX11_change_36 : decode cX11_change 36 = .ok (.invokevirtual 139, 3) := by decide +kernel
theorem dX11_change_39 : decode cX11_change 39 = .ok (.ireturn, 1) := by decide +kernel
theorem dX11_doClause_0 : decode cX11_doClause 0 = .ok (.aload_n 0, 1) := by decide +kernel
theorem dX11_doClause_1 : decode cX11_doClause 1 = .ok (.getfield 41, 3) := by decide +kernel
theorem dX11_doClause_4 : decode cX11_doClause 4 = .ok (.iload_n 1, 1) := by decide +kernel
theorem dX11_doClause_5 : decode cX11_doClause 5 = .ok (.iconst 1, 1) := by decide +kernel
theorem dX11_doClause_6 : decode cX11_doClause 6 = .ok (.invokevirtual 318, 3) := by decide +kernel
theorem dX11_doClause_9 : decode cX11_doClause 9 = .ok (.istore_n 2, 1) := by decide +kernel
theorem dX11_doClause_10 : decode cX11_doClause 10 = .ok (.aload_n 0, 1) := by decide +kernel
theorem dX11_doClause_11 : decode cX11_doClause 11 = .ok (.getfield 41, 3) := by decide +kernel
theorem dX11_doClause_14 : decode cX11_doClause 14 = .ok (.iload_n 1, 1) := by decide +kernel
theorem dX11_doClause_15 : decode cX11_doClause 15 = .ok (.iconst 2, 1) := by decide +kernel
theorem dX11_doClause_16 : decode cX11_doClause 16 = .ok (.invokevirtual 318, 3) := by decide +kernel
theorem dX11_doClause_19 : decode cX11_doClause 19 = .ok (.istore_n 3, 1) := by decide +kernel
theorem dX11_doClause_20 : decode cX11_doClause 20 = .ok (.iload_n 2, 1) := by decide +kernel
theorem dX11_doClause_21 : decode cX11_doClause 21 = .ok (.invokestatic 125, 3) := by decide +kernel
theorem dX11_doClause_24 : decode cX11_doClause 24 = .ok (.ifCond .ne 4, 3) := by decide +kernel
theorem dX11_doClause_27 : decode cX11_doClause 27 = .ok (.return_, 1) := by decide +kernel
theorem dX11_doClause_28 : decode cX11_doClause 28 = .ok (.aload_n 0, 1) := by decide +kernel
theorem dX11_doClause_29 : decode cX11_doClause 29 = .ok (.getfield 41, 3) := by decide +kernel
theorem dX11_doClause_32 : decode cX11_doClause 32 = .ok (.iload_n 1, 1) := by decide +kernel
theorem dX11_doClause_33 : decode cX11_doClause 33 = .ok (.iconst 0, 1) := by decide +kernel
theorem dX11_doClause_34 : decode cX11_doClause 34 = .ok (.invokevirtual 318, 3) := by decide +kernel
theorem dX11_doClause_37 : decode cX11_doClause 37 = .ok (.tableswitch 142 0 3 #[31, 64, 104, 117], 31) := by decide +kernel
theorem dX11_doClause_68 : decode cX11_doClause 68 = .ok (.iconst 0, 1) := by decide +kernel
theorem dX11_doClause_69 : decode cX11_doClause 69 = .ok (.istore 4, 2) := by decide +kernel
theorem dX11_doClause_71 : decode cX11_doClause 71 = .ok (.iload 4, 2) := by decide +kernel
theorem dX11_doClause_73 : decode cX11_doClause 73 = .ok (.bipush 6, 2) := by decide +kernel
theorem dX11_doClause_75 : decode cX11_doClause 75 = .ok (.if_icmp .ge 23, 3) := by decide +kernel
theorem dX11_doClause_78 : decode cX11_doClause 78 = .ok (.aload_n 0, 1) := by decide +kernel
theorem dX11_doClause_79 : decode cX11_doClause 79 = .ok (.getfield 13, 3) := by decide +kernel
theorem dX11_doClause_82 : decode cX11_doClause 82 = .ok (.iload 4, 2) := by decide +kernel
theorem dX11_doClause_84 : decode cX11_doClause 84 = .ok (.aaload, 1) := by decide +kernel
theorem dX11_doClause_85 : decode cX11_doClause 85 = .ok (.iconst 0, 1) := by decide +kernel
theorem dX11_doClause_86 : decode cX11_doClause 86 = .ok (.iconst 0, 1) := by decide +kernel
theorem dX11_doClause_87 : decode cX11_doClause 87 = .ok (.iconst 0, 1) := by decide +kernel
theorem dX11_doClause_88 : decode cX11_doClause 88 = .ok (.iconst 0, 1) := by decide +kernel
theorem dX11_doClause_89 : decode cX11_doClause 89 = .ok (.invokevirtual 169, 3) := by decide +kernel
theorem dX11_doClause_92 : decode cX11_doClause 92 = .ok (.iinc 4 1, 3) := by decide +kernel
theorem dX11_doClause_95 : decode cX11_doClause 95 = .ok (.goto (-24), 3) := by decide +kernel
theorem dX11_doClause_98 : decode cX11_doClause 98 = .ok (.goto 81, 3) := by decide +kernel
theorem dX11_doClause_101 : decode cX11_doClause 101 = .ok (.aload_n 0, 1) := by decide +kernel
theorem dX11_doClause_102 : decode cX11_doClause 102 = .ok (.getfield 13, 3) := by decide +kernel
theorem dX11_doClause_105 : decode cX11_doClause 105 = .ok (.iload_n 2, 1) := by decide +kernel
theorem dX11_doClause_106 : decode cX11_doClause 106 = .ok (.aaload, 1) := by decide +kernel
theorem dX11_doClause_107 : decode cX11_doClause 107 = .ok (.iload_n 3, 1) := by decide +kernel
theorem dX11_doClause_108 : decode cX11_doClause 108 = .ok (.aload_n 0, 1) := by decide +kernel
theorem dX11_doClause_109 : decode cX11_doClause 109 = .ok (.getfield 41, 3) := by decide +kernel
theorem dX11_doClause_112 : decode cX11_doClause 112 = .ok (.iload_n 1, 1) := by decide +kernel
theorem dX11_doClause_113 : decode cX11_doClause 113 = .ok (.iconst 3, 1) := by decide +kernel
theorem dX11_doClause_114 : decode cX11_doClause 114 = .ok (.invokevirtual 318, 3) := by decide +kernel
theorem dX11_doClause_117 : decode cX11_doClause 117 = .ok (.aload_n 0, 1) := by decide +kernel
theorem dX11_doClause_118 : decode cX11_doClause 118 = .ok (.getfield 41, 3) := by decide +kernel
theorem dX11_doClause_121 : decode cX11_doClause 121 = .ok (.iload_n 1, 1) := by decide +kernel
theorem dX11_doClause_122 : decode cX11_doClause 122 = .ok (.iconst 4, 1) := by decide +kernel
theorem dX11_doClause_123 : decode cX11_doClause 123 = .ok (.invokevirtual 318, 3) := by decide +kernel
theorem dX11_doClause_126 : decode cX11_doClause 126 = .ok (.aload_n 0, 1) := by decide +kernel
theorem dX11_doClause_127 : decode cX11_doClause 127 = .ok (.getfield 41, 3) := by decide +kernel
theorem dX11_doClause_130 : decode cX11_doClause 130 = .ok (.iload_n 1, 1) := by decide +kernel
theorem dX11_doClause_131 : decode cX11_doClause 131 = .ok (.iconst 5, 1) := by decide +kernel
theorem dX11_doClause_132 : decode cX11_doClause 132 = .ok (.invokevirtual 318, 3) := by decide +kernel
theorem dX11_doClause_135 : decode cX11_doClause 135 = .ok (.invokevirtual 169, 3) := by decide +kernel
theorem dX11_doClause_138 : decode cX11_doClause 138 = .ok (.goto 41, 3) := by decide +kernel
theorem dX11_doClause_141 : decode cX11_doClause 141 = .ok (.aload_n 0, 1) := by decide +kernel
theorem dX11_doClause_142 : decode cX11_doClause 142 = .ok (.getfield 13, 3) := by decide +kernel
theorem dX11_doClause_145 : decode cX11_doClause 145 = .ok (.iload_n 2, 1) := by decide +kernel
theorem dX11_doClause_146 : decode cX11_doClause 146 = .ok (.aaload, 1) := by decide +kernel
theorem dX11_doClause_147 : decode cX11_doClause 147 = .ok (.iload_n 3, 1) := by decide +kernel
theorem dX11_doClause_148 : decode cX11_doClause 148 = .ok (.invokevirtual 308, 3) := by decide +kernel
theorem dX11_doClause_151 : decode cX11_doClause 151 = .ok (.goto 28, 3) := by decide +kernel
theorem dX11_doClause_154 : decode cX11_doClause 154 = .ok (.iload_n 3, 1) := by decide +kernel
theorem dX11_doClause_155 : decode cX11_doClause 155 = .ok (.invokestatic 125, 3) := by decide +kernel
theorem dX11_doClause_158 : decode cX11_doClause 158 = .ok (.ifCond .eq 21, 3) := by decide +kernel
theorem dX11_doClause_161 : decode cX11_doClause 161 = .ok (.aload_n 0, 1) := by decide +kernel
theorem dX11_doClause_162 : decode cX11_doClause 162 = .ok (.getfield 13, 3) := by decide +kernel
theorem dX11_doClause_165 : decode cX11_doClause 165 = .ok (.iload_n 2, 1) := by decide +kernel
theorem dX11_doClause_166 : decode cX11_doClause 166 = .ok (.aaload, 1) := by decide +kernel
theorem dX11_doClause_167 : decode cX11_doClause 167 = .ok (.aload_n 0, 1) := by decide +kernel
theorem dX11_doClause_168 : decode cX11_doClause 168 = .ok (.getfield 13, 3) := by decide +kernel
theorem dX11_doClause_171 : decode cX11_doClause 171 = .ok (.iload_n 3, 1) := by decide +kernel
theorem dX11_doClause_172 : decode cX11_doClause 172 = .ok (.aaload, 1) := by decide +kernel
theorem dX11_doClause_173 : decode cX11_doClause 173 = .ok (.invokevirtual 218, 3) := by decide +kernel
theorem dX11_doClause_176 : decode cX11_doClause 176 = .ok (.goto 3, 3) := by decide +kernel
theorem dX11_doClause_179 : decode cX11_doClause 179 = .ok (.return_, 1) := by decide +kernel
theorem dX11_filledSlots_0 : decode cX11_filledSlots 0 = .ok (.iconst 0, 1) := by decide +kernel
theorem dX11_filledSlots_1 : decode cX11_filledSlots 1 = .ok (.istore_n 1, 1) := by decide +kernel
theorem dX11_filledSlots_2 : decode cX11_filledSlots 2 = .ok (.iconst 0, 1) := by decide +kernel
theorem dX11_filledSlots_3 : decode cX11_filledSlots 3 = .ok (.istore_n 2, 1) := by decide +kernel
theorem dX11_filledSlots_4 : decode cX11_filledSlots 4 = .ok (.iload_n 2, 1) := by decide +kernel
theorem dX11_filledSlots_5 : decode cX11_filledSlots 5 = .ok (.bipush 6, 2) := by decide +kernel
theorem dX11_filledSlots_7 : decode cX11_filledSlots 7 = .ok (.if_icmp .ge 24, 3) := by decide +kernel
theorem dX11_filledSlots_10 : decode cX11_filledSlots 10 = .ok (.aload_n 0, 1) := by decide +kernel
theorem dX11_filledSlots_11 : decode cX11_filledSlots 11 = .ok (.getfield 13, 3) := by decide +kernel
theorem dX11_filledSlots_14 : decode cX11_filledSlots 14 = .ok (.iload_n 2, 1) := by decide +kernel
theorem dX11_filledSlots_15 : decode cX11_filledSlots 15 = .ok (.aaload, 1) := by decide +kernel
theorem dX11_filledSlots_16 : decode cX11_filledSlots 16 = .ok (.invokevirtual 136, 3) := by decide +kernel
theorem dX11_filledSlots_19 : decode cX11_filledSlots 19 = .ok (.ifCond .ne 6, 3) := by decide +kernel
theorem dX11_filledSlots_22 : decode cX11_filledSlots 22 = .ok (.iinc 1 1, 3) := by decide +kernel
theorem dX11_filledSlots_25 : decode cX11_filledSlots 25 = .ok (.iinc 2 1, 3) := by decide +kernel
theorem dX11_filledSlots_28 : decode cX11_filledSlots 28 = .ok (.goto (-24), 3) := by decide +kernel
theorem dX11_filledSlots_31 : decode cX11_filledSlots 31 = .ok (.iload_n 1, 1) := by decide +kernel
theorem dX11_filledSlots_32 : decode cX11_filledSlots 32 = .ok (.ireturn, 1) := by decide +kernel
theorem dX11_allNorms_0 : decode cX11_allNorms 0 = .ok (.iconst 0, 1) := by decide +kernel
theorem dX11_allNorms_1 : decode cX11_allNorms 1 = .ok (.istore_n 1, 1) := by decide +kernel
theorem dX11_allNorms_2 : decode cX11_allNorms 2 = .ok (.iconst 0, 1) := by decide +kernel
theorem dX11_allNorms_3 : decode cX11_allNorms 3 = .ok (.istore_n 2, 1) := by decide +kernel
theorem dX11_allNorms_4 : decode cX11_allNorms 4 = .ok (.iload_n 2, 1) := by decide +kernel
theorem dX11_allNorms_5 : decode cX11_allNorms 5 = .ok (.bipush 6, 2) := by decide +kernel
theorem dX11_allNorms_7 : decode cX11_allNorms 7 = .ok (.if_icmp .ge 21, 3) := by decide +kernel
theorem dX11_allNorms_10 : decode cX11_allNorms 10 = .ok (.iload_n 1, 1) := by decide +kernel
theorem dX11_allNorms_11 : decode cX11_allNorms 11 = .ok (.aload_n 0, 1) := by decide +kernel
theorem dX11_allNorms_12 : decode cX11_allNorms 12 = .ok (.getfield 13, 3) := by decide +kernel
theorem dX11_allNorms_15 : decode cX11_allNorms 15 = .ok (.iload_n 2, 1) := by decide +kernel
theorem dX11_allNorms_16 : decode cX11_allNorms 16 = .ok (.aaload, 1) := by decide +kernel
theorem dX11_allNorms_17 : decode cX11_allNorms 17 = .ok (.invokevirtual 139, 3) := by decide +kernel
theorem dX11_allNorms_20 : decode cX11_allNorms 20 = .ok (.iadd, 1) := by decide +kernel
theorem dX11_allNorms_21 : decode cX11_allNorms 21 = .ok (.istore_n 1, 1) := by decide +kernel
theorem dX11_allNorms_22 : decode cX11_allNorms 22 = .ok (.iinc 2 1, 3) := by decide +kernel
theorem dX11_allNorms_25 : decode cX11_allNorms 25 = .ok (.goto (-21), 3) := by decide +kernel
theorem dX11_allNorms_28 : decode cX11_allNorms 28 = .ok (.iload_n 1, 1) := by decide +kernel
theorem dX11_allNorms_29 : decode cX11_allNorms 29 = .ok (.ireturn, 1) := by decide +kernel
theorem dX11_allPlaces_0 : decode cX11_allPlaces 0 = .ok (.iconst 0, 1) := by decide +kernel
theorem dX11_allPlaces_1 : decode cX11_allPlaces 1 = .ok (.istore_n 1, 1) := by decide +kernel
theorem dX11_allPlaces_2 : decode cX11_allPlaces 2 = .ok (.iconst 0, 1) := by decide +kernel
theorem dX11_allPlaces_3 : decode cX11_allPlaces 3 = .ok (.istore_n 2, 1) := by decide +kernel
theorem dX11_allPlaces_4 : decode cX11_allPlaces 4 = .ok (.iload_n 2, 1) := by decide +kernel
theorem dX11_allPlaces_5 : decode cX11_allPlaces 5 = .ok (.iconst 3, 1) := by decide +kernel
theorem dX11_allPlaces_6 : decode cX11_allPlaces 6 = .ok (.if_icmp .ge 21, 3) := by decide +kernel
theorem dX11_allPlaces_9 : decode cX11_allPlaces 9 = .ok (.iload_n 1, 1) := by decide +kernel
theorem dX11_allPlaces_10 : decode cX11_allPlaces 10 = .ok (.aload_n 0, 1) := by decide +kernel
theorem dX11_allPlaces_11 : decode cX11_allPlaces 11 = .ok (.getfield 26, 3) := by decide +kernel
theorem dX11_allPlaces_14 : decode cX11_allPlaces 14 = .ok (.iload_n 2, 1) := by decide +kernel
theorem dX11_allPlaces_15 : decode cX11_allPlaces 15 = .ok (.aaload, 1) := by decide +kernel
theorem dX11_allPlaces_16 : decode cX11_allPlaces 16 = .ok (.invokevirtual 296, 3) := by decide +kernel
theorem dX11_allPlaces_19 : decode cX11_allPlaces 19 = .ok (.iadd, 1) := by decide +kernel
theorem dX11_allPlaces_20 : decode cX11_allPlaces 20 = .ok (.istore_n 1, 1) := by decide +kernel
theorem dX11_allPlaces_21 : decode cX11_allPlaces 21 = .ok (.iinc 2 1, 3) := by decide +kernel
theorem dX11_allPlaces_24 : decode cX11_allPlaces 24 = .ok (.goto (-20), 3) := by decide +kernel
theorem dX11_allPlaces_27 : decode cX11_allPlaces 27 = .ok (.iload_n 1, 1) := by decide +kernel
theorem dX11_allPlaces_28 : decode cX11_allPlaces 28 = .ok (.ireturn, 1) := by decide +kernel
theorem dX11_slotsAheadOf_0 : decode cX11_slotsAheadOf 0 = .ok (.iconst 0, 1) := by decide +kernel
theorem dX11_slotsAheadOf_1 : decode cX11_slotsAheadOf 1 = .ok (.istore_n 2, 1) := by decide +kernel
theorem dX11_slotsAheadOf_2 : decode cX11_slotsAheadOf 2 = .ok (.iconst 0, 1) := by decide +kernel
theorem dX11_slotsAheadOf_3 : decode cX11_slotsAheadOf 3 = .ok (.istore_n 3, 1) := by decide +kernel
theorem dX11_slotsAheadOf_4 : decode cX11_slotsAheadOf 4 = .ok (.iload_n 3, 1) := by decide +kernel
theorem dX11_slotsAheadOf_5 : decode cX11_slotsAheadOf 5 = .ok (.bipush 6, 2) := by decide +kernel
theorem dX11_slotsAheadOf_7 : decode cX11_slotsAheadOf 7 = .ok (.if_icmp .ge 21, 3) := by decide +kernel
theorem dX11_slotsAheadOf_10 : decode cX11_slotsAheadOf 10 = .ok (.aload_n 0, 1) := by decide +kernel
theorem dX11_slotsAheadOf_11 : decode cX11_slotsAheadOf 11 = .ok (.iload_n 3, 1) := by decide +kernel
theorem dX11_slotsAheadOf_12 : decode cX11_slotsAheadOf 12 = .ok (.iload_n 1, 1) := by decide +kernel
theorem dX11_slotsAheadOf_13 : decode cX11_slotsAheadOf 13 = .ok (.invokevirtual 321, 3) := by decide +kernel
theorem dX11_slotsAheadOf_16 : decode cX11_slotsAheadOf 16 = .ok (.ifCond .eq 6, 3) := by decide +kernel
theorem dX11_slotsAheadOf_19 : decode cX11_slotsAheadOf 19 = .ok (.iinc 2 1, 3) := by decide +kernel
theorem dX11_slotsAheadOf_22 : decode cX11_slotsAheadOf 22 = .ok (.iinc 3 1, 3) := by decide +kernel
theorem dX11_slotsAheadOf_25 : decode cX11_slotsAheadOf 25 = .ok (.goto (-21), 3) := by decide +kernel
theorem dX11_slotsAheadOf_28 : decode cX11_slotsAheadOf 28 = .ok (.iload_n 2, 1) := by decide +kernel
theorem dX11_slotsAheadOf_29 : decode cX11_slotsAheadOf 29 = .ok (.ireturn, 1) := by decide +kernel
theorem dX11_isAhead_0 : decode cX11_isAhead 0 = .ok (.iload_n 1, 1) := by decide +kernel
theorem dX11_isAhead_1 : decode cX11_isAhead 1 = .ok (.invokestatic 125, 3) := by decide +kernel
theorem dX11_isAhead_4 : decode cX11_isAhead 4 = .ok (.ifCond .eq 10, 3) := by decide +kernel
theorem dX11_isAhead_7 : decode cX11_isAhead 7 = .ok (.iload_n 2, 1) := by decide +kernel
theorem dX11_isAhead_8 : decode cX11_isAhead 8 = .ok (.invokestatic 125, 3) := by decide +kernel
theorem dX11_isAhead_11 : decode cX11_isAhead 11 = .ok (.ifCond .ne 5, 3) := by decide +kernel
theorem dX11_isAhead_14 : decode cX11_isAhead 14 = .ok (.iconst 0, 1) := by decide +kernel
theorem dX11_isAhead_15 : decode cX11_isAhead 15 = .ok (.ireturn, 1) := by decide +kernel
theorem dX11_isAhead_16 : decode cX11_isAhead 16 = .ok (.aload_n 0, 1) := by decide +kernel
theorem dX11_isAhead_17 : decode cX11_isAhead 17 = .ok (.getfield 13, 3) := by decide +kernel
theorem dX11_isAhead_20 : decode cX11_isAhead 20 = .ok (.iload_n 1, 1) := by decide +kernel
theorem dX11_isAhead_21 : decode cX11_isAhead 21 = .ok (.aaload, 1) := by decide +kernel
theorem dX11_isAhead_22 : decode cX11_isAhead 22 = .ok (.astore_n 3, 1) := by decide +kernel
theorem dX11_isAhead_23 : decode cX11_isAhead 23 = .ok (.aload_n 0, 1) := by decide +kernel
theorem dX11_isAhead_24 : decode cX11_isAhead 24 = .ok (.getfield 13, 3) := by decide +kernel
theorem dX11_isAhead_27 : decode cX11_isAhead 27 = .ok (.iload_n 2, 1) := by decide +kernel
theorem dX11_isAhead_28 : decode cX11_isAhead 28 = .ok (.aaload, 1) := by decide +kernel
theorem dX11_isAhead_29 : decode cX11_isAhead 29 = .ok (.astore 4, 2) := by decide +kernel
theorem dX11_isAhead_31 : decode cX11_isAhead 31 = .ok (.aload_n 3, 1) := by decide +kernel
theorem dX11_isAhead_32 : decode cX11_isAhead 32 = .ok (.invokevirtual 139, 3) := by decide +kernel
theorem dX11_isAhead_35 : decode cX11_isAhead 35 = .ok (.aload 4, 2) := by decide +kernel
theorem dX11_isAhead_37 : decode cX11_isAhead 37 = .ok (.invokevirtual 139, 3) := by decide +kernel
theorem dX11_isAhead_40 : decode cX11_isAhead 40 = .ok (.if_icmp .eq 21, 3) := by decide +kernel
theorem dX11_isAhead_43 : decode cX11_isAhead 43 = .ok (.aload_n 3, 1) := by decide +kernel
theorem dX11_isAhead_44 : decode cX11_isAhead 44 = .ok (.invokevirtual 139, 3) := by decide +kernel
theorem dX11_isAhead_47 : decode cX11_isAhead 47 = .ok (.aload 4, 2) := by decide +kernel
theorem dX11_isAhead_49 : decode cX11_isAhead 49 = .ok (.invokevirtual 139, 3) := by decide +kernel
theorem dX11_isAhead_52 : decode cX11_isAhead 52 = .ok (.if_icmp .ge 7, 3) := by decide +kernel
theorem dX11_isAhead_55 : decode cX11_isAhead 55 = .ok (.iconst 1, 1) := by decide +kernel
theorem dX11_isAhead_56 : decode cX11_isAhead 56 = .ok (.goto 4, 3) := by decide +kernel
theorem dX11_isAhead_59 : decode cX11_isAhead 59 = .ok (.iconst 0, 1) := by decide +kernel
theorem dX11_isAhead_60 : decode cX11_isAhead 60 = .ok (.ireturn, 1) := by decide +kernel
theorem dX11_isAhead_61 : decode cX11_isAhead 61 = .ok (.aload_n 3, 1) := by decide +kernel
theorem dX11_isAhead_62 : decode cX11_isAhead 62 = .ok (.aload 4, 2) := by decide +kernel
theorem dX11_isAhead_64 : decode cX11_isAhead 64 = .ok (.invokevirtual 311, 3) := by decide +kernel
theorem dX11_isAhead_67 : decode cX11_isAhead 67 = .ok (.ifCond .eq 16, 3) := by decide +kernel
theorem dX11_isAhead_70 : decode cX11_isAhead 70 = .ok (.iload_n 1, 1) := by decide +kernel
theorem dX11_isAhead_71 : decode cX11_isAhead 71 = .ok (.iload_n 2, 1) := by decide +kernel
theorem dX11_isAhead_72 : decode cX11_isAhead 72 = .ok (.if_icmp .ge 7, 3) := by decide +kernel
theorem dX11_isAhead_75 : decode cX11_isAhead 75 = .ok (.iconst 1, 1) := by decide +kernel
theorem dX11_isAhead_76 : decode cX11_isAhead 76 = .ok (.goto 13, 3) := by decide +kernel
theorem dX11_isAhead_79 : decode cX11_isAhead 79 = .ok (.iconst 0, 1) := by decide +kernel
theorem dX11_isAhead_80 : decode cX11_isAhead 80 = .ok (.goto 9, 3) := by decide +kernel
theorem dX11_isAhead_83 : decode cX11_isAhead 83 = .ok (.aload_n 3, 1) := by decide +kernel
theorem dX11_isAhead_84 : decode cX11_isAhead 84 = .ok (.aload 4, 2) := by decide +kernel
theorem dX11_isAhead_86 : decode cX11_isAhead 86 = .ok (.invokevirtual 325, 3) := by decide +kernel
theorem dX11_isAhead_89 : decode cX11_isAhead 89 = .ok (.ireturn, 1) := by decide +kernel
