/-! decode rows -/
theorem dL_most_0 : decode cL_most 0 = .ok (.iload_n 0, 1) := by decide +kernel
theorem dL_most_1 : decode cL_most 1 = .ok (.ldc 7, 2) := by decide +kernel
theorem dL_most_3 : decode cL_most 3 = .ok (.iand, 1) := by decide +kernel
theorem dL_most_4 : decode cL_most 4 = .ok (.iload_n 1, 1) := by decide +kernel
theorem dL_most_5 : decode cL_most 5 = .ok (.irem, 1) := by decide +kernel
theorem dL_most_6 : decode cL_most 6 = .ok (.ireturn, 1) := by decide +kernel
theorem dL_cell_0 : decode cL_cell 0 = .ok (.iload_n 1, 1) := by decide +kernel
theorem dL_cell_1 : decode cL_cell 1 = .ok (.aload_n 0, 1) := by decide +kernel
theorem dL_cell_2 : decode cL_cell 2 = .ok (.arraylength, 1) := by decide +kernel
theorem dL_cell_3 : decode cL_cell 3 = .ok (.if_icmp .ge 9, 3) := by decide +kernel
theorem dL_cell_6 : decode cL_cell 6 = .ok (.aload_n 0, 1) := by decide +kernel
theorem dL_cell_7 : decode cL_cell 7 = .ok (.iload_n 1, 1) := by decide +kernel
theorem dL_cell_8 : decode cL_cell 8 = .ok (.iaload, 1) := by decide +kernel
theorem dL_cell_9 : decode cL_cell 9 = .ok (.goto 7, 3) := by decide +kernel
theorem dL_cell_12 : decode cL_cell 12 = .ok (.bipush 37, 2) := by decide +kernel
theorem dL_cell_14 : decode cL_cell 14 = .ok (.iload_n 1, 1) := by decide +kernel
theorem dL_cell_15 : decode cL_cell 15 = .ok (.imul, 1) := by decide +kernel
theorem dL_cell_16 : decode cL_cell 16 = .ok (.ireturn, 1) := by decide +kernel
theorem dL_add_0 : decode cL_add 0 = .ok (.aload_n 1, 1) := by decide +kernel
theorem dL_add_1 : decode cL_add 1 = .ok (.aload_n 1, 1) := by decide +kernel
theorem dL_add_2 : decode cL_add 2 = .ok (.iconst 5, 1) := by decide +kernel
theorem dL_add_3 : decode cL_add 3 = .ok (.iaload, 1) := by decide +kernel
theorem dL_add_4 : decode cL_add 4 = .ok (.bipush 20, 2) := by decide +kernel
theorem dL_add_6 : decode cL_add 6 = .ok (.irem, 1) := by decide +kernel
theorem dL_add_7 : decode cL_add 7 = .ok (.iconst 4, 1) := by decide +kernel
theorem dL_add_8 : decode cL_add 8 = .ok (.idiv, 1) := by decide +kernel
theorem dL_add_9 : decode cL_add 9 = .ok (.dup2, 1) := by decide +kernel
theorem dL_add_10 : decode cL_add 10 = .ok (.iaload, 1) := by decide +kernel
theorem dL_add_11 : decode cL_add 11 = .ok (.iload_n 2, 1) := by decide +kernel
theorem dL_add_12 : decode cL_add 12 = .ok (.bipush 24, 2) := by decide +kernel
theorem dL_add_14 : decode cL_add 14 = .ok (.bipush 8, 2) := by decide +kernel
theorem dL_add_16 : decode cL_add 16 = .ok (.aload_n 1, 1) := by decide +kernel
theorem dL_add_17 : decode cL_add 17 = .ok (.iconst 5, 1) := by decide +kernel
theorem dL_add_18 : decode cL_add 18 = .ok (.iaload, 1) := by decide +kernel
theorem dL_add_19 : decode cL_add 19 = .ok (.iconst 4, 1) := by decide +kernel
theorem dL_add_20 : decode cL_add 20 = .ok (.irem, 1) := by decide +kernel
theorem dL_add_21 : decode cL_add 21 = .ok (.imul, 1) := by decide +kernel
theorem dL_add_22 : decode cL_add 22 = .ok (.isub, 1) := by decide +kernel
theorem dL_add_23 : decode cL_add 23 = .ok (.ishl, 1) := by decide +kernel
theorem dL_add_24 : decode cL_add 24 = .ok (.ior, 1) := by decide +kernel
theorem dL_add_25 : decode cL_add 25 = .ok (.iastore, 1) := by decide +kernel
theorem dL_add_26 : decode cL_add 26 = .ok (.aload_n 1, 1) := by decide +kernel
theorem dL_add_27 : decode cL_add 27 = .ok (.iconst 5, 1) := by decide +kernel
theorem dL_add_28 : decode cL_add 28 = .ok (.dup2, 1) := by decide +kernel
theorem dL_add_29 : decode cL_add 29 = .ok (.iaload, 1) := by decide +kernel
theorem dL_add_30 : decode cL_add 30 = .ok (.iconst 1, 1) := by decide +kernel
theorem dL_add_31 : decode cL_add 31 = .ok (.iadd, 1) := by decide +kernel
theorem dL_add_32 : decode cL_add 32 = .ok (.iastore, 1) := by decide +kernel
theorem dL_add_33 : decode cL_add 33 = .ok (.aload_n 1, 1) := by decide +kernel
theorem dL_add_34 : decode cL_add 34 = .ok (.iconst 5, 1) := by decide +kernel
theorem dL_add_35 : decode cL_add 35 = .ok (.iaload, 1) := by decide +kernel
theorem dL_add_36 : decode cL_add 36 = .ok (.bipush 20, 2) := by decide +kernel
theorem dL_add_38 : decode cL_add 38 = .ok (.irem, 1) := by decide +kernel
theorem dL_add_39 : decode cL_add 39 = .ok (.ifCond .eq 4, 3) := by decide +kernel
theorem dL_add_42 : decode cL_add 42 = .ok (.return_, 1) := by decide +kernel
theorem dL_add_43 : decode cL_add 43 = .ok (.aload_n 0, 1) := by decide +kernel
theorem dL_add_44 : decode cL_add 44 = .ok (.aload_n 1, 1) := by decide +kernel
theorem dL_add_45 : decode cL_add 45 = .ok (.iconst 0, 1) := by decide +kernel
theorem dL_add_46 : decode cL_add 46 = .ok (.iaload, 1) := by decide +kernel
theorem dL_add_47 : decode cL_add 47 = .ok (.aload_n 1, 1) := by decide +kernel
theorem dL_add_48 : decode cL_add 48 = .ok (.iconst 1, 1) := by decide +kernel
theorem dL_add_49 : decode cL_add 49 = .ok (.iaload, 1) := by decide +kernel
theorem dL_add_50 : decode cL_add 50 = .ok (.aload_n 1, 1) := by decide +kernel
theorem dL_add_51 : decode cL_add 51 = .ok (.iconst 2, 1) := by decide +kernel
theorem dL_add_52 : decode cL_add 52 = .ok (.iaload, 1) := by decide +kernel
theorem dL_add_53 : decode cL_add 53 = .ok (.aload_n 1, 1) := by decide +kernel
theorem dL_add_54 : decode cL_add 54 = .ok (.iconst 3, 1) := by decide +kernel
theorem dL_add_55 : decode cL_add 55 = .ok (.iaload, 1) := by decide +kernel
theorem dL_add_56 : decode cL_add 56 = .ok (.aload_n 1, 1) := by decide +kernel
theorem dL_add_57 : decode cL_add 57 = .ok (.iconst 4, 1) := by decide +kernel
theorem dL_add_58 : decode cL_add 58 = .ok (.iaload, 1) := by decide +kernel
theorem dL_add_59 : decode cL_add 59 = .ok (.invokevirtual 8, 3) := by decide +kernel
theorem dL_add_62 : decode cL_add 62 = .ok (.pop, 1) := by decide +kernel
theorem dL_add_63 : decode cL_add 63 = .ok (.iconst 0, 1) := by decide +kernel
theorem dL_add_64 : decode cL_add 64 = .ok (.istore_n 3, 1) := by decide +kernel
theorem dL_add_65 : decode cL_add 65 = .ok (.iload_n 3, 1) := by decide +kernel
theorem dL_add_66 : decode cL_add 66 = .ok (.iconst 5, 1) := by decide +kernel
theorem dL_add_67 : decode cL_add 67 = .ok (.if_icmp .ge 13, 3) := by decide +kernel
theorem dL_add_70 : decode cL_add 70 = .ok (.aload_n 1, 1) := by decide +kernel
theorem dL_add_71 : decode cL_add 71 = .ok (.iload_n 3, 1) := by decide +kernel
theorem dL_add_72 : decode cL_add 72 = .ok (.iconst 0, 1) := by decide +kernel
theorem dL_add_73 : decode cL_add 73 = .ok (.iastore, 1) := by decide +kernel
theorem dL_add_74 : decode cL_add 74 = .ok (.iinc 3 1, 3) := by decide +kernel
theorem dL_add_77 : decode cL_add 77 = .ok (.goto (-12), 3) := by decide +kernel
theorem dL_add_80 : decode cL_add 80 = .ok (.return_, 1) := by decide +kernel
theorem dL_say_0 : decode cL_say 0 = .ok (.iconst 0, 1) := by decide +kernel
theorem dL_say_1 : decode cL_say 1 = .ok (.istore_n 3, 1) := by decide +kernel
theorem dL_say_2 : decode cL_say 2 = .ok (.iload_n 3, 1) := by decide +kernel
theorem dL_say_3 : decode cL_say 3 = .ok (.aload_n 2, 1) := by decide +kernel
theorem dL_say_4 : decode cL_say 4 = .ok (.invokevirtual 14, 3) := by decide +kernel
theorem dL_say_7 : decode cL_say 7 = .ok (.if_icmp .ge 19, 3) := by decide +kernel
theorem dL_say_10 : decode cL_say 10 = .ok (.aload_n 0, 1) := by decide +kernel
theorem dL_say_11 : decode cL_say 11 = .ok (.aload_n 1, 1) := by decide +kernel
theorem dL_say_12 : decode cL_say 12 = .ok (.aload_n 2, 1) := by decide +kernel
theorem dL_say_13 : decode cL_say 13 = .ok (.iload_n 3, 1) := by decide +kernel
theorem dL_say_14 : decode cL_say 14 = .ok (.invokevirtual 20, 3) := by decide +kernel
theorem dL_say_17 : decode cL_say 17 = .ok (.invokestatic 24, 3) := by decide +kernel
theorem dL_say_20 : decode cL_say 20 = .ok (.iinc 3 1, 3) := by decide +kernel
theorem dL_say_23 : decode cL_say 23 = .ok (.goto (-21), 3) := by decide +kernel
theorem dL_say_26 : decode cL_say 26 = .ok (.return_, 1) := by decide +kernel
theorem dL_end_0 : decode cL_end 0 = .ok (.aload_n 1, 1) := by decide +kernel
theorem dL_end_1 : decode cL_end 1 = .ok (.iconst 5, 1) := by decide +kernel
theorem dL_end_2 : decode cL_end 2 = .ok (.iaload, 1) := by decide +kernel
theorem dL_end_3 : decode cL_end 3 = .ok (.istore_n 2, 1) := by decide +kernel
theorem dL_end_4 : decode cL_end 4 = .ok (.aload_n 1, 1) := by decide +kernel
theorem dL_end_5 : decode cL_end 5 = .ok (.iconst 5, 1) := by decide +kernel
theorem dL_end_6 : decode cL_end 6 = .ok (.iaload, 1) := by decide +kernel
theorem dL_end_7 : decode cL_end 7 = .ok (.bipush 20, 2) := by decide +kernel
theorem dL_end_9 : decode cL_end 9 = .ok (.irem, 1) := by decide +kernel
theorem dL_end_10 : decode cL_end 10 = .ok (.ifCond .eq 13, 3) := by decide +kernel
theorem dL_end_13 : decode cL_end 13 = .ok (.aload_n 0, 1) := by decide +kernel
theorem dL_end_14 : decode cL_end 14 = .ok (.aload_n 1, 1) := by decide +kernel
theorem dL_end_15 : decode cL_end 15 = .ok (.bipush 32, 2) := by decide +kernel
theorem dL_end_17 : decode cL_end 17 = .ok (.invokestatic 24, 3) := by decide +kernel
theorem dL_end_20 : decode cL_end 20 = .ok (.goto (-16), 3) := by decide +kernel
theorem dL_end_23 : decode cL_end 23 = .ok (.aload_n 1, 1) := by decide +kernel
theorem dL_end_24 : decode cL_end 24 = .ok (.iconst 5, 1) := by decide +kernel
theorem dL_end_25 : decode cL_end 25 = .ok (.iconst 0, 1) := by decide +kernel
theorem dL_end_26 : decode cL_end 26 = .ok (.iastore, 1) := by decide +kernel
theorem dL_end_27 : decode cL_end 27 = .ok (.iload_n 2, 1) := by decide +kernel
theorem dL_end_28 : decode cL_end 28 = .ok (.ireturn, 1) := by decide +kernel
theorem dL_all_0 : decode cL_all 0 = .ok (.aload_n 0, 1) := by decide +kernel
theorem dL_all_1 : decode cL_all 1 = .ok (.invokevirtual 30, 3) := by decide +kernel
theorem dL_all_4 : decode cL_all 4 = .ok (.istore_n 1, 1) := by decide +kernel
theorem dL_all_5 : decode cL_all 5 = .ok (.aload_n 0, 1) := by decide +kernel
theorem dL_all_6 : decode cL_all 6 = .ok (.invokevirtual 33, 3) := by decide +kernel
theorem dL_all_9 : decode cL_all 9 = .ok (.istore_n 2, 1) := by decide +kernel
theorem dL_all_10 : decode cL_all 10 = .ok (.iconst 0, 1) := by decide +kernel
theorem dL_all_11 : decode cL_all 11 = .ok (.istore_n 3, 1) := by decide +kernel
theorem dL_all_12 : decode cL_all 12 = .ok (.iconst 0, 1) := by decide +kernel
theorem dL_all_13 : decode cL_all 13 = .ok (.istore 4, 2) := by decide +kernel
theorem dL_all_15 : decode cL_all 15 = .ok (.iload 4, 2) := by decide +kernel
theorem dL_all_17 : decode cL_all 17 = .ok (.iload_n 1, 1) := by decide +kernel
theorem dL_all_18 : decode cL_all 18 = .ok (.if_icmp .ge 18, 3) := by decide +kernel
theorem dL_all_21 : decode cL_all 21 = .ok (.iload_n 3, 1) := by decide +kernel
theorem dL_all_22 : decode cL_all 22 = .ok (.aload_n 0, 1) := by decide +kernel
theorem dL_all_23 : decode cL_all 23 = .ok (.iload 4, 2) := by decide +kernel
theorem dL_all_25 : decode cL_all 25 = .ok (.invokevirtual 36, 3) := by decide +kernel
theorem dL_all_28 : decode cL_all 28 = .ok (.iadd, 1) := by decide +kernel
theorem dL_all_29 : decode cL_all 29 = .ok (.istore_n 3, 1) := by decide +kernel
theorem dL_all_30 : decode cL_all 30 = .ok (.iinc 4 1, 3) := by decide +kernel
theorem dL_all_33 : decode cL_all 33 = .ok (.goto (-18), 3) := by decide +kernel
theorem dL_all_36 : decode cL_all 36 = .ok (.iconst 3, 1) := by decide +kernel
theorem dL_all_37 : decode cL_all 37 = .ok (.iload_n 1, 1) := by decide +kernel
theorem dL_all_38 : decode cL_all 38 = .ok (.iload_n 2, 1) := by decide +kernel
theorem dL_all_39 : decode cL_all 39 = .ok (.iconst 1, 1) := by decide +kernel
theorem dL_all_40 : decode cL_all 40 = .ok (.iadd, 1) := by decide +kernel
theorem dL_all_41 : decode cL_all 41 = .ok (.imul, 1) := by decide +kernel
theorem dL_all_42 : decode cL_all 42 = .ok (.iadd, 1) := by decide +kernel
theorem dL_all_43 : decode cL_all 43 = .ok (.iload_n 3, 1) := by decide +kernel
theorem dL_all_44 : decode cL_all 44 = .ok (.iadd, 1) := by decide +kernel
theorem dL_all_45 : decode cL_all 45 = .ok (.iconst 3, 1) := by decide +kernel
theorem dL_all_46 : decode cL_all 46 = .ok (.aload_n 0, 1) := by decide +kernel
theorem dL_all_47 : decode cL_all 47 = .ok (.invokevirtual 40, 3) := by decide +kernel
theorem dL_all_50 : decode cL_all 50 = .ok (.imul, 1) := by decide +kernel
theorem dL_all_51 : decode cL_all 51 = .ok (.iadd, 1) := by decide +kernel
theorem dL_all_52 : decode cL_all 52 = .ok (.newarray .int, 2) := by decide +kernel
theorem dL_all_54 : decode cL_all 54 = .ok (.astore 4, 2) := by decide +kernel
theorem dL_all_56 : decode cL_all 56 = .ok (.iconst 0, 1) := by decide +kernel
theorem dL_all_57 : decode cL_all 57 = .ok (.istore 5, 2) := by decide +kernel
theorem dL_all_59 : decode cL_all 59 = .ok (.aload 4, 2) := by decide +kernel
theorem dL_all_61 : decode cL_all 61 = .ok (.iload 5, 2) := by decide +kernel
theorem dL_all_63 : decode cL_all 63 = .ok (.iinc 5 1, 3) := by decide +kernel
theorem dL_all_66 : decode cL_all 66 = .ok (.iload_n 1, 1) := by decide +kernel
theorem dL_all_67 : decode cL_all 67 = .ok (.iastore, 1) := by decide +kernel
theorem dL_all_68 : decode cL_all 68 = .ok (.aload 4, 2) := by decide +kernel
theorem dL_all_70 : decode cL_all 70 = .ok (.iload 5, 2) := by decide +kernel
theorem dL_all_72 : decode cL_all 72 = .ok (.iinc 5 1, 3) := by decide +kernel
theorem dL_all_75 : decode cL_all 75 = .ok (.iload_n 2, 1) := by decide +kernel
theorem dL_all_76 : decode cL_all 76 = .ok (.iastore, 1) := by decide +kernel
theorem dL_all_77 : decode cL_all 77 = .ok (.aload 4, 2) := by decide +kernel
theorem dL_all_79 : decode cL_all 79 = .ok (.iload 5, 2) := by decide +kernel
theorem dL_all_81 : decode cL_all 81 = .ok (.iinc 5 1, 3) := by decide +kernel
theorem dL_all_84 : decode cL_all 84 = .ok (.aload_n 0, 1) := by decide +kernel
theorem dL_all_85 : decode cL_all 85 = .ok (.invokevirtual 40, 3) := by decide +kernel
theorem dL_all_88 : decode cL_all 88 = .ok (.iastore, 1) := by decide +kernel
theorem dL_all_89 : decode cL_all 89 = .ok (.iconst 0, 1) := by decide +kernel
theorem dL_all_90 : decode cL_all 90 = .ok (.istore 6, 2) := by decide +kernel
theorem dL_all_92 : decode cL_all 92 = .ok (.iload 6, 2) := by decide +kernel
theorem dL_all_94 : decode cL_all 94 = .ok (.iload_n 1, 1) := by decide +kernel
theorem dL_all_95 : decode cL_all 95 = .ok (.if_icmp .ge 90, 3) := by decide +kernel
theorem dL_all_98 : decode cL_all 98 = .ok (.aload 4, 2) := by decide +kernel
theorem dL_all_100 : decode cL_all 100 = .ok (.iload 5, 2) := by decide +kernel
theorem dL_all_102 : decode cL_all 102 = .ok (.iinc 5 1, 3) := by decide +kernel
theorem dL_all_105 : decode cL_all 105 = .ok (.aload_n 0, 1) := by decide +kernel
theorem dL_all_106 : decode cL_all 106 = .ok (.iload 6, 2) := by decide +kernel
theorem dL_all_108 : decode cL_all 108 = .ok (.invokevirtual 36, 3) := by decide +kernel
theorem dL_all_111 : decode cL_all 111 = .ok (.iastore, 1) := by decide +kernel
theorem dL_all_112 : decode cL_all 112 = .ok (.iconst 0, 1) := by decide +kernel
theorem dL_all_113 : decode cL_all 113 = .ok (.istore 7, 2) := by decide +kernel
theorem dL_all_115 : decode cL_all 115 = .ok (.iload 7, 2) := by decide +kernel
theorem dL_all_117 : decode cL_all 117 = .ok (.iload_n 2, 1) := by decide +kernel
theorem dL_all_118 : decode cL_all 118 = .ok (.if_icmp .ge 25, 3) := by decide +kernel
theorem dL_all_121 : decode cL_all 121 = .ok (.aload 4, 2) := by decide +kernel
theorem dL_all_123 : decode cL_all 123 = .ok (.iload 5, 2) := by decide +kernel
theorem dL_all_125 : decode cL_all 125 = .ok (.iinc 5 1, 3) := by decide +kernel
theorem dL_all_128 : decode cL_all 128 = .ok (.aload_n 0, 1) := by decide +kernel
theorem dL_all_129 : decode cL_all 129 = .ok (.iload 6, 2) := by decide +kernel
theorem dL_all_131 : decode cL_all 131 = .ok (.iload 7, 2) := by decide +kernel
theorem dL_all_133 : decode cL_all 133 = .ok (.invokevirtual 43, 3) := by decide +kernel
theorem dL_all_136 : decode cL_all 136 = .ok (.iastore, 1) := by decide +kernel
theorem dL_all_137 : decode cL_all 137 = .ok (.iinc 7 1, 3) := by decide +kernel
theorem dL_all_140 : decode cL_all 140 = .ok (.goto (-25), 3) := by decide +kernel
theorem dL_all_143 : decode cL_all 143 = .ok (.iconst 0, 1) := by decide +kernel
theorem dL_all_144 : decode cL_all 144 = .ok (.istore 7, 2) := by decide +kernel
theorem dL_all_146 : decode cL_all 146 = .ok (.iload 7, 2) := by decide +kernel
theorem dL_all_148 : decode cL_all 148 = .ok (.aload_n 0, 1) := by decide +kernel
theorem dL_all_149 : decode cL_all 149 = .ok (.iload 6, 2) := by decide +kernel
theorem dL_all_151 : decode cL_all 151 = .ok (.invokevirtual 36, 3) := by decide +kernel
theorem dL_all_154 : decode cL_all 154 = .ok (.if_icmp .ge 25, 3) := by decide +kernel
theorem dL_all_157 : decode cL_all 157 = .ok (.aload 4, 2) := by decide +kernel
theorem dL_all_159 : decode cL_all 159 = .ok (.iload 5, 2) := by decide +kernel
theorem dL_all_161 : decode cL_all 161 = .ok (.iinc 5 1, 3) := by decide +kernel
theorem dL_all_164 : decode cL_all 164 = .ok (.aload_n 0, 1) := by decide +kernel
theorem dL_all_165 : decode cL_all 165 = .ok (.iload 6, 2) := by decide +kernel
theorem dL_all_167 : decode cL_all 167 = .ok (.iload 7, 2) := by decide +kernel
theorem dL_all_169 : decode cL_all 169 = .ok (.invokevirtual 47, 3) := by decide +kernel
theorem dL_all_172 : decode cL_all 172 = .ok (.iastore, 1) := by decide +kernel
theorem dL_all_173 : decode cL_all 173 = .ok (.iinc 7 1, 3) := by decide +kernel
theorem dL_all_176 : decode cL_all 176 = .ok (.goto (-30), 3) := by decide +kernel
theorem dL_all_179 : decode cL_all 179 = .ok (.iinc 6 1, 3) := by decide +kernel
theorem dL_all_182 : decode cL_all 182 = .ok (.goto (-90), 3) := by decide +kernel
theorem dL_all_185 : decode cL_all 185 = .ok (.iconst 0, 1) := by decide +kernel
theorem dL_all_186 : decode cL_all 186 = .ok (.istore 6, 2) := by decide +kernel
theorem dL_all_188 : decode cL_all 188 = .ok (.iload 6, 2) := by decide +kernel
theorem dL_all_190 : decode cL_all 190 = .ok (.aload_n 0, 1) := by decide +kernel
theorem dL_all_191 : decode cL_all 191 = .ok (.invokevirtual 40, 3) := by decide +kernel
theorem dL_all_194 : decode cL_all 194 = .ok (.if_icmp .ge 51, 3) := by decide +kernel
theorem dL_all_197 : decode cL_all 197 = .ok (.aload 4, 2) := by decide +kernel
theorem dL_all_199 : decode cL_all 199 = .ok (.iload 5, 2) := by decide +kernel
theorem dL_all_201 : decode cL_all 201 = .ok (.iinc 5 1, 3) := by decide +kernel
theorem dL_all_204 : decode cL_all 204 = .ok (.aload_n 0, 1) := by decide +kernel
theorem dL_all_205 : decode cL_all 205 = .ok (.iload 6, 2) := by decide +kernel
theorem dL_all_207 : decode cL_all 207 = .ok (.invokevirtual 50, 3) := by decide +kernel
theorem dL_all_210 : decode cL_all 210 = .ok (.iastore, 1) := by decide +kernel
theorem dL_all_211 : decode cL_all 211 = .ok (.aload 4, 2) := by decide +kernel
theorem dL_all_213 : decode cL_all 213 = .ok (.iload 5, 2) := by decide +kernel
theorem dL_all_215 : decode cL_all 215 = .ok (.iinc 5 1, 3) := by decide +kernel
theorem dL_all_218 : decode cL_all 218 = .ok (.aload_n 0, 1) := by decide +kernel
theorem dL_all_219 : decode cL_all 219 = .ok (.iload 6, 2) := by decide +kernel
theorem dL_all_221 : decode cL_all 221 = .ok (.invokevirtual 53, 3) := by decide +kernel
theorem dL_all_224 : decode cL_all 224 = .ok (.iastore, 1) := by decide +kernel
theorem dL_all_225 : decode cL_all 225 = .ok (.aload 4, 2) := by decide +kernel
theorem dL_all_227 : decode cL_all 227 = .ok (.iload 5, 2) := by decide +kernel
theorem dL_all_229 : decode cL_all 229 = .ok (.iinc 5 1, 3) := by decide +kernel
theorem dL_all_232 : decode cL_all 232 = .ok (.aload_n 0, 1) := by decide +kernel
theorem dL_all_233 : decode cL_all 233 = .ok (.iload 6, 2) := by decide +kernel
theorem dL_all_235 : decode cL_all 235 = .ok (.invokevirtual 56, 3) := by decide +kernel
theorem dL_all_238 : decode cL_all 238 = .ok (.iastore, 1) := by decide +kernel
theorem dL_all_239 : decode cL_all 239 = .ok (.iinc 6 1, 3) := by decide +kernel
theorem dL_all_242 : decode cL_all 242 = .ok (.goto (-54), 3) := by decide +kernel
theorem dL_all_245 : decode cL_all 245 = .ok (.aload 4, 2) := by decide +kernel
theorem dL_all_247 : decode cL_all 247 = .ok (.areturn, 1) := by decide +kernel
theorem dL_alike_0 : decode cL_alike 0 = .ok (.aload_n 0, 1) := by decide +kernel
theorem dL_alike_1 : decode cL_alike 1 = .ok (.arraylength, 1) := by decide +kernel
theorem dL_alike_2 : decode cL_alike 2 = .ok (.aload_n 1, 1) := by decide +kernel
theorem dL_alike_3 : decode cL_alike 3 = .ok (.arraylength, 1) := by decide +kernel
theorem dL_alike_4 : decode cL_alike 4 = .ok (.if_icmp .eq 5, 3) := by decide +kernel
theorem dL_alike_7 : decode cL_alike 7 = .ok (.iconst 0, 1) := by decide +kernel
theorem dL_alike_8 : decode cL_alike 8 = .ok (.ireturn, 1) := by decide +kernel
theorem dL_alike_9 : decode cL_alike 9 = .ok (.iconst 0, 1) := by decide +kernel
theorem dL_alike_10 : decode cL_alike 10 = .ok (.istore_n 2, 1) := by decide +kernel
theorem dL_alike_11 : decode cL_alike 11 = .ok (.iload_n 2, 1) := by decide +kernel
theorem dL_alike_12 : decode cL_alike 12 = .ok (.aload_n 0, 1) := by decide +kernel
theorem dL_alike_13 : decode cL_alike 13 = .ok (.arraylength, 1) := by decide +kernel
theorem dL_alike_14 : decode cL_alike 14 = .ok (.if_icmp .ge 20, 3) := by decide +kernel
theorem dL_alike_17 : decode cL_alike 17 = .ok (.aload_n 0, 1) := by decide +kernel
theorem dL_alike_18 : decode cL_alike 18 = .ok (.iload_n 2, 1) := by decide +kernel
theorem dL_alike_19 : decode cL_alike 19 = .ok (.iaload, 1) := by decide +kernel
theorem dL_alike_20 : decode cL_alike 20 = .ok (.aload_n 1, 1) := by decide +kernel
theorem dL_alike_21 : decode cL_alike 21 = .ok (.iload_n 2, 1) := by decide +kernel
theorem dL_alike_22 : decode cL_alike 22 = .ok (.iaload, 1) := by decide +kernel
theorem dL_alike_23 : decode cL_alike 23 = .ok (.if_icmp .eq 5, 3) := by decide +kernel
theorem dL_alike_26 : decode cL_alike 26 = .ok (.iconst 0, 1) := by decide +kernel
theorem dL_alike_27 : decode cL_alike 27 = .ok (.ireturn, 1) := by decide +kernel
theorem dL_alike_28 : decode cL_alike 28 = .ok (.iinc 2 1, 3) := by decide +kernel
theorem dL_alike_31 : decode cL_alike 31 = .ok (.goto (-20), 3) := by decide +kernel
theorem dL_alike_34 : decode cL_alike 34 = .ok (.iconst 1, 1) := by decide +kernel
theorem dL_alike_35 : decode cL_alike 35 = .ok (.ireturn, 1) := by decide +kernel
theorem dL_areColumns_0 : decode cL_areColumns 0 = .ok (.aload_n 0, 1) := by decide +kernel
theorem dL_areColumns_1 : decode cL_areColumns 1 = .ok (.invokevirtual 33, 3) := by decide +kernel
theorem dL_areColumns_4 : decode cL_areColumns 4 = .ok (.istore_n 1, 1) := by decide +kernel
theorem dL_areColumns_5 : decode cL_areColumns 5 = .ok (.iconst 0, 1) := by decide +kernel
theorem dL_areColumns_6 : decode cL_areColumns 6 = .ok (.istore_n 2, 1) := by decide +kernel
theorem dL_areColumns_7 : decode cL_areColumns 7 = .ok (.iconst 0, 1) := by decide +kernel
theorem dL_areColumns_8 : decode cL_areColumns 8 = .ok (.istore_n 3, 1) := by decide +kernel
theorem dL_areColumns_9 : decode cL_areColumns 9 = .ok (.iload_n 3, 1) := by decide +kernel
theorem dL_areColumns_10 : decode cL_areColumns 10 = .ok (.aload_n 0, 1) := by decide +kernel
theorem dL_areColumns_11 : decode cL_areColumns 11 = .ok (.invokevirtual 30, 3) := by decide +kernel
theorem dL_areColumns_14 : decode cL_areColumns 14 = .ok (.if_icmp .ge 374, 3) := by decide +kernel
theorem dL_areColumns_17 : decode cL_areColumns 17 = .ok (.aload_n 0, 1) := by decide +kernel
theorem dL_areColumns_18 : decode cL_areColumns 18 = .ok (.iload_n 3, 1) := by decide +kernel
theorem dL_areColumns_19 : decode cL_areColumns 19 = .ok (.invokevirtual 36, 3) := by decide +kernel
theorem dL_areColumns_22 : decode cL_areColumns 22 = .ok (.istore 4, 2) := by decide +kernel
theorem dL_areColumns_24 : decode cL_areColumns 24 = .ok (.aload_n 0, 1) := by decide +kernel
theorem dL_areColumns_25 : decode cL_areColumns 25 = .ok (.iload_n 3, 1) := by decide +kernel
theorem dL_areColumns_26 : decode cL_areColumns 26 = .ok (.invokevirtual 59, 3) := by decide +kernel
theorem dL_areColumns_29 : decode cL_areColumns 29 = .ok (.istore 5, 2) := by decide +kernel
theorem dL_areColumns_31 : decode cL_areColumns 31 = .ok (.iload_n 2, 1) := by decide +kernel
theorem dL_areColumns_32 : decode cL_areColumns 32 = .ok (.iload 5, 2) := by decide +kernel
theorem dL_areColumns_34 : decode cL_areColumns 34 = .ok (.iload_n 1, 1) := by decide +kernel
theorem dL_areColumns_35 : decode cL_areColumns 35 = .ok (.imul, 1) := by decide +kernel
theorem dL_areColumns_36 : decode cL_areColumns 36 = .ok (.iadd, 1) := by decide +kernel
theorem dL_areColumns_37 : decode cL_areColumns 37 = .ok (.istore_n 2, 1) := by decide +kernel
theorem dL_areColumns_38 : decode cL_areColumns 38 = .ok (.iconst 0, 1) := by decide +kernel
theorem dL_areColumns_39 : decode cL_areColumns 39 = .ok (.istore 6, 2) := by decide +kernel
theorem dL_areColumns_41 : decode cL_areColumns 41 = .ok (.iconst 0, 1) := by decide +kernel
theorem dL_areColumns_42 : decode cL_areColumns 42 = .ok (.istore 7, 2) := by decide +kernel
theorem dL_areColumns_44 : decode cL_areColumns 44 = .ok (.iconst 0, 1) := by decide +kernel
theorem dL_areColumns_45 : decode cL_areColumns 45 = .ok (.istore 8, 2) := by decide +kernel
theorem dL_areColumns_47 : decode cL_areColumns 47 = .ok (.iload 8, 2) := by decide +kernel
theorem dL_areColumns_49 : decode cL_areColumns 49 = .ok (.iload 4, 2) := by decide +kernel
theorem dL_areColumns_51 : decode cL_areColumns 51 = .ok (.if_icmp .ge 84, 3) := by decide +kernel
theorem dL_areColumns_54 : decode cL_areColumns 54 = .ok (.iload 6, 2) := by decide +kernel
theorem dL_areColumns_56 : decode cL_areColumns 56 = .ok (.aload_n 0, 1) := by decide +kernel
theorem dL_areColumns_57 : decode cL_areColumns 57 = .ok (.iload_n 3, 1) := by decide +kernel
theorem dL_areColumns_58 : decode cL_areColumns 58 = .ok (.iload 8, 2) := by decide +kernel
theorem dL_areColumns_60 : decode cL_areColumns 60 = .ok (.invokevirtual 62, 3) := by decide +kernel
theorem dL_areColumns_63 : decode cL_areColumns 63 = .ok (.iadd, 1) := by decide +kernel
theorem dL_areColumns_64 : decode cL_areColumns 64 = .ok (.istore 6, 2) := by decide +kernel
theorem dL_areColumns_66 : decode cL_areColumns 66 = .ok (.iload 7, 2) := by decide +kernel
theorem dL_areColumns_68 : decode cL_areColumns 68 = .ok (.aload_n 0, 1) := by decide +kernel
theorem dL_areColumns_69 : decode cL_areColumns 69 = .ok (.iload_n 3, 1) := by decide +kernel
theorem dL_areColumns_70 : decode cL_areColumns 70 = .ok (.iload 8, 2) := by decide +kernel
theorem dL_areColumns_72 : decode cL_areColumns 72 = .ok (.invokevirtual 62, 3) := by decide +kernel
theorem dL_areColumns_75 : decode cL_areColumns 75 = .ok (.ifCond .ne 7, 3) := by decide +kernel
theorem dL_areColumns_78 : decode cL_areColumns 78 = .ok (.iconst 1, 1) := by decide +kernel
theorem dL_areColumns_79 : decode cL_areColumns 79 = .ok (.goto 4, 3) := by decide +kernel
theorem dL_areColumns_82 : decode cL_areColumns 82 = .ok (.iconst 0, 1) := by decide +kernel
theorem dL_areColumns_83 : decode cL_areColumns 83 = .ok (.iadd, 1) := by decide +kernel
theorem dL_areColumns_84 : decode cL_areColumns 84 = .ok (.istore 7, 2) := by decide +kernel
theorem dL_areColumns_86 : decode cL_areColumns 86 = .ok (.iload 8, 2) := by decide +kernel
theorem dL_areColumns_88 : decode cL_areColumns 88 = .ok (.ifCond .le 22, 3) := by decide +kernel
theorem dL_areColumns_91 : decode cL_areColumns 91 = .ok (.aload_n 0, 1) := by decide +kernel
theorem dL_areColumns_92 : decode cL_areColumns 92 = .ok (.iload_n 3, 1) := by decide +kernel
theorem dL_areColumns_93 : decode cL_areColumns 93 = .ok (.iload 8, 2) := by decide +kernel
theorem dL_areColumns_95 : decode cL_areColumns 95 = .ok (.iconst 1, 1) := by decide +kernel
theorem dL_areColumns_96 : decode cL_areColumns 96 = .ok (.isub, 1) := by decide +kernel
theorem dL_areColumns_97 : decode cL_areColumns 97 = .ok (.invokevirtual 47, 3) := by decide +kernel
theorem dL_areColumns_100 : decode cL_areColumns 100 = .ok (.aload_n 0, 1) := by decide +kernel
theorem dL_areColumns_101 : decode cL_areColumns 101 = .ok (.iload_n 3, 1) := by decide +kernel
theorem dL_areColumns_102 : decode cL_areColumns 102 = .ok (.iload 8, 2) := by decide +kernel
theorem dL_areColumns_104 : decode cL_areColumns 104 = .ok (.invokevirtual 47, 3) := by decide +kernel
theorem dL_areColumns_107 : decode cL_areColumns 107 = .ok (.if_icmp .ge 20, 3) := by decide +kernel
theorem dL_areColumns_110 : decode cL_areColumns 110 = .ok (.aload_n 0, 1) := by decide +kernel
theorem dL_areColumns_111 : decode cL_areColumns 111 = .ok (.iload_n 3, 1) := by decide +kernel
theorem dL_areColumns_112 : decode cL_areColumns 112 = .ok (.aload_n 0, 1) := by decide +kernel
theorem dL_areColumns_113 : decode cL_areColumns 113 = .ok (.iload_n 3, 1) := by decide +kernel
theorem dL_areColumns_114 : decode cL_areColumns 114 = .ok (.iload 8, 2) := by decide +kernel
theorem dL_areColumns_116 : decode cL_areColumns 116 = .ok (.invokevirtual 47, 3) := by decide +kernel
theorem dL_areColumns_119 : decode cL_areColumns 119 = .ok (.invokevirtual 65, 3) := by decide +kernel
theorem dL_areColumns_122 : decode cL_areColumns 122 = .ok (.iload 8, 2) := by decide +kernel
theorem dL_areColumns_124 : decode cL_areColumns 124 = .ok (.if_icmp .eq 5, 3) := by decide +kernel
theorem dL_areColumns_127 : decode cL_areColumns 127 = .ok (.iconst 0, 1) := by decide +kernel
theorem dL_areColumns_128 : decode cL_areColumns 128 = .ok (.ireturn, 1) := by decide +kernel
theorem dL_areColumns_129 : decode cL_areColumns 129 = .ok (.iinc 8 1, 3) := by decide +kernel
theorem dL_areColumns_132 : decode cL_areColumns 132 = .ok (.goto (-85), 3) := by decide +kernel
theorem dL_areColumns_135 : decode cL_areColumns 135 = .ok (.iconst 0, 1) := by decide +kernel
theorem dL_areColumns_136 : decode cL_areColumns 136 = .ok (.istore 8, 2) := by decide +kernel
theorem dL_areColumns_138 : decode cL_areColumns 138 = .ok (.iload 8, 2) := by decide +kernel
theorem dL_areColumns_140 : decode cL_areColumns 140 = .ok (.iload_n 1, 1) := by decide +kernel
theorem dL_areColumns_141 : decode cL_areColumns 141 = .ok (.if_icmp .ge 98, 3) := by decide +kernel
theorem dL_areColumns_144 : decode cL_areColumns 144 = .ok (.iconst 0, 1) := by decide +kernel
theorem dL_areColumns_145 : decode cL_areColumns 145 = .ok (.istore 9, 2) := by decide +kernel
theorem dL_areColumns_147 : decode cL_areColumns 147 = .ok (.iconst 0, 1) := by decide +kernel
theorem dL_areColumns_148 : decode cL_areColumns 148 = .ok (.istore 10, 2) := by decide +kernel
theorem dL_areColumns_150 : decode cL_areColumns 150 = .ok (.iload 10, 2) := by decide +kernel
theorem dL_areColumns_152 : decode cL_areColumns 152 = .ok (.iload 5, 2) := by decide +kernel
theorem dL_areColumns_154 : decode cL_areColumns 154 = .ok (.if_icmp .ge 48, 3) := by decide +kernel
theorem dL_areColumns_157 : decode cL_areColumns 157 = .ok (.iload 9, 2) := by decide +kernel
theorem dL_areColumns_159 : decode cL_areColumns 159 = .ok (.aload_n 0, 1) := by decide +kernel
theorem dL_areColumns_160 : decode cL_areColumns 160 = .ok (.iload_n 3, 1) := by decide +kernel
theorem dL_areColumns_161 : decode cL_areColumns 161 = .ok (.iload 8, 2) := by decide +kernel
theorem dL_areColumns_163 : decode cL_areColumns 163 = .ok (.iload 5, 2) := by decide +kernel
theorem dL_areColumns_165 : decode cL_areColumns 165 = .ok (.imul, 1) := by decide +kernel
theorem dL_areColumns_166 : decode cL_areColumns 166 = .ok (.iload 10, 2) := by decide +kernel
theorem dL_areColumns_168 : decode cL_areColumns 168 = .ok (.iadd, 1) := by decide +kernel
theorem dL_areColumns_169 : decode cL_areColumns 169 = .ok (.bipush 64, 2) := by decide +kernel
theorem dL_areColumns_171 : decode cL_areColumns 171 = .ok (.idiv, 1) := by decide +kernel
theorem dL_areColumns_172 : decode cL_areColumns 172 = .ok (.invokevirtual 68, 3) := by decide +kernel
theorem dL_areColumns_175 : decode cL_areColumns 175 = .ok (.iload 8, 2) := by decide +kernel
theorem dL_areColumns_177 : decode cL_areColumns 177 = .ok (.iload 5, 2) := by decide +kernel
theorem dL_areColumns_179 : decode cL_areColumns 179 = .ok (.imul, 1) := by decide +kernel
theorem dL_areColumns_180 : decode cL_areColumns 180 = .ok (.iload 10, 2) := by decide +kernel
theorem dL_areColumns_182 : decode cL_areColumns 182 = .ok (.iadd, 1) := by decide +kernel
theorem dL_areColumns_183 : decode cL_areColumns 183 = .ok (.bipush 64, 2) := by decide +kernel
theorem dL_areColumns_185 : decode cL_areColumns 185 = .ok (.irem, 1) := by decide +kernel
theorem dL_areColumns_186 : decode cL_areColumns 186 = .ok (.lushr, 1) := by decide +kernel
theorem dL_areColumns_187 : decode cL_areColumns 187 = .ok (.lconst 1, 1) := by decide +kernel
theorem dL_areColumns_188 : decode cL_areColumns 188 = .ok (.land, 1) := by decide +kernel
theorem dL_areColumns_189 : decode cL_areColumns 189 = .ok (.l2i, 1) := by decide +kernel
theorem dL_areColumns_190 : decode cL_areColumns 190 = .ok (.iload 10, 2) := by decide +kernel
theorem dL_areColumns_192 : decode cL_areColumns 192 = .ok (.ishl, 1) := by decide +kernel
theorem dL_areColumns_193 : decode cL_areColumns 193 = .ok (.ior, 1) := by decide +kernel
theorem dL_areColumns_194 : decode cL_areColumns 194 = .ok (.istore 9, 2) := by decide +kernel
theorem dL_areColumns_196 : decode cL_areColumns 196 = .ok (.iinc 10 1, 3) := by decide +kernel
theorem dL_areColumns_199 : decode cL_areColumns 199 = .ok (.goto (-49), 3) := by decide +kernel
theorem dL_areColumns_202 : decode cL_areColumns 202 = .ok (.iload 9, 2) := by decide +kernel
theorem dL_areColumns_204 : decode cL_areColumns 204 = .ok (.aload_n 0, 1) := by decide +kernel
theorem dL_areColumns_205 : decode cL_areColumns 205 = .ok (.iload_n 3, 1) := by decide +kernel
theorem dL_areColumns_206 : decode cL_areColumns 206 = .ok (.iload 8, 2) := by decide +kernel
theorem dL_areColumns_208 : decode cL_areColumns 208 = .ok (.invokevirtual 72, 3) := by decide +kernel
theorem dL_areColumns_211 : decode cL_areColumns 211 = .ok (.if_icmp .ne 20, 3) := by decide +kernel
theorem dL_areColumns_214 : decode cL_areColumns 214 = .ok (.aload_n 0, 1) := by decide +kernel
theorem dL_areColumns_215 : decode cL_areColumns 215 = .ok (.iload_n 3, 1) := by decide +kernel
theorem dL_areColumns_216 : decode cL_areColumns 216 = .ok (.iload 9, 2) := by decide +kernel
theorem dL_areColumns_218 : decode cL_areColumns 218 = .ok (.invokevirtual 47, 3) := by decide +kernel
theorem dL_areColumns_221 : decode cL_areColumns 221 = .ok (.aload_n 0, 1) := by decide +kernel
theorem dL_areColumns_222 : decode cL_areColumns 222 = .ok (.iload_n 3, 1) := by decide +kernel
theorem dL_areColumns_223 : decode cL_areColumns 223 = .ok (.iload 8, 2) := by decide +kernel
theorem dL_areColumns_225 : decode cL_areColumns 225 = .ok (.invokevirtual 43, 3) := by decide +kernel
theorem dL_areColumns_228 : decode cL_areColumns 228 = .ok (.if_icmp .eq 5, 3) := by decide +kernel
theorem dL_areColumns_231 : decode cL_areColumns 231 = .ok (.iconst 0, 1) := by decide +kernel
theorem dL_areColumns_232 : decode cL_areColumns 232 = .ok (.ireturn, 1) := by decide +kernel
theorem dL_areColumns_233 : decode cL_areColumns 233 = .ok (.iinc 8 1, 3) := by decide +kernel
theorem dL_areColumns_236 : decode cL_areColumns 236 = .ok (.goto (-98), 3) := by decide +kernel
theorem dL_areColumns_239 : decode cL_areColumns 239 = .ok (.iload 6, 2) := by decide +kernel
theorem dL_areColumns_241 : decode cL_areColumns 241 = .ok (.iload_n 1, 1) := by decide +kernel
theorem dL_areColumns_242 : decode cL_areColumns 242 = .ok (.if_icmp .ne 138, 3) := by decide +kernel
theorem dL_areColumns_245 : decode cL_areColumns 245 = .ok (.iload 7, 2) := by decide +kernel
theorem dL_areColumns_247 : decode cL_areColumns 247 = .ok (.aload_n 0, 1) := by decide +kernel
theorem dL_areColumns_248 : decode cL_areColumns 248 = .ok (.iload_n 3, 1) := by decide +kernel
theorem dL_areColumns_249 : decode cL_areColumns 249 = .ok (.invokevirtual 75, 3) := by decide +kernel
theorem dL_areColumns_252 : decode cL_areColumns 252 = .ok (.if_icmp .ne 128, 3) := by decide +kernel
theorem dL_areColumns_255 : decode cL_areColumns 255 = .ok (.iconst 1, 1) := by decide +kernel
theorem dL_areColumns_256 : decode cL_areColumns 256 = .ok (.iload 5, 2) := by decide +kernel
theorem dL_areColumns_258 : decode cL_areColumns 258 = .ok (.ishl, 1) := by decide +kernel
theorem dL_areColumns_259 : decode cL_areColumns 259 = .ok (.iload 4, 2) := by decide +kernel
theorem dL_areColumns_261 : decode cL_areColumns 261 = .ok (.if_icmp .lt 119, 3) := by decide +kernel
theorem dL_areColumns_264 : decode cL_areColumns 264 = .ok (.iload 5, 2) := by decide +kernel
theorem dL_areColumns_266 : decode cL_areColumns 266 = .ok (.ifCond .le 14, 3) := by decide +kernel
theorem dL_areColumns_269 : decode cL_areColumns 269 = .ok (.iconst 1, 1) := by decide +kernel
theorem dL_areColumns_270 : decode cL_areColumns 270 = .ok (.iload 5, 2) := by decide +kernel
theorem dL_areColumns_272 : decode cL_areColumns 272 = .ok (.iconst 1, 1) := by decide +kernel
theorem dL_areColumns_273 : decode cL_areColumns 273 = .ok (.isub, 1) := by decide +kernel
theorem dL_areColumns_274 : decode cL_areColumns 274 = .ok (.ishl, 1) := by decide +kernel
theorem dL_areColumns_275 : decode cL_areColumns 275 = .ok (.iload 4, 2) := by decide +kernel
theorem dL_areColumns_277 : decode cL_areColumns 277 = .ok (.if_icmp .ge 103, 3) := by decide +kernel
theorem dL_areColumns_280 : decode cL_areColumns 280 = .ok (.aload_n 0, 1) := by decide +kernel
theorem dL_areColumns_281 : decode cL_areColumns 281 = .ok (.iload_n 3, 1) := by decide +kernel
theorem dL_areColumns_282 : decode cL_areColumns 282 = .ok (.invokevirtual 78, 3) := by decide +kernel
theorem dL_areColumns_285 : decode cL_areColumns 285 = .ok (.iload_n 1, 1) := by decide +kernel
theorem dL_areColumns_286 : decode cL_areColumns 286 = .ok (.iload 5, 2) := by decide +kernel
theorem dL_areColumns_288 : decode cL_areColumns 288 = .ok (.imul, 1) := by decide +kernel
theorem dL_areColumns_289 : decode cL_areColumns 289 = .ok (.bipush 63, 2) := by decide +kernel
theorem dL_areColumns_291 : decode cL_areColumns 291 = .ok (.iadd, 1) := by decide +kernel
theorem dL_areColumns_292 : decode cL_areColumns 292 = .ok (.bipush 64, 2) := by decide +kernel
theorem dL_areColumns_294 : decode cL_areColumns 294 = .ok (.idiv, 1) := by decide +kernel
theorem dL_areColumns_295 : decode cL_areColumns 295 = .ok (.if_icmp .ne 85, 3) := by decide +kernel
theorem dL_areColumns_298 : decode cL_areColumns 298 = .ok (.aload_n 0, 1) := by decide +kernel
theorem dL_areColumns_299 : decode cL_areColumns 299 = .ok (.iload_n 3, 1) := by decide +kernel
theorem dL_areColumns_300 : decode cL_areColumns 300 = .ok (.invokevirtual 81, 3) := by decide +kernel
theorem dL_areColumns_303 : decode cL_areColumns 303 = .ok (.iload 5, 2) := by decide +kernel
theorem dL_areColumns_305 : decode cL_areColumns 305 = .ok (.if_icmp .gt 75, 3) := by decide +kernel
theorem dL_areColumns_308 : decode cL_areColumns 308 = .ok (.aload_n 0, 1) := by decide +kernel
theorem dL_areColumns_309 : decode cL_areColumns 309 = .ok (.iload_n 3, 1) := by decide +kernel
theorem dL_areColumns_310 : decode cL_areColumns 310 = .ok (.invokevirtual 84, 3) := by decide +kernel
theorem dL_areColumns_313 : decode cL_areColumns 313 = .ok (.iload_n 1, 1) := by decide +kernel
theorem dL_areColumns_314 : decode cL_areColumns 314 = .ok (.if_icmp .gt 66, 3) := by decide +kernel
theorem dL_areColumns_317 : decode cL_areColumns 317 = .ok (.aload_n 0, 1) := by decide +kernel
theorem dL_areColumns_318 : decode cL_areColumns 318 = .ok (.iload_n 3, 1) := by decide +kernel
theorem dL_areColumns_319 : decode cL_areColumns 319 = .ok (.invokevirtual 87, 3) := by decide +kernel
theorem dL_areColumns_322 : decode cL_areColumns 322 = .ok (.ifCond .eq 16, 3) := by decide +kernel
theorem dL_areColumns_325 : decode cL_areColumns 325 = .ok (.aload_n 0, 1) := by decide +kernel
theorem dL_areColumns_326 : decode cL_areColumns 326 = .ok (.iload_n 3, 1) := by decide +kernel
theorem dL_areColumns_327 : decode cL_areColumns 327 = .ok (.invokevirtual 84, 3) := by decide +kernel
theorem dL_areColumns_330 : decode cL_areColumns 330 = .ok (.iload 4, 2) := by decide +kernel
theorem dL_areColumns_332 : decode cL_areColumns 332 = .ok (.iload 7, 2) := by decide +kernel
theorem dL_areColumns_334 : decode cL_areColumns 334 = .ok (.isub, 1) := by decide +kernel
theorem dL_areColumns_335 : decode cL_areColumns 335 = .ok (.if_icmp .ne 45, 3) := by decide +kernel
theorem dL_areColumns_338 : decode cL_areColumns 338 = .ok (.aload_n 0, 1) := by decide +kernel
theorem dL_areColumns_339 : decode cL_areColumns 339 = .ok (.iload_n 3, 1) := by decide +kernel
theorem dL_areColumns_340 : decode cL_areColumns 340 = .ok (.invokevirtual 91, 3) := by decide +kernel
theorem dL_areColumns_343 : decode cL_areColumns 343 = .ok (.iload_n 1, 1) := by decide +kernel
theorem dL_areColumns_344 : decode cL_areColumns 344 = .ok (.ifCond .ne 7, 3) := by decide +kernel
theorem dL_areColumns_347 : decode cL_areColumns 347 = .ok (.iconst 0, 1) := by decide +kernel
theorem dL_areColumns_348 : decode cL_areColumns 348 = .ok (.goto 13, 3) := by decide +kernel
theorem dL_areColumns_351 : decode cL_areColumns 351 = .ok (.aload_n 0, 1) := by decide +kernel
theorem dL_areColumns_352 : decode cL_areColumns 352 = .ok (.iload_n 3, 1) := by decide +kernel
theorem dL_areColumns_353 : decode cL_areColumns 353 = .ok (.aload_n 0, 1) := by decide +kernel
theorem dL_areColumns_354 : decode cL_areColumns 354 = .ok (.iload_n 3, 1) := by decide +kernel
theorem dL_areColumns_355 : decode cL_areColumns 355 = .ok (.invokevirtual 94, 3) := by decide +kernel
theorem dL_areColumns_358 : decode cL_areColumns 358 = .ok (.invokevirtual 62, 3) := by decide +kernel
theorem dL_areColumns_361 : decode cL_areColumns 361 = .ok (.if_icmp .gt 19, 3) := by decide +kernel
theorem dL_areColumns_364 : decode cL_areColumns 364 = .ok (.aload_n 0, 1) := by decide +kernel
theorem dL_areColumns_365 : decode cL_areColumns 365 = .ok (.iload_n 3, 1) := by decide +kernel
theorem dL_areColumns_366 : decode cL_areColumns 366 = .ok (.invokevirtual 97, 3) := by decide +kernel
theorem dL_areColumns_369 : decode cL_areColumns 369 = .ok (.aload_n 0, 1) := by decide +kernel
theorem dL_areColumns_370 : decode cL_areColumns 370 = .ok (.aload_n 0, 1) := by decide +kernel
theorem dL_areColumns_371 : decode cL_areColumns 371 = .ok (.invokevirtual 100, 3) := by decide +kernel
theorem dL_areColumns_374 : decode cL_areColumns 374 = .ok (.invokevirtual 97, 3) := by decide +kernel
theorem dL_areColumns_377 : decode cL_areColumns 377 = .ok (.if_icmp .ge 5, 3) := by decide +kernel
theorem dL_areColumns_380 : decode cL_areColumns 380 = .ok (.iconst 0, 1) := by decide +kernel
theorem dL_areColumns_381 : decode cL_areColumns 381 = .ok (.ireturn, 1) := by decide +kernel
theorem dL_areColumns_382 : decode cL_areColumns 382 = .ok (.iinc 3 1, 3) := by decide +kernel
theorem dL_areColumns_385 : decode cL_areColumns 385 = .ok (.goto (-376), 3) := by decide +kernel
theorem dL_areColumns_388 : decode cL_areColumns 388 = .ok (.iload_n 2, 1) := by decide +kernel
theorem dL_areColumns_389 : decode cL_areColumns 389 = .ok (.aload_n 0, 1) := by decide +kernel
theorem dL_areColumns_390 : decode cL_areColumns 390 = .ok (.invokevirtual 103, 3) := by decide +kernel
theorem dL_areColumns_393 : decode cL_areColumns 393 = .ok (.if_icmp .ne 7, 3) := by decide +kernel
theorem dL_areColumns_396 : decode cL_areColumns 396 = .ok (.iconst 1, 1) := by decide +kernel
theorem dL_areColumns_397 : decode cL_areColumns 397 = .ok (.goto 4, 3) := by decide +kernel
theorem dL_areColumns_400 : decode cL_areColumns 400 = .ok (.iconst 0, 1) := by decide +kernel
theorem dL_areColumns_401 : decode cL_areColumns 401 = .ok (.ireturn, 1) := by decide +kernel
theorem dL_isFilter_0 : decode cL_isFilter 0 = .ok (.aload_n 0, 1) := by decide +kernel
theorem dL_isFilter_1 : decode cL_isFilter 1 = .ok (.invokevirtual 40, 3) := by decide +kernel
theorem dL_isFilter_4 : decode cL_isFilter 4 = .ok (.istore_n 1, 1) := by decide +kernel
theorem dL_isFilter_5 : decode cL_isFilter 5 = .ok (.iconst 0, 1) := by decide +kernel
theorem dL_isFilter_6 : decode cL_isFilter 6 = .ok (.istore_n 2, 1) := by decide +kernel
theorem dL_isFilter_7 : decode cL_isFilter 7 = .ok (.iconst 0, 1) := by decide +kernel
theorem dL_isFilter_8 : decode cL_isFilter 8 = .ok (.istore_n 3, 1) := by decide +kernel
theorem dL_isFilter_9 : decode cL_isFilter 9 = .ok (.iload_n 3, 1) := by decide +kernel
theorem dL_isFilter_10 : decode cL_isFilter 10 = .ok (.aload_n 0, 1) := by decide +kernel
theorem dL_isFilter_11 : decode cL_isFilter 11 = .ok (.invokevirtual 33, 3) := by decide +kernel
theorem dL_isFilter_14 : decode cL_isFilter 14 = .ok (.if_icmp .ge 232, 3) := by decide +kernel
theorem dL_isFilter_17 : decode cL_isFilter 17 = .ok (.iconst 1, 1) := by decide +kernel
theorem dL_isFilter_18 : decode cL_isFilter 18 = .ok (.istore 4, 2) := by decide +kernel
theorem dL_isFilter_20 : decode cL_isFilter 20 = .ok (.iconst (-1), 1) := by decide +kernel
theorem dL_isFilter_21 : decode cL_isFilter 21 = .ok (.istore 5, 2) := by decide +kernel
theorem dL_isFilter_23 : decode cL_isFilter 23 = .ok (.iload_n 1, 1) := by decide +kernel
theorem dL_isFilter_24 : decode cL_isFilter 24 = .ok (.iconst 1, 1) := by decide +kernel
theorem dL_isFilter_25 : decode cL_isFilter 25 = .ok (.isub, 1) := by decide +kernel
theorem dL_isFilter_26 : decode cL_isFilter 26 = .ok (.istore 6, 2) := by decide +kernel
theorem dL_isFilter_28 : decode cL_isFilter 28 = .ok (.iload 6, 2) := by decide +kernel
theorem dL_isFilter_30 : decode cL_isFilter 30 = .ok (.ifCond .lt 169, 3) := by decide +kernel
theorem dL_isFilter_33 : decode cL_isFilter 33 = .ok (.aload_n 0, 1) := by decide +kernel
theorem dL_isFilter_34 : decode cL_isFilter 34 = .ok (.iload 6, 2) := by decide +kernel
theorem dL_isFilter_36 : decode cL_isFilter 36 = .ok (.invokevirtual 50, 3) := by decide +kernel
theorem dL_isFilter_39 : decode cL_isFilter 39 = .ok (.istore 7, 2) := by decide +kernel
theorem dL_isFilter_41 : decode cL_isFilter 41 = .ok (.aload_n 0, 1) := by decide +kernel
theorem dL_isFilter_42 : decode cL_isFilter 42 = .ok (.iload 7, 2) := by decide +kernel
theorem dL_isFilter_44 : decode cL_isFilter 44 = .ok (.iload_n 3, 1) := by decide +kernel
theorem dL_isFilter_45 : decode cL_isFilter 45 = .ok (.invokevirtual 72, 3) := by decide +kernel
theorem dL_isFilter_48 : decode cL_isFilter 48 = .ok (.istore 8, 2) := by decide +kernel
theorem dL_isFilter_50 : decode cL_isFilter 50 = .ok (.iload 8, 2) := by decide +kernel
theorem dL_isFilter_52 : decode cL_isFilter 52 = .ok (.aload_n 0, 1) := by decide +kernel
theorem dL_isFilter_53 : decode cL_isFilter 53 = .ok (.iload 6, 2) := by decide +kernel
theorem dL_isFilter_55 : decode cL_isFilter 55 = .ok (.invokevirtual 106, 3) := by decide +kernel
theorem dL_isFilter_58 : decode cL_isFilter 58 = .ok (.if_icmp .lt 18, 3) := by decide +kernel
theorem dL_isFilter_61 : decode cL_isFilter 61 = .ok (.iload 8, 2) := by decide +kernel
theorem dL_isFilter_63 : decode cL_isFilter 63 = .ok (.aload_n 0, 1) := by decide +kernel
theorem dL_isFilter_64 : decode cL_isFilter 64 = .ok (.iload 6, 2) := by decide +kernel
theorem dL_isFilter_66 : decode cL_isFilter 66 = .ok (.invokevirtual 109, 3) := by decide +kernel
theorem dL_isFilter_69 : decode cL_isFilter 69 = .ok (.if_icmp .ge 7, 3) := by decide +kernel
theorem dL_isFilter_72 : decode cL_isFilter 72 = .ok (.iconst 1, 1) := by decide +kernel
theorem dL_isFilter_73 : decode cL_isFilter 73 = .ok (.goto 4, 3) := by decide +kernel
theorem dL_isFilter_76 : decode cL_isFilter 76 = .ok (.iconst 0, 1) := by decide +kernel
theorem dL_isFilter_77 : decode cL_isFilter 77 = .ok (.istore 9, 2) := by decide +kernel
theorem dL_isFilter_79 : decode cL_isFilter 79 = .ok (.aload_n 0, 1) := by decide +kernel
theorem dL_isFilter_80 : decode cL_isFilter 80 = .ok (.iload 7, 2) := by decide +kernel
theorem dL_isFilter_82 : decode cL_isFilter 82 = .ok (.iload_n 3, 1) := by decide +kernel
theorem dL_isFilter_83 : decode cL_isFilter 83 = .ok (.invokevirtual 43, 3) := by decide +kernel
theorem dL_isFilter_86 : decode cL_isFilter 86 = .ok (.istore 10, 2) := by decide +kernel
theorem dL_isFilter_88 : decode cL_isFilter 88 = .ok (.aload_n 0, 1) := by decide +kernel
theorem dL_isFilter_89 : decode cL_isFilter 89 = .ok (.iload 6, 2) := by decide +kernel
theorem dL_isFilter_91 : decode cL_isFilter 91 = .ok (.invokevirtual 53, 3) := by decide +kernel
theorem dL_isFilter_94 : decode cL_isFilter 94 = .ok (.istore 11, 2) := by decide +kernel
theorem dL_isFilter_96 : decode cL_isFilter 96 = .ok (.aload_n 0, 1) := by decide +kernel
theorem dL_isFilter_97 : decode cL_isFilter 97 = .ok (.iload 6, 2) := by decide +kernel
theorem dL_isFilter_99 : decode cL_isFilter 99 = .ok (.invokevirtual 56, 3) := by decide +kernel
theorem dL_isFilter_102 : decode cL_isFilter 102 = .ok (.ifCond .ge 18, 3) := by decide +kernel
theorem dL_isFilter_105 : decode cL_isFilter 105 = .ok (.iload 10, 2) := by decide +kernel
theorem dL_isFilter_107 : decode cL_isFilter 107 = .ok (.iload 11, 2) := by decide +kernel
theorem dL_isFilter_109 : decode cL_isFilter 109 = .ok (.if_icmp .ge 7, 3) := by decide +kernel
theorem dL_isFilter_112 : decode cL_isFilter 112 = .ok (.iconst 1, 1) := by decide +kernel
theorem dL_isFilter_113 : decode cL_isFilter 113 = .ok (.goto 43, 3) := by decide +kernel
theorem dL_isFilter_116 : decode cL_isFilter 116 = .ok (.iconst 0, 1) := by decide +kernel
theorem dL_isFilter_117 : decode cL_isFilter 117 = .ok (.goto 39, 3) := by decide +kernel
theorem dL_isFilter_120 : decode cL_isFilter 120 = .ok (.aload_n 0, 1) := by decide +kernel
theorem dL_isFilter_121 : decode cL_isFilter 121 = .ok (.iload 6, 2) := by decide +kernel
theorem dL_isFilter_123 : decode cL_isFilter 123 = .ok (.invokevirtual 56, 3) := by decide +kernel
theorem dL_isFilter_126 : decode cL_isFilter 126 = .ok (.ifCond .le 18, 3) := by decide +kernel
theorem dL_isFilter_129 : decode cL_isFilter 129 = .ok (.iload 10, 2) := by decide +kernel
theorem dL_isFilter_131 : decode cL_isFilter 131 = .ok (.iload 11, 2) := by decide +kernel
theorem dL_isFilter_133 : decode cL_isFilter 133 = .ok (.if_icmp .le 7, 3) := by decide +kernel
theorem dL_isFilter_136 : decode cL_isFilter 136 = .ok (.iconst 1, 1) := by decide +kernel
theorem dL_isFilter_137 : decode cL_isFilter 137 = .ok (.goto 19, 3) := by decide +kernel
theorem dL_isFilter_140 : decode cL_isFilter 140 = .ok (.iconst 0, 1) := by decide +kernel
theorem dL_isFilter_141 : decode cL_isFilter 141 = .ok (.goto 15, 3) := by decide +kernel
theorem dL_isFilter_144 : decode cL_isFilter 144 = .ok (.iload 10, 2) := by decide +kernel
theorem dL_isFilter_146 : decode cL_isFilter 146 = .ok (.iload 11, 2) := by decide +kernel
theorem dL_isFilter_148 : decode cL_isFilter 148 = .ok (.if_icmp .ne 7, 3) := by decide +kernel
theorem dL_isFilter_151 : decode cL_isFilter 151 = .ok (.iconst 1, 1) := by decide +kernel
theorem dL_isFilter_152 : decode cL_isFilter 152 = .ok (.goto 4, 3) := by decide +kernel
theorem dL_isFilter_155 : decode cL_isFilter 155 = .ok (.iconst 0, 1) := by decide +kernel
theorem dL_isFilter_156 : decode cL_isFilter 156 = .ok (.istore 12, 2) := by decide +kernel
theorem dL_isFilter_158 : decode cL_isFilter 158 = .ok (.iload 9, 2) := by decide +kernel
theorem dL_isFilter_160 : decode cL_isFilter 160 = .ok (.iload 12, 2) := by decide +kernel
theorem dL_isFilter_162 : decode cL_isFilter 162 = .ok (.if_icmp .eq 5, 3) := by decide +kernel
theorem dL_isFilter_165 : decode cL_isFilter 165 = .ok (.iconst 0, 1) := by decide +kernel
theorem dL_isFilter_166 : decode cL_isFilter 166 = .ok (.ireturn, 1) := by decide +kernel
theorem dL_isFilter_167 : decode cL_isFilter 167 = .ok (.iload 4, 2) := by decide +kernel
theorem dL_isFilter_169 : decode cL_isFilter 169 = .ok (.ifCond .eq 12, 3) := by decide +kernel
theorem dL_isFilter_172 : decode cL_isFilter 172 = .ok (.iload 9, 2) := by decide +kernel
theorem dL_isFilter_174 : decode cL_isFilter 174 = .ok (.ifCond .eq 7, 3) := by decide +kernel
theorem dL_isFilter_177 : decode cL_isFilter 177 = .ok (.iconst 1, 1) := by decide +kernel
theorem dL_isFilter_178 : decode cL_isFilter 178 = .ok (.goto 4, 3) := by decide +kernel
theorem dL_isFilter_181 : decode cL_isFilter 181 = .ok (.iconst 0, 1) := by decide +kernel
theorem dL_isFilter_182 : decode cL_isFilter 182 = .ok (.istore 4, 2) := by decide +kernel
theorem dL_isFilter_184 : decode cL_isFilter 184 = .ok (.iload 9, 2) := by decide +kernel
theorem dL_isFilter_186 : decode cL_isFilter 186 = .ok (.ifCond .ne 7, 3) := by decide +kernel
theorem dL_isFilter_189 : decode cL_isFilter 189 = .ok (.iload 6, 2) := by decide +kernel
theorem dL_isFilter_191 : decode cL_isFilter 191 = .ok (.istore 5, 2) := by decide +kernel
theorem dL_isFilter_193 : decode cL_isFilter 193 = .ok (.iinc 6 (-1), 3) := by decide +kernel
theorem dL_isFilter_196 : decode cL_isFilter 196 = .ok (.goto (-168), 3) := by decide +kernel
theorem dL_isFilter_199 : decode cL_isFilter 199 = .ok (.aload_n 0, 1) := by decide +kernel
theorem dL_isFilter_200 : decode cL_isFilter 200 = .ok (.iload_n 3, 1) := by decide +kernel
theorem dL_isFilter_201 : decode cL_isFilter 201 = .ok (.invokevirtual 112, 3) := by decide +kernel
theorem dL_isFilter_204 : decode cL_isFilter 204 = .ok (.iload 4, 2) := by decide +kernel
theorem dL_isFilter_206 : decode cL_isFilter 206 = .ok (.if_icmp .ne 13, 3) := by decide +kernel
theorem dL_isFilter_209 : decode cL_isFilter 209 = .ok (.aload_n 0, 1) := by decide +kernel
theorem dL_isFilter_210 : decode cL_isFilter 210 = .ok (.iload_n 3, 1) := by decide +kernel
theorem dL_isFilter_211 : decode cL_isFilter 211 = .ok (.invokevirtual 115, 3) := by decide +kernel
theorem dL_isFilter_214 : decode cL_isFilter 214 = .ok (.iload 5, 2) := by decide +kernel
theorem dL_isFilter_216 : decode cL_isFilter 216 = .ok (.if_icmp .eq 5, 3) := by decide +kernel
theorem dL_isFilter_219 : decode cL_isFilter 219 = .ok (.iconst 0, 1) := by decide +kernel
theorem dL_isFilter_220 : decode cL_isFilter 220 = .ok (.ireturn, 1) := by decide +kernel
theorem dL_isFilter_221 : decode cL_isFilter 221 = .ok (.iload 4, 2) := by decide +kernel
theorem dL_isFilter_223 : decode cL_isFilter 223 = .ok (.ifCond .eq 17, 3) := by decide +kernel
theorem dL_isFilter_226 : decode cL_isFilter 226 = .ok (.aload_n 0, 1) := by decide +kernel
theorem dL_isFilter_227 : decode cL_isFilter 227 = .ok (.iload_n 2, 1) := by decide +kernel
theorem dL_isFilter_228 : decode cL_isFilter 228 = .ok (.iinc 2 1, 3) := by decide +kernel
theorem dL_isFilter_231 : decode cL_isFilter 231 = .ok (.invokevirtual 118, 3) := by decide +kernel
theorem dL_isFilter_234 : decode cL_isFilter 234 = .ok (.iload_n 3, 1) := by decide +kernel
theorem dL_isFilter_235 : decode cL_isFilter 235 = .ok (.if_icmp .eq 5, 3) := by decide +kernel
theorem dL_isFilter_238 : decode cL_isFilter 238 = .ok (.iconst 0, 1) := by decide +kernel
theorem dL_isFilter_239 : decode cL_isFilter 239 = .ok (.ireturn, 1) := by decide +kernel
theorem dL_isFilter_240 : decode cL_isFilter 240 = .ok (.iinc 3 1, 3) := by decide +kernel
theorem dL_isFilter_243 : decode cL_isFilter 243 = .ok (.goto (-234), 3) := by decide +kernel
theorem dL_isFilter_246 : decode cL_isFilter 246 = .ok (.iconst 0, 1) := by decide +kernel
theorem dL_isFilter_247 : decode cL_isFilter 247 = .ok (.istore_n 3, 1) := by decide +kernel
theorem dL_isFilter_248 : decode cL_isFilter 248 = .ok (.iload_n 3, 1) := by decide +kernel
theorem dL_isFilter_249 : decode cL_isFilter 249 = .ok (.iload_n 1, 1) := by decide +kernel
theorem dL_isFilter_250 : decode cL_isFilter 250 = .ok (.if_icmp .ge 66, 3) := by decide +kernel
theorem dL_isFilter_253 : decode cL_isFilter 253 = .ok (.aload_n 0, 1) := by decide +kernel
theorem dL_isFilter_254 : decode cL_isFilter 254 = .ok (.iload_n 3, 1) := by decide +kernel
theorem dL_isFilter_255 : decode cL_isFilter 255 = .ok (.invokevirtual 121, 3) := by decide +kernel
theorem dL_isFilter_258 : decode cL_isFilter 258 = .ok (.iload_n 2, 1) := by decide +kernel
theorem dL_isFilter_259 : decode cL_isFilter 259 = .ok (.if_icmp .lt 49, 3) := by decide +kernel
theorem dL_isFilter_262 : decode cL_isFilter 262 = .ok (.aload_n 0, 1) := by decide +kernel
theorem dL_isFilter_263 : decode cL_isFilter 263 = .ok (.iload_n 3, 1) := by decide +kernel
theorem dL_isFilter_264 : decode cL_isFilter 264 = .ok (.invokevirtual 121, 3) := by decide +kernel
theorem dL_isFilter_267 : decode cL_isFilter 267 = .ok (.aload_n 0, 1) := by decide +kernel
theorem dL_isFilter_268 : decode cL_isFilter 268 = .ok (.aload_n 0, 1) := by decide +kernel
theorem dL_isFilter_269 : decode cL_isFilter 269 = .ok (.invokevirtual 124, 3) := by decide +kernel
theorem dL_isFilter_272 : decode cL_isFilter 272 = .ok (.invokevirtual 121, 3) := by decide +kernel
theorem dL_isFilter_275 : decode cL_isFilter 275 = .ok (.if_icmp .lt 33, 3) := by decide +kernel
theorem dL_isFilter_278 : decode cL_isFilter 278 = .ok (.aload_n 0, 1) := by decide +kernel
theorem dL_isFilter_279 : decode cL_isFilter 279 = .ok (.iload_n 3, 1) := by decide +kernel
theorem dL_isFilter_280 : decode cL_isFilter 280 = .ok (.invokevirtual 106, 3) := by decide +kernel
theorem dL_isFilter_283 : decode cL_isFilter 283 = .ok (.aload_n 0, 1) := by decide +kernel
theorem dL_isFilter_284 : decode cL_isFilter 284 = .ok (.iload_n 3, 1) := by decide +kernel
theorem dL_isFilter_285 : decode cL_isFilter 285 = .ok (.invokevirtual 109, 3) := by decide +kernel
theorem dL_isFilter_288 : decode cL_isFilter 288 = .ok (.if_icmp .gt 20, 3) := by decide +kernel
theorem dL_isFilter_291 : decode cL_isFilter 291 = .ok (.aload_n 0, 1) := by decide +kernel
theorem dL_isFilter_292 : decode cL_isFilter 292 = .ok (.iload_n 3, 1) := by decide +kernel
theorem dL_isFilter_293 : decode cL_isFilter 293 = .ok (.invokevirtual 109, 3) := by decide +kernel
theorem dL_isFilter_296 : decode cL_isFilter 296 = .ok (.aload_n 0, 1) := by decide +kernel
theorem dL_isFilter_297 : decode cL_isFilter 297 = .ok (.aload_n 0, 1) := by decide +kernel
theorem dL_isFilter_298 : decode cL_isFilter 298 = .ok (.iload_n 3, 1) := by decide +kernel
theorem dL_isFilter_299 : decode cL_isFilter 299 = .ok (.invokevirtual 50, 3) := by decide +kernel
theorem dL_isFilter_302 : decode cL_isFilter 302 = .ok (.invokevirtual 36, 3) := by decide +kernel
theorem dL_isFilter_305 : decode cL_isFilter 305 = .ok (.if_icmp .le 5, 3) := by decide +kernel
theorem dL_isFilter_308 : decode cL_isFilter 308 = .ok (.iconst 0, 1) := by decide +kernel
theorem dL_isFilter_309 : decode cL_isFilter 309 = .ok (.ireturn, 1) := by decide +kernel
theorem dL_isFilter_310 : decode cL_isFilter 310 = .ok (.iinc 3 1, 3) := by decide +kernel
theorem dL_isFilter_313 : decode cL_isFilter 313 = .ok (.goto (-65), 3) := by decide +kernel
theorem dL_isFilter_316 : decode cL_isFilter 316 = .ok (.iconst 0, 1) := by decide +kernel
theorem dL_isFilter_317 : decode cL_isFilter 317 = .ok (.istore_n 3, 1) := by decide +kernel
theorem dL_isFilter_318 : decode cL_isFilter 318 = .ok (.iload_n 3, 1) := by decide +kernel
theorem dL_isFilter_319 : decode cL_isFilter 319 = .ok (.aload_n 0, 1) := by decide +kernel
theorem dL_isFilter_320 : decode cL_isFilter 320 = .ok (.invokevirtual 30, 3) := by decide +kernel
theorem dL_isFilter_323 : decode cL_isFilter 323 = .ok (.if_icmp .ge 96, 3) := by decide +kernel
theorem dL_isFilter_326 : decode cL_isFilter 326 = .ok (.iload_n 2, 1) := by decide +kernel
theorem dL_isFilter_327 : decode cL_isFilter 327 = .ok (.ifCond .le 92, 3) := by decide +kernel
theorem dL_isFilter_330 : decode cL_isFilter 330 = .ok (.aload_n 0, 1) := by decide +kernel
theorem dL_isFilter_331 : decode cL_isFilter 331 = .ok (.iload_n 3, 1) := by decide +kernel
theorem dL_isFilter_332 : decode cL_isFilter 332 = .ok (.invokevirtual 127, 3) := by decide +kernel
theorem dL_isFilter_335 : decode cL_isFilter 335 = .ok (.lstore 4, 2) := by decide +kernel
theorem dL_isFilter_337 : decode cL_isFilter 337 = .ok (.lload 4, 2) := by decide +kernel
theorem dL_isFilter_339 : decode cL_isFilter 339 = .ok (.iload_n 2, 1) := by decide +kernel
theorem dL_isFilter_340 : decode cL_isFilter 340 = .ok (.i2l, 1) := by decide +kernel
theorem dL_isFilter_341 : decode cL_isFilter 341 = .ok (.aload_n 0, 1) := by decide +kernel
theorem dL_isFilter_342 : decode cL_isFilter 342 = .ok (.iload_n 3, 1) := by decide +kernel
theorem dL_isFilter_343 : decode cL_isFilter 343 = .ok (.invokevirtual 131, 3) := by decide +kernel
theorem dL_isFilter_346 : decode cL_isFilter 346 = .ok (.i2l, 1) := by decide +kernel
theorem dL_isFilter_347 : decode cL_isFilter 347 = .ok (.lmul, 1) := by decide +kernel
theorem dL_isFilter_348 : decode cL_isFilter 348 = .ok (.lcmp, 1) := by decide +kernel
theorem dL_isFilter_349 : decode cL_isFilter 349 = .ok (.ifCond .lt 62, 3) := by decide +kernel
theorem dL_isFilter_352 : decode cL_isFilter 352 = .ok (.lload 4, 2) := by decide +kernel
theorem dL_isFilter_354 : decode cL_isFilter 354 = .ok (.iload_n 2, 1) := by decide +kernel
theorem dL_isFilter_355 : decode cL_isFilter 355 = .ok (.i2l, 1) := by decide +kernel
theorem dL_isFilter_356 : decode cL_isFilter 356 = .ok (.aload_n 0, 1) := by decide +kernel
theorem dL_isFilter_357 : decode cL_isFilter 357 = .ok (.iload_n 3, 1) := by decide +kernel
theorem dL_isFilter_358 : decode cL_isFilter 358 = .ok (.invokevirtual 134, 3) := by decide +kernel
theorem dL_isFilter_361 : decode cL_isFilter 361 = .ok (.i2l, 1) := by decide +kernel
theorem dL_isFilter_362 : decode cL_isFilter 362 = .ok (.lmul, 1) := by decide +kernel
theorem dL_isFilter_363 : decode cL_isFilter 363 = .ok (.lcmp, 1) := by decide +kernel
theorem dL_isFilter_364 : decode cL_isFilter 364 = .ok (.ifCond .gt 47, 3) := by decide +kernel
theorem dL_isFilter_367 : decode cL_isFilter 367 = .ok (.aload_n 0, 1) := by decide +kernel
theorem dL_isFilter_368 : decode cL_isFilter 368 = .ok (.iload_n 3, 1) := by decide +kernel
theorem dL_isFilter_369 : decode cL_isFilter 369 = .ok (.invokevirtual 137, 3) := by decide +kernel
theorem dL_isFilter_372 : decode cL_isFilter 372 = .ok (.iload_n 2, 1) := by decide +kernel
theorem dL_isFilter_373 : decode cL_isFilter 373 = .ok (.if_icmp .gt 38, 3) := by decide +kernel
theorem dL_isFilter_376 : decode cL_isFilter 376 = .ok (.aload_n 0, 1) := by decide +kernel
theorem dL_isFilter_377 : decode cL_isFilter 377 = .ok (.iload_n 3, 1) := by decide +kernel
theorem dL_isFilter_378 : decode cL_isFilter 378 = .ok (.invokevirtual 131, 3) := by decide +kernel
theorem dL_isFilter_381 : decode cL_isFilter 381 = .ok (.aload_n 0, 1) := by decide +kernel
theorem dL_isFilter_382 : decode cL_isFilter 382 = .ok (.iload_n 3, 1) := by decide +kernel
theorem dL_isFilter_383 : decode cL_isFilter 383 = .ok (.invokevirtual 134, 3) := by decide +kernel
theorem dL_isFilter_386 : decode cL_isFilter 386 = .ok (.if_icmp .ne 7, 3) := by decide +kernel
theorem dL_isFilter_389 : decode cL_isFilter 389 = .ok (.iconst 1, 1) := by decide +kernel
theorem dL_isFilter_390 : decode cL_isFilter 390 = .ok (.goto 4, 3) := by decide +kernel
theorem dL_isFilter_393 : decode cL_isFilter 393 = .ok (.iconst 0, 1) := by decide +kernel
theorem dL_isFilter_394 : decode cL_isFilter 394 = .ok (.aload_n 0, 1) := by decide +kernel
theorem dL_isFilter_395 : decode cL_isFilter 395 = .ok (.iload_n 3, 1) := by decide +kernel
theorem dL_isFilter_396 : decode cL_isFilter 396 = .ok (.invokevirtual 137, 3) := by decide +kernel
theorem dL_isFilter_399 : decode cL_isFilter 399 = .ok (.iconst 1, 1) := by decide +kernel
theorem dL_isFilter_400 : decode cL_isFilter 400 = .ok (.if_icmp .ne 7, 3) := by decide +kernel
theorem dL_isFilter_403 : decode cL_isFilter 403 = .ok (.iconst 1, 1) := by decide +kernel
theorem dL_isFilter_404 : decode cL_isFilter 404 = .ok (.goto 4, 3) := by decide +kernel
theorem dL_isFilter_407 : decode cL_isFilter 407 = .ok (.iconst 0, 1) := by decide +kernel
theorem dL_isFilter_408 : decode cL_isFilter 408 = .ok (.if_icmp .eq 5, 3) := by decide +kernel
theorem dL_isFilter_411 : decode cL_isFilter 411 = .ok (.iconst 0, 1) := by decide +kernel
theorem dL_isFilter_412 : decode cL_isFilter 412 = .ok (.ireturn, 1) := by decide +kernel
theorem dL_isFilter_413 : decode cL_isFilter 413 = .ok (.iinc 3 1, 3) := by decide +kernel
theorem dL_isFilter_416 : decode cL_isFilter 416 = .ok (.goto (-98), 3) := by decide +kernel
theorem dL_isFilter_419 : decode cL_isFilter 419 = .ok (.iload_n 2, 1) := by decide +kernel
theorem dL_isFilter_420 : decode cL_isFilter 420 = .ok (.aload_n 0, 1) := by decide +kernel
theorem dL_isFilter_421 : decode cL_isFilter 421 = .ok (.invokevirtual 140, 3) := by decide +kernel
theorem dL_isFilter_424 : decode cL_isFilter 424 = .ok (.if_icmp .ne 14, 3) := by decide +kernel
theorem dL_isFilter_427 : decode cL_isFilter 427 = .ok (.aload_n 0, 1) := by decide +kernel
theorem dL_isFilter_428 : decode cL_isFilter 428 = .ok (.invokevirtual 143, 3) := by decide +kernel
theorem dL_isFilter_431 : decode cL_isFilter 431 = .ok (.ifCond .ne 7, 3) := by decide +kernel
theorem dL_isFilter_434 : decode cL_isFilter 434 = .ok (.iconst 1, 1) := by decide +kernel
theorem dL_isFilter_435 : decode cL_isFilter 435 = .ok (.goto 4, 3) := by decide +kernel
theorem dL_isFilter_438 : decode cL_isFilter 438 = .ok (.iconst 0, 1) := by decide +kernel
theorem dL_isFilter_439 : decode cL_isFilter 439 = .ok (.ireturn, 1) := by decide +kernel
theorem dL_act_0 : decode cL_act 0 = .ok (.iload_n 2, 1) := by decide +kernel
theorem dL_act_1 : decode cL_act 1 = .ok (.bipush 26, 2) := by decide +kernel
theorem dL_act_3 : decode cL_act 3 = .ok (.invokestatic 146, 3) := by decide +kernel
theorem dL_act_6 : decode cL_act 6 = .ok (.istore_n 3, 1) := by decide +kernel
theorem dL_act_7 : decode cL_act 7 = .ok (.iload_n 2, 1) := by decide +kernel
theorem dL_act_8 : decode cL_act 8 = .ok (.iconst 4, 1) := by decide +kernel
theorem dL_act_9 : decode cL_act 9 = .ok (.ishr, 1) := by decide +kernel
theorem dL_act_10 : decode cL_act 10 = .ok (.istore 4, 2) := by decide +kernel
theorem dL_act_12 : decode cL_act 12 = .ok (.aload_n 0, 1) := by decide +kernel
theorem dL_act_13 : decode cL_act 13 = .ok (.invokevirtual 30, 3) := by decide +kernel
theorem dL_act_16 : decode cL_act 16 = .ok (.istore 5, 2) := by decide +kernel
theorem dL_act_18 : decode cL_act 18 = .ok (.aload_n 0, 1) := by decide +kernel
theorem dL_act_19 : decode cL_act 19 = .ok (.invokevirtual 33, 3) := by decide +kernel
theorem dL_act_22 : decode cL_act 22 = .ok (.istore 6, 2) := by decide +kernel
theorem dL_act_24 : decode cL_act 24 = .ok (.iload 4, 2) := by decide +kernel
theorem dL_act_26 : decode cL_act 26 = .ok (.iload 5, 2) := by decide +kernel
theorem dL_act_28 : decode cL_act 28 = .ok (.invokestatic 146, 3) := by decide +kernel
theorem dL_act_31 : decode cL_act 31 = .ok (.istore 7, 2) := by decide +kernel
theorem dL_act_33 : decode cL_act 33 = .ok (.iload 4, 2) := by decide +kernel
theorem dL_act_35 : decode cL_act 35 = .ok (.iconst 2, 1) := by decide +kernel
theorem dL_act_36 : decode cL_act 36 = .ok (.ishr, 1) := by decide +kernel
theorem dL_act_37 : decode cL_act 37 = .ok (.iconst 3, 1) := by decide +kernel
theorem dL_act_38 : decode cL_act 38 = .ok (.invokestatic 146, 3) := by decide +kernel
theorem dL_act_41 : decode cL_act 41 = .ok (.ifCond .ne 18, 3) := by decide +kernel
theorem dL_act_44 : decode cL_act 44 = .ok (.iload 4, 2) := by decide +kernel
theorem dL_act_46 : decode cL_act 46 = .ok (.sipush 400, 3) := by decide +kernel
theorem dL_act_49 : decode cL_act 49 = .ok (.invokestatic 146, 3) := by decide +kernel
theorem dL_act_52 : decode cL_act 52 = .ok (.sipush 200, 3) := by decide +kernel
theorem dL_act_55 : decode cL_act 55 = .ok (.isub, 1) := by decide +kernel
theorem dL_act_56 : decode cL_act 56 = .ok (.goto 14, 3) := by decide +kernel
theorem dL_act_59 : decode cL_act 59 = .ok (.iload 4, 2) := by decide +kernel
theorem dL_act_61 : decode cL_act 61 = .ok (.iconst 3, 1) := by decide +kernel
theorem dL_act_62 : decode cL_act 62 = .ok (.ishr, 1) := by decide +kernel
theorem dL_act_63 : decode cL_act 63 = .ok (.bipush 7, 2) := by decide +kernel
theorem dL_act_65 : decode cL_act 65 = .ok (.invokestatic 146, 3) := by decide +kernel
theorem dL_act_68 : decode cL_act 68 = .ok (.iconst 3, 1) := by decide +kernel
theorem dL_act_69 : decode cL_act 69 = .ok (.isub, 1) := by decide +kernel
theorem dL_act_70 : decode cL_act 70 = .ok (.istore 8, 2) := by decide +kernel
theorem dL_act_72 : decode cL_act 72 = .ok (.iload_n 3, 1) := by decide +kernel
theorem dL_act_73 : decode cL_act 73 = .ok (.bipush 6, 2) := by decide +kernel
theorem dL_act_75 : decode cL_act 75 = .ok (.if_icmp .lt 8, 3) := by decide +kernel
theorem dL_act_78 : decode cL_act 78 = .ok (.iload 6, 2) := by decide +kernel
theorem dL_act_80 : decode cL_act 80 = .ok (.ifCond .ne 146, 3) := by decide +kernel
theorem dL_act_83 : decode cL_act 83 = .ok (.iload 6, 2) := by decide +kernel
theorem dL_act_85 : decode cL_act 85 = .ok (.bipush 60, 2) := by decide +kernel
theorem dL_act_87 : decode cL_act 87 = .ok (.if_icmp .ne 16, 3) := by decide +kernel
theorem dL_act_90 : decode cL_act 90 = .ok (.aload_n 0, 1) := by decide +kernel
theorem dL_act_91 : decode cL_act 91 = .ok (.invokevirtual 149, 3) := by decide +kernel
theorem dL_act_94 : decode cL_act 94 = .ok (.ifCond .lt 7, 3) := by decide +kernel
theorem dL_act_97 : decode cL_act 97 = .ok (.iconst 1, 1) := by decide +kernel
theorem dL_act_98 : decode cL_act 98 = .ok (.goto 4, 3) := by decide +kernel
theorem dL_act_101 : decode cL_act 101 = .ok (.iconst 0, 1) := by decide +kernel
theorem dL_act_102 : decode cL_act 102 = .ok (.ireturn, 1) := by decide +kernel
theorem dL_act_103 : decode cL_act 103 = .ok (.new 152, 3) := by decide +kernel
theorem dL_act_106 : decode cL_act 106 = .ok (.dup, 1) := by decide +kernel
theorem dL_act_107 : decode cL_act 107 = .ok (.invokespecial 154, 3) := by decide +kernel
theorem dL_act_110 : decode cL_act 110 = .ok (.astore 9, 2) := by decide +kernel
theorem dL_act_112 : decode cL_act 112 = .ok (.iconst 0, 1) := by decide +kernel
theorem dL_act_113 : decode cL_act 113 = .ok (.istore 10, 2) := by decide +kernel
theorem dL_act_115 : decode cL_act 115 = .ok (.iload 10, 2) := by decide +kernel
theorem dL_act_117 : decode cL_act 117 = .ok (.iload 5, 2) := by decide +kernel
theorem dL_act_119 : decode cL_act 119 = .ok (.if_icmp .ge 47, 3) := by decide +kernel
theorem dL_act_122 : decode cL_act 122 = .ok (.aload 9, 2) := by decide +kernel
theorem dL_act_124 : decode cL_act 124 = .ok (.iload 10, 2) := by decide +kernel
theorem dL_act_126 : decode cL_act 126 = .ok (.ifCond .le 8, 3) := by decide +kernel
theorem dL_act_129 : decode cL_act 129 = .ok (.ldc 155, 2) := by decide +kernel
theorem dL_act_131 : decode cL_act 131 = .ok (.goto 5, 3) := by decide +kernel
theorem dL_act_134 : decode cL_act 134 = .ok (.ldc 157, 2) := by decide +kernel
theorem dL_act_136 : decode cL_act 136 = .ok (.invokevirtual 159, 3) := by decide +kernel
theorem dL_act_139 : decode cL_act 139 = .ok (.iload 4, 2) := by decide +kernel
theorem dL_act_141 : decode cL_act 141 = .ok (.iload 10, 2) := by decide +kernel
theorem dL_act_143 : decode cL_act 143 = .ok (.ishr, 1) := by decide +kernel
theorem dL_act_144 : decode cL_act 144 = .ok (.iconst 5, 1) := by decide +kernel
theorem dL_act_145 : decode cL_act 145 = .ok (.iload 10, 2) := by decide +kernel
theorem dL_act_147 : decode cL_act 147 = .ok (.imul, 1) := by decide +kernel
theorem dL_act_148 : decode cL_act 148 = .ok (.iadd, 1) := by decide +kernel
theorem dL_act_149 : decode cL_act 149 = .ok (.bipush 7, 2) := by decide +kernel
theorem dL_act_151 : decode cL_act 151 = .ok (.invokestatic 146, 3) := by decide +kernel
theorem dL_act_154 : decode cL_act 154 = .ok (.iconst 3, 1) := by decide +kernel
theorem dL_act_155 : decode cL_act 155 = .ok (.isub, 1) := by decide +kernel
theorem dL_act_156 : decode cL_act 156 = .ok (.invokevirtual 163, 3) := by decide +kernel
theorem dL_act_159 : decode cL_act 159 = .ok (.pop, 1) := by decide +kernel
theorem dL_act_160 : decode cL_act 160 = .ok (.iinc 10 1, 3) := by decide +kernel
theorem dL_act_163 : decode cL_act 163 = .ok (.goto (-48), 3) := by decide +kernel
theorem dL_act_166 : decode cL_act 166 = .ok (.aload_n 0, 1) := by decide +kernel
theorem dL_act_167 : decode cL_act 167 = .ok (.aload_n 1, 1) := by decide +kernel
theorem dL_act_168 : decode cL_act 168 = .ok (.aload 9, 2) := by decide +kernel
theorem dL_act_170 : decode cL_act 170 = .ok (.invokevirtual 166, 3) := by decide +kernel
theorem dL_act_173 : decode cL_act 173 = .ok (.invokestatic 170, 3) := by decide +kernel
theorem dL_act_176 : decode cL_act 176 = .ok (.aload_n 0, 1) := by decide +kernel
theorem dL_act_177 : decode cL_act 177 = .ok (.aload_n 0, 1) := by decide +kernel
theorem dL_act_178 : decode cL_act 178 = .ok (.aload_n 1, 1) := by decide +kernel
theorem dL_act_179 : decode cL_act 179 = .ok (.invokestatic 174, 3) := by decide +kernel
theorem dL_act_182 : decode cL_act 182 = .ok (.invokevirtual 178, 3) := by decide +kernel
theorem dL_act_185 : decode cL_act 185 = .ok (.iload 6, 2) := by decide +kernel
theorem dL_act_187 : decode cL_act 187 = .ok (.if_icmp .ne 37, 3) := by decide +kernel
theorem dL_act_190 : decode cL_act 190 = .ok (.aload_n 0, 1) := by decide +kernel
theorem dL_act_191 : decode cL_act 191 = .ok (.iconst 0, 1) := by decide +kernel
theorem dL_act_192 : decode cL_act 192 = .ok (.iload 6, 2) := by decide +kernel
theorem dL_act_194 : decode cL_act 194 = .ok (.invokevirtual 43, 3) := by decide +kernel
theorem dL_act_197 : decode cL_act 197 = .ok (.iload 4, 2) := by decide +kernel
theorem dL_act_199 : decode cL_act 199 = .ok (.bipush 7, 2) := by decide +kernel
theorem dL_act_201 : decode cL_act 201 = .ok (.invokestatic 146, 3) := by decide +kernel
theorem dL_act_204 : decode cL_act 204 = .ok (.iconst 3, 1) := by decide +kernel
theorem dL_act_205 : decode cL_act 205 = .ok (.isub, 1) := by decide +kernel
theorem dL_act_206 : decode cL_act 206 = .ok (.if_icmp .ne 18, 3) := by decide +kernel
theorem dL_act_209 : decode cL_act 209 = .ok (.aload_n 0, 1) := by decide +kernel
theorem dL_act_210 : decode cL_act 210 = .ok (.invokevirtual 33, 3) := by decide +kernel
theorem dL_act_213 : decode cL_act 213 = .ok (.iload 6, 2) := by decide +kernel
theorem dL_act_215 : decode cL_act 215 = .ok (.iconst 1, 1) := by decide +kernel
theorem dL_act_216 : decode cL_act 216 = .ok (.iadd, 1) := by decide +kernel
theorem dL_act_217 : decode cL_act 217 = .ok (.if_icmp .ne 7, 3) := by decide +kernel
theorem dL_act_220 : decode cL_act 220 = .ok (.iconst 1, 1) := by decide +kernel
theorem dL_act_221 : decode cL_act 221 = .ok (.goto 4, 3) := by decide +kernel
theorem dL_act_224 : decode cL_act 224 = .ok (.iconst 0, 1) := by decide +kernel
theorem dL_act_225 : decode cL_act 225 = .ok (.ireturn, 1) := by decide +kernel
theorem dL_act_226 : decode cL_act 226 = .ok (.iload 4, 2) := by decide +kernel
theorem dL_act_228 : decode cL_act 228 = .ok (.iconst 1, 1) := by decide +kernel
theorem dL_act_229 : decode cL_act 229 = .ok (.ishr, 1) := by decide +kernel
theorem dL_act_230 : decode cL_act 230 = .ok (.iload 6, 2) := by decide +kernel
theorem dL_act_232 : decode cL_act 232 = .ok (.invokestatic 146, 3) := by decide +kernel
theorem dL_act_235 : decode cL_act 235 = .ok (.istore 9, 2) := by decide +kernel
theorem dL_act_237 : decode cL_act 237 = .ok (.iload_n 3, 1) := by decide +kernel
theorem dL_act_238 : decode cL_act 238 = .ok (.bipush 10, 2) := by decide +kernel
theorem dL_act_240 : decode cL_act 240 = .ok (.if_icmp .ge 68, 3) := by decide +kernel
theorem dL_act_243 : decode cL_act 243 = .ok (.aload_n 0, 1) := by decide +kernel
theorem dL_act_244 : decode cL_act 244 = .ok (.iload 7, 2) := by decide +kernel
theorem dL_act_246 : decode cL_act 246 = .ok (.iload 9, 2) := by decide +kernel
theorem dL_act_248 : decode cL_act 248 = .ok (.invokevirtual 43, 3) := by decide +kernel
theorem dL_act_251 : decode cL_act 251 = .ok (.istore 10, 2) := by decide +kernel
theorem dL_act_253 : decode cL_act 253 = .ok (.aload_n 0, 1) := by decide +kernel
theorem dL_act_254 : decode cL_act 254 = .ok (.iload 7, 2) := by decide +kernel
theorem dL_act_256 : decode cL_act 256 = .ok (.iload 8, 2) := by decide +kernel
theorem dL_act_258 : decode cL_act 258 = .ok (.invokevirtual 181, 3) := by decide +kernel
theorem dL_act_261 : decode cL_act 261 = .ok (.istore 11, 2) := by decide +kernel
theorem dL_act_263 : decode cL_act 263 = .ok (.aload_n 0, 1) := by decide +kernel
theorem dL_act_264 : decode cL_act 264 = .ok (.iload 7, 2) := by decide +kernel
theorem dL_act_266 : decode cL_act 266 = .ok (.iload 9, 2) := by decide +kernel
theorem dL_act_268 : decode cL_act 268 = .ok (.iload 8, 2) := by decide +kernel
theorem dL_act_270 : decode cL_act 270 = .ok (.invokevirtual 184, 3) := by decide +kernel
theorem dL_act_273 : decode cL_act 273 = .ok (.iload 10, 2) := by decide +kernel
theorem dL_act_275 : decode cL_act 275 = .ok (.if_icmp .ne 31, 3) := by decide +kernel
theorem dL_act_278 : decode cL_act 278 = .ok (.aload_n 0, 1) := by decide +kernel
theorem dL_act_279 : decode cL_act 279 = .ok (.iload 7, 2) := by decide +kernel
theorem dL_act_281 : decode cL_act 281 = .ok (.iload 9, 2) := by decide +kernel
theorem dL_act_283 : decode cL_act 283 = .ok (.invokevirtual 43, 3) := by decide +kernel
theorem dL_act_286 : decode cL_act 286 = .ok (.iload 8, 2) := by decide +kernel
theorem dL_act_288 : decode cL_act 288 = .ok (.if_icmp .ne 18, 3) := by decide +kernel
theorem dL_act_291 : decode cL_act 291 = .ok (.aload_n 0, 1) := by decide +kernel
theorem dL_act_292 : decode cL_act 292 = .ok (.iload 7, 2) := by decide +kernel
theorem dL_act_294 : decode cL_act 294 = .ok (.invokevirtual 59, 3) := by decide +kernel
theorem dL_act_297 : decode cL_act 297 = .ok (.iload 11, 2) := by decide +kernel
theorem dL_act_299 : decode cL_act 299 = .ok (.if_icmp .ne 7, 3) := by decide +kernel
theorem dL_act_302 : decode cL_act 302 = .ok (.iconst 1, 1) := by decide +kernel
theorem dL_act_303 : decode cL_act 303 = .ok (.goto 4, 3) := by decide +kernel
theorem dL_act_306 : decode cL_act 306 = .ok (.iconst 0, 1) := by decide +kernel
theorem dL_act_307 : decode cL_act 307 = .ok (.ireturn, 1) := by decide +kernel
theorem dL_act_308 : decode cL_act 308 = .ok (.iload_n 3, 1) := by decide +kernel
theorem dL_act_309 : decode cL_act 309 = .ok (.bipush 13, 2) := by decide +kernel
theorem dL_act_311 : decode cL_act 311 = .ok (.if_icmp .ge 160, 3) := by decide +kernel
theorem dL_act_314 : decode cL_act 314 = .ok (.iload 4, 2) := by decide +kernel
theorem dL_act_316 : decode cL_act 316 = .ok (.iconst 5, 1) := by decide +kernel
theorem dL_act_317 : decode cL_act 317 = .ok (.ishr, 1) := by decide +kernel
theorem dL_act_318 : decode cL_act 318 = .ok (.iconst 2, 1) := by decide +kernel
theorem dL_act_319 : decode cL_act 319 = .ok (.invokestatic 146, 3) := by decide +kernel
theorem dL_act_322 : decode cL_act 322 = .ok (.ifCond .ne 7, 3) := by decide +kernel
theorem dL_act_325 : decode cL_act 325 = .ok (.iconst 1, 1) := by decide +kernel
theorem dL_act_326 : decode cL_act 326 = .ok (.goto 4, 3) := by decide +kernel
theorem dL_act_329 : decode cL_act 329 = .ok (.iconst 0, 1) := by decide +kernel
theorem dL_act_330 : decode cL_act 330 = .ok (.istore 10, 2) := by decide +kernel
theorem dL_act_332 : decode cL_act 332 = .ok (.aload_n 0, 1) := by decide +kernel
theorem dL_act_333 : decode cL_act 333 = .ok (.iload 7, 2) := by decide +kernel
theorem dL_act_335 : decode cL_act 335 = .ok (.invokevirtual 97, 3) := by decide +kernel
theorem dL_act_338 : decode cL_act 338 = .ok (.istore 11, 2) := by decide +kernel
theorem dL_act_340 : decode cL_act 340 = .ok (.aload_n 0, 1) := by decide +kernel
theorem dL_act_341 : decode cL_act 341 = .ok (.invokevirtual 140, 3) := by decide +kernel
theorem dL_act_344 : decode cL_act 344 = .ok (.istore 12, 2) := by decide +kernel
theorem dL_act_346 : decode cL_act 346 = .ok (.aload_n 0, 1) := by decide +kernel
theorem dL_act_347 : decode cL_act 347 = .ok (.iload 7, 2) := by decide +kernel
theorem dL_act_349 : decode cL_act 349 = .ok (.invokevirtual 127, 3) := by decide +kernel
theorem dL_act_352 : decode cL_act 352 = .ok (.lstore 13, 2) := by decide +kernel
theorem dL_act_354 : decode cL_act 354 = .ok (.aload_n 0, 1) := by decide +kernel
theorem dL_act_355 : decode cL_act 355 = .ok (.iload 7, 2) := by decide +kernel
theorem dL_act_357 : decode cL_act 357 = .ok (.iload 10, 2) := by decide +kernel
theorem dL_act_359 : decode cL_act 359 = .ok (.invokevirtual 188, 3) := by decide +kernel
theorem dL_act_362 : decode cL_act 362 = .ok (.istore 15, 2) := by decide +kernel
theorem dL_act_364 : decode cL_act 364 = .ok (.iconst 0, 1) := by decide +kernel
theorem dL_act_365 : decode cL_act 365 = .ok (.istore 16, 2) := by decide +kernel
theorem dL_act_367 : decode cL_act 367 = .ok (.iconst 0, 1) := by decide +kernel
theorem dL_act_368 : decode cL_act 368 = .ok (.istore 17, 2) := by decide +kernel
theorem dL_act_370 : decode cL_act 370 = .ok (.iload 17, 2) := by decide +kernel
theorem dL_act_372 : decode cL_act 372 = .ok (.iload 5, 2) := by decide +kernel
theorem dL_act_374 : decode cL_act 374 = .ok (.if_icmp .ge 20, 3) := by decide +kernel
theorem dL_act_377 : decode cL_act 377 = .ok (.iload 16, 2) := by decide +kernel
theorem dL_act_379 : decode cL_act 379 = .ok (.aload_n 0, 1) := by decide +kernel
theorem dL_act_380 : decode cL_act 380 = .ok (.iload 17, 2) := by decide +kernel
theorem dL_act_382 : decode cL_act 382 = .ok (.invokevirtual 84, 3) := by decide +kernel
theorem dL_act_385 : decode cL_act 385 = .ok (.iadd, 1) := by decide +kernel
theorem dL_act_386 : decode cL_act 386 = .ok (.istore 16, 2) := by decide +kernel
theorem dL_act_388 : decode cL_act 388 = .ok (.iinc 17 1, 3) := by decide +kernel
theorem dL_act_391 : decode cL_act 391 = .ok (.goto (-21), 3) := by decide +kernel
theorem dL_act_394 : decode cL_act 394 = .ok (.iload 15, 2) := by decide +kernel
theorem dL_act_396 : decode cL_act 396 = .ok (.aload_n 0, 1) := by decide +kernel
theorem dL_act_397 : decode cL_act 397 = .ok (.iload 7, 2) := by decide +kernel
theorem dL_act_399 : decode cL_act 399 = .ok (.invokevirtual 84, 3) := by decide +kernel
theorem dL_act_402 : decode cL_act 402 = .ok (.if_icmp .ne 67, 3) := by decide +kernel
theorem dL_act_405 : decode cL_act 405 = .ok (.iload 15, 2) := by decide +kernel
theorem dL_act_407 : decode cL_act 407 = .ok (.aload_n 0, 1) := by decide +kernel
theorem dL_act_408 : decode cL_act 408 = .ok (.iload 7, 2) := by decide +kernel
theorem dL_act_410 : decode cL_act 410 = .ok (.invokevirtual 36, 3) := by decide +kernel
theorem dL_act_413 : decode cL_act 413 = .ok (.aload_n 0, 1) := by decide +kernel
theorem dL_act_414 : decode cL_act 414 = .ok (.iload 7, 2) := by decide +kernel
theorem dL_act_416 : decode cL_act 416 = .ok (.invokevirtual 75, 3) := by decide +kernel
theorem dL_act_419 : decode cL_act 419 = .ok (.isub, 1) := by decide +kernel
theorem dL_act_420 : decode cL_act 420 = .ok (.if_icmp .ne 49, 3) := by decide +kernel
theorem dL_act_423 : decode cL_act 423 = .ok (.iload 10, 2) := by decide +kernel
theorem dL_act_425 : decode cL_act 425 = .ok (.ifCond .eq 19, 3) := by decide +kernel
theorem dL_act_428 : decode cL_act 428 = .ok (.iload 16, 2) := by decide +kernel
theorem dL_act_430 : decode cL_act 430 = .ok (.iload 11, 2) := by decide +kernel
theorem dL_act_432 : decode cL_act 432 = .ok (.if_icmp .ne 37, 3) := by decide +kernel
theorem dL_act_435 : decode cL_act 435 = .ok (.aload_n 0, 1) := by decide +kernel
theorem dL_act_436 : decode cL_act 436 = .ok (.iload 7, 2) := by decide +kernel
theorem dL_act_438 : decode cL_act 438 = .ok (.invokevirtual 87, 3) := by decide +kernel
theorem dL_act_441 : decode cL_act 441 = .ok (.ifCond .eq 28, 3) := by decide +kernel
theorem dL_act_444 : decode cL_act 444 = .ok (.aload_n 0, 1) := by decide +kernel
theorem dL_act_445 : decode cL_act 445 = .ok (.invokevirtual 140, 3) := by decide +kernel
theorem dL_act_448 : decode cL_act 448 = .ok (.iload 12, 2) := by decide +kernel
theorem dL_act_450 : decode cL_act 450 = .ok (.if_icmp .ne 19, 3) := by decide +kernel
theorem dL_act_453 : decode cL_act 453 = .ok (.aload_n 0, 1) := by decide +kernel
theorem dL_act_454 : decode cL_act 454 = .ok (.iload 7, 2) := by decide +kernel
theorem dL_act_456 : decode cL_act 456 = .ok (.invokevirtual 127, 3) := by decide +kernel
theorem dL_act_459 : decode cL_act 459 = .ok (.lload 13, 2) := by decide +kernel
theorem dL_act_461 : decode cL_act 461 = .ok (.lcmp, 1) := by decide +kernel
theorem dL_act_462 : decode cL_act 462 = .ok (.ifCond .ne 7, 3) := by decide +kernel
theorem dL_act_465 : decode cL_act 465 = .ok (.iconst 1, 1) := by decide +kernel
theorem dL_act_466 : decode cL_act 466 = .ok (.goto 4, 3) := by decide +kernel
theorem dL_act_469 : decode cL_act 469 = .ok (.iconst 0, 1) := by decide +kernel
theorem dL_act_470 : decode cL_act 470 = .ok (.ireturn, 1) := by decide +kernel
theorem dL_act_471 : decode cL_act 471 = .ok (.iload_n 3, 1) := by decide +kernel
theorem dL_act_472 : decode cL_act 472 = .ok (.bipush 19, 2) := by decide +kernel
theorem dL_act_474 : decode cL_act 474 = .ok (.if_icmp .ge 164, 3) := by decide +kernel
theorem dL_act_477 : decode cL_act 477 = .ok (.aload_n 0, 1) := by decide +kernel
theorem dL_act_478 : decode cL_act 478 = .ok (.invokevirtual 40, 3) := by decide +kernel
theorem dL_act_481 : decode cL_act 481 = .ok (.istore 10, 2) := by decide +kernel
theorem dL_act_483 : decode cL_act 483 = .ok (.iload 10, 2) := by decide +kernel
theorem dL_act_485 : decode cL_act 485 = .ok (.bipush 8, 2) := by decide +kernel
theorem dL_act_487 : decode cL_act 487 = .ok (.if_icmp .ne 16, 3) := by decide +kernel
theorem dL_act_490 : decode cL_act 490 = .ok (.aload_n 0, 1) := by decide +kernel
theorem dL_act_491 : decode cL_act 491 = .ok (.invokevirtual 124, 3) := by decide +kernel
theorem dL_act_494 : decode cL_act 494 = .ok (.ifCond .lt 7, 3) := by decide +kernel
theorem dL_act_497 : decode cL_act 497 = .ok (.iconst 1, 1) := by decide +kernel
theorem dL_act_498 : decode cL_act 498 = .ok (.goto 4, 3) := by decide +kernel
theorem dL_act_501 : decode cL_act 501 = .ok (.iconst 0, 1) := by decide +kernel
theorem dL_act_502 : decode cL_act 502 = .ok (.ireturn, 1) := by decide +kernel
theorem dL_act_503 : decode cL_act 503 = .ok (.aload_n 0, 1) := by decide +kernel
theorem dL_act_504 : decode cL_act 504 = .ok (.invokevirtual 140, 3) := by decide +kernel
theorem dL_act_507 : decode cL_act 507 = .ok (.istore 11, 2) := by decide +kernel
theorem dL_act_509 : decode cL_act 509 = .ok (.iload_n 3, 1) := by decide +kernel
theorem dL_act_510 : decode cL_act 510 = .ok (.bipush 15, 2) := by decide +kernel
theorem dL_act_512 : decode cL_act 512 = .ok (.if_icmp .ge 14, 3) := by decide +kernel
theorem dL_act_515 : decode cL_act 515 = .ok (.aload_n 0, 1) := by decide +kernel
theorem dL_act_516 : decode cL_act 516 = .ok (.iload 7, 2) := by decide +kernel
theorem dL_act_518 : decode cL_act 518 = .ok (.iload 8, 2) := by decide +kernel
theorem dL_act_520 : decode cL_act 520 = .ok (.invokevirtual 192, 3) := by decide +kernel
theorem dL_act_523 : decode cL_act 523 = .ok (.goto 28, 3) := by decide +kernel
theorem dL_act_526 : decode cL_act 526 = .ok (.iload_n 3, 1) := by decide +kernel
theorem dL_act_527 : decode cL_act 527 = .ok (.bipush 17, 2) := by decide +kernel
theorem dL_act_529 : decode cL_act 529 = .ok (.if_icmp .ge 14, 3) := by decide +kernel
theorem dL_act_532 : decode cL_act 532 = .ok (.aload_n 0, 1) := by decide +kernel
theorem dL_act_533 : decode cL_act 533 = .ok (.iload 7, 2) := by decide +kernel
theorem dL_act_535 : decode cL_act 535 = .ok (.iload 8, 2) := by decide +kernel
theorem dL_act_537 : decode cL_act 537 = .ok (.invokevirtual 195, 3) := by decide +kernel
theorem dL_act_540 : decode cL_act 540 = .ok (.goto 11, 3) := by decide +kernel
theorem dL_act_543 : decode cL_act 543 = .ok (.aload_n 0, 1) := by decide +kernel
theorem dL_act_544 : decode cL_act 544 = .ok (.iload 7, 2) := by decide +kernel
theorem dL_act_546 : decode cL_act 546 = .ok (.iload 8, 2) := by decide +kernel
theorem dL_act_548 : decode cL_act 548 = .ok (.invokevirtual 198, 3) := by decide +kernel
theorem dL_act_551 : decode cL_act 551 = .ok (.istore 12, 2) := by decide +kernel
theorem dL_act_553 : decode cL_act 553 = .ok (.iload 12, 2) := by decide +kernel
theorem dL_act_555 : decode cL_act 555 = .ok (.iload 11, 2) := by decide +kernel
theorem dL_act_557 : decode cL_act 557 = .ok (.if_icmp .gt 79, 3) := by decide +kernel
theorem dL_act_560 : decode cL_act 560 = .ok (.iload 12, 2) := by decide +kernel
theorem dL_act_562 : decode cL_act 562 = .ok (.aload_n 0, 1) := by decide +kernel
theorem dL_act_563 : decode cL_act 563 = .ok (.invokevirtual 140, 3) := by decide +kernel
theorem dL_act_566 : decode cL_act 566 = .ok (.if_icmp .ne 70, 3) := by decide +kernel
theorem dL_act_569 : decode cL_act 569 = .ok (.aload_n 0, 1) := by decide +kernel
theorem dL_act_570 : decode cL_act 570 = .ok (.invokevirtual 40, 3) := by decide +kernel
theorem dL_act_573 : decode cL_act 573 = .ok (.iload 10, 2) := by decide +kernel
theorem dL_act_575 : decode cL_act 575 = .ok (.iconst 1, 1) := by decide +kernel
theorem dL_act_576 : decode cL_act 576 = .ok (.iadd, 1) := by decide +kernel
theorem dL_act_577 : decode cL_act 577 = .ok (.if_icmp .ne 59, 3) := by decide +kernel
theorem dL_act_580 : decode cL_act 580 = .ok (.aload_n 0, 1) := by decide +kernel
theorem dL_act_581 : decode cL_act 581 = .ok (.iload 10, 2) := by decide +kernel
theorem dL_act_583 : decode cL_act 583 = .ok (.invokevirtual 50, 3) := by decide +kernel
theorem dL_act_586 : decode cL_act 586 = .ok (.iload 7, 2) := by decide +kernel
theorem dL_act_588 : decode cL_act 588 = .ok (.if_icmp .ne 48, 3) := by decide +kernel
theorem dL_act_591 : decode cL_act 591 = .ok (.aload_n 0, 1) := by decide +kernel
theorem dL_act_592 : decode cL_act 592 = .ok (.iload 10, 2) := by decide +kernel
theorem dL_act_594 : decode cL_act 594 = .ok (.invokevirtual 53, 3) := by decide +kernel
theorem dL_act_597 : decode cL_act 597 = .ok (.iload 8, 2) := by decide +kernel
theorem dL_act_599 : decode cL_act 599 = .ok (.if_icmp .ne 37, 3) := by decide +kernel
theorem dL_act_602 : decode cL_act 602 = .ok (.aload_n 0, 1) := by decide +kernel
theorem dL_act_603 : decode cL_act 603 = .ok (.iload 10, 2) := by decide +kernel
theorem dL_act_605 : decode cL_act 605 = .ok (.invokevirtual 56, 3) := by decide +kernel
theorem dL_act_608 : decode cL_act 608 = .ok (.iload_n 3, 1) := by decide +kernel
theorem dL_act_609 : decode cL_act 609 = .ok (.bipush 15, 2) := by decide +kernel
theorem dL_act_611 : decode cL_act 611 = .ok (.if_icmp .ge 7, 3) := by decide +kernel
theorem dL_act_614 : decode cL_act 614 = .ok (.iconst (-1), 1) := by decide +kernel
theorem dL_act_615 : decode cL_act 615 = .ok (.goto 14, 3) := by decide +kernel
theorem dL_act_618 : decode cL_act 618 = .ok (.iload_n 3, 1) := by decide +kernel
theorem dL_act_619 : decode cL_act 619 = .ok (.bipush 17, 2) := by decide +kernel
theorem dL_act_621 : decode cL_act 621 = .ok (.if_icmp .ge 7, 3) := by decide +kernel
theorem dL_act_624 : decode cL_act 624 = .ok (.iconst 0, 1) := by decide +kernel
theorem dL_act_625 : decode cL_act 625 = .ok (.goto 4, 3) := by decide +kernel
theorem dL_act_628 : decode cL_act 628 = .ok (.iconst 1, 1) := by decide +kernel
theorem dL_act_629 : decode cL_act 629 = .ok (.if_icmp .ne 7, 3) := by decide +kernel
theorem dL_act_632 : decode cL_act 632 = .ok (.iconst 1, 1) := by decide +kernel
theorem dL_act_633 : decode cL_act 633 = .ok (.goto 4, 3) := by decide +kernel
theorem dL_act_636 : decode cL_act 636 = .ok (.iconst 0, 1) := by decide +kernel
theorem dL_act_637 : decode cL_act 637 = .ok (.ireturn, 1) := by decide +kernel
theorem dL_act_638 : decode cL_act 638 = .ok (.iload_n 3, 1) := by decide +kernel
theorem dL_act_639 : decode cL_act 639 = .ok (.bipush 22, 2) := by decide +kernel
theorem dL_act_641 : decode cL_act 641 = .ok (.if_icmp .ge 81, 3) := by decide +kernel
theorem dL_act_644 : decode cL_act 644 = .ok (.aload_n 0, 1) := by decide +kernel
theorem dL_act_645 : decode cL_act 645 = .ok (.invokevirtual 40, 3) := by decide +kernel
theorem dL_act_648 : decode cL_act 648 = .ok (.istore 10, 2) := by decide +kernel
theorem dL_act_650 : decode cL_act 650 = .ok (.iload 10, 2) := by decide +kernel
theorem dL_act_652 : decode cL_act 652 = .ok (.ifCond .ne 18, 3) := by decide +kernel
theorem dL_act_655 : decode cL_act 655 = .ok (.aload_n 0, 1) := by decide +kernel
theorem dL_act_656 : decode cL_act 656 = .ok (.invokevirtual 140, 3) := by decide +kernel
theorem dL_act_659 : decode cL_act 659 = .ok (.iload 6, 2) := by decide +kernel
theorem dL_act_661 : decode cL_act 661 = .ok (.if_icmp .ne 7, 3) := by decide +kernel
theorem dL_act_664 : decode cL_act 664 = .ok (.iconst 1, 1) := by decide +kernel
theorem dL_act_665 : decode cL_act 665 = .ok (.goto 4, 3) := by decide +kernel
theorem dL_act_668 : decode cL_act 668 = .ok (.iconst 0, 1) := by decide +kernel
theorem dL_act_669 : decode cL_act 669 = .ok (.ireturn, 1) := by decide +kernel
theorem dL_act_670 : decode cL_act 670 = .ok (.aload_n 0, 1) := by decide +kernel
theorem dL_act_671 : decode cL_act 671 = .ok (.invokevirtual 140, 3) := by decide +kernel
theorem dL_act_674 : decode cL_act 674 = .ok (.istore 11, 2) := by decide +kernel
theorem dL_act_676 : decode cL_act 676 = .ok (.aload_n 0, 1) := by decide +kernel
theorem dL_act_677 : decode cL_act 677 = .ok (.iload 4, 2) := by decide +kernel
theorem dL_act_679 : decode cL_act 679 = .ok (.iload 10, 2) := by decide +kernel
theorem dL_act_681 : decode cL_act 681 = .ok (.invokestatic 146, 3) := by decide +kernel
theorem dL_act_684 : decode cL_act 684 = .ok (.invokevirtual 201, 3) := by decide +kernel
theorem dL_act_687 : decode cL_act 687 = .ok (.istore 12, 2) := by decide +kernel
theorem dL_act_689 : decode cL_act 689 = .ok (.iload 12, 2) := by decide +kernel
theorem dL_act_691 : decode cL_act 691 = .ok (.iload 11, 2) := by decide +kernel
theorem dL_act_693 : decode cL_act 693 = .ok (.if_icmp .lt 27, 3) := by decide +kernel
theorem dL_act_696 : decode cL_act 696 = .ok (.iload 12, 2) := by decide +kernel
theorem dL_act_698 : decode cL_act 698 = .ok (.aload_n 0, 1) := by decide +kernel
theorem dL_act_699 : decode cL_act 699 = .ok (.invokevirtual 140, 3) := by decide +kernel
theorem dL_act_702 : decode cL_act 702 = .ok (.if_icmp .ne 18, 3) := by decide +kernel
theorem dL_act_705 : decode cL_act 705 = .ok (.aload_n 0, 1) := by decide +kernel
theorem dL_act_706 : decode cL_act 706 = .ok (.invokevirtual 40, 3) := by decide +kernel
theorem dL_act_709 : decode cL_act 709 = .ok (.iload 10, 2) := by decide +kernel
theorem dL_act_711 : decode cL_act 711 = .ok (.iconst 1, 1) := by decide +kernel
theorem dL_act_712 : decode cL_act 712 = .ok (.isub, 1) := by decide +kernel
theorem dL_act_713 : decode cL_act 713 = .ok (.if_icmp .ne 7, 3) := by decide +kernel
theorem dL_act_716 : decode cL_act 716 = .ok (.iconst 1, 1) := by decide +kernel
theorem dL_act_717 : decode cL_act 717 = .ok (.goto 4, 3) := by decide +kernel
theorem dL_act_720 : decode cL_act 720 = .ok (.iconst 0, 1) := by decide +kernel
theorem dL_act_721 : decode cL_act 721 = .ok (.ireturn, 1) := by decide +kernel
theorem dL_act_722 : decode cL_act 722 = .ok (.iload_n 3, 1) := by decide +kernel
theorem dL_act_723 : decode cL_act 723 = .ok (.bipush 22, 2) := by decide +kernel
theorem dL_act_725 : decode cL_act 725 = .ok (.if_icmp .ne 65, 3) := by decide +kernel
theorem dL_act_728 : decode cL_act 728 = .ok (.aload_n 0, 1) := by decide +kernel
theorem dL_act_729 : decode cL_act 729 = .ok (.invokevirtual 40, 3) := by decide +kernel
theorem dL_act_732 : decode cL_act 732 = .ok (.ifCond .ne 18, 3) := by decide +kernel
theorem dL_act_735 : decode cL_act 735 = .ok (.aload_n 0, 1) := by decide +kernel
theorem dL_act_736 : decode cL_act 736 = .ok (.invokevirtual 140, 3) := by decide +kernel
theorem dL_act_739 : decode cL_act 739 = .ok (.iload 6, 2) := by decide +kernel
theorem dL_act_741 : decode cL_act 741 = .ok (.if_icmp .ne 7, 3) := by decide +kernel
theorem dL_act_744 : decode cL_act 744 = .ok (.iconst 1, 1) := by decide +kernel
theorem dL_act_745 : decode cL_act 745 = .ok (.goto 4, 3) := by decide +kernel
theorem dL_act_748 : decode cL_act 748 = .ok (.iconst 0, 1) := by decide +kernel
theorem dL_act_749 : decode cL_act 749 = .ok (.ireturn, 1) := by decide +kernel
theorem dL_act_750 : decode cL_act 750 = .ok (.aload_n 0, 1) := by decide +kernel
theorem dL_act_751 : decode cL_act 751 = .ok (.invokevirtual 140, 3) := by decide +kernel
theorem dL_act_754 : decode cL_act 754 = .ok (.istore 10, 2) := by decide +kernel
theorem dL_act_756 : decode cL_act 756 = .ok (.aload_n 0, 1) := by decide +kernel
theorem dL_act_757 : decode cL_act 757 = .ok (.invokevirtual 149, 3) := by decide +kernel
theorem dL_act_760 : decode cL_act 760 = .ok (.iload 10, 2) := by decide +kernel
theorem dL_act_762 : decode cL_act 762 = .ok (.if_icmp .ne 26, 3) := by decide +kernel
theorem dL_act_765 : decode cL_act 765 = .ok (.aload_n 0, 1) := by decide +kernel
theorem dL_act_766 : decode cL_act 766 = .ok (.invokevirtual 33, 3) := by decide +kernel
theorem dL_act_769 : decode cL_act 769 = .ok (.iload 6, 2) := by decide +kernel
theorem dL_act_771 : decode cL_act 771 = .ok (.iload 10, 2) := by decide +kernel
theorem dL_act_773 : decode cL_act 773 = .ok (.isub, 1) := by decide +kernel
theorem dL_act_774 : decode cL_act 774 = .ok (.if_icmp .ne 14, 3) := by decide +kernel
theorem dL_act_777 : decode cL_act 777 = .ok (.aload_n 0, 1) := by decide +kernel
theorem dL_act_778 : decode cL_act 778 = .ok (.invokevirtual 140, 3) := by decide +kernel
theorem dL_act_781 : decode cL_act 781 = .ok (.ifCond .ne 7, 3) := by decide +kernel
theorem dL_act_784 : decode cL_act 784 = .ok (.iconst 1, 1) := by decide +kernel
theorem dL_act_785 : decode cL_act 785 = .ok (.goto 4, 3) := by decide +kernel
theorem dL_act_788 : decode cL_act 788 = .ok (.iconst 0, 1) := by decide +kernel
theorem dL_act_789 : decode cL_act 789 = .ok (.ireturn, 1) := by decide +kernel
theorem dL_act_790 : decode cL_act 790 = .ok (.iload_n 3, 1) := by decide +kernel
theorem dL_act_791 : decode cL_act 791 = .ok (.bipush 23, 2) := by decide +kernel
theorem dL_act_793 : decode cL_act 793 = .ok (.if_icmp .ne 33, 3) := by decide +kernel
theorem dL_act_796 : decode cL_act 796 = .ok (.aload_n 0, 1) := by decide +kernel
theorem dL_act_797 : decode cL_act 797 = .ok (.iload 9, 2) := by decide +kernel
theorem dL_act_799 : decode cL_act 799 = .ok (.invokevirtual 204, 3) := by decide +kernel
theorem dL_act_802 : decode cL_act 802 = .ok (.iload 6, 2) := by decide +kernel
theorem dL_act_804 : decode cL_act 804 = .ok (.iconst 1, 1) := by decide +kernel
theorem dL_act_805 : decode cL_act 805 = .ok (.isub, 1) := by decide +kernel
theorem dL_act_806 : decode cL_act 806 = .ok (.if_icmp .ne 18, 3) := by decide +kernel
theorem dL_act_809 : decode cL_act 809 = .ok (.aload_n 0, 1) := by decide +kernel
theorem dL_act_810 : decode cL_act 810 = .ok (.invokevirtual 33, 3) := by decide +kernel
theorem dL_act_813 : decode cL_act 813 = .ok (.iload 6, 2) := by decide +kernel
theorem dL_act_815 : decode cL_act 815 = .ok (.iconst 1, 1) := by decide +kernel
theorem dL_act_816 : decode cL_act 816 = .ok (.isub, 1) := by decide +kernel
theorem dL_act_817 : decode cL_act 817 = .ok (.if_icmp .ne 7, 3) := by decide +kernel
theorem dL_act_820 : decode cL_act 820 = .ok (.iconst 1, 1) := by decide +kernel
theorem dL_act_821 : decode cL_act 821 = .ok (.goto 4, 3) := by decide +kernel
theorem dL_act_824 : decode cL_act 824 = .ok (.iconst 0, 1) := by decide +kernel
theorem dL_act_825 : decode cL_act 825 = .ok (.ireturn, 1) := by decide +kernel
theorem dL_act_826 : decode cL_act 826 = .ok (.aload_n 0, 1) := by decide +kernel
theorem dL_act_827 : decode cL_act 827 = .ok (.iload 7, 2) := by decide +kernel
theorem dL_act_829 : decode cL_act 829 = .ok (.invokevirtual 75, 3) := by decide +kernel
theorem dL_act_832 : decode cL_act 832 = .ok (.istore 10, 2) := by decide +kernel
theorem dL_act_834 : decode cL_act 834 = .ok (.aload_n 0, 1) := by decide +kernel
theorem dL_act_835 : decode cL_act 835 = .ok (.iload 7, 2) := by decide +kernel
theorem dL_act_837 : decode cL_act 837 = .ok (.invokevirtual 36, 3) := by decide +kernel
theorem dL_act_840 : decode cL_act 840 = .ok (.istore 11, 2) := by decide +kernel
theorem dL_act_842 : decode cL_act 842 = .ok (.aload_n 0, 1) := by decide +kernel
theorem dL_act_843 : decode cL_act 843 = .ok (.iload 7, 2) := by decide +kernel
theorem dL_act_845 : decode cL_act 845 = .ok (.invokevirtual 81, 3) := by decide +kernel
theorem dL_act_848 : decode cL_act 848 = .ok (.istore 12, 2) := by decide +kernel
theorem dL_act_850 : decode cL_act 850 = .ok (.aload_n 0, 1) := by decide +kernel
theorem dL_act_851 : decode cL_act 851 = .ok (.iload 7, 2) := by decide +kernel
theorem dL_act_853 : decode cL_act 853 = .ok (.iload 9, 2) := by decide +kernel
theorem dL_act_855 : decode cL_act 855 = .ok (.invokevirtual 43, 3) := by decide +kernel
theorem dL_act_858 : decode cL_act 858 = .ok (.istore 13, 2) := by decide +kernel
theorem dL_act_860 : decode cL_act 860 = .ok (.aload_n 0, 1) := by decide +kernel
theorem dL_act_861 : decode cL_act 861 = .ok (.iload 7, 2) := by decide +kernel
theorem dL_act_863 : decode cL_act 863 = .ok (.invokevirtual 207, 3) := by decide +kernel
theorem dL_act_866 : decode cL_act 866 = .ok (.iload 10, 2) := by decide +kernel
theorem dL_act_868 : decode cL_act 868 = .ok (.if_icmp .ne 54, 3) := by decide +kernel
theorem dL_act_871 : decode cL_act 871 = .ok (.aload_n 0, 1) := by decide +kernel
theorem dL_act_872 : decode cL_act 872 = .ok (.iload 7, 2) := by decide +kernel
theorem dL_act_874 : decode cL_act 874 = .ok (.invokevirtual 36, 3) := by decide +kernel
theorem dL_act_877 : decode cL_act 877 = .ok (.iload 11, 2) := by decide +kernel
theorem dL_act_879 : decode cL_act 879 = .ok (.iload 10, 2) := by decide +kernel
theorem dL_act_881 : decode cL_act 881 = .ok (.isub, 1) := by decide +kernel
theorem dL_act_882 : decode cL_act 882 = .ok (.if_icmp .ne 40, 3) := by decide +kernel
theorem dL_act_885 : decode cL_act 885 = .ok (.aload_n 0, 1) := by decide +kernel
theorem dL_act_886 : decode cL_act 886 = .ok (.iload 7, 2) := by decide +kernel
theorem dL_act_888 : decode cL_act 888 = .ok (.invokevirtual 59, 3) := by decide +kernel
theorem dL_act_891 : decode cL_act 891 = .ok (.iload 12, 2) := by decide +kernel
theorem dL_act_893 : decode cL_act 893 = .ok (.if_icmp .ne 29, 3) := by decide +kernel
theorem dL_act_896 : decode cL_act 896 = .ok (.aload_n 0, 1) := by decide +kernel
theorem dL_act_897 : decode cL_act 897 = .ok (.iload 7, 2) := by decide +kernel
theorem dL_act_899 : decode cL_act 899 = .ok (.invokevirtual 75, 3) := by decide +kernel
theorem dL_act_902 : decode cL_act 902 = .ok (.ifCond .ne 20, 3) := by decide +kernel
theorem dL_act_905 : decode cL_act 905 = .ok (.aload_n 0, 1) := by decide +kernel
theorem dL_act_906 : decode cL_act 906 = .ok (.iload 7, 2) := by decide +kernel
theorem dL_act_908 : decode cL_act 908 = .ok (.iload 9, 2) := by decide +kernel
theorem dL_act_910 : decode cL_act 910 = .ok (.invokevirtual 43, 3) := by decide +kernel
theorem dL_act_913 : decode cL_act 913 = .ok (.iload 13, 2) := by decide +kernel
theorem dL_act_915 : decode cL_act 915 = .ok (.if_icmp .ne 7, 3) := by decide +kernel
theorem dL_act_918 : decode cL_act 918 = .ok (.iconst 1, 1) := by decide +kernel
theorem dL_act_919 : decode cL_act 919 = .ok (.goto 4, 3) := by decide +kernel
theorem dL_act_922 : decode cL_act 922 = .ok (.iconst 0, 1) := by decide +kernel
theorem dL_act_923 : decode cL_act 923 = .ok (.ireturn, 1) := by decide +kernel
theorem dL_law_0 : decode cL_law 0 = .ok (.new 9, 3) := by decide +kernel
theorem dL_law_3 : decode cL_law 3 = .ok (.dup, 1) := by decide +kernel
theorem dL_law_4 : decode cL_law 4 = .ok (.invokespecial 210, 3) := by decide +kernel
theorem dL_law_7 : decode cL_law 7 = .ok (.astore_n 1, 1) := by decide +kernel
theorem dL_law_8 : decode cL_law 8 = .ok (.bipush 6, 2) := by decide +kernel
theorem dL_law_10 : decode cL_law 10 = .ok (.newarray .int, 2) := by decide +kernel
theorem dL_law_12 : decode cL_law 12 = .ok (.astore_n 2, 1) := by decide +kernel
theorem dL_law_13 : decode cL_law 13 = .ok (.aload_n 0, 1) := by decide +kernel
theorem dL_law_14 : decode cL_law 14 = .ok (.iconst 0, 1) := by decide +kernel
theorem dL_law_15 : decode cL_law 15 = .ok (.invokestatic 211, 3) := by decide +kernel
theorem dL_law_18 : decode cL_law 18 = .ok (.istore_n 3, 1) := by decide +kernel
theorem dL_law_19 : decode cL_law 19 = .ok (.iconst 1, 1) := by decide +kernel
theorem dL_law_20 : decode cL_law 20 = .ok (.iload_n 3, 1) := by decide +kernel
theorem dL_law_21 : decode cL_law 21 = .ok (.iconst 4, 1) := by decide +kernel
theorem dL_law_22 : decode cL_law 22 = .ok (.invokestatic 146, 3) := by decide +kernel
theorem dL_law_25 : decode cL_law 25 = .ok (.iadd, 1) := by decide +kernel
theorem dL_law_26 : decode cL_law 26 = .ok (.istore 4, 2) := by decide +kernel
theorem dL_law_28 : decode cL_law 28 = .ok (.iload_n 3, 1) := by decide +kernel
theorem dL_law_29 : decode cL_law 29 = .ok (.iconst 2, 1) := by decide +kernel
theorem dL_law_30 : decode cL_law 30 = .ok (.ishr, 1) := by decide +kernel
theorem dL_law_31 : decode cL_law 31 = .ok (.bipush 12, 2) := by decide +kernel
theorem dL_law_33 : decode cL_law 33 = .ok (.invokestatic 146, 3) := by decide +kernel
theorem dL_law_36 : decode cL_law 36 = .ok (.istore 5, 2) := by decide +kernel
theorem dL_law_38 : decode cL_law 38 = .ok (.new 152, 3) := by decide +kernel
theorem dL_law_41 : decode cL_law 41 = .ok (.dup, 1) := by decide +kernel
theorem dL_law_42 : decode cL_law 42 = .ok (.ldc 215, 2) := by decide +kernel
theorem dL_law_44 : decode cL_law 44 = .ok (.invokespecial 217, 3) := by decide +kernel
theorem dL_law_47 : decode cL_law 47 = .ok (.iload 4, 2) := by decide +kernel
theorem dL_law_49 : decode cL_law 49 = .ok (.invokevirtual 163, 3) := by decide +kernel
theorem dL_law_52 : decode cL_law 52 = .ok (.bipush 59, 2) := by decide +kernel
theorem dL_law_54 : decode cL_law 54 = .ok (.invokevirtual 220, 3) := by decide +kernel
theorem dL_law_57 : decode cL_law 57 = .ok (.astore 6, 2) := by decide +kernel
theorem dL_law_59 : decode cL_law 59 = .ok (.iconst 0, 1) := by decide +kernel
theorem dL_law_60 : decode cL_law 60 = .ok (.istore 7, 2) := by decide +kernel
theorem dL_law_62 : decode cL_law 62 = .ok (.iload 7, 2) := by decide +kernel
theorem dL_law_64 : decode cL_law 64 = .ok (.iload 5, 2) := by decide +kernel
theorem dL_law_66 : decode cL_law 66 = .ok (.if_icmp .ge 79, 3) := by decide +kernel
theorem dL_law_69 : decode cL_law 69 = .ok (.iconst 0, 1) := by decide +kernel
theorem dL_law_70 : decode cL_law 70 = .ok (.istore 8, 2) := by decide +kernel
theorem dL_law_72 : decode cL_law 72 = .ok (.iload 8, 2) := by decide +kernel
theorem dL_law_74 : decode cL_law 74 = .ok (.iload 4, 2) := by decide +kernel
theorem dL_law_76 : decode cL_law 76 = .ok (.if_icmp .ge 55, 3) := by decide +kernel
theorem dL_law_79 : decode cL_law 79 = .ok (.aload 6, 2) := by decide +kernel
theorem dL_law_81 : decode cL_law 81 = .ok (.iload 8, 2) := by decide +kernel
theorem dL_law_83 : decode cL_law 83 = .ok (.ifCond .le 8, 3) := by decide +kernel
theorem dL_law_86 : decode cL_law 86 = .ok (.ldc 155, 2) := by decide +kernel
theorem dL_law_88 : decode cL_law 88 = .ok (.goto 5, 3) := by decide +kernel
theorem dL_law_91 : decode cL_law 91 = .ok (.ldc 157, 2) := by decide +kernel
theorem dL_law_93 : decode cL_law 93 = .ok (.invokevirtual 159, 3) := by decide +kernel
theorem dL_law_96 : decode cL_law 96 = .ok (.aload_n 0, 1) := by decide +kernel
theorem dL_law_97 : decode cL_law 97 = .ok (.iconst 1, 1) := by decide +kernel
theorem dL_law_98 : decode cL_law 98 = .ok (.iload 7, 2) := by decide +kernel
theorem dL_law_100 : decode cL_law 100 = .ok (.iadd, 1) := by decide +kernel
theorem dL_law_101 : decode cL_law 101 = .ok (.invokestatic 211, 3) := by decide +kernel
theorem dL_law_104 : decode cL_law 104 = .ok (.iload 8, 2) := by decide +kernel
theorem dL_law_106 : decode cL_law 106 = .ok (.iconst 2, 1) := by decide +kernel
theorem dL_law_107 : decode cL_law 107 = .ok (.imul, 1) := by decide +kernel
theorem dL_law_108 : decode cL_law 108 = .ok (.ishr, 1) := by decide +kernel
theorem dL_law_109 : decode cL_law 109 = .ok (.iconst 3, 1) := by decide +kernel
theorem dL_law_110 : decode cL_law 110 = .ok (.iload 8, 2) := by decide +kernel
theorem dL_law_112 : decode cL_law 112 = .ok (.imul, 1) := by decide +kernel
theorem dL_law_113 : decode cL_law 113 = .ok (.iadd, 1) := by decide +kernel
theorem dL_law_114 : decode cL_law 114 = .ok (.bipush 9, 2) := by decide +kernel
theorem dL_law_116 : decode cL_law 116 = .ok (.invokestatic 146, 3) := by decide +kernel
theorem dL_law_119 : decode cL_law 119 = .ok (.iconst 4, 1) := by decide +kernel
theorem dL_law_120 : decode cL_law 120 = .ok (.isub, 1) := by decide +kernel
theorem dL_law_121 : decode cL_law 121 = .ok (.invokevirtual 163, 3) := by decide +kernel
theorem dL_law_124 : decode cL_law 124 = .ok (.pop, 1) := by decide +kernel
theorem dL_law_125 : decode cL_law 125 = .ok (.iinc 8 1, 3) := by decide +kernel
theorem dL_law_128 : decode cL_law 128 = .ok (.goto (-56), 3) := by decide +kernel
theorem dL_law_131 : decode cL_law 131 = .ok (.aload 6, 2) := by decide +kernel
theorem dL_law_133 : decode cL_law 133 = .ok (.bipush 59, 2) := by decide +kernel
theorem dL_law_135 : decode cL_law 135 = .ok (.invokevirtual 220, 3) := by decide +kernel
theorem dL_law_138 : decode cL_law 138 = .ok (.pop, 1) := by decide +kernel
theorem dL_law_139 : decode cL_law 139 = .ok (.iinc 7 1, 3) := by decide +kernel
theorem dL_law_142 : decode cL_law 142 = .ok (.goto (-80), 3) := by decide +kernel
theorem dL_law_145 : decode cL_law 145 = .ok (.aload_n 1, 1) := by decide +kernel
theorem dL_law_146 : decode cL_law 146 = .ok (.aload_n 2, 1) := by decide +kernel
theorem dL_law_147 : decode cL_law 147 = .ok (.aload 6, 2) := by decide +kernel
theorem dL_law_149 : decode cL_law 149 = .ok (.invokevirtual 166, 3) := by decide +kernel
theorem dL_law_152 : decode cL_law 152 = .ok (.invokestatic 170, 3) := by decide +kernel
theorem dL_law_155 : decode cL_law 155 = .ok (.aload_n 1, 1) := by decide +kernel
theorem dL_law_156 : decode cL_law 156 = .ok (.aload_n 1, 1) := by decide +kernel
theorem dL_law_157 : decode cL_law 157 = .ok (.aload_n 2, 1) := by decide +kernel
theorem dL_law_158 : decode cL_law 158 = .ok (.invokestatic 174, 3) := by decide +kernel
theorem dL_law_161 : decode cL_law 161 = .ok (.invokevirtual 223, 3) := by decide +kernel
theorem dL_law_164 : decode cL_law 164 = .ok (.iload 5, 2) := by decide +kernel
theorem dL_law_166 : decode cL_law 166 = .ok (.if_icmp .ne 10, 3) := by decide +kernel
theorem dL_law_169 : decode cL_law 169 = .ok (.aload_n 1, 1) := by decide +kernel
theorem dL_law_170 : decode cL_law 170 = .ok (.invokevirtual 226, 3) := by decide +kernel
theorem dL_law_173 : decode cL_law 173 = .ok (.ifCond .eq 5, 3) := by decide +kernel
theorem dL_law_176 : decode cL_law 176 = .ok (.iconst 0, 1) := by decide +kernel
theorem dL_law_177 : decode cL_law 177 = .ok (.ireturn, 1) := by decide +kernel
theorem dL_law_178 : decode cL_law 178 = .ok (.iconst 0, 1) := by decide +kernel
theorem dL_law_179 : decode cL_law 179 = .ok (.istore 7, 2) := by decide +kernel
theorem dL_law_181 : decode cL_law 181 = .ok (.iload 7, 2) := by decide +kernel
theorem dL_law_183 : decode cL_law 183 = .ok (.bipush 36, 2) := by decide +kernel
theorem dL_law_185 : decode cL_law 185 = .ok (.if_icmp .ge 175, 3) := by decide +kernel
theorem dL_law_188 : decode cL_law 188 = .ok (.aload_n 0, 1) := by decide +kernel
theorem dL_law_189 : decode cL_law 189 = .ok (.bipush 8, 2) := by decide +kernel
theorem dL_law_191 : decode cL_law 191 = .ok (.iload 7, 2) := by decide +kernel
theorem dL_law_193 : decode cL_law 193 = .ok (.bipush 28, 2) := by decide +kernel
theorem dL_law_195 : decode cL_law 195 = .ok (.irem, 1) := by decide +kernel
theorem dL_law_196 : decode cL_law 196 = .ok (.iadd, 1) := by decide +kernel
theorem dL_law_197 : decode cL_law 197 = .ok (.invokestatic 211, 3) := by decide +kernel
theorem dL_law_200 : decode cL_law 200 = .ok (.iload 7, 2) := by decide +kernel
theorem dL_law_202 : decode cL_law 202 = .ok (.bipush 28, 2) := by decide +kernel
theorem dL_law_204 : decode cL_law 204 = .ok (.idiv, 1) := by decide +kernel
theorem dL_law_205 : decode cL_law 205 = .ok (.iconst 2, 1) := by decide +kernel
theorem dL_law_206 : decode cL_law 206 = .ok (.imul, 1) := by decide +kernel
theorem dL_law_207 : decode cL_law 207 = .ok (.ishr, 1) := by decide +kernel
theorem dL_law_208 : decode cL_law 208 = .ok (.istore 8, 2) := by decide +kernel
theorem dL_law_210 : decode cL_law 210 = .ok (.iload 7, 2) := by decide +kernel
theorem dL_law_212 : decode cL_law 212 = .ok (.iconst 3, 1) := by decide +kernel
theorem dL_law_213 : decode cL_law 213 = .ok (.irem, 1) := by decide +kernel
theorem dL_law_214 : decode cL_law 214 = .ok (.ifCond .ne 10, 3) := by decide +kernel
theorem dL_law_217 : decode cL_law 217 = .ok (.aload_n 1, 1) := by decide +kernel
theorem dL_law_218 : decode cL_law 218 = .ok (.invokestatic 229, 3) := by decide +kernel
theorem dL_law_221 : decode cL_law 221 = .ok (.ifCond .eq 10, 3) := by decide +kernel
theorem dL_law_224 : decode cL_law 224 = .ok (.aload_n 1, 1) := by decide +kernel
theorem dL_law_225 : decode cL_law 225 = .ok (.invokestatic 233, 3) := by decide +kernel
theorem dL_law_228 : decode cL_law 228 = .ok (.ifCond .ne 5, 3) := by decide +kernel
theorem dL_law_231 : decode cL_law 231 = .ok (.iconst 0, 1) := by decide +kernel
theorem dL_law_232 : decode cL_law 232 = .ok (.ireturn, 1) := by decide +kernel
theorem dL_law_233 : decode cL_law 233 = .ok (.aload_n 1, 1) := by decide +kernel
theorem dL_law_234 : decode cL_law 234 = .ok (.invokestatic 236, 3) := by decide +kernel
theorem dL_law_237 : decode cL_law 237 = .ok (.astore 9, 2) := by decide +kernel
theorem dL_law_239 : decode cL_law 239 = .ok (.aload_n 1, 1) := by decide +kernel
theorem dL_law_240 : decode cL_law 240 = .ok (.invokevirtual 226, 3) := by decide +kernel
theorem dL_law_243 : decode cL_law 243 = .ok (.istore 10, 2) := by decide +kernel
theorem dL_law_245 : decode cL_law 245 = .ok (.aload_n 1, 1) := by decide +kernel
theorem dL_law_246 : decode cL_law 246 = .ok (.aload_n 2, 1) := by decide +kernel
theorem dL_law_247 : decode cL_law 247 = .ok (.iload 8, 2) := by decide +kernel
theorem dL_law_249 : decode cL_law 249 = .ok (.invokestatic 240, 3) := by decide +kernel
theorem dL_law_252 : decode cL_law 252 = .ok (.ifCond .ne 5, 3) := by decide +kernel
theorem dL_law_255 : decode cL_law 255 = .ok (.iconst 0, 1) := by decide +kernel
theorem dL_law_256 : decode cL_law 256 = .ok (.ireturn, 1) := by decide +kernel
theorem dL_law_257 : decode cL_law 257 = .ok (.aload_n 1, 1) := by decide +kernel
theorem dL_law_258 : decode cL_law 258 = .ok (.invokestatic 236, 3) := by decide +kernel
theorem dL_law_261 : decode cL_law 261 = .ok (.astore 11, 2) := by decide +kernel
theorem dL_law_263 : decode cL_law 263 = .ok (.aload_n 1, 1) := by decide +kernel
theorem dL_law_264 : decode cL_law 264 = .ok (.invokevirtual 226, 3) := by decide +kernel
theorem dL_law_267 : decode cL_law 267 = .ok (.iload 10, 2) := by decide +kernel
theorem dL_law_269 : decode cL_law 269 = .ok (.iconst 1, 1) := by decide +kernel
theorem dL_law_270 : decode cL_law 270 = .ok (.iadd, 1) := by decide +kernel
theorem dL_law_271 : decode cL_law 271 = .ok (.if_icmp .ne 55, 3) := by decide +kernel
theorem dL_law_274 : decode cL_law 274 = .ok (.iload 7, 2) := by decide +kernel
theorem dL_law_276 : decode cL_law 276 = .ok (.iconst 3, 1) := by decide +kernel
theorem dL_law_277 : decode cL_law 277 = .ok (.irem, 1) := by decide +kernel
theorem dL_law_278 : decode cL_law 278 = .ok (.ifCond .ne 48, 3) := by decide +kernel
theorem dL_law_281 : decode cL_law 281 = .ok (.aload_n 1, 1) := by decide +kernel
theorem dL_law_282 : decode cL_law 282 = .ok (.invokevirtual 244, 3) := by decide +kernel
theorem dL_law_285 : decode cL_law 285 = .ok (.iload 10, 2) := by decide +kernel
theorem dL_law_287 : decode cL_law 287 = .ok (.if_icmp .ne 37, 3) := by decide +kernel
theorem dL_law_290 : decode cL_law 290 = .ok (.aload_n 1, 1) := by decide +kernel
theorem dL_law_291 : decode cL_law 291 = .ok (.invokestatic 236, 3) := by decide +kernel
theorem dL_law_294 : decode cL_law 294 = .ok (.aload 9, 2) := by decide +kernel
theorem dL_law_296 : decode cL_law 296 = .ok (.invokestatic 247, 3) := by decide +kernel
theorem dL_law_299 : decode cL_law 299 = .ok (.ifCond .eq 25, 3) := by decide +kernel
theorem dL_law_302 : decode cL_law 302 = .ok (.aload_n 1, 1) := by decide +kernel
theorem dL_law_303 : decode cL_law 303 = .ok (.aload_n 2, 1) := by decide +kernel
theorem dL_law_304 : decode cL_law 304 = .ok (.iload 8, 2) := by decide +kernel
theorem dL_law_306 : decode cL_law 306 = .ok (.invokestatic 240, 3) := by decide +kernel
theorem dL_law_309 : decode cL_law 309 = .ok (.ifCond .eq 15, 3) := by decide +kernel
theorem dL_law_312 : decode cL_law 312 = .ok (.aload_n 1, 1) := by decide +kernel
theorem dL_law_313 : decode cL_law 313 = .ok (.invokestatic 236, 3) := by decide +kernel
theorem dL_law_316 : decode cL_law 316 = .ok (.aload 11, 2) := by decide +kernel
theorem dL_law_318 : decode cL_law 318 = .ok (.invokestatic 247, 3) := by decide +kernel
theorem dL_law_321 : decode cL_law 321 = .ok (.ifCond .ne 5, 3) := by decide +kernel
theorem dL_law_324 : decode cL_law 324 = .ok (.iconst 0, 1) := by decide +kernel
theorem dL_law_325 : decode cL_law 325 = .ok (.ireturn, 1) := by decide +kernel
theorem dL_law_326 : decode cL_law 326 = .ok (.aload_n 1, 1) := by decide +kernel
theorem dL_law_327 : decode cL_law 327 = .ok (.invokevirtual 226, 3) := by decide +kernel
theorem dL_law_330 : decode cL_law 330 = .ok (.iload 10, 2) := by decide +kernel
theorem dL_law_332 : decode cL_law 332 = .ok (.if_icmp .ne 22, 3) := by decide +kernel
theorem dL_law_335 : decode cL_law 335 = .ok (.iload 10, 2) := by decide +kernel
theorem dL_law_337 : decode cL_law 337 = .ok (.bipush 8, 2) := by decide +kernel
theorem dL_law_339 : decode cL_law 339 = .ok (.if_icmp .ge 15, 3) := by decide +kernel
theorem dL_law_342 : decode cL_law 342 = .ok (.aload 9, 2) := by decide +kernel
theorem dL_law_344 : decode cL_law 344 = .ok (.aload 11, 2) := by decide +kernel
theorem dL_law_346 : decode cL_law 346 = .ok (.invokestatic 247, 3) := by decide +kernel
theorem dL_law_349 : decode cL_law 349 = .ok (.ifCond .ne 5, 3) := by decide +kernel
theorem dL_law_352 : decode cL_law 352 = .ok (.iconst 0, 1) := by decide +kernel
theorem dL_law_353 : decode cL_law 353 = .ok (.ireturn, 1) := by decide +kernel
theorem dL_law_354 : decode cL_law 354 = .ok (.iinc 7 1, 3) := by decide +kernel
theorem dL_law_357 : decode cL_law 357 = .ok (.goto (-176), 3) := by decide +kernel
theorem dL_law_360 : decode cL_law 360 = .ok (.aload_n 1, 1) := by decide +kernel
theorem dL_law_361 : decode cL_law 361 = .ok (.invokevirtual 251, 3) := by decide +kernel
theorem dL_law_364 : decode cL_law 364 = .ok (.aload_n 1, 1) := by decide +kernel
theorem dL_law_365 : decode cL_law 365 = .ok (.invokestatic 236, 3) := by decide +kernel
theorem dL_law_368 : decode cL_law 368 = .ok (.astore 7, 2) := by decide +kernel
theorem dL_law_370 : decode cL_law 370 = .ok (.iconst 0, 1) := by decide +kernel
theorem dL_law_371 : decode cL_law 371 = .ok (.istore 8, 2) := by decide +kernel
theorem dL_law_373 : decode cL_law 373 = .ok (.iload 8, 2) := by decide +kernel
theorem dL_law_375 : decode cL_law 375 = .ok (.iconst 5, 1) := by decide +kernel
theorem dL_law_376 : decode cL_law 376 = .ok (.if_icmp .ge 28, 3) := by decide +kernel
theorem dL_law_379 : decode cL_law 379 = .ok (.aload_n 1, 1) := by decide +kernel
theorem dL_law_380 : decode cL_law 380 = .ok (.aload_n 2, 1) := by decide +kernel
theorem dL_law_381 : decode cL_law 381 = .ok (.aload_n 0, 1) := by decide +kernel
theorem dL_law_382 : decode cL_law 382 = .ok (.bipush 36, 2) := by decide +kernel
theorem dL_law_384 : decode cL_law 384 = .ok (.iload 8, 2) := by decide +kernel
theorem dL_law_386 : decode cL_law 386 = .ok (.iadd, 1) := by decide +kernel
theorem dL_law_387 : decode cL_law 387 = .ok (.invokestatic 211, 3) := by decide +kernel
theorem dL_law_390 : decode cL_law 390 = .ok (.invokestatic 240, 3) := by decide +kernel
theorem dL_law_393 : decode cL_law 393 = .ok (.ifCond .ne 5, 3) := by decide +kernel
theorem dL_law_396 : decode cL_law 396 = .ok (.iconst 0, 1) := by decide +kernel
theorem dL_law_397 : decode cL_law 397 = .ok (.ireturn, 1) := by decide +kernel
theorem dL_law_398 : decode cL_law 398 = .ok (.iinc 8 1, 3) := by decide +kernel
theorem dL_law_401 : decode cL_law 401 = .ok (.goto (-28), 3) := by decide +kernel
theorem dL_law_404 : decode cL_law 404 = .ok (.aload_n 1, 1) := by decide +kernel
theorem dL_law_405 : decode cL_law 405 = .ok (.invokevirtual 254, 3) := by decide +kernel
theorem dL_law_408 : decode cL_law 408 = .ok (.aload 7, 2) := by decide +kernel
theorem dL_law_410 : decode cL_law 410 = .ok (.iconst 1, 1) := by decide +kernel
theorem dL_law_411 : decode cL_law 411 = .ok (.iaload, 1) := by decide +kernel
theorem dL_law_412 : decode cL_law 412 = .ok (.if_icmp .ne 26, 3) := by decide +kernel
theorem dL_law_415 : decode cL_law 415 = .ok (.aload_n 1, 1) := by decide +kernel
theorem dL_law_416 : decode cL_law 416 = .ok (.invokestatic 236, 3) := by decide +kernel
theorem dL_law_419 : decode cL_law 419 = .ok (.aload 7, 2) := by decide +kernel
theorem dL_law_421 : decode cL_law 421 = .ok (.invokestatic 247, 3) := by decide +kernel
theorem dL_law_424 : decode cL_law 424 = .ok (.ifCond .eq 14, 3) := by decide +kernel
theorem dL_law_427 : decode cL_law 427 = .ok (.aload_n 1, 1) := by decide +kernel
theorem dL_law_428 : decode cL_law 428 = .ok (.invokevirtual 226, 3) := by decide +kernel
theorem dL_law_431 : decode cL_law 431 = .ok (.ifCond .ne 7, 3) := by decide +kernel
theorem dL_law_434 : decode cL_law 434 = .ok (.iconst 1, 1) := by decide +kernel
theorem dL_law_435 : decode cL_law 435 = .ok (.goto 4, 3) := by decide +kernel
theorem dL_law_438 : decode cL_law 438 = .ok (.iconst 0, 1) := by decide +kernel
theorem dL_law_439 : decode cL_law 439 = .ok (.ireturn, 1) := by decide +kernel
