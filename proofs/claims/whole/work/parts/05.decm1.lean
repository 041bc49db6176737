/-! decode rows -/
theorem dX13_init_0 : decode cX13_init 0 = .ok (.aload_n 0, 1) := by decide +kernel
theorem dX13_init_1 : decode cX13_init 1 = .ok (.invokespecial 1, 3) := by decide +kernel
theorem dX13_init_4 : decode cX13_init 4 = .ok (.aload_n 0, 1) := by decide +kernel
theorem dX13_init_5 : decode cX13_init 5 = .ok (.sipush 4137, 3) := by decide +kernel
theorem dX13_init_8 : decode cX13_init 8 = .ok (.newarray .int, 2) := by decide +kernel
theorem dX13_init_10 : decode cX13_init 10 = .ok (.putfield 9, 3) := by decide +kernel
theorem dX13_init_13 : decode cX13_init 13 = .ok (.aload_n 0, 1) := by decide +kernel
theorem dX13_init_14 : decode cX13_init 14 = .ok (.sipush 4137, 3) := by decide +kernel
theorem dX13_init_17 : decode cX13_init 17 = .ok (.newarray .int, 2) := by decide +kernel
theorem dX13_init_19 : decode cX13_init 19 = .ok (.putfield 13, 3) := by decide +kernel
theorem dX13_init_22 : decode cX13_init 22 = .ok (.aload_n 0, 1) := by decide +kernel
theorem dX13_init_23 : decode cX13_init 23 = .ok (.sipush 4137, 3) := by decide +kernel
theorem dX13_init_26 : decode cX13_init 26 = .ok (.newarray .int, 2) := by decide +kernel
theorem dX13_init_28 : decode cX13_init 28 = .ok (.putfield 16, 3) := by decide +kernel
theorem dX13_init_31 : decode cX13_init 31 = .ok (.aload_n 0, 1) := by decide +kernel
theorem dX13_init_32 : decode cX13_init 32 = .ok (.sipush 4137, 3) := by decide +kernel
theorem dX13_init_35 : decode cX13_init 35 = .ok (.newarray .int, 2) := by decide +kernel
theorem dX13_init_37 : decode cX13_init 37 = .ok (.putfield 19, 3) := by decide +kernel
theorem dX13_init_40 : decode cX13_init 40 = .ok (.aload_n 0, 1) := by decide +kernel
theorem dX13_init_41 : decode cX13_init 41 = .ok (.ldc 22, 2) := by decide +kernel
theorem dX13_init_43 : decode cX13_init 43 = .ok (.newarray .int, 2) := by decide +kernel
theorem dX13_init_45 : decode cX13_init 45 = .ok (.putfield 23, 3) := by decide +kernel
theorem dX13_init_48 : decode cX13_init 48 = .ok (.aload_n 0, 1) := by decide +kernel
theorem dX13_init_49 : decode cX13_init 49 = .ok (.bipush 60, 2) := by decide +kernel
theorem dX13_init_51 : decode cX13_init 51 = .ok (.newarray .int, 2) := by decide +kernel
theorem dX13_init_53 : decode cX13_init 53 = .ok (.putfield 26, 3) := by decide +kernel
theorem dX13_init_56 : decode cX13_init 56 = .ok (.aload_n 0, 1) := by decide +kernel
theorem dX13_init_57 : decode cX13_init 57 = .ok (.bipush 6, 2) := by decide +kernel
theorem dX13_init_59 : decode cX13_init 59 = .ok (.newarray .int, 2) := by decide +kernel
theorem dX13_init_61 : decode cX13_init 61 = .ok (.putfield 29, 3) := by decide +kernel
theorem dX13_init_64 : decode cX13_init 64 = .ok (.aload_n 0, 1) := by decide +kernel
theorem dX13_init_65 : decode cX13_init 65 = .ok (.bipush 60, 2) := by decide +kernel
theorem dX13_init_67 : decode cX13_init 67 = .ok (.newarray .int, 2) := by decide +kernel
theorem dX13_init_69 : decode cX13_init 69 = .ok (.putfield 32, 3) := by decide +kernel
theorem dX13_init_72 : decode cX13_init 72 = .ok (.aload_n 0, 1) := by decide +kernel
theorem dX13_init_73 : decode cX13_init 73 = .ok (.aload_n 0, 1) := by decide +kernel
theorem dX13_init_74 : decode cX13_init 74 = .ok (.getfield 9, 3) := by decide +kernel
theorem dX13_init_77 : decode cX13_init 77 = .ok (.putfield 35, 3) := by decide +kernel
theorem dX13_init_80 : decode cX13_init 80 = .ok (.aload_n 0, 1) := by decide +kernel
theorem dX13_init_81 : decode cX13_init 81 = .ok (.bipush 60, 2) := by decide +kernel
theorem dX13_init_83 : decode cX13_init 83 = .ok (.newarray .int, 2) := by decide +kernel
theorem dX13_init_85 : decode cX13_init 85 = .ok (.putfield 38, 3) := by decide +kernel
theorem dX13_init_88 : decode cX13_init 88 = .ok (.aload_n 0, 1) := by decide +kernel
theorem dX13_init_89 : decode cX13_init 89 = .ok (.sipush 700, 3) := by decide +kernel
theorem dX13_init_92 : decode cX13_init 92 = .ok (.newarray .int, 2) := by decide +kernel
theorem dX13_init_94 : decode cX13_init 94 = .ok (.putfield 41, 3) := by decide +kernel
theorem dX13_init_97 : decode cX13_init 97 = .ok (.aload_n 0, 1) := by decide +kernel
theorem dX13_init_98 : decode cX13_init 98 = .ok (.iconst (-1), 1) := by decide +kernel
theorem dX13_init_99 : decode cX13_init 99 = .ok (.putfield 44, 3) := by decide +kernel
theorem dX13_init_102 : decode cX13_init 102 = .ok (.aload_n 0, 1) := by decide +kernel
theorem dX13_init_103 : decode cX13_init 103 = .ok (.sipush 140, 3) := by decide +kernel
theorem dX13_init_106 : decode cX13_init 106 = .ok (.newarray .int, 2) := by decide +kernel
theorem dX13_init_108 : decode cX13_init 108 = .ok (.putfield 48, 3) := by decide +kernel
theorem dX13_init_111 : decode cX13_init 111 = .ok (.aload_n 0, 1) := by decide +kernel
theorem dX13_init_112 : decode cX13_init 112 = .ok (.bipush 9, 2) := by decide +kernel
theorem dX13_init_114 : decode cX13_init 114 = .ok (.anewarray 51, 3) := by decide +kernel
theorem dX13_init_117 : decode cX13_init 117 = .ok (.dup, 1) := by decide +kernel
theorem dX13_init_118 : decode cX13_init 118 = .ok (.iconst 0, 1) := by decide +kernel
theorem dX13_init_119 : decode cX13_init 119 = .ok (.ldc 53, 2) := by decide +kernel
theorem dX13_init_121 : decode cX13_init 121 = .ok (.aastore, 1) := by decide +kernel
theorem dX13_init_122 : decode cX13_init 122 = .ok (.dup, 1) := by decide +kernel
theorem dX13_init_123 : decode cX13_init 123 = .ok (.iconst 1, 1) := by decide +kernel
theorem dX13_init_124 : decode cX13_init 124 = .ok (.ldc 54, 2) := by decide +kernel
theorem dX13_init_126 : decode cX13_init 126 = .ok (.aastore, 1) := by decide +kernel
theorem dX13_init_127 : decode cX13_init 127 = .ok (.dup, 1) := by decide +kernel
theorem dX13_init_128 : decode cX13_init 128 = .ok (.iconst 2, 1) := by decide +kernel
theorem dX13_init_129 : decode cX13_init 129 = .ok (.ldc 56, 2) := by decide +kernel
theorem dX13_init_131 : decode cX13_init 131 = .ok (.aastore, 1) := by decide +kernel
theorem dX13_init_132 : decode cX13_init 132 = .ok (.dup, 1) := by decide +kernel
theorem dX13_init_133 : decode cX13_init 133 = .ok (.iconst 3, 1) := by decide +kernel
theorem dX13_init_134 : decode cX13_init 134 = .ok (.ldc 58, 2) := by decide +kernel
theorem dX13_init_136 : decode cX13_init 136 = .ok (.aastore, 1) := by decide +kernel
theorem dX13_init_137 : decode cX13_init 137 = .ok (.dup, 1) := by decide +kernel
theorem dX13_init_138 : decode cX13_init 138 = .ok (.iconst 4, 1) := by decide +kernel
theorem dX13_init_139 : decode cX13_init 139 = .ok (.ldc 60, 2) := by decide +kernel
theorem dX13_init_141 : decode cX13_init 141 = .ok (.aastore, 1) := by decide +kernel
theorem dX13_init_142 : decode cX13_init 142 = .ok (.dup, 1) := by decide +kernel
theorem dX13_init_143 : decode cX13_init 143 = .ok (.iconst 5, 1) := by decide +kernel
theorem dX13_init_144 : decode cX13_init 144 = .ok (.ldc 62, 2) := by decide +kernel
theorem dX13_init_146 : decode cX13_init 146 = .ok (.aastore, 1) := by decide +kernel
theorem dX13_init_147 : decode cX13_init 147 = .ok (.dup, 1) := by decide +kernel
theorem dX13_init_148 : decode cX13_init 148 = .ok (.bipush 6, 2) := by decide +kernel
theorem dX13_init_150 : decode cX13_init 150 = .ok (.ldc 64, 2) := by decide +kernel
theorem dX13_init_152 : decode cX13_init 152 = .ok (.aastore, 1) := by decide +kernel
theorem dX13_init_153 : decode cX13_init 153 = .ok (.dup, 1) := by decide +kernel
theorem dX13_init_154 : decode cX13_init 154 = .ok (.bipush 7, 2) := by decide +kernel
theorem dX13_init_156 : decode cX13_init 156 = .ok (.ldc 66, 2) := by decide +kernel
theorem dX13_init_158 : decode cX13_init 158 = .ok (.aastore, 1) := by decide +kernel
theorem dX13_init_159 : decode cX13_init 159 = .ok (.dup, 1) := by decide +kernel
theorem dX13_init_160 : decode cX13_init 160 = .ok (.bipush 8, 2) := by decide +kernel
theorem dX13_init_162 : decode cX13_init 162 = .ok (.ldc 68, 2) := by decide +kernel
theorem dX13_init_164 : decode cX13_init 164 = .ok (.aastore, 1) := by decide +kernel
theorem dX13_init_165 : decode cX13_init 165 = .ok (.putfield 70, 3) := by decide +kernel
theorem dX13_init_168 : decode cX13_init 168 = .ok (.aload_n 0, 1) := by decide +kernel
theorem dX13_init_169 : decode cX13_init 169 = .ok (.iconst 3, 1) := by decide +kernel
theorem dX13_init_170 : decode cX13_init 170 = .ok (.invokevirtual 74, 3) := by decide +kernel
theorem dX13_init_173 : decode cX13_init 173 = .ok (.aload_n 0, 1) := by decide +kernel
theorem dX13_init_174 : decode cX13_init 174 = .ok (.iconst 5, 1) := by decide +kernel
theorem dX13_init_175 : decode cX13_init 175 = .ok (.bipush (-2), 2) := by decide +kernel
theorem dX13_init_177 : decode cX13_init 177 = .ok (.bipush 7, 2) := by decide +kernel
theorem dX13_init_179 : decode cX13_init 179 = .ok (.invokevirtual 78, 3) := by decide +kernel
theorem dX13_init_182 : decode cX13_init 182 = .ok (.aload_n 0, 1) := by decide +kernel
theorem dX13_init_183 : decode cX13_init 183 = .ok (.iconst 1, 1) := by decide +kernel
theorem dX13_init_184 : decode cX13_init 184 = .ok (.bipush (-2), 2) := by decide +kernel
theorem dX13_init_186 : decode cX13_init 186 = .ok (.bipush 7, 2) := by decide +kernel
theorem dX13_init_188 : decode cX13_init 188 = .ok (.invokevirtual 78, 3) := by decide +kernel
theorem dX13_init_191 : decode cX13_init 191 = .ok (.aload_n 0, 1) := by decide +kernel
theorem dX13_init_192 : decode cX13_init 192 = .ok (.iconst 5, 1) := by decide +kernel
theorem dX13_init_193 : decode cX13_init 193 = .ok (.iconst 0, 1) := by decide +kernel
theorem dX13_init_194 : decode cX13_init 194 = .ok (.iconst 3, 1) := by decide +kernel
theorem dX13_init_195 : decode cX13_init 195 = .ok (.invokevirtual 78, 3) := by decide +kernel
theorem dX13_init_198 : decode cX13_init 198 = .ok (.aload_n 0, 1) := by decide +kernel
theorem dX13_init_199 : decode cX13_init 199 = .ok (.bipush 9, 2) := by decide +kernel
theorem dX13_init_201 : decode cX13_init 201 = .ok (.bipush (-2), 2) := by decide +kernel
theorem dX13_init_203 : decode cX13_init 203 = .ok (.bipush 7, 2) := by decide +kernel
theorem dX13_init_205 : decode cX13_init 205 = .ok (.invokevirtual 78, 3) := by decide +kernel
theorem dX13_init_208 : decode cX13_init 208 = .ok (.aload_n 0, 1) := by decide +kernel
theorem dX13_init_209 : decode cX13_init 209 = .ok (.iconst 1, 1) := by decide +kernel
theorem dX13_init_210 : decode cX13_init 210 = .ok (.iconst 4, 1) := by decide +kernel
theorem dX13_init_211 : decode cX13_init 211 = .ok (.iconst 3, 1) := by decide +kernel
theorem dX13_init_212 : decode cX13_init 212 = .ok (.invokevirtual 78, 3) := by decide +kernel
theorem dX13_init_215 : decode cX13_init 215 = .ok (.aload_n 0, 1) := by decide +kernel
theorem dX13_init_216 : decode cX13_init 216 = .ok (.iconst 5, 1) := by decide +kernel
theorem dX13_init_217 : decode cX13_init 217 = .ok (.iconst 0, 1) := by decide +kernel
theorem dX13_init_218 : decode cX13_init 218 = .ok (.bipush 7, 2) := by decide +kernel
theorem dX13_init_220 : decode cX13_init 220 = .ok (.invokevirtual 78, 3) := by decide +kernel
theorem dX13_init_223 : decode cX13_init 223 = .ok (.return_, 1) := by decide +kernel
theorem dX13_addFirst_0 : decode cX13_addFirst 0 = .ok (.aload_n 0, 1) := by decide +kernel
theorem dX13_addFirst_1 : decode cX13_addFirst 1 = .ok (.getfield 29, 3) := by decide +kernel
theorem dX13_addFirst_4 : decode cX13_addFirst 4 = .ok (.iconst 0, 1) := by decide +kernel
theorem dX13_addFirst_5 : decode cX13_addFirst 5 = .ok (.iload_n 1, 1) := by decide +kernel
theorem dX13_addFirst_6 : decode cX13_addFirst 6 = .ok (.iastore, 1) := by decide +kernel
theorem dX13_addFirst_7 : decode cX13_addFirst 7 = .ok (.aload_n 0, 1) := by decide +kernel
theorem dX13_addFirst_8 : decode cX13_addFirst 8 = .ok (.getfield 29, 3) := by decide +kernel
theorem dX13_addFirst_11 : decode cX13_addFirst 11 = .ok (.iconst 1, 1) := by decide +kernel
theorem dX13_addFirst_12 : decode cX13_addFirst 12 = .ok (.iload_n 2, 1) := by decide +kernel
theorem dX13_addFirst_13 : decode cX13_addFirst 13 = .ok (.iastore, 1) := by decide +kernel
theorem dX13_addFirst_14 : decode cX13_addFirst 14 = .ok (.aload_n 0, 1) := by decide +kernel
theorem dX13_addFirst_15 : decode cX13_addFirst 15 = .ok (.getfield 29, 3) := by decide +kernel
theorem dX13_addFirst_18 : decode cX13_addFirst 18 = .ok (.iconst 2, 1) := by decide +kernel
theorem dX13_addFirst_19 : decode cX13_addFirst 19 = .ok (.iload_n 3, 1) := by decide +kernel
theorem dX13_addFirst_20 : decode cX13_addFirst 20 = .ok (.iastore, 1) := by decide +kernel
theorem dX13_addFirst_21 : decode cX13_addFirst 21 = .ok (.aload_n 0, 1) := by decide +kernel
theorem dX13_addFirst_22 : decode cX13_addFirst 22 = .ok (.invokevirtual 82, 3) := by decide +kernel
theorem dX13_addFirst_25 : decode cX13_addFirst 25 = .ok (.return_, 1) := by decide +kernel
theorem dX13_thrown_0 : decode cX13_thrown 0 = .ok (.aload_n 0, 1) := by decide +kernel
theorem dX13_thrown_1 : decode cX13_thrown 1 = .ok (.getfield 85, 3) := by decide +kernel
theorem dX13_thrown_4 : decode cX13_thrown 4 = .ok (.ireturn, 1) := by decide +kernel
theorem dX13_inRange_0 : decode cX13_inRange 0 = .ok (.iload_n 0, 1) := by decide +kernel
theorem dX13_inRange_1 : decode cX13_inRange 1 = .ok (.iload_n 1, 1) := by decide +kernel
theorem dX13_inRange_2 : decode cX13_inRange 2 = .ok (.if_icmp .lt 12, 3) := by decide +kernel
theorem dX13_inRange_5 : decode cX13_inRange 5 = .ok (.iload_n 0, 1) := by decide +kernel
theorem dX13_inRange_6 : decode cX13_inRange 6 = .ok (.iload_n 2, 1) := by decide +kernel
theorem dX13_inRange_7 : decode cX13_inRange 7 = .ok (.if_icmp .gt 7, 3) := by decide +kernel
theorem dX13_inRange_10 : decode cX13_inRange 10 = .ok (.iconst 1, 1) := by decide +kernel
theorem dX13_inRange_11 : decode cX13_inRange 11 = .ok (.goto 4, 3) := by decide +kernel
theorem dX13_inRange_14 : decode cX13_inRange 14 = .ok (.iconst 0, 1) := by decide +kernel
theorem dX13_inRange_15 : decode cX13_inRange 15 = .ok (.ireturn, 1) := by decide +kernel
theorem dX13_lacks_0 : decode cX13_lacks 0 = .ok (.aload_n 0, 1) := by decide +kernel
theorem dX13_lacks_1 : decode cX13_lacks 1 = .ok (.iload_n 1, 1) := by decide +kernel
theorem dX13_lacks_2 : decode cX13_lacks 2 = .ok (.ifCond .eq 7, 3) := by decide +kernel
theorem dX13_lacks_5 : decode cX13_lacks 5 = .ok (.iconst 0, 1) := by decide +kernel
theorem dX13_lacks_6 : decode cX13_lacks 6 = .ok (.goto 4, 3) := by decide +kernel
theorem dX13_lacks_9 : decode cX13_lacks 9 = .ok (.iconst 1, 1) := by decide +kernel
theorem dX13_lacks_10 : decode cX13_lacks 10 = .ok (.putfield 85, 3) := by decide +kernel
theorem dX13_lacks_13 : decode cX13_lacks 13 = .ok (.iload_n 1, 1) := by decide +kernel
theorem dX13_lacks_14 : decode cX13_lacks 14 = .ok (.ifCond .ne 7, 3) := by decide +kernel
theorem dX13_lacks_17 : decode cX13_lacks 17 = .ok (.iconst 1, 1) := by decide +kernel
theorem dX13_lacks_18 : decode cX13_lacks 18 = .ok (.goto 4, 3) := by decide +kernel
theorem dX13_lacks_21 : decode cX13_lacks 21 = .ok (.iconst 0, 1) := by decide +kernel
theorem dX13_lacks_22 : decode cX13_lacks 22 = .ok (.ireturn, 1) := by decide +kernel
theorem dX13_lacksBoth_0 : decode cX13_lacksBoth 0 = .ok (.aload_n 0, 1) := by decide +kernel
theorem dX13_lacksBoth_1 : decode cX13_lacksBoth 1 = .ok (.iload_n 1, 1) := by decide +kernel
theorem dX13_lacksBoth_2 : decode cX13_lacksBoth 2 = .ok (.invokevirtual 88, 3) := by decide +kernel
theorem dX13_lacksBoth_5 : decode cX13_lacksBoth 5 = .ok (.ifCond .eq 5, 3) := by decide +kernel
theorem dX13_lacksBoth_8 : decode cX13_lacksBoth 8 = .ok (.iconst 1, 1) := by decide +kernel
theorem dX13_lacksBoth_9 : decode cX13_lacksBoth 9 = .ok (.ireturn, 1) := by decide +kernel
theorem dX13_lacksBoth_10 : decode cX13_lacksBoth 10 = .ok (.aload_n 0, 1) := by decide +kernel
theorem dX13_lacksBoth_11 : decode cX13_lacksBoth 11 = .ok (.iload_n 2, 1) := by decide +kernel
theorem dX13_lacksBoth_12 : decode cX13_lacksBoth 12 = .ok (.ifCond .eq 7, 3) := by decide +kernel
theorem dX13_lacksBoth_15 : decode cX13_lacksBoth 15 = .ok (.iconst 0, 1) := by decide +kernel
theorem dX13_lacksBoth_16 : decode cX13_lacksBoth 16 = .ok (.goto 4, 3) := by decide +kernel
theorem dX13_lacksBoth_19 : decode cX13_lacksBoth 19 = .ok (.iconst 2, 1) := by decide +kernel
theorem dX13_lacksBoth_20 : decode cX13_lacksBoth 20 = .ok (.putfield 85, 3) := by decide +kernel
theorem dX13_lacksBoth_23 : decode cX13_lacksBoth 23 = .ok (.aload_n 0, 1) := by decide +kernel
theorem dX13_lacksBoth_24 : decode cX13_lacksBoth 24 = .ok (.getfield 85, 3) := by decide +kernel
theorem dX13_lacksBoth_27 : decode cX13_lacksBoth 27 = .ok (.ifCond .eq 7, 3) := by decide +kernel
theorem dX13_lacksBoth_30 : decode cX13_lacksBoth 30 = .ok (.iconst 1, 1) := by decide +kernel
theorem dX13_lacksBoth_31 : decode cX13_lacksBoth 31 = .ok (.goto 4, 3) := by decide +kernel
theorem dX13_lacksBoth_34 : decode cX13_lacksBoth 34 = .ok (.iconst 0, 1) := by decide +kernel
theorem dX13_lacksBoth_35 : decode cX13_lacksBoth 35 = .ok (.ireturn, 1) := by decide +kernel
theorem dX13_begin_0 : decode cX13_begin 0 = .ok (.iconst 0, 1) := by decide +kernel
theorem dX13_begin_1 : decode cX13_begin 1 = .ok (.istore_n 2, 1) := by decide +kernel
theorem dX13_begin_2 : decode cX13_begin 2 = .ok (.iload_n 2, 1) := by decide +kernel
theorem dX13_begin_3 : decode cX13_begin 3 = .ok (.sipush 4137, 3) := by decide +kernel
theorem dX13_begin_6 : decode cX13_begin 6 = .ok (.if_icmp .ge 16, 3) := by decide +kernel
theorem dX13_begin_9 : decode cX13_begin 9 = .ok (.aload_n 0, 1) := by decide +kernel
theorem dX13_begin_10 : decode cX13_begin 10 = .ok (.getfield 35, 3) := by decide +kernel
theorem dX13_begin_13 : decode cX13_begin 13 = .ok (.iload_n 2, 1) := by decide +kernel
theorem dX13_begin_14 : decode cX13_begin 14 = .ok (.iconst 0, 1) := by decide +kernel
theorem dX13_begin_15 : decode cX13_begin 15 = .ok (.iastore, 1) := by decide +kernel
theorem dX13_begin_16 : decode cX13_begin 16 = .ok (.iinc 2 1, 3) := by decide +kernel
theorem dX13_begin_19 : decode cX13_begin 19 = .ok (.goto (-17), 3) := by decide +kernel
theorem dX13_begin_22 : decode cX13_begin 22 = .ok (.aload_n 0, 1) := by decide +kernel
theorem dX13_begin_23 : decode cX13_begin 23 = .ok (.getfield 35, 3) := by decide +kernel
theorem dX13_begin_26 : decode cX13_begin 26 = .ok (.iconst 0, 1) := by decide +kernel
theorem dX13_begin_27 : decode cX13_begin 27 = .ok (.iload_n 1, 1) := by decide +kernel
theorem dX13_begin_28 : decode cX13_begin 28 = .ok (.iastore, 1) := by decide +kernel
theorem dX13_begin_29 : decode cX13_begin 29 = .ok (.return_, 1) := by decide +kernel
theorem dX13_isColumn_0 : decode cX13_isColumn 0 = .ok (.iload_n 1, 1) := by decide +kernel
theorem dX13_isColumn_1 : decode cX13_isColumn 1 = .ok (.iconst 0, 1) := by decide +kernel
theorem dX13_isColumn_2 : decode cX13_isColumn 2 = .ok (.aload_n 0, 1) := by decide +kernel
theorem dX13_isColumn_3 : decode cX13_isColumn 3 = .ok (.getfield 35, 3) := by decide +kernel
theorem dX13_isColumn_6 : decode cX13_isColumn 6 = .ok (.iconst 0, 1) := by decide +kernel
theorem dX13_isColumn_7 : decode cX13_isColumn 7 = .ok (.iaload, 1) := by decide +kernel
theorem dX13_isColumn_8 : decode cX13_isColumn 8 = .ok (.iconst 1, 1) := by decide +kernel
theorem dX13_isColumn_9 : decode cX13_isColumn 9 = .ok (.isub, 1) := by decide +kernel
theorem dX13_isColumn_10 : decode cX13_isColumn 10 = .ok (.invokestatic 92, 3) := by decide +kernel
theorem dX13_isColumn_13 : decode cX13_isColumn 13 = .ok (.ireturn, 1) := by decide +kernel
theorem dX13_isRow_0 : decode cX13_isRow 0 = .ok (.iload_n 1, 1) := by decide +kernel
theorem dX13_isRow_1 : decode cX13_isRow 1 = .ok (.iconst 0, 1) := by decide +kernel
theorem dX13_isRow_2 : decode cX13_isRow 2 = .ok (.aload_n 0, 1) := by decide +kernel
theorem dX13_isRow_3 : decode cX13_isRow 3 = .ok (.getfield 35, 3) := by decide +kernel
theorem dX13_isRow_6 : decode cX13_isRow 6 = .ok (.iconst 1, 1) := by decide +kernel
theorem dX13_isRow_7 : decode cX13_isRow 7 = .ok (.iaload, 1) := by decide +kernel
theorem dX13_isRow_8 : decode cX13_isRow 8 = .ok (.iconst 1, 1) := by decide +kernel
theorem dX13_isRow_9 : decode cX13_isRow 9 = .ok (.isub, 1) := by decide +kernel
theorem dX13_isRow_10 : decode cX13_isRow 10 = .ok (.invokestatic 92, 3) := by decide +kernel
theorem dX13_isRow_13 : decode cX13_isRow 13 = .ok (.ireturn, 1) := by decide +kernel
theorem dX13_isCondition_0 : decode cX13_isCondition 0 = .ok (.iload_n 1, 1) := by decide +kernel
theorem dX13_isCondition_1 : decode cX13_isCondition 1 = .ok (.iconst 0, 1) := by decide +kernel
theorem dX13_isCondition_2 : decode cX13_isCondition 2 = .ok (.aload_n 0, 1) := by decide +kernel
theorem dX13_isCondition_3 : decode cX13_isCondition 3 = .ok (.getfield 35, 3) := by decide +kernel
theorem dX13_isCondition_6 : decode cX13_isCondition 6 = .ok (.iconst 2, 1) := by decide +kernel
theorem dX13_isCondition_7 : decode cX13_isCondition 7 = .ok (.iaload, 1) := by decide +kernel
theorem dX13_isCondition_8 : decode cX13_isCondition 8 = .ok (.iconst 1, 1) := by decide +kernel
theorem dX13_isCondition_9 : decode cX13_isCondition 9 = .ok (.isub, 1) := by decide +kernel
theorem dX13_isCondition_10 : decode cX13_isCondition 10 = .ok (.invokestatic 92, 3) := by decide +kernel
theorem dX13_isCondition_13 : decode cX13_isCondition 13 = .ok (.ireturn, 1) := by decide +kernel
theorem dX13_isValue_0 : decode cX13_isValue 0 = .ok (.iload_n 0, 1) := by decide +kernel
theorem dX13_isValue_1 : decode cX13_isValue 1 = .ok (.sipush (-9999), 3) := by decide +kernel
theorem dX13_isValue_4 : decode cX13_isValue 4 = .ok (.sipush 9999, 3) := by decide +kernel
theorem dX13_isValue_7 : decode cX13_isValue 7 = .ok (.invokestatic 92, 3) := by decide +kernel
theorem dX13_isValue_10 : decode cX13_isValue 10 = .ok (.ireturn, 1) := by decide +kernel
theorem dX13_placeOf_0 : decode cX13_placeOf 0 = .ok (.bipush 27, 2) := by decide +kernel
theorem dX13_placeOf_2 : decode cX13_placeOf 2 = .ok (.bipush 6, 2) := by decide +kernel
theorem dX13_placeOf_4 : decode cX13_placeOf 4 = .ok (.iload_n 1, 1) := by decide +kernel
theorem dX13_placeOf_5 : decode cX13_placeOf 5 = .ok (.imul, 1) := by decide +kernel
theorem dX13_placeOf_6 : decode cX13_placeOf 6 = .ok (.iadd, 1) := by decide +kernel
theorem dX13_placeOf_7 : decode cX13_placeOf 7 = .ok (.iload_n 0, 1) := by decide +kernel
theorem dX13_placeOf_8 : decode cX13_placeOf 8 = .ok (.iadd, 1) := by decide +kernel
theorem dX13_placeOf_9 : decode cX13_placeOf 9 = .ok (.ireturn, 1) := by decide +kernel
theorem dX13_at_0 : decode cX13_at 0 = .ok (.aload_n 0, 1) := by decide +kernel
theorem dX13_at_1 : decode cX13_at 1 = .ok (.getfield 35, 3) := by decide +kernel
theorem dX13_at_4 : decode cX13_at 4 = .ok (.iload_n 1, 1) := by decide +kernel
theorem dX13_at_5 : decode cX13_at 5 = .ok (.iload_n 2, 1) := by decide +kernel
theorem dX13_at_6 : decode cX13_at 6 = .ok (.invokestatic 96, 3) := by decide +kernel
theorem dX13_at_9 : decode cX13_at 9 = .ok (.iaload, 1) := by decide +kernel
theorem dX13_at_10 : decode cX13_at 10 = .ok (.ireturn, 1) := by decide +kernel
theorem dX13_bits_0 : decode cX13_bits 0 = .ok (.iload_n 0, 1) := by decide +kernel
theorem dX13_bits_1 : decode cX13_bits 1 = .ok (.iload_n 0, 1) := by decide +kernel
theorem dX13_bits_2 : decode cX13_bits 2 = .ok (.iconst 1, 1) := by decide +kernel
theorem dX13_bits_3 : decode cX13_bits 3 = .ok (.iushr, 1) := by decide +kernel
theorem dX13_bits_4 : decode cX13_bits 4 = .ok (.ldc 100, 2) := by decide +kernel
theorem dX13_bits_6 : decode cX13_bits 6 = .ok (.iand, 1) := by decide +kernel
theorem dX13_bits_7 : decode cX13_bits 7 = .ok (.isub, 1) := by decide +kernel
theorem dX13_bits_8 : decode cX13_bits 8 = .ok (.istore_n 1, 1) := by decide +kernel
theorem dX13_bits_9 : decode cX13_bits 9 = .ok (.iload_n 1, 1) := by decide +kernel
theorem dX13_bits_10 : decode cX13_bits 10 = .ok (.ldc 101, 2) := by decide +kernel
theorem dX13_bits_12 : decode cX13_bits 12 = .ok (.iand, 1) := by decide +kernel
theorem dX13_bits_13 : decode cX13_bits 13 = .ok (.iload_n 1, 1) := by decide +kernel
theorem dX13_bits_14 : decode cX13_bits 14 = .ok (.iconst 2, 1) := by decide +kernel
theorem dX13_bits_15 : decode cX13_bits 15 = .ok (.iushr, 1) := by decide +kernel
theorem dX13_bits_16 : decode cX13_bits 16 = .ok (.ldc 101, 2) := by decide +kernel
theorem dX13_bits_18 : decode cX13_bits 18 = .ok (.iand, 1) := by decide +kernel
theorem dX13_bits_19 : decode cX13_bits 19 = .ok (.iadd, 1) := by decide +kernel
theorem dX13_bits_20 : decode cX13_bits 20 = .ok (.istore_n 1, 1) := by decide +kernel
theorem dX13_bits_21 : decode cX13_bits 21 = .ok (.iload_n 1, 1) := by decide +kernel
theorem dX13_bits_22 : decode cX13_bits 22 = .ok (.iload_n 1, 1) := by decide +kernel
theorem dX13_bits_23 : decode cX13_bits 23 = .ok (.iconst 4, 1) := by decide +kernel
theorem dX13_bits_24 : decode cX13_bits 24 = .ok (.iushr, 1) := by decide +kernel
theorem dX13_bits_25 : decode cX13_bits 25 = .ok (.iadd, 1) := by decide +kernel
theorem dX13_bits_26 : decode cX13_bits 26 = .ok (.ldc 102, 2) := by decide +kernel
theorem dX13_bits_28 : decode cX13_bits 28 = .ok (.iand, 1) := by decide +kernel
theorem dX13_bits_29 : decode cX13_bits 29 = .ok (.istore_n 1, 1) := by decide +kernel
theorem dX13_bits_30 : decode cX13_bits 30 = .ok (.iload_n 1, 1) := by decide +kernel
theorem dX13_bits_31 : decode cX13_bits 31 = .ok (.ldc 103, 2) := by decide +kernel
theorem dX13_bits_33 : decode cX13_bits 33 = .ok (.imul, 1) := by decide +kernel
theorem dX13_bits_34 : decode cX13_bits 34 = .ok (.bipush 24, 2) := by decide +kernel
theorem dX13_bits_36 : decode cX13_bits 36 = .ok (.iushr, 1) := by decide +kernel
theorem dX13_bits_37 : decode cX13_bits 37 = .ok (.ireturn, 1) := by decide +kernel
theorem dX13_has_0 : decode cX13_has 0 = .ok (.iload_n 2, 1) := by decide +kernel
theorem dX13_has_1 : decode cX13_has 1 = .ok (.sipush 9999, 3) := by decide +kernel
theorem dX13_has_4 : decode cX13_has 4 = .ok (.iadd, 1) := by decide +kernel
theorem dX13_has_5 : decode cX13_has 5 = .ok (.istore_n 3, 1) := by decide +kernel
theorem dX13_has_6 : decode cX13_has 6 = .ok (.iload_n 2, 1) := by decide +kernel
theorem dX13_has_7 : decode cX13_has 7 = .ok (.invokestatic 104, 3) := by decide +kernel
theorem dX13_has_10 : decode cX13_has 10 = .ok (.ifCond .eq 37, 3) := by decide +kernel
theorem dX13_has_13 : decode cX13_has 13 = .ok (.aload_n 0, 1) := by decide +kernel
theorem dX13_has_14 : decode cX13_has 14 = .ok (.getfield 35, 3) := by decide +kernel
theorem dX13_has_17 : decode cX13_has 17 = .ok (.sipush 387, 3) := by decide +kernel
theorem dX13_has_20 : decode cX13_has 20 = .ok (.sipush 625, 3) := by decide +kernel
theorem dX13_has_23 : decode cX13_has 23 = .ok (.iload_n 1, 1) := by decide +kernel
theorem dX13_has_24 : decode cX13_has 24 = .ok (.imul, 1) := by decide +kernel
theorem dX13_has_25 : decode cX13_has 25 = .ok (.iadd, 1) := by decide +kernel
theorem dX13_has_26 : decode cX13_has 26 = .ok (.iload_n 3, 1) := by decide +kernel
theorem dX13_has_27 : decode cX13_has 27 = .ok (.bipush 32, 2) := by decide +kernel
theorem dX13_has_29 : decode cX13_has 29 = .ok (.idiv, 1) := by decide +kernel
theorem dX13_has_30 : decode cX13_has 30 = .ok (.iadd, 1) := by decide +kernel
theorem dX13_has_31 : decode cX13_has 31 = .ok (.iaload, 1) := by decide +kernel
theorem dX13_has_32 : decode cX13_has 32 = .ok (.iload_n 3, 1) := by decide +kernel
theorem dX13_has_33 : decode cX13_has 33 = .ok (.bipush 32, 2) := by decide +kernel
theorem dX13_has_35 : decode cX13_has 35 = .ok (.irem, 1) := by decide +kernel
theorem dX13_has_36 : decode cX13_has 36 = .ok (.iushr, 1) := by decide +kernel
theorem dX13_has_37 : decode cX13_has 37 = .ok (.iconst 1, 1) := by decide +kernel
theorem dX13_has_38 : decode cX13_has 38 = .ok (.iand, 1) := by decide +kernel
theorem dX13_has_39 : decode cX13_has 39 = .ok (.iconst 1, 1) := by decide +kernel
theorem dX13_has_40 : decode cX13_has 40 = .ok (.if_icmp .ne 7, 3) := by decide +kernel
theorem dX13_has_43 : decode cX13_has 43 = .ok (.iconst 1, 1) := by decide +kernel
theorem dX13_has_44 : decode cX13_has 44 = .ok (.goto 4, 3) := by decide +kernel
theorem dX13_has_47 : decode cX13_has 47 = .ok (.iconst 0, 1) := by decide +kernel
theorem dX13_has_48 : decode cX13_has 48 = .ok (.ireturn, 1) := by decide +kernel
theorem dX13_learn_0 : decode cX13_learn 0 = .ok (.iload_n 2, 1) := by decide +kernel
theorem dX13_learn_1 : decode cX13_learn 1 = .ok (.sipush 9999, 3) := by decide +kernel
theorem dX13_learn_4 : decode cX13_learn 4 = .ok (.iadd, 1) := by decide +kernel
theorem dX13_learn_5 : decode cX13_learn 5 = .ok (.istore_n 3, 1) := by decide +kernel
theorem dX13_learn_6 : decode cX13_learn 6 = .ok (.aload_n 0, 1) := by decide +kernel
theorem dX13_learn_7 : decode cX13_learn 7 = .ok (.getfield 35, 3) := by decide +kernel
theorem dX13_learn_10 : decode cX13_learn 10 = .ok (.sipush 387, 3) := by decide +kernel
theorem dX13_learn_13 : decode cX13_learn 13 = .ok (.sipush 625, 3) := by decide +kernel
theorem dX13_learn_16 : decode cX13_learn 16 = .ok (.iload_n 1, 1) := by decide +kernel
theorem dX13_learn_17 : decode cX13_learn 17 = .ok (.imul, 1) := by decide +kernel
theorem dX13_learn_18 : decode cX13_learn 18 = .ok (.iadd, 1) := by decide +kernel
theorem dX13_learn_19 : decode cX13_learn 19 = .ok (.iload_n 3, 1) := by decide +kernel
theorem dX13_learn_20 : decode cX13_learn 20 = .ok (.bipush 32, 2) := by decide +kernel
theorem dX13_learn_22 : decode cX13_learn 22 = .ok (.idiv, 1) := by decide +kernel
theorem dX13_learn_23 : decode cX13_learn 23 = .ok (.iadd, 1) := by decide +kernel
theorem dX13_learn_24 : decode cX13_learn 24 = .ok (.dup2, 1) := by decide +kernel
theorem dX13_learn_25 : decode cX13_learn 25 = .ok (.iaload, 1) := by decide +kernel
theorem dX13_learn_26 : decode cX13_learn 26 = .ok (.iconst 1, 1) := by decide +kernel
theorem dX13_learn_27 : decode cX13_learn 27 = .ok (.iload_n 3, 1) := by decide +kernel
theorem dX13_learn_28 : decode cX13_learn 28 = .ok (.bipush 32, 2) := by decide +kernel
theorem dX13_learn_30 : decode cX13_learn 30 = .ok (.irem, 1) := by decide +kernel
theorem dX13_learn_31 : decode cX13_learn 31 = .ok (.ishl, 1) := by decide +kernel
theorem dX13_learn_32 : decode cX13_learn 32 = .ok (.ior, 1) := by decide +kernel
theorem dX13_learn_33 : decode cX13_learn 33 = .ok (.iastore, 1) := by decide +kernel
theorem dX13_learn_34 : decode cX13_learn 34 = .ok (.return_, 1) := by decide +kernel
theorem dX13_less_0 : decode cX13_less 0 = .ok (.iload_n 2, 1) := by decide +kernel
theorem dX13_less_1 : decode cX13_less 1 = .ok (.sipush 9999, 3) := by decide +kernel
theorem dX13_less_4 : decode cX13_less 4 = .ok (.iadd, 1) := by decide +kernel
theorem dX13_less_5 : decode cX13_less 5 = .ok (.istore_n 3, 1) := by decide +kernel
theorem dX13_less_6 : decode cX13_less 6 = .ok (.iconst 0, 1) := by decide +kernel
theorem dX13_less_7 : decode cX13_less 7 = .ok (.istore 4, 2) := by decide +kernel
theorem dX13_less_9 : decode cX13_less 9 = .ok (.iconst 0, 1) := by decide +kernel
theorem dX13_less_10 : decode cX13_less 10 = .ok (.istore 5, 2) := by decide +kernel
theorem dX13_less_12 : decode cX13_less 12 = .ok (.iload 5, 2) := by decide +kernel
theorem dX13_less_14 : decode cX13_less 14 = .ok (.iload_n 3, 1) := by decide +kernel
theorem dX13_less_15 : decode cX13_less 15 = .ok (.bipush 32, 2) := by decide +kernel
theorem dX13_less_17 : decode cX13_less 17 = .ok (.idiv, 1) := by decide +kernel
theorem dX13_less_18 : decode cX13_less 18 = .ok (.if_icmp .ge 34, 3) := by decide +kernel
theorem dX13_less_21 : decode cX13_less 21 = .ok (.iload 4, 2) := by decide +kernel
theorem dX13_less_23 : decode cX13_less 23 = .ok (.aload_n 0, 1) := by decide +kernel
theorem dX13_less_24 : decode cX13_less 24 = .ok (.getfield 35, 3) := by decide +kernel
theorem dX13_less_27 : decode cX13_less 27 = .ok (.sipush 387, 3) := by decide +kernel
theorem dX13_less_30 : decode cX13_less 30 = .ok (.sipush 625, 3) := by decide +kernel
theorem dX13_less_33 : decode cX13_less 33 = .ok (.iload_n 1, 1) := by decide +kernel
theorem dX13_less_34 : decode cX13_less 34 = .ok (.imul, 1) := by decide +kernel
theorem dX13_less_35 : decode cX13_less 35 = .ok (.iadd, 1) := by decide +kernel
theorem dX13_less_36 : decode cX13_less 36 = .ok (.iload 5, 2) := by decide +kernel
theorem dX13_less_38 : decode cX13_less 38 = .ok (.iadd, 1) := by decide +kernel
theorem dX13_less_39 : decode cX13_less 39 = .ok (.iaload, 1) := by decide +kernel
theorem dX13_less_40 : decode cX13_less 40 = .ok (.invokestatic 108, 3) := by decide +kernel
theorem dX13_less_43 : decode cX13_less 43 = .ok (.iadd, 1) := by decide +kernel
theorem dX13_less_44 : decode cX13_less 44 = .ok (.istore 4, 2) := by decide +kernel
theorem dX13_less_46 : decode cX13_less 46 = .ok (.iinc 5 1, 3) := by decide +kernel
theorem dX13_less_49 : decode cX13_less 49 = .ok (.goto (-37), 3) := by decide +kernel
theorem dX13_less_52 : decode cX13_less 52 = .ok (.iconst 1, 1) := by decide +kernel
theorem dX13_less_53 : decode cX13_less 53 = .ok (.iload_n 3, 1) := by decide +kernel
theorem dX13_less_54 : decode cX13_less 54 = .ok (.bipush 32, 2) := by decide +kernel
theorem dX13_less_56 : decode cX13_less 56 = .ok (.irem, 1) := by decide +kernel
theorem dX13_less_57 : decode cX13_less 57 = .ok (.ishl, 1) := by decide +kernel
theorem dX13_less_58 : decode cX13_less 58 = .ok (.iconst 1, 1) := by decide +kernel
theorem dX13_less_59 : decode cX13_less 59 = .ok (.isub, 1) := by decide +kernel
theorem dX13_less_60 : decode cX13_less 60 = .ok (.istore 5, 2) := by decide +kernel
theorem dX13_less_62 : decode cX13_less 62 = .ok (.iload 4, 2) := by decide +kernel
theorem dX13_less_64 : decode cX13_less 64 = .ok (.aload_n 0, 1) := by decide +kernel
theorem dX13_less_65 : decode cX13_less 65 = .ok (.getfield 35, 3) := by decide +kernel
theorem dX13_less_68 : decode cX13_less 68 = .ok (.sipush 387, 3) := by decide +kernel
theorem dX13_less_71 : decode cX13_less 71 = .ok (.sipush 625, 3) := by decide +kernel
theorem dX13_less_74 : decode cX13_less 74 = .ok (.iload_n 1, 1) := by decide +kernel
theorem dX13_less_75 : decode cX13_less 75 = .ok (.imul, 1) := by decide +kernel
theorem dX13_less_76 : decode cX13_less 76 = .ok (.iadd, 1) := by decide +kernel
theorem dX13_less_77 : decode cX13_less 77 = .ok (.iload_n 3, 1) := by decide +kernel
theorem dX13_less_78 : decode cX13_less 78 = .ok (.bipush 32, 2) := by decide +kernel
theorem dX13_less_80 : decode cX13_less 80 = .ok (.idiv, 1) := by decide +kernel
theorem dX13_less_81 : decode cX13_less 81 = .ok (.iadd, 1) := by decide +kernel
theorem dX13_less_82 : decode cX13_less 82 = .ok (.iaload, 1) := by decide +kernel
theorem dX13_less_83 : decode cX13_less 83 = .ok (.iload 5, 2) := by decide +kernel
theorem dX13_less_85 : decode cX13_less 85 = .ok (.iand, 1) := by decide +kernel
theorem dX13_less_86 : decode cX13_less 86 = .ok (.invokestatic 108, 3) := by decide +kernel
theorem dX13_less_89 : decode cX13_less 89 = .ok (.iadd, 1) := by decide +kernel
theorem dX13_less_90 : decode cX13_less 90 = .ok (.ireturn, 1) := by decide +kernel
theorem dX13_sizeIn_0 : decode cX13_sizeIn 0 = .ok (.iconst 0, 1) := by decide +kernel
theorem dX13_sizeIn_1 : decode cX13_sizeIn 1 = .ok (.istore_n 2, 1) := by decide +kernel
theorem dX13_sizeIn_2 : decode cX13_sizeIn 2 = .ok (.iconst 0, 1) := by decide +kernel
theorem dX13_sizeIn_3 : decode cX13_sizeIn 3 = .ok (.istore_n 3, 1) := by decide +kernel
theorem dX13_sizeIn_4 : decode cX13_sizeIn 4 = .ok (.iload_n 3, 1) := by decide +kernel
theorem dX13_sizeIn_5 : decode cX13_sizeIn 5 = .ok (.sipush 625, 3) := by decide +kernel
theorem dX13_sizeIn_8 : decode cX13_sizeIn 8 = .ok (.if_icmp .ge 31, 3) := by decide +kernel
theorem dX13_sizeIn_11 : decode cX13_sizeIn 11 = .ok (.iload_n 2, 1) := by decide +kernel
theorem dX13_sizeIn_12 : decode cX13_sizeIn 12 = .ok (.aload_n 0, 1) := by decide +kernel
theorem dX13_sizeIn_13 : decode cX13_sizeIn 13 = .ok (.getfield 35, 3) := by decide +kernel
theorem dX13_sizeIn_16 : decode cX13_sizeIn 16 = .ok (.sipush 387, 3) := by decide +kernel
theorem dX13_sizeIn_19 : decode cX13_sizeIn 19 = .ok (.sipush 625, 3) := by decide +kernel
theorem dX13_sizeIn_22 : decode cX13_sizeIn 22 = .ok (.iload_n 1, 1) := by decide +kernel
theorem dX13_sizeIn_23 : decode cX13_sizeIn 23 = .ok (.imul, 1) := by decide +kernel
theorem dX13_sizeIn_24 : decode cX13_sizeIn 24 = .ok (.iadd, 1) := by decide +kernel
theorem dX13_sizeIn_25 : decode cX13_sizeIn 25 = .ok (.iload_n 3, 1) := by decide +kernel
theorem dX13_sizeIn_26 : decode cX13_sizeIn 26 = .ok (.iadd, 1) := by decide +kernel
theorem dX13_sizeIn_27 : decode cX13_sizeIn 27 = .ok (.iaload, 1) := by decide +kernel
theorem dX13_sizeIn_28 : decode cX13_sizeIn 28 = .ok (.invokestatic 108, 3) := by decide +kernel
theorem dX13_sizeIn_31 : decode cX13_sizeIn 31 = .ok (.iadd, 1) := by decide +kernel
theorem dX13_sizeIn_32 : decode cX13_sizeIn 32 = .ok (.istore_n 2, 1) := by decide +kernel
theorem dX13_sizeIn_33 : decode cX13_sizeIn 33 = .ok (.iinc 3 1, 3) := by decide +kernel
theorem dX13_sizeIn_36 : decode cX13_sizeIn 36 = .ok (.goto (-32), 3) := by decide +kernel
theorem dX13_sizeIn_39 : decode cX13_sizeIn 39 = .ok (.iload_n 2, 1) := by decide +kernel
theorem dX13_sizeIn_40 : decode cX13_sizeIn 40 = .ok (.ireturn, 1) := by decide +kernel
theorem dX13_isCode_0 : decode cX13_isCode 0 = .ok (.aload_n 0, 1) := by decide +kernel
theorem dX13_isCode_1 : decode cX13_isCode 1 = .ok (.iload_n 1, 1) := by decide +kernel
theorem dX13_isCode_2 : decode cX13_isCode 2 = .ok (.invokevirtual 112, 3) := by decide +kernel
theorem dX13_isCode_5 : decode cX13_isCode 5 = .ok (.ifCond .eq 22, 3) := by decide +kernel
theorem dX13_isCode_8 : decode cX13_isCode 8 = .ok (.iload_n 2, 1) := by decide +kernel
theorem dX13_isCode_9 : decode cX13_isCode 9 = .ok (.iconst 0, 1) := by decide +kernel
theorem dX13_isCode_10 : decode cX13_isCode 10 = .ok (.aload_n 0, 1) := by decide +kernel
theorem dX13_isCode_11 : decode cX13_isCode 11 = .ok (.iload_n 1, 1) := by decide +kernel
theorem dX13_isCode_12 : decode cX13_isCode 12 = .ok (.invokevirtual 115, 3) := by decide +kernel
theorem dX13_isCode_15 : decode cX13_isCode 15 = .ok (.iconst 1, 1) := by decide +kernel
theorem dX13_isCode_16 : decode cX13_isCode 16 = .ok (.isub, 1) := by decide +kernel
theorem dX13_isCode_17 : decode cX13_isCode 17 = .ok (.invokestatic 92, 3) := by decide +kernel
theorem dX13_isCode_20 : decode cX13_isCode 20 = .ok (.ifCond .eq 7, 3) := by decide +kernel
theorem dX13_isCode_23 : decode cX13_isCode 23 = .ok (.iconst 1, 1) := by decide +kernel
theorem dX13_isCode_24 : decode cX13_isCode 24 = .ok (.goto 4, 3) := by decide +kernel
theorem dX13_isCode_27 : decode cX13_isCode 27 = .ok (.iconst 0, 1) := by decide +kernel
theorem dX13_isCode_28 : decode cX13_isCode 28 = .ok (.ireturn, 1) := by decide +kernel
theorem dX13_valueOf_0 : decode cX13_valueOf 0 = .ok (.iconst 0, 1) := by decide +kernel
theorem dX13_valueOf_1 : decode cX13_valueOf 1 = .ok (.istore_n 3, 1) := by decide +kernel
theorem dX13_valueOf_2 : decode cX13_valueOf 2 = .ok (.iload_n 2, 1) := by decide +kernel
theorem dX13_valueOf_3 : decode cX13_valueOf 3 = .ok (.istore 4, 2) := by decide +kernel
theorem dX13_valueOf_5 : decode cX13_valueOf 5 = .ok (.aload_n 0, 1) := by decide +kernel
theorem dX13_valueOf_6 : decode cX13_valueOf 6 = .ok (.getfield 35, 3) := by decide +kernel
theorem dX13_valueOf_9 : decode cX13_valueOf 9 = .ok (.sipush 387, 3) := by decide +kernel
theorem dX13_valueOf_12 : decode cX13_valueOf 12 = .ok (.sipush 625, 3) := by decide +kernel
theorem dX13_valueOf_15 : decode cX13_valueOf 15 = .ok (.iload_n 1, 1) := by decide +kernel
theorem dX13_valueOf_16 : decode cX13_valueOf 16 = .ok (.imul, 1) := by decide +kernel
theorem dX13_valueOf_17 : decode cX13_valueOf 17 = .ok (.iadd, 1) := by decide +kernel
theorem dX13_valueOf_18 : decode cX13_valueOf 18 = .ok (.iload_n 3, 1) := by decide +kernel
theorem dX13_valueOf_19 : decode cX13_valueOf 19 = .ok (.iadd, 1) := by decide +kernel
theorem dX13_valueOf_20 : decode cX13_valueOf 20 = .ok (.iaload, 1) := by decide +kernel
theorem dX13_valueOf_21 : decode cX13_valueOf 21 = .ok (.invokestatic 108, 3) := by decide +kernel
theorem dX13_valueOf_24 : decode cX13_valueOf 24 = .ok (.iload 4, 2) := by decide +kernel
theorem dX13_valueOf_26 : decode cX13_valueOf 26 = .ok (.if_icmp .gt 33, 3) := by decide +kernel
theorem dX13_valueOf_29 : decode cX13_valueOf 29 = .ok (.iload 4, 2) := by decide +kernel
theorem dX13_valueOf_31 : decode cX13_valueOf 31 = .ok (.aload_n 0, 1) := by decide +kernel
theorem dX13_valueOf_32 : decode cX13_valueOf 32 = .ok (.getfield 35, 3) := by decide +kernel
theorem dX13_valueOf_35 : decode cX13_valueOf 35 = .ok (.sipush 387, 3) := by decide +kernel
theorem dX13_valueOf_38 : decode cX13_valueOf 38 = .ok (.sipush 625, 3) := by decide +kernel
theorem dX13_valueOf_41 : decode cX13_valueOf 41 = .ok (.iload_n 1, 1) := by decide +kernel
theorem dX13_valueOf_42 : decode cX13_valueOf 42 = .ok (.imul, 1) := by decide +kernel
theorem dX13_valueOf_43 : decode cX13_valueOf 43 = .ok (.iadd, 1) := by decide +kernel
theorem dX13_valueOf_44 : decode cX13_valueOf 44 = .ok (.iload_n 3, 1) := by decide +kernel
theorem dX13_valueOf_45 : decode cX13_valueOf 45 = .ok (.iadd, 1) := by decide +kernel
theorem dX13_valueOf_46 : decode cX13_valueOf 46 = .ok (.iaload, 1) := by decide +kernel
theorem dX13_valueOf_47 : decode cX13_valueOf 47 = .ok (.invokestatic 108, 3) := by decide +kernel
theorem dX13_valueOf_50 : decode cX13_valueOf 50 = .ok (.isub, 1) := by decide +kernel
theorem dX13_valueOf_51 : decode cX13_valueOf 51 = .ok (.istore 4, 2) := by decide +kernel
theorem dX13_valueOf_53 : decode cX13_valueOf 53 = .ok (.iinc 3 1, 3) := by decide +kernel
theorem dX13_valueOf_56 : decode cX13_valueOf 56 = .ok (.goto (-51), 3) := by decide +kernel
theorem dX13_valueOf_59 : decode cX13_valueOf 59 = .ok (.iconst 0, 1) := by decide +kernel
theorem dX13_valueOf_60 : decode cX13_valueOf 60 = .ok (.istore 5, 2) := by decide +kernel
theorem dX13_valueOf_62 : decode cX13_valueOf 62 = .ok (.aload_n 0, 1) := by decide +kernel
theorem dX13_valueOf_63 : decode cX13_valueOf 63 = .ok (.getfield 35, 3) := by decide +kernel
theorem dX13_valueOf_66 : decode cX13_valueOf 66 = .ok (.sipush 387, 3) := by decide +kernel
theorem dX13_valueOf_69 : decode cX13_valueOf 69 = .ok (.sipush 625, 3) := by decide +kernel
theorem dX13_valueOf_72 : decode cX13_valueOf 72 = .ok (.iload_n 1, 1) := by decide +kernel
theorem dX13_valueOf_73 : decode cX13_valueOf 73 = .ok (.imul, 1) := by decide +kernel
theorem dX13_valueOf_74 : decode cX13_valueOf 74 = .ok (.iadd, 1) := by decide +kernel
theorem dX13_valueOf_75 : decode cX13_valueOf 75 = .ok (.iload_n 3, 1) := by decide +kernel
theorem dX13_valueOf_76 : decode cX13_valueOf 76 = .ok (.iadd, 1) := by decide +kernel
theorem dX13_valueOf_77 : decode cX13_valueOf 77 = .ok (.iaload, 1) := by decide +kernel
theorem dX13_valueOf_78 : decode cX13_valueOf 78 = .ok (.istore 6, 2) := by decide +kernel
theorem dX13_valueOf_80 : decode cX13_valueOf 80 = .ok (.iload 4, 2) := by decide +kernel
theorem dX13_valueOf_82 : decode cX13_valueOf 82 = .ok (.ifCond .gt 13, 3) := by decide +kernel
theorem dX13_valueOf_85 : decode cX13_valueOf 85 = .ok (.iload 6, 2) := by decide +kernel
theorem dX13_valueOf_87 : decode cX13_valueOf 87 = .ok (.iload 5, 2) := by decide +kernel
theorem dX13_valueOf_89 : decode cX13_valueOf 89 = .ok (.iushr, 1) := by decide +kernel
theorem dX13_valueOf_90 : decode cX13_valueOf 90 = .ok (.iconst 1, 1) := by decide +kernel
theorem dX13_valueOf_91 : decode cX13_valueOf 91 = .ok (.iand, 1) := by decide +kernel
theorem dX13_valueOf_92 : decode cX13_valueOf 92 = .ok (.ifCond .ne 21, 3) := by decide +kernel
theorem dX13_valueOf_95 : decode cX13_valueOf 95 = .ok (.iload 4, 2) := by decide +kernel
theorem dX13_valueOf_97 : decode cX13_valueOf 97 = .ok (.iload 6, 2) := by decide +kernel
theorem dX13_valueOf_99 : decode cX13_valueOf 99 = .ok (.iload 5, 2) := by decide +kernel
theorem dX13_valueOf_101 : decode cX13_valueOf 101 = .ok (.iushr, 1) := by decide +kernel
theorem dX13_valueOf_102 : decode cX13_valueOf 102 = .ok (.iconst 1, 1) := by decide +kernel
theorem dX13_valueOf_103 : decode cX13_valueOf 103 = .ok (.iand, 1) := by decide +kernel
theorem dX13_valueOf_104 : decode cX13_valueOf 104 = .ok (.isub, 1) := by decide +kernel
theorem dX13_valueOf_105 : decode cX13_valueOf 105 = .ok (.istore 4, 2) := by decide +kernel
theorem dX13_valueOf_107 : decode cX13_valueOf 107 = .ok (.iinc 5 1, 3) := by decide +kernel
theorem dX13_valueOf_110 : decode cX13_valueOf 110 = .ok (.goto (-30), 3) := by decide +kernel
theorem dX13_valueOf_113 : decode cX13_valueOf 113 = .ok (.bipush 32, 2) := by decide +kernel
theorem dX13_valueOf_115 : decode cX13_valueOf 115 = .ok (.iload_n 3, 1) := by decide +kernel
theorem dX13_valueOf_116 : decode cX13_valueOf 116 = .ok (.imul, 1) := by decide +kernel
theorem dX13_valueOf_117 : decode cX13_valueOf 117 = .ok (.iload 5, 2) := by decide +kernel
theorem dX13_valueOf_119 : decode cX13_valueOf 119 = .ok (.iadd, 1) := by decide +kernel
theorem dX13_valueOf_120 : decode cX13_valueOf 120 = .ok (.sipush 9999, 3) := by decide +kernel
theorem dX13_valueOf_123 : decode cX13_valueOf 123 = .ok (.isub, 1) := by decide +kernel
theorem dX13_valueOf_124 : decode cX13_valueOf 124 = .ok (.ireturn, 1) := by decide +kernel
theorem dX13_codeAt_0 : decode cX13_codeAt 0 = .ok (.aload_n 0, 1) := by decide +kernel
theorem dX13_codeAt_1 : decode cX13_codeAt 1 = .ok (.iload_n 1, 1) := by decide +kernel
theorem dX13_codeAt_2 : decode cX13_codeAt 2 = .ok (.aload_n 0, 1) := by decide +kernel
theorem dX13_codeAt_3 : decode cX13_codeAt 3 = .ok (.iload_n 1, 1) := by decide +kernel
theorem dX13_codeAt_4 : decode cX13_codeAt 4 = .ok (.iload_n 2, 1) := by decide +kernel
theorem dX13_codeAt_5 : decode cX13_codeAt 5 = .ok (.invokevirtual 118, 3) := by decide +kernel
theorem dX13_codeAt_8 : decode cX13_codeAt 8 = .ok (.invokevirtual 121, 3) := by decide +kernel
theorem dX13_codeAt_11 : decode cX13_codeAt 11 = .ok (.ireturn, 1) := by decide +kernel
theorem dX13_countValue_0 : decode cX13_countValue 0 = .ok (.iconst 0, 1) := by decide +kernel
theorem dX13_countValue_1 : decode cX13_countValue 1 = .ok (.istore_n 3, 1) := by decide +kernel
theorem dX13_countValue_2 : decode cX13_countValue 2 = .ok (.iconst 0, 1) := by decide +kernel
theorem dX13_countValue_3 : decode cX13_countValue 3 = .ok (.istore 4, 2) := by decide +kernel
theorem dX13_countValue_5 : decode cX13_countValue 5 = .ok (.iload 4, 2) := by decide +kernel
theorem dX13_countValue_7 : decode cX13_countValue 7 = .ok (.aload_n 0, 1) := by decide +kernel
theorem dX13_countValue_8 : decode cX13_countValue 8 = .ok (.getfield 35, 3) := by decide +kernel
theorem dX13_countValue_11 : decode cX13_countValue 11 = .ok (.iconst 1, 1) := by decide +kernel
theorem dX13_countValue_12 : decode cX13_countValue 12 = .ok (.iaload, 1) := by decide +kernel
theorem dX13_countValue_13 : decode cX13_countValue 13 = .ok (.if_icmp .ge 28, 3) := by decide +kernel
theorem dX13_countValue_16 : decode cX13_countValue 16 = .ok (.iload_n 3, 1) := by decide +kernel
theorem dX13_countValue_17 : decode cX13_countValue 17 = .ok (.aload_n 0, 1) := by decide +kernel
theorem dX13_countValue_18 : decode cX13_countValue 18 = .ok (.iload_n 1, 1) := by decide +kernel
theorem dX13_countValue_19 : decode cX13_countValue 19 = .ok (.iload 4, 2) := by decide +kernel
theorem dX13_countValue_21 : decode cX13_countValue 21 = .ok (.invokevirtual 118, 3) := by decide +kernel
theorem dX13_countValue_24 : decode cX13_countValue 24 = .ok (.iload_n 2, 1) := by decide +kernel
theorem dX13_countValue_25 : decode cX13_countValue 25 = .ok (.if_icmp .ne 7, 3) := by decide +kernel
theorem dX13_countValue_28 : decode cX13_countValue 28 = .ok (.iconst 1, 1) := by decide +kernel
theorem dX13_countValue_29 : decode cX13_countValue 29 = .ok (.goto 4, 3) := by decide +kernel
theorem dX13_countValue_32 : decode cX13_countValue 32 = .ok (.iconst 0, 1) := by decide +kernel
theorem dX13_countValue_33 : decode cX13_countValue 33 = .ok (.iadd, 1) := by decide +kernel
theorem dX13_countValue_34 : decode cX13_countValue 34 = .ok (.istore_n 3, 1) := by decide +kernel
theorem dX13_countValue_35 : decode cX13_countValue 35 = .ok (.iinc 4 1, 3) := by decide +kernel
theorem dX13_countValue_38 : decode cX13_countValue 38 = .ok (.goto (-33), 3) := by decide +kernel
theorem dX13_countValue_41 : decode cX13_countValue 41 = .ok (.iload_n 3, 1) := by decide +kernel
theorem dX13_countValue_42 : decode cX13_countValue 42 = .ok (.ireturn, 1) := by decide +kernel
theorem dX13_countUsed_0 : decode cX13_countUsed 0 = .ok (.iconst 0, 1) := by decide +kernel
theorem dX13_countUsed_1 : decode cX13_countUsed 1 = .ok (.istore_n 2, 1) := by decide +kernel
theorem dX13_countUsed_2 : decode cX13_countUsed 2 = .ok (.iconst 0, 1) := by decide +kernel
theorem dX13_countUsed_3 : decode cX13_countUsed 3 = .ok (.istore_n 3, 1) := by decide +kernel
theorem dX13_countUsed_4 : decode cX13_countUsed 4 = .ok (.iload_n 3, 1) := by decide +kernel
theorem dX13_countUsed_5 : decode cX13_countUsed 5 = .ok (.aload_n 0, 1) := by decide +kernel
theorem dX13_countUsed_6 : decode cX13_countUsed 6 = .ok (.getfield 35, 3) := by decide +kernel
theorem dX13_countUsed_9 : decode cX13_countUsed 9 = .ok (.iconst 1, 1) := by decide +kernel
theorem dX13_countUsed_10 : decode cX13_countUsed 10 = .ok (.iaload, 1) := by decide +kernel
theorem dX13_countUsed_11 : decode cX13_countUsed 11 = .ok (.if_icmp .ge 26, 3) := by decide +kernel
theorem dX13_countUsed_14 : decode cX13_countUsed 14 = .ok (.iload_n 2, 1) := by decide +kernel
theorem dX13_countUsed_15 : decode cX13_countUsed 15 = .ok (.aload_n 0, 1) := by decide +kernel
theorem dX13_countUsed_16 : decode cX13_countUsed 16 = .ok (.iload_n 1, 1) := by decide +kernel
theorem dX13_countUsed_17 : decode cX13_countUsed 17 = .ok (.iload_n 3, 1) := by decide +kernel
theorem dX13_countUsed_18 : decode cX13_countUsed 18 = .ok (.invokevirtual 123, 3) := by decide +kernel
theorem dX13_countUsed_21 : decode cX13_countUsed 21 = .ok (.ifCond .eq 7, 3) := by decide +kernel
theorem dX13_countUsed_24 : decode cX13_countUsed 24 = .ok (.iconst 1, 1) := by decide +kernel
theorem dX13_countUsed_25 : decode cX13_countUsed 25 = .ok (.goto 4, 3) := by decide +kernel
theorem dX13_countUsed_28 : decode cX13_countUsed 28 = .ok (.iconst 0, 1) := by decide +kernel
theorem dX13_countUsed_29 : decode cX13_countUsed 29 = .ok (.iadd, 1) := by decide +kernel
theorem dX13_countUsed_30 : decode cX13_countUsed 30 = .ok (.istore_n 2, 1) := by decide +kernel
theorem dX13_countUsed_31 : decode cX13_countUsed 31 = .ok (.iinc 3 1, 3) := by decide +kernel
theorem dX13_countUsed_34 : decode cX13_countUsed 34 = .ok (.goto (-30), 3) := by decide +kernel
theorem dX13_countUsed_37 : decode cX13_countUsed 37 = .ok (.iload_n 2, 1) := by decide +kernel
theorem dX13_countUsed_38 : decode cX13_countUsed 38 = .ok (.ireturn, 1) := by decide +kernel
theorem dX13_isFirst_0 : decode cX13_isFirst 0 = .ok (.iconst 0, 1) := by decide +kernel
theorem dX13_isFirst_1 : decode cX13_isFirst 1 = .ok (.istore_n 3, 1) := by decide +kernel
theorem dX13_isFirst_2 : decode cX13_isFirst 2 = .ok (.iload_n 3, 1) := by decide +kernel
theorem dX13_isFirst_3 : decode cX13_isFirst 3 = .ok (.iload_n 2, 1) := by decide +kernel
theorem dX13_isFirst_4 : decode cX13_isFirst 4 = .ok (.if_icmp .ge 26, 3) := by decide +kernel
theorem dX13_isFirst_7 : decode cX13_isFirst 7 = .ok (.aload_n 0, 1) := by decide +kernel
theorem dX13_isFirst_8 : decode cX13_isFirst 8 = .ok (.iload_n 1, 1) := by decide +kernel
theorem dX13_isFirst_9 : decode cX13_isFirst 9 = .ok (.iload_n 3, 1) := by decide +kernel
theorem dX13_isFirst_10 : decode cX13_isFirst 10 = .ok (.invokevirtual 118, 3) := by decide +kernel
theorem dX13_isFirst_13 : decode cX13_isFirst 13 = .ok (.aload_n 0, 1) := by decide +kernel
theorem dX13_isFirst_14 : decode cX13_isFirst 14 = .ok (.iload_n 1, 1) := by decide +kernel
theorem dX13_isFirst_15 : decode cX13_isFirst 15 = .ok (.iload_n 2, 1) := by decide +kernel
theorem dX13_isFirst_16 : decode cX13_isFirst 16 = .ok (.invokevirtual 118, 3) := by decide +kernel
theorem dX13_isFirst_19 : decode cX13_isFirst 19 = .ok (.if_icmp .ne 5, 3) := by decide +kernel
theorem dX13_isFirst_22 : decode cX13_isFirst 22 = .ok (.iconst 0, 1) := by decide +kernel
theorem dX13_isFirst_23 : decode cX13_isFirst 23 = .ok (.ireturn, 1) := by decide +kernel
theorem dX13_isFirst_24 : decode cX13_isFirst 24 = .ok (.iinc 3 1, 3) := by decide +kernel
theorem dX13_isFirst_27 : decode cX13_isFirst 27 = .ok (.goto (-25), 3) := by decide +kernel
theorem dX13_isFirst_30 : decode cX13_isFirst 30 = .ok (.iconst 1, 1) := by decide +kernel
theorem dX13_isFirst_31 : decode cX13_isFirst 31 = .ok (.ireturn, 1) := by decide +kernel
theorem dX13_columnCount_0 : decode cX13_columnCount 0 = .ok (.aload_n 0, 1) := by decide +kernel
theorem dX13_columnCount_1 : decode cX13_columnCount 1 = .ok (.iconst 0, 1) := by decide +kernel
theorem dX13_columnCount_2 : decode cX13_columnCount 2 = .ok (.putfield 85, 3) := by decide +kernel
theorem dX13_columnCount_5 : decode cX13_columnCount 5 = .ok (.aload_n 0, 1) := by decide +kernel
theorem dX13_columnCount_6 : decode cX13_columnCount 6 = .ok (.getfield 35, 3) := by decide +kernel
theorem dX13_columnCount_9 : decode cX13_columnCount 9 = .ok (.iconst 0, 1) := by decide +kernel
theorem dX13_columnCount_10 : decode cX13_columnCount 10 = .ok (.iaload, 1) := by decide +kernel
theorem dX13_columnCount_11 : decode cX13_columnCount 11 = .ok (.ireturn, 1) := by decide +kernel
theorem dX13_rowCount_0 : decode cX13_rowCount 0 = .ok (.aload_n 0, 1) := by decide +kernel
theorem dX13_rowCount_1 : decode cX13_rowCount 1 = .ok (.iconst 0, 1) := by decide +kernel
theorem dX13_rowCount_2 : decode cX13_rowCount 2 = .ok (.putfield 85, 3) := by decide +kernel
theorem dX13_rowCount_5 : decode cX13_rowCount 5 = .ok (.aload_n 0, 1) := by decide +kernel
theorem dX13_rowCount_6 : decode cX13_rowCount 6 = .ok (.getfield 35, 3) := by decide +kernel
theorem dX13_rowCount_9 : decode cX13_rowCount 9 = .ok (.iconst 1, 1) := by decide +kernel
theorem dX13_rowCount_10 : decode cX13_rowCount 10 = .ok (.iaload, 1) := by decide +kernel
theorem dX13_rowCount_11 : decode cX13_rowCount 11 = .ok (.ireturn, 1) := by decide +kernel
theorem dX13_isCell_0 : decode cX13_isCell 0 = .ok (.aload_n 0, 1) := by decide +kernel
theorem dX13_isCell_1 : decode cX13_isCell 1 = .ok (.iload_n 1, 1) := by decide +kernel
theorem dX13_isCell_2 : decode cX13_isCell 2 = .ok (.invokevirtual 112, 3) := by decide +kernel
theorem dX13_isCell_5 : decode cX13_isCell 5 = .ok (.ifCond .eq 15, 3) := by decide +kernel
theorem dX13_isCell_8 : decode cX13_isCell 8 = .ok (.aload_n 0, 1) := by decide +kernel
theorem dX13_isCell_9 : decode cX13_isCell 9 = .ok (.iload_n 2, 1) := by decide +kernel
theorem dX13_isCell_10 : decode cX13_isCell 10 = .ok (.invokevirtual 127, 3) := by decide +kernel
theorem dX13_isCell_13 : decode cX13_isCell 13 = .ok (.ifCond .eq 7, 3) := by decide +kernel
theorem dX13_isCell_16 : decode cX13_isCell 16 = .ok (.iconst 1, 1) := by decide +kernel
theorem dX13_isCell_17 : decode cX13_isCell 17 = .ok (.goto 4, 3) := by decide +kernel
theorem dX13_isCell_20 : decode cX13_isCell 20 = .ok (.iconst 0, 1) := by decide +kernel
theorem dX13_isCell_21 : decode cX13_isCell 21 = .ok (.ireturn, 1) := by decide +kernel
theorem dX13_value_0 : decode cX13_value 0 = .ok (.aload_n 0, 1) := by decide +kernel
theorem dX13_value_1 : decode cX13_value 1 = .ok (.aload_n 0, 1) := by decide +kernel
theorem dX13_value_2 : decode cX13_value 2 = .ok (.iload_n 1, 1) := by decide +kernel
theorem dX13_value_3 : decode cX13_value 3 = .ok (.iload_n 2, 1) := by decide +kernel
theorem dX13_value_4 : decode cX13_value 4 = .ok (.invokevirtual 130, 3) := by decide +kernel
theorem dX13_value_7 : decode cX13_value 7 = .ok (.invokevirtual 88, 3) := by decide +kernel
theorem dX13_value_10 : decode cX13_value 10 = .ok (.ifCond .eq 7, 3) := by decide +kernel
theorem dX13_value_13 : decode cX13_value 13 = .ok (.iconst 0, 1) := by decide +kernel
theorem dX13_value_14 : decode cX13_value 14 = .ok (.goto 9, 3) := by decide +kernel
theorem dX13_value_17 : decode cX13_value 17 = .ok (.aload_n 0, 1) := by decide +kernel
theorem dX13_value_18 : decode cX13_value 18 = .ok (.iload_n 1, 1) := by decide +kernel
theorem dX13_value_19 : decode cX13_value 19 = .ok (.iload_n 2, 1) := by decide +kernel
theorem dX13_value_20 : decode cX13_value 20 = .ok (.invokevirtual 118, 3) := by decide +kernel
theorem dX13_value_23 : decode cX13_value 23 = .ok (.ireturn, 1) := by decide +kernel
theorem dX13_code_0 : decode cX13_code 0 = .ok (.aload_n 0, 1) := by decide +kernel
theorem dX13_code_1 : decode cX13_code 1 = .ok (.aload_n 0, 1) := by decide +kernel
theorem dX13_code_2 : decode cX13_code 2 = .ok (.iload_n 1, 1) := by decide +kernel
theorem dX13_code_3 : decode cX13_code 3 = .ok (.iload_n 2, 1) := by decide +kernel
theorem dX13_code_4 : decode cX13_code 4 = .ok (.invokevirtual 130, 3) := by decide +kernel
theorem dX13_code_7 : decode cX13_code 7 = .ok (.invokevirtual 88, 3) := by decide +kernel
theorem dX13_code_10 : decode cX13_code 10 = .ok (.ifCond .eq 7, 3) := by decide +kernel
theorem dX13_code_13 : decode cX13_code 13 = .ok (.iconst 0, 1) := by decide +kernel
theorem dX13_code_14 : decode cX13_code 14 = .ok (.goto 9, 3) := by decide +kernel
theorem dX13_code_17 : decode cX13_code 17 = .ok (.aload_n 0, 1) := by decide +kernel
theorem dX13_code_18 : decode cX13_code 18 = .ok (.iload_n 1, 1) := by decide +kernel
theorem dX13_code_19 : decode cX13_code 19 = .ok (.iload_n 2, 1) := by decide +kernel
theorem dX13_code_20 : decode cX13_code 20 = .ok (.invokevirtual 133, 3) := by decide +kernel
theorem dX13_code_23 : decode cX13_code 23 = .ok (.ireturn, 1) := by decide +kernel
theorem dX13_dictionarySize_0 : decode cX13_dictionarySize 0 = .ok (.aload_n 0, 1) := by decide +kernel
theorem dX13_dictionarySize_1 : decode cX13_dictionarySize 1 = .ok (.aload_n 0, 1) := by decide +kernel
theorem dX13_dictionarySize_2 : decode cX13_dictionarySize 2 = .ok (.iload_n 1, 1) := by decide +kernel
theorem dX13_dictionarySize_3 : decode cX13_dictionarySize 3 = .ok (.invokevirtual 112, 3) := by decide +kernel
theorem dX13_dictionarySize_6 : decode cX13_dictionarySize 6 = .ok (.invokevirtual 88, 3) := by decide +kernel
theorem dX13_dictionarySize_9 : decode cX13_dictionarySize 9 = .ok (.ifCond .eq 7, 3) := by decide +kernel
theorem dX13_dictionarySize_12 : decode cX13_dictionarySize 12 = .ok (.iconst 0, 1) := by decide +kernel
theorem dX13_dictionarySize_13 : decode cX13_dictionarySize 13 = .ok (.goto 8, 3) := by decide +kernel
theorem dX13_dictionarySize_16 : decode cX13_dictionarySize 16 = .ok (.aload_n 0, 1) := by decide +kernel
theorem dX13_dictionarySize_17 : decode cX13_dictionarySize 17 = .ok (.iload_n 1, 1) := by decide +kernel
theorem dX13_dictionarySize_18 : decode cX13_dictionarySize 18 = .ok (.invokevirtual 115, 3) := by decide +kernel
theorem dX13_dictionarySize_21 : decode cX13_dictionarySize 21 = .ok (.ireturn, 1) := by decide +kernel
theorem dX13_dictionaryValue_0 : decode cX13_dictionaryValue 0 = .ok (.aload_n 0, 1) := by decide +kernel
theorem dX13_dictionaryValue_1 : decode cX13_dictionaryValue 1 = .ok (.aload_n 0, 1) := by decide +kernel
theorem dX13_dictionaryValue_2 : decode cX13_dictionaryValue 2 = .ok (.iload_n 1, 1) := by decide +kernel
theorem dX13_dictionaryValue_3 : decode cX13_dictionaryValue 3 = .ok (.iload_n 2, 1) := by decide +kernel
theorem dX13_dictionaryValue_4 : decode cX13_dictionaryValue 4 = .ok (.invokevirtual 136, 3) := by decide +kernel
theorem dX13_dictionaryValue_7 : decode cX13_dictionaryValue 7 = .ok (.invokevirtual 88, 3) := by decide +kernel
theorem dX13_dictionaryValue_10 : decode cX13_dictionaryValue 10 = .ok (.ifCond .eq 7, 3) := by decide +kernel
theorem dX13_dictionaryValue_13 : decode cX13_dictionaryValue 13 = .ok (.iconst 0, 1) := by decide +kernel
theorem dX13_dictionaryValue_14 : decode cX13_dictionaryValue 14 = .ok (.goto 9, 3) := by decide +kernel
theorem dX13_dictionaryValue_17 : decode cX13_dictionaryValue 17 = .ok (.aload_n 0, 1) := by decide +kernel
theorem dX13_dictionaryValue_18 : decode cX13_dictionaryValue 18 = .ok (.iload_n 1, 1) := by decide +kernel
theorem dX13_dictionaryValue_19 : decode cX13_dictionaryValue 19 = .ok (.iload_n 2, 1) := by decide +kernel
theorem dX13_dictionaryValue_20 : decode cX13_dictionaryValue 20 = .ok (.invokevirtual 139, 3) := by decide +kernel
theorem dX13_dictionaryValue_23 : decode cX13_dictionaryValue 23 = .ok (.ireturn, 1) := by decide +kernel
theorem dX13_findCode_0 : decode cX13_findCode 0 = .ok (.aload_n 0, 1) := by decide +kernel
theorem dX13_findCode_1 : decode cX13_findCode 1 = .ok (.aload_n 0, 1) := by decide +kernel
theorem dX13_findCode_2 : decode cX13_findCode 2 = .ok (.iload_n 1, 1) := by decide +kernel
theorem dX13_findCode_3 : decode cX13_findCode 3 = .ok (.invokevirtual 112, 3) := by decide +kernel
theorem dX13_findCode_6 : decode cX13_findCode 6 = .ok (.invokevirtual 88, 3) := by decide +kernel
theorem dX13_findCode_9 : decode cX13_findCode 9 = .ok (.ifCond .eq 5, 3) := by decide +kernel
theorem dX13_findCode_12 : decode cX13_findCode 12 = .ok (.iconst 0, 1) := by decide +kernel
theorem dX13_findCode_13 : decode cX13_findCode 13 = .ok (.ireturn, 1) := by decide +kernel
theorem dX13_findCode_14 : decode cX13_findCode 14 = .ok (.aload_n 0, 1) := by decide +kernel
theorem dX13_findCode_15 : decode cX13_findCode 15 = .ok (.iload_n 1, 1) := by decide +kernel
theorem dX13_findCode_16 : decode cX13_findCode 16 = .ok (.iload_n 2, 1) := by decide +kernel
theorem dX13_findCode_17 : decode cX13_findCode 17 = .ok (.invokevirtual 142, 3) := by decide +kernel
theorem dX13_findCode_20 : decode cX13_findCode 20 = .ok (.ifCond .eq 12, 3) := by decide +kernel
theorem dX13_findCode_23 : decode cX13_findCode 23 = .ok (.aload_n 0, 1) := by decide +kernel
theorem dX13_findCode_24 : decode cX13_findCode 24 = .ok (.iload_n 1, 1) := by decide +kernel
theorem dX13_findCode_25 : decode cX13_findCode 25 = .ok (.iload_n 2, 1) := by decide +kernel
theorem dX13_findCode_26 : decode cX13_findCode 26 = .ok (.invokevirtual 121, 3) := by decide +kernel
theorem dX13_findCode_29 : decode cX13_findCode 29 = .ok (.goto 4, 3) := by decide +kernel
theorem dX13_findCode_32 : decode cX13_findCode 32 = .ok (.iconst (-1), 1) := by decide +kernel
theorem dX13_findCode_33 : decode cX13_findCode 33 = .ok (.ireturn, 1) := by decide +kernel
theorem dX13_staleCount_0 : decode cX13_staleCount 0 = .ok (.aload_n 0, 1) := by decide +kernel
theorem dX13_staleCount_1 : decode cX13_staleCount 1 = .ok (.aload_n 0, 1) := by decide +kernel
theorem dX13_staleCount_2 : decode cX13_staleCount 2 = .ok (.iload_n 1, 1) := by decide +kernel
theorem dX13_staleCount_3 : decode cX13_staleCount 3 = .ok (.invokevirtual 112, 3) := by decide +kernel
theorem dX13_staleCount_6 : decode cX13_staleCount 6 = .ok (.invokevirtual 88, 3) := by decide +kernel
theorem dX13_staleCount_9 : decode cX13_staleCount 9 = .ok (.ifCond .eq 7, 3) := by decide +kernel
theorem dX13_staleCount_12 : decode cX13_staleCount 12 = .ok (.iconst 0, 1) := by decide +kernel
theorem dX13_staleCount_13 : decode cX13_staleCount 13 = .ok (.goto 14, 3) := by decide +kernel
theorem dX13_staleCount_16 : decode cX13_staleCount 16 = .ok (.aload_n 0, 1) := by decide +kernel
theorem dX13_staleCount_17 : decode cX13_staleCount 17 = .ok (.iload_n 1, 1) := by decide +kernel
theorem dX13_staleCount_18 : decode cX13_staleCount 18 = .ok (.invokevirtual 115, 3) := by decide +kernel
theorem dX13_staleCount_21 : decode cX13_staleCount 21 = .ok (.aload_n 0, 1) := by decide +kernel
theorem dX13_staleCount_22 : decode cX13_staleCount 22 = .ok (.iload_n 1, 1) := by decide +kernel
theorem dX13_staleCount_23 : decode cX13_staleCount 23 = .ok (.invokevirtual 145, 3) := by decide +kernel
theorem dX13_staleCount_26 : decode cX13_staleCount 26 = .ok (.isub, 1) := by decide +kernel
theorem dX13_staleCount_27 : decode cX13_staleCount 27 = .ok (.ireturn, 1) := by decide +kernel
theorem dX13_frequency_0 : decode cX13_frequency 0 = .ok (.aload_n 0, 1) := by decide +kernel
theorem dX13_frequency_1 : decode cX13_frequency 1 = .ok (.aload_n 0, 1) := by decide +kernel
theorem dX13_frequency_2 : decode cX13_frequency 2 = .ok (.iload_n 1, 1) := by decide +kernel
theorem dX13_frequency_3 : decode cX13_frequency 3 = .ok (.iload_n 2, 1) := by decide +kernel
theorem dX13_frequency_4 : decode cX13_frequency 4 = .ok (.invokevirtual 136, 3) := by decide +kernel
theorem dX13_frequency_7 : decode cX13_frequency 7 = .ok (.invokevirtual 88, 3) := by decide +kernel
theorem dX13_frequency_10 : decode cX13_frequency 10 = .ok (.ifCond .eq 7, 3) := by decide +kernel
theorem dX13_frequency_13 : decode cX13_frequency 13 = .ok (.iconst 0, 1) := by decide +kernel
theorem dX13_frequency_14 : decode cX13_frequency 14 = .ok (.goto 14, 3) := by decide +kernel
theorem dX13_frequency_17 : decode cX13_frequency 17 = .ok (.aload_n 0, 1) := by decide +kernel
theorem dX13_frequency_18 : decode cX13_frequency 18 = .ok (.iload_n 1, 1) := by decide +kernel
theorem dX13_frequency_19 : decode cX13_frequency 19 = .ok (.aload_n 0, 1) := by decide +kernel
theorem dX13_frequency_20 : decode cX13_frequency 20 = .ok (.iload_n 1, 1) := by decide +kernel
theorem dX13_frequency_21 : decode cX13_frequency 21 = .ok (.iload_n 2, 1) := by decide +kernel
theorem dX13_frequency_22 : decode cX13_frequency 22 = .ok (.invokevirtual 139, 3) := by decide +kernel
theorem dX13_frequency_25 : decode cX13_frequency 25 = .ok (.invokevirtual 148, 3) := by decide +kernel
theorem dX13_frequency_28 : decode cX13_frequency 28 = .ok (.ireturn, 1) := by decide +kernel
theorem dX13_commonestCode_0 : decode cX13_commonestCode 0 = .ok (.aload_n 0, 1) := by decide +kernel
theorem dX13_commonestCode_1 : decode cX13_commonestCode 1 = .ok (.aload_n 0, 1) := by decide +kernel
theorem dX13_commonestCode_2 : decode cX13_commonestCode 2 = .ok (.iload_n 1, 1) := by decide +kernel
theorem dX13_commonestCode_3 : decode cX13_commonestCode 3 = .ok (.invokevirtual 112, 3) := by decide +kernel
theorem dX13_commonestCode_6 : decode cX13_commonestCode 6 = .ok (.invokevirtual 88, 3) := by decide +kernel
theorem dX13_commonestCode_9 : decode cX13_commonestCode 9 = .ok (.ifCond .eq 5, 3) := by decide +kernel
theorem dX13_commonestCode_12 : decode cX13_commonestCode 12 = .ok (.iconst 0, 1) := by decide +kernel
theorem dX13_commonestCode_13 : decode cX13_commonestCode 13 = .ok (.ireturn, 1) := by decide +kernel
theorem dX13_commonestCode_14 : decode cX13_commonestCode 14 = .ok (.iconst (-1), 1) := by decide +kernel
theorem dX13_commonestCode_15 : decode cX13_commonestCode 15 = .ok (.istore_n 2, 1) := by decide +kernel
theorem dX13_commonestCode_16 : decode cX13_commonestCode 16 = .ok (.iconst 0, 1) := by decide +kernel
theorem dX13_commonestCode_17 : decode cX13_commonestCode 17 = .ok (.istore_n 3, 1) := by decide +kernel
theorem dX13_commonestCode_18 : decode cX13_commonestCode 18 = .ok (.iload_n 3, 1) := by decide +kernel
theorem dX13_commonestCode_19 : decode cX13_commonestCode 19 = .ok (.aload_n 0, 1) := by decide +kernel
theorem dX13_commonestCode_20 : decode cX13_commonestCode 20 = .ok (.getfield 35, 3) := by decide +kernel
theorem dX13_commonestCode_23 : decode cX13_commonestCode 23 = .ok (.iconst 1, 1) := by decide +kernel
theorem dX13_commonestCode_24 : decode cX13_commonestCode 24 = .ok (.iaload, 1) := by decide +kernel
theorem dX13_commonestCode_25 : decode cX13_commonestCode 25 = .ok (.if_icmp .ge 86, 3) := by decide +kernel
theorem dX13_commonestCode_28 : decode cX13_commonestCode 28 = .ok (.iload_n 2, 1) := by decide +kernel
theorem dX13_commonestCode_29 : decode cX13_commonestCode 29 = .ok (.iconst (-1), 1) := by decide +kernel
theorem dX13_commonestCode_30 : decode cX13_commonestCode 30 = .ok (.if_icmp .ne 7, 3) := by decide +kernel
theorem dX13_commonestCode_33 : decode cX13_commonestCode 33 = .ok (.iconst 1, 1) := by decide +kernel
theorem dX13_commonestCode_34 : decode cX13_commonestCode 34 = .ok (.goto 26, 3) := by decide +kernel
theorem dX13_commonestCode_37 : decode cX13_commonestCode 37 = .ok (.aload_n 0, 1) := by decide +kernel
theorem dX13_commonestCode_38 : decode cX13_commonestCode 38 = .ok (.iload_n 1, 1) := by decide +kernel
theorem dX13_commonestCode_39 : decode cX13_commonestCode 39 = .ok (.aload_n 0, 1) := by decide +kernel
theorem dX13_commonestCode_40 : decode cX13_commonestCode 40 = .ok (.iload_n 1, 1) := by decide +kernel
theorem dX13_commonestCode_41 : decode cX13_commonestCode 41 = .ok (.iload_n 3, 1) := by decide +kernel
theorem dX13_commonestCode_42 : decode cX13_commonestCode 42 = .ok (.invokevirtual 118, 3) := by decide +kernel
theorem dX13_commonestCode_45 : decode cX13_commonestCode 45 = .ok (.invokevirtual 148, 3) := by decide +kernel
theorem dX13_commonestCode_48 : decode cX13_commonestCode 48 = .ok (.aload_n 0, 1) := by decide +kernel
theorem dX13_commonestCode_49 : decode cX13_commonestCode 49 = .ok (.iload_n 1, 1) := by decide +kernel
theorem dX13_commonestCode_50 : decode cX13_commonestCode 50 = .ok (.aload_n 0, 1) := by decide +kernel
theorem dX13_commonestCode_51 : decode cX13_commonestCode 51 = .ok (.iload_n 1, 1) := by decide +kernel
theorem dX13_commonestCode_52 : decode cX13_commonestCode 52 = .ok (.iload_n 2, 1) := by decide +kernel
theorem dX13_commonestCode_53 : decode cX13_commonestCode 53 = .ok (.invokevirtual 118, 3) := by decide +kernel
theorem dX13_commonestCode_56 : decode cX13_commonestCode 56 = .ok (.invokevirtual 148, 3) := by decide +kernel
theorem dX13_commonestCode_59 : decode cX13_commonestCode 59 = .ok (.isub, 1) := by decide +kernel
theorem dX13_commonestCode_60 : decode cX13_commonestCode 60 = .ok (.istore 4, 2) := by decide +kernel
theorem dX13_commonestCode_62 : decode cX13_commonestCode 62 = .ok (.iload 4, 2) := by decide +kernel
theorem dX13_commonestCode_64 : decode cX13_commonestCode 64 = .ok (.ifCond .gt 23, 3) := by decide +kernel
theorem dX13_commonestCode_67 : decode cX13_commonestCode 67 = .ok (.iload 4, 2) := by decide +kernel
theorem dX13_commonestCode_69 : decode cX13_commonestCode 69 = .ok (.ifCond .ne 22, 3) := by decide +kernel
theorem dX13_commonestCode_72 : decode cX13_commonestCode 72 = .ok (.aload_n 0, 1) := by decide +kernel
theorem dX13_commonestCode_73 : decode cX13_commonestCode 73 = .ok (.iload_n 1, 1) := by decide +kernel
theorem dX13_commonestCode_74 : decode cX13_commonestCode 74 = .ok (.iload_n 3, 1) := by decide +kernel
theorem dX13_commonestCode_75 : decode cX13_commonestCode 75 = .ok (.invokevirtual 118, 3) := by decide +kernel
theorem dX13_commonestCode_78 : decode cX13_commonestCode 78 = .ok (.aload_n 0, 1) := by decide +kernel
theorem dX13_commonestCode_79 : decode cX13_commonestCode 79 = .ok (.iload_n 1, 1) := by decide +kernel
theorem dX13_commonestCode_80 : decode cX13_commonestCode 80 = .ok (.iload_n 2, 1) := by decide +kernel
theorem dX13_commonestCode_81 : decode cX13_commonestCode 81 = .ok (.invokevirtual 118, 3) := by decide +kernel
theorem dX13_commonestCode_84 : decode cX13_commonestCode 84 = .ok (.if_icmp .ge 7, 3) := by decide +kernel
theorem dX13_commonestCode_87 : decode cX13_commonestCode 87 = .ok (.iconst 1, 1) := by decide +kernel
theorem dX13_commonestCode_88 : decode cX13_commonestCode 88 = .ok (.goto 4, 3) := by decide +kernel
theorem dX13_commonestCode_91 : decode cX13_commonestCode 91 = .ok (.iconst 0, 1) := by decide +kernel
theorem dX13_commonestCode_92 : decode cX13_commonestCode 92 = .ok (.istore 5, 2) := by decide +kernel
theorem dX13_commonestCode_94 : decode cX13_commonestCode 94 = .ok (.iload 5, 2) := by decide +kernel
theorem dX13_commonestCode_96 : decode cX13_commonestCode 96 = .ok (.ifCond .eq 7, 3) := by decide +kernel
theorem dX13_commonestCode_99 : decode cX13_commonestCode 99 = .ok (.iload_n 3, 1) := by decide +kernel
theorem dX13_commonestCode_100 : decode cX13_commonestCode 100 = .ok (.goto 4, 3) := by decide +kernel
theorem dX13_commonestCode_103 : decode cX13_commonestCode 103 = .ok (.iload_n 2, 1) := by decide +kernel
theorem dX13_commonestCode_104 : decode cX13_commonestCode 104 = .ok (.istore_n 2, 1) := by decide +kernel
theorem dX13_commonestCode_105 : decode cX13_commonestCode 105 = .ok (.iinc 3 1, 3) := by decide +kernel
theorem dX13_commonestCode_108 : decode cX13_commonestCode 108 = .ok (.goto (-90), 3) := by decide +kernel
theorem dX13_commonestCode_111 : decode cX13_commonestCode 111 = .ok (.iload_n 2, 1) := by decide +kernel
theorem dX13_commonestCode_112 : decode cX13_commonestCode 112 = .ok (.iconst (-1), 1) := by decide +kernel
theorem dX13_commonestCode_113 : decode cX13_commonestCode 113 = .ok (.if_icmp .ne 7, 3) := by decide +kernel
theorem dX13_commonestCode_116 : decode cX13_commonestCode 116 = .ok (.iconst (-1), 1) := by decide +kernel
theorem dX13_commonestCode_117 : decode cX13_commonestCode 117 = .ok (.goto 9, 3) := by decide +kernel
theorem dX13_commonestCode_120 : decode cX13_commonestCode 120 = .ok (.aload_n 0, 1) := by decide +kernel
theorem dX13_commonestCode_121 : decode cX13_commonestCode 121 = .ok (.iload_n 1, 1) := by decide +kernel
theorem dX13_commonestCode_122 : decode cX13_commonestCode 122 = .ok (.iload_n 2, 1) := by decide +kernel
theorem dX13_commonestCode_123 : decode cX13_commonestCode 123 = .ok (.invokevirtual 133, 3) := by decide +kernel
theorem dX13_commonestCode_126 : decode cX13_commonestCode 126 = .ok (.ireturn, 1) := by decide +kernel
theorem dX13_widthFor_0 : decode cX13_widthFor 0 = .ok (.iconst 0, 1) := by decide +kernel
theorem dX13_widthFor_1 : decode cX13_widthFor 1 = .ok (.istore_n 1, 1) := by decide +kernel
theorem dX13_widthFor_2 : decode cX13_widthFor 2 = .ok (.iconst 1, 1) := by decide +kernel
theorem dX13_widthFor_3 : decode cX13_widthFor 3 = .ok (.iload_n 1, 1) := by decide +kernel
theorem dX13_widthFor_4 : decode cX13_widthFor 4 = .ok (.ishl, 1) := by decide +kernel
theorem dX13_widthFor_5 : decode cX13_widthFor 5 = .ok (.iload_n 0, 1) := by decide +kernel
theorem dX13_widthFor_6 : decode cX13_widthFor 6 = .ok (.if_icmp .ge 9, 3) := by decide +kernel
theorem dX13_widthFor_9 : decode cX13_widthFor 9 = .ok (.iinc 1 1, 3) := by decide +kernel
theorem dX13_widthFor_12 : decode cX13_widthFor 12 = .ok (.goto (-10), 3) := by decide +kernel
theorem dX13_widthFor_15 : decode cX13_widthFor 15 = .ok (.iload_n 1, 1) := by decide +kernel
theorem dX13_widthFor_16 : decode cX13_widthFor 16 = .ok (.ireturn, 1) := by decide +kernel
theorem dX13_widthOf_0 : decode cX13_widthOf 0 = .ok (.aload_n 0, 1) := by decide +kernel
theorem dX13_widthOf_1 : decode cX13_widthOf 1 = .ok (.iload_n 1, 1) := by decide +kernel
theorem dX13_widthOf_2 : decode cX13_widthOf 2 = .ok (.invokevirtual 115, 3) := by decide +kernel
theorem dX13_widthOf_5 : decode cX13_widthOf 5 = .ok (.invokestatic 151, 3) := by decide +kernel
theorem dX13_widthOf_8 : decode cX13_widthOf 8 = .ok (.ireturn, 1) := by decide +kernel
theorem dX13_wordsOf_0 : decode cX13_wordsOf 0 = .ok (.aload_n 0, 1) := by decide +kernel
theorem dX13_wordsOf_1 : decode cX13_wordsOf 1 = .ok (.getfield 35, 3) := by decide +kernel
theorem dX13_wordsOf_4 : decode cX13_wordsOf 4 = .ok (.iconst 1, 1) := by decide +kernel
theorem dX13_wordsOf_5 : decode cX13_wordsOf 5 = .ok (.iaload, 1) := by decide +kernel
theorem dX13_wordsOf_6 : decode cX13_wordsOf 6 = .ok (.aload_n 0, 1) := by decide +kernel
theorem dX13_wordsOf_7 : decode cX13_wordsOf 7 = .ok (.iload_n 1, 1) := by decide +kernel
theorem dX13_wordsOf_8 : decode cX13_wordsOf 8 = .ok (.invokevirtual 154, 3) := by decide +kernel
theorem dX13_wordsOf_11 : decode cX13_wordsOf 11 = .ok (.imul, 1) := by decide +kernel
theorem dX13_wordsOf_12 : decode cX13_wordsOf 12 = .ok (.bipush 64, 2) := by decide +kernel
theorem dX13_wordsOf_14 : decode cX13_wordsOf 14 = .ok (.iadd, 1) := by decide +kernel
theorem dX13_wordsOf_15 : decode cX13_wordsOf 15 = .ok (.iconst 1, 1) := by decide +kernel
theorem dX13_wordsOf_16 : decode cX13_wordsOf 16 = .ok (.isub, 1) := by decide +kernel
theorem dX13_wordsOf_17 : decode cX13_wordsOf 17 = .ok (.bipush 64, 2) := by decide +kernel
theorem dX13_wordsOf_19 : decode cX13_wordsOf 19 = .ok (.idiv, 1) := by decide +kernel
theorem dX13_wordsOf_20 : decode cX13_wordsOf 20 = .ok (.ireturn, 1) := by decide +kernel
theorem dX13_pack_0 : decode cX13_pack 0 = .ok (.aload_n 0, 1) := by decide +kernel
theorem dX13_pack_1 : decode cX13_pack 1 = .ok (.iload_n 1, 1) := by decide +kernel
theorem dX13_pack_2 : decode cX13_pack 2 = .ok (.invokevirtual 154, 3) := by decide +kernel
theorem dX13_pack_5 : decode cX13_pack 5 = .ok (.istore_n 3, 1) := by decide +kernel
theorem dX13_pack_6 : decode cX13_pack 6 = .ok (.lconst 0, 1) := by decide +kernel
theorem dX13_pack_7 : decode cX13_pack 7 = .ok (.lstore 4, 2) := by decide +kernel
theorem dX13_pack_9 : decode cX13_pack 9 = .ok (.iconst 0, 1) := by decide +kernel
theorem dX13_pack_10 : decode cX13_pack 10 = .ok (.istore 6, 2) := by decide +kernel
theorem dX13_pack_12 : decode cX13_pack 12 = .ok (.iload 6, 2) := by decide +kernel
theorem dX13_pack_14 : decode cX13_pack 14 = .ok (.aload_n 0, 1) := by decide +kernel
theorem dX13_pack_15 : decode cX13_pack 15 = .ok (.getfield 35, 3) := by decide +kernel
theorem dX13_pack_18 : decode cX13_pack 18 = .ok (.iconst 1, 1) := by decide +kernel
theorem dX13_pack_19 : decode cX13_pack 19 = .ok (.iaload, 1) := by decide +kernel
theorem dX13_pack_20 : decode cX13_pack 20 = .ok (.if_icmp .ge 90, 3) := by decide +kernel
theorem dX13_pack_23 : decode cX13_pack 23 = .ok (.aload_n 0, 1) := by decide +kernel
theorem dX13_pack_24 : decode cX13_pack 24 = .ok (.iload_n 1, 1) := by decide +kernel
theorem dX13_pack_25 : decode cX13_pack 25 = .ok (.iload 6, 2) := by decide +kernel
theorem dX13_pack_27 : decode cX13_pack 27 = .ok (.invokevirtual 133, 3) := by decide +kernel
theorem dX13_pack_30 : decode cX13_pack 30 = .ok (.istore 7, 2) := by decide +kernel
theorem dX13_pack_32 : decode cX13_pack 32 = .ok (.iconst 0, 1) := by decide +kernel
theorem dX13_pack_33 : decode cX13_pack 33 = .ok (.istore 8, 2) := by decide +kernel
theorem dX13_pack_35 : decode cX13_pack 35 = .ok (.iload 8, 2) := by decide +kernel
theorem dX13_pack_37 : decode cX13_pack 37 = .ok (.iload_n 3, 1) := by decide +kernel
theorem dX13_pack_38 : decode cX13_pack 38 = .ok (.if_icmp .ge 66, 3) := by decide +kernel
theorem dX13_pack_41 : decode cX13_pack 41 = .ok (.iload 6, 2) := by decide +kernel
theorem dX13_pack_43 : decode cX13_pack 43 = .ok (.iload_n 3, 1) := by decide +kernel
theorem dX13_pack_44 : decode cX13_pack 44 = .ok (.imul, 1) := by decide +kernel
theorem dX13_pack_45 : decode cX13_pack 45 = .ok (.iload 8, 2) := by decide +kernel
theorem dX13_pack_47 : decode cX13_pack 47 = .ok (.iadd, 1) := by decide +kernel
theorem dX13_pack_48 : decode cX13_pack 48 = .ok (.istore 9, 2) := by decide +kernel
theorem dX13_pack_50 : decode cX13_pack 50 = .ok (.iload 9, 2) := by decide +kernel
theorem dX13_pack_52 : decode cX13_pack 52 = .ok (.bipush 64, 2) := by decide +kernel
theorem dX13_pack_54 : decode cX13_pack 54 = .ok (.idiv, 1) := by decide +kernel
theorem dX13_pack_55 : decode cX13_pack 55 = .ok (.iload_n 2, 1) := by decide +kernel
theorem dX13_pack_56 : decode cX13_pack 56 = .ok (.if_icmp .ne 18, 3) := by decide +kernel
theorem dX13_pack_59 : decode cX13_pack 59 = .ok (.iload 7, 2) := by decide +kernel
theorem dX13_pack_61 : decode cX13_pack 61 = .ok (.iload 8, 2) := by decide +kernel
theorem dX13_pack_63 : decode cX13_pack 63 = .ok (.ishr, 1) := by decide +kernel
theorem dX13_pack_64 : decode cX13_pack 64 = .ok (.iconst 1, 1) := by decide +kernel
theorem dX13_pack_65 : decode cX13_pack 65 = .ok (.iand, 1) := by decide +kernel
theorem dX13_pack_66 : decode cX13_pack 66 = .ok (.iconst 1, 1) := by decide +kernel
theorem dX13_pack_67 : decode cX13_pack 67 = .ok (.if_icmp .ne 7, 3) := by decide +kernel
theorem dX13_pack_70 : decode cX13_pack 70 = .ok (.iconst 1, 1) := by decide +kernel
theorem dX13_pack_71 : decode cX13_pack 71 = .ok (.goto 4, 3) := by decide +kernel
theorem dX13_pack_74 : decode cX13_pack 74 = .ok (.iconst 0, 1) := by decide +kernel
theorem dX13_pack_75 : decode cX13_pack 75 = .ok (.istore 10, 2) := by decide +kernel
theorem dX13_pack_77 : decode cX13_pack 77 = .ok (.lload 4, 2) := by decide +kernel
theorem dX13_pack_79 : decode cX13_pack 79 = .ok (.iload 10, 2) := by decide +kernel
theorem dX13_pack_81 : decode cX13_pack 81 = .ok (.ifCond .eq 13, 3) := by decide +kernel
theorem dX13_pack_84 : decode cX13_pack 84 = .ok (.lconst 1, 1) := by decide +kernel
theorem dX13_pack_85 : decode cX13_pack 85 = .ok (.iload 9, 2) := by decide +kernel
theorem dX13_pack_87 : decode cX13_pack 87 = .ok (.bipush 64, 2) := by decide +kernel
theorem dX13_pack_89 : decode cX13_pack 89 = .ok (.irem, 1) := by decide +kernel
theorem dX13_pack_90 : decode cX13_pack 90 = .ok (.lshl, 1) := by decide +kernel
theorem dX13_pack_91 : decode cX13_pack 91 = .ok (.goto 4, 3) := by decide +kernel
theorem dX13_pack_94 : decode cX13_pack 94 = .ok (.lconst 0, 1) := by decide +kernel
theorem dX13_pack_95 : decode cX13_pack 95 = .ok (.lor, 1) := by decide +kernel
theorem dX13_pack_96 : decode cX13_pack 96 = .ok (.lstore 4, 2) := by decide +kernel
theorem dX13_pack_98 : decode cX13_pack 98 = .ok (.iinc 8 1, 3) := by decide +kernel
theorem dX13_pack_101 : decode cX13_pack 101 = .ok (.goto (-66), 3) := by decide +kernel
theorem dX13_pack_104 : decode cX13_pack 104 = .ok (.iinc 6 1, 3) := by decide +kernel
theorem dX13_pack_107 : decode cX13_pack 107 = .ok (.goto (-95), 3) := by decide +kernel
theorem dX13_pack_110 : decode cX13_pack 110 = .ok (.lload 4, 2) := by decide +kernel
theorem dX13_pack_112 : decode cX13_pack 112 = .ok (.lreturn, 1) := by decide +kernel
theorem dX13_allBits_0 : decode cX13_allBits 0 = .ok (.iconst 0, 1) := by decide +kernel
theorem dX13_allBits_1 : decode cX13_allBits 1 = .ok (.istore_n 1, 1) := by decide +kernel
theorem dX13_allBits_2 : decode cX13_allBits 2 = .ok (.iconst 0, 1) := by decide +kernel
theorem dX13_allBits_3 : decode cX13_allBits 3 = .ok (.istore_n 2, 1) := by decide +kernel
theorem dX13_allBits_4 : decode cX13_allBits 4 = .ok (.iload_n 2, 1) := by decide +kernel
theorem dX13_allBits_5 : decode cX13_allBits 5 = .ok (.aload_n 0, 1) := by decide +kernel
theorem dX13_allBits_6 : decode cX13_allBits 6 = .ok (.getfield 35, 3) := by decide +kernel
theorem dX13_allBits_9 : decode cX13_allBits 9 = .ok (.iconst 0, 1) := by decide +kernel
theorem dX13_allBits_10 : decode cX13_allBits 10 = .ok (.iaload, 1) := by decide +kernel
theorem dX13_allBits_11 : decode cX13_allBits 11 = .ok (.if_icmp .ge 24, 3) := by decide +kernel
theorem dX13_allBits_14 : decode cX13_allBits 14 = .ok (.iload_n 1, 1) := by decide +kernel
theorem dX13_allBits_15 : decode cX13_allBits 15 = .ok (.aload_n 0, 1) := by decide +kernel
theorem dX13_allBits_16 : decode cX13_allBits 16 = .ok (.iload_n 2, 1) := by decide +kernel
theorem dX13_allBits_17 : decode cX13_allBits 17 = .ok (.invokevirtual 154, 3) := by decide +kernel
theorem dX13_allBits_20 : decode cX13_allBits 20 = .ok (.aload_n 0, 1) := by decide +kernel
theorem dX13_allBits_21 : decode cX13_allBits 21 = .ok (.getfield 35, 3) := by decide +kernel
theorem dX13_allBits_24 : decode cX13_allBits 24 = .ok (.iconst 1, 1) := by decide +kernel
theorem dX13_allBits_25 : decode cX13_allBits 25 = .ok (.iaload, 1) := by decide +kernel
theorem dX13_allBits_26 : decode cX13_allBits 26 = .ok (.imul, 1) := by decide +kernel
theorem dX13_allBits_27 : decode cX13_allBits 27 = .ok (.iadd, 1) := by decide +kernel
theorem dX13_allBits_28 : decode cX13_allBits 28 = .ok (.istore_n 1, 1) := by decide +kernel
theorem dX13_allBits_29 : decode cX13_allBits 29 = .ok (.iinc 2 1, 3) := by decide +kernel
theorem dX13_allBits_32 : decode cX13_allBits 32 = .ok (.goto (-28), 3) := by decide +kernel
theorem dX13_allBits_35 : decode cX13_allBits 35 = .ok (.iload_n 1, 1) := by decide +kernel
theorem dX13_allBits_36 : decode cX13_allBits 36 = .ok (.ireturn, 1) := by decide +kernel
theorem dX13_bitWidth_0 : decode cX13_bitWidth 0 = .ok (.aload_n 0, 1) := by decide +kernel
theorem dX13_bitWidth_1 : decode cX13_bitWidth 1 = .ok (.aload_n 0, 1) := by decide +kernel
theorem dX13_bitWidth_2 : decode cX13_bitWidth 2 = .ok (.iload_n 1, 1) := by decide +kernel
theorem dX13_bitWidth_3 : decode cX13_bitWidth 3 = .ok (.invokevirtual 112, 3) := by decide +kernel
theorem dX13_bitWidth_6 : decode cX13_bitWidth 6 = .ok (.invokevirtual 88, 3) := by decide +kernel
theorem dX13_bitWidth_9 : decode cX13_bitWidth 9 = .ok (.ifCond .eq 7, 3) := by decide +kernel
theorem dX13_bitWidth_12 : decode cX13_bitWidth 12 = .ok (.iconst 0, 1) := by decide +kernel
theorem dX13_bitWidth_13 : decode cX13_bitWidth 13 = .ok (.goto 8, 3) := by decide +kernel
theorem dX13_bitWidth_16 : decode cX13_bitWidth 16 = .ok (.aload_n 0, 1) := by decide +kernel
theorem dX13_bitWidth_17 : decode cX13_bitWidth 17 = .ok (.iload_n 1, 1) := by decide +kernel
theorem dX13_bitWidth_18 : decode cX13_bitWidth 18 = .ok (.invokevirtual 154, 3) := by decide +kernel
theorem dX13_bitWidth_21 : decode cX13_bitWidth 21 = .ok (.ireturn, 1) := by decide +kernel
theorem dX13_wordCount_0 : decode cX13_wordCount 0 = .ok (.aload_n 0, 1) := by decide +kernel
theorem dX13_wordCount_1 : decode cX13_wordCount 1 = .ok (.aload_n 0, 1) := by decide +kernel
theorem dX13_wordCount_2 : decode cX13_wordCount 2 = .ok (.iload_n 1, 1) := by decide +kernel
theorem dX13_wordCount_3 : decode cX13_wordCount 3 = .ok (.invokevirtual 112, 3) := by decide +kernel
theorem dX13_wordCount_6 : decode cX13_wordCount 6 = .ok (.invokevirtual 88, 3) := by decide +kernel
theorem dX13_wordCount_9 : decode cX13_wordCount 9 = .ok (.ifCond .eq 7, 3) := by decide +kernel
theorem dX13_wordCount_12 : decode cX13_wordCount 12 = .ok (.iconst 0, 1) := by decide +kernel
theorem dX13_wordCount_13 : decode cX13_wordCount 13 = .ok (.goto 8, 3) := by decide +kernel
theorem dX13_wordCount_16 : decode cX13_wordCount 16 = .ok (.aload_n 0, 1) := by decide +kernel
theorem dX13_wordCount_17 : decode cX13_wordCount 17 = .ok (.iload_n 1, 1) := by decide +kernel
theorem dX13_wordCount_18 : decode cX13_wordCount 18 = .ok (.invokevirtual 157, 3) := by decide +kernel
theorem dX13_wordCount_21 : decode cX13_wordCount 21 = .ok (.ireturn, 1) := by decide +kernel
theorem dX13_packedWord_0 : decode cX13_packedWord 0 = .ok (.aload_n 0, 1) := by decide +kernel
theorem dX13_packedWord_1 : decode cX13_packedWord 1 = .ok (.iload_n 1, 1) := by decide +kernel
theorem dX13_packedWord_2 : decode cX13_packedWord 2 = .ok (.invokevirtual 112, 3) := by decide +kernel
theorem dX13_packedWord_5 : decode cX13_packedWord 5 = .ok (.ifCond .eq 22, 3) := by decide +kernel
theorem dX13_packedWord_8 : decode cX13_packedWord 8 = .ok (.iload_n 2, 1) := by decide +kernel
theorem dX13_packedWord_9 : decode cX13_packedWord 9 = .ok (.iconst 0, 1) := by decide +kernel
theorem dX13_packedWord_10 : decode cX13_packedWord 10 = .ok (.aload_n 0, 1) := by decide +kernel
theorem dX13_packedWord_11 : decode cX13_packedWord 11 = .ok (.iload_n 1, 1) := by decide +kernel
theorem dX13_packedWord_12 : decode cX13_packedWord 12 = .ok (.invokevirtual 157, 3) := by decide +kernel
theorem dX13_packedWord_15 : decode cX13_packedWord 15 = .ok (.iconst 1, 1) := by decide +kernel
theorem dX13_packedWord_16 : decode cX13_packedWord 16 = .ok (.isub, 1) := by decide +kernel
theorem dX13_packedWord_17 : decode cX13_packedWord 17 = .ok (.invokestatic 92, 3) := by decide +kernel
theorem dX13_packedWord_20 : decode cX13_packedWord 20 = .ok (.ifCond .eq 7, 3) := by decide +kernel
theorem dX13_packedWord_23 : decode cX13_packedWord 23 = .ok (.iconst 1, 1) := by decide +kernel
theorem dX13_packedWord_24 : decode cX13_packedWord 24 = .ok (.goto 4, 3) := by decide +kernel
theorem dX13_packedWord_27 : decode cX13_packedWord 27 = .ok (.iconst 0, 1) := by decide +kernel
theorem dX13_packedWord_28 : decode cX13_packedWord 28 = .ok (.istore_n 3, 1) := by decide +kernel
theorem dX13_packedWord_29 : decode cX13_packedWord 29 = .ok (.aload_n 0, 1) := by decide +kernel
theorem dX13_packedWord_30 : decode cX13_packedWord 30 = .ok (.iload_n 3, 1) := by decide +kernel
theorem dX13_packedWord_31 : decode cX13_packedWord 31 = .ok (.invokevirtual 88, 3) := by decide +kernel
theorem dX13_packedWord_34 : decode cX13_packedWord 34 = .ok (.ifCond .eq 7, 3) := by decide +kernel
theorem dX13_packedWord_37 : decode cX13_packedWord 37 = .ok (.lconst 0, 1) := by decide +kernel
theorem dX13_packedWord_38 : decode cX13_packedWord 38 = .ok (.goto 9, 3) := by decide +kernel
theorem dX13_packedWord_41 : decode cX13_packedWord 41 = .ok (.aload_n 0, 1) := by decide +kernel
theorem dX13_packedWord_42 : decode cX13_packedWord 42 = .ok (.iload_n 1, 1) := by decide +kernel
theorem dX13_packedWord_43 : decode cX13_packedWord 43 = .ok (.iload_n 2, 1) := by decide +kernel
theorem dX13_packedWord_44 : decode cX13_packedWord 44 = .ok (.invokevirtual 160, 3) := by decide +kernel
theorem dX13_packedWord_47 : decode cX13_packedWord 47 = .ok (.lreturn, 1) := by decide +kernel
theorem dX13_packedBits_0 : decode cX13_packedBits 0 = .ok (.aload_n 0, 1) := by decide +kernel
theorem dX13_packedBits_1 : decode cX13_packedBits 1 = .ok (.iconst 0, 1) := by decide +kernel
theorem dX13_packedBits_2 : decode cX13_packedBits 2 = .ok (.putfield 85, 3) := by decide +kernel
theorem dX13_packedBits_5 : decode cX13_packedBits 5 = .ok (.aload_n 0, 1) := by decide +kernel
theorem dX13_packedBits_6 : decode cX13_packedBits 6 = .ok (.invokevirtual 164, 3) := by decide +kernel
theorem dX13_packedBits_9 : decode cX13_packedBits 9 = .ok (.ireturn, 1) := by decide +kernel
theorem dX13_compressionRatio_0 : decode cX13_compressionRatio 0 = .ok (.aload_n 0, 1) := by decide +kernel
theorem dX13_compressionRatio_1 : decode cX13_compressionRatio 1 = .ok (.iconst 0, 1) := by decide +kernel
theorem dX13_compressionRatio_2 : decode cX13_compressionRatio 2 = .ok (.putfield 85, 3) := by decide +kernel
theorem dX13_compressionRatio_5 : decode cX13_compressionRatio 5 = .ok (.aload_n 0, 1) := by decide +kernel
theorem dX13_compressionRatio_6 : decode cX13_compressionRatio 6 = .ok (.invokevirtual 164, 3) := by decide +kernel
theorem dX13_compressionRatio_9 : decode cX13_compressionRatio 9 = .ok (.istore_n 1, 1) := by decide +kernel
theorem dX13_compressionRatio_10 : decode cX13_compressionRatio 10 = .ok (.iconst 0, 1) := by decide +kernel
theorem dX13_compressionRatio_11 : decode cX13_compressionRatio 11 = .ok (.istore_n 2, 1) := by decide +kernel
theorem dX13_compressionRatio_12 : decode cX13_compressionRatio 12 = .ok (.iload_n 2, 1) := by decide +kernel
theorem dX13_compressionRatio_13 : decode cX13_compressionRatio 13 = .ok (.aload_n 0, 1) := by decide +kernel
theorem dX13_compressionRatio_14 : decode cX13_compressionRatio 14 = .ok (.getfield 35, 3) := by decide +kernel
theorem dX13_compressionRatio_17 : decode cX13_compressionRatio 17 = .ok (.iconst 0, 1) := by decide +kernel
theorem dX13_compressionRatio_18 : decode cX13_compressionRatio 18 = .ok (.iaload, 1) := by decide +kernel
theorem dX13_compressionRatio_19 : decode cX13_compressionRatio 19 = .ok (.if_icmp .ge 20, 3) := by decide +kernel
theorem dX13_compressionRatio_22 : decode cX13_compressionRatio 22 = .ok (.iload_n 1, 1) := by decide +kernel
theorem dX13_compressionRatio_23 : decode cX13_compressionRatio 23 = .ok (.bipush 16, 2) := by decide +kernel
theorem dX13_compressionRatio_25 : decode cX13_compressionRatio 25 = .ok (.aload_n 0, 1) := by decide +kernel
theorem dX13_compressionRatio_26 : decode cX13_compressionRatio 26 = .ok (.iload_n 2, 1) := by decide +kernel
theorem dX13_compressionRatio_27 : decode cX13_compressionRatio 27 = .ok (.invokevirtual 115, 3) := by decide +kernel
theorem dX13_compressionRatio_30 : decode cX13_compressionRatio 30 = .ok (.imul, 1) := by decide +kernel
theorem dX13_compressionRatio_31 : decode cX13_compressionRatio 31 = .ok (.iadd, 1) := by decide +kernel
theorem dX13_compressionRatio_32 : decode cX13_compressionRatio 32 = .ok (.istore_n 1, 1) := by decide +kernel
theorem dX13_compressionRatio_33 : decode cX13_compressionRatio 33 = .ok (.iinc 2 1, 3) := by decide +kernel
theorem dX13_compressionRatio_36 : decode cX13_compressionRatio 36 = .ok (.goto (-24), 3) := by decide +kernel
theorem dX13_compressionRatio_39 : decode cX13_compressionRatio 39 = .ok (.bipush 16, 2) := by decide +kernel
theorem dX13_compressionRatio_41 : decode cX13_compressionRatio 41 = .ok (.aload_n 0, 1) := by decide +kernel
theorem dX13_compressionRatio_42 : decode cX13_compressionRatio 42 = .ok (.getfield 35, 3) := by decide +kernel
theorem dX13_compressionRatio_45 : decode cX13_compressionRatio 45 = .ok (.iconst 1, 1) := by decide +kernel
theorem dX13_compressionRatio_46 : decode cX13_compressionRatio 46 = .ok (.iaload, 1) := by decide +kernel
theorem dX13_compressionRatio_47 : decode cX13_compressionRatio 47 = .ok (.imul, 1) := by decide +kernel
theorem dX13_compressionRatio_48 : decode cX13_compressionRatio 48 = .ok (.aload_n 0, 1) := by decide +kernel
theorem dX13_compressionRatio_49 : decode cX13_compressionRatio 49 = .ok (.getfield 35, 3) := by decide +kernel
theorem dX13_compressionRatio_52 : decode cX13_compressionRatio 52 = .ok (.iconst 0, 1) := by decide +kernel
theorem dX13_compressionRatio_53 : decode cX13_compressionRatio 53 = .ok (.iaload, 1) := by decide +kernel
theorem dX13_compressionRatio_54 : decode cX13_compressionRatio 54 = .ok (.imul, 1) := by decide +kernel
theorem dX13_compressionRatio_55 : decode cX13_compressionRatio 55 = .ok (.istore_n 2, 1) := by decide +kernel
theorem dX13_compressionRatio_56 : decode cX13_compressionRatio 56 = .ok (.aload_n 0, 1) := by decide +kernel
theorem dX13_compressionRatio_57 : decode cX13_compressionRatio 57 = .ok (.getfield 35, 3) := by decide +kernel
theorem dX13_compressionRatio_60 : decode cX13_compressionRatio 60 = .ok (.iconst 1, 1) := by decide +kernel
theorem dX13_compressionRatio_61 : decode cX13_compressionRatio 61 = .ok (.iaload, 1) := by decide +kernel
theorem dX13_compressionRatio_62 : decode cX13_compressionRatio 62 = .ok (.ifCond .ne 7, 3) := by decide +kernel
theorem dX13_compressionRatio_65 : decode cX13_compressionRatio 65 = .ok (.dconst 0, 1) := by decide +kernel
theorem dX13_compressionRatio_66 : decode cX13_compressionRatio 66 = .ok (.goto 8, 3) := by decide +kernel
theorem dX13_compressionRatio_69 : decode cX13_compressionRatio 69 = .ok (.iload_n 2, 1) := by decide +kernel
theorem dX13_compressionRatio_70 : decode cX13_compressionRatio 70 = .ok (.i2d, 1) := by decide +kernel
theorem dX13_compressionRatio_71 : decode cX13_compressionRatio 71 = .ok (.iload_n 1, 1) := by decide +kernel
theorem dX13_compressionRatio_72 : decode cX13_compressionRatio 72 = .ok (.i2d, 1) := by decide +kernel
theorem dX13_compressionRatio_73 : decode cX13_compressionRatio 73 = .ok (.ddiv, 1) := by decide +kernel
theorem dX13_compressionRatio_74 : decode cX13_compressionRatio 74 = .ok (.dreturn, 1) := by decide +kernel
theorem dX13_countRuns_0 : decode cX13_countRuns 0 = .ok (.aload_n 0, 1) := by decide +kernel
theorem dX13_countRuns_1 : decode cX13_countRuns 1 = .ok (.getfield 35, 3) := by decide +kernel
theorem dX13_countRuns_4 : decode cX13_countRuns 4 = .ok (.iconst 1, 1) := by decide +kernel
theorem dX13_countRuns_5 : decode cX13_countRuns 5 = .ok (.iaload, 1) := by decide +kernel
theorem dX13_countRuns_6 : decode cX13_countRuns 6 = .ok (.ifCond .le 7, 3) := by decide +kernel
theorem dX13_countRuns_9 : decode cX13_countRuns 9 = .ok (.iconst 1, 1) := by decide +kernel
theorem dX13_countRuns_10 : decode cX13_countRuns 10 = .ok (.goto 4, 3) := by decide +kernel
theorem dX13_countRuns_13 : decode cX13_countRuns 13 = .ok (.iconst 0, 1) := by decide +kernel
theorem dX13_countRuns_14 : decode cX13_countRuns 14 = .ok (.istore_n 2, 1) := by decide +kernel
theorem dX13_countRuns_15 : decode cX13_countRuns 15 = .ok (.iconst 1, 1) := by decide +kernel
theorem dX13_countRuns_16 : decode cX13_countRuns 16 = .ok (.istore_n 3, 1) := by decide +kernel
theorem dX13_countRuns_17 : decode cX13_countRuns 17 = .ok (.iload_n 3, 1) := by decide +kernel
theorem dX13_countRuns_18 : decode cX13_countRuns 18 = .ok (.aload_n 0, 1) := by decide +kernel
theorem dX13_countRuns_19 : decode cX13_countRuns 19 = .ok (.getfield 35, 3) := by decide +kernel
theorem dX13_countRuns_22 : decode cX13_countRuns 22 = .ok (.iconst 1, 1) := by decide +kernel
theorem dX13_countRuns_23 : decode cX13_countRuns 23 = .ok (.iaload, 1) := by decide +kernel
theorem dX13_countRuns_24 : decode cX13_countRuns 24 = .ok (.if_icmp .ge 34, 3) := by decide +kernel
theorem dX13_countRuns_27 : decode cX13_countRuns 27 = .ok (.iload_n 2, 1) := by decide +kernel
theorem dX13_countRuns_28 : decode cX13_countRuns 28 = .ok (.aload_n 0, 1) := by decide +kernel
theorem dX13_countRuns_29 : decode cX13_countRuns 29 = .ok (.iload_n 1, 1) := by decide +kernel
theorem dX13_countRuns_30 : decode cX13_countRuns 30 = .ok (.iload_n 3, 1) := by decide +kernel
theorem dX13_countRuns_31 : decode cX13_countRuns 31 = .ok (.invokevirtual 118, 3) := by decide +kernel
theorem dX13_countRuns_34 : decode cX13_countRuns 34 = .ok (.aload_n 0, 1) := by decide +kernel
theorem dX13_countRuns_35 : decode cX13_countRuns 35 = .ok (.iload_n 1, 1) := by decide +kernel
theorem dX13_countRuns_36 : decode cX13_countRuns 36 = .ok (.iload_n 3, 1) := by decide +kernel
theorem dX13_countRuns_37 : decode cX13_countRuns 37 = .ok (.iconst 1, 1) := by decide +kernel
theorem dX13_countRuns_38 : decode cX13_countRuns 38 = .ok (.isub, 1) := by decide +kernel
theorem dX13_countRuns_39 : decode cX13_countRuns 39 = .ok (.invokevirtual 118, 3) := by decide +kernel
theorem dX13_countRuns_42 : decode cX13_countRuns 42 = .ok (.if_icmp .eq 7, 3) := by decide +kernel
theorem dX13_countRuns_45 : decode cX13_countRuns 45 = .ok (.iconst 1, 1) := by decide +kernel
theorem dX13_countRuns_46 : decode cX13_countRuns 46 = .ok (.goto 4, 3) := by decide +kernel
theorem dX13_countRuns_49 : decode cX13_countRuns 49 = .ok (.iconst 0, 1) := by decide +kernel
theorem dX13_countRuns_50 : decode cX13_countRuns 50 = .ok (.iadd, 1) := by decide +kernel
theorem dX13_countRuns_51 : decode cX13_countRuns 51 = .ok (.istore_n 2, 1) := by decide +kernel
theorem dX13_countRuns_52 : decode cX13_countRuns 52 = .ok (.iinc 3 1, 3) := by decide +kernel
theorem dX13_countRuns_55 : decode cX13_countRuns 55 = .ok (.goto (-38), 3) := by decide +kernel
theorem dX13_countRuns_58 : decode cX13_countRuns 58 = .ok (.iload_n 2, 1) := by decide +kernel
theorem dX13_countRuns_59 : decode cX13_countRuns 59 = .ok (.ireturn, 1) := by decide +kernel
theorem dX13_runCount_0 : decode cX13_runCount 0 = .ok (.aload_n 0, 1) := by decide +kernel
theorem dX13_runCount_1 : decode cX13_runCount 1 = .ok (.aload_n 0, 1) := by decide +kernel
theorem dX13_runCount_2 : decode cX13_runCount 2 = .ok (.iload_n 1, 1) := by decide +kernel
theorem dX13_runCount_3 : decode cX13_runCount 3 = .ok (.invokevirtual 112, 3) := by decide +kernel
theorem dX13_runCount_6 : decode cX13_runCount 6 = .ok (.invokevirtual 88, 3) := by decide +kernel
theorem dX13_runCount_9 : decode cX13_runCount 9 = .ok (.ifCond .eq 7, 3) := by decide +kernel
theorem dX13_runCount_12 : decode cX13_runCount 12 = .ok (.iconst 0, 1) := by decide +kernel
theorem dX13_runCount_13 : decode cX13_runCount 13 = .ok (.goto 8, 3) := by decide +kernel
theorem dX13_runCount_16 : decode cX13_runCount 16 = .ok (.aload_n 0, 1) := by decide +kernel
theorem dX13_runCount_17 : decode cX13_runCount 17 = .ok (.iload_n 1, 1) := by decide +kernel
theorem dX13_runCount_18 : decode cX13_runCount 18 = .ok (.invokevirtual 168, 3) := by decide +kernel
theorem dX13_runCount_21 : decode cX13_runCount 21 = .ok (.ireturn, 1) := by decide +kernel
theorem dX13_longestRun_0 : decode cX13_longestRun 0 = .ok (.aload_n 0, 1) := by decide +kernel
theorem dX13_longestRun_1 : decode cX13_longestRun 1 = .ok (.aload_n 0, 1) := by decide +kernel
theorem dX13_longestRun_2 : decode cX13_longestRun 2 = .ok (.iload_n 1, 1) := by decide +kernel
theorem dX13_longestRun_3 : decode cX13_longestRun 3 = .ok (.invokevirtual 112, 3) := by decide +kernel
theorem dX13_longestRun_6 : decode cX13_longestRun 6 = .ok (.invokevirtual 88, 3) := by decide +kernel
theorem dX13_longestRun_9 : decode cX13_longestRun 9 = .ok (.ifCond .eq 5, 3) := by decide +kernel
theorem dX13_longestRun_12 : decode cX13_longestRun 12 = .ok (.iconst 0, 1) := by decide +kernel
theorem dX13_longestRun_13 : decode cX13_longestRun 13 = .ok (.ireturn, 1) := by decide +kernel
theorem dX13_longestRun_14 : decode cX13_longestRun 14 = .ok (.iconst 0, 1) := by decide +kernel
theorem dX13_longestRun_15 : decode cX13_longestRun 15 = .ok (.istore_n 2, 1) := by decide +kernel
theorem dX13_longestRun_16 : decode cX13_longestRun 16 = .ok (.iconst 0, 1) := by decide +kernel
theorem dX13_longestRun_17 : decode cX13_longestRun 17 = .ok (.istore_n 3, 1) := by decide +kernel
theorem dX13_longestRun_18 : decode cX13_longestRun 18 = .ok (.iconst 0, 1) := by decide +kernel
theorem dX13_longestRun_19 : decode cX13_longestRun 19 = .ok (.istore 4, 2) := by decide +kernel
theorem dX13_longestRun_21 : decode cX13_longestRun 21 = .ok (.iload 4, 2) := by decide +kernel
theorem dX13_longestRun_23 : decode cX13_longestRun 23 = .ok (.aload_n 0, 1) := by decide +kernel
theorem dX13_longestRun_24 : decode cX13_longestRun 24 = .ok (.getfield 35, 3) := by decide +kernel
theorem dX13_longestRun_27 : decode cX13_longestRun 27 = .ok (.iconst 1, 1) := by decide +kernel
theorem dX13_longestRun_28 : decode cX13_longestRun 28 = .ok (.iaload, 1) := by decide +kernel
theorem dX13_longestRun_29 : decode cX13_longestRun 29 = .ok (.if_icmp .ge 64, 3) := by decide +kernel
theorem dX13_longestRun_32 : decode cX13_longestRun 32 = .ok (.iload 4, 2) := by decide +kernel
theorem dX13_longestRun_34 : decode cX13_longestRun 34 = .ok (.ifCond .le 26, 3) := by decide +kernel
theorem dX13_longestRun_37 : decode cX13_longestRun 37 = .ok (.aload_n 0, 1) := by decide +kernel
theorem dX13_longestRun_38 : decode cX13_longestRun 38 = .ok (.iload_n 1, 1) := by decide +kernel
theorem dX13_longestRun_39 : decode cX13_longestRun 39 = .ok (.iload 4, 2) := by decide +kernel
theorem dX13_longestRun_41 : decode cX13_longestRun 41 = .ok (.invokevirtual 118, 3) := by decide +kernel
theorem dX13_longestRun_44 : decode cX13_longestRun 44 = .ok (.aload_n 0, 1) := by decide +kernel
theorem dX13_longestRun_45 : decode cX13_longestRun 45 = .ok (.iload_n 1, 1) := by decide +kernel
theorem dX13_longestRun_46 : decode cX13_longestRun 46 = .ok (.iload 4, 2) := by decide +kernel
theorem dX13_longestRun_48 : decode cX13_longestRun 48 = .ok (.iconst 1, 1) := by decide +kernel
theorem dX13_longestRun_49 : decode cX13_longestRun 49 = .ok (.isub, 1) := by decide +kernel
theorem dX13_longestRun_50 : decode cX13_longestRun 50 = .ok (.invokevirtual 118, 3) := by decide +kernel
theorem dX13_longestRun_53 : decode cX13_longestRun 53 = .ok (.if_icmp .ne 7, 3) := by decide +kernel
theorem dX13_longestRun_56 : decode cX13_longestRun 56 = .ok (.iconst 1, 1) := by decide +kernel
theorem dX13_longestRun_57 : decode cX13_longestRun 57 = .ok (.goto 4, 3) := by decide +kernel
theorem dX13_longestRun_60 : decode cX13_longestRun 60 = .ok (.iconst 0, 1) := by decide +kernel
theorem dX13_longestRun_61 : decode cX13_longestRun 61 = .ok (.istore 5, 2) := by decide +kernel
theorem dX13_longestRun_63 : decode cX13_longestRun 63 = .ok (.iload 5, 2) := by decide +kernel
theorem dX13_longestRun_65 : decode cX13_longestRun 65 = .ok (.ifCond .eq 9, 3) := by decide +kernel
theorem dX13_longestRun_68 : decode cX13_longestRun 68 = .ok (.iload_n 3, 1) := by decide +kernel
theorem dX13_longestRun_69 : decode cX13_longestRun 69 = .ok (.iconst 1, 1) := by decide +kernel
theorem dX13_longestRun_70 : decode cX13_longestRun 70 = .ok (.iadd, 1) := by decide +kernel
theorem dX13_longestRun_71 : decode cX13_longestRun 71 = .ok (.goto 4, 3) := by decide +kernel
theorem dX13_longestRun_74 : decode cX13_longestRun 74 = .ok (.iconst 1, 1) := by decide +kernel
theorem dX13_longestRun_75 : decode cX13_longestRun 75 = .ok (.istore_n 3, 1) := by decide +kernel
theorem dX13_longestRun_76 : decode cX13_longestRun 76 = .ok (.iload_n 3, 1) := by decide +kernel
theorem dX13_longestRun_77 : decode cX13_longestRun 77 = .ok (.iload_n 2, 1) := by decide +kernel
theorem dX13_longestRun_78 : decode cX13_longestRun 78 = .ok (.if_icmp .le 7, 3) := by decide +kernel
theorem dX13_longestRun_81 : decode cX13_longestRun 81 = .ok (.iload_n 3, 1) := by decide +kernel
theorem dX13_longestRun_82 : decode cX13_longestRun 82 = .ok (.goto 4, 3) := by decide +kernel
theorem dX13_longestRun_85 : decode cX13_longestRun 85 = .ok (.iload_n 2, 1) := by decide +kernel
theorem dX13_longestRun_86 : decode cX13_longestRun 86 = .ok (.istore_n 2, 1) := by decide +kernel
theorem dX13_longestRun_87 : decode cX13_longestRun 87 = .ok (.iinc 4 1, 3) := by decide +kernel
theorem dX13_longestRun_90 : decode cX13_longestRun 90 = .ok (.goto (-69), 3) := by decide +kernel
theorem dX13_longestRun_93 : decode cX13_longestRun 93 = .ok (.iload_n 2, 1) := by decide +kernel
theorem dX13_longestRun_94 : decode cX13_longestRun 94 = .ok (.ireturn, 1) := by decide +kernel
theorem dX13_isSorted_0 : decode cX13_isSorted 0 = .ok (.aload_n 0, 1) := by decide +kernel
theorem dX13_isSorted_1 : decode cX13_isSorted 1 = .ok (.aload_n 0, 1) := by decide +kernel
theorem dX13_isSorted_2 : decode cX13_isSorted 2 = .ok (.iload_n 1, 1) := by decide +kernel
theorem dX13_isSorted_3 : decode cX13_isSorted 3 = .ok (.invokevirtual 112, 3) := by decide +kernel
theorem dX13_isSorted_6 : decode cX13_isSorted 6 = .ok (.invokevirtual 88, 3) := by decide +kernel
theorem dX13_isSorted_9 : decode cX13_isSorted 9 = .ok (.ifCond .eq 5, 3) := by decide +kernel
theorem dX13_isSorted_12 : decode cX13_isSorted 12 = .ok (.iconst 0, 1) := by decide +kernel
theorem dX13_isSorted_13 : decode cX13_isSorted 13 = .ok (.ireturn, 1) := by decide +kernel
theorem dX13_isSorted_14 : decode cX13_isSorted 14 = .ok (.iconst 1, 1) := by decide +kernel
theorem dX13_isSorted_15 : decode cX13_isSorted 15 = .ok (.istore_n 2, 1) := by decide +kernel
theorem dX13_isSorted_16 : decode cX13_isSorted 16 = .ok (.iload_n 2, 1) := by decide +kernel
theorem dX13_isSorted_17 : decode cX13_isSorted 17 = .ok (.aload_n 0, 1) := by decide +kernel
theorem dX13_isSorted_18 : decode cX13_isSorted 18 = .ok (.getfield 35, 3) := by decide +kernel
theorem dX13_isSorted_21 : decode cX13_isSorted 21 = .ok (.iconst 1, 1) := by decide +kernel
theorem dX13_isSorted_22 : decode cX13_isSorted 22 = .ok (.iaload, 1) := by decide +kernel
theorem dX13_isSorted_23 : decode cX13_isSorted 23 = .ok (.if_icmp .ge 28, 3) := by decide +kernel
theorem dX13_isSorted_26 : decode cX13_isSorted 26 = .ok (.aload_n 0, 1) := by decide +kernel
theorem dX13_isSorted_27 : decode cX13_isSorted 27 = .ok (.iload_n 1, 1) := by decide +kernel
theorem dX13_isSorted_28 : decode cX13_isSorted 28 = .ok (.iload_n 2, 1) := by decide +kernel
theorem dX13_isSorted_29 : decode cX13_isSorted 29 = .ok (.invokevirtual 118, 3) := by decide +kernel
theorem dX13_isSorted_32 : decode cX13_isSorted 32 = .ok (.aload_n 0, 1) := by decide +kernel
theorem dX13_isSorted_33 : decode cX13_isSorted 33 = .ok (.iload_n 1, 1) := by decide +kernel
theorem dX13_isSorted_34 : decode cX13_isSorted 34 = .ok (.iload_n 2, 1) := by decide +kernel
theorem dX13_isSorted_35 : decode cX13_isSorted 35 = .ok (.iconst 1, 1) := by decide +kernel
theorem dX13_isSorted_36 : decode cX13_isSorted 36 = .ok (.isub, 1) := by decide +kernel
theorem dX13_isSorted_37 : decode cX13_isSorted 37 = .ok (.invokevirtual 118, 3) := by decide +kernel
theorem dX13_isSorted_40 : decode cX13_isSorted 40 = .ok (.if_icmp .ge 5, 3) := by decide +kernel
theorem dX13_isSorted_43 : decode cX13_isSorted 43 = .ok (.iconst 0, 1) := by decide +kernel
theorem dX13_isSorted_44 : decode cX13_isSorted 44 = .ok (.ireturn, 1) := by decide +kernel
theorem dX13_isSorted_45 : decode cX13_isSorted 45 = .ok (.iinc 2 1, 3) := by decide +kernel
theorem dX13_isSorted_48 : decode cX13_isSorted 48 = .ok (.goto (-32), 3) := by decide +kernel
theorem dX13_isSorted_51 : decode cX13_isSorted 51 = .ok (.iconst 1, 1) := by decide +kernel
theorem dX13_isSorted_52 : decode cX13_isSorted 52 = .ok (.ireturn, 1) := by decide +kernel
theorem dX13_of_0 : decode cX13_of 0 = .ok (.aload_n 0, 1) := by decide +kernel
theorem dX13_of_1 : decode cX13_of 1 = .ok (.getfield 35, 3) := by decide +kernel
theorem dX13_of_4 : decode cX13_of 4 = .ok (.iconst 3, 1) := by decide +kernel
theorem dX13_of_5 : decode cX13_of 5 = .ok (.iconst 3, 1) := by decide +kernel
theorem dX13_of_6 : decode cX13_of 6 = .ok (.iload_n 1, 1) := by decide +kernel
theorem dX13_of_7 : decode cX13_of 7 = .ok (.imul, 1) := by decide +kernel
theorem dX13_of_8 : decode cX13_of 8 = .ok (.iadd, 1) := by decide +kernel
theorem dX13_of_9 : decode cX13_of 9 = .ok (.iload_n 2, 1) := by decide +kernel
theorem dX13_of_10 : decode cX13_of 10 = .ok (.iadd, 1) := by decide +kernel
theorem dX13_of_11 : decode cX13_of 11 = .ok (.iaload, 1) := by decide +kernel
theorem dX13_of_12 : decode cX13_of 12 = .ok (.ireturn, 1) := by decide +kernel
theorem dX13_told_0 : decode cX13_told 0 = .ok (.aload_n 0, 1) := by decide +kernel
theorem dX13_told_1 : decode cX13_told 1 = .ok (.aload_n 0, 1) := by decide +kernel
theorem dX13_told_2 : decode cX13_told 2 = .ok (.iload_n 1, 1) := by decide +kernel
theorem dX13_told_3 : decode cX13_told 3 = .ok (.invokevirtual 171, 3) := by decide +kernel
theorem dX13_told_6 : decode cX13_told 6 = .ok (.invokevirtual 88, 3) := by decide +kernel
theorem dX13_told_9 : decode cX13_told 9 = .ok (.ifCond .eq 7, 3) := by decide +kernel
theorem dX13_told_12 : decode cX13_told 12 = .ok (.iconst 0, 1) := by decide +kernel
theorem dX13_told_13 : decode cX13_told 13 = .ok (.goto 9, 3) := by decide +kernel
theorem dX13_told_16 : decode cX13_told 16 = .ok (.aload_n 0, 1) := by decide +kernel
theorem dX13_told_17 : decode cX13_told 17 = .ok (.iload_n 1, 1) := by decide +kernel
theorem dX13_told_18 : decode cX13_told 18 = .ok (.iload_n 2, 1) := by decide +kernel
theorem dX13_told_19 : decode cX13_told 19 = .ok (.invokevirtual 174, 3) := by decide +kernel
theorem dX13_told_22 : decode cX13_told 22 = .ok (.ireturn, 1) := by decide +kernel
theorem dX13_lower_0 : decode cX13_lower 0 = .ok (.aload_n 0, 1) := by decide +kernel
theorem dX13_lower_1 : decode cX13_lower 1 = .ok (.iload_n 1, 1) := by decide +kernel
theorem dX13_lower_2 : decode cX13_lower 2 = .ok (.iconst 0, 1) := by decide +kernel
theorem dX13_lower_3 : decode cX13_lower 3 = .ok (.invokevirtual 174, 3) := by decide +kernel
theorem dX13_lower_6 : decode cX13_lower 6 = .ok (.istore_n 2, 1) := by decide +kernel
theorem dX13_lower_7 : decode cX13_lower 7 = .ok (.aload_n 0, 1) := by decide +kernel
theorem dX13_lower_8 : decode cX13_lower 8 = .ok (.iload_n 1, 1) := by decide +kernel
theorem dX13_lower_9 : decode cX13_lower 9 = .ok (.iconst 1, 1) := by decide +kernel
theorem dX13_lower_10 : decode cX13_lower 10 = .ok (.invokevirtual 174, 3) := by decide +kernel
theorem dX13_lower_13 : decode cX13_lower 13 = .ok (.istore_n 3, 1) := by decide +kernel
theorem dX13_lower_14 : decode cX13_lower 14 = .ok (.aload_n 0, 1) := by decide +kernel
theorem dX13_lower_15 : decode cX13_lower 15 = .ok (.iload_n 2, 1) := by decide +kernel
theorem dX13_lower_16 : decode cX13_lower 16 = .ok (.iload_n 3, 1) := by decide +kernel
theorem dX13_lower_17 : decode cX13_lower 17 = .ok (.invokevirtual 121, 3) := by decide +kernel
theorem dX13_lower_20 : decode cX13_lower 20 = .ok (.istore 4, 2) := by decide +kernel
theorem dX13_lower_22 : decode cX13_lower 22 = .ok (.aload_n 0, 1) := by decide +kernel
theorem dX13_lower_23 : decode cX13_lower 23 = .ok (.iload_n 1, 1) := by decide +kernel
theorem dX13_lower_24 : decode cX13_lower 24 = .ok (.iconst 2, 1) := by decide +kernel
theorem dX13_lower_25 : decode cX13_lower 25 = .ok (.invokevirtual 174, 3) := by decide +kernel
theorem dX13_lower_28 : decode cX13_lower 28 = .ok (.istore 5, 2) := by decide +kernel
theorem dX13_lower_30 : decode cX13_lower 30 = .ok (.iload 5, 2) := by decide +kernel
theorem dX13_lower_32 : decode cX13_lower 32 = .ok (.ifCond .ge 7, 3) := by decide +kernel
theorem dX13_lower_35 : decode cX13_lower 35 = .ok (.iconst 0, 1) := by decide +kernel
theorem dX13_lower_36 : decode cX13_lower 36 = .ok (.goto 30, 3) := by decide +kernel
theorem dX13_lower_39 : decode cX13_lower 39 = .ok (.iload 5, 2) := by decide +kernel
theorem dX13_lower_41 : decode cX13_lower 41 = .ok (.ifCond .ne 8, 3) := by decide +kernel
theorem dX13_lower_44 : decode cX13_lower 44 = .ok (.iload 4, 2) := by decide +kernel
theorem dX13_lower_46 : decode cX13_lower 46 = .ok (.goto 20, 3) := by decide +kernel
theorem dX13_lower_49 : decode cX13_lower 49 = .ok (.iload 4, 2) := by decide +kernel
theorem dX13_lower_51 : decode cX13_lower 51 = .ok (.aload_n 0, 1) := by decide +kernel
theorem dX13_lower_52 : decode cX13_lower 52 = .ok (.iload_n 2, 1) := by decide +kernel
theorem dX13_lower_53 : decode cX13_lower 53 = .ok (.iload_n 3, 1) := by decide +kernel
theorem dX13_lower_54 : decode cX13_lower 54 = .ok (.invokevirtual 142, 3) := by decide +kernel
theorem dX13_lower_57 : decode cX13_lower 57 = .ok (.ifCond .eq 7, 3) := by decide +kernel
theorem dX13_lower_60 : decode cX13_lower 60 = .ok (.iconst 1, 1) := by decide +kernel
theorem dX13_lower_61 : decode cX13_lower 61 = .ok (.goto 4, 3) := by decide +kernel
theorem dX13_lower_64 : decode cX13_lower 64 = .ok (.iconst 0, 1) := by decide +kernel
theorem dX13_lower_65 : decode cX13_lower 65 = .ok (.iadd, 1) := by decide +kernel
theorem dX13_lower_66 : decode cX13_lower 66 = .ok (.ireturn, 1) := by decide +kernel
theorem dX13_upper_0 : decode cX13_upper 0 = .ok (.aload_n 0, 1) := by decide +kernel
theorem dX13_upper_1 : decode cX13_upper 1 = .ok (.iload_n 1, 1) := by decide +kernel
theorem dX13_upper_2 : decode cX13_upper 2 = .ok (.iconst 0, 1) := by decide +kernel
theorem dX13_upper_3 : decode cX13_upper 3 = .ok (.invokevirtual 174, 3) := by decide +kernel
theorem dX13_upper_6 : decode cX13_upper 6 = .ok (.istore_n 2, 1) := by decide +kernel
theorem dX13_upper_7 : decode cX13_upper 7 = .ok (.aload_n 0, 1) := by decide +kernel
theorem dX13_upper_8 : decode cX13_upper 8 = .ok (.iload_n 1, 1) := by decide +kernel
theorem dX13_upper_9 : decode cX13_upper 9 = .ok (.iconst 1, 1) := by decide +kernel
theorem dX13_upper_10 : decode cX13_upper 10 = .ok (.invokevirtual 174, 3) := by decide +kernel
theorem dX13_upper_13 : decode cX13_upper 13 = .ok (.istore_n 3, 1) := by decide +kernel
theorem dX13_upper_14 : decode cX13_upper 14 = .ok (.aload_n 0, 1) := by decide +kernel
theorem dX13_upper_15 : decode cX13_upper 15 = .ok (.iload_n 1, 1) := by decide +kernel
theorem dX13_upper_16 : decode cX13_upper 16 = .ok (.iconst 2, 1) := by decide +kernel
theorem dX13_upper_17 : decode cX13_upper 17 = .ok (.invokevirtual 174, 3) := by decide +kernel
theorem dX13_upper_20 : decode cX13_upper 20 = .ok (.istore 4, 2) := by decide +kernel
theorem dX13_upper_22 : decode cX13_upper 22 = .ok (.iload 4, 2) := by decide +kernel
theorem dX13_upper_24 : decode cX13_upper 24 = .ok (.ifCond .le 9, 3) := by decide +kernel
theorem dX13_upper_27 : decode cX13_upper 27 = .ok (.aload_n 0, 1) := by decide +kernel
theorem dX13_upper_28 : decode cX13_upper 28 = .ok (.iload_n 2, 1) := by decide +kernel
theorem dX13_upper_29 : decode cX13_upper 29 = .ok (.invokevirtual 115, 3) := by decide +kernel
theorem dX13_upper_32 : decode cX13_upper 32 = .ok (.ireturn, 1) := by decide +kernel
theorem dX13_upper_33 : decode cX13_upper 33 = .ok (.aload_n 0, 1) := by decide +kernel
theorem dX13_upper_34 : decode cX13_upper 34 = .ok (.iload_n 2, 1) := by decide +kernel
theorem dX13_upper_35 : decode cX13_upper 35 = .ok (.iload_n 3, 1) := by decide +kernel
theorem dX13_upper_36 : decode cX13_upper 36 = .ok (.invokevirtual 121, 3) := by decide +kernel
theorem dX13_upper_39 : decode cX13_upper 39 = .ok (.iload 4, 2) := by decide +kernel
theorem dX13_upper_41 : decode cX13_upper 41 = .ok (.ifCond .ne 16, 3) := by decide +kernel
theorem dX13_upper_44 : decode cX13_upper 44 = .ok (.aload_n 0, 1) := by decide +kernel
theorem dX13_upper_45 : decode cX13_upper 45 = .ok (.iload_n 2, 1) := by decide +kernel
theorem dX13_upper_46 : decode cX13_upper 46 = .ok (.iload_n 3, 1) := by decide +kernel
theorem dX13_upper_47 : decode cX13_upper 47 = .ok (.invokevirtual 142, 3) := by decide +kernel
theorem dX13_upper_50 : decode cX13_upper 50 = .ok (.ifCond .eq 7, 3) := by decide +kernel
theorem dX13_upper_53 : decode cX13_upper 53 = .ok (.iconst 1, 1) := by decide +kernel
theorem dX13_upper_54 : decode cX13_upper 54 = .ok (.goto 4, 3) := by decide +kernel
theorem dX13_upper_57 : decode cX13_upper 57 = .ok (.iconst 0, 1) := by decide +kernel
theorem dX13_upper_58 : decode cX13_upper 58 = .ok (.iadd, 1) := by decide +kernel
theorem dX13_upper_59 : decode cX13_upper 59 = .ok (.ireturn, 1) := by decide +kernel
theorem dX13_fulfills_0 : decode cX13_fulfills 0 = .ok (.aload_n 0, 1) := by decide +kernel
theorem dX13_fulfills_1 : decode cX13_fulfills 1 = .ok (.aload_n 0, 1) := by decide +kernel
theorem dX13_fulfills_2 : decode cX13_fulfills 2 = .ok (.iload_n 2, 1) := by decide +kernel
theorem dX13_fulfills_3 : decode cX13_fulfills 3 = .ok (.iconst 0, 1) := by decide +kernel
theorem dX13_fulfills_4 : decode cX13_fulfills 4 = .ok (.invokevirtual 174, 3) := by decide +kernel
theorem dX13_fulfills_7 : decode cX13_fulfills 7 = .ok (.iload_n 1, 1) := by decide +kernel
theorem dX13_fulfills_8 : decode cX13_fulfills 8 = .ok (.invokevirtual 118, 3) := by decide +kernel
theorem dX13_fulfills_11 : decode cX13_fulfills 11 = .ok (.istore_n 3, 1) := by decide +kernel
theorem dX13_fulfills_12 : decode cX13_fulfills 12 = .ok (.aload_n 0, 1) := by decide +kernel
theorem dX13_fulfills_13 : decode cX13_fulfills 13 = .ok (.iload_n 2, 1) := by decide +kernel
theorem dX13_fulfills_14 : decode cX13_fulfills 14 = .ok (.iconst 1, 1) := by decide +kernel
theorem dX13_fulfills_15 : decode cX13_fulfills 15 = .ok (.invokevirtual 174, 3) := by decide +kernel
theorem dX13_fulfills_18 : decode cX13_fulfills 18 = .ok (.istore 4, 2) := by decide +kernel
theorem dX13_fulfills_20 : decode cX13_fulfills 20 = .ok (.aload_n 0, 1) := by decide +kernel
theorem dX13_fulfills_21 : decode cX13_fulfills 21 = .ok (.iload_n 2, 1) := by decide +kernel
theorem dX13_fulfills_22 : decode cX13_fulfills 22 = .ok (.iconst 2, 1) := by decide +kernel
theorem dX13_fulfills_23 : decode cX13_fulfills 23 = .ok (.invokevirtual 174, 3) := by decide +kernel
theorem dX13_fulfills_26 : decode cX13_fulfills 26 = .ok (.istore 5, 2) := by decide +kernel
theorem dX13_fulfills_28 : decode cX13_fulfills 28 = .ok (.iload 5, 2) := by decide +kernel
theorem dX13_fulfills_30 : decode cX13_fulfills 30 = .ok (.ifCond .ge 17, 3) := by decide +kernel
theorem dX13_fulfills_33 : decode cX13_fulfills 33 = .ok (.iload_n 3, 1) := by decide +kernel
theorem dX13_fulfills_34 : decode cX13_fulfills 34 = .ok (.iload 4, 2) := by decide +kernel
theorem dX13_fulfills_36 : decode cX13_fulfills 36 = .ok (.if_icmp .ge 7, 3) := by decide +kernel
theorem dX13_fulfills_39 : decode cX13_fulfills 39 = .ok (.iconst 1, 1) := by decide +kernel
theorem dX13_fulfills_40 : decode cX13_fulfills 40 = .ok (.goto 37, 3) := by decide +kernel
theorem dX13_fulfills_43 : decode cX13_fulfills 43 = .ok (.iconst 0, 1) := by decide +kernel
theorem dX13_fulfills_44 : decode cX13_fulfills 44 = .ok (.goto 33, 3) := by decide +kernel
theorem dX13_fulfills_47 : decode cX13_fulfills 47 = .ok (.iload 5, 2) := by decide +kernel
theorem dX13_fulfills_49 : decode cX13_fulfills 49 = .ok (.ifCond .le 17, 3) := by decide +kernel
theorem dX13_fulfills_52 : decode cX13_fulfills 52 = .ok (.iload_n 3, 1) := by decide +kernel
theorem dX13_fulfills_53 : decode cX13_fulfills 53 = .ok (.iload 4, 2) := by decide +kernel
theorem dX13_fulfills_55 : decode cX13_fulfills 55 = .ok (.if_icmp .le 7, 3) := by decide +kernel
theorem dX13_fulfills_58 : decode cX13_fulfills 58 = .ok (.iconst 1, 1) := by decide +kernel
theorem dX13_fulfills_59 : decode cX13_fulfills 59 = .ok (.goto 18, 3) := by decide +kernel
theorem dX13_fulfills_62 : decode cX13_fulfills 62 = .ok (.iconst 0, 1) := by decide +kernel
theorem dX13_fulfills_63 : decode cX13_fulfills 63 = .ok (.goto 14, 3) := by decide +kernel
theorem dX13_fulfills_66 : decode cX13_fulfills 66 = .ok (.iload_n 3, 1) := by decide +kernel
theorem dX13_fulfills_67 : decode cX13_fulfills 67 = .ok (.iload 4, 2) := by decide +kernel
theorem dX13_fulfills_69 : decode cX13_fulfills 69 = .ok (.if_icmp .ne 7, 3) := by decide +kernel
theorem dX13_fulfills_72 : decode cX13_fulfills 72 = .ok (.iconst 1, 1) := by decide +kernel
theorem dX13_fulfills_73 : decode cX13_fulfills 73 = .ok (.goto 4, 3) := by decide +kernel
theorem dX13_fulfills_76 : decode cX13_fulfills 76 = .ok (.iconst 0, 1) := by decide +kernel
theorem dX13_fulfills_77 : decode cX13_fulfills 77 = .ok (.ireturn, 1) := by decide +kernel
theorem dX13_rejection_0 : decode cX13_rejection 0 = .ok (.iconst 0, 1) := by decide +kernel
theorem dX13_rejection_1 : decode cX13_rejection 1 = .ok (.istore_n 2, 1) := by decide +kernel
theorem dX13_rejection_2 : decode cX13_rejection 2 = .ok (.iload_n 2, 1) := by decide +kernel
theorem dX13_rejection_3 : decode cX13_rejection 3 = .ok (.aload_n 0, 1) := by decide +kernel
theorem dX13_rejection_4 : decode cX13_rejection 4 = .ok (.getfield 35, 3) := by decide +kernel
theorem dX13_rejection_7 : decode cX13_rejection 7 = .ok (.iconst 2, 1) := by decide +kernel
theorem dX13_rejection_8 : decode cX13_rejection 8 = .ok (.iaload, 1) := by decide +kernel
theorem dX13_rejection_9 : decode cX13_rejection 9 = .ok (.if_icmp .ge 20, 3) := by decide +kernel
theorem dX13_rejection_12 : decode cX13_rejection 12 = .ok (.aload_n 0, 1) := by decide +kernel
theorem dX13_rejection_13 : decode cX13_rejection 13 = .ok (.iload_n 1, 1) := by decide +kernel
theorem dX13_rejection_14 : decode cX13_rejection 14 = .ok (.iload_n 2, 1) := by decide +kernel
theorem dX13_rejection_15 : decode cX13_rejection 15 = .ok (.invokevirtual 177, 3) := by decide +kernel
theorem dX13_rejection_18 : decode cX13_rejection 18 = .ok (.ifCond .ne 5, 3) := by decide +kernel
theorem dX13_rejection_21 : decode cX13_rejection 21 = .ok (.iload_n 2, 1) := by decide +kernel
theorem dX13_rejection_22 : decode cX13_rejection 22 = .ok (.ireturn, 1) := by decide +kernel
theorem dX13_rejection_23 : decode cX13_rejection 23 = .ok (.iinc 2 1, 3) := by decide +kernel
theorem dX13_rejection_26 : decode cX13_rejection 26 = .ok (.goto (-24), 3) := by decide +kernel
theorem dX13_rejection_29 : decode cX13_rejection 29 = .ok (.iconst (-1), 1) := by decide +kernel
theorem dX13_rejection_30 : decode cX13_rejection 30 = .ok (.ireturn, 1) := by decide +kernel
theorem dX13_selects_0 : decode cX13_selects 0 = .ok (.aload_n 0, 1) := by decide +kernel
theorem dX13_selects_1 : decode cX13_selects 1 = .ok (.iload_n 1, 1) := by decide +kernel
theorem dX13_selects_2 : decode cX13_selects 2 = .ok (.invokevirtual 180, 3) := by decide +kernel
theorem dX13_selects_5 : decode cX13_selects 5 = .ok (.iconst (-1), 1) := by decide +kernel
theorem dX13_selects_6 : decode cX13_selects 6 = .ok (.if_icmp .ne 7, 3) := by decide +kernel
theorem dX13_selects_9 : decode cX13_selects 9 = .ok (.iconst 1, 1) := by decide +kernel
theorem dX13_selects_10 : decode cX13_selects 10 = .ok (.goto 4, 3) := by decide +kernel
theorem dX13_selects_13 : decode cX13_selects 13 = .ok (.iconst 0, 1) := by decide +kernel
theorem dX13_selects_14 : decode cX13_selects 14 = .ok (.ireturn, 1) := by decide +kernel
theorem dX13_countSelected_0 : decode cX13_countSelected 0 = .ok (.iconst 0, 1) := by decide +kernel
theorem dX13_countSelected_1 : decode cX13_countSelected 1 = .ok (.istore_n 1, 1) := by decide +kernel
theorem dX13_countSelected_2 : decode cX13_countSelected 2 = .ok (.iconst 0, 1) := by decide +kernel
theorem dX13_countSelected_3 : decode cX13_countSelected 3 = .ok (.istore_n 2, 1) := by decide +kernel
theorem dX13_countSelected_4 : decode cX13_countSelected 4 = .ok (.iload_n 2, 1) := by decide +kernel
theorem dX13_countSelected_5 : decode cX13_countSelected 5 = .ok (.aload_n 0, 1) := by decide +kernel
theorem dX13_countSelected_6 : decode cX13_countSelected 6 = .ok (.getfield 35, 3) := by decide +kernel
theorem dX13_countSelected_9 : decode cX13_countSelected 9 = .ok (.iconst 1, 1) := by decide +kernel
theorem dX13_countSelected_10 : decode cX13_countSelected 10 = .ok (.iaload, 1) := by decide +kernel
theorem dX13_countSelected_11 : decode cX13_countSelected 11 = .ok (.if_icmp .ge 25, 3) := by decide +kernel
theorem dX13_countSelected_14 : decode cX13_countSelected 14 = .ok (.iload_n 1, 1) := by decide +kernel
theorem dX13_countSelected_15 : decode cX13_countSelected 15 = .ok (.aload_n 0, 1) := by decide +kernel
theorem dX13_countSelected_16 : decode cX13_countSelected 16 = .ok (.iload_n 2, 1) := by decide +kernel
theorem dX13_countSelected_17 : decode cX13_countSelected 17 = .ok (.invokevirtual 183, 3) := by decide +kernel
theorem dX13_countSelected_20 : decode cX13_countSelected 20 = .ok (.ifCond .eq 7, 3) := by decide +kernel
theorem dX13_countSelected_23 : decode cX13_countSelected 23 = .ok (.iconst 1, 1) := by decide +kernel
theorem dX13_countSelected_24 : decode cX13_countSelected 24 = .ok (.goto 4, 3) := by decide +kernel
theorem dX13_countSelected_27 : decode cX13_countSelected 27 = .ok (.iconst 0, 1) := by decide +kernel
theorem dX13_countSelected_28 : decode cX13_countSelected 28 = .ok (.iadd, 1) := by decide +kernel
theorem dX13_countSelected_29 : decode cX13_countSelected 29 = .ok (.istore_n 1, 1) := by decide +kernel
theorem dX13_countSelected_30 : decode cX13_countSelected 30 = .ok (.iinc 2 1, 3) := by decide +kernel
theorem dX13_countSelected_33 : decode cX13_countSelected 33 = .ok (.goto (-29), 3) := by decide +kernel
theorem dX13_countSelected_36 : decode cX13_countSelected 36 = .ok (.iload_n 1, 1) := by decide +kernel
theorem dX13_countSelected_37 : decode cX13_countSelected 37 = .ok (.ireturn, 1) := by decide +kernel
theorem dX13_countMatches_0 : decode cX13_countMatches 0 = .ok (.iconst 0, 1) := by decide +kernel
theorem dX13_countMatches_1 : decode cX13_countMatches 1 = .ok (.istore_n 2, 1) := by decide +kernel
theorem dX13_countMatches_2 : decode cX13_countMatches 2 = .ok (.iconst 0, 1) := by decide +kernel
theorem dX13_countMatches_3 : decode cX13_countMatches 3 = .ok (.istore_n 3, 1) := by decide +kernel
theorem dX13_countMatches_4 : decode cX13_countMatches 4 = .ok (.iload_n 3, 1) := by decide +kernel
theorem dX13_countMatches_5 : decode cX13_countMatches 5 = .ok (.aload_n 0, 1) := by decide +kernel
theorem dX13_countMatches_6 : decode cX13_countMatches 6 = .ok (.getfield 35, 3) := by decide +kernel
theorem dX13_countMatches_9 : decode cX13_countMatches 9 = .ok (.iconst 1, 1) := by decide +kernel
theorem dX13_countMatches_10 : decode cX13_countMatches 10 = .ok (.iaload, 1) := by decide +kernel
theorem dX13_countMatches_11 : decode cX13_countMatches 11 = .ok (.if_icmp .ge 26, 3) := by decide +kernel
theorem dX13_countMatches_14 : decode cX13_countMatches 14 = .ok (.iload_n 2, 1) := by decide +kernel
theorem dX13_countMatches_15 : decode cX13_countMatches 15 = .ok (.aload_n 0, 1) := by decide +kernel
theorem dX13_countMatches_16 : decode cX13_countMatches 16 = .ok (.iload_n 3, 1) := by decide +kernel
theorem dX13_countMatches_17 : decode cX13_countMatches 17 = .ok (.iload_n 1, 1) := by decide +kernel
theorem dX13_countMatches_18 : decode cX13_countMatches 18 = .ok (.invokevirtual 177, 3) := by decide +kernel
theorem dX13_countMatches_21 : decode cX13_countMatches 21 = .ok (.ifCond .eq 7, 3) := by decide +kernel
theorem dX13_countMatches_24 : decode cX13_countMatches 24 = .ok (.iconst 1, 1) := by decide +kernel
theorem dX13_countMatches_25 : decode cX13_countMatches 25 = .ok (.goto 4, 3) := by decide +kernel
theorem dX13_countMatches_28 : decode cX13_countMatches 28 = .ok (.iconst 0, 1) := by decide +kernel
theorem dX13_countMatches_29 : decode cX13_countMatches 29 = .ok (.iadd, 1) := by decide +kernel
theorem dX13_countMatches_30 : decode cX13_countMatches 30 = .ok (.istore_n 2, 1) := by decide +kernel
theorem dX13_countMatches_31 : decode cX13_countMatches 31 = .ok (.iinc 3 1, 3) := by decide +kernel
theorem dX13_countMatches_34 : decode cX13_countMatches 34 = .ok (.goto (-30), 3) := by decide +kernel
theorem dX13_countMatches_37 : decode cX13_countMatches 37 = .ok (.iload_n 2, 1) := by decide +kernel
theorem dX13_countMatches_38 : decode cX13_countMatches 38 = .ok (.ireturn, 1) := by decide +kernel
theorem dX13_conditionCount_0 : decode cX13_conditionCount 0 = .ok (.aload_n 0, 1) := by decide +kernel
theorem dX13_conditionCount_1 : decode cX13_conditionCount 1 = .ok (.iconst 0, 1) := by decide +kernel
theorem dX13_conditionCount_2 : decode cX13_conditionCount 2 = .ok (.putfield 85, 3) := by decide +kernel
theorem dX13_conditionCount_5 : decode cX13_conditionCount 5 = .ok (.aload_n 0, 1) := by decide +kernel
theorem dX13_conditionCount_6 : decode cX13_conditionCount 6 = .ok (.getfield 35, 3) := by decide +kernel
theorem dX13_conditionCount_9 : decode cX13_conditionCount 9 = .ok (.iconst 2, 1) := by decide +kernel
theorem dX13_conditionCount_10 : decode cX13_conditionCount 10 = .ok (.iaload, 1) := by decide +kernel
theorem dX13_conditionCount_11 : decode cX13_conditionCount 11 = .ok (.ireturn, 1) := by decide +kernel
theorem dX13_conditionColumn_0 : decode cX13_conditionColumn 0 = .ok (.aload_n 0, 1) := by decide +kernel
theorem dX13_conditionColumn_1 : decode cX13_conditionColumn 1 = .ok (.iload_n 1, 1) := by decide +kernel
theorem dX13_conditionColumn_2 : decode cX13_conditionColumn 2 = .ok (.iconst 0, 1) := by decide +kernel
theorem dX13_conditionColumn_3 : decode cX13_conditionColumn 3 = .ok (.invokevirtual 186, 3) := by decide +kernel
theorem dX13_conditionColumn_6 : decode cX13_conditionColumn 6 = .ok (.ireturn, 1) := by decide +kernel
theorem dX13_conditionValue_0 : decode cX13_conditionValue 0 = .ok (.aload_n 0, 1) := by decide +kernel
theorem dX13_conditionValue_1 : decode cX13_conditionValue 1 = .ok (.iload_n 1, 1) := by decide +kernel
theorem dX13_conditionValue_2 : decode cX13_conditionValue 2 = .ok (.iconst 1, 1) := by decide +kernel
theorem dX13_conditionValue_3 : decode cX13_conditionValue 3 = .ok (.invokevirtual 186, 3) := by decide +kernel
theorem dX13_conditionValue_6 : decode cX13_conditionValue 6 = .ok (.ireturn, 1) := by decide +kernel
theorem dX13_conditionDirection_0 : decode cX13_conditionDirection 0 = .ok (.aload_n 0, 1) := by decide +kernel
theorem dX13_conditionDirection_1 : decode cX13_conditionDirection 1 = .ok (.iload_n 1, 1) := by decide +kernel
theorem dX13_conditionDirection_2 : decode cX13_conditionDirection 2 = .ok (.iconst 2, 1) := by decide +kernel
theorem dX13_conditionDirection_3 : decode cX13_conditionDirection 3 = .ok (.invokevirtual 186, 3) := by decide +kernel
theorem dX13_conditionDirection_6 : decode cX13_conditionDirection 6 = .ok (.ireturn, 1) := by decide +kernel
theorem dX13_lowerCode_0 : decode cX13_lowerCode 0 = .ok (.aload_n 0, 1) := by decide +kernel
theorem dX13_lowerCode_1 : decode cX13_lowerCode 1 = .ok (.aload_n 0, 1) := by decide +kernel
theorem dX13_lowerCode_2 : decode cX13_lowerCode 2 = .ok (.iload_n 1, 1) := by decide +kernel
theorem dX13_lowerCode_3 : decode cX13_lowerCode 3 = .ok (.invokevirtual 171, 3) := by decide +kernel
theorem dX13_lowerCode_6 : decode cX13_lowerCode 6 = .ok (.invokevirtual 88, 3) := by decide +kernel
theorem dX13_lowerCode_9 : decode cX13_lowerCode 9 = .ok (.ifCond .eq 7, 3) := by decide +kernel
theorem dX13_lowerCode_12 : decode cX13_lowerCode 12 = .ok (.iconst 0, 1) := by decide +kernel
theorem dX13_lowerCode_13 : decode cX13_lowerCode 13 = .ok (.goto 8, 3) := by decide +kernel
theorem dX13_lowerCode_16 : decode cX13_lowerCode 16 = .ok (.aload_n 0, 1) := by decide +kernel
theorem dX13_lowerCode_17 : decode cX13_lowerCode 17 = .ok (.iload_n 1, 1) := by decide +kernel
theorem dX13_lowerCode_18 : decode cX13_lowerCode 18 = .ok (.invokevirtual 189, 3) := by decide +kernel
theorem dX13_lowerCode_21 : decode cX13_lowerCode 21 = .ok (.ireturn, 1) := by decide +kernel
theorem dX13_upperCode_0 : decode cX13_upperCode 0 = .ok (.aload_n 0, 1) := by decide +kernel
theorem dX13_upperCode_1 : decode cX13_upperCode 1 = .ok (.aload_n 0, 1) := by decide +kernel
theorem dX13_upperCode_2 : decode cX13_upperCode 2 = .ok (.iload_n 1, 1) := by decide +kernel
theorem dX13_upperCode_3 : decode cX13_upperCode 3 = .ok (.invokevirtual 171, 3) := by decide +kernel
theorem dX13_upperCode_6 : decode cX13_upperCode 6 = .ok (.invokevirtual 88, 3) := by decide +kernel
theorem dX13_upperCode_9 : decode cX13_upperCode 9 = .ok (.ifCond .eq 7, 3) := by decide +kernel
theorem dX13_upperCode_12 : decode cX13_upperCode 12 = .ok (.iconst 0, 1) := by decide +kernel
theorem dX13_upperCode_13 : decode cX13_upperCode 13 = .ok (.goto 8, 3) := by decide +kernel
theorem dX13_upperCode_16 : decode cX13_upperCode 16 = .ok (.aload_n 0, 1) := by decide +kernel
theorem dX13_upperCode_17 : decode cX13_upperCode 17 = .ok (.iload_n 1, 1) := by decide +kernel
theorem dX13_upperCode_18 : decode cX13_upperCode 18 = .ok (.invokevirtual 192, 3) := by decide +kernel
theorem dX13_upperCode_21 : decode cX13_upperCode 21 = .ok (.ireturn, 1) := by decide +kernel
theorem dX13_matches_0 : decode cX13_matches 0 = .ok (.aload_n 0, 1) := by decide +kernel
theorem dX13_matches_1 : decode cX13_matches 1 = .ok (.aload_n 0, 1) := by decide +kernel
theorem dX13_matches_2 : decode cX13_matches 2 = .ok (.iload_n 1, 1) := by decide +kernel
theorem dX13_matches_3 : decode cX13_matches 3 = .ok (.invokevirtual 171, 3) := by decide +kernel
theorem dX13_matches_6 : decode cX13_matches 6 = .ok (.invokevirtual 88, 3) := by decide +kernel
theorem dX13_matches_9 : decode cX13_matches 9 = .ok (.ifCond .eq 7, 3) := by decide +kernel
theorem dX13_matches_12 : decode cX13_matches 12 = .ok (.iconst 0, 1) := by decide +kernel
theorem dX13_matches_13 : decode cX13_matches 13 = .ok (.goto 8, 3) := by decide +kernel
theorem dX13_matches_16 : decode cX13_matches 16 = .ok (.aload_n 0, 1) := by decide +kernel
theorem dX13_matches_17 : decode cX13_matches 17 = .ok (.iload_n 1, 1) := by decide +kernel
theorem dX13_matches_18 : decode cX13_matches 18 = .ok (.invokevirtual 195, 3) := by decide +kernel
theorem dX13_matches_21 : decode cX13_matches 21 = .ok (.ireturn, 1) := by decide +kernel
theorem dX13_strictestCondition_0 : decode cX13_strictestCondition 0 = .ok (.aload_n 0, 1) := by decide +kernel
theorem dX13_strictestCondition_1 : decode cX13_strictestCondition 1 = .ok (.iconst 0, 1) := by decide +kernel
theorem dX13_strictestCondition_2 : decode cX13_strictestCondition 2 = .ok (.putfield 85, 3) := by decide +kernel
theorem dX13_strictestCondition_5 : decode cX13_strictestCondition 5 = .ok (.iconst (-1), 1) := by decide +kernel
theorem dX13_strictestCondition_6 : decode cX13_strictestCondition 6 = .ok (.istore_n 1, 1) := by decide +kernel
theorem dX13_strictestCondition_7 : decode cX13_strictestCondition 7 = .ok (.iconst 0, 1) := by decide +kernel
theorem dX13_strictestCondition_8 : decode cX13_strictestCondition 8 = .ok (.istore_n 2, 1) := by decide +kernel
theorem dX13_strictestCondition_9 : decode cX13_strictestCondition 9 = .ok (.iload_n 2, 1) := by decide +kernel
theorem dX13_strictestCondition_10 : decode cX13_strictestCondition 10 = .ok (.aload_n 0, 1) := by decide +kernel
theorem dX13_strictestCondition_11 : decode cX13_strictestCondition 11 = .ok (.getfield 35, 3) := by decide +kernel
theorem dX13_strictestCondition_14 : decode cX13_strictestCondition 14 = .ok (.iconst 2, 1) := by decide +kernel
theorem dX13_strictestCondition_15 : decode cX13_strictestCondition 15 = .ok (.iaload, 1) := by decide +kernel
theorem dX13_strictestCondition_16 : decode cX13_strictestCondition 16 = .ok (.if_icmp .ge 33, 3) := by decide +kernel
theorem dX13_strictestCondition_19 : decode cX13_strictestCondition 19 = .ok (.iload_n 1, 1) := by decide +kernel
theorem dX13_strictestCondition_20 : decode cX13_strictestCondition 20 = .ok (.iconst (-1), 1) := by decide +kernel
theorem dX13_strictestCondition_21 : decode cX13_strictestCondition 21 = .ok (.if_icmp .eq 16, 3) := by decide +kernel
theorem dX13_strictestCondition_24 : decode cX13_strictestCondition 24 = .ok (.aload_n 0, 1) := by decide +kernel
theorem dX13_strictestCondition_25 : decode cX13_strictestCondition 25 = .ok (.iload_n 2, 1) := by decide +kernel
theorem dX13_strictestCondition_26 : decode cX13_strictestCondition 26 = .ok (.invokevirtual 195, 3) := by decide +kernel
theorem dX13_strictestCondition_29 : decode cX13_strictestCondition 29 = .ok (.aload_n 0, 1) := by decide +kernel
theorem dX13_strictestCondition_30 : decode cX13_strictestCondition 30 = .ok (.iload_n 1, 1) := by decide +kernel
theorem dX13_strictestCondition_31 : decode cX13_strictestCondition 31 = .ok (.invokevirtual 195, 3) := by decide +kernel
theorem dX13_strictestCondition_34 : decode cX13_strictestCondition 34 = .ok (.if_icmp .ge 7, 3) := by decide +kernel
theorem dX13_strictestCondition_37 : decode cX13_strictestCondition 37 = .ok (.iload_n 2, 1) := by decide +kernel
theorem dX13_strictestCondition_38 : decode cX13_strictestCondition 38 = .ok (.goto 4, 3) := by decide +kernel
theorem dX13_strictestCondition_41 : decode cX13_strictestCondition 41 = .ok (.iload_n 1, 1) := by decide +kernel
theorem dX13_strictestCondition_42 : decode cX13_strictestCondition 42 = .ok (.istore_n 1, 1) := by decide +kernel
theorem dX13_strictestCondition_43 : decode cX13_strictestCondition 43 = .ok (.iinc 2 1, 3) := by decide +kernel
theorem dX13_strictestCondition_46 : decode cX13_strictestCondition 46 = .ok (.goto (-37), 3) := by decide +kernel
theorem dX13_strictestCondition_49 : decode cX13_strictestCondition 49 = .ok (.iload_n 1, 1) := by decide +kernel
theorem dX13_strictestCondition_50 : decode cX13_strictestCondition 50 = .ok (.ireturn, 1) := by decide +kernel
theorem dX13_isSelected_0 : decode cX13_isSelected 0 = .ok (.aload_n 0, 1) := by decide +kernel
theorem dX13_isSelected_1 : decode cX13_isSelected 1 = .ok (.aload_n 0, 1) := by decide +kernel
theorem dX13_isSelected_2 : decode cX13_isSelected 2 = .ok (.iload_n 1, 1) := by decide +kernel
theorem dX13_isSelected_3 : decode cX13_isSelected 3 = .ok (.invokevirtual 127, 3) := by decide +kernel
theorem dX13_isSelected_6 : decode cX13_isSelected 6 = .ok (.invokevirtual 88, 3) := by decide +kernel
theorem dX13_isSelected_9 : decode cX13_isSelected 9 = .ok (.ifCond .ne 15, 3) := by decide +kernel
theorem dX13_isSelected_12 : decode cX13_isSelected 12 = .ok (.aload_n 0, 1) := by decide +kernel
theorem dX13_isSelected_13 : decode cX13_isSelected 13 = .ok (.iload_n 1, 1) := by decide +kernel
theorem dX13_isSelected_14 : decode cX13_isSelected 14 = .ok (.invokevirtual 183, 3) := by decide +kernel
theorem dX13_isSelected_17 : decode cX13_isSelected 17 = .ok (.ifCond .eq 7, 3) := by decide +kernel
theorem dX13_isSelected_20 : decode cX13_isSelected 20 = .ok (.iconst 1, 1) := by decide +kernel
theorem dX13_isSelected_21 : decode cX13_isSelected 21 = .ok (.goto 4, 3) := by decide +kernel
theorem dX13_isSelected_24 : decode cX13_isSelected 24 = .ok (.iconst 0, 1) := by decide +kernel
theorem dX13_isSelected_25 : decode cX13_isSelected 25 = .ok (.ireturn, 1) := by decide +kernel
theorem dX13_selectedCount_0 : decode cX13_selectedCount 0 = .ok (.aload_n 0, 1) := by decide +kernel
theorem dX13_selectedCount_1 : decode cX13_selectedCount 1 = .ok (.iconst 0, 1) := by decide +kernel
theorem dX13_selectedCount_2 : decode cX13_selectedCount 2 = .ok (.putfield 85, 3) := by decide +kernel
theorem dX13_selectedCount_5 : decode cX13_selectedCount 5 = .ok (.aload_n 0, 1) := by decide +kernel
theorem dX13_selectedCount_6 : decode cX13_selectedCount 6 = .ok (.invokevirtual 198, 3) := by decide +kernel
theorem dX13_selectedCount_9 : decode cX13_selectedCount 9 = .ok (.ireturn, 1) := by decide +kernel
