/-! decode rows -/
theorem dX13_selectedRow_0 : decode cX13_selectedRow 0 = .ok (.aload_n 0, 1) := by decide +kernel
theorem dX13_selectedRow_1 : decode cX13_selectedRow 1 = .ok (.iconst 0, 1) := by decide +kernel
theorem dX13_selectedRow_2 : decode cX13_selectedRow 2 = .ok (.putfield 85, 3) := by decide +kernel
theorem dX13_selectedRow_5 : decode cX13_selectedRow 5 = .ok (.iload_n 1, 1) := by decide +kernel
theorem dX13_selectedRow_6 : decode cX13_selectedRow 6 = .ok (.istore_n 2, 1) := by decide +kernel
theorem dX13_selectedRow_7 : decode cX13_selectedRow 7 = .ok (.iconst 0, 1) := by decide +kernel
theorem dX13_selectedRow_8 : decode cX13_selectedRow 8 = .ok (.istore_n 3, 1) := by decide +kernel
theorem dX13_selectedRow_9 : decode cX13_selectedRow 9 = .ok (.iload_n 3, 1) := by decide +kernel
theorem dX13_selectedRow_10 : decode cX13_selectedRow 10 = .ok (.aload_n 0, 1) := by decide +kernel
theorem dX13_selectedRow_11 : decode cX13_selectedRow 11 = .ok (.getfield 35, 3) := by decide +kernel
theorem dX13_selectedRow_14 : decode cX13_selectedRow 14 = .ok (.iconst 1, 1) := by decide +kernel
theorem dX13_selectedRow_15 : decode cX13_selectedRow 15 = .ok (.iaload, 1) := by decide +kernel
theorem dX13_selectedRow_16 : decode cX13_selectedRow 16 = .ok (.if_icmp .ge 30, 3) := by decide +kernel
theorem dX13_selectedRow_19 : decode cX13_selectedRow 19 = .ok (.iload_n 2, 1) := by decide +kernel
theorem dX13_selectedRow_20 : decode cX13_selectedRow 20 = .ok (.ifCond .lt 26, 3) := by decide +kernel
theorem dX13_selectedRow_23 : decode cX13_selectedRow 23 = .ok (.aload_n 0, 1) := by decide +kernel
theorem dX13_selectedRow_24 : decode cX13_selectedRow 24 = .ok (.iload_n 3, 1) := by decide +kernel
theorem dX13_selectedRow_25 : decode cX13_selectedRow 25 = .ok (.invokevirtual 183, 3) := by decide +kernel
theorem dX13_selectedRow_28 : decode cX13_selectedRow 28 = .ok (.ifCond .eq 12, 3) := by decide +kernel
theorem dX13_selectedRow_31 : decode cX13_selectedRow 31 = .ok (.iload_n 2, 1) := by decide +kernel
theorem dX13_selectedRow_32 : decode cX13_selectedRow 32 = .ok (.ifCond .ne 5, 3) := by decide +kernel
theorem dX13_selectedRow_35 : decode cX13_selectedRow 35 = .ok (.iload_n 3, 1) := by decide +kernel
theorem dX13_selectedRow_36 : decode cX13_selectedRow 36 = .ok (.ireturn, 1) := by decide +kernel
theorem dX13_selectedRow_37 : decode cX13_selectedRow 37 = .ok (.iinc 2 (-1), 3) := by decide +kernel
theorem dX13_selectedRow_40 : decode cX13_selectedRow 40 = .ok (.iinc 3 1, 3) := by decide +kernel
theorem dX13_selectedRow_43 : decode cX13_selectedRow 43 = .ok (.goto (-34), 3) := by decide +kernel
theorem dX13_selectedRow_46 : decode cX13_selectedRow 46 = .ok (.iconst (-1), 1) := by decide +kernel
theorem dX13_selectedRow_47 : decode cX13_selectedRow 47 = .ok (.ireturn, 1) := by decide +kernel
theorem dX13_rejectedBy_0 : decode cX13_rejectedBy 0 = .ok (.aload_n 0, 1) := by decide +kernel
theorem dX13_rejectedBy_1 : decode cX13_rejectedBy 1 = .ok (.aload_n 0, 1) := by decide +kernel
theorem dX13_rejectedBy_2 : decode cX13_rejectedBy 2 = .ok (.iload_n 1, 1) := by decide +kernel
theorem dX13_rejectedBy_3 : decode cX13_rejectedBy 3 = .ok (.invokevirtual 127, 3) := by decide +kernel
theorem dX13_rejectedBy_6 : decode cX13_rejectedBy 6 = .ok (.invokevirtual 88, 3) := by decide +kernel
theorem dX13_rejectedBy_9 : decode cX13_rejectedBy 9 = .ok (.ifCond .eq 7, 3) := by decide +kernel
theorem dX13_rejectedBy_12 : decode cX13_rejectedBy 12 = .ok (.iconst 0, 1) := by decide +kernel
theorem dX13_rejectedBy_13 : decode cX13_rejectedBy 13 = .ok (.goto 8, 3) := by decide +kernel
theorem dX13_rejectedBy_16 : decode cX13_rejectedBy 16 = .ok (.aload_n 0, 1) := by decide +kernel
theorem dX13_rejectedBy_17 : decode cX13_rejectedBy 17 = .ok (.iload_n 1, 1) := by decide +kernel
theorem dX13_rejectedBy_18 : decode cX13_rejectedBy 18 = .ok (.invokevirtual 180, 3) := by decide +kernel
theorem dX13_rejectedBy_21 : decode cX13_rejectedBy 21 = .ok (.ireturn, 1) := by decide +kernel
theorem dX13_sumOf_0 : decode cX13_sumOf 0 = .ok (.lconst 0, 1) := by decide +kernel
theorem dX13_sumOf_1 : decode cX13_sumOf 1 = .ok (.lstore_n 2, 1) := by decide +kernel
theorem dX13_sumOf_2 : decode cX13_sumOf 2 = .ok (.iconst 0, 1) := by decide +kernel
theorem dX13_sumOf_3 : decode cX13_sumOf 3 = .ok (.istore 4, 2) := by decide +kernel
theorem dX13_sumOf_5 : decode cX13_sumOf 5 = .ok (.iload 4, 2) := by decide +kernel
theorem dX13_sumOf_7 : decode cX13_sumOf 7 = .ok (.aload_n 0, 1) := by decide +kernel
theorem dX13_sumOf_8 : decode cX13_sumOf 8 = .ok (.getfield 35, 3) := by decide +kernel
theorem dX13_sumOf_11 : decode cX13_sumOf 11 = .ok (.iconst 1, 1) := by decide +kernel
theorem dX13_sumOf_12 : decode cX13_sumOf 12 = .ok (.iaload, 1) := by decide +kernel
theorem dX13_sumOf_13 : decode cX13_sumOf 13 = .ok (.if_icmp .ge 33, 3) := by decide +kernel
theorem dX13_sumOf_16 : decode cX13_sumOf 16 = .ok (.lload_n 2, 1) := by decide +kernel
theorem dX13_sumOf_17 : decode cX13_sumOf 17 = .ok (.aload_n 0, 1) := by decide +kernel
theorem dX13_sumOf_18 : decode cX13_sumOf 18 = .ok (.iload 4, 2) := by decide +kernel
theorem dX13_sumOf_20 : decode cX13_sumOf 20 = .ok (.invokevirtual 183, 3) := by decide +kernel
theorem dX13_sumOf_23 : decode cX13_sumOf 23 = .ok (.ifCond .eq 14, 3) := by decide +kernel
theorem dX13_sumOf_26 : decode cX13_sumOf 26 = .ok (.aload_n 0, 1) := by decide +kernel
theorem dX13_sumOf_27 : decode cX13_sumOf 27 = .ok (.iload_n 1, 1) := by decide +kernel
theorem dX13_sumOf_28 : decode cX13_sumOf 28 = .ok (.iload 4, 2) := by decide +kernel
theorem dX13_sumOf_30 : decode cX13_sumOf 30 = .ok (.invokevirtual 118, 3) := by decide +kernel
theorem dX13_sumOf_33 : decode cX13_sumOf 33 = .ok (.i2l, 1) := by decide +kernel
theorem dX13_sumOf_34 : decode cX13_sumOf 34 = .ok (.goto 4, 3) := by decide +kernel
theorem dX13_sumOf_37 : decode cX13_sumOf 37 = .ok (.lconst 0, 1) := by decide +kernel
theorem dX13_sumOf_38 : decode cX13_sumOf 38 = .ok (.ladd, 1) := by decide +kernel
theorem dX13_sumOf_39 : decode cX13_sumOf 39 = .ok (.lstore_n 2, 1) := by decide +kernel
theorem dX13_sumOf_40 : decode cX13_sumOf 40 = .ok (.iinc 4 1, 3) := by decide +kernel
theorem dX13_sumOf_43 : decode cX13_sumOf 43 = .ok (.goto (-38), 3) := by decide +kernel
theorem dX13_sumOf_46 : decode cX13_sumOf 46 = .ok (.lload_n 2, 1) := by decide +kernel
theorem dX13_sumOf_47 : decode cX13_sumOf 47 = .ok (.lreturn, 1) := by decide +kernel
theorem dX13_sumSelected_0 : decode cX13_sumSelected 0 = .ok (.aload_n 0, 1) := by decide +kernel
theorem dX13_sumSelected_1 : decode cX13_sumSelected 1 = .ok (.aload_n 0, 1) := by decide +kernel
theorem dX13_sumSelected_2 : decode cX13_sumSelected 2 = .ok (.iload_n 1, 1) := by decide +kernel
theorem dX13_sumSelected_3 : decode cX13_sumSelected 3 = .ok (.invokevirtual 112, 3) := by decide +kernel
theorem dX13_sumSelected_6 : decode cX13_sumSelected 6 = .ok (.invokevirtual 88, 3) := by decide +kernel
theorem dX13_sumSelected_9 : decode cX13_sumSelected 9 = .ok (.ifCond .eq 7, 3) := by decide +kernel
theorem dX13_sumSelected_12 : decode cX13_sumSelected 12 = .ok (.lconst 0, 1) := by decide +kernel
theorem dX13_sumSelected_13 : decode cX13_sumSelected 13 = .ok (.goto 8, 3) := by decide +kernel
theorem dX13_sumSelected_16 : decode cX13_sumSelected 16 = .ok (.aload_n 0, 1) := by decide +kernel
theorem dX13_sumSelected_17 : decode cX13_sumSelected 17 = .ok (.iload_n 1, 1) := by decide +kernel
theorem dX13_sumSelected_18 : decode cX13_sumSelected 18 = .ok (.invokevirtual 201, 3) := by decide +kernel
theorem dX13_sumSelected_21 : decode cX13_sumSelected 21 = .ok (.lreturn, 1) := by decide +kernel
theorem dX13_extreme_0 : decode cX13_extreme 0 = .ok (.iload_n 2, 1) := by decide +kernel
theorem dX13_extreme_1 : decode cX13_extreme 1 = .ok (.sipush 10000, 3) := by decide +kernel
theorem dX13_extreme_4 : decode cX13_extreme 4 = .ok (.imul, 1) := by decide +kernel
theorem dX13_extreme_5 : decode cX13_extreme 5 = .ok (.istore_n 3, 1) := by decide +kernel
theorem dX13_extreme_6 : decode cX13_extreme 6 = .ok (.iconst 0, 1) := by decide +kernel
theorem dX13_extreme_7 : decode cX13_extreme 7 = .ok (.istore 4, 2) := by decide +kernel
theorem dX13_extreme_9 : decode cX13_extreme 9 = .ok (.iload 4, 2) := by decide +kernel
theorem dX13_extreme_11 : decode cX13_extreme 11 = .ok (.aload_n 0, 1) := by decide +kernel
theorem dX13_extreme_12 : decode cX13_extreme 12 = .ok (.getfield 35, 3) := by decide +kernel
theorem dX13_extreme_15 : decode cX13_extreme 15 = .ok (.iconst 1, 1) := by decide +kernel
theorem dX13_extreme_16 : decode cX13_extreme 16 = .ok (.iaload, 1) := by decide +kernel
theorem dX13_extreme_17 : decode cX13_extreme 17 = .ok (.if_icmp .ge 57, 3) := by decide +kernel
theorem dX13_extreme_20 : decode cX13_extreme 20 = .ok (.aload_n 0, 1) := by decide +kernel
theorem dX13_extreme_21 : decode cX13_extreme 21 = .ok (.iload 4, 2) := by decide +kernel
theorem dX13_extreme_23 : decode cX13_extreme 23 = .ok (.invokevirtual 183, 3) := by decide +kernel
theorem dX13_extreme_26 : decode cX13_extreme 26 = .ok (.ifCond .eq 22, 3) := by decide +kernel
theorem dX13_extreme_29 : decode cX13_extreme 29 = .ok (.iload_n 2, 1) := by decide +kernel
theorem dX13_extreme_30 : decode cX13_extreme 30 = .ok (.aload_n 0, 1) := by decide +kernel
theorem dX13_extreme_31 : decode cX13_extreme 31 = .ok (.iload_n 1, 1) := by decide +kernel
theorem dX13_extreme_32 : decode cX13_extreme 32 = .ok (.iload 4, 2) := by decide +kernel
theorem dX13_extreme_34 : decode cX13_extreme 34 = .ok (.invokevirtual 118, 3) := by decide +kernel
theorem dX13_extreme_37 : decode cX13_extreme 37 = .ok (.imul, 1) := by decide +kernel
theorem dX13_extreme_38 : decode cX13_extreme 38 = .ok (.iload_n 2, 1) := by decide +kernel
theorem dX13_extreme_39 : decode cX13_extreme 39 = .ok (.iload_n 3, 1) := by decide +kernel
theorem dX13_extreme_40 : decode cX13_extreme 40 = .ok (.imul, 1) := by decide +kernel
theorem dX13_extreme_41 : decode cX13_extreme 41 = .ok (.if_icmp .ge 7, 3) := by decide +kernel
theorem dX13_extreme_44 : decode cX13_extreme 44 = .ok (.iconst 1, 1) := by decide +kernel
theorem dX13_extreme_45 : decode cX13_extreme 45 = .ok (.goto 4, 3) := by decide +kernel
theorem dX13_extreme_48 : decode cX13_extreme 48 = .ok (.iconst 0, 1) := by decide +kernel
theorem dX13_extreme_49 : decode cX13_extreme 49 = .ok (.istore 5, 2) := by decide +kernel
theorem dX13_extreme_51 : decode cX13_extreme 51 = .ok (.iload 5, 2) := by decide +kernel
theorem dX13_extreme_53 : decode cX13_extreme 53 = .ok (.ifCond .eq 13, 3) := by decide +kernel
theorem dX13_extreme_56 : decode cX13_extreme 56 = .ok (.aload_n 0, 1) := by decide +kernel
theorem dX13_extreme_57 : decode cX13_extreme 57 = .ok (.iload_n 1, 1) := by decide +kernel
theorem dX13_extreme_58 : decode cX13_extreme 58 = .ok (.iload 4, 2) := by decide +kernel
theorem dX13_extreme_60 : decode cX13_extreme 60 = .ok (.invokevirtual 118, 3) := by decide +kernel
theorem dX13_extreme_63 : decode cX13_extreme 63 = .ok (.goto 4, 3) := by decide +kernel
theorem dX13_extreme_66 : decode cX13_extreme 66 = .ok (.iload_n 3, 1) := by decide +kernel
theorem dX13_extreme_67 : decode cX13_extreme 67 = .ok (.istore_n 3, 1) := by decide +kernel
theorem dX13_extreme_68 : decode cX13_extreme 68 = .ok (.iinc 4 1, 3) := by decide +kernel
theorem dX13_extreme_71 : decode cX13_extreme 71 = .ok (.goto (-62), 3) := by decide +kernel
theorem dX13_extreme_74 : decode cX13_extreme 74 = .ok (.iload_n 3, 1) := by decide +kernel
theorem dX13_extreme_75 : decode cX13_extreme 75 = .ok (.ireturn, 1) := by decide +kernel
theorem dX13_smallestSelected_0 : decode cX13_smallestSelected 0 = .ok (.aload_n 0, 1) := by decide +kernel
theorem dX13_smallestSelected_1 : decode cX13_smallestSelected 1 = .ok (.aload_n 0, 1) := by decide +kernel
theorem dX13_smallestSelected_2 : decode cX13_smallestSelected 2 = .ok (.iload_n 1, 1) := by decide +kernel
theorem dX13_smallestSelected_3 : decode cX13_smallestSelected 3 = .ok (.invokevirtual 112, 3) := by decide +kernel
theorem dX13_smallestSelected_6 : decode cX13_smallestSelected 6 = .ok (.aload_n 0, 1) := by decide +kernel
theorem dX13_smallestSelected_7 : decode cX13_smallestSelected 7 = .ok (.invokevirtual 198, 3) := by decide +kernel
theorem dX13_smallestSelected_10 : decode cX13_smallestSelected 10 = .ok (.ifCond .le 7, 3) := by decide +kernel
theorem dX13_smallestSelected_13 : decode cX13_smallestSelected 13 = .ok (.iconst 1, 1) := by decide +kernel
theorem dX13_smallestSelected_14 : decode cX13_smallestSelected 14 = .ok (.goto 4, 3) := by decide +kernel
theorem dX13_smallestSelected_17 : decode cX13_smallestSelected 17 = .ok (.iconst 0, 1) := by decide +kernel
theorem dX13_smallestSelected_18 : decode cX13_smallestSelected 18 = .ok (.invokevirtual 205, 3) := by decide +kernel
theorem dX13_smallestSelected_21 : decode cX13_smallestSelected 21 = .ok (.ifCond .eq 7, 3) := by decide +kernel
theorem dX13_smallestSelected_24 : decode cX13_smallestSelected 24 = .ok (.iconst 0, 1) := by decide +kernel
theorem dX13_smallestSelected_25 : decode cX13_smallestSelected 25 = .ok (.goto 9, 3) := by decide +kernel
theorem dX13_smallestSelected_28 : decode cX13_smallestSelected 28 = .ok (.aload_n 0, 1) := by decide +kernel
theorem dX13_smallestSelected_29 : decode cX13_smallestSelected 29 = .ok (.iload_n 1, 1) := by decide +kernel
theorem dX13_smallestSelected_30 : decode cX13_smallestSelected 30 = .ok (.iconst 1, 1) := by decide +kernel
theorem dX13_smallestSelected_31 : decode cX13_smallestSelected 31 = .ok (.invokevirtual 209, 3) := by decide +kernel
theorem dX13_smallestSelected_34 : decode cX13_smallestSelected 34 = .ok (.ireturn, 1) := by decide +kernel
theorem dX13_greatestSelected_0 : decode cX13_greatestSelected 0 = .ok (.aload_n 0, 1) := by decide +kernel
theorem dX13_greatestSelected_1 : decode cX13_greatestSelected 1 = .ok (.aload_n 0, 1) := by decide +kernel
theorem dX13_greatestSelected_2 : decode cX13_greatestSelected 2 = .ok (.iload_n 1, 1) := by decide +kernel
theorem dX13_greatestSelected_3 : decode cX13_greatestSelected 3 = .ok (.invokevirtual 112, 3) := by decide +kernel
theorem dX13_greatestSelected_6 : decode cX13_greatestSelected 6 = .ok (.aload_n 0, 1) := by decide +kernel
theorem dX13_greatestSelected_7 : decode cX13_greatestSelected 7 = .ok (.invokevirtual 198, 3) := by decide +kernel
theorem dX13_greatestSelected_10 : decode cX13_greatestSelected 10 = .ok (.ifCond .le 7, 3) := by decide +kernel
theorem dX13_greatestSelected_13 : decode cX13_greatestSelected 13 = .ok (.iconst 1, 1) := by decide +kernel
theorem dX13_greatestSelected_14 : decode cX13_greatestSelected 14 = .ok (.goto 4, 3) := by decide +kernel
theorem dX13_greatestSelected_17 : decode cX13_greatestSelected 17 = .ok (.iconst 0, 1) := by decide +kernel
theorem dX13_greatestSelected_18 : decode cX13_greatestSelected 18 = .ok (.invokevirtual 205, 3) := by decide +kernel
theorem dX13_greatestSelected_21 : decode cX13_greatestSelected 21 = .ok (.ifCond .eq 7, 3) := by decide +kernel
theorem dX13_greatestSelected_24 : decode cX13_greatestSelected 24 = .ok (.iconst 0, 1) := by decide +kernel
theorem dX13_greatestSelected_25 : decode cX13_greatestSelected 25 = .ok (.goto 9, 3) := by decide +kernel
theorem dX13_greatestSelected_28 : decode cX13_greatestSelected 28 = .ok (.aload_n 0, 1) := by decide +kernel
theorem dX13_greatestSelected_29 : decode cX13_greatestSelected 29 = .ok (.iload_n 1, 1) := by decide +kernel
theorem dX13_greatestSelected_30 : decode cX13_greatestSelected 30 = .ok (.iconst (-1), 1) := by decide +kernel
theorem dX13_greatestSelected_31 : decode cX13_greatestSelected 31 = .ok (.invokevirtual 209, 3) := by decide +kernel
theorem dX13_greatestSelected_34 : decode cX13_greatestSelected 34 = .ok (.ireturn, 1) := by decide +kernel
theorem dX13_isFirstSelected_0 : decode cX13_isFirstSelected 0 = .ok (.iconst 0, 1) := by decide +kernel
theorem dX13_isFirstSelected_1 : decode cX13_isFirstSelected 1 = .ok (.istore_n 3, 1) := by decide +kernel
theorem dX13_isFirstSelected_2 : decode cX13_isFirstSelected 2 = .ok (.iload_n 3, 1) := by decide +kernel
theorem dX13_isFirstSelected_3 : decode cX13_isFirstSelected 3 = .ok (.iload_n 2, 1) := by decide +kernel
theorem dX13_isFirstSelected_4 : decode cX13_isFirstSelected 4 = .ok (.if_icmp .ge 34, 3) := by decide +kernel
theorem dX13_isFirstSelected_7 : decode cX13_isFirstSelected 7 = .ok (.aload_n 0, 1) := by decide +kernel
theorem dX13_isFirstSelected_8 : decode cX13_isFirstSelected 8 = .ok (.iload_n 3, 1) := by decide +kernel
theorem dX13_isFirstSelected_9 : decode cX13_isFirstSelected 9 = .ok (.invokevirtual 183, 3) := by decide +kernel
theorem dX13_isFirstSelected_12 : decode cX13_isFirstSelected 12 = .ok (.ifCond .eq 20, 3) := by decide +kernel
theorem dX13_isFirstSelected_15 : decode cX13_isFirstSelected 15 = .ok (.aload_n 0, 1) := by decide +kernel
theorem dX13_isFirstSelected_16 : decode cX13_isFirstSelected 16 = .ok (.iload_n 1, 1) := by decide +kernel
theorem dX13_isFirstSelected_17 : decode cX13_isFirstSelected 17 = .ok (.iload_n 3, 1) := by decide +kernel
theorem dX13_isFirstSelected_18 : decode cX13_isFirstSelected 18 = .ok (.invokevirtual 118, 3) := by decide +kernel
theorem dX13_isFirstSelected_21 : decode cX13_isFirstSelected 21 = .ok (.aload_n 0, 1) := by decide +kernel
theorem dX13_isFirstSelected_22 : decode cX13_isFirstSelected 22 = .ok (.iload_n 1, 1) := by decide +kernel
theorem dX13_isFirstSelected_23 : decode cX13_isFirstSelected 23 = .ok (.iload_n 2, 1) := by decide +kernel
theorem dX13_isFirstSelected_24 : decode cX13_isFirstSelected 24 = .ok (.invokevirtual 118, 3) := by decide +kernel
theorem dX13_isFirstSelected_27 : decode cX13_isFirstSelected 27 = .ok (.if_icmp .ne 5, 3) := by decide +kernel
theorem dX13_isFirstSelected_30 : decode cX13_isFirstSelected 30 = .ok (.iconst 0, 1) := by decide +kernel
theorem dX13_isFirstSelected_31 : decode cX13_isFirstSelected 31 = .ok (.ireturn, 1) := by decide +kernel
theorem dX13_isFirstSelected_32 : decode cX13_isFirstSelected 32 = .ok (.iinc 3 1, 3) := by decide +kernel
theorem dX13_isFirstSelected_35 : decode cX13_isFirstSelected 35 = .ok (.goto (-33), 3) := by decide +kernel
theorem dX13_isFirstSelected_38 : decode cX13_isFirstSelected 38 = .ok (.aload_n 0, 1) := by decide +kernel
theorem dX13_isFirstSelected_39 : decode cX13_isFirstSelected 39 = .ok (.iload_n 2, 1) := by decide +kernel
theorem dX13_isFirstSelected_40 : decode cX13_isFirstSelected 40 = .ok (.invokevirtual 183, 3) := by decide +kernel
theorem dX13_isFirstSelected_43 : decode cX13_isFirstSelected 43 = .ok (.ireturn, 1) := by decide +kernel
theorem dX13_distinctSelected_0 : decode cX13_distinctSelected 0 = .ok (.aload_n 0, 1) := by decide +kernel
theorem dX13_distinctSelected_1 : decode cX13_distinctSelected 1 = .ok (.aload_n 0, 1) := by decide +kernel
theorem dX13_distinctSelected_2 : decode cX13_distinctSelected 2 = .ok (.iload_n 1, 1) := by decide +kernel
theorem dX13_distinctSelected_3 : decode cX13_distinctSelected 3 = .ok (.invokevirtual 112, 3) := by decide +kernel
theorem dX13_distinctSelected_6 : decode cX13_distinctSelected 6 = .ok (.invokevirtual 88, 3) := by decide +kernel
theorem dX13_distinctSelected_9 : decode cX13_distinctSelected 9 = .ok (.ifCond .eq 5, 3) := by decide +kernel
theorem dX13_distinctSelected_12 : decode cX13_distinctSelected 12 = .ok (.iconst 0, 1) := by decide +kernel
theorem dX13_distinctSelected_13 : decode cX13_distinctSelected 13 = .ok (.ireturn, 1) := by decide +kernel
theorem dX13_distinctSelected_14 : decode cX13_distinctSelected 14 = .ok (.iconst 0, 1) := by decide +kernel
theorem dX13_distinctSelected_15 : decode cX13_distinctSelected 15 = .ok (.istore_n 2, 1) := by decide +kernel
theorem dX13_distinctSelected_16 : decode cX13_distinctSelected 16 = .ok (.iconst 0, 1) := by decide +kernel
theorem dX13_distinctSelected_17 : decode cX13_distinctSelected 17 = .ok (.istore_n 3, 1) := by decide +kernel
theorem dX13_distinctSelected_18 : decode cX13_distinctSelected 18 = .ok (.iload_n 3, 1) := by decide +kernel
theorem dX13_distinctSelected_19 : decode cX13_distinctSelected 19 = .ok (.aload_n 0, 1) := by decide +kernel
theorem dX13_distinctSelected_20 : decode cX13_distinctSelected 20 = .ok (.getfield 35, 3) := by decide +kernel
theorem dX13_distinctSelected_23 : decode cX13_distinctSelected 23 = .ok (.iconst 1, 1) := by decide +kernel
theorem dX13_distinctSelected_24 : decode cX13_distinctSelected 24 = .ok (.iaload, 1) := by decide +kernel
theorem dX13_distinctSelected_25 : decode cX13_distinctSelected 25 = .ok (.if_icmp .ge 26, 3) := by decide +kernel
theorem dX13_distinctSelected_28 : decode cX13_distinctSelected 28 = .ok (.iload_n 2, 1) := by decide +kernel
theorem dX13_distinctSelected_29 : decode cX13_distinctSelected 29 = .ok (.aload_n 0, 1) := by decide +kernel
theorem dX13_distinctSelected_30 : decode cX13_distinctSelected 30 = .ok (.iload_n 1, 1) := by decide +kernel
theorem dX13_distinctSelected_31 : decode cX13_distinctSelected 31 = .ok (.iload_n 3, 1) := by decide +kernel
theorem dX13_distinctSelected_32 : decode cX13_distinctSelected 32 = .ok (.invokevirtual 212, 3) := by decide +kernel
theorem dX13_distinctSelected_35 : decode cX13_distinctSelected 35 = .ok (.ifCond .eq 7, 3) := by decide +kernel
theorem dX13_distinctSelected_38 : decode cX13_distinctSelected 38 = .ok (.iconst 1, 1) := by decide +kernel
theorem dX13_distinctSelected_39 : decode cX13_distinctSelected 39 = .ok (.goto 4, 3) := by decide +kernel
theorem dX13_distinctSelected_42 : decode cX13_distinctSelected 42 = .ok (.iconst 0, 1) := by decide +kernel
theorem dX13_distinctSelected_43 : decode cX13_distinctSelected 43 = .ok (.iadd, 1) := by decide +kernel
theorem dX13_distinctSelected_44 : decode cX13_distinctSelected 44 = .ok (.istore_n 2, 1) := by decide +kernel
theorem dX13_distinctSelected_45 : decode cX13_distinctSelected 45 = .ok (.iinc 3 1, 3) := by decide +kernel
theorem dX13_distinctSelected_48 : decode cX13_distinctSelected 48 = .ok (.goto (-30), 3) := by decide +kernel
theorem dX13_distinctSelected_51 : decode cX13_distinctSelected 51 = .ok (.iload_n 2, 1) := by decide +kernel
theorem dX13_distinctSelected_52 : decode cX13_distinctSelected 52 = .ok (.ireturn, 1) := by decide +kernel
theorem dX13_meanSelected_0 : decode cX13_meanSelected 0 = .ok (.aload_n 0, 1) := by decide +kernel
theorem dX13_meanSelected_1 : decode cX13_meanSelected 1 = .ok (.aload_n 0, 1) := by decide +kernel
theorem dX13_meanSelected_2 : decode cX13_meanSelected 2 = .ok (.iload_n 1, 1) := by decide +kernel
theorem dX13_meanSelected_3 : decode cX13_meanSelected 3 = .ok (.invokevirtual 112, 3) := by decide +kernel
theorem dX13_meanSelected_6 : decode cX13_meanSelected 6 = .ok (.invokevirtual 88, 3) := by decide +kernel
theorem dX13_meanSelected_9 : decode cX13_meanSelected 9 = .ok (.ifCond .eq 5, 3) := by decide +kernel
theorem dX13_meanSelected_12 : decode cX13_meanSelected 12 = .ok (.dconst 0, 1) := by decide +kernel
theorem dX13_meanSelected_13 : decode cX13_meanSelected 13 = .ok (.dreturn, 1) := by decide +kernel
theorem dX13_meanSelected_14 : decode cX13_meanSelected 14 = .ok (.aload_n 0, 1) := by decide +kernel
theorem dX13_meanSelected_15 : decode cX13_meanSelected 15 = .ok (.invokevirtual 198, 3) := by decide +kernel
theorem dX13_meanSelected_18 : decode cX13_meanSelected 18 = .ok (.istore_n 2, 1) := by decide +kernel
theorem dX13_meanSelected_19 : decode cX13_meanSelected 19 = .ok (.iload_n 2, 1) := by decide +kernel
theorem dX13_meanSelected_20 : decode cX13_meanSelected 20 = .ok (.ifCond .ne 7, 3) := by decide +kernel
theorem dX13_meanSelected_23 : decode cX13_meanSelected 23 = .ok (.dconst 0, 1) := by decide +kernel
theorem dX13_meanSelected_24 : decode cX13_meanSelected 24 = .ok (.goto 12, 3) := by decide +kernel
theorem dX13_meanSelected_27 : decode cX13_meanSelected 27 = .ok (.aload_n 0, 1) := by decide +kernel
theorem dX13_meanSelected_28 : decode cX13_meanSelected 28 = .ok (.iload_n 1, 1) := by decide +kernel
theorem dX13_meanSelected_29 : decode cX13_meanSelected 29 = .ok (.invokevirtual 201, 3) := by decide +kernel
theorem dX13_meanSelected_32 : decode cX13_meanSelected 32 = .ok (.l2d, 1) := by decide +kernel
theorem dX13_meanSelected_33 : decode cX13_meanSelected 33 = .ok (.iload_n 2, 1) := by decide +kernel
theorem dX13_meanSelected_34 : decode cX13_meanSelected 34 = .ok (.i2d, 1) := by decide +kernel
theorem dX13_meanSelected_35 : decode cX13_meanSelected 35 = .ok (.ddiv, 1) := by decide +kernel
theorem dX13_meanSelected_36 : decode cX13_meanSelected 36 = .ok (.dreturn, 1) := by decide +kernel
theorem dX13_selectivity_0 : decode cX13_selectivity 0 = .ok (.aload_n 0, 1) := by decide +kernel
theorem dX13_selectivity_1 : decode cX13_selectivity 1 = .ok (.iconst 0, 1) := by decide +kernel
theorem dX13_selectivity_2 : decode cX13_selectivity 2 = .ok (.putfield 85, 3) := by decide +kernel
theorem dX13_selectivity_5 : decode cX13_selectivity 5 = .ok (.aload_n 0, 1) := by decide +kernel
theorem dX13_selectivity_6 : decode cX13_selectivity 6 = .ok (.getfield 35, 3) := by decide +kernel
theorem dX13_selectivity_9 : decode cX13_selectivity 9 = .ok (.iconst 1, 1) := by decide +kernel
theorem dX13_selectivity_10 : decode cX13_selectivity 10 = .ok (.iaload, 1) := by decide +kernel
theorem dX13_selectivity_11 : decode cX13_selectivity 11 = .ok (.ifCond .ne 7, 3) := by decide +kernel
theorem dX13_selectivity_14 : decode cX13_selectivity 14 = .ok (.fconst 0, 1) := by decide +kernel
theorem dX13_selectivity_15 : decode cX13_selectivity 15 = .ok (.goto 16, 3) := by decide +kernel
theorem dX13_selectivity_18 : decode cX13_selectivity 18 = .ok (.aload_n 0, 1) := by decide +kernel
theorem dX13_selectivity_19 : decode cX13_selectivity 19 = .ok (.invokevirtual 198, 3) := by decide +kernel
theorem dX13_selectivity_22 : decode cX13_selectivity 22 = .ok (.i2f, 1) := by decide +kernel
theorem dX13_selectivity_23 : decode cX13_selectivity 23 = .ok (.aload_n 0, 1) := by decide +kernel
theorem dX13_selectivity_24 : decode cX13_selectivity 24 = .ok (.getfield 35, 3) := by decide +kernel
theorem dX13_selectivity_27 : decode cX13_selectivity 27 = .ok (.iconst 1, 1) := by decide +kernel
theorem dX13_selectivity_28 : decode cX13_selectivity 28 = .ok (.iaload, 1) := by decide +kernel
theorem dX13_selectivity_29 : decode cX13_selectivity 29 = .ok (.i2f, 1) := by decide +kernel
theorem dX13_selectivity_30 : decode cX13_selectivity 30 = .ok (.fdiv, 1) := by decide +kernel
theorem dX13_selectivity_31 : decode cX13_selectivity 31 = .ok (.freturn, 1) := by decide +kernel
theorem dX13_bitWidthWith_0 : decode cX13_bitWidthWith 0 = .ok (.aload_n 0, 1) := by decide +kernel
theorem dX13_bitWidthWith_1 : decode cX13_bitWidthWith 1 = .ok (.aload_n 0, 1) := by decide +kernel
theorem dX13_bitWidthWith_2 : decode cX13_bitWidthWith 2 = .ok (.iload_n 1, 1) := by decide +kernel
theorem dX13_bitWidthWith_3 : decode cX13_bitWidthWith 3 = .ok (.invokevirtual 112, 3) := by decide +kernel
theorem dX13_bitWidthWith_6 : decode cX13_bitWidthWith 6 = .ok (.iload_n 2, 1) := by decide +kernel
theorem dX13_bitWidthWith_7 : decode cX13_bitWidthWith 7 = .ok (.invokestatic 104, 3) := by decide +kernel
theorem dX13_bitWidthWith_10 : decode cX13_bitWidthWith 10 = .ok (.invokevirtual 205, 3) := by decide +kernel
theorem dX13_bitWidthWith_13 : decode cX13_bitWidthWith 13 = .ok (.ifCond .eq 5, 3) := by decide +kernel
theorem dX13_bitWidthWith_16 : decode cX13_bitWidthWith 16 = .ok (.iconst 0, 1) := by decide +kernel
theorem dX13_bitWidthWith_17 : decode cX13_bitWidthWith 17 = .ok (.ireturn, 1) := by decide +kernel
theorem dX13_bitWidthWith_18 : decode cX13_bitWidthWith 18 = .ok (.aload_n 0, 1) := by decide +kernel
theorem dX13_bitWidthWith_19 : decode cX13_bitWidthWith 19 = .ok (.iload_n 1, 1) := by decide +kernel
theorem dX13_bitWidthWith_20 : decode cX13_bitWidthWith 20 = .ok (.invokevirtual 115, 3) := by decide +kernel
theorem dX13_bitWidthWith_23 : decode cX13_bitWidthWith 23 = .ok (.aload_n 0, 1) := by decide +kernel
theorem dX13_bitWidthWith_24 : decode cX13_bitWidthWith 24 = .ok (.iload_n 1, 1) := by decide +kernel
theorem dX13_bitWidthWith_25 : decode cX13_bitWidthWith 25 = .ok (.iload_n 2, 1) := by decide +kernel
theorem dX13_bitWidthWith_26 : decode cX13_bitWidthWith 26 = .ok (.invokevirtual 142, 3) := by decide +kernel
theorem dX13_bitWidthWith_29 : decode cX13_bitWidthWith 29 = .ok (.ifCond .eq 7, 3) := by decide +kernel
theorem dX13_bitWidthWith_32 : decode cX13_bitWidthWith 32 = .ok (.iconst 0, 1) := by decide +kernel
theorem dX13_bitWidthWith_33 : decode cX13_bitWidthWith 33 = .ok (.goto 4, 3) := by decide +kernel
theorem dX13_bitWidthWith_36 : decode cX13_bitWidthWith 36 = .ok (.iconst 1, 1) := by decide +kernel
theorem dX13_bitWidthWith_37 : decode cX13_bitWidthWith 37 = .ok (.iadd, 1) := by decide +kernel
theorem dX13_bitWidthWith_38 : decode cX13_bitWidthWith 38 = .ok (.invokestatic 151, 3) := by decide +kernel
theorem dX13_bitWidthWith_41 : decode cX13_bitWidthWith 41 = .ok (.ireturn, 1) := by decide +kernel
theorem dX13_bitWidthCompacted_0 : decode cX13_bitWidthCompacted 0 = .ok (.aload_n 0, 1) := by decide +kernel
theorem dX13_bitWidthCompacted_1 : decode cX13_bitWidthCompacted 1 = .ok (.aload_n 0, 1) := by decide +kernel
theorem dX13_bitWidthCompacted_2 : decode cX13_bitWidthCompacted 2 = .ok (.iload_n 1, 1) := by decide +kernel
theorem dX13_bitWidthCompacted_3 : decode cX13_bitWidthCompacted 3 = .ok (.invokevirtual 112, 3) := by decide +kernel
theorem dX13_bitWidthCompacted_6 : decode cX13_bitWidthCompacted 6 = .ok (.invokevirtual 88, 3) := by decide +kernel
theorem dX13_bitWidthCompacted_9 : decode cX13_bitWidthCompacted 9 = .ok (.ifCond .eq 7, 3) := by decide +kernel
theorem dX13_bitWidthCompacted_12 : decode cX13_bitWidthCompacted 12 = .ok (.iconst 0, 1) := by decide +kernel
theorem dX13_bitWidthCompacted_13 : decode cX13_bitWidthCompacted 13 = .ok (.goto 11, 3) := by decide +kernel
theorem dX13_bitWidthCompacted_16 : decode cX13_bitWidthCompacted 16 = .ok (.aload_n 0, 1) := by decide +kernel
theorem dX13_bitWidthCompacted_17 : decode cX13_bitWidthCompacted 17 = .ok (.iload_n 1, 1) := by decide +kernel
theorem dX13_bitWidthCompacted_18 : decode cX13_bitWidthCompacted 18 = .ok (.invokevirtual 145, 3) := by decide +kernel
theorem dX13_bitWidthCompacted_21 : decode cX13_bitWidthCompacted 21 = .ok (.invokestatic 151, 3) := by decide +kernel
theorem dX13_bitWidthCompacted_24 : decode cX13_bitWidthCompacted 24 = .ok (.ireturn, 1) := by decide +kernel
theorem dX13_putInOrder_0 : decode cX13_putInOrder 0 = .ok (.iconst 0, 1) := by decide +kernel
theorem dX13_putInOrder_1 : decode cX13_putInOrder 1 = .ok (.istore_n 3, 1) := by decide +kernel
theorem dX13_putInOrder_2 : decode cX13_putInOrder 2 = .ok (.iload_n 3, 1) := by decide +kernel
theorem dX13_putInOrder_3 : decode cX13_putInOrder 3 = .ok (.aload_n 0, 1) := by decide +kernel
theorem dX13_putInOrder_4 : decode cX13_putInOrder 4 = .ok (.getfield 35, 3) := by decide +kernel
theorem dX13_putInOrder_7 : decode cX13_putInOrder 7 = .ok (.iconst 1, 1) := by decide +kernel
theorem dX13_putInOrder_8 : decode cX13_putInOrder 8 = .ok (.iaload, 1) := by decide +kernel
theorem dX13_putInOrder_9 : decode cX13_putInOrder 9 = .ok (.if_icmp .ge 74, 3) := by decide +kernel
theorem dX13_putInOrder_12 : decode cX13_putInOrder 12 = .ok (.iload_n 3, 1) := by decide +kernel
theorem dX13_putInOrder_13 : decode cX13_putInOrder 13 = .ok (.istore 4, 2) := by decide +kernel
theorem dX13_putInOrder_15 : decode cX13_putInOrder 15 = .ok (.iload 4, 2) := by decide +kernel
theorem dX13_putInOrder_17 : decode cX13_putInOrder 17 = .ok (.ifCond .le 52, 3) := by decide +kernel
theorem dX13_putInOrder_20 : decode cX13_putInOrder 20 = .ok (.iload_n 2, 1) := by decide +kernel
theorem dX13_putInOrder_21 : decode cX13_putInOrder 21 = .ok (.aload_n 0, 1) := by decide +kernel
theorem dX13_putInOrder_22 : decode cX13_putInOrder 22 = .ok (.iload_n 1, 1) := by decide +kernel
theorem dX13_putInOrder_23 : decode cX13_putInOrder 23 = .ok (.aload_n 0, 1) := by decide +kernel
theorem dX13_putInOrder_24 : decode cX13_putInOrder 24 = .ok (.getfield 26, 3) := by decide +kernel
theorem dX13_putInOrder_27 : decode cX13_putInOrder 27 = .ok (.iload 4, 2) := by decide +kernel
theorem dX13_putInOrder_29 : decode cX13_putInOrder 29 = .ok (.iconst 1, 1) := by decide +kernel
theorem dX13_putInOrder_30 : decode cX13_putInOrder 30 = .ok (.isub, 1) := by decide +kernel
theorem dX13_putInOrder_31 : decode cX13_putInOrder 31 = .ok (.iaload, 1) := by decide +kernel
theorem dX13_putInOrder_32 : decode cX13_putInOrder 32 = .ok (.invokevirtual 118, 3) := by decide +kernel
theorem dX13_putInOrder_35 : decode cX13_putInOrder 35 = .ok (.imul, 1) := by decide +kernel
theorem dX13_putInOrder_36 : decode cX13_putInOrder 36 = .ok (.iload_n 2, 1) := by decide +kernel
theorem dX13_putInOrder_37 : decode cX13_putInOrder 37 = .ok (.aload_n 0, 1) := by decide +kernel
theorem dX13_putInOrder_38 : decode cX13_putInOrder 38 = .ok (.iload_n 1, 1) := by decide +kernel
theorem dX13_putInOrder_39 : decode cX13_putInOrder 39 = .ok (.iload_n 3, 1) := by decide +kernel
theorem dX13_putInOrder_40 : decode cX13_putInOrder 40 = .ok (.invokevirtual 118, 3) := by decide +kernel
theorem dX13_putInOrder_43 : decode cX13_putInOrder 43 = .ok (.imul, 1) := by decide +kernel
theorem dX13_putInOrder_44 : decode cX13_putInOrder 44 = .ok (.if_icmp .le 25, 3) := by decide +kernel
theorem dX13_putInOrder_47 : decode cX13_putInOrder 47 = .ok (.aload_n 0, 1) := by decide +kernel
theorem dX13_putInOrder_48 : decode cX13_putInOrder 48 = .ok (.getfield 26, 3) := by decide +kernel
theorem dX13_putInOrder_51 : decode cX13_putInOrder 51 = .ok (.iload 4, 2) := by decide +kernel
theorem dX13_putInOrder_53 : decode cX13_putInOrder 53 = .ok (.aload_n 0, 1) := by decide +kernel
theorem dX13_putInOrder_54 : decode cX13_putInOrder 54 = .ok (.getfield 26, 3) := by decide +kernel
theorem dX13_putInOrder_57 : decode cX13_putInOrder 57 = .ok (.iload 4, 2) := by decide +kernel
theorem dX13_putInOrder_59 : decode cX13_putInOrder 59 = .ok (.iconst 1, 1) := by decide +kernel
theorem dX13_putInOrder_60 : decode cX13_putInOrder 60 = .ok (.isub, 1) := by decide +kernel
theorem dX13_putInOrder_61 : decode cX13_putInOrder 61 = .ok (.iaload, 1) := by decide +kernel
theorem dX13_putInOrder_62 : decode cX13_putInOrder 62 = .ok (.iastore, 1) := by decide +kernel
theorem dX13_putInOrder_63 : decode cX13_putInOrder 63 = .ok (.iinc 4 (-1), 3) := by decide +kernel
theorem dX13_putInOrder_66 : decode cX13_putInOrder 66 = .ok (.goto (-51), 3) := by decide +kernel
theorem dX13_putInOrder_69 : decode cX13_putInOrder 69 = .ok (.aload_n 0, 1) := by decide +kernel
theorem dX13_putInOrder_70 : decode cX13_putInOrder 70 = .ok (.getfield 26, 3) := by decide +kernel
theorem dX13_putInOrder_73 : decode cX13_putInOrder 73 = .ok (.iload 4, 2) := by decide +kernel
theorem dX13_putInOrder_75 : decode cX13_putInOrder 75 = .ok (.iload_n 3, 1) := by decide +kernel
theorem dX13_putInOrder_76 : decode cX13_putInOrder 76 = .ok (.iastore, 1) := by decide +kernel
theorem dX13_putInOrder_77 : decode cX13_putInOrder 77 = .ok (.iinc 3 1, 3) := by decide +kernel
theorem dX13_putInOrder_80 : decode cX13_putInOrder 80 = .ok (.goto (-78), 3) := by decide +kernel
theorem dX13_putInOrder_83 : decode cX13_putInOrder 83 = .ok (.return_, 1) := by decide +kernel
theorem dX13_runsInOrder_0 : decode cX13_runsInOrder 0 = .ok (.aload_n 0, 1) := by decide +kernel
theorem dX13_runsInOrder_1 : decode cX13_runsInOrder 1 = .ok (.getfield 35, 3) := by decide +kernel
theorem dX13_runsInOrder_4 : decode cX13_runsInOrder 4 = .ok (.iconst 1, 1) := by decide +kernel
theorem dX13_runsInOrder_5 : decode cX13_runsInOrder 5 = .ok (.iaload, 1) := by decide +kernel
theorem dX13_runsInOrder_6 : decode cX13_runsInOrder 6 = .ok (.ifCond .le 7, 3) := by decide +kernel
theorem dX13_runsInOrder_9 : decode cX13_runsInOrder 9 = .ok (.iconst 1, 1) := by decide +kernel
theorem dX13_runsInOrder_10 : decode cX13_runsInOrder 10 = .ok (.goto 4, 3) := by decide +kernel
theorem dX13_runsInOrder_13 : decode cX13_runsInOrder 13 = .ok (.iconst 0, 1) := by decide +kernel
theorem dX13_runsInOrder_14 : decode cX13_runsInOrder 14 = .ok (.istore_n 2, 1) := by decide +kernel
theorem dX13_runsInOrder_15 : decode cX13_runsInOrder 15 = .ok (.iconst 1, 1) := by decide +kernel
theorem dX13_runsInOrder_16 : decode cX13_runsInOrder 16 = .ok (.istore_n 3, 1) := by decide +kernel
theorem dX13_runsInOrder_17 : decode cX13_runsInOrder 17 = .ok (.iload_n 3, 1) := by decide +kernel
theorem dX13_runsInOrder_18 : decode cX13_runsInOrder 18 = .ok (.aload_n 0, 1) := by decide +kernel
theorem dX13_runsInOrder_19 : decode cX13_runsInOrder 19 = .ok (.getfield 35, 3) := by decide +kernel
theorem dX13_runsInOrder_22 : decode cX13_runsInOrder 22 = .ok (.iconst 1, 1) := by decide +kernel
theorem dX13_runsInOrder_23 : decode cX13_runsInOrder 23 = .ok (.iaload, 1) := by decide +kernel
theorem dX13_runsInOrder_24 : decode cX13_runsInOrder 24 = .ok (.if_icmp .ge 44, 3) := by decide +kernel
theorem dX13_runsInOrder_27 : decode cX13_runsInOrder 27 = .ok (.iload_n 2, 1) := by decide +kernel
theorem dX13_runsInOrder_28 : decode cX13_runsInOrder 28 = .ok (.aload_n 0, 1) := by decide +kernel
theorem dX13_runsInOrder_29 : decode cX13_runsInOrder 29 = .ok (.iload_n 1, 1) := by decide +kernel
theorem dX13_runsInOrder_30 : decode cX13_runsInOrder 30 = .ok (.aload_n 0, 1) := by decide +kernel
theorem dX13_runsInOrder_31 : decode cX13_runsInOrder 31 = .ok (.getfield 26, 3) := by decide +kernel
theorem dX13_runsInOrder_34 : decode cX13_runsInOrder 34 = .ok (.iload_n 3, 1) := by decide +kernel
theorem dX13_runsInOrder_35 : decode cX13_runsInOrder 35 = .ok (.iaload, 1) := by decide +kernel
theorem dX13_runsInOrder_36 : decode cX13_runsInOrder 36 = .ok (.invokevirtual 118, 3) := by decide +kernel
theorem dX13_runsInOrder_39 : decode cX13_runsInOrder 39 = .ok (.aload_n 0, 1) := by decide +kernel
theorem dX13_runsInOrder_40 : decode cX13_runsInOrder 40 = .ok (.iload_n 1, 1) := by decide +kernel
theorem dX13_runsInOrder_41 : decode cX13_runsInOrder 41 = .ok (.aload_n 0, 1) := by decide +kernel
theorem dX13_runsInOrder_42 : decode cX13_runsInOrder 42 = .ok (.getfield 26, 3) := by decide +kernel
theorem dX13_runsInOrder_45 : decode cX13_runsInOrder 45 = .ok (.iload_n 3, 1) := by decide +kernel
theorem dX13_runsInOrder_46 : decode cX13_runsInOrder 46 = .ok (.iconst 1, 1) := by decide +kernel
theorem dX13_runsInOrder_47 : decode cX13_runsInOrder 47 = .ok (.isub, 1) := by decide +kernel
theorem dX13_runsInOrder_48 : decode cX13_runsInOrder 48 = .ok (.iaload, 1) := by decide +kernel
theorem dX13_runsInOrder_49 : decode cX13_runsInOrder 49 = .ok (.invokevirtual 118, 3) := by decide +kernel
theorem dX13_runsInOrder_52 : decode cX13_runsInOrder 52 = .ok (.if_icmp .eq 7, 3) := by decide +kernel
theorem dX13_runsInOrder_55 : decode cX13_runsInOrder 55 = .ok (.iconst 1, 1) := by decide +kernel
theorem dX13_runsInOrder_56 : decode cX13_runsInOrder 56 = .ok (.goto 4, 3) := by decide +kernel
theorem dX13_runsInOrder_59 : decode cX13_runsInOrder 59 = .ok (.iconst 0, 1) := by decide +kernel
theorem dX13_runsInOrder_60 : decode cX13_runsInOrder 60 = .ok (.iadd, 1) := by decide +kernel
theorem dX13_runsInOrder_61 : decode cX13_runsInOrder 61 = .ok (.istore_n 2, 1) := by decide +kernel
theorem dX13_runsInOrder_62 : decode cX13_runsInOrder 62 = .ok (.iinc 3 1, 3) := by decide +kernel
theorem dX13_runsInOrder_65 : decode cX13_runsInOrder 65 = .ok (.goto (-48), 3) := by decide +kernel
theorem dX13_runsInOrder_68 : decode cX13_runsInOrder 68 = .ok (.iload_n 2, 1) := by decide +kernel
theorem dX13_runsInOrder_69 : decode cX13_runsInOrder 69 = .ok (.ireturn, 1) := by decide +kernel
theorem dX13_runsBy_0 : decode cX13_runsBy 0 = .ok (.aload_n 0, 1) := by decide +kernel
theorem dX13_runsBy_1 : decode cX13_runsBy 1 = .ok (.iload_n 1, 1) := by decide +kernel
theorem dX13_runsBy_2 : decode cX13_runsBy 2 = .ok (.iconst 1, 1) := by decide +kernel
theorem dX13_runsBy_3 : decode cX13_runsBy 3 = .ok (.invokevirtual 215, 3) := by decide +kernel
theorem dX13_runsBy_6 : decode cX13_runsBy 6 = .ok (.iconst 0, 1) := by decide +kernel
theorem dX13_runsBy_7 : decode cX13_runsBy 7 = .ok (.istore_n 2, 1) := by decide +kernel
theorem dX13_runsBy_8 : decode cX13_runsBy 8 = .ok (.iconst 0, 1) := by decide +kernel
theorem dX13_runsBy_9 : decode cX13_runsBy 9 = .ok (.istore_n 3, 1) := by decide +kernel
theorem dX13_runsBy_10 : decode cX13_runsBy 10 = .ok (.iload_n 3, 1) := by decide +kernel
theorem dX13_runsBy_11 : decode cX13_runsBy 11 = .ok (.aload_n 0, 1) := by decide +kernel
theorem dX13_runsBy_12 : decode cX13_runsBy 12 = .ok (.getfield 35, 3) := by decide +kernel
theorem dX13_runsBy_15 : decode cX13_runsBy 15 = .ok (.iconst 0, 1) := by decide +kernel
theorem dX13_runsBy_16 : decode cX13_runsBy 16 = .ok (.iaload, 1) := by decide +kernel
theorem dX13_runsBy_17 : decode cX13_runsBy 17 = .ok (.if_icmp .ge 17, 3) := by decide +kernel
theorem dX13_runsBy_20 : decode cX13_runsBy 20 = .ok (.iload_n 2, 1) := by decide +kernel
theorem dX13_runsBy_21 : decode cX13_runsBy 21 = .ok (.aload_n 0, 1) := by decide +kernel
theorem dX13_runsBy_22 : decode cX13_runsBy 22 = .ok (.iload_n 3, 1) := by decide +kernel
theorem dX13_runsBy_23 : decode cX13_runsBy 23 = .ok (.invokevirtual 219, 3) := by decide +kernel
theorem dX13_runsBy_26 : decode cX13_runsBy 26 = .ok (.iadd, 1) := by decide +kernel
theorem dX13_runsBy_27 : decode cX13_runsBy 27 = .ok (.istore_n 2, 1) := by decide +kernel
theorem dX13_runsBy_28 : decode cX13_runsBy 28 = .ok (.iinc 3 1, 3) := by decide +kernel
theorem dX13_runsBy_31 : decode cX13_runsBy 31 = .ok (.goto (-21), 3) := by decide +kernel
theorem dX13_runsBy_34 : decode cX13_runsBy 34 = .ok (.iload_n 2, 1) := by decide +kernel
theorem dX13_runsBy_35 : decode cX13_runsBy 35 = .ok (.ireturn, 1) := by decide +kernel
theorem dX13_runsIfSorted_0 : decode cX13_runsIfSorted 0 = .ok (.aload_n 0, 1) := by decide +kernel
theorem dX13_runsIfSorted_1 : decode cX13_runsIfSorted 1 = .ok (.aload_n 0, 1) := by decide +kernel
theorem dX13_runsIfSorted_2 : decode cX13_runsIfSorted 2 = .ok (.iload_n 1, 1) := by decide +kernel
theorem dX13_runsIfSorted_3 : decode cX13_runsIfSorted 3 = .ok (.invokevirtual 112, 3) := by decide +kernel
theorem dX13_runsIfSorted_6 : decode cX13_runsIfSorted 6 = .ok (.invokevirtual 88, 3) := by decide +kernel
theorem dX13_runsIfSorted_9 : decode cX13_runsIfSorted 9 = .ok (.ifCond .eq 7, 3) := by decide +kernel
theorem dX13_runsIfSorted_12 : decode cX13_runsIfSorted 12 = .ok (.iconst 0, 1) := by decide +kernel
theorem dX13_runsIfSorted_13 : decode cX13_runsIfSorted 13 = .ok (.goto 8, 3) := by decide +kernel
theorem dX13_runsIfSorted_16 : decode cX13_runsIfSorted 16 = .ok (.aload_n 0, 1) := by decide +kernel
theorem dX13_runsIfSorted_17 : decode cX13_runsIfSorted 17 = .ok (.iload_n 1, 1) := by decide +kernel
theorem dX13_runsIfSorted_18 : decode cX13_runsIfSorted 18 = .ok (.invokevirtual 222, 3) := by decide +kernel
theorem dX13_runsIfSorted_21 : decode cX13_runsIfSorted 21 = .ok (.ireturn, 1) := by decide +kernel
theorem dX13_bestSortColumn_0 : decode cX13_bestSortColumn 0 = .ok (.aload_n 0, 1) := by decide +kernel
theorem dX13_bestSortColumn_1 : decode cX13_bestSortColumn 1 = .ok (.iconst 0, 1) := by decide +kernel
theorem dX13_bestSortColumn_2 : decode cX13_bestSortColumn 2 = .ok (.putfield 85, 3) := by decide +kernel
theorem dX13_bestSortColumn_5 : decode cX13_bestSortColumn 5 = .ok (.iconst 0, 1) := by decide +kernel
theorem dX13_bestSortColumn_6 : decode cX13_bestSortColumn 6 = .ok (.istore_n 1, 1) := by decide +kernel
theorem dX13_bestSortColumn_7 : decode cX13_bestSortColumn 7 = .ok (.iconst 1, 1) := by decide +kernel
theorem dX13_bestSortColumn_8 : decode cX13_bestSortColumn 8 = .ok (.istore_n 2, 1) := by decide +kernel
theorem dX13_bestSortColumn_9 : decode cX13_bestSortColumn 9 = .ok (.iload_n 2, 1) := by decide +kernel
theorem dX13_bestSortColumn_10 : decode cX13_bestSortColumn 10 = .ok (.aload_n 0, 1) := by decide +kernel
theorem dX13_bestSortColumn_11 : decode cX13_bestSortColumn 11 = .ok (.getfield 35, 3) := by decide +kernel
theorem dX13_bestSortColumn_14 : decode cX13_bestSortColumn 14 = .ok (.iconst 0, 1) := by decide +kernel
theorem dX13_bestSortColumn_15 : decode cX13_bestSortColumn 15 = .ok (.iaload, 1) := by decide +kernel
theorem dX13_bestSortColumn_16 : decode cX13_bestSortColumn 16 = .ok (.if_icmp .ge 28, 3) := by decide +kernel
theorem dX13_bestSortColumn_19 : decode cX13_bestSortColumn 19 = .ok (.aload_n 0, 1) := by decide +kernel
theorem dX13_bestSortColumn_20 : decode cX13_bestSortColumn 20 = .ok (.iload_n 2, 1) := by decide +kernel
theorem dX13_bestSortColumn_21 : decode cX13_bestSortColumn 21 = .ok (.invokevirtual 222, 3) := by decide +kernel
theorem dX13_bestSortColumn_24 : decode cX13_bestSortColumn 24 = .ok (.aload_n 0, 1) := by decide +kernel
theorem dX13_bestSortColumn_25 : decode cX13_bestSortColumn 25 = .ok (.iload_n 1, 1) := by decide +kernel
theorem dX13_bestSortColumn_26 : decode cX13_bestSortColumn 26 = .ok (.invokevirtual 222, 3) := by decide +kernel
theorem dX13_bestSortColumn_29 : decode cX13_bestSortColumn 29 = .ok (.if_icmp .ge 7, 3) := by decide +kernel
theorem dX13_bestSortColumn_32 : decode cX13_bestSortColumn 32 = .ok (.iload_n 2, 1) := by decide +kernel
theorem dX13_bestSortColumn_33 : decode cX13_bestSortColumn 33 = .ok (.goto 4, 3) := by decide +kernel
theorem dX13_bestSortColumn_36 : decode cX13_bestSortColumn 36 = .ok (.iload_n 1, 1) := by decide +kernel
theorem dX13_bestSortColumn_37 : decode cX13_bestSortColumn 37 = .ok (.istore_n 1, 1) := by decide +kernel
theorem dX13_bestSortColumn_38 : decode cX13_bestSortColumn 38 = .ok (.iinc 2 1, 3) := by decide +kernel
theorem dX13_bestSortColumn_41 : decode cX13_bestSortColumn 41 = .ok (.goto (-32), 3) := by decide +kernel
theorem dX13_bestSortColumn_44 : decode cX13_bestSortColumn 44 = .ok (.iload_n 1, 1) := by decide +kernel
theorem dX13_bestSortColumn_45 : decode cX13_bestSortColumn 45 = .ok (.ireturn, 1) := by decide +kernel
theorem dX13_selectsByCodes_0 : decode cX13_selectsByCodes 0 = .ok (.iconst 0, 1) := by decide +kernel
theorem dX13_selectsByCodes_1 : decode cX13_selectsByCodes 1 = .ok (.istore_n 2, 1) := by decide +kernel
theorem dX13_selectsByCodes_2 : decode cX13_selectsByCodes 2 = .ok (.iload_n 2, 1) := by decide +kernel
theorem dX13_selectsByCodes_3 : decode cX13_selectsByCodes 3 = .ok (.aload_n 0, 1) := by decide +kernel
theorem dX13_selectsByCodes_4 : decode cX13_selectsByCodes 4 = .ok (.getfield 35, 3) := by decide +kernel
theorem dX13_selectsByCodes_7 : decode cX13_selectsByCodes 7 = .ok (.iconst 2, 1) := by decide +kernel
theorem dX13_selectsByCodes_8 : decode cX13_selectsByCodes 8 = .ok (.iaload, 1) := by decide +kernel
theorem dX13_selectsByCodes_9 : decode cX13_selectsByCodes 9 = .ok (.if_icmp .ge 40, 3) := by decide +kernel
theorem dX13_selectsByCodes_12 : decode cX13_selectsByCodes 12 = .ok (.aload_n 0, 1) := by decide +kernel
theorem dX13_selectsByCodes_13 : decode cX13_selectsByCodes 13 = .ok (.aload_n 0, 1) := by decide +kernel
theorem dX13_selectsByCodes_14 : decode cX13_selectsByCodes 14 = .ok (.iload_n 2, 1) := by decide +kernel
theorem dX13_selectsByCodes_15 : decode cX13_selectsByCodes 15 = .ok (.iconst 0, 1) := by decide +kernel
theorem dX13_selectsByCodes_16 : decode cX13_selectsByCodes 16 = .ok (.invokevirtual 174, 3) := by decide +kernel
theorem dX13_selectsByCodes_19 : decode cX13_selectsByCodes 19 = .ok (.iload_n 1, 1) := by decide +kernel
theorem dX13_selectsByCodes_20 : decode cX13_selectsByCodes 20 = .ok (.invokevirtual 133, 3) := by decide +kernel
theorem dX13_selectsByCodes_23 : decode cX13_selectsByCodes 23 = .ok (.aload_n 0, 1) := by decide +kernel
theorem dX13_selectsByCodes_24 : decode cX13_selectsByCodes 24 = .ok (.iload_n 2, 1) := by decide +kernel
theorem dX13_selectsByCodes_25 : decode cX13_selectsByCodes 25 = .ok (.invokevirtual 189, 3) := by decide +kernel
theorem dX13_selectsByCodes_28 : decode cX13_selectsByCodes 28 = .ok (.aload_n 0, 1) := by decide +kernel
theorem dX13_selectsByCodes_29 : decode cX13_selectsByCodes 29 = .ok (.iload_n 2, 1) := by decide +kernel
theorem dX13_selectsByCodes_30 : decode cX13_selectsByCodes 30 = .ok (.invokevirtual 192, 3) := by decide +kernel
theorem dX13_selectsByCodes_33 : decode cX13_selectsByCodes 33 = .ok (.iconst 1, 1) := by decide +kernel
theorem dX13_selectsByCodes_34 : decode cX13_selectsByCodes 34 = .ok (.isub, 1) := by decide +kernel
theorem dX13_selectsByCodes_35 : decode cX13_selectsByCodes 35 = .ok (.invokestatic 92, 3) := by decide +kernel
theorem dX13_selectsByCodes_38 : decode cX13_selectsByCodes 38 = .ok (.ifCond .ne 5, 3) := by decide +kernel
theorem dX13_selectsByCodes_41 : decode cX13_selectsByCodes 41 = .ok (.iconst 0, 1) := by decide +kernel
theorem dX13_selectsByCodes_42 : decode cX13_selectsByCodes 42 = .ok (.ireturn, 1) := by decide +kernel
theorem dX13_selectsByCodes_43 : decode cX13_selectsByCodes 43 = .ok (.iinc 2 1, 3) := by decide +kernel
theorem dX13_selectsByCodes_46 : decode cX13_selectsByCodes 46 = .ok (.goto (-44), 3) := by decide +kernel
theorem dX13_selectsByCodes_49 : decode cX13_selectsByCodes 49 = .ok (.iconst 1, 1) := by decide +kernel
theorem dX13_selectsByCodes_50 : decode cX13_selectsByCodes 50 = .ok (.ireturn, 1) := by decide +kernel
theorem dX13_gap_0 : decode cX13_gap 0 = .ok (.aload_n 0, 1) := by decide +kernel
theorem dX13_gap_1 : decode cX13_gap 1 = .ok (.iconst 0, 1) := by decide +kernel
theorem dX13_gap_2 : decode cX13_gap 2 = .ok (.putfield 85, 3) := by decide +kernel
theorem dX13_gap_5 : decode cX13_gap 5 = .ok (.iconst 0, 1) := by decide +kernel
theorem dX13_gap_6 : decode cX13_gap 6 = .ok (.istore_n 1, 1) := by decide +kernel
theorem dX13_gap_7 : decode cX13_gap 7 = .ok (.iconst 0, 1) := by decide +kernel
theorem dX13_gap_8 : decode cX13_gap 8 = .ok (.istore_n 2, 1) := by decide +kernel
theorem dX13_gap_9 : decode cX13_gap 9 = .ok (.iload_n 2, 1) := by decide +kernel
theorem dX13_gap_10 : decode cX13_gap 10 = .ok (.aload_n 0, 1) := by decide +kernel
theorem dX13_gap_11 : decode cX13_gap 11 = .ok (.getfield 35, 3) := by decide +kernel
theorem dX13_gap_14 : decode cX13_gap 14 = .ok (.iconst 1, 1) := by decide +kernel
theorem dX13_gap_15 : decode cX13_gap 15 = .ok (.iaload, 1) := by decide +kernel
theorem dX13_gap_16 : decode cX13_gap 16 = .ok (.if_icmp .ge 76, 3) := by decide +kernel
theorem dX13_gap_19 : decode cX13_gap 19 = .ok (.iload_n 1, 1) := by decide +kernel
theorem dX13_gap_20 : decode cX13_gap 20 = .ok (.aload_n 0, 1) := by decide +kernel
theorem dX13_gap_21 : decode cX13_gap 21 = .ok (.iload_n 2, 1) := by decide +kernel
theorem dX13_gap_22 : decode cX13_gap 22 = .ok (.invokevirtual 183, 3) := by decide +kernel
theorem dX13_gap_25 : decode cX13_gap 25 = .ok (.aload_n 0, 1) := by decide +kernel
theorem dX13_gap_26 : decode cX13_gap 26 = .ok (.iload_n 2, 1) := by decide +kernel
theorem dX13_gap_27 : decode cX13_gap 27 = .ok (.invokevirtual 225, 3) := by decide +kernel
theorem dX13_gap_30 : decode cX13_gap 30 = .ok (.if_icmp .ne 7, 3) := by decide +kernel
theorem dX13_gap_33 : decode cX13_gap 33 = .ok (.iconst 0, 1) := by decide +kernel
theorem dX13_gap_34 : decode cX13_gap 34 = .ok (.goto 4, 3) := by decide +kernel
theorem dX13_gap_37 : decode cX13_gap 37 = .ok (.iconst 1, 1) := by decide +kernel
theorem dX13_gap_38 : decode cX13_gap 38 = .ok (.iadd, 1) := by decide +kernel
theorem dX13_gap_39 : decode cX13_gap 39 = .ok (.istore_n 1, 1) := by decide +kernel
theorem dX13_gap_40 : decode cX13_gap 40 = .ok (.iconst 0, 1) := by decide +kernel
theorem dX13_gap_41 : decode cX13_gap 41 = .ok (.istore_n 3, 1) := by decide +kernel
theorem dX13_gap_42 : decode cX13_gap 42 = .ok (.iload_n 3, 1) := by decide +kernel
theorem dX13_gap_43 : decode cX13_gap 43 = .ok (.aload_n 0, 1) := by decide +kernel
theorem dX13_gap_44 : decode cX13_gap 44 = .ok (.getfield 35, 3) := by decide +kernel
theorem dX13_gap_47 : decode cX13_gap 47 = .ok (.iconst 0, 1) := by decide +kernel
theorem dX13_gap_48 : decode cX13_gap 48 = .ok (.iaload, 1) := by decide +kernel
theorem dX13_gap_49 : decode cX13_gap 49 = .ok (.if_icmp .ge 37, 3) := by decide +kernel
theorem dX13_gap_52 : decode cX13_gap 52 = .ok (.iload_n 1, 1) := by decide +kernel
theorem dX13_gap_53 : decode cX13_gap 53 = .ok (.aload_n 0, 1) := by decide +kernel
theorem dX13_gap_54 : decode cX13_gap 54 = .ok (.iload_n 3, 1) := by decide +kernel
theorem dX13_gap_55 : decode cX13_gap 55 = .ok (.aload_n 0, 1) := by decide +kernel
theorem dX13_gap_56 : decode cX13_gap 56 = .ok (.iload_n 3, 1) := by decide +kernel
theorem dX13_gap_57 : decode cX13_gap 57 = .ok (.iload_n 2, 1) := by decide +kernel
theorem dX13_gap_58 : decode cX13_gap 58 = .ok (.invokevirtual 133, 3) := by decide +kernel
theorem dX13_gap_61 : decode cX13_gap 61 = .ok (.invokevirtual 139, 3) := by decide +kernel
theorem dX13_gap_64 : decode cX13_gap 64 = .ok (.aload_n 0, 1) := by decide +kernel
theorem dX13_gap_65 : decode cX13_gap 65 = .ok (.iload_n 3, 1) := by decide +kernel
theorem dX13_gap_66 : decode cX13_gap 66 = .ok (.iload_n 2, 1) := by decide +kernel
theorem dX13_gap_67 : decode cX13_gap 67 = .ok (.invokevirtual 118, 3) := by decide +kernel
theorem dX13_gap_70 : decode cX13_gap 70 = .ok (.if_icmp .ne 7, 3) := by decide +kernel
theorem dX13_gap_73 : decode cX13_gap 73 = .ok (.iconst 0, 1) := by decide +kernel
theorem dX13_gap_74 : decode cX13_gap 74 = .ok (.goto 4, 3) := by decide +kernel
theorem dX13_gap_77 : decode cX13_gap 77 = .ok (.iconst 1, 1) := by decide +kernel
theorem dX13_gap_78 : decode cX13_gap 78 = .ok (.iadd, 1) := by decide +kernel
theorem dX13_gap_79 : decode cX13_gap 79 = .ok (.istore_n 1, 1) := by decide +kernel
theorem dX13_gap_80 : decode cX13_gap 80 = .ok (.iinc 3 1, 3) := by decide +kernel
theorem dX13_gap_83 : decode cX13_gap 83 = .ok (.goto (-41), 3) := by decide +kernel
theorem dX13_gap_86 : decode cX13_gap 86 = .ok (.iinc 2 1, 3) := by decide +kernel
theorem dX13_gap_89 : decode cX13_gap 89 = .ok (.goto (-80), 3) := by decide +kernel
theorem dX13_gap_92 : decode cX13_gap 92 = .ok (.iload_n 1, 1) := by decide +kernel
theorem dX13_gap_93 : decode cX13_gap 93 = .ok (.ireturn, 1) := by decide +kernel
theorem dX13_putRow_0 : decode cX13_putRow 0 = .ok (.iconst 0, 1) := by decide +kernel
theorem dX13_putRow_1 : decode cX13_putRow 1 = .ok (.istore_n 1, 1) := by decide +kernel
theorem dX13_putRow_2 : decode cX13_putRow 2 = .ok (.iload_n 1, 1) := by decide +kernel
theorem dX13_putRow_3 : decode cX13_putRow 3 = .ok (.aload_n 0, 1) := by decide +kernel
theorem dX13_putRow_4 : decode cX13_putRow 4 = .ok (.getfield 35, 3) := by decide +kernel
theorem dX13_putRow_7 : decode cX13_putRow 7 = .ok (.iconst 0, 1) := by decide +kernel
theorem dX13_putRow_8 : decode cX13_putRow 8 = .ok (.iaload, 1) := by decide +kernel
theorem dX13_putRow_9 : decode cX13_putRow 9 = .ok (.if_icmp .ge 41, 3) := by decide +kernel
theorem dX13_putRow_12 : decode cX13_putRow 12 = .ok (.aload_n 0, 1) := by decide +kernel
theorem dX13_putRow_13 : decode cX13_putRow 13 = .ok (.getfield 35, 3) := by decide +kernel
theorem dX13_putRow_16 : decode cX13_putRow 16 = .ok (.iload_n 1, 1) := by decide +kernel
theorem dX13_putRow_17 : decode cX13_putRow 17 = .ok (.aload_n 0, 1) := by decide +kernel
theorem dX13_putRow_18 : decode cX13_putRow 18 = .ok (.getfield 35, 3) := by decide +kernel
theorem dX13_putRow_21 : decode cX13_putRow 21 = .ok (.iconst 1, 1) := by decide +kernel
theorem dX13_putRow_22 : decode cX13_putRow 22 = .ok (.iaload, 1) := by decide +kernel
theorem dX13_putRow_23 : decode cX13_putRow 23 = .ok (.invokestatic 96, 3) := by decide +kernel
theorem dX13_putRow_26 : decode cX13_putRow 26 = .ok (.aload_n 0, 1) := by decide +kernel
theorem dX13_putRow_27 : decode cX13_putRow 27 = .ok (.getfield 29, 3) := by decide +kernel
theorem dX13_putRow_30 : decode cX13_putRow 30 = .ok (.iload_n 1, 1) := by decide +kernel
theorem dX13_putRow_31 : decode cX13_putRow 31 = .ok (.iaload, 1) := by decide +kernel
theorem dX13_putRow_32 : decode cX13_putRow 32 = .ok (.iastore, 1) := by decide +kernel
theorem dX13_putRow_33 : decode cX13_putRow 33 = .ok (.aload_n 0, 1) := by decide +kernel
theorem dX13_putRow_34 : decode cX13_putRow 34 = .ok (.iload_n 1, 1) := by decide +kernel
theorem dX13_putRow_35 : decode cX13_putRow 35 = .ok (.aload_n 0, 1) := by decide +kernel
theorem dX13_putRow_36 : decode cX13_putRow 36 = .ok (.getfield 29, 3) := by decide +kernel
theorem dX13_putRow_39 : decode cX13_putRow 39 = .ok (.iload_n 1, 1) := by decide +kernel
theorem dX13_putRow_40 : decode cX13_putRow 40 = .ok (.iaload, 1) := by decide +kernel
theorem dX13_putRow_41 : decode cX13_putRow 41 = .ok (.invokevirtual 228, 3) := by decide +kernel
theorem dX13_putRow_44 : decode cX13_putRow 44 = .ok (.iinc 1 1, 3) := by decide +kernel
theorem dX13_putRow_47 : decode cX13_putRow 47 = .ok (.goto (-45), 3) := by decide +kernel
theorem dX13_putRow_50 : decode cX13_putRow 50 = .ok (.aload_n 0, 1) := by decide +kernel
theorem dX13_putRow_51 : decode cX13_putRow 51 = .ok (.getfield 35, 3) := by decide +kernel
theorem dX13_putRow_54 : decode cX13_putRow 54 = .ok (.iconst 1, 1) := by decide +kernel
theorem dX13_putRow_55 : decode cX13_putRow 55 = .ok (.dup2, 1) := by decide +kernel
theorem dX13_putRow_56 : decode cX13_putRow 56 = .ok (.iaload, 1) := by decide +kernel
theorem dX13_putRow_57 : decode cX13_putRow 57 = .ok (.iconst 1, 1) := by decide +kernel
theorem dX13_putRow_58 : decode cX13_putRow 58 = .ok (.iadd, 1) := by decide +kernel
theorem dX13_putRow_59 : decode cX13_putRow 59 = .ok (.iastore, 1) := by decide +kernel
theorem dX13_putRow_60 : decode cX13_putRow 60 = .ok (.return_, 1) := by decide +kernel
theorem dX13_doRow_0 : decode cX13_doRow 0 = .ok (.aload_n 0, 1) := by decide +kernel
theorem dX13_doRow_1 : decode cX13_doRow 1 = .ok (.getfield 35, 3) := by decide +kernel
theorem dX13_doRow_4 : decode cX13_doRow 4 = .ok (.iconst 1, 1) := by decide +kernel
theorem dX13_doRow_5 : decode cX13_doRow 5 = .ok (.iaload, 1) := by decide +kernel
theorem dX13_doRow_6 : decode cX13_doRow 6 = .ok (.bipush 60, 2) := by decide +kernel
theorem dX13_doRow_8 : decode cX13_doRow 8 = .ok (.if_icmp .ne 5, 3) := by decide +kernel
theorem dX13_doRow_11 : decode cX13_doRow 11 = .ok (.iconst 2, 1) := by decide +kernel
theorem dX13_doRow_12 : decode cX13_doRow 12 = .ok (.ireturn, 1) := by decide +kernel
theorem dX13_doRow_13 : decode cX13_doRow 13 = .ok (.aload_n 0, 1) := by decide +kernel
theorem dX13_doRow_14 : decode cX13_doRow 14 = .ok (.invokevirtual 82, 3) := by decide +kernel
theorem dX13_doRow_17 : decode cX13_doRow 17 = .ok (.aload_n 0, 1) := by decide +kernel
theorem dX13_doRow_18 : decode cX13_doRow 18 = .ok (.aload_n 0, 1) := by decide +kernel
theorem dX13_doRow_19 : decode cX13_doRow 19 = .ok (.getfield 35, 3) := by decide +kernel
theorem dX13_doRow_22 : decode cX13_doRow 22 = .ok (.iconst 1, 1) := by decide +kernel
theorem dX13_doRow_23 : decode cX13_doRow 23 = .ok (.iaload, 1) := by decide +kernel
theorem dX13_doRow_24 : decode cX13_doRow 24 = .ok (.iconst 1, 1) := by decide +kernel
theorem dX13_doRow_25 : decode cX13_doRow 25 = .ok (.isub, 1) := by decide +kernel
theorem dX13_doRow_26 : decode cX13_doRow 26 = .ok (.putfield 231, 3) := by decide +kernel
theorem dX13_doRow_29 : decode cX13_doRow 29 = .ok (.iconst 0, 1) := by decide +kernel
theorem dX13_doRow_30 : decode cX13_doRow 30 = .ok (.ireturn, 1) := by decide +kernel
theorem dX13_takeOut_0 : decode cX13_takeOut 0 = .ok (.aload_n 0, 1) := by decide +kernel
theorem dX13_takeOut_1 : decode cX13_takeOut 1 = .ok (.getfield 35, 3) := by decide +kernel
theorem dX13_takeOut_4 : decode cX13_takeOut 4 = .ok (.iconst 1, 1) := by decide +kernel
theorem dX13_takeOut_5 : decode cX13_takeOut 5 = .ok (.dup2, 1) := by decide +kernel
theorem dX13_takeOut_6 : decode cX13_takeOut 6 = .ok (.iaload, 1) := by decide +kernel
theorem dX13_takeOut_7 : decode cX13_takeOut 7 = .ok (.iconst 1, 1) := by decide +kernel
theorem dX13_takeOut_8 : decode cX13_takeOut 8 = .ok (.isub, 1) := by decide +kernel
theorem dX13_takeOut_9 : decode cX13_takeOut 9 = .ok (.iastore, 1) := by decide +kernel
theorem dX13_takeOut_10 : decode cX13_takeOut 10 = .ok (.iconst 0, 1) := by decide +kernel
theorem dX13_takeOut_11 : decode cX13_takeOut 11 = .ok (.iload_n 1, 1) := by decide +kernel
theorem dX13_takeOut_12 : decode cX13_takeOut 12 = .ok (.invokestatic 96, 3) := by decide +kernel
theorem dX13_takeOut_15 : decode cX13_takeOut 15 = .ok (.istore_n 2, 1) := by decide +kernel
theorem dX13_takeOut_16 : decode cX13_takeOut 16 = .ok (.iload_n 2, 1) := by decide +kernel
theorem dX13_takeOut_17 : decode cX13_takeOut 17 = .ok (.iconst 0, 1) := by decide +kernel
theorem dX13_takeOut_18 : decode cX13_takeOut 18 = .ok (.aload_n 0, 1) := by decide +kernel
theorem dX13_takeOut_19 : decode cX13_takeOut 19 = .ok (.getfield 35, 3) := by decide +kernel
theorem dX13_takeOut_22 : decode cX13_takeOut 22 = .ok (.iconst 1, 1) := by decide +kernel
theorem dX13_takeOut_23 : decode cX13_takeOut 23 = .ok (.iaload, 1) := by decide +kernel
theorem dX13_takeOut_24 : decode cX13_takeOut 24 = .ok (.invokestatic 96, 3) := by decide +kernel
theorem dX13_takeOut_27 : decode cX13_takeOut 27 = .ok (.if_icmp .ge 24, 3) := by decide +kernel
theorem dX13_takeOut_30 : decode cX13_takeOut 30 = .ok (.aload_n 0, 1) := by decide +kernel
theorem dX13_takeOut_31 : decode cX13_takeOut 31 = .ok (.getfield 35, 3) := by decide +kernel
theorem dX13_takeOut_34 : decode cX13_takeOut 34 = .ok (.iload_n 2, 1) := by decide +kernel
theorem dX13_takeOut_35 : decode cX13_takeOut 35 = .ok (.aload_n 0, 1) := by decide +kernel
theorem dX13_takeOut_36 : decode cX13_takeOut 36 = .ok (.getfield 35, 3) := by decide +kernel
theorem dX13_takeOut_39 : decode cX13_takeOut 39 = .ok (.iload_n 2, 1) := by decide +kernel
theorem dX13_takeOut_40 : decode cX13_takeOut 40 = .ok (.bipush 6, 2) := by decide +kernel
theorem dX13_takeOut_42 : decode cX13_takeOut 42 = .ok (.iadd, 1) := by decide +kernel
theorem dX13_takeOut_43 : decode cX13_takeOut 43 = .ok (.iaload, 1) := by decide +kernel
theorem dX13_takeOut_44 : decode cX13_takeOut 44 = .ok (.iastore, 1) := by decide +kernel
theorem dX13_takeOut_45 : decode cX13_takeOut 45 = .ok (.iinc 2 1, 3) := by decide +kernel
theorem dX13_takeOut_48 : decode cX13_takeOut 48 = .ok (.goto (-32), 3) := by decide +kernel
theorem dX13_takeOut_51 : decode cX13_takeOut 51 = .ok (.return_, 1) := by decide +kernel
theorem dX13_doSet_0 : decode cX13_doSet 0 = .ok (.aload_n 0, 1) := by decide +kernel
theorem dX13_doSet_1 : decode cX13_doSet 1 = .ok (.iload_n 1, 1) := by decide +kernel
theorem dX13_doSet_2 : decode cX13_doSet 2 = .ok (.iload_n 2, 1) := by decide +kernel
theorem dX13_doSet_3 : decode cX13_doSet 3 = .ok (.invokevirtual 130, 3) := by decide +kernel
theorem dX13_doSet_6 : decode cX13_doSet 6 = .ok (.ifCond .ne 5, 3) := by decide +kernel
theorem dX13_doSet_9 : decode cX13_doSet 9 = .ok (.iconst 1, 1) := by decide +kernel
theorem dX13_doSet_10 : decode cX13_doSet 10 = .ok (.ireturn, 1) := by decide +kernel
theorem dX13_doSet_11 : decode cX13_doSet 11 = .ok (.aload_n 0, 1) := by decide +kernel
theorem dX13_doSet_12 : decode cX13_doSet 12 = .ok (.aload_n 0, 1) := by decide +kernel
theorem dX13_doSet_13 : decode cX13_doSet 13 = .ok (.iload_n 1, 1) := by decide +kernel
theorem dX13_doSet_14 : decode cX13_doSet 14 = .ok (.iload_n 2, 1) := by decide +kernel
theorem dX13_doSet_15 : decode cX13_doSet 15 = .ok (.invokevirtual 118, 3) := by decide +kernel
theorem dX13_doSet_18 : decode cX13_doSet 18 = .ok (.putfield 231, 3) := by decide +kernel
theorem dX13_doSet_21 : decode cX13_doSet 21 = .ok (.aload_n 0, 1) := by decide +kernel
theorem dX13_doSet_22 : decode cX13_doSet 22 = .ok (.getfield 35, 3) := by decide +kernel
theorem dX13_doSet_25 : decode cX13_doSet 25 = .ok (.iload_n 1, 1) := by decide +kernel
theorem dX13_doSet_26 : decode cX13_doSet 26 = .ok (.iload_n 2, 1) := by decide +kernel
theorem dX13_doSet_27 : decode cX13_doSet 27 = .ok (.invokestatic 96, 3) := by decide +kernel
theorem dX13_doSet_30 : decode cX13_doSet 30 = .ok (.iload_n 3, 1) := by decide +kernel
theorem dX13_doSet_31 : decode cX13_doSet 31 = .ok (.iastore, 1) := by decide +kernel
theorem dX13_doSet_32 : decode cX13_doSet 32 = .ok (.aload_n 0, 1) := by decide +kernel
theorem dX13_doSet_33 : decode cX13_doSet 33 = .ok (.iload_n 1, 1) := by decide +kernel
theorem dX13_doSet_34 : decode cX13_doSet 34 = .ok (.iload_n 3, 1) := by decide +kernel
theorem dX13_doSet_35 : decode cX13_doSet 35 = .ok (.invokevirtual 228, 3) := by decide +kernel
theorem dX13_doSet_38 : decode cX13_doSet 38 = .ok (.iconst 0, 1) := by decide +kernel
theorem dX13_doSet_39 : decode cX13_doSet 39 = .ok (.ireturn, 1) := by decide +kernel
theorem dX13_doSort_0 : decode cX13_doSort 0 = .ok (.aload_n 0, 1) := by decide +kernel
theorem dX13_doSort_1 : decode cX13_doSort 1 = .ok (.iload_n 1, 1) := by decide +kernel
theorem dX13_doSort_2 : decode cX13_doSort 2 = .ok (.iload_n 2, 1) := by decide +kernel
theorem dX13_doSort_3 : decode cX13_doSort 3 = .ok (.invokevirtual 215, 3) := by decide +kernel
theorem dX13_doSort_6 : decode cX13_doSort 6 = .ok (.iconst 0, 1) := by decide +kernel
theorem dX13_doSort_7 : decode cX13_doSort 7 = .ok (.istore_n 3, 1) := by decide +kernel
theorem dX13_doSort_8 : decode cX13_doSort 8 = .ok (.iload_n 3, 1) := by decide +kernel
theorem dX13_doSort_9 : decode cX13_doSort 9 = .ok (.aload_n 0, 1) := by decide +kernel
theorem dX13_doSort_10 : decode cX13_doSort 10 = .ok (.getfield 35, 3) := by decide +kernel
theorem dX13_doSort_13 : decode cX13_doSort 13 = .ok (.iconst 0, 1) := by decide +kernel
theorem dX13_doSort_14 : decode cX13_doSort 14 = .ok (.iaload, 1) := by decide +kernel
theorem dX13_doSort_15 : decode cX13_doSort 15 = .ok (.if_icmp .ge 86, 3) := by decide +kernel
theorem dX13_doSort_18 : decode cX13_doSort 18 = .ok (.iconst 0, 1) := by decide +kernel
theorem dX13_doSort_19 : decode cX13_doSort 19 = .ok (.istore 4, 2) := by decide +kernel
theorem dX13_doSort_21 : decode cX13_doSort 21 = .ok (.iload 4, 2) := by decide +kernel
theorem dX13_doSort_23 : decode cX13_doSort 23 = .ok (.aload_n 0, 1) := by decide +kernel
theorem dX13_doSort_24 : decode cX13_doSort 24 = .ok (.getfield 35, 3) := by decide +kernel
theorem dX13_doSort_27 : decode cX13_doSort 27 = .ok (.iconst 1, 1) := by decide +kernel
theorem dX13_doSort_28 : decode cX13_doSort 28 = .ok (.iaload, 1) := by decide +kernel
theorem dX13_doSort_29 : decode cX13_doSort 29 = .ok (.if_icmp .ge 28, 3) := by decide +kernel
theorem dX13_doSort_32 : decode cX13_doSort 32 = .ok (.aload_n 0, 1) := by decide +kernel
theorem dX13_doSort_33 : decode cX13_doSort 33 = .ok (.getfield 32, 3) := by decide +kernel
theorem dX13_doSort_36 : decode cX13_doSort 36 = .ok (.iload 4, 2) := by decide +kernel
theorem dX13_doSort_38 : decode cX13_doSort 38 = .ok (.aload_n 0, 1) := by decide +kernel
theorem dX13_doSort_39 : decode cX13_doSort 39 = .ok (.iload_n 3, 1) := by decide +kernel
theorem dX13_doSort_40 : decode cX13_doSort 40 = .ok (.aload_n 0, 1) := by decide +kernel
theorem dX13_doSort_41 : decode cX13_doSort 41 = .ok (.getfield 26, 3) := by decide +kernel
theorem dX13_doSort_44 : decode cX13_doSort 44 = .ok (.iload 4, 2) := by decide +kernel
theorem dX13_doSort_46 : decode cX13_doSort 46 = .ok (.iaload, 1) := by decide +kernel
theorem dX13_doSort_47 : decode cX13_doSort 47 = .ok (.invokevirtual 118, 3) := by decide +kernel
theorem dX13_doSort_50 : decode cX13_doSort 50 = .ok (.iastore, 1) := by decide +kernel
theorem dX13_doSort_51 : decode cX13_doSort 51 = .ok (.iinc 4 1, 3) := by decide +kernel
theorem dX13_doSort_54 : decode cX13_doSort 54 = .ok (.goto (-33), 3) := by decide +kernel
theorem dX13_doSort_57 : decode cX13_doSort 57 = .ok (.iconst 0, 1) := by decide +kernel
theorem dX13_doSort_58 : decode cX13_doSort 58 = .ok (.istore 4, 2) := by decide +kernel
theorem dX13_doSort_60 : decode cX13_doSort 60 = .ok (.iload 4, 2) := by decide +kernel
theorem dX13_doSort_62 : decode cX13_doSort 62 = .ok (.aload_n 0, 1) := by decide +kernel
theorem dX13_doSort_63 : decode cX13_doSort 63 = .ok (.getfield 35, 3) := by decide +kernel
theorem dX13_doSort_66 : decode cX13_doSort 66 = .ok (.iconst 1, 1) := by decide +kernel
theorem dX13_doSort_67 : decode cX13_doSort 67 = .ok (.iaload, 1) := by decide +kernel
theorem dX13_doSort_68 : decode cX13_doSort 68 = .ok (.if_icmp .ge 27, 3) := by decide +kernel
theorem dX13_doSort_71 : decode cX13_doSort 71 = .ok (.aload_n 0, 1) := by decide +kernel
theorem dX13_doSort_72 : decode cX13_doSort 72 = .ok (.getfield 35, 3) := by decide +kernel
theorem dX13_doSort_75 : decode cX13_doSort 75 = .ok (.iload_n 3, 1) := by decide +kernel
theorem dX13_doSort_76 : decode cX13_doSort 76 = .ok (.iload 4, 2) := by decide +kernel
theorem dX13_doSort_78 : decode cX13_doSort 78 = .ok (.invokestatic 96, 3) := by decide +kernel
theorem dX13_doSort_81 : decode cX13_doSort 81 = .ok (.aload_n 0, 1) := by decide +kernel
theorem dX13_doSort_82 : decode cX13_doSort 82 = .ok (.getfield 32, 3) := by decide +kernel
theorem dX13_doSort_85 : decode cX13_doSort 85 = .ok (.iload 4, 2) := by decide +kernel
theorem dX13_doSort_87 : decode cX13_doSort 87 = .ok (.iaload, 1) := by decide +kernel
theorem dX13_doSort_88 : decode cX13_doSort 88 = .ok (.iastore, 1) := by decide +kernel
theorem dX13_doSort_89 : decode cX13_doSort 89 = .ok (.iinc 4 1, 3) := by decide +kernel
theorem dX13_doSort_92 : decode cX13_doSort 92 = .ok (.goto (-32), 3) := by decide +kernel
theorem dX13_doSort_95 : decode cX13_doSort 95 = .ok (.iinc 3 1, 3) := by decide +kernel
theorem dX13_doSort_98 : decode cX13_doSort 98 = .ok (.goto (-90), 3) := by decide +kernel
theorem dX13_doSort_101 : decode cX13_doSort 101 = .ok (.aload_n 0, 1) := by decide +kernel
theorem dX13_doSort_102 : decode cX13_doSort 102 = .ok (.aload_n 0, 1) := by decide +kernel
theorem dX13_doSort_103 : decode cX13_doSort 103 = .ok (.iload_n 1, 1) := by decide +kernel
theorem dX13_doSort_104 : decode cX13_doSort 104 = .ok (.invokevirtual 168, 3) := by decide +kernel
theorem dX13_doSort_107 : decode cX13_doSort 107 = .ok (.putfield 231, 3) := by decide +kernel
theorem dX13_doSort_110 : decode cX13_doSort 110 = .ok (.iconst 0, 1) := by decide +kernel
theorem dX13_doSort_111 : decode cX13_doSort 111 = .ok (.ireturn, 1) := by decide +kernel
theorem dX13_doCondition_0 : decode cX13_doCondition 0 = .ok (.aload_n 0, 1) := by decide +kernel
theorem dX13_doCondition_1 : decode cX13_doCondition 1 = .ok (.getfield 35, 3) := by decide +kernel
theorem dX13_doCondition_4 : decode cX13_doCondition 4 = .ok (.iconst 2, 1) := by decide +kernel
theorem dX13_doCondition_5 : decode cX13_doCondition 5 = .ok (.iaload, 1) := by decide +kernel
theorem dX13_doCondition_6 : decode cX13_doCondition 6 = .ok (.bipush 8, 2) := by decide +kernel
theorem dX13_doCondition_8 : decode cX13_doCondition 8 = .ok (.if_icmp .ne 5, 3) := by decide +kernel
theorem dX13_doCondition_11 : decode cX13_doCondition 11 = .ok (.iconst 3, 1) := by decide +kernel
theorem dX13_doCondition_12 : decode cX13_doCondition 12 = .ok (.ireturn, 1) := by decide +kernel
theorem dX13_doCondition_13 : decode cX13_doCondition 13 = .ok (.iconst 3, 1) := by decide +kernel
theorem dX13_doCondition_14 : decode cX13_doCondition 14 = .ok (.iconst 3, 1) := by decide +kernel
theorem dX13_doCondition_15 : decode cX13_doCondition 15 = .ok (.aload_n 0, 1) := by decide +kernel
theorem dX13_doCondition_16 : decode cX13_doCondition 16 = .ok (.getfield 35, 3) := by decide +kernel
theorem dX13_doCondition_19 : decode cX13_doCondition 19 = .ok (.iconst 2, 1) := by decide +kernel
theorem dX13_doCondition_20 : decode cX13_doCondition 20 = .ok (.iaload, 1) := by decide +kernel
theorem dX13_doCondition_21 : decode cX13_doCondition 21 = .ok (.imul, 1) := by decide +kernel
theorem dX13_doCondition_22 : decode cX13_doCondition 22 = .ok (.iadd, 1) := by decide +kernel
theorem dX13_doCondition_23 : decode cX13_doCondition 23 = .ok (.istore 4, 2) := by decide +kernel
theorem dX13_doCondition_25 : decode cX13_doCondition 25 = .ok (.aload_n 0, 1) := by decide +kernel
theorem dX13_doCondition_26 : decode cX13_doCondition 26 = .ok (.getfield 35, 3) := by decide +kernel
theorem dX13_doCondition_29 : decode cX13_doCondition 29 = .ok (.iload 4, 2) := by decide +kernel
theorem dX13_doCondition_31 : decode cX13_doCondition 31 = .ok (.iconst 0, 1) := by decide +kernel
theorem dX13_doCondition_32 : decode cX13_doCondition 32 = .ok (.iadd, 1) := by decide +kernel
theorem dX13_doCondition_33 : decode cX13_doCondition 33 = .ok (.iload_n 1, 1) := by decide +kernel
theorem dX13_doCondition_34 : decode cX13_doCondition 34 = .ok (.iastore, 1) := by decide +kernel
theorem dX13_doCondition_35 : decode cX13_doCondition 35 = .ok (.aload_n 0, 1) := by decide +kernel
theorem dX13_doCondition_36 : decode cX13_doCondition 36 = .ok (.getfield 35, 3) := by decide +kernel
theorem dX13_doCondition_39 : decode cX13_doCondition 39 = .ok (.iload 4, 2) := by decide +kernel
theorem dX13_doCondition_41 : decode cX13_doCondition 41 = .ok (.iconst 1, 1) := by decide +kernel
theorem dX13_doCondition_42 : decode cX13_doCondition 42 = .ok (.iadd, 1) := by decide +kernel
theorem dX13_doCondition_43 : decode cX13_doCondition 43 = .ok (.iload_n 2, 1) := by decide +kernel
theorem dX13_doCondition_44 : decode cX13_doCondition 44 = .ok (.iastore, 1) := by decide +kernel
theorem dX13_doCondition_45 : decode cX13_doCondition 45 = .ok (.aload_n 0, 1) := by decide +kernel
theorem dX13_doCondition_46 : decode cX13_doCondition 46 = .ok (.getfield 35, 3) := by decide +kernel
theorem dX13_doCondition_49 : decode cX13_doCondition 49 = .ok (.iload 4, 2) := by decide +kernel
theorem dX13_doCondition_51 : decode cX13_doCondition 51 = .ok (.iconst 2, 1) := by decide +kernel
theorem dX13_doCondition_52 : decode cX13_doCondition 52 = .ok (.iadd, 1) := by decide +kernel
theorem dX13_doCondition_53 : decode cX13_doCondition 53 = .ok (.iload_n 3, 1) := by decide +kernel
theorem dX13_doCondition_54 : decode cX13_doCondition 54 = .ok (.iastore, 1) := by decide +kernel
theorem dX13_doCondition_55 : decode cX13_doCondition 55 = .ok (.aload_n 0, 1) := by decide +kernel
theorem dX13_doCondition_56 : decode cX13_doCondition 56 = .ok (.getfield 35, 3) := by decide +kernel
theorem dX13_doCondition_59 : decode cX13_doCondition 59 = .ok (.iconst 2, 1) := by decide +kernel
theorem dX13_doCondition_60 : decode cX13_doCondition 60 = .ok (.dup2, 1) := by decide +kernel
theorem dX13_doCondition_61 : decode cX13_doCondition 61 = .ok (.iaload, 1) := by decide +kernel
theorem dX13_doCondition_62 : decode cX13_doCondition 62 = .ok (.iconst 1, 1) := by decide +kernel
theorem dX13_doCondition_63 : decode cX13_doCondition 63 = .ok (.iadd, 1) := by decide +kernel
theorem dX13_doCondition_64 : decode cX13_doCondition 64 = .ok (.iastore, 1) := by decide +kernel
theorem dX13_doCondition_65 : decode cX13_doCondition 65 = .ok (.aload_n 0, 1) := by decide +kernel
theorem dX13_doCondition_66 : decode cX13_doCondition 66 = .ok (.aload_n 0, 1) := by decide +kernel
theorem dX13_doCondition_67 : decode cX13_doCondition 67 = .ok (.invokevirtual 198, 3) := by decide +kernel
theorem dX13_doCondition_70 : decode cX13_doCondition 70 = .ok (.putfield 231, 3) := by decide +kernel
theorem dX13_doCondition_73 : decode cX13_doCondition 73 = .ok (.iconst 0, 1) := by decide +kernel
theorem dX13_doCondition_74 : decode cX13_doCondition 74 = .ok (.ireturn, 1) := by decide +kernel
theorem dX13_doDrop_0 : decode cX13_doDrop 0 = .ok (.aload_n 0, 1) := by decide +kernel
theorem dX13_doDrop_1 : decode cX13_doDrop 1 = .ok (.iload_n 1, 1) := by decide +kernel
theorem dX13_doDrop_2 : decode cX13_doDrop 2 = .ok (.invokevirtual 171, 3) := by decide +kernel
theorem dX13_doDrop_5 : decode cX13_doDrop 5 = .ok (.ifCond .ne 5, 3) := by decide +kernel
theorem dX13_doDrop_8 : decode cX13_doDrop 8 = .ok (.iconst 1, 1) := by decide +kernel
theorem dX13_doDrop_9 : decode cX13_doDrop 9 = .ok (.ireturn, 1) := by decide +kernel
theorem dX13_doDrop_10 : decode cX13_doDrop 10 = .ok (.aload_n 0, 1) := by decide +kernel
theorem dX13_doDrop_11 : decode cX13_doDrop 11 = .ok (.getfield 35, 3) := by decide +kernel
theorem dX13_doDrop_14 : decode cX13_doDrop 14 = .ok (.iconst 2, 1) := by decide +kernel
theorem dX13_doDrop_15 : decode cX13_doDrop 15 = .ok (.dup2, 1) := by decide +kernel
theorem dX13_doDrop_16 : decode cX13_doDrop 16 = .ok (.iaload, 1) := by decide +kernel
theorem dX13_doDrop_17 : decode cX13_doDrop 17 = .ok (.iconst 1, 1) := by decide +kernel
theorem dX13_doDrop_18 : decode cX13_doDrop 18 = .ok (.isub, 1) := by decide +kernel
theorem dX13_doDrop_19 : decode cX13_doDrop 19 = .ok (.iastore, 1) := by decide +kernel
theorem dX13_doDrop_20 : decode cX13_doDrop 20 = .ok (.iconst 3, 1) := by decide +kernel
theorem dX13_doDrop_21 : decode cX13_doDrop 21 = .ok (.iconst 3, 1) := by decide +kernel
theorem dX13_doDrop_22 : decode cX13_doDrop 22 = .ok (.iload_n 1, 1) := by decide +kernel
theorem dX13_doDrop_23 : decode cX13_doDrop 23 = .ok (.imul, 1) := by decide +kernel
theorem dX13_doDrop_24 : decode cX13_doDrop 24 = .ok (.iadd, 1) := by decide +kernel
theorem dX13_doDrop_25 : decode cX13_doDrop 25 = .ok (.istore_n 2, 1) := by decide +kernel
theorem dX13_doDrop_26 : decode cX13_doDrop 26 = .ok (.iload_n 2, 1) := by decide +kernel
theorem dX13_doDrop_27 : decode cX13_doDrop 27 = .ok (.iconst 3, 1) := by decide +kernel
theorem dX13_doDrop_28 : decode cX13_doDrop 28 = .ok (.iconst 3, 1) := by decide +kernel
theorem dX13_doDrop_29 : decode cX13_doDrop 29 = .ok (.aload_n 0, 1) := by decide +kernel
theorem dX13_doDrop_30 : decode cX13_doDrop 30 = .ok (.getfield 35, 3) := by decide +kernel
theorem dX13_doDrop_33 : decode cX13_doDrop 33 = .ok (.iconst 2, 1) := by decide +kernel
theorem dX13_doDrop_34 : decode cX13_doDrop 34 = .ok (.iaload, 1) := by decide +kernel
theorem dX13_doDrop_35 : decode cX13_doDrop 35 = .ok (.imul, 1) := by decide +kernel
theorem dX13_doDrop_36 : decode cX13_doDrop 36 = .ok (.iadd, 1) := by decide +kernel
theorem dX13_doDrop_37 : decode cX13_doDrop 37 = .ok (.if_icmp .ge 23, 3) := by decide +kernel
theorem dX13_doDrop_40 : decode cX13_doDrop 40 = .ok (.aload_n 0, 1) := by decide +kernel
theorem dX13_doDrop_41 : decode cX13_doDrop 41 = .ok (.getfield 35, 3) := by decide +kernel
theorem dX13_doDrop_44 : decode cX13_doDrop 44 = .ok (.iload_n 2, 1) := by decide +kernel
theorem dX13_doDrop_45 : decode cX13_doDrop 45 = .ok (.aload_n 0, 1) := by decide +kernel
theorem dX13_doDrop_46 : decode cX13_doDrop 46 = .ok (.getfield 35, 3) := by decide +kernel
theorem dX13_doDrop_49 : decode cX13_doDrop 49 = .ok (.iload_n 2, 1) := by decide +kernel
theorem dX13_doDrop_50 : decode cX13_doDrop 50 = .ok (.iconst 3, 1) := by decide +kernel
theorem dX13_doDrop_51 : decode cX13_doDrop 51 = .ok (.iadd, 1) := by decide +kernel
theorem dX13_doDrop_52 : decode cX13_doDrop 52 = .ok (.iaload, 1) := by decide +kernel
theorem dX13_doDrop_53 : decode cX13_doDrop 53 = .ok (.iastore, 1) := by decide +kernel
theorem dX13_doDrop_54 : decode cX13_doDrop 54 = .ok (.iinc 2 1, 3) := by decide +kernel
theorem dX13_doDrop_57 : decode cX13_doDrop 57 = .ok (.goto (-31), 3) := by decide +kernel
theorem dX13_doDrop_60 : decode cX13_doDrop 60 = .ok (.aload_n 0, 1) := by decide +kernel
theorem dX13_doDrop_61 : decode cX13_doDrop 61 = .ok (.aload_n 0, 1) := by decide +kernel
theorem dX13_doDrop_62 : decode cX13_doDrop 62 = .ok (.invokevirtual 198, 3) := by decide +kernel
theorem dX13_doDrop_65 : decode cX13_doDrop 65 = .ok (.putfield 231, 3) := by decide +kernel
theorem dX13_doDrop_68 : decode cX13_doDrop 68 = .ok (.iconst 0, 1) := by decide +kernel
theorem dX13_doDrop_69 : decode cX13_doDrop 69 = .ok (.ireturn, 1) := by decide +kernel
theorem dX13_doDelete_0 : decode cX13_doDelete 0 = .ok (.aload_n 0, 1) := by decide +kernel
theorem dX13_doDelete_1 : decode cX13_doDelete 1 = .ok (.iconst 0, 1) := by decide +kernel
theorem dX13_doDelete_2 : decode cX13_doDelete 2 = .ok (.putfield 231, 3) := by decide +kernel
theorem dX13_doDelete_5 : decode cX13_doDelete 5 = .ok (.aload_n 0, 1) := by decide +kernel
theorem dX13_doDelete_6 : decode cX13_doDelete 6 = .ok (.getfield 35, 3) := by decide +kernel
theorem dX13_doDelete_9 : decode cX13_doDelete 9 = .ok (.iconst 1, 1) := by decide +kernel
theorem dX13_doDelete_10 : decode cX13_doDelete 10 = .ok (.iaload, 1) := by decide +kernel
theorem dX13_doDelete_11 : decode cX13_doDelete 11 = .ok (.iconst 1, 1) := by decide +kernel
theorem dX13_doDelete_12 : decode cX13_doDelete 12 = .ok (.isub, 1) := by decide +kernel
theorem dX13_doDelete_13 : decode cX13_doDelete 13 = .ok (.istore_n 1, 1) := by decide +kernel
theorem dX13_doDelete_14 : decode cX13_doDelete 14 = .ok (.iload_n 1, 1) := by decide +kernel
theorem dX13_doDelete_15 : decode cX13_doDelete 15 = .ok (.ifCond .lt 32, 3) := by decide +kernel
theorem dX13_doDelete_18 : decode cX13_doDelete 18 = .ok (.aload_n 0, 1) := by decide +kernel
theorem dX13_doDelete_19 : decode cX13_doDelete 19 = .ok (.iload_n 1, 1) := by decide +kernel
theorem dX13_doDelete_20 : decode cX13_doDelete 20 = .ok (.invokevirtual 183, 3) := by decide +kernel
theorem dX13_doDelete_23 : decode cX13_doDelete 23 = .ok (.ifCond .eq 18, 3) := by decide +kernel
theorem dX13_doDelete_26 : decode cX13_doDelete 26 = .ok (.aload_n 0, 1) := by decide +kernel
theorem dX13_doDelete_27 : decode cX13_doDelete 27 = .ok (.iload_n 1, 1) := by decide +kernel
theorem dX13_doDelete_28 : decode cX13_doDelete 28 = .ok (.invokevirtual 234, 3) := by decide +kernel
theorem dX13_doDelete_31 : decode cX13_doDelete 31 = .ok (.aload_n 0, 1) := by decide +kernel
theorem dX13_doDelete_32 : decode cX13_doDelete 32 = .ok (.dup, 1) := by decide +kernel
theorem dX13_doDelete_33 : decode cX13_doDelete 33 = .ok (.getfield 231, 3) := by decide +kernel
theorem dX13_doDelete_36 : decode cX13_doDelete 36 = .ok (.iconst 1, 1) := by decide +kernel
theorem dX13_doDelete_37 : decode cX13_doDelete 37 = .ok (.iadd, 1) := by decide +kernel
theorem dX13_doDelete_38 : decode cX13_doDelete 38 = .ok (.putfield 231, 3) := by decide +kernel
theorem dX13_doDelete_41 : decode cX13_doDelete 41 = .ok (.iinc 1 (-1), 3) := by decide +kernel
theorem dX13_doDelete_44 : decode cX13_doDelete 44 = .ok (.goto (-30), 3) := by decide +kernel
theorem dX13_doDelete_47 : decode cX13_doDelete 47 = .ok (.iconst 0, 1) := by decide +kernel
theorem dX13_doDelete_48 : decode cX13_doDelete 48 = .ok (.ireturn, 1) := by decide +kernel
theorem dX13_doCompact_0 : decode cX13_doCompact 0 = .ok (.aload_n 0, 1) := by decide +kernel
theorem dX13_doCompact_1 : decode cX13_doCompact 1 = .ok (.aload_n 0, 1) := by decide +kernel
theorem dX13_doCompact_2 : decode cX13_doCompact 2 = .ok (.iload_n 1, 1) := by decide +kernel
theorem dX13_doCompact_3 : decode cX13_doCompact 3 = .ok (.invokevirtual 115, 3) := by decide +kernel
theorem dX13_doCompact_6 : decode cX13_doCompact 6 = .ok (.aload_n 0, 1) := by decide +kernel
theorem dX13_doCompact_7 : decode cX13_doCompact 7 = .ok (.iload_n 1, 1) := by decide +kernel
theorem dX13_doCompact_8 : decode cX13_doCompact 8 = .ok (.invokevirtual 145, 3) := by decide +kernel
theorem dX13_doCompact_11 : decode cX13_doCompact 11 = .ok (.isub, 1) := by decide +kernel
theorem dX13_doCompact_12 : decode cX13_doCompact 12 = .ok (.putfield 231, 3) := by decide +kernel
theorem dX13_doCompact_15 : decode cX13_doCompact 15 = .ok (.iconst 0, 1) := by decide +kernel
theorem dX13_doCompact_16 : decode cX13_doCompact 16 = .ok (.istore_n 2, 1) := by decide +kernel
theorem dX13_doCompact_17 : decode cX13_doCompact 17 = .ok (.iload_n 2, 1) := by decide +kernel
theorem dX13_doCompact_18 : decode cX13_doCompact 18 = .ok (.sipush 625, 3) := by decide +kernel
theorem dX13_doCompact_21 : decode cX13_doCompact 21 = .ok (.if_icmp .ge 26, 3) := by decide +kernel
theorem dX13_doCompact_24 : decode cX13_doCompact 24 = .ok (.aload_n 0, 1) := by decide +kernel
theorem dX13_doCompact_25 : decode cX13_doCompact 25 = .ok (.getfield 35, 3) := by decide +kernel
theorem dX13_doCompact_28 : decode cX13_doCompact 28 = .ok (.sipush 387, 3) := by decide +kernel
theorem dX13_doCompact_31 : decode cX13_doCompact 31 = .ok (.sipush 625, 3) := by decide +kernel
theorem dX13_doCompact_34 : decode cX13_doCompact 34 = .ok (.iload_n 1, 1) := by decide +kernel
theorem dX13_doCompact_35 : decode cX13_doCompact 35 = .ok (.imul, 1) := by decide +kernel
theorem dX13_doCompact_36 : decode cX13_doCompact 36 = .ok (.iadd, 1) := by decide +kernel
theorem dX13_doCompact_37 : decode cX13_doCompact 37 = .ok (.iload_n 2, 1) := by decide +kernel
theorem dX13_doCompact_38 : decode cX13_doCompact 38 = .ok (.iadd, 1) := by decide +kernel
theorem dX13_doCompact_39 : decode cX13_doCompact 39 = .ok (.iconst 0, 1) := by decide +kernel
theorem dX13_doCompact_40 : decode cX13_doCompact 40 = .ok (.iastore, 1) := by decide +kernel
theorem dX13_doCompact_41 : decode cX13_doCompact 41 = .ok (.iinc 2 1, 3) := by decide +kernel
theorem dX13_doCompact_44 : decode cX13_doCompact 44 = .ok (.goto (-27), 3) := by decide +kernel
theorem dX13_doCompact_47 : decode cX13_doCompact 47 = .ok (.iconst 0, 1) := by decide +kernel
theorem dX13_doCompact_48 : decode cX13_doCompact 48 = .ok (.istore_n 2, 1) := by decide +kernel
theorem dX13_doCompact_49 : decode cX13_doCompact 49 = .ok (.iload_n 2, 1) := by decide +kernel
theorem dX13_doCompact_50 : decode cX13_doCompact 50 = .ok (.aload_n 0, 1) := by decide +kernel
theorem dX13_doCompact_51 : decode cX13_doCompact 51 = .ok (.getfield 35, 3) := by decide +kernel
theorem dX13_doCompact_54 : decode cX13_doCompact 54 = .ok (.iconst 1, 1) := by decide +kernel
theorem dX13_doCompact_55 : decode cX13_doCompact 55 = .ok (.iaload, 1) := by decide +kernel
theorem dX13_doCompact_56 : decode cX13_doCompact 56 = .ok (.if_icmp .ge 20, 3) := by decide +kernel
theorem dX13_doCompact_59 : decode cX13_doCompact 59 = .ok (.aload_n 0, 1) := by decide +kernel
theorem dX13_doCompact_60 : decode cX13_doCompact 60 = .ok (.iload_n 1, 1) := by decide +kernel
theorem dX13_doCompact_61 : decode cX13_doCompact 61 = .ok (.aload_n 0, 1) := by decide +kernel
theorem dX13_doCompact_62 : decode cX13_doCompact 62 = .ok (.iload_n 1, 1) := by decide +kernel
theorem dX13_doCompact_63 : decode cX13_doCompact 63 = .ok (.iload_n 2, 1) := by decide +kernel
theorem dX13_doCompact_64 : decode cX13_doCompact 64 = .ok (.invokevirtual 118, 3) := by decide +kernel
theorem dX13_doCompact_67 : decode cX13_doCompact 67 = .ok (.invokevirtual 228, 3) := by decide +kernel
theorem dX13_doCompact_70 : decode cX13_doCompact 70 = .ok (.iinc 2 1, 3) := by decide +kernel
theorem dX13_doCompact_73 : decode cX13_doCompact 73 = .ok (.goto (-24), 3) := by decide +kernel
theorem dX13_doCompact_76 : decode cX13_doCompact 76 = .ok (.iconst 0, 1) := by decide +kernel
theorem dX13_doCompact_77 : decode cX13_doCompact 77 = .ok (.ireturn, 1) := by decide +kernel
theorem dX13_copy_0 : decode cX13_copy 0 = .ok (.aload_n 0, 1) := by decide +kernel
theorem dX13_copy_1 : decode cX13_copy 1 = .ok (.sipush 4137, 3) := by decide +kernel
theorem dX13_copy_4 : decode cX13_copy 4 = .ok (.iload_n 1, 1) := by decide +kernel
theorem dX13_copy_5 : decode cX13_copy 5 = .ok (.imul, 1) := by decide +kernel
theorem dX13_copy_6 : decode cX13_copy 6 = .ok (.aload_n 2, 1) := by decide +kernel
theorem dX13_copy_7 : decode cX13_copy 7 = .ok (.sipush 4137, 3) := by decide +kernel
theorem dX13_copy_10 : decode cX13_copy 10 = .ok (.iload_n 3, 1) := by decide +kernel
theorem dX13_copy_11 : decode cX13_copy 11 = .ok (.imul, 1) := by decide +kernel
theorem dX13_copy_12 : decode cX13_copy 12 = .ok (.sipush 4137, 3) := by decide +kernel
theorem dX13_copy_15 : decode cX13_copy 15 = .ok (.invokestatic 237, 3) := by decide +kernel
theorem dX13_copy_18 : decode cX13_copy 18 = .ok (.return_, 1) := by decide +kernel
theorem dX13_keep_0 : decode cX13_keep 0 = .ok (.aload_n 0, 1) := by decide +kernel
theorem dX13_keep_1 : decode cX13_keep 1 = .ok (.getfield 9, 3) := by decide +kernel
theorem dX13_keep_4 : decode cX13_keep 4 = .ok (.iconst 0, 1) := by decide +kernel
theorem dX13_keep_5 : decode cX13_keep 5 = .ok (.aload_n 0, 1) := by decide +kernel
theorem dX13_keep_6 : decode cX13_keep 6 = .ok (.getfield 16, 3) := by decide +kernel
theorem dX13_keep_9 : decode cX13_keep 9 = .ok (.iconst 0, 1) := by decide +kernel
theorem dX13_keep_10 : decode cX13_keep 10 = .ok (.invokestatic 243, 3) := by decide +kernel
theorem dX13_keep_13 : decode cX13_keep 13 = .ok (.return_, 1) := by decide +kernel
theorem dX13_record_0 : decode cX13_record 0 = .ok (.aload_n 0, 1) := by decide +kernel
theorem dX13_record_1 : decode cX13_record 1 = .ok (.getfield 247, 3) := by decide +kernel
theorem dX13_record_4 : decode cX13_record 4 = .ok (.bipush 8, 2) := by decide +kernel
theorem dX13_record_6 : decode cX13_record 6 = .ok (.if_icmp .ne 42, 3) := by decide +kernel
theorem dX13_record_9 : decode cX13_record 9 = .ok (.iconst 1, 1) := by decide +kernel
theorem dX13_record_10 : decode cX13_record 10 = .ok (.istore_n 1, 1) := by decide +kernel
theorem dX13_record_11 : decode cX13_record 11 = .ok (.iload_n 1, 1) := by decide +kernel
theorem dX13_record_12 : decode cX13_record 12 = .ok (.bipush 8, 2) := by decide +kernel
theorem dX13_record_14 : decode cX13_record 14 = .ok (.if_icmp .ge 24, 3) := by decide +kernel
theorem dX13_record_17 : decode cX13_record 17 = .ok (.aload_n 0, 1) := by decide +kernel
theorem dX13_record_18 : decode cX13_record 18 = .ok (.getfield 23, 3) := by decide +kernel
theorem dX13_record_21 : decode cX13_record 21 = .ok (.iload_n 1, 1) := by decide +kernel
theorem dX13_record_22 : decode cX13_record 22 = .ok (.aload_n 0, 1) := by decide +kernel
theorem dX13_record_23 : decode cX13_record 23 = .ok (.getfield 23, 3) := by decide +kernel
theorem dX13_record_26 : decode cX13_record 26 = .ok (.iload_n 1, 1) := by decide +kernel
theorem dX13_record_27 : decode cX13_record 27 = .ok (.iconst 1, 1) := by decide +kernel
theorem dX13_record_28 : decode cX13_record 28 = .ok (.isub, 1) := by decide +kernel
theorem dX13_record_29 : decode cX13_record 29 = .ok (.invokestatic 243, 3) := by decide +kernel
theorem dX13_record_32 : decode cX13_record 32 = .ok (.iinc 1 1, 3) := by decide +kernel
theorem dX13_record_35 : decode cX13_record 35 = .ok (.goto (-24), 3) := by decide +kernel
theorem dX13_record_38 : decode cX13_record 38 = .ok (.aload_n 0, 1) := by decide +kernel
theorem dX13_record_39 : decode cX13_record 39 = .ok (.dup, 1) := by decide +kernel
theorem dX13_record_40 : decode cX13_record 40 = .ok (.getfield 247, 3) := by decide +kernel
theorem dX13_record_43 : decode cX13_record 43 = .ok (.iconst 1, 1) := by decide +kernel
theorem dX13_record_44 : decode cX13_record 44 = .ok (.isub, 1) := by decide +kernel
theorem dX13_record_45 : decode cX13_record 45 = .ok (.putfield 247, 3) := by decide +kernel
theorem dX13_record_48 : decode cX13_record 48 = .ok (.aload_n 0, 1) := by decide +kernel
theorem dX13_record_49 : decode cX13_record 49 = .ok (.getfield 16, 3) := by decide +kernel
theorem dX13_record_52 : decode cX13_record 52 = .ok (.iconst 0, 1) := by decide +kernel
theorem dX13_record_53 : decode cX13_record 53 = .ok (.aload_n 0, 1) := by decide +kernel
theorem dX13_record_54 : decode cX13_record 54 = .ok (.getfield 23, 3) := by decide +kernel
theorem dX13_record_57 : decode cX13_record 57 = .ok (.aload_n 0, 1) := by decide +kernel
theorem dX13_record_58 : decode cX13_record 58 = .ok (.getfield 247, 3) := by decide +kernel
theorem dX13_record_61 : decode cX13_record 61 = .ok (.invokestatic 243, 3) := by decide +kernel
theorem dX13_record_64 : decode cX13_record 64 = .ok (.aload_n 0, 1) := by decide +kernel
theorem dX13_record_65 : decode cX13_record 65 = .ok (.dup, 1) := by decide +kernel
theorem dX13_record_66 : decode cX13_record 66 = .ok (.getfield 247, 3) := by decide +kernel
theorem dX13_record_69 : decode cX13_record 69 = .ok (.iconst 1, 1) := by decide +kernel
theorem dX13_record_70 : decode cX13_record 70 = .ok (.iadd, 1) := by decide +kernel
theorem dX13_record_71 : decode cX13_record 71 = .ok (.putfield 247, 3) := by decide +kernel
theorem dX13_record_74 : decode cX13_record 74 = .ok (.return_, 1) := by decide +kernel
theorem dX13_ends_0 : decode cX13_ends 0 = .ok (.aload_n 0, 1) := by decide +kernel
theorem dX13_ends_1 : decode cX13_ends 1 = .ok (.iload_n 1, 1) := by decide +kernel
theorem dX13_ends_2 : decode cX13_ends 2 = .ok (.putfield 85, 3) := by decide +kernel
theorem dX13_ends_5 : decode cX13_ends 5 = .ok (.iload_n 1, 1) := by decide +kernel
theorem dX13_ends_6 : decode cX13_ends 6 = .ok (.ifCond .eq 5, 3) := by decide +kernel
theorem dX13_ends_9 : decode cX13_ends 9 = .ok (.iconst 0, 1) := by decide +kernel
theorem dX13_ends_10 : decode cX13_ends 10 = .ok (.ireturn, 1) := by decide +kernel
theorem dX13_ends_11 : decode cX13_ends 11 = .ok (.aload_n 0, 1) := by decide +kernel
theorem dX13_ends_12 : decode cX13_ends 12 = .ok (.invokevirtual 250, 3) := by decide +kernel
theorem dX13_ends_15 : decode cX13_ends 15 = .ok (.aload_n 0, 1) := by decide +kernel
theorem dX13_ends_16 : decode cX13_ends 16 = .ok (.getfield 231, 3) := by decide +kernel
theorem dX13_ends_19 : decode cX13_ends 19 = .ok (.ireturn, 1) := by decide +kernel
theorem dX13_removeRow_0 : decode cX13_removeRow 0 = .ok (.aload_n 0, 1) := by decide +kernel
theorem dX13_removeRow_1 : decode cX13_removeRow 1 = .ok (.aload_n 0, 1) := by decide +kernel
theorem dX13_removeRow_2 : decode cX13_removeRow 2 = .ok (.iload_n 1, 1) := by decide +kernel
theorem dX13_removeRow_3 : decode cX13_removeRow 3 = .ok (.invokevirtual 127, 3) := by decide +kernel
theorem dX13_removeRow_6 : decode cX13_removeRow 6 = .ok (.invokevirtual 88, 3) := by decide +kernel
theorem dX13_removeRow_9 : decode cX13_removeRow 9 = .ok (.ifCond .eq 5, 3) := by decide +kernel
theorem dX13_removeRow_12 : decode cX13_removeRow 12 = .ok (.iconst 0, 1) := by decide +kernel
theorem dX13_removeRow_13 : decode cX13_removeRow 13 = .ok (.ireturn, 1) := by decide +kernel
theorem dX13_removeRow_14 : decode cX13_removeRow 14 = .ok (.aload_n 0, 1) := by decide +kernel
theorem dX13_removeRow_15 : decode cX13_removeRow 15 = .ok (.invokevirtual 253, 3) := by decide +kernel
theorem dX13_removeRow_18 : decode cX13_removeRow 18 = .ok (.aload_n 0, 1) := by decide +kernel
theorem dX13_removeRow_19 : decode cX13_removeRow 19 = .ok (.iload_n 1, 1) := by decide +kernel
theorem dX13_removeRow_20 : decode cX13_removeRow 20 = .ok (.invokevirtual 234, 3) := by decide +kernel
theorem dX13_removeRow_23 : decode cX13_removeRow 23 = .ok (.aload_n 0, 1) := by decide +kernel
theorem dX13_removeRow_24 : decode cX13_removeRow 24 = .ok (.aload_n 0, 1) := by decide +kernel
theorem dX13_removeRow_25 : decode cX13_removeRow 25 = .ok (.getfield 35, 3) := by decide +kernel
theorem dX13_removeRow_28 : decode cX13_removeRow 28 = .ok (.iconst 1, 1) := by decide +kernel
theorem dX13_removeRow_29 : decode cX13_removeRow 29 = .ok (.iaload, 1) := by decide +kernel
theorem dX13_removeRow_30 : decode cX13_removeRow 30 = .ok (.putfield 231, 3) := by decide +kernel
theorem dX13_removeRow_33 : decode cX13_removeRow 33 = .ok (.aload_n 0, 1) := by decide +kernel
theorem dX13_removeRow_34 : decode cX13_removeRow 34 = .ok (.iconst 0, 1) := by decide +kernel
theorem dX13_removeRow_35 : decode cX13_removeRow 35 = .ok (.invokevirtual 256, 3) := by decide +kernel
theorem dX13_removeRow_38 : decode cX13_removeRow 38 = .ok (.ireturn, 1) := by decide +kernel
theorem dX13_setValue_0 : decode cX13_setValue 0 = .ok (.aload_n 0, 1) := by decide +kernel
theorem dX13_setValue_1 : decode cX13_setValue 1 = .ok (.aload_n 0, 1) := by decide +kernel
theorem dX13_setValue_2 : decode cX13_setValue 2 = .ok (.iload_n 1, 1) := by decide +kernel
theorem dX13_setValue_3 : decode cX13_setValue 3 = .ok (.iload_n 2, 1) := by decide +kernel
theorem dX13_setValue_4 : decode cX13_setValue 4 = .ok (.invokevirtual 130, 3) := by decide +kernel
theorem dX13_setValue_7 : decode cX13_setValue 7 = .ok (.iload_n 3, 1) := by decide +kernel
theorem dX13_setValue_8 : decode cX13_setValue 8 = .ok (.invokestatic 104, 3) := by decide +kernel
theorem dX13_setValue_11 : decode cX13_setValue 11 = .ok (.invokevirtual 205, 3) := by decide +kernel
theorem dX13_setValue_14 : decode cX13_setValue 14 = .ok (.ifCond .eq 5, 3) := by decide +kernel
theorem dX13_setValue_17 : decode cX13_setValue 17 = .ok (.iconst 0, 1) := by decide +kernel
theorem dX13_setValue_18 : decode cX13_setValue 18 = .ok (.ireturn, 1) := by decide +kernel
theorem dX13_setValue_19 : decode cX13_setValue 19 = .ok (.aload_n 0, 1) := by decide +kernel
theorem dX13_setValue_20 : decode cX13_setValue 20 = .ok (.invokevirtual 253, 3) := by decide +kernel
theorem dX13_setValue_23 : decode cX13_setValue 23 = .ok (.aload_n 0, 1) := by decide +kernel
theorem dX13_setValue_24 : decode cX13_setValue 24 = .ok (.aload_n 0, 1) := by decide +kernel
theorem dX13_setValue_25 : decode cX13_setValue 25 = .ok (.iload_n 1, 1) := by decide +kernel
theorem dX13_setValue_26 : decode cX13_setValue 26 = .ok (.iload_n 2, 1) := by decide +kernel
theorem dX13_setValue_27 : decode cX13_setValue 27 = .ok (.iload_n 3, 1) := by decide +kernel
theorem dX13_setValue_28 : decode cX13_setValue 28 = .ok (.invokevirtual 259, 3) := by decide +kernel
theorem dX13_setValue_31 : decode cX13_setValue 31 = .ok (.invokevirtual 256, 3) := by decide +kernel
theorem dX13_setValue_34 : decode cX13_setValue 34 = .ok (.ireturn, 1) := by decide +kernel
theorem dX13_sort_0 : decode cX13_sort 0 = .ok (.aload_n 0, 1) := by decide +kernel
theorem dX13_sort_1 : decode cX13_sort 1 = .ok (.aload_n 0, 1) := by decide +kernel
theorem dX13_sort_2 : decode cX13_sort 2 = .ok (.iload_n 1, 1) := by decide +kernel
theorem dX13_sort_3 : decode cX13_sort 3 = .ok (.invokevirtual 112, 3) := by decide +kernel
theorem dX13_sort_6 : decode cX13_sort 6 = .ok (.invokevirtual 88, 3) := by decide +kernel
theorem dX13_sort_9 : decode cX13_sort 9 = .ok (.ifCond .eq 5, 3) := by decide +kernel
theorem dX13_sort_12 : decode cX13_sort 12 = .ok (.iconst 0, 1) := by decide +kernel
theorem dX13_sort_13 : decode cX13_sort 13 = .ok (.ireturn, 1) := by decide +kernel
theorem dX13_sort_14 : decode cX13_sort 14 = .ok (.aload_n 0, 1) := by decide +kernel
theorem dX13_sort_15 : decode cX13_sort 15 = .ok (.invokevirtual 253, 3) := by decide +kernel
theorem dX13_sort_18 : decode cX13_sort 18 = .ok (.aload_n 0, 1) := by decide +kernel
theorem dX13_sort_19 : decode cX13_sort 19 = .ok (.aload_n 0, 1) := by decide +kernel
theorem dX13_sort_20 : decode cX13_sort 20 = .ok (.iload_n 1, 1) := by decide +kernel
theorem dX13_sort_21 : decode cX13_sort 21 = .ok (.iload_n 2, 1) := by decide +kernel
theorem dX13_sort_22 : decode cX13_sort 22 = .ok (.ifCond .eq 7, 3) := by decide +kernel
theorem dX13_sort_25 : decode cX13_sort 25 = .ok (.iconst 1, 1) := by decide +kernel
theorem dX13_sort_26 : decode cX13_sort 26 = .ok (.goto 4, 3) := by decide +kernel
theorem dX13_sort_29 : decode cX13_sort 29 = .ok (.iconst (-1), 1) := by decide +kernel
theorem dX13_sort_30 : decode cX13_sort 30 = .ok (.invokevirtual 263, 3) := by decide +kernel
theorem dX13_sort_33 : decode cX13_sort 33 = .ok (.invokevirtual 256, 3) := by decide +kernel
theorem dX13_sort_36 : decode cX13_sort 36 = .ok (.ireturn, 1) := by decide +kernel
theorem dX13_addCondition_0 : decode cX13_addCondition 0 = .ok (.aload_n 0, 1) := by decide +kernel
theorem dX13_addCondition_1 : decode cX13_addCondition 1 = .ok (.aload_n 0, 1) := by decide +kernel
theorem dX13_addCondition_2 : decode cX13_addCondition 2 = .ok (.iload_n 1, 1) := by decide +kernel
theorem dX13_addCondition_3 : decode cX13_addCondition 3 = .ok (.invokevirtual 112, 3) := by decide +kernel
theorem dX13_addCondition_6 : decode cX13_addCondition 6 = .ok (.iload_n 2, 1) := by decide +kernel
theorem dX13_addCondition_7 : decode cX13_addCondition 7 = .ok (.invokestatic 104, 3) := by decide +kernel
theorem dX13_addCondition_10 : decode cX13_addCondition 10 = .ok (.invokevirtual 205, 3) := by decide +kernel
theorem dX13_addCondition_13 : decode cX13_addCondition 13 = .ok (.ifCond .eq 5, 3) := by decide +kernel
theorem dX13_addCondition_16 : decode cX13_addCondition 16 = .ok (.iconst 0, 1) := by decide +kernel
theorem dX13_addCondition_17 : decode cX13_addCondition 17 = .ok (.ireturn, 1) := by decide +kernel
theorem dX13_addCondition_18 : decode cX13_addCondition 18 = .ok (.aload_n 0, 1) := by decide +kernel
theorem dX13_addCondition_19 : decode cX13_addCondition 19 = .ok (.invokevirtual 253, 3) := by decide +kernel
theorem dX13_addCondition_22 : decode cX13_addCondition 22 = .ok (.aload_n 0, 1) := by decide +kernel
theorem dX13_addCondition_23 : decode cX13_addCondition 23 = .ok (.aload_n 0, 1) := by decide +kernel
theorem dX13_addCondition_24 : decode cX13_addCondition 24 = .ok (.iload_n 1, 1) := by decide +kernel
theorem dX13_addCondition_25 : decode cX13_addCondition 25 = .ok (.iload_n 2, 1) := by decide +kernel
theorem dX13_addCondition_26 : decode cX13_addCondition 26 = .ok (.iload_n 3, 1) := by decide +kernel
theorem dX13_addCondition_27 : decode cX13_addCondition 27 = .ok (.invokevirtual 266, 3) := by decide +kernel
theorem dX13_addCondition_30 : decode cX13_addCondition 30 = .ok (.invokevirtual 256, 3) := by decide +kernel
theorem dX13_addCondition_33 : decode cX13_addCondition 33 = .ok (.ireturn, 1) := by decide +kernel
theorem dX13_addLess_0 : decode cX13_addLess 0 = .ok (.aload_n 0, 1) := by decide +kernel
theorem dX13_addLess_1 : decode cX13_addLess 1 = .ok (.iload_n 1, 1) := by decide +kernel
theorem dX13_addLess_2 : decode cX13_addLess 2 = .ok (.iload_n 2, 1) := by decide +kernel
theorem dX13_addLess_3 : decode cX13_addLess 3 = .ok (.iconst (-1), 1) := by decide +kernel
theorem dX13_addLess_4 : decode cX13_addLess 4 = .ok (.invokevirtual 269, 3) := by decide +kernel
theorem dX13_addLess_7 : decode cX13_addLess 7 = .ok (.ireturn, 1) := by decide +kernel
theorem dX13_addEqual_0 : decode cX13_addEqual 0 = .ok (.aload_n 0, 1) := by decide +kernel
theorem dX13_addEqual_1 : decode cX13_addEqual 1 = .ok (.iload_n 1, 1) := by decide +kernel
theorem dX13_addEqual_2 : decode cX13_addEqual 2 = .ok (.iload_n 2, 1) := by decide +kernel
theorem dX13_addEqual_3 : decode cX13_addEqual 3 = .ok (.iconst 0, 1) := by decide +kernel
theorem dX13_addEqual_4 : decode cX13_addEqual 4 = .ok (.invokevirtual 269, 3) := by decide +kernel
theorem dX13_addEqual_7 : decode cX13_addEqual 7 = .ok (.ireturn, 1) := by decide +kernel
theorem dX13_addGreater_0 : decode cX13_addGreater 0 = .ok (.aload_n 0, 1) := by decide +kernel
theorem dX13_addGreater_1 : decode cX13_addGreater 1 = .ok (.iload_n 1, 1) := by decide +kernel
theorem dX13_addGreater_2 : decode cX13_addGreater 2 = .ok (.iload_n 2, 1) := by decide +kernel
theorem dX13_addGreater_3 : decode cX13_addGreater 3 = .ok (.iconst 1, 1) := by decide +kernel
theorem dX13_addGreater_4 : decode cX13_addGreater 4 = .ok (.invokevirtual 269, 3) := by decide +kernel
theorem dX13_addGreater_7 : decode cX13_addGreater 7 = .ok (.ireturn, 1) := by decide +kernel
theorem dX13_removeCondition_0 : decode cX13_removeCondition 0 = .ok (.aload_n 0, 1) := by decide +kernel
theorem dX13_removeCondition_1 : decode cX13_removeCondition 1 = .ok (.invokevirtual 253, 3) := by decide +kernel
theorem dX13_removeCondition_4 : decode cX13_removeCondition 4 = .ok (.aload_n 0, 1) := by decide +kernel
theorem dX13_removeCondition_5 : decode cX13_removeCondition 5 = .ok (.aload_n 0, 1) := by decide +kernel
theorem dX13_removeCondition_6 : decode cX13_removeCondition 6 = .ok (.iload_n 1, 1) := by decide +kernel
theorem dX13_removeCondition_7 : decode cX13_removeCondition 7 = .ok (.invokevirtual 272, 3) := by decide +kernel
theorem dX13_removeCondition_10 : decode cX13_removeCondition 10 = .ok (.invokevirtual 256, 3) := by decide +kernel
theorem dX13_removeCondition_13 : decode cX13_removeCondition 13 = .ok (.ireturn, 1) := by decide +kernel
theorem dX13_deleteSelected_0 : decode cX13_deleteSelected 0 = .ok (.aload_n 0, 1) := by decide +kernel
theorem dX13_deleteSelected_1 : decode cX13_deleteSelected 1 = .ok (.invokevirtual 253, 3) := by decide +kernel
theorem dX13_deleteSelected_4 : decode cX13_deleteSelected 4 = .ok (.aload_n 0, 1) := by decide +kernel
theorem dX13_deleteSelected_5 : decode cX13_deleteSelected 5 = .ok (.aload_n 0, 1) := by decide +kernel
theorem dX13_deleteSelected_6 : decode cX13_deleteSelected 6 = .ok (.invokevirtual 275, 3) := by decide +kernel
theorem dX13_deleteSelected_9 : decode cX13_deleteSelected 9 = .ok (.invokevirtual 256, 3) := by decide +kernel
theorem dX13_deleteSelected_12 : decode cX13_deleteSelected 12 = .ok (.ireturn, 1) := by decide +kernel
theorem dX13_compact_0 : decode cX13_compact 0 = .ok (.aload_n 0, 1) := by decide +kernel
theorem dX13_compact_1 : decode cX13_compact 1 = .ok (.aload_n 0, 1) := by decide +kernel
theorem dX13_compact_2 : decode cX13_compact 2 = .ok (.iload_n 1, 1) := by decide +kernel
theorem dX13_compact_3 : decode cX13_compact 3 = .ok (.invokevirtual 112, 3) := by decide +kernel
theorem dX13_compact_6 : decode cX13_compact 6 = .ok (.invokevirtual 88, 3) := by decide +kernel
theorem dX13_compact_9 : decode cX13_compact 9 = .ok (.ifCond .eq 5, 3) := by decide +kernel
theorem dX13_compact_12 : decode cX13_compact 12 = .ok (.iconst 0, 1) := by decide +kernel
theorem dX13_compact_13 : decode cX13_compact 13 = .ok (.ireturn, 1) := by decide +kernel
theorem dX13_compact_14 : decode cX13_compact 14 = .ok (.aload_n 0, 1) := by decide +kernel
theorem dX13_compact_15 : decode cX13_compact 15 = .ok (.invokevirtual 253, 3) := by decide +kernel
theorem dX13_compact_18 : decode cX13_compact 18 = .ok (.aload_n 0, 1) := by decide +kernel
theorem dX13_compact_19 : decode cX13_compact 19 = .ok (.aload_n 0, 1) := by decide +kernel
theorem dX13_compact_20 : decode cX13_compact 20 = .ok (.iload_n 1, 1) := by decide +kernel
theorem dX13_compact_21 : decode cX13_compact 21 = .ok (.invokevirtual 278, 3) := by decide +kernel
theorem dX13_compact_24 : decode cX13_compact 24 = .ok (.invokevirtual 256, 3) := by decide +kernel
theorem dX13_compact_27 : decode cX13_compact 27 = .ok (.ireturn, 1) := by decide +kernel
theorem dX13_write_0 : decode cX13_write 0 = .ok (.aload_n 0, 1) := by decide +kernel
theorem dX13_write_1 : decode cX13_write 1 = .ok (.getfield 38, 3) := by decide +kernel
theorem dX13_write_4 : decode cX13_write 4 = .ok (.aload_n 0, 1) := by decide +kernel
theorem dX13_write_5 : decode cX13_write 5 = .ok (.getfield 281, 3) := by decide +kernel
theorem dX13_write_8 : decode cX13_write 8 = .ok (.iload_n 1, 1) := by decide +kernel
theorem dX13_write_9 : decode cX13_write 9 = .ok (.iastore, 1) := by decide +kernel
theorem dX13_write_10 : decode cX13_write 10 = .ok (.aload_n 0, 1) := by decide +kernel
theorem dX13_write_11 : decode cX13_write 11 = .ok (.dup, 1) := by decide +kernel
theorem dX13_write_12 : decode cX13_write 12 = .ok (.getfield 281, 3) := by decide +kernel
theorem dX13_write_15 : decode cX13_write 15 = .ok (.iconst 1, 1) := by decide +kernel
theorem dX13_write_16 : decode cX13_write 16 = .ok (.iadd, 1) := by decide +kernel
theorem dX13_write_17 : decode cX13_write 17 = .ok (.putfield 281, 3) := by decide +kernel
theorem dX13_write_20 : decode cX13_write 20 = .ok (.return_, 1) := by decide +kernel
theorem dX13_writeNumber_0 : decode cX13_writeNumber 0 = .ok (.iload_n 1, 1) := by decide +kernel
theorem dX13_writeNumber_1 : decode cX13_writeNumber 1 = .ok (.ifCond .ge 9, 3) := by decide +kernel
theorem dX13_writeNumber_4 : decode cX13_writeNumber 4 = .ok (.aload_n 0, 1) := by decide +kernel
theorem dX13_writeNumber_5 : decode cX13_writeNumber 5 = .ok (.bipush 45, 2) := by decide +kernel
theorem dX13_writeNumber_7 : decode cX13_writeNumber 7 = .ok (.invokevirtual 284, 3) := by decide +kernel
theorem dX13_writeNumber_10 : decode cX13_writeNumber 10 = .ok (.iload_n 1, 1) := by decide +kernel
theorem dX13_writeNumber_11 : decode cX13_writeNumber 11 = .ok (.ifCond .ge 8, 3) := by decide +kernel
theorem dX13_writeNumber_14 : decode cX13_writeNumber 14 = .ok (.iload_n 1, 1) := by decide +kernel
theorem dX13_writeNumber_15 : decode cX13_writeNumber 15 = .ok (.ineg, 1) := by decide +kernel
theorem dX13_writeNumber_16 : decode cX13_writeNumber 16 = .ok (.goto 4, 3) := by decide +kernel
theorem dX13_writeNumber_19 : decode cX13_writeNumber 19 = .ok (.iload_n 1, 1) := by decide +kernel
theorem dX13_writeNumber_20 : decode cX13_writeNumber 20 = .ok (.istore_n 2, 1) := by decide +kernel
theorem dX13_writeNumber_21 : decode cX13_writeNumber 21 = .ok (.iconst 1, 1) := by decide +kernel
theorem dX13_writeNumber_22 : decode cX13_writeNumber 22 = .ok (.istore_n 3, 1) := by decide +kernel
theorem dX13_writeNumber_23 : decode cX13_writeNumber 23 = .ok (.iload_n 2, 1) := by decide +kernel
theorem dX13_writeNumber_24 : decode cX13_writeNumber 24 = .ok (.iload_n 3, 1) := by decide +kernel
theorem dX13_writeNumber_25 : decode cX13_writeNumber 25 = .ok (.idiv, 1) := by decide +kernel
theorem dX13_writeNumber_26 : decode cX13_writeNumber 26 = .ok (.bipush 9, 2) := by decide +kernel
theorem dX13_writeNumber_28 : decode cX13_writeNumber 28 = .ok (.if_icmp .le 11, 3) := by decide +kernel
theorem dX13_writeNumber_31 : decode cX13_writeNumber 31 = .ok (.iload_n 3, 1) := by decide +kernel
theorem dX13_writeNumber_32 : decode cX13_writeNumber 32 = .ok (.bipush 10, 2) := by decide +kernel
theorem dX13_writeNumber_34 : decode cX13_writeNumber 34 = .ok (.imul, 1) := by decide +kernel
theorem dX13_writeNumber_35 : decode cX13_writeNumber 35 = .ok (.istore_n 3, 1) := by decide +kernel
theorem dX13_writeNumber_36 : decode cX13_writeNumber 36 = .ok (.goto (-13), 3) := by decide +kernel
theorem dX13_writeNumber_39 : decode cX13_writeNumber 39 = .ok (.iload_n 3, 1) := by decide +kernel
theorem dX13_writeNumber_40 : decode cX13_writeNumber 40 = .ok (.istore 4, 2) := by decide +kernel
theorem dX13_writeNumber_42 : decode cX13_writeNumber 42 = .ok (.iload 4, 2) := by decide +kernel
theorem dX13_writeNumber_44 : decode cX13_writeNumber 44 = .ok (.ifCond .le 27, 3) := by decide +kernel
theorem dX13_writeNumber_47 : decode cX13_writeNumber 47 = .ok (.aload_n 0, 1) := by decide +kernel
theorem dX13_writeNumber_48 : decode cX13_writeNumber 48 = .ok (.bipush 48, 2) := by decide +kernel
theorem dX13_writeNumber_50 : decode cX13_writeNumber 50 = .ok (.iload_n 2, 1) := by decide +kernel
theorem dX13_writeNumber_51 : decode cX13_writeNumber 51 = .ok (.iload 4, 2) := by decide +kernel
theorem dX13_writeNumber_53 : decode cX13_writeNumber 53 = .ok (.idiv, 1) := by decide +kernel
theorem dX13_writeNumber_54 : decode cX13_writeNumber 54 = .ok (.bipush 10, 2) := by decide +kernel
theorem dX13_writeNumber_56 : decode cX13_writeNumber 56 = .ok (.irem, 1) := by decide +kernel
theorem dX13_writeNumber_57 : decode cX13_writeNumber 57 = .ok (.iadd, 1) := by decide +kernel
theorem dX13_writeNumber_58 : decode cX13_writeNumber 58 = .ok (.invokevirtual 284, 3) := by decide +kernel
theorem dX13_writeNumber_61 : decode cX13_writeNumber 61 = .ok (.iload 4, 2) := by decide +kernel
theorem dX13_writeNumber_63 : decode cX13_writeNumber 63 = .ok (.bipush 10, 2) := by decide +kernel
theorem dX13_writeNumber_65 : decode cX13_writeNumber 65 = .ok (.idiv, 1) := by decide +kernel
theorem dX13_writeNumber_66 : decode cX13_writeNumber 66 = .ok (.istore 4, 2) := by decide +kernel
theorem dX13_writeNumber_68 : decode cX13_writeNumber 68 = .ok (.goto (-26), 3) := by decide +kernel
theorem dX13_writeNumber_71 : decode cX13_writeNumber 71 = .ok (.return_, 1) := by decide +kernel
theorem dX13_writeRow_0 : decode cX13_writeRow 0 = .ok (.aload_n 0, 1) := by decide +kernel
theorem dX13_writeRow_1 : decode cX13_writeRow 1 = .ok (.aload_n 0, 1) := by decide +kernel
theorem dX13_writeRow_2 : decode cX13_writeRow 2 = .ok (.iload_n 1, 1) := by decide +kernel
theorem dX13_writeRow_3 : decode cX13_writeRow 3 = .ok (.invokevirtual 127, 3) := by decide +kernel
theorem dX13_writeRow_6 : decode cX13_writeRow 6 = .ok (.invokevirtual 88, 3) := by decide +kernel
theorem dX13_writeRow_9 : decode cX13_writeRow 9 = .ok (.ifCond .eq 5, 3) := by decide +kernel
theorem dX13_writeRow_12 : decode cX13_writeRow 12 = .ok (.iconst 0, 1) := by decide +kernel
theorem dX13_writeRow_13 : decode cX13_writeRow 13 = .ok (.ireturn, 1) := by decide +kernel
theorem dX13_writeRow_14 : decode cX13_writeRow 14 = .ok (.aload_n 0, 1) := by decide +kernel
theorem dX13_writeRow_15 : decode cX13_writeRow 15 = .ok (.iconst 0, 1) := by decide +kernel
theorem dX13_writeRow_16 : decode cX13_writeRow 16 = .ok (.putfield 281, 3) := by decide +kernel
theorem dX13_writeRow_19 : decode cX13_writeRow 19 = .ok (.iconst 0, 1) := by decide +kernel
theorem dX13_writeRow_20 : decode cX13_writeRow 20 = .ok (.istore_n 2, 1) := by decide +kernel
theorem dX13_writeRow_21 : decode cX13_writeRow 21 = .ok (.iload_n 2, 1) := by decide +kernel
theorem dX13_writeRow_22 : decode cX13_writeRow 22 = .ok (.aload_n 0, 1) := by decide +kernel
theorem dX13_writeRow_23 : decode cX13_writeRow 23 = .ok (.getfield 35, 3) := by decide +kernel
theorem dX13_writeRow_26 : decode cX13_writeRow 26 = .ok (.iconst 0, 1) := by decide +kernel
theorem dX13_writeRow_27 : decode cX13_writeRow 27 = .ok (.iaload, 1) := by decide +kernel
theorem dX13_writeRow_28 : decode cX13_writeRow 28 = .ok (.if_icmp .ge 29, 3) := by decide +kernel
theorem dX13_writeRow_31 : decode cX13_writeRow 31 = .ok (.iload_n 2, 1) := by decide +kernel
theorem dX13_writeRow_32 : decode cX13_writeRow 32 = .ok (.ifCond .le 9, 3) := by decide +kernel
theorem dX13_writeRow_35 : decode cX13_writeRow 35 = .ok (.aload_n 0, 1) := by decide +kernel
theorem dX13_writeRow_36 : decode cX13_writeRow 36 = .ok (.bipush 32, 2) := by decide +kernel
theorem dX13_writeRow_38 : decode cX13_writeRow 38 = .ok (.invokevirtual 284, 3) := by decide +kernel
theorem dX13_writeRow_41 : decode cX13_writeRow 41 = .ok (.aload_n 0, 1) := by decide +kernel
theorem dX13_writeRow_42 : decode cX13_writeRow 42 = .ok (.aload_n 0, 1) := by decide +kernel
theorem dX13_writeRow_43 : decode cX13_writeRow 43 = .ok (.iload_n 2, 1) := by decide +kernel
theorem dX13_writeRow_44 : decode cX13_writeRow 44 = .ok (.iload_n 1, 1) := by decide +kernel
theorem dX13_writeRow_45 : decode cX13_writeRow 45 = .ok (.invokevirtual 118, 3) := by decide +kernel
theorem dX13_writeRow_48 : decode cX13_writeRow 48 = .ok (.invokevirtual 287, 3) := by decide +kernel
theorem dX13_writeRow_51 : decode cX13_writeRow 51 = .ok (.iinc 2 1, 3) := by decide +kernel
theorem dX13_writeRow_54 : decode cX13_writeRow 54 = .ok (.goto (-33), 3) := by decide +kernel
theorem dX13_writeRow_57 : decode cX13_writeRow 57 = .ok (.aload_n 0, 1) := by decide +kernel
theorem dX13_writeRow_58 : decode cX13_writeRow 58 = .ok (.iload_n 1, 1) := by decide +kernel
theorem dX13_writeRow_59 : decode cX13_writeRow 59 = .ok (.invokevirtual 183, 3) := by decide +kernel
theorem dX13_writeRow_62 : decode cX13_writeRow 62 = .ok (.ifCond .eq 9, 3) := by decide +kernel
theorem dX13_writeRow_65 : decode cX13_writeRow 65 = .ok (.aload_n 0, 1) := by decide +kernel
theorem dX13_writeRow_66 : decode cX13_writeRow 66 = .ok (.bipush 42, 2) := by decide +kernel
theorem dX13_writeRow_68 : decode cX13_writeRow 68 = .ok (.invokevirtual 284, 3) := by decide +kernel
theorem dX13_writeRow_71 : decode cX13_writeRow 71 = .ok (.aload_n 0, 1) := by decide +kernel
theorem dX13_writeRow_72 : decode cX13_writeRow 72 = .ok (.getfield 281, 3) := by decide +kernel
theorem dX13_writeRow_75 : decode cX13_writeRow 75 = .ok (.ireturn, 1) := by decide +kernel
theorem dX13_outputByte_0 : decode cX13_outputByte 0 = .ok (.aload_n 0, 1) := by decide +kernel
theorem dX13_outputByte_1 : decode cX13_outputByte 1 = .ok (.iload_n 1, 1) := by decide +kernel
theorem dX13_outputByte_2 : decode cX13_outputByte 2 = .ok (.iconst 0, 1) := by decide +kernel
theorem dX13_outputByte_3 : decode cX13_outputByte 3 = .ok (.aload_n 0, 1) := by decide +kernel
theorem dX13_outputByte_4 : decode cX13_outputByte 4 = .ok (.getfield 281, 3) := by decide +kernel
theorem dX13_outputByte_7 : decode cX13_outputByte 7 = .ok (.iconst 1, 1) := by decide +kernel
theorem dX13_outputByte_8 : decode cX13_outputByte 8 = .ok (.isub, 1) := by decide +kernel
theorem dX13_outputByte_9 : decode cX13_outputByte 9 = .ok (.invokestatic 92, 3) := by decide +kernel
theorem dX13_outputByte_12 : decode cX13_outputByte 12 = .ok (.invokevirtual 88, 3) := by decide +kernel
theorem dX13_outputByte_15 : decode cX13_outputByte 15 = .ok (.ifCond .eq 7, 3) := by decide +kernel
theorem dX13_outputByte_18 : decode cX13_outputByte 18 = .ok (.iconst 0, 1) := by decide +kernel
theorem dX13_outputByte_19 : decode cX13_outputByte 19 = .ok (.goto 9, 3) := by decide +kernel
theorem dX13_outputByte_22 : decode cX13_outputByte 22 = .ok (.aload_n 0, 1) := by decide +kernel
theorem dX13_outputByte_23 : decode cX13_outputByte 23 = .ok (.getfield 38, 3) := by decide +kernel
theorem dX13_outputByte_26 : decode cX13_outputByte 26 = .ok (.iload_n 1, 1) := by decide +kernel
theorem dX13_outputByte_27 : decode cX13_outputByte 27 = .ok (.iaload, 1) := by decide +kernel
theorem dX13_outputByte_28 : decode cX13_outputByte 28 = .ok (.ireturn, 1) := by decide +kernel
theorem dX13_undoableCount_0 : decode cX13_undoableCount 0 = .ok (.aload_n 0, 1) := by decide +kernel
theorem dX13_undoableCount_1 : decode cX13_undoableCount 1 = .ok (.iconst 0, 1) := by decide +kernel
theorem dX13_undoableCount_2 : decode cX13_undoableCount 2 = .ok (.putfield 85, 3) := by decide +kernel
theorem dX13_undoableCount_5 : decode cX13_undoableCount 5 = .ok (.aload_n 0, 1) := by decide +kernel
theorem dX13_undoableCount_6 : decode cX13_undoableCount 6 = .ok (.getfield 247, 3) := by decide +kernel
theorem dX13_undoableCount_9 : decode cX13_undoableCount 9 = .ok (.ireturn, 1) := by decide +kernel
theorem dX13_undo_0 : decode cX13_undo 0 = .ok (.aload_n 0, 1) := by decide +kernel
theorem dX13_undo_1 : decode cX13_undo 1 = .ok (.aload_n 0, 1) := by decide +kernel
theorem dX13_undo_2 : decode cX13_undo 2 = .ok (.getfield 247, 3) := by decide +kernel
theorem dX13_undo_5 : decode cX13_undo 5 = .ok (.ifCond .le 7, 3) := by decide +kernel
theorem dX13_undo_8 : decode cX13_undo 8 = .ok (.iconst 1, 1) := by decide +kernel
theorem dX13_undo_9 : decode cX13_undo 9 = .ok (.goto 4, 3) := by decide +kernel
theorem dX13_undo_12 : decode cX13_undo 12 = .ok (.iconst 0, 1) := by decide +kernel
theorem dX13_undo_13 : decode cX13_undo 13 = .ok (.invokevirtual 88, 3) := by decide +kernel
theorem dX13_undo_16 : decode cX13_undo 16 = .ok (.ifCond .eq 5, 3) := by decide +kernel
theorem dX13_undo_19 : decode cX13_undo 19 = .ok (.iconst 0, 1) := by decide +kernel
theorem dX13_undo_20 : decode cX13_undo 20 = .ok (.ireturn, 1) := by decide +kernel
theorem dX13_undo_21 : decode cX13_undo 21 = .ok (.aload_n 0, 1) := by decide +kernel
theorem dX13_undo_22 : decode cX13_undo 22 = .ok (.dup, 1) := by decide +kernel
theorem dX13_undo_23 : decode cX13_undo 23 = .ok (.getfield 247, 3) := by decide +kernel
theorem dX13_undo_26 : decode cX13_undo 26 = .ok (.iconst 1, 1) := by decide +kernel
theorem dX13_undo_27 : decode cX13_undo 27 = .ok (.isub, 1) := by decide +kernel
theorem dX13_undo_28 : decode cX13_undo 28 = .ok (.putfield 247, 3) := by decide +kernel
theorem dX13_undo_31 : decode cX13_undo 31 = .ok (.aload_n 0, 1) := by decide +kernel
theorem dX13_undo_32 : decode cX13_undo 32 = .ok (.getfield 23, 3) := by decide +kernel
theorem dX13_undo_35 : decode cX13_undo 35 = .ok (.aload_n 0, 1) := by decide +kernel
theorem dX13_undo_36 : decode cX13_undo 36 = .ok (.getfield 247, 3) := by decide +kernel
theorem dX13_undo_39 : decode cX13_undo 39 = .ok (.aload_n 0, 1) := by decide +kernel
theorem dX13_undo_40 : decode cX13_undo 40 = .ok (.getfield 9, 3) := by decide +kernel
theorem dX13_undo_43 : decode cX13_undo 43 = .ok (.iconst 0, 1) := by decide +kernel
theorem dX13_undo_44 : decode cX13_undo 44 = .ok (.invokestatic 243, 3) := by decide +kernel
theorem dX13_undo_47 : decode cX13_undo 47 = .ok (.aload_n 0, 1) := by decide +kernel
theorem dX13_undo_48 : decode cX13_undo 48 = .ok (.getfield 247, 3) := by decide +kernel
theorem dX13_undo_51 : decode cX13_undo 51 = .ok (.ireturn, 1) := by decide +kernel
theorem dX13_saveSnapshot_0 : decode cX13_saveSnapshot 0 = .ok (.aload_n 0, 1) := by decide +kernel
theorem dX13_saveSnapshot_1 : decode cX13_saveSnapshot 1 = .ok (.iconst 0, 1) := by decide +kernel
theorem dX13_saveSnapshot_2 : decode cX13_saveSnapshot 2 = .ok (.putfield 85, 3) := by decide +kernel
theorem dX13_saveSnapshot_5 : decode cX13_saveSnapshot 5 = .ok (.aload_n 0, 1) := by decide +kernel
theorem dX13_saveSnapshot_6 : decode cX13_saveSnapshot 6 = .ok (.getfield 9, 3) := by decide +kernel
theorem dX13_saveSnapshot_9 : decode cX13_saveSnapshot 9 = .ok (.iconst 0, 1) := by decide +kernel
theorem dX13_saveSnapshot_10 : decode cX13_saveSnapshot 10 = .ok (.aload_n 0, 1) := by decide +kernel
theorem dX13_saveSnapshot_11 : decode cX13_saveSnapshot 11 = .ok (.getfield 19, 3) := by decide +kernel
theorem dX13_saveSnapshot_14 : decode cX13_saveSnapshot 14 = .ok (.iconst 0, 1) := by decide +kernel
theorem dX13_saveSnapshot_15 : decode cX13_saveSnapshot 15 = .ok (.invokestatic 243, 3) := by decide +kernel
theorem dX13_saveSnapshot_18 : decode cX13_saveSnapshot 18 = .ok (.aload_n 0, 1) := by decide +kernel
theorem dX13_saveSnapshot_19 : decode cX13_saveSnapshot 19 = .ok (.iconst 1, 1) := by decide +kernel
theorem dX13_saveSnapshot_20 : decode cX13_saveSnapshot 20 = .ok (.putfield 290, 3) := by decide +kernel
theorem dX13_saveSnapshot_23 : decode cX13_saveSnapshot 23 = .ok (.return_, 1) := by decide +kernel
theorem dX13_restoreSnapshot_0 : decode cX13_restoreSnapshot 0 = .ok (.aload_n 0, 1) := by decide +kernel
theorem dX13_restoreSnapshot_1 : decode cX13_restoreSnapshot 1 = .ok (.aload_n 0, 1) := by decide +kernel
theorem dX13_restoreSnapshot_2 : decode cX13_restoreSnapshot 2 = .ok (.getfield 290, 3) := by decide +kernel
theorem dX13_restoreSnapshot_5 : decode cX13_restoreSnapshot 5 = .ok (.invokevirtual 88, 3) := by decide +kernel
theorem dX13_restoreSnapshot_8 : decode cX13_restoreSnapshot 8 = .ok (.ifCond .eq 5, 3) := by decide +kernel
theorem dX13_restoreSnapshot_11 : decode cX13_restoreSnapshot 11 = .ok (.iconst 0, 1) := by decide +kernel
theorem dX13_restoreSnapshot_12 : decode cX13_restoreSnapshot 12 = .ok (.ireturn, 1) := by decide +kernel
theorem dX13_restoreSnapshot_13 : decode cX13_restoreSnapshot 13 = .ok (.aload_n 0, 1) := by decide +kernel
theorem dX13_restoreSnapshot_14 : decode cX13_restoreSnapshot 14 = .ok (.getfield 19, 3) := by decide +kernel
theorem dX13_restoreSnapshot_17 : decode cX13_restoreSnapshot 17 = .ok (.iconst 0, 1) := by decide +kernel
theorem dX13_restoreSnapshot_18 : decode cX13_restoreSnapshot 18 = .ok (.aload_n 0, 1) := by decide +kernel
theorem dX13_restoreSnapshot_19 : decode cX13_restoreSnapshot 19 = .ok (.getfield 9, 3) := by decide +kernel
theorem dX13_restoreSnapshot_22 : decode cX13_restoreSnapshot 22 = .ok (.iconst 0, 1) := by decide +kernel
theorem dX13_restoreSnapshot_23 : decode cX13_restoreSnapshot 23 = .ok (.invokestatic 243, 3) := by decide +kernel
theorem dX13_restoreSnapshot_26 : decode cX13_restoreSnapshot 26 = .ok (.aload_n 0, 1) := by decide +kernel
theorem dX13_restoreSnapshot_27 : decode cX13_restoreSnapshot 27 = .ok (.iconst 0, 1) := by decide +kernel
theorem dX13_restoreSnapshot_28 : decode cX13_restoreSnapshot 28 = .ok (.putfield 247, 3) := by decide +kernel
theorem dX13_restoreSnapshot_31 : decode cX13_restoreSnapshot 31 = .ok (.aload_n 0, 1) := by decide +kernel
theorem dX13_restoreSnapshot_32 : decode cX13_restoreSnapshot 32 = .ok (.getfield 35, 3) := by decide +kernel
theorem dX13_restoreSnapshot_35 : decode cX13_restoreSnapshot 35 = .ok (.iconst 1, 1) := by decide +kernel
theorem dX13_restoreSnapshot_36 : decode cX13_restoreSnapshot 36 = .ok (.iaload, 1) := by decide +kernel
theorem dX13_restoreSnapshot_37 : decode cX13_restoreSnapshot 37 = .ok (.ireturn, 1) := by decide +kernel
theorem dX13_appendText_0 : decode cX13_appendText 0 = .ok (.aload_n 0, 1) := by decide +kernel
theorem dX13_appendText_1 : decode cX13_appendText 1 = .ok (.iconst 0, 1) := by decide +kernel
theorem dX13_appendText_2 : decode cX13_appendText 2 = .ok (.putfield 85, 3) := by decide +kernel
theorem dX13_appendText_5 : decode cX13_appendText 5 = .ok (.aload_n 0, 1) := by decide +kernel
theorem dX13_appendText_6 : decode cX13_appendText 6 = .ok (.getfield 294, 3) := by decide +kernel
theorem dX13_appendText_9 : decode cX13_appendText 9 = .ok (.bipush 20, 2) := by decide +kernel
theorem dX13_appendText_11 : decode cX13_appendText 11 = .ok (.iadd, 1) := by decide +kernel
theorem dX13_appendText_12 : decode cX13_appendText 12 = .ok (.sipush 700, 3) := by decide +kernel
theorem dX13_appendText_15 : decode cX13_appendText 15 = .ok (.if_icmp .le 5, 3) := by decide +kernel
theorem dX13_appendText_18 : decode cX13_appendText 18 = .ok (.iconst (-1), 1) := by decide +kernel
theorem dX13_appendText_19 : decode cX13_appendText 19 = .ok (.ireturn, 1) := by decide +kernel
theorem dX13_appendText_20 : decode cX13_appendText 20 = .ok (.iconst 0, 1) := by decide +kernel
theorem dX13_appendText_21 : decode cX13_appendText 21 = .ok (.istore 6, 2) := by decide +kernel
theorem dX13_appendText_23 : decode cX13_appendText 23 = .ok (.iload 6, 2) := by decide +kernel
theorem dX13_appendText_25 : decode cX13_appendText 25 = .ok (.bipush 20, 2) := by decide +kernel
theorem dX13_appendText_27 : decode cX13_appendText 27 = .ok (.if_icmp .ge 93, 3) := by decide +kernel
theorem dX13_appendText_30 : decode cX13_appendText 30 = .ok (.iload 6, 2) := by decide +kernel
theorem dX13_appendText_32 : decode cX13_appendText 32 = .ok (.iconst 4, 1) := by decide +kernel
theorem dX13_appendText_33 : decode cX13_appendText 33 = .ok (.if_icmp .ge 7, 3) := by decide +kernel
theorem dX13_appendText_36 : decode cX13_appendText 36 = .ok (.iload_n 1, 1) := by decide +kernel
theorem dX13_appendText_37 : decode cX13_appendText 37 = .ok (.goto 39, 3) := by decide +kernel
theorem dX13_appendText_40 : decode cX13_appendText 40 = .ok (.iload 6, 2) := by decide +kernel
theorem dX13_appendText_42 : decode cX13_appendText 42 = .ok (.bipush 8, 2) := by decide +kernel
theorem dX13_appendText_44 : decode cX13_appendText 44 = .ok (.if_icmp .ge 7, 3) := by decide +kernel
theorem dX13_appendText_47 : decode cX13_appendText 47 = .ok (.iload_n 2, 1) := by decide +kernel
theorem dX13_appendText_48 : decode cX13_appendText 48 = .ok (.goto 28, 3) := by decide +kernel
theorem dX13_appendText_51 : decode cX13_appendText 51 = .ok (.iload 6, 2) := by decide +kernel
theorem dX13_appendText_53 : decode cX13_appendText 53 = .ok (.bipush 12, 2) := by decide +kernel
theorem dX13_appendText_55 : decode cX13_appendText 55 = .ok (.if_icmp .ge 7, 3) := by decide +kernel
theorem dX13_appendText_58 : decode cX13_appendText 58 = .ok (.iload_n 3, 1) := by decide +kernel
theorem dX13_appendText_59 : decode cX13_appendText 59 = .ok (.goto 17, 3) := by decide +kernel
theorem dX13_appendText_62 : decode cX13_appendText 62 = .ok (.iload 6, 2) := by decide +kernel
theorem dX13_appendText_64 : decode cX13_appendText 64 = .ok (.bipush 16, 2) := by decide +kernel
theorem dX13_appendText_66 : decode cX13_appendText 66 = .ok (.if_icmp .ge 8, 3) := by decide +kernel
theorem dX13_appendText_69 : decode cX13_appendText 69 = .ok (.iload 4, 2) := by decide +kernel
theorem dX13_appendText_71 : decode cX13_appendText 71 = .ok (.goto 5, 3) := by decide +kernel
theorem dX13_appendText_74 : decode cX13_appendText 74 = .ok (.iload 5, 2) := by decide +kernel
theorem dX13_appendText_76 : decode cX13_appendText 76 = .ok (.istore 7, 2) := by decide +kernel
theorem dX13_appendText_78 : decode cX13_appendText 78 = .ok (.aload_n 0, 1) := by decide +kernel
theorem dX13_appendText_79 : decode cX13_appendText 79 = .ok (.getfield 41, 3) := by decide +kernel
theorem dX13_appendText_82 : decode cX13_appendText 82 = .ok (.aload_n 0, 1) := by decide +kernel
theorem dX13_appendText_83 : decode cX13_appendText 83 = .ok (.getfield 294, 3) := by decide +kernel
theorem dX13_appendText_86 : decode cX13_appendText 86 = .ok (.iload 7, 2) := by decide +kernel
theorem dX13_appendText_88 : decode cX13_appendText 88 = .ok (.bipush 24, 2) := by decide +kernel
theorem dX13_appendText_90 : decode cX13_appendText 90 = .ok (.bipush 8, 2) := by decide +kernel
theorem dX13_appendText_92 : decode cX13_appendText 92 = .ok (.iload 6, 2) := by decide +kernel
theorem dX13_appendText_94 : decode cX13_appendText 94 = .ok (.iconst 4, 1) := by decide +kernel
theorem dX13_appendText_95 : decode cX13_appendText 95 = .ok (.irem, 1) := by decide +kernel
theorem dX13_appendText_96 : decode cX13_appendText 96 = .ok (.imul, 1) := by decide +kernel
theorem dX13_appendText_97 : decode cX13_appendText 97 = .ok (.isub, 1) := by decide +kernel
theorem dX13_appendText_98 : decode cX13_appendText 98 = .ok (.ishr, 1) := by decide +kernel
theorem dX13_appendText_99 : decode cX13_appendText 99 = .ok (.sipush 255, 3) := by decide +kernel
theorem dX13_appendText_102 : decode cX13_appendText 102 = .ok (.iand, 1) := by decide +kernel
theorem dX13_appendText_103 : decode cX13_appendText 103 = .ok (.iastore, 1) := by decide +kernel
theorem dX13_appendText_104 : decode cX13_appendText 104 = .ok (.aload_n 0, 1) := by decide +kernel
theorem dX13_appendText_105 : decode cX13_appendText 105 = .ok (.dup, 1) := by decide +kernel
theorem dX13_appendText_106 : decode cX13_appendText 106 = .ok (.getfield 294, 3) := by decide +kernel
theorem dX13_appendText_109 : decode cX13_appendText 109 = .ok (.iconst 1, 1) := by decide +kernel
theorem dX13_appendText_110 : decode cX13_appendText 110 = .ok (.iadd, 1) := by decide +kernel
theorem dX13_appendText_111 : decode cX13_appendText 111 = .ok (.putfield 294, 3) := by decide +kernel
theorem dX13_appendText_114 : decode cX13_appendText 114 = .ok (.iinc 6 1, 3) := by decide +kernel
theorem dX13_appendText_117 : decode cX13_appendText 117 = .ok (.goto (-94), 3) := by decide +kernel
theorem dX13_appendText_120 : decode cX13_appendText 120 = .ok (.aload_n 0, 1) := by decide +kernel
theorem dX13_appendText_121 : decode cX13_appendText 121 = .ok (.getfield 294, 3) := by decide +kernel
theorem dX13_appendText_124 : decode cX13_appendText 124 = .ok (.ireturn, 1) := by decide +kernel
theorem dX13_errorOffset_0 : decode cX13_errorOffset 0 = .ok (.aload_n 0, 1) := by decide +kernel
theorem dX13_errorOffset_1 : decode cX13_errorOffset 1 = .ok (.iconst 0, 1) := by decide +kernel
theorem dX13_errorOffset_2 : decode cX13_errorOffset 2 = .ok (.putfield 85, 3) := by decide +kernel
theorem dX13_errorOffset_5 : decode cX13_errorOffset 5 = .ok (.aload_n 0, 1) := by decide +kernel
theorem dX13_errorOffset_6 : decode cX13_errorOffset 6 = .ok (.getfield 44, 3) := by decide +kernel
theorem dX13_errorOffset_9 : decode cX13_errorOffset 9 = .ok (.ireturn, 1) := by decide +kernel
theorem dX13_byteAt_0 : decode cX13_byteAt 0 = .ok (.iload_n 1, 1) := by decide +kernel
theorem dX13_byteAt_1 : decode cX13_byteAt 1 = .ok (.aload_n 0, 1) := by decide +kernel
theorem dX13_byteAt_2 : decode cX13_byteAt 2 = .ok (.getfield 297, 3) := by decide +kernel
theorem dX13_byteAt_5 : decode cX13_byteAt 5 = .ok (.if_icmp .ge 12, 3) := by decide +kernel
theorem dX13_byteAt_8 : decode cX13_byteAt 8 = .ok (.aload_n 0, 1) := by decide +kernel
theorem dX13_byteAt_9 : decode cX13_byteAt 9 = .ok (.getfield 41, 3) := by decide +kernel
theorem dX13_byteAt_12 : decode cX13_byteAt 12 = .ok (.iload_n 1, 1) := by decide +kernel
theorem dX13_byteAt_13 : decode cX13_byteAt 13 = .ok (.iaload, 1) := by decide +kernel
theorem dX13_byteAt_14 : decode cX13_byteAt 14 = .ok (.goto 4, 3) := by decide +kernel
theorem dX13_byteAt_17 : decode cX13_byteAt 17 = .ok (.iconst (-1), 1) := by decide +kernel
theorem dX13_byteAt_18 : decode cX13_byteAt 18 = .ok (.ireturn, 1) := by decide +kernel
theorem dX13_isLetter_0 : decode cX13_isLetter 0 = .ok (.aload_n 0, 1) := by decide +kernel
theorem dX13_isLetter_1 : decode cX13_isLetter 1 = .ok (.iload_n 1, 1) := by decide +kernel
theorem dX13_isLetter_2 : decode cX13_isLetter 2 = .ok (.invokevirtual 300, 3) := by decide +kernel
theorem dX13_isLetter_5 : decode cX13_isLetter 5 = .ok (.bipush 97, 2) := by decide +kernel
theorem dX13_isLetter_7 : decode cX13_isLetter 7 = .ok (.if_icmp .lt 17, 3) := by decide +kernel
theorem dX13_isLetter_10 : decode cX13_isLetter 10 = .ok (.aload_n 0, 1) := by decide +kernel
theorem dX13_isLetter_11 : decode cX13_isLetter 11 = .ok (.iload_n 1, 1) := by decide +kernel
theorem dX13_isLetter_12 : decode cX13_isLetter 12 = .ok (.invokevirtual 300, 3) := by decide +kernel
theorem dX13_isLetter_15 : decode cX13_isLetter 15 = .ok (.bipush 122, 2) := by decide +kernel
theorem dX13_isLetter_17 : decode cX13_isLetter 17 = .ok (.if_icmp .gt 7, 3) := by decide +kernel
theorem dX13_isLetter_20 : decode cX13_isLetter 20 = .ok (.iconst 1, 1) := by decide +kernel
theorem dX13_isLetter_21 : decode cX13_isLetter 21 = .ok (.goto 4, 3) := by decide +kernel
theorem dX13_isLetter_24 : decode cX13_isLetter 24 = .ok (.iconst 0, 1) := by decide +kernel
theorem dX13_isLetter_25 : decode cX13_isLetter 25 = .ok (.ireturn, 1) := by decide +kernel
theorem dX13_isDigit_0 : decode cX13_isDigit 0 = .ok (.aload_n 0, 1) := by decide +kernel
theorem dX13_isDigit_1 : decode cX13_isDigit 1 = .ok (.iload_n 1, 1) := by decide +kernel
theorem dX13_isDigit_2 : decode cX13_isDigit 2 = .ok (.invokevirtual 300, 3) := by decide +kernel
theorem dX13_isDigit_5 : decode cX13_isDigit 5 = .ok (.bipush 48, 2) := by decide +kernel
theorem dX13_isDigit_7 : decode cX13_isDigit 7 = .ok (.if_icmp .lt 17, 3) := by decide +kernel
theorem dX13_isDigit_10 : decode cX13_isDigit 10 = .ok (.aload_n 0, 1) := by decide +kernel
theorem dX13_isDigit_11 : decode cX13_isDigit 11 = .ok (.iload_n 1, 1) := by decide +kernel
theorem dX13_isDigit_12 : decode cX13_isDigit 12 = .ok (.invokevirtual 300, 3) := by decide +kernel
theorem dX13_isDigit_15 : decode cX13_isDigit 15 = .ok (.bipush 57, 2) := by decide +kernel
theorem dX13_isDigit_17 : decode cX13_isDigit 17 = .ok (.if_icmp .gt 7, 3) := by decide +kernel
theorem dX13_isDigit_20 : decode cX13_isDigit 20 = .ok (.iconst 1, 1) := by decide +kernel
theorem dX13_isDigit_21 : decode cX13_isDigit 21 = .ok (.goto 4, 3) := by decide +kernel
theorem dX13_isDigit_24 : decode cX13_isDigit 24 = .ok (.iconst 0, 1) := by decide +kernel
theorem dX13_isDigit_25 : decode cX13_isDigit 25 = .ok (.ireturn, 1) := by decide +kernel
theorem dX13_scan_0 : decode cX13_scan 0 = .ok (.aload_n 0, 1) := by decide +kernel
theorem dX13_scan_1 : decode cX13_scan 1 = .ok (.aload_n 0, 1) := by decide +kernel
theorem dX13_scan_2 : decode cX13_scan 2 = .ok (.getfield 303, 3) := by decide +kernel
theorem dX13_scan_5 : decode cX13_scan 5 = .ok (.invokevirtual 300, 3) := by decide +kernel
theorem dX13_scan_8 : decode cX13_scan 8 = .ok (.bipush 32, 2) := by decide +kernel
theorem dX13_scan_10 : decode cX13_scan 10 = .ok (.if_icmp .eq 16, 3) := by decide +kernel
theorem dX13_scan_13 : decode cX13_scan 13 = .ok (.aload_n 0, 1) := by decide +kernel
theorem dX13_scan_14 : decode cX13_scan 14 = .ok (.aload_n 0, 1) := by decide +kernel
theorem dX13_scan_15 : decode cX13_scan 15 = .ok (.getfield 303, 3) := by decide +kernel
theorem dX13_scan_18 : decode cX13_scan 18 = .ok (.invokevirtual 300, 3) := by decide +kernel
theorem dX13_scan_21 : decode cX13_scan 21 = .ok (.bipush 10, 2) := by decide +kernel
theorem dX13_scan_23 : decode cX13_scan 23 = .ok (.if_icmp .ne 16, 3) := by decide +kernel
theorem dX13_scan_26 : decode cX13_scan 26 = .ok (.aload_n 0, 1) := by decide +kernel
theorem dX13_scan_27 : decode cX13_scan 27 = .ok (.dup, 1) := by decide +kernel
theorem dX13_scan_28 : decode cX13_scan 28 = .ok (.getfield 303, 3) := by decide +kernel
theorem dX13_scan_31 : decode cX13_scan 31 = .ok (.iconst 1, 1) := by decide +kernel
theorem dX13_scan_32 : decode cX13_scan 32 = .ok (.iadd, 1) := by decide +kernel
theorem dX13_scan_33 : decode cX13_scan 33 = .ok (.putfield 303, 3) := by decide +kernel
theorem dX13_scan_36 : decode cX13_scan 36 = .ok (.goto (-36), 3) := by decide +kernel
theorem dX13_scan_39 : decode cX13_scan 39 = .ok (.aload_n 0, 1) := by decide +kernel
theorem dX13_scan_40 : decode cX13_scan 40 = .ok (.aload_n 0, 1) := by decide +kernel
theorem dX13_scan_41 : decode cX13_scan 41 = .ok (.getfield 303, 3) := by decide +kernel
theorem dX13_scan_44 : decode cX13_scan 44 = .ok (.putfield 306, 3) := by decide +kernel
theorem dX13_scan_47 : decode cX13_scan 47 = .ok (.aload_n 0, 1) := by decide +kernel
theorem dX13_scan_48 : decode cX13_scan 48 = .ok (.getfield 303, 3) := by decide +kernel
theorem dX13_scan_51 : decode cX13_scan 51 = .ok (.aload_n 0, 1) := by decide +kernel
theorem dX13_scan_52 : decode cX13_scan 52 = .ok (.getfield 297, 3) := by decide +kernel
theorem dX13_scan_55 : decode cX13_scan 55 = .ok (.if_icmp .lt 11, 3) := by decide +kernel
theorem dX13_scan_58 : decode cX13_scan 58 = .ok (.aload_n 0, 1) := by decide +kernel
theorem dX13_scan_59 : decode cX13_scan 59 = .ok (.iconst 0, 1) := by decide +kernel
theorem dX13_scan_60 : decode cX13_scan 60 = .ok (.putfield 309, 3) := by decide +kernel
theorem dX13_scan_63 : decode cX13_scan 63 = .ok (.goto 104, 3) := by decide +kernel
theorem dX13_scan_66 : decode cX13_scan 66 = .ok (.aload_n 0, 1) := by decide +kernel
theorem dX13_scan_67 : decode cX13_scan 67 = .ok (.aload_n 0, 1) := by decide +kernel
theorem dX13_scan_68 : decode cX13_scan 68 = .ok (.getfield 303, 3) := by decide +kernel
theorem dX13_scan_71 : decode cX13_scan 71 = .ok (.invokevirtual 312, 3) := by decide +kernel
theorem dX13_scan_74 : decode cX13_scan 74 = .ok (.ifCond .eq 35, 3) := by decide +kernel
theorem dX13_scan_77 : decode cX13_scan 77 = .ok (.aload_n 0, 1) := by decide +kernel
theorem dX13_scan_78 : decode cX13_scan 78 = .ok (.aload_n 0, 1) := by decide +kernel
theorem dX13_scan_79 : decode cX13_scan 79 = .ok (.getfield 303, 3) := by decide +kernel
theorem dX13_scan_82 : decode cX13_scan 82 = .ok (.invokevirtual 312, 3) := by decide +kernel
theorem dX13_scan_85 : decode cX13_scan 85 = .ok (.ifCond .eq 16, 3) := by decide +kernel
theorem dX13_scan_88 : decode cX13_scan 88 = .ok (.aload_n 0, 1) := by decide +kernel
theorem dX13_scan_89 : decode cX13_scan 89 = .ok (.dup, 1) := by decide +kernel
theorem dX13_scan_90 : decode cX13_scan 90 = .ok (.getfield 303, 3) := by decide +kernel
theorem dX13_scan_93 : decode cX13_scan 93 = .ok (.iconst 1, 1) := by decide +kernel
theorem dX13_scan_94 : decode cX13_scan 94 = .ok (.iadd, 1) := by decide +kernel
theorem dX13_scan_95 : decode cX13_scan 95 = .ok (.putfield 303, 3) := by decide +kernel
theorem dX13_scan_98 : decode cX13_scan 98 = .ok (.goto (-21), 3) := by decide +kernel
theorem dX13_scan_101 : decode cX13_scan 101 = .ok (.aload_n 0, 1) := by decide +kernel
theorem dX13_scan_102 : decode cX13_scan 102 = .ok (.iconst 1, 1) := by decide +kernel
theorem dX13_scan_103 : decode cX13_scan 103 = .ok (.putfield 309, 3) := by decide +kernel
theorem dX13_scan_106 : decode cX13_scan 106 = .ok (.goto 61, 3) := by decide +kernel
theorem dX13_scan_109 : decode cX13_scan 109 = .ok (.aload_n 0, 1) := by decide +kernel
theorem dX13_scan_110 : decode cX13_scan 110 = .ok (.aload_n 0, 1) := by decide +kernel
theorem dX13_scan_111 : decode cX13_scan 111 = .ok (.getfield 303, 3) := by decide +kernel
theorem dX13_scan_114 : decode cX13_scan 114 = .ok (.invokevirtual 315, 3) := by decide +kernel
theorem dX13_scan_117 : decode cX13_scan 117 = .ok (.ifCond .eq 35, 3) := by decide +kernel
theorem dX13_scan_120 : decode cX13_scan 120 = .ok (.aload_n 0, 1) := by decide +kernel
theorem dX13_scan_121 : decode cX13_scan 121 = .ok (.aload_n 0, 1) := by decide +kernel
theorem dX13_scan_122 : decode cX13_scan 122 = .ok (.getfield 303, 3) := by decide +kernel
theorem dX13_scan_125 : decode cX13_scan 125 = .ok (.invokevirtual 315, 3) := by decide +kernel
theorem dX13_scan_128 : decode cX13_scan 128 = .ok (.ifCond .eq 16, 3) := by decide +kernel
theorem dX13_scan_131 : decode cX13_scan 131 = .ok (.aload_n 0, 1) := by decide +kernel
theorem dX13_scan_132 : decode cX13_scan 132 = .ok (.dup, 1) := by decide +kernel
theorem dX13_scan_133 : decode cX13_scan 133 = .ok (.getfield 303, 3) := by decide +kernel
theorem dX13_scan_136 : decode cX13_scan 136 = .ok (.iconst 1, 1) := by decide +kernel
theorem dX13_scan_137 : decode cX13_scan 137 = .ok (.iadd, 1) := by decide +kernel
theorem dX13_scan_138 : decode cX13_scan 138 = .ok (.putfield 303, 3) := by decide +kernel
theorem dX13_scan_141 : decode cX13_scan 141 = .ok (.goto (-21), 3) := by decide +kernel
theorem dX13_scan_144 : decode cX13_scan 144 = .ok (.aload_n 0, 1) := by decide +kernel
theorem dX13_scan_145 : decode cX13_scan 145 = .ok (.iconst 2, 1) := by decide +kernel
theorem dX13_scan_146 : decode cX13_scan 146 = .ok (.putfield 309, 3) := by decide +kernel
theorem dX13_scan_149 : decode cX13_scan 149 = .ok (.goto 18, 3) := by decide +kernel
theorem dX13_scan_152 : decode cX13_scan 152 = .ok (.aload_n 0, 1) := by decide +kernel
theorem dX13_scan_153 : decode cX13_scan 153 = .ok (.dup, 1) := by decide +kernel
theorem dX13_scan_154 : decode cX13_scan 154 = .ok (.getfield 303, 3) := by decide +kernel
theorem dX13_scan_157 : decode cX13_scan 157 = .ok (.iconst 1, 1) := by decide +kernel
theorem dX13_scan_158 : decode cX13_scan 158 = .ok (.iadd, 1) := by decide +kernel
theorem dX13_scan_159 : decode cX13_scan 159 = .ok (.putfield 303, 3) := by decide +kernel
theorem dX13_scan_162 : decode cX13_scan 162 = .ok (.aload_n 0, 1) := by decide +kernel
theorem dX13_scan_163 : decode cX13_scan 163 = .ok (.iconst 3, 1) := by decide +kernel
theorem dX13_scan_164 : decode cX13_scan 164 = .ok (.putfield 309, 3) := by decide +kernel
theorem dX13_scan_167 : decode cX13_scan 167 = .ok (.return_, 1) := by decide +kernel
theorem dX13_startText_0 : decode cX13_startText 0 = .ok (.aload_n 0, 1) := by decide +kernel
theorem dX13_startText_1 : decode cX13_startText 1 = .ok (.iload_n 1, 1) := by decide +kernel
theorem dX13_startText_2 : decode cX13_startText 2 = .ok (.putfield 297, 3) := by decide +kernel
theorem dX13_startText_5 : decode cX13_startText 5 = .ok (.aload_n 0, 1) := by decide +kernel
theorem dX13_startText_6 : decode cX13_startText 6 = .ok (.iconst 0, 1) := by decide +kernel
theorem dX13_startText_7 : decode cX13_startText 7 = .ok (.putfield 303, 3) := by decide +kernel
theorem dX13_startText_10 : decode cX13_startText 10 = .ok (.aload_n 0, 1) := by decide +kernel
theorem dX13_startText_11 : decode cX13_startText 11 = .ok (.iconst 0, 1) := by decide +kernel
theorem dX13_startText_12 : decode cX13_startText 12 = .ok (.putfield 318, 3) := by decide +kernel
theorem dX13_startText_15 : decode cX13_startText 15 = .ok (.aload_n 0, 1) := by decide +kernel
theorem dX13_startText_16 : decode cX13_startText 16 = .ok (.iconst 0, 1) := by decide +kernel
theorem dX13_startText_17 : decode cX13_startText 17 = .ok (.putfield 321, 3) := by decide +kernel
theorem dX13_startText_20 : decode cX13_startText 20 = .ok (.aload_n 0, 1) := by decide +kernel
