/-! decode rows -/
theorem dX10_sortBy_76 : decode cX10_sortBy 76 = .ok (.iconst 1, 1) := by decide +kernel
theorem dX10_sortBy_77 : decode cX10_sortBy 77 = .ok (.isub, 1) := by decide +kernel
theorem dX10_sortBy_78 : decode cX10_sortBy 78 = .ok (.iaload, 1) := by decide +kernel
theorem dX10_sortBy_79 : decode cX10_sortBy 79 = .ok (.iastore, 1) := by decide +kernel
theorem dX10_sortBy_80 : decode cX10_sortBy 80 = .ok (.iinc 6 (-1), 3) := by decide +kernel
theorem dX10_sortBy_83 : decode cX10_sortBy 83 = .ok (.goto (-46), 3) := by decide +kernel
theorem dX10_sortBy_86 : decode cX10_sortBy 86 = .ok (.aload_n 0, 1) := by decide +kernel
theorem dX10_sortBy_87 : decode cX10_sortBy 87 = .ok (.getfield 9, 3) := by decide +kernel
theorem dX10_sortBy_90 : decode cX10_sortBy 90 = .ok (.iload 6, 2) := by decide +kernel
theorem dX10_sortBy_92 : decode cX10_sortBy 92 = .ok (.iload 4, 2) := by decide +kernel
theorem dX10_sortBy_94 : decode cX10_sortBy 94 = .ok (.iastore, 1) := by decide +kernel
theorem dX10_sortBy_95 : decode cX10_sortBy 95 = .ok (.iinc 3 1, 3) := by decide +kernel
theorem dX10_sortBy_98 : decode cX10_sortBy 98 = .ok (.goto (-88), 3) := by decide +kernel
theorem dX10_sortBy_101 : decode cX10_sortBy 101 = .ok (.return_, 1) := by decide +kernel
theorem dX10_isWrong_0 : decode cX10_isWrong 0 = .ok (.iload_n 2, 1) := by decide +kernel
theorem dX10_isWrong_1 : decode cX10_isWrong 1 = .ok (.ifCond .eq 16, 3) := by decide +kernel
theorem dX10_isWrong_4 : decode cX10_isWrong 4 = .ok (.iload_n 0, 1) := by decide +kernel
theorem dX10_isWrong_5 : decode cX10_isWrong 5 = .ok (.iload_n 1, 1) := by decide +kernel
theorem dX10_isWrong_6 : decode cX10_isWrong 6 = .ok (.if_icmp .le 7, 3) := by decide +kernel
theorem dX10_isWrong_9 : decode cX10_isWrong 9 = .ok (.iconst 1, 1) := by decide +kernel
theorem dX10_isWrong_10 : decode cX10_isWrong 10 = .ok (.goto 17, 3) := by decide +kernel
theorem dX10_isWrong_13 : decode cX10_isWrong 13 = .ok (.iconst 0, 1) := by decide +kernel
theorem dX10_isWrong_14 : decode cX10_isWrong 14 = .ok (.goto 13, 3) := by decide +kernel
theorem dX10_isWrong_17 : decode cX10_isWrong 17 = .ok (.iload_n 0, 1) := by decide +kernel
theorem dX10_isWrong_18 : decode cX10_isWrong 18 = .ok (.iload_n 1, 1) := by decide +kernel
theorem dX10_isWrong_19 : decode cX10_isWrong 19 = .ok (.if_icmp .ge 7, 3) := by decide +kernel
theorem dX10_isWrong_22 : decode cX10_isWrong 22 = .ok (.iconst 1, 1) := by decide +kernel
theorem dX10_isWrong_23 : decode cX10_isWrong 23 = .ok (.goto 4, 3) := by decide +kernel
theorem dX10_isWrong_26 : decode cX10_isWrong 26 = .ok (.iconst 0, 1) := by decide +kernel
theorem dX10_isWrong_27 : decode cX10_isWrong 27 = .ok (.ireturn, 1) := by decide +kernel
theorem dX10_source_0 : decode cX10_source 0 = .ok (.aload_n 0, 1) := by decide +kernel
theorem dX10_source_1 : decode cX10_source 1 = .ok (.getfield 9, 3) := by decide +kernel
theorem dX10_source_4 : decode cX10_source 4 = .ok (.iload_n 1, 1) := by decide +kernel
theorem dX10_source_5 : decode cX10_source 5 = .ok (.iaload, 1) := by decide +kernel
theorem dX10_source_6 : decode cX10_source 6 = .ok (.ireturn, 1) := by decide +kernel
theorem dX10_applyTo_0 : decode cX10_applyTo 0 = .ok (.iconst 0, 1) := by decide +kernel
theorem dX10_applyTo_1 : decode cX10_applyTo 1 = .ok (.istore_n 2, 1) := by decide +kernel
theorem dX10_applyTo_2 : decode cX10_applyTo 2 = .ok (.iload_n 2, 1) := by decide +kernel
theorem dX10_applyTo_3 : decode cX10_applyTo 3 = .ok (.aload_n 0, 1) := by decide +kernel
theorem dX10_applyTo_4 : decode cX10_applyTo 4 = .ok (.getfield 18, 3) := by decide +kernel
theorem dX10_applyTo_7 : decode cX10_applyTo 7 = .ok (.if_icmp .ge 23, 3) := by decide +kernel
theorem dX10_applyTo_10 : decode cX10_applyTo 10 = .ok (.aload_n 0, 1) := by decide +kernel
theorem dX10_applyTo_11 : decode cX10_applyTo 11 = .ok (.getfield 15, 3) := by decide +kernel
theorem dX10_applyTo_14 : decode cX10_applyTo 14 = .ok (.iload_n 2, 1) := by decide +kernel
theorem dX10_applyTo_15 : decode cX10_applyTo 15 = .ok (.aload_n 1, 1) := by decide +kernel
theorem dX10_applyTo_16 : decode cX10_applyTo 16 = .ok (.aload_n 0, 1) := by decide +kernel
theorem dX10_applyTo_17 : decode cX10_applyTo 17 = .ok (.getfield 9, 3) := by decide +kernel
theorem dX10_applyTo_20 : decode cX10_applyTo 20 = .ok (.iload_n 2, 1) := by decide +kernel
theorem dX10_applyTo_21 : decode cX10_applyTo 21 = .ok (.iaload, 1) := by decide +kernel
theorem dX10_applyTo_22 : decode cX10_applyTo 22 = .ok (.iaload, 1) := by decide +kernel
theorem dX10_applyTo_23 : decode cX10_applyTo 23 = .ok (.iastore, 1) := by decide +kernel
theorem dX10_applyTo_24 : decode cX10_applyTo 24 = .ok (.iinc 2 1, 3) := by decide +kernel
theorem dX10_applyTo_27 : decode cX10_applyTo 27 = .ok (.goto (-25), 3) := by decide +kernel
theorem dX10_applyTo_30 : decode cX10_applyTo 30 = .ok (.aload_n 0, 1) := by decide +kernel
theorem dX10_applyTo_31 : decode cX10_applyTo 31 = .ok (.getfield 15, 3) := by decide +kernel
theorem dX10_applyTo_34 : decode cX10_applyTo 34 = .ok (.iconst 0, 1) := by decide +kernel
theorem dX10_applyTo_35 : decode cX10_applyTo 35 = .ok (.aload_n 1, 1) := by decide +kernel
theorem dX10_applyTo_36 : decode cX10_applyTo 36 = .ok (.iconst 0, 1) := by decide +kernel
theorem dX10_applyTo_37 : decode cX10_applyTo 37 = .ok (.aload_n 0, 1) := by decide +kernel
theorem dX10_applyTo_38 : decode cX10_applyTo 38 = .ok (.getfield 18, 3) := by decide +kernel
theorem dX10_applyTo_41 : decode cX10_applyTo 41 = .ok (.invokestatic 39, 3) := by decide +kernel
theorem dX10_applyTo_44 : decode cX10_applyTo 44 = .ok (.return_, 1) := by decide +kernel
theorem dX11_init_0 : decode cX11_init 0 = .ok (.aload_n 0, 1) := by decide +kernel
theorem dX11_init_1 : decode cX11_init 1 = .ok (.invokespecial 3, 3) := by decide +kernel
theorem dX11_init_4 : decode cX11_init 4 = .ok (.aload_n 0, 1) := by decide +kernel
theorem dX11_init_5 : decode cX11_init 5 = .ok (.bipush 6, 2) := by decide +kernel
theorem dX11_init_7 : decode cX11_init 7 = .ok (.anewarray 9, 3) := by decide +kernel
theorem dX11_init_10 : decode cX11_init 10 = .ok (.putfield 11, 3) := by decide +kernel
theorem dX11_init_13 : decode cX11_init 13 = .ok (.aload_n 0, 1) := by decide +kernel
theorem dX11_init_14 : decode cX11_init 14 = .ok (.iconst 1, 1) := by decide +kernel
theorem dX11_init_15 : decode cX11_init 15 = .ok (.putfield 17, 3) := by decide +kernel
theorem dX11_init_18 : decode cX11_init 18 = .ok (.aload_n 0, 1) := by decide +kernel
theorem dX11_init_19 : decode cX11_init 19 = .ok (.new 21, 3) := by decide +kernel
theorem dX11_init_22 : decode cX11_init 22 = .ok (.dup, 1) := by decide +kernel
theorem dX11_init_23 : decode cX11_init 23 = .ok (.invokespecial 23, 3) := by decide +kernel
theorem dX11_init_26 : decode cX11_init 26 = .ok (.putfield 24, 3) := by decide +kernel
theorem dX11_init_29 : decode cX11_init 29 = .ok (.iconst 0, 1) := by decide +kernel
theorem dX11_init_30 : decode cX11_init 30 = .ok (.istore_n 1, 1) := by decide +kernel
theorem dX11_init_31 : decode cX11_init 31 = .ok (.iload_n 1, 1) := by decide +kernel
theorem dX11_init_32 : decode cX11_init 32 = .ok (.bipush 6, 2) := by decide +kernel
theorem dX11_init_34 : decode cX11_init 34 = .ok (.if_icmp .ge 22, 3) := by decide +kernel
theorem dX11_init_37 : decode cX11_init 37 = .ok (.aload_n 0, 1) := by decide +kernel
theorem dX11_init_38 : decode cX11_init 38 = .ok (.getfield 11, 3) := by decide +kernel
theorem dX11_init_41 : decode cX11_init 41 = .ok (.iload_n 1, 1) := by decide +kernel
theorem dX11_init_42 : decode cX11_init 42 = .ok (.new 9, 3) := by decide +kernel
theorem dX11_init_45 : decode cX11_init 45 = .ok (.dup, 1) := by decide +kernel
theorem dX11_init_46 : decode cX11_init 46 = .ok (.invokespecial 28, 3) := by decide +kernel
theorem dX11_init_49 : decode cX11_init 49 = .ok (.aastore, 1) := by decide +kernel
theorem dX11_init_50 : decode cX11_init 50 = .ok (.iinc 1 1, 3) := by decide +kernel
theorem dX11_init_53 : decode cX11_init 53 = .ok (.goto (-22), 3) := by decide +kernel
theorem dX11_init_56 : decode cX11_init 56 = .ok (.return_, 1) := by decide +kernel
theorem dX11_columns_0 : decode cX11_columns 0 = .ok (.aload_n 0, 1) := by decide +kernel
theorem dX11_columns_1 : decode cX11_columns 1 = .ok (.getfield 17, 3) := by decide +kernel
theorem dX11_columns_4 : decode cX11_columns 4 = .ok (.ireturn, 1) := by decide +kernel
theorem dX11_rows_0 : decode cX11_rows 0 = .ok (.aload_n 0, 1) := by decide +kernel
theorem dX11_rows_1 : decode cX11_rows 1 = .ok (.getfield 11, 3) := by decide +kernel
theorem dX11_rows_4 : decode cX11_rows 4 = .ok (.iconst 0, 1) := by decide +kernel
theorem dX11_rows_5 : decode cX11_rows 5 = .ok (.aaload, 1) := by decide +kernel
theorem dX11_rows_6 : decode cX11_rows 6 = .ok (.invokevirtual 29, 3) := by decide +kernel
theorem dX11_rows_9 : decode cX11_rows 9 = .ok (.ireturn, 1) := by decide +kernel
theorem dX11_column_0 : decode cX11_column 0 = .ok (.aload_n 0, 1) := by decide +kernel
theorem dX11_column_1 : decode cX11_column 1 = .ok (.getfield 11, 3) := by decide +kernel
theorem dX11_column_4 : decode cX11_column 4 = .ok (.iload_n 1, 1) := by decide +kernel
theorem dX11_column_5 : decode cX11_column 5 = .ok (.aaload, 1) := by decide +kernel
theorem dX11_column_6 : decode cX11_column 6 = .ok (.areturn, 1) := by decide +kernel
theorem dX11_dictionary_0 : decode cX11_dictionary 0 = .ok (.aload_n 0, 1) := by decide +kernel
theorem dX11_dictionary_1 : decode cX11_dictionary 1 = .ok (.getfield 11, 3) := by decide +kernel
theorem dX11_dictionary_4 : decode cX11_dictionary 4 = .ok (.iload_n 1, 1) := by decide +kernel
theorem dX11_dictionary_5 : decode cX11_dictionary 5 = .ok (.aaload, 1) := by decide +kernel
theorem dX11_dictionary_6 : decode cX11_dictionary 6 = .ok (.invokevirtual 33, 3) := by decide +kernel
theorem dX11_dictionary_9 : decode cX11_dictionary 9 = .ok (.areturn, 1) := by decide +kernel
theorem dX11_filter_0 : decode cX11_filter 0 = .ok (.aload_n 0, 1) := by decide +kernel
theorem dX11_filter_1 : decode cX11_filter 1 = .ok (.getfield 24, 3) := by decide +kernel
theorem dX11_filter_4 : decode cX11_filter 4 = .ok (.areturn, 1) := by decide +kernel
theorem dX11_isFull_0 : decode cX11_isFull 0 = .ok (.aload_n 0, 1) := by decide +kernel
theorem dX11_isFull_1 : decode cX11_isFull 1 = .ok (.invokevirtual 37, 3) := by decide +kernel
theorem dX11_isFull_4 : decode cX11_isFull 4 = .ok (.bipush 60, 2) := by decide +kernel
theorem dX11_isFull_6 : decode cX11_isFull 6 = .ok (.if_icmp .lt 7, 3) := by decide +kernel
theorem dX11_isFull_9 : decode cX11_isFull 9 = .ok (.iconst 1, 1) := by decide +kernel
theorem dX11_isFull_10 : decode cX11_isFull 10 = .ok (.goto 4, 3) := by decide +kernel
theorem dX11_isFull_13 : decode cX11_isFull 13 = .ok (.iconst 0, 1) := by decide +kernel
theorem dX11_isFull_14 : decode cX11_isFull 14 = .ok (.ireturn, 1) := by decide +kernel
theorem dX11_hasRow_0 : decode cX11_hasRow 0 = .ok (.iload_n 1, 1) := by decide +kernel
theorem dX11_hasRow_1 : decode cX11_hasRow 1 = .ok (.ifCond .lt 15, 3) := by decide +kernel
theorem dX11_hasRow_4 : decode cX11_hasRow 4 = .ok (.iload_n 1, 1) := by decide +kernel
theorem dX11_hasRow_5 : decode cX11_hasRow 5 = .ok (.aload_n 0, 1) := by decide +kernel
theorem dX11_hasRow_6 : decode cX11_hasRow 6 = .ok (.invokevirtual 37, 3) := by decide +kernel
theorem dX11_hasRow_9 : decode cX11_hasRow 9 = .ok (.if_icmp .ge 7, 3) := by decide +kernel
theorem dX11_hasRow_12 : decode cX11_hasRow 12 = .ok (.iconst 1, 1) := by decide +kernel
theorem dX11_hasRow_13 : decode cX11_hasRow 13 = .ok (.goto 4, 3) := by decide +kernel
theorem dX11_hasRow_16 : decode cX11_hasRow 16 = .ok (.iconst 0, 1) := by decide +kernel
theorem dX11_hasRow_17 : decode cX11_hasRow 17 = .ok (.ireturn, 1) := by decide +kernel
theorem dX11_replace_0 : decode cX11_replace 0 = .ok (.aload_n 0, 1) := by decide +kernel
theorem dX11_replace_1 : decode cX11_replace 1 = .ok (.iload_n 1, 1) := by decide +kernel
theorem dX11_replace_2 : decode cX11_replace 2 = .ok (.putfield 17, 3) := by decide +kernel
theorem dX11_replace_5 : decode cX11_replace 5 = .ok (.aload_n 0, 1) := by decide +kernel
theorem dX11_replace_6 : decode cX11_replace 6 = .ok (.getfield 24, 3) := by decide +kernel
theorem dX11_replace_9 : decode cX11_replace 9 = .ok (.invokevirtual 40, 3) := by decide +kernel
theorem dX11_replace_12 : decode cX11_replace 12 = .ok (.iconst 0, 1) := by decide +kernel
theorem dX11_replace_13 : decode cX11_replace 13 = .ok (.istore 4, 2) := by decide +kernel
theorem dX11_replace_15 : decode cX11_replace 15 = .ok (.iload 4, 2) := by decide +kernel
theorem dX11_replace_17 : decode cX11_replace 17 = .ok (.aload_n 0, 1) := by decide +kernel
theorem dX11_replace_18 : decode cX11_replace 18 = .ok (.getfield 17, 3) := by decide +kernel
theorem dX11_replace_21 : decode cX11_replace 21 = .ok (.if_icmp .ge 19, 3) := by decide +kernel
theorem dX11_replace_24 : decode cX11_replace 24 = .ok (.aload_n 0, 1) := by decide +kernel
theorem dX11_replace_25 : decode cX11_replace 25 = .ok (.getfield 11, 3) := by decide +kernel
theorem dX11_replace_28 : decode cX11_replace 28 = .ok (.iload 4, 2) := by decide +kernel
theorem dX11_replace_30 : decode cX11_replace 30 = .ok (.aaload, 1) := by decide +kernel
theorem dX11_replace_31 : decode cX11_replace 31 = .ok (.invokevirtual 43, 3) := by decide +kernel
theorem dX11_replace_34 : decode cX11_replace 34 = .ok (.iinc 4 1, 3) := by decide +kernel
theorem dX11_replace_37 : decode cX11_replace 37 = .ok (.goto (-22), 3) := by decide +kernel
theorem dX11_replace_40 : decode cX11_replace 40 = .ok (.iconst 0, 1) := by decide +kernel
theorem dX11_replace_41 : decode cX11_replace 41 = .ok (.istore 4, 2) := by decide +kernel
theorem dX11_replace_43 : decode cX11_replace 43 = .ok (.iload 4, 2) := by decide +kernel
theorem dX11_replace_45 : decode cX11_replace 45 = .ok (.iload_n 2, 1) := by decide +kernel
theorem dX11_replace_46 : decode cX11_replace 46 = .ok (.if_icmp .ge 21, 3) := by decide +kernel
theorem dX11_replace_49 : decode cX11_replace 49 = .ok (.aload_n 0, 1) := by decide +kernel
theorem dX11_replace_50 : decode cX11_replace 50 = .ok (.aload_n 3, 1) := by decide +kernel
theorem dX11_replace_51 : decode cX11_replace 51 = .ok (.iload 4, 2) := by decide +kernel
theorem dX11_replace_53 : decode cX11_replace 53 = .ok (.aload_n 0, 1) := by decide +kernel
theorem dX11_replace_54 : decode cX11_replace 54 = .ok (.getfield 17, 3) := by decide +kernel
theorem dX11_replace_57 : decode cX11_replace 57 = .ok (.imul, 1) := by decide +kernel
theorem dX11_replace_58 : decode cX11_replace 58 = .ok (.invokevirtual 44, 3) := by decide +kernel
theorem dX11_replace_61 : decode cX11_replace 61 = .ok (.iinc 4 1, 3) := by decide +kernel
theorem dX11_replace_64 : decode cX11_replace 64 = .ok (.goto (-21), 3) := by decide +kernel
theorem dX11_replace_67 : decode cX11_replace 67 = .ok (.return_, 1) := by decide +kernel
theorem dX11_appendRow_0 : decode cX11_appendRow 0 = .ok (.iconst 0, 1) := by decide +kernel
theorem dX11_appendRow_1 : decode cX11_appendRow 1 = .ok (.istore_n 3, 1) := by decide +kernel
theorem dX11_appendRow_2 : decode cX11_appendRow 2 = .ok (.iload_n 3, 1) := by decide +kernel
theorem dX11_appendRow_3 : decode cX11_appendRow 3 = .ok (.aload_n 0, 1) := by decide +kernel
theorem dX11_appendRow_4 : decode cX11_appendRow 4 = .ok (.getfield 17, 3) := by decide +kernel
theorem dX11_appendRow_7 : decode cX11_appendRow 7 = .ok (.if_icmp .ge 23, 3) := by decide +kernel
theorem dX11_appendRow_10 : decode cX11_appendRow 10 = .ok (.aload_n 0, 1) := by decide +kernel
theorem dX11_appendRow_11 : decode cX11_appendRow 11 = .ok (.getfield 11, 3) := by decide +kernel
theorem dX11_appendRow_14 : decode cX11_appendRow 14 = .ok (.iload_n 3, 1) := by decide +kernel
theorem dX11_appendRow_15 : decode cX11_appendRow 15 = .ok (.aaload, 1) := by decide +kernel
theorem dX11_appendRow_16 : decode cX11_appendRow 16 = .ok (.aload_n 1, 1) := by decide +kernel
theorem dX11_appendRow_17 : decode cX11_appendRow 17 = .ok (.iload_n 2, 1) := by decide +kernel
theorem dX11_appendRow_18 : decode cX11_appendRow 18 = .ok (.iload_n 3, 1) := by decide +kernel
theorem dX11_appendRow_19 : decode cX11_appendRow 19 = .ok (.iadd, 1) := by decide +kernel
theorem dX11_appendRow_20 : decode cX11_appendRow 20 = .ok (.iaload, 1) := by decide +kernel
theorem dX11_appendRow_21 : decode cX11_appendRow 21 = .ok (.invokevirtual 48, 3) := by decide +kernel
theorem dX11_appendRow_24 : decode cX11_appendRow 24 = .ok (.iinc 3 1, 3) := by decide +kernel
theorem dX11_appendRow_27 : decode cX11_appendRow 27 = .ok (.goto (-25), 3) := by decide +kernel
theorem dX11_appendRow_30 : decode cX11_appendRow 30 = .ok (.return_, 1) := by decide +kernel
theorem dX11_deleteRow_0 : decode cX11_deleteRow 0 = .ok (.iload_n 1, 1) := by decide +kernel
theorem dX11_deleteRow_1 : decode cX11_deleteRow 1 = .ok (.iconst 1, 1) := by decide +kernel
theorem dX11_deleteRow_2 : decode cX11_deleteRow 2 = .ok (.iadd, 1) := by decide +kernel
theorem dX11_deleteRow_3 : decode cX11_deleteRow 3 = .ok (.istore_n 2, 1) := by decide +kernel
theorem dX11_deleteRow_4 : decode cX11_deleteRow 4 = .ok (.iload_n 2, 1) := by decide +kernel
theorem dX11_deleteRow_5 : decode cX11_deleteRow 5 = .ok (.aload_n 0, 1) := by decide +kernel
theorem dX11_deleteRow_6 : decode cX11_deleteRow 6 = .ok (.invokevirtual 37, 3) := by decide +kernel
theorem dX11_deleteRow_9 : decode cX11_deleteRow 9 = .ok (.if_icmp .ge 17, 3) := by decide +kernel
theorem dX11_deleteRow_12 : decode cX11_deleteRow 12 = .ok (.aload_n 0, 1) := by decide +kernel
theorem dX11_deleteRow_13 : decode cX11_deleteRow 13 = .ok (.iload_n 2, 1) := by decide +kernel
theorem dX11_deleteRow_14 : decode cX11_deleteRow 14 = .ok (.iload_n 2, 1) := by decide +kernel
theorem dX11_deleteRow_15 : decode cX11_deleteRow 15 = .ok (.iconst 1, 1) := by decide +kernel
theorem dX11_deleteRow_16 : decode cX11_deleteRow 16 = .ok (.isub, 1) := by decide +kernel
theorem dX11_deleteRow_17 : decode cX11_deleteRow 17 = .ok (.invokevirtual 52, 3) := by decide +kernel
theorem dX11_deleteRow_20 : decode cX11_deleteRow 20 = .ok (.iinc 2 1, 3) := by decide +kernel
theorem dX11_deleteRow_23 : decode cX11_deleteRow 23 = .ok (.goto (-19), 3) := by decide +kernel
theorem dX11_deleteRow_26 : decode cX11_deleteRow 26 = .ok (.aload_n 0, 1) := by decide +kernel
theorem dX11_deleteRow_27 : decode cX11_deleteRow 27 = .ok (.aload_n 0, 1) := by decide +kernel
theorem dX11_deleteRow_28 : decode cX11_deleteRow 28 = .ok (.invokevirtual 37, 3) := by decide +kernel
theorem dX11_deleteRow_31 : decode cX11_deleteRow 31 = .ok (.iconst 1, 1) := by decide +kernel
theorem dX11_deleteRow_32 : decode cX11_deleteRow 32 = .ok (.isub, 1) := by decide +kernel
theorem dX11_deleteRow_33 : decode cX11_deleteRow 33 = .ok (.invokevirtual 56, 3) := by decide +kernel
theorem dX11_deleteRow_36 : decode cX11_deleteRow 36 = .ok (.return_, 1) := by decide +kernel
theorem dX11_deleteSelectedRows_0 : decode cX11_deleteSelectedRows 0 = .ok (.iconst 0, 1) := by decide +kernel
theorem dX11_deleteSelectedRows_1 : decode cX11_deleteSelectedRows 1 = .ok (.istore_n 1, 1) := by decide +kernel
theorem dX11_deleteSelectedRows_2 : decode cX11_deleteSelectedRows 2 = .ok (.iconst 0, 1) := by decide +kernel
theorem dX11_deleteSelectedRows_3 : decode cX11_deleteSelectedRows 3 = .ok (.istore_n 2, 1) := by decide +kernel
theorem dX11_deleteSelectedRows_4 : decode cX11_deleteSelectedRows 4 = .ok (.iload_n 2, 1) := by decide +kernel
theorem dX11_deleteSelectedRows_5 : decode cX11_deleteSelectedRows 5 = .ok (.aload_n 0, 1) := by decide +kernel
theorem dX11_deleteSelectedRows_6 : decode cX11_deleteSelectedRows 6 = .ok (.invokevirtual 37, 3) := by decide +kernel
theorem dX11_deleteSelectedRows_9 : decode cX11_deleteSelectedRows 9 = .ok (.if_icmp .ge 26, 3) := by decide +kernel
theorem dX11_deleteSelectedRows_12 : decode cX11_deleteSelectedRows 12 = .ok (.aload_n 0, 1) := by decide +kernel
theorem dX11_deleteSelectedRows_13 : decode cX11_deleteSelectedRows 13 = .ok (.iload_n 2, 1) := by decide +kernel
theorem dX11_deleteSelectedRows_14 : decode cX11_deleteSelectedRows 14 = .ok (.invokevirtual 59, 3) := by decide +kernel
theorem dX11_deleteSelectedRows_17 : decode cX11_deleteSelectedRows 17 = .ok (.ifCond .ne 12, 3) := by decide +kernel
theorem dX11_deleteSelectedRows_20 : decode cX11_deleteSelectedRows 20 = .ok (.aload_n 0, 1) := by decide +kernel
theorem dX11_deleteSelectedRows_21 : decode cX11_deleteSelectedRows 21 = .ok (.iload_n 2, 1) := by decide +kernel
theorem dX11_deleteSelectedRows_22 : decode cX11_deleteSelectedRows 22 = .ok (.iload_n 1, 1) := by decide +kernel
theorem dX11_deleteSelectedRows_23 : decode cX11_deleteSelectedRows 23 = .ok (.invokevirtual 52, 3) := by decide +kernel
theorem dX11_deleteSelectedRows_26 : decode cX11_deleteSelectedRows 26 = .ok (.iinc 1 1, 3) := by decide +kernel
theorem dX11_deleteSelectedRows_29 : decode cX11_deleteSelectedRows 29 = .ok (.iinc 2 1, 3) := by decide +kernel
theorem dX11_deleteSelectedRows_32 : decode cX11_deleteSelectedRows 32 = .ok (.goto (-28), 3) := by decide +kernel
theorem dX11_deleteSelectedRows_35 : decode cX11_deleteSelectedRows 35 = .ok (.aload_n 0, 1) := by decide +kernel
theorem dX11_deleteSelectedRows_36 : decode cX11_deleteSelectedRows 36 = .ok (.invokevirtual 37, 3) := by decide +kernel
theorem dX11_deleteSelectedRows_39 : decode cX11_deleteSelectedRows 39 = .ok (.iload_n 1, 1) := by decide +kernel
theorem dX11_deleteSelectedRows_40 : decode cX11_deleteSelectedRows 40 = .ok (.isub, 1) := by decide +kernel
theorem dX11_deleteSelectedRows_41 : decode cX11_deleteSelectedRows 41 = .ok (.istore_n 2, 1) := by decide +kernel
theorem dX11_deleteSelectedRows_42 : decode cX11_deleteSelectedRows 42 = .ok (.aload_n 0, 1) := by decide +kernel
theorem dX11_deleteSelectedRows_43 : decode cX11_deleteSelectedRows 43 = .ok (.iload_n 1, 1) := by decide +kernel
theorem dX11_deleteSelectedRows_44 : decode cX11_deleteSelectedRows 44 = .ok (.invokevirtual 56, 3) := by decide +kernel
theorem dX11_deleteSelectedRows_47 : decode cX11_deleteSelectedRows 47 = .ok (.iload_n 2, 1) := by decide +kernel
theorem dX11_deleteSelectedRows_48 : decode cX11_deleteSelectedRows 48 = .ok (.ireturn, 1) := by decide +kernel
theorem dX11_moveRow_0 : decode cX11_moveRow 0 = .ok (.iconst 0, 1) := by decide +kernel
theorem dX11_moveRow_1 : decode cX11_moveRow 1 = .ok (.istore_n 3, 1) := by decide +kernel
theorem dX11_moveRow_2 : decode cX11_moveRow 2 = .ok (.iload_n 3, 1) := by decide +kernel
theorem dX11_moveRow_3 : decode cX11_moveRow 3 = .ok (.aload_n 0, 1) := by decide +kernel
theorem dX11_moveRow_4 : decode cX11_moveRow 4 = .ok (.getfield 17, 3) := by decide +kernel
theorem dX11_moveRow_7 : decode cX11_moveRow 7 = .ok (.if_icmp .ge 20, 3) := by decide +kernel
theorem dX11_moveRow_10 : decode cX11_moveRow 10 = .ok (.aload_n 0, 1) := by decide +kernel
theorem dX11_moveRow_11 : decode cX11_moveRow 11 = .ok (.getfield 11, 3) := by decide +kernel
theorem dX11_moveRow_14 : decode cX11_moveRow 14 = .ok (.iload_n 3, 1) := by decide +kernel
theorem dX11_moveRow_15 : decode cX11_moveRow 15 = .ok (.aaload, 1) := by decide +kernel
theorem dX11_moveRow_16 : decode cX11_moveRow 16 = .ok (.iload_n 1, 1) := by decide +kernel
theorem dX11_moveRow_17 : decode cX11_moveRow 17 = .ok (.iload_n 2, 1) := by decide +kernel
theorem dX11_moveRow_18 : decode cX11_moveRow 18 = .ok (.invokevirtual 63, 3) := by decide +kernel
theorem dX11_moveRow_21 : decode cX11_moveRow 21 = .ok (.iinc 3 1, 3) := by decide +kernel
theorem dX11_moveRow_24 : decode cX11_moveRow 24 = .ok (.goto (-22), 3) := by decide +kernel
theorem dX11_moveRow_27 : decode cX11_moveRow 27 = .ok (.return_, 1) := by decide +kernel
theorem dX11_shorten_0 : decode cX11_shorten 0 = .ok (.iconst 0, 1) := by decide +kernel
theorem dX11_shorten_1 : decode cX11_shorten 1 = .ok (.istore_n 2, 1) := by decide +kernel
theorem dX11_shorten_2 : decode cX11_shorten 2 = .ok (.iload_n 2, 1) := by decide +kernel
theorem dX11_shorten_3 : decode cX11_shorten 3 = .ok (.aload_n 0, 1) := by decide +kernel
theorem dX11_shorten_4 : decode cX11_shorten 4 = .ok (.getfield 17, 3) := by decide +kernel
theorem dX11_shorten_7 : decode cX11_shorten 7 = .ok (.if_icmp .ge 19, 3) := by decide +kernel
theorem dX11_shorten_10 : decode cX11_shorten 10 = .ok (.aload_n 0, 1) := by decide +kernel
theorem dX11_shorten_11 : decode cX11_shorten 11 = .ok (.getfield 11, 3) := by decide +kernel
theorem dX11_shorten_14 : decode cX11_shorten 14 = .ok (.iload_n 2, 1) := by decide +kernel
theorem dX11_shorten_15 : decode cX11_shorten 15 = .ok (.aaload, 1) := by decide +kernel
theorem dX11_shorten_16 : decode cX11_shorten 16 = .ok (.iload_n 1, 1) := by decide +kernel
theorem dX11_shorten_17 : decode cX11_shorten 17 = .ok (.invokevirtual 66, 3) := by decide +kernel
theorem dX11_shorten_20 : decode cX11_shorten 20 = .ok (.iinc 2 1, 3) := by decide +kernel
theorem dX11_shorten_23 : decode cX11_shorten 23 = .ok (.goto (-21), 3) := by decide +kernel
theorem dX11_shorten_26 : decode cX11_shorten 26 = .ok (.return_, 1) := by decide +kernel
theorem dX11_reorder_0 : decode cX11_reorder 0 = .ok (.iconst 0, 1) := by decide +kernel
theorem dX11_reorder_1 : decode cX11_reorder 1 = .ok (.istore_n 2, 1) := by decide +kernel
theorem dX11_reorder_2 : decode cX11_reorder 2 = .ok (.iload_n 2, 1) := by decide +kernel
theorem dX11_reorder_3 : decode cX11_reorder 3 = .ok (.aload_n 0, 1) := by decide +kernel
theorem dX11_reorder_4 : decode cX11_reorder 4 = .ok (.getfield 17, 3) := by decide +kernel
theorem dX11_reorder_7 : decode cX11_reorder 7 = .ok (.if_icmp .ge 19, 3) := by decide +kernel
theorem dX11_reorder_10 : decode cX11_reorder 10 = .ok (.aload_n 0, 1) := by decide +kernel
theorem dX11_reorder_11 : decode cX11_reorder 11 = .ok (.getfield 11, 3) := by decide +kernel
theorem dX11_reorder_14 : decode cX11_reorder 14 = .ok (.iload_n 2, 1) := by decide +kernel
theorem dX11_reorder_15 : decode cX11_reorder 15 = .ok (.aaload, 1) := by decide +kernel
theorem dX11_reorder_16 : decode cX11_reorder 16 = .ok (.aload_n 1, 1) := by decide +kernel
theorem dX11_reorder_17 : decode cX11_reorder 17 = .ok (.invokevirtual 67, 3) := by decide +kernel
theorem dX11_reorder_20 : decode cX11_reorder 20 = .ok (.iinc 2 1, 3) := by decide +kernel
theorem dX11_reorder_23 : decode cX11_reorder 23 = .ok (.goto (-21), 3) := by decide +kernel
theorem dX11_reorder_26 : decode cX11_reorder 26 = .ok (.return_, 1) := by decide +kernel
theorem dX11_fulfills_0 : decode cX11_fulfills 0 = .ok (.aload_n 0, 1) := by decide +kernel
theorem dX11_fulfills_1 : decode cX11_fulfills 1 = .ok (.getfield 24, 3) := by decide +kernel
theorem dX11_fulfills_4 : decode cX11_fulfills 4 = .ok (.iload_n 2, 1) := by decide +kernel
theorem dX11_fulfills_5 : decode cX11_fulfills 5 = .ok (.aload_n 0, 1) := by decide +kernel
theorem dX11_fulfills_6 : decode cX11_fulfills 6 = .ok (.getfield 11, 3) := by decide +kernel
theorem dX11_fulfills_9 : decode cX11_fulfills 9 = .ok (.aload_n 0, 1) := by decide +kernel
theorem dX11_fulfills_10 : decode cX11_fulfills 10 = .ok (.getfield 24, 3) := by decide +kernel
theorem dX11_fulfills_13 : decode cX11_fulfills 13 = .ok (.iload_n 2, 1) := by decide +kernel
theorem dX11_fulfills_14 : decode cX11_fulfills 14 = .ok (.invokevirtual 71, 3) := by decide +kernel
theorem dX11_fulfills_17 : decode cX11_fulfills 17 = .ok (.aaload, 1) := by decide +kernel
theorem dX11_fulfills_18 : decode cX11_fulfills 18 = .ok (.iload_n 1, 1) := by decide +kernel
theorem dX11_fulfills_19 : decode cX11_fulfills 19 = .ok (.invokevirtual 75, 3) := by decide +kernel
theorem dX11_fulfills_22 : decode cX11_fulfills 22 = .ok (.invokevirtual 78, 3) := by decide +kernel
theorem dX11_fulfills_25 : decode cX11_fulfills 25 = .ok (.ireturn, 1) := by decide +kernel
theorem dX11_rowsFulfilling_0 : decode cX11_rowsFulfilling 0 = .ok (.iconst 0, 1) := by decide +kernel
theorem dX11_rowsFulfilling_1 : decode cX11_rowsFulfilling 1 = .ok (.istore_n 2, 1) := by decide +kernel
theorem dX11_rowsFulfilling_2 : decode cX11_rowsFulfilling 2 = .ok (.iconst 0, 1) := by decide +kernel
theorem dX11_rowsFulfilling_3 : decode cX11_rowsFulfilling 3 = .ok (.istore_n 3, 1) := by decide +kernel
theorem dX11_rowsFulfilling_4 : decode cX11_rowsFulfilling 4 = .ok (.iload_n 3, 1) := by decide +kernel
theorem dX11_rowsFulfilling_5 : decode cX11_rowsFulfilling 5 = .ok (.aload_n 0, 1) := by decide +kernel
theorem dX11_rowsFulfilling_6 : decode cX11_rowsFulfilling 6 = .ok (.invokevirtual 37, 3) := by decide +kernel
theorem dX11_rowsFulfilling_9 : decode cX11_rowsFulfilling 9 = .ok (.if_icmp .ge 21, 3) := by decide +kernel
theorem dX11_rowsFulfilling_12 : decode cX11_rowsFulfilling 12 = .ok (.aload_n 0, 1) := by decide +kernel
theorem dX11_rowsFulfilling_13 : decode cX11_rowsFulfilling 13 = .ok (.iload_n 3, 1) := by decide +kernel
theorem dX11_rowsFulfilling_14 : decode cX11_rowsFulfilling 14 = .ok (.iload_n 1, 1) := by decide +kernel
theorem dX11_rowsFulfilling_15 : decode cX11_rowsFulfilling 15 = .ok (.invokevirtual 82, 3) := by decide +kernel
theorem dX11_rowsFulfilling_18 : decode cX11_rowsFulfilling 18 = .ok (.ifCond .eq 6, 3) := by decide +kernel
theorem dX11_rowsFulfilling_21 : decode cX11_rowsFulfilling 21 = .ok (.iinc 2 1, 3) := by decide +kernel
theorem dX11_rowsFulfilling_24 : decode cX11_rowsFulfilling 24 = .ok (.iinc 3 1, 3) := by decide +kernel
theorem dX11_rowsFulfilling_27 : decode cX11_rowsFulfilling 27 = .ok (.goto (-23), 3) := by decide +kernel
theorem dX11_rowsFulfilling_30 : decode cX11_rowsFulfilling 30 = .ok (.iload_n 2, 1) := by decide +kernel
theorem dX11_rowsFulfilling_31 : decode cX11_rowsFulfilling 31 = .ok (.ireturn, 1) := by decide +kernel
theorem dX11_firstRejecting_0 : decode cX11_firstRejecting 0 = .ok (.iconst 0, 1) := by decide +kernel
theorem dX11_firstRejecting_1 : decode cX11_firstRejecting 1 = .ok (.istore_n 2, 1) := by decide +kernel
theorem dX11_firstRejecting_2 : decode cX11_firstRejecting 2 = .ok (.iload_n 2, 1) := by decide +kernel
theorem dX11_firstRejecting_3 : decode cX11_firstRejecting 3 = .ok (.aload_n 0, 1) := by decide +kernel
theorem dX11_firstRejecting_4 : decode cX11_firstRejecting 4 = .ok (.getfield 24, 3) := by decide +kernel
theorem dX11_firstRejecting_7 : decode cX11_firstRejecting 7 = .ok (.invokevirtual 85, 3) := by decide +kernel
theorem dX11_firstRejecting_10 : decode cX11_firstRejecting 10 = .ok (.if_icmp .ge 20, 3) := by decide +kernel
theorem dX11_firstRejecting_13 : decode cX11_firstRejecting 13 = .ok (.aload_n 0, 1) := by decide +kernel
theorem dX11_firstRejecting_14 : decode cX11_firstRejecting 14 = .ok (.iload_n 1, 1) := by decide +kernel
theorem dX11_firstRejecting_15 : decode cX11_firstRejecting 15 = .ok (.iload_n 2, 1) := by decide +kernel
theorem dX11_firstRejecting_16 : decode cX11_firstRejecting 16 = .ok (.invokevirtual 82, 3) := by decide +kernel
theorem dX11_firstRejecting_19 : decode cX11_firstRejecting 19 = .ok (.ifCond .ne 5, 3) := by decide +kernel
theorem dX11_firstRejecting_22 : decode cX11_firstRejecting 22 = .ok (.iload_n 2, 1) := by decide +kernel
theorem dX11_firstRejecting_23 : decode cX11_firstRejecting 23 = .ok (.ireturn, 1) := by decide +kernel
theorem dX11_firstRejecting_24 : decode cX11_firstRejecting 24 = .ok (.iinc 2 1, 3) := by decide +kernel
theorem dX11_firstRejecting_27 : decode cX11_firstRejecting 27 = .ok (.goto (-25), 3) := by decide +kernel
theorem dX11_firstRejecting_30 : decode cX11_firstRejecting 30 = .ok (.iconst (-1), 1) := by decide +kernel
theorem dX11_firstRejecting_31 : decode cX11_firstRejecting 31 = .ok (.ireturn, 1) := by decide +kernel
theorem dX11_selects_0 : decode cX11_selects 0 = .ok (.aload_n 0, 1) := by decide +kernel
theorem dX11_selects_1 : decode cX11_selects 1 = .ok (.iload_n 1, 1) := by decide +kernel
theorem dX11_selects_2 : decode cX11_selects 2 = .ok (.invokevirtual 88, 3) := by decide +kernel
theorem dX11_selects_5 : decode cX11_selects 5 = .ok (.ifCond .ge 7, 3) := by decide +kernel
theorem dX11_selects_8 : decode cX11_selects 8 = .ok (.iconst 1, 1) := by decide +kernel
theorem dX11_selects_9 : decode cX11_selects 9 = .ok (.goto 4, 3) := by decide +kernel
theorem dX11_selects_12 : decode cX11_selects 12 = .ok (.iconst 0, 1) := by decide +kernel
theorem dX11_selects_13 : decode cX11_selects 13 = .ok (.ireturn, 1) := by decide +kernel
theorem dX11_selectedRows_0 : decode cX11_selectedRows 0 = .ok (.iconst 0, 1) := by decide +kernel
theorem dX11_selectedRows_1 : decode cX11_selectedRows 1 = .ok (.istore_n 1, 1) := by decide +kernel
theorem dX11_selectedRows_2 : decode cX11_selectedRows 2 = .ok (.iconst 0, 1) := by decide +kernel
theorem dX11_selectedRows_3 : decode cX11_selectedRows 3 = .ok (.istore_n 2, 1) := by decide +kernel
theorem dX11_selectedRows_4 : decode cX11_selectedRows 4 = .ok (.iload_n 2, 1) := by decide +kernel
theorem dX11_selectedRows_5 : decode cX11_selectedRows 5 = .ok (.aload_n 0, 1) := by decide +kernel
theorem dX11_selectedRows_6 : decode cX11_selectedRows 6 = .ok (.invokevirtual 37, 3) := by decide +kernel
theorem dX11_selectedRows_9 : decode cX11_selectedRows 9 = .ok (.if_icmp .ge 20, 3) := by decide +kernel
theorem dX11_selectedRows_12 : decode cX11_selectedRows 12 = .ok (.aload_n 0, 1) := by decide +kernel
theorem dX11_selectedRows_13 : decode cX11_selectedRows 13 = .ok (.iload_n 2, 1) := by decide +kernel
theorem dX11_selectedRows_14 : decode cX11_selectedRows 14 = .ok (.invokevirtual 59, 3) := by decide +kernel
theorem dX11_selectedRows_17 : decode cX11_selectedRows 17 = .ok (.ifCond .eq 6, 3) := by decide +kernel
theorem dX11_selectedRows_20 : decode cX11_selectedRows 20 = .ok (.iinc 1 1, 3) := by decide +kernel
theorem dX11_selectedRows_23 : decode cX11_selectedRows 23 = .ok (.iinc 2 1, 3) := by decide +kernel
theorem dX11_selectedRows_26 : decode cX11_selectedRows 26 = .ok (.goto (-22), 3) := by decide +kernel
theorem dX11_selectedRows_29 : decode cX11_selectedRows 29 = .ok (.iload_n 1, 1) := by decide +kernel
theorem dX11_selectedRows_30 : decode cX11_selectedRows 30 = .ok (.ireturn, 1) := by decide +kernel
theorem dX11_lowerEnd_0 : decode cX11_lowerEnd 0 = .ok (.aload_n 0, 1) := by decide +kernel
theorem dX11_lowerEnd_1 : decode cX11_lowerEnd 1 = .ok (.aload_n 0, 1) := by decide +kernel
theorem dX11_lowerEnd_2 : decode cX11_lowerEnd 2 = .ok (.getfield 24, 3) := by decide +kernel
theorem dX11_lowerEnd_5 : decode cX11_lowerEnd 5 = .ok (.iload_n 1, 1) := by decide +kernel
theorem dX11_lowerEnd_6 : decode cX11_lowerEnd 6 = .ok (.invokevirtual 71, 3) := by decide +kernel
theorem dX11_lowerEnd_9 : decode cX11_lowerEnd 9 = .ok (.invokevirtual 91, 3) := by decide +kernel
theorem dX11_lowerEnd_12 : decode cX11_lowerEnd 12 = .ok (.astore_n 2, 1) := by decide +kernel
theorem dX11_lowerEnd_13 : decode cX11_lowerEnd 13 = .ok (.aload_n 0, 1) := by decide +kernel
theorem dX11_lowerEnd_14 : decode cX11_lowerEnd 14 = .ok (.getfield 24, 3) := by decide +kernel
theorem dX11_lowerEnd_17 : decode cX11_lowerEnd 17 = .ok (.iload_n 1, 1) := by decide +kernel
theorem dX11_lowerEnd_18 : decode cX11_lowerEnd 18 = .ok (.invokevirtual 94, 3) := by decide +kernel
theorem dX11_lowerEnd_21 : decode cX11_lowerEnd 21 = .ok (.istore_n 3, 1) := by decide +kernel
theorem dX11_lowerEnd_22 : decode cX11_lowerEnd 22 = .ok (.aload_n 0, 1) := by decide +kernel
theorem dX11_lowerEnd_23 : decode cX11_lowerEnd 23 = .ok (.getfield 24, 3) := by decide +kernel
theorem dX11_lowerEnd_26 : decode cX11_lowerEnd 26 = .ok (.iload_n 1, 1) := by decide +kernel
theorem dX11_lowerEnd_27 : decode cX11_lowerEnd 27 = .ok (.invokevirtual 97, 3) := by decide +kernel
theorem dX11_lowerEnd_30 : decode cX11_lowerEnd 30 = .ok (.lookupswitch 36 #[(-1, 26), (1, 28)], 26) := by decide +kernel
theorem dX11_lowerEnd_56 : decode cX11_lowerEnd 56 = .ok (.iconst 0, 1) := by decide +kernel
theorem dX11_lowerEnd_57 : decode cX11_lowerEnd 57 = .ok (.ireturn, 1) := by decide +kernel
theorem dX11_lowerEnd_58 : decode cX11_lowerEnd 58 = .ok (.aload_n 2, 1) := by decide +kernel
theorem dX11_lowerEnd_59 : decode cX11_lowerEnd 59 = .ok (.iload_n 3, 1) := by decide +kernel
theorem dX11_lowerEnd_60 : decode cX11_lowerEnd 60 = .ok (.iconst 1, 1) := by decide +kernel
theorem dX11_lowerEnd_61 : decode cX11_lowerEnd 61 = .ok (.iadd, 1) := by decide +kernel
theorem dX11_lowerEnd_62 : decode cX11_lowerEnd 62 = .ok (.invokevirtual 100, 3) := by decide +kernel
theorem dX11_lowerEnd_65 : decode cX11_lowerEnd 65 = .ok (.ireturn, 1) := by decide +kernel
theorem dX11_lowerEnd_66 : decode cX11_lowerEnd 66 = .ok (.aload_n 2, 1) := by decide +kernel
theorem dX11_lowerEnd_67 : decode cX11_lowerEnd 67 = .ok (.iload_n 3, 1) := by decide +kernel
theorem dX11_lowerEnd_68 : decode cX11_lowerEnd 68 = .ok (.invokevirtual 100, 3) := by decide +kernel
theorem dX11_lowerEnd_71 : decode cX11_lowerEnd 71 = .ok (.ireturn, 1) := by decide +kernel
theorem dX11_upperEnd_0 : decode cX11_upperEnd 0 = .ok (.aload_n 0, 1) := by decide +kernel
theorem dX11_upperEnd_1 : decode cX11_upperEnd 1 = .ok (.aload_n 0, 1) := by decide +kernel
theorem dX11_upperEnd_2 : decode cX11_upperEnd 2 = .ok (.getfield 24, 3) := by decide +kernel
theorem dX11_upperEnd_5 : decode cX11_upperEnd 5 = .ok (.iload_n 1, 1) := by decide +kernel
theorem dX11_upperEnd_6 : decode cX11_upperEnd 6 = .ok (.invokevirtual 71, 3) := by decide +kernel
theorem dX11_upperEnd_9 : decode cX11_upperEnd 9 = .ok (.invokevirtual 91, 3) := by decide +kernel
theorem dX11_upperEnd_12 : decode cX11_upperEnd 12 = .ok (.astore_n 2, 1) := by decide +kernel
theorem dX11_upperEnd_13 : decode cX11_upperEnd 13 = .ok (.aload_n 0, 1) := by decide +kernel
theorem dX11_upperEnd_14 : decode cX11_upperEnd 14 = .ok (.getfield 24, 3) := by decide +kernel
theorem dX11_upperEnd_17 : decode cX11_upperEnd 17 = .ok (.iload_n 1, 1) := by decide +kernel
theorem dX11_upperEnd_18 : decode cX11_upperEnd 18 = .ok (.invokevirtual 94, 3) := by decide +kernel
theorem dX11_upperEnd_21 : decode cX11_upperEnd 21 = .ok (.istore_n 3, 1) := by decide +kernel
theorem dX11_upperEnd_22 : decode cX11_upperEnd 22 = .ok (.aload_n 0, 1) := by decide +kernel
theorem dX11_upperEnd_23 : decode cX11_upperEnd 23 = .ok (.getfield 24, 3) := by decide +kernel
theorem dX11_upperEnd_26 : decode cX11_upperEnd 26 = .ok (.iload_n 1, 1) := by decide +kernel
theorem dX11_upperEnd_27 : decode cX11_upperEnd 27 = .ok (.invokevirtual 97, 3) := by decide +kernel
theorem dX11_upperEnd_30 : decode cX11_upperEnd 30 = .ok (.lookupswitch 37 #[(-1, 26), (1, 32)], 26) := by decide +kernel
theorem dX11_upperEnd_56 : decode cX11_upperEnd 56 = .ok (.aload_n 2, 1) := by decide +kernel
theorem dX11_upperEnd_57 : decode cX11_upperEnd 57 = .ok (.iload_n 3, 1) := by decide +kernel
theorem dX11_upperEnd_58 : decode cX11_upperEnd 58 = .ok (.invokevirtual 100, 3) := by decide +kernel
theorem dX11_upperEnd_61 : decode cX11_upperEnd 61 = .ok (.ireturn, 1) := by decide +kernel
theorem dX11_upperEnd_62 : decode cX11_upperEnd 62 = .ok (.aload_n 2, 1) := by decide +kernel
theorem dX11_upperEnd_63 : decode cX11_upperEnd 63 = .ok (.invokevirtual 105, 3) := by decide +kernel
theorem dX11_upperEnd_66 : decode cX11_upperEnd 66 = .ok (.ireturn, 1) := by decide +kernel
theorem dX11_upperEnd_67 : decode cX11_upperEnd 67 = .ok (.aload_n 2, 1) := by decide +kernel
theorem dX11_upperEnd_68 : decode cX11_upperEnd 68 = .ok (.iload_n 3, 1) := by decide +kernel
theorem dX11_upperEnd_69 : decode cX11_upperEnd 69 = .ok (.iconst 1, 1) := by decide +kernel
theorem dX11_upperEnd_70 : decode cX11_upperEnd 70 = .ok (.iadd, 1) := by decide +kernel
theorem dX11_upperEnd_71 : decode cX11_upperEnd 71 = .ok (.invokevirtual 100, 3) := by decide +kernel
theorem dX11_upperEnd_74 : decode cX11_upperEnd 74 = .ok (.ireturn, 1) := by decide +kernel
theorem dX11_selectsByCode_0 : decode cX11_selectsByCode 0 = .ok (.iconst 0, 1) := by decide +kernel
theorem dX11_selectsByCode_1 : decode cX11_selectsByCode 1 = .ok (.istore_n 2, 1) := by decide +kernel
theorem dX11_selectsByCode_2 : decode cX11_selectsByCode 2 = .ok (.iload_n 2, 1) := by decide +kernel
theorem dX11_selectsByCode_3 : decode cX11_selectsByCode 3 = .ok (.aload_n 0, 1) := by decide +kernel
theorem dX11_selectsByCode_4 : decode cX11_selectsByCode 4 = .ok (.getfield 24, 3) := by decide +kernel
theorem dX11_selectsByCode_7 : decode cX11_selectsByCode 7 = .ok (.invokevirtual 85, 3) := by decide +kernel
theorem dX11_selectsByCode_10 : decode cX11_selectsByCode 10 = .ok (.if_icmp .ge 47, 3) := by decide +kernel
theorem dX11_selectsByCode_13 : decode cX11_selectsByCode 13 = .ok (.aload_n 0, 1) := by decide +kernel
theorem dX11_selectsByCode_14 : decode cX11_selectsByCode 14 = .ok (.getfield 11, 3) := by decide +kernel
theorem dX11_selectsByCode_17 : decode cX11_selectsByCode 17 = .ok (.aload_n 0, 1) := by decide +kernel
theorem dX11_selectsByCode_18 : decode cX11_selectsByCode 18 = .ok (.getfield 24, 3) := by decide +kernel
theorem dX11_selectsByCode_21 : decode cX11_selectsByCode 21 = .ok (.iload_n 2, 1) := by decide +kernel
theorem dX11_selectsByCode_22 : decode cX11_selectsByCode 22 = .ok (.invokevirtual 71, 3) := by decide +kernel
theorem dX11_selectsByCode_25 : decode cX11_selectsByCode 25 = .ok (.aaload, 1) := by decide +kernel
theorem dX11_selectsByCode_26 : decode cX11_selectsByCode 26 = .ok (.iload_n 1, 1) := by decide +kernel
theorem dX11_selectsByCode_27 : decode cX11_selectsByCode 27 = .ok (.invokevirtual 106, 3) := by decide +kernel
theorem dX11_selectsByCode_30 : decode cX11_selectsByCode 30 = .ok (.istore_n 3, 1) := by decide +kernel
theorem dX11_selectsByCode_31 : decode cX11_selectsByCode 31 = .ok (.iload_n 3, 1) := by decide +kernel
theorem dX11_selectsByCode_32 : decode cX11_selectsByCode 32 = .ok (.aload_n 0, 1) := by decide +kernel
theorem dX11_selectsByCode_33 : decode cX11_selectsByCode 33 = .ok (.iload_n 2, 1) := by decide +kernel
theorem dX11_selectsByCode_34 : decode cX11_selectsByCode 34 = .ok (.invokevirtual 109, 3) := by decide +kernel
theorem dX11_selectsByCode_37 : decode cX11_selectsByCode 37 = .ok (.if_icmp .lt 12, 3) := by decide +kernel
theorem dX11_selectsByCode_40 : decode cX11_selectsByCode 40 = .ok (.iload_n 3, 1) := by decide +kernel
theorem dX11_selectsByCode_41 : decode cX11_selectsByCode 41 = .ok (.aload_n 0, 1) := by decide +kernel
theorem dX11_selectsByCode_42 : decode cX11_selectsByCode 42 = .ok (.iload_n 2, 1) := by decide +kernel
theorem dX11_selectsByCode_43 : decode cX11_selectsByCode 43 = .ok (.invokevirtual 112, 3) := by decide +kernel
theorem dX11_selectsByCode_46 : decode cX11_selectsByCode 46 = .ok (.if_icmp .lt 5, 3) := by decide +kernel
theorem dX11_selectsByCode_49 : decode cX11_selectsByCode 49 = .ok (.iconst 0, 1) := by decide +kernel
theorem dX11_selectsByCode_50 : decode cX11_selectsByCode 50 = .ok (.ireturn, 1) := by decide +kernel
theorem dX11_selectsByCode_51 : decode cX11_selectsByCode 51 = .ok (.iinc 2 1, 3) := by decide +kernel
theorem dX11_selectsByCode_54 : decode cX11_selectsByCode 54 = .ok (.goto (-52), 3) := by decide +kernel
theorem dX11_selectsByCode_57 : decode cX11_selectsByCode 57 = .ok (.iconst 1, 1) := by decide +kernel
theorem dX11_selectsByCode_58 : decode cX11_selectsByCode 58 = .ok (.ireturn, 1) := by decide +kernel
theorem dX11_copyFrom_0 : decode cX11_copyFrom 0 = .ok (.aload_n 0, 1) := by decide +kernel
theorem dX11_copyFrom_1 : decode cX11_copyFrom 1 = .ok (.aload_n 1, 1) := by decide +kernel
theorem dX11_copyFrom_2 : decode cX11_copyFrom 2 = .ok (.getfield 17, 3) := by decide +kernel
theorem dX11_copyFrom_5 : decode cX11_copyFrom 5 = .ok (.putfield 17, 3) := by decide +kernel
theorem dX11_copyFrom_8 : decode cX11_copyFrom 8 = .ok (.iconst 0, 1) := by decide +kernel
theorem dX11_copyFrom_9 : decode cX11_copyFrom 9 = .ok (.istore_n 2, 1) := by decide +kernel
theorem dX11_copyFrom_10 : decode cX11_copyFrom 10 = .ok (.iload_n 2, 1) := by decide +kernel
theorem dX11_copyFrom_11 : decode cX11_copyFrom 11 = .ok (.aload_n 0, 1) := by decide +kernel
theorem dX11_copyFrom_12 : decode cX11_copyFrom 12 = .ok (.getfield 17, 3) := by decide +kernel
theorem dX11_copyFrom_15 : decode cX11_copyFrom 15 = .ok (.if_icmp .ge 24, 3) := by decide +kernel
theorem dX11_copyFrom_18 : decode cX11_copyFrom 18 = .ok (.aload_n 0, 1) := by decide +kernel
theorem dX11_copyFrom_19 : decode cX11_copyFrom 19 = .ok (.getfield 11, 3) := by decide +kernel
theorem dX11_copyFrom_22 : decode cX11_copyFrom 22 = .ok (.iload_n 2, 1) := by decide +kernel
theorem dX11_copyFrom_23 : decode cX11_copyFrom 23 = .ok (.aaload, 1) := by decide +kernel
theorem dX11_copyFrom_24 : decode cX11_copyFrom 24 = .ok (.aload_n 1, 1) := by decide +kernel
theorem dX11_copyFrom_25 : decode cX11_copyFrom 25 = .ok (.getfield 11, 3) := by decide +kernel
theorem dX11_copyFrom_28 : decode cX11_copyFrom 28 = .ok (.iload_n 2, 1) := by decide +kernel
theorem dX11_copyFrom_29 : decode cX11_copyFrom 29 = .ok (.aaload, 1) := by decide +kernel
theorem dX11_copyFrom_30 : decode cX11_copyFrom 30 = .ok (.invokevirtual 115, 3) := by decide +kernel
theorem dX11_copyFrom_33 : decode cX11_copyFrom 33 = .ok (.iinc 2 1, 3) := by decide +kernel
theorem dX11_copyFrom_36 : decode cX11_copyFrom 36 = .ok (.goto (-26), 3) := by decide +kernel
theorem dX11_copyFrom_39 : decode cX11_copyFrom 39 = .ok (.aload_n 0, 1) := by decide +kernel
theorem dX11_copyFrom_40 : decode cX11_copyFrom 40 = .ok (.getfield 24, 3) := by decide +kernel
theorem dX11_copyFrom_43 : decode cX11_copyFrom 43 = .ok (.aload_n 1, 1) := by decide +kernel
theorem dX11_copyFrom_44 : decode cX11_copyFrom 44 = .ok (.getfield 24, 3) := by decide +kernel
theorem dX11_copyFrom_47 : decode cX11_copyFrom 47 = .ok (.invokevirtual 119, 3) := by decide +kernel
theorem dX11_copyFrom_50 : decode cX11_copyFrom 50 = .ok (.return_, 1) := by decide +kernel
theorem dX12_init_0 : decode cX12_init 0 = .ok (.aload_n 0, 1) := by decide +kernel
theorem dX12_init_1 : decode cX12_init 1 = .ok (.invokespecial 1, 3) := by decide +kernel
theorem dX12_init_4 : decode cX12_init 4 = .ok (.aload_n 0, 1) := by decide +kernel
theorem dX12_init_5 : decode cX12_init 5 = .ok (.new 7, 3) := by decide +kernel
theorem dX12_init_8 : decode cX12_init 8 = .ok (.dup, 1) := by decide +kernel
theorem dX12_init_9 : decode cX12_init 9 = .ok (.invokespecial 9, 3) := by decide +kernel
theorem dX12_init_12 : decode cX12_init 12 = .ok (.putfield 10, 3) := by decide +kernel
theorem dX12_init_15 : decode cX12_init 15 = .ok (.aload_n 0, 1) := by decide +kernel
theorem dX12_init_16 : decode cX12_init 16 = .ok (.new 7, 3) := by decide +kernel
theorem dX12_init_19 : decode cX12_init 19 = .ok (.dup, 1) := by decide +kernel
theorem dX12_init_20 : decode cX12_init 20 = .ok (.invokespecial 9, 3) := by decide +kernel
theorem dX12_init_23 : decode cX12_init 23 = .ok (.putfield 16, 3) := by decide +kernel
theorem dX12_init_26 : decode cX12_init 26 = .ok (.aload_n 0, 1) := by decide +kernel
theorem dX12_init_27 : decode cX12_init 27 = .ok (.new 19, 3) := by decide +kernel
theorem dX12_init_30 : decode cX12_init 30 = .ok (.dup, 1) := by decide +kernel
theorem dX12_init_31 : decode cX12_init 31 = .ok (.invokespecial 21, 3) := by decide +kernel
theorem dX12_init_34 : decode cX12_init 34 = .ok (.putfield 22, 3) := by decide +kernel
theorem dX12_init_37 : decode cX12_init 37 = .ok (.aload_n 0, 1) := by decide +kernel
theorem dX12_init_38 : decode cX12_init 38 = .ok (.new 26, 3) := by decide +kernel
theorem dX12_init_41 : decode cX12_init 41 = .ok (.dup, 1) := by decide +kernel
theorem dX12_init_42 : decode cX12_init 42 = .ok (.invokespecial 28, 3) := by decide +kernel
theorem dX12_init_45 : decode cX12_init 45 = .ok (.putfield 29, 3) := by decide +kernel
theorem dX12_init_48 : decode cX12_init 48 = .ok (.aload_n 0, 1) := by decide +kernel
theorem dX12_init_49 : decode cX12_init 49 = .ok (.new 33, 3) := by decide +kernel
theorem dX12_init_52 : decode cX12_init 52 = .ok (.dup, 1) := by decide +kernel
theorem dX12_init_53 : decode cX12_init 53 = .ok (.aload_n 0, 1) := by decide +kernel
theorem dX12_init_54 : decode cX12_init 54 = .ok (.getfield 29, 3) := by decide +kernel
theorem dX12_init_57 : decode cX12_init 57 = .ok (.invokespecial 35, 3) := by decide +kernel
theorem dX12_init_60 : decode cX12_init 60 = .ok (.putfield 38, 3) := by decide +kernel
theorem dX12_init_63 : decode cX12_init 63 = .ok (.aload_n 0, 1) := by decide +kernel
theorem dX12_init_64 : decode cX12_init 64 = .ok (.bipush 36, 2) := by decide +kernel
theorem dX12_init_66 : decode cX12_init 66 = .ok (.newarray .byte, 2) := by decide +kernel
theorem dX12_init_68 : decode cX12_init 68 = .ok (.putfield 42, 3) := by decide +kernel
theorem dX12_init_71 : decode cX12_init 71 = .ok (.aload_n 0, 1) := by decide +kernel
theorem dX12_init_72 : decode cX12_init 72 = .ok (.new 46, 3) := by decide +kernel
theorem dX12_init_75 : decode cX12_init 75 = .ok (.dup, 1) := by decide +kernel
theorem dX12_init_76 : decode cX12_init 76 = .ok (.invokespecial 48, 3) := by decide +kernel
theorem dX12_init_79 : decode cX12_init 79 = .ok (.putfield 49, 3) := by decide +kernel
theorem dX12_init_82 : decode cX12_init 82 = .ok (.aload_n 0, 1) := by decide +kernel
theorem dX12_init_83 : decode cX12_init 83 = .ok (.new 53, 3) := by decide +kernel
theorem dX12_init_86 : decode cX12_init 86 = .ok (.dup, 1) := by decide +kernel
theorem dX12_init_87 : decode cX12_init 87 = .ok (.invokespecial 55, 3) := by decide +kernel
theorem dX12_init_90 : decode cX12_init 90 = .ok (.putfield 56, 3) := by decide +kernel
theorem dX12_init_93 : decode cX12_init 93 = .ok (.aload_n 0, 1) := by decide +kernel
theorem dX12_init_94 : decode cX12_init 94 = .ok (.new 60, 3) := by decide +kernel
theorem dX12_init_97 : decode cX12_init 97 = .ok (.dup, 1) := by decide +kernel
theorem dX12_init_98 : decode cX12_init 98 = .ok (.invokespecial 62, 3) := by decide +kernel
theorem dX12_init_101 : decode cX12_init 101 = .ok (.putfield 63, 3) := by decide +kernel
theorem dX12_init_104 : decode cX12_init 104 = .ok (.aload_n 0, 1) := by decide +kernel
theorem dX12_init_105 : decode cX12_init 105 = .ok (.getfield 10, 3) := by decide +kernel
theorem dX12_init_108 : decode cX12_init 108 = .ok (.iconst 3, 1) := by decide +kernel
theorem dX12_init_109 : decode cX12_init 109 = .ok (.bipush 6, 2) := by decide +kernel
theorem dX12_init_111 : decode cX12_init 111 = .ok (.getstatic 67, 3) := by decide +kernel
theorem dX12_init_114 : decode cX12_init 114 = .ok (.invokevirtual 71, 3) := by decide +kernel
theorem dX12_init_117 : decode cX12_init 117 = .ok (.return_, 1) := by decide +kernel
theorem dX12_appendText_0 : decode cX12_appendText 0 = .ok (.aload_n 0, 1) := by decide +kernel
theorem dX12_appendText_1 : decode cX12_appendText 1 = .ok (.getfield 29, 3) := by decide +kernel
theorem dX12_appendText_4 : decode cX12_appendText 4 = .ok (.invokevirtual 75, 3) := by decide +kernel
theorem dX12_appendText_7 : decode cX12_appendText 7 = .ok (.bipush 20, 2) := by decide +kernel
theorem dX12_appendText_9 : decode cX12_appendText 9 = .ok (.iadd, 1) := by decide +kernel
theorem dX12_appendText_10 : decode cX12_appendText 10 = .ok (.sipush 700, 3) := by decide +kernel
theorem dX12_appendText_13 : decode cX12_appendText 13 = .ok (.if_icmp .le 5, 3) := by decide +kernel
theorem dX12_appendText_16 : decode cX12_appendText 16 = .ok (.iconst (-1), 1) := by decide +kernel
theorem dX12_appendText_17 : decode cX12_appendText 17 = .ok (.ireturn, 1) := by decide +kernel
theorem dX12_appendText_18 : decode cX12_appendText 18 = .ok (.aload_n 0, 1) := by decide +kernel
theorem dX12_appendText_19 : decode cX12_appendText 19 = .ok (.getfield 29, 3) := by decide +kernel
theorem dX12_appendText_22 : decode cX12_appendText 22 = .ok (.iload_n 1, 1) := by decide +kernel
theorem dX12_appendText_23 : decode cX12_appendText 23 = .ok (.invokevirtual 79, 3) := by decide +kernel
theorem dX12_appendText_26 : decode cX12_appendText 26 = .ok (.aload_n 0, 1) := by decide +kernel
theorem dX12_appendText_27 : decode cX12_appendText 27 = .ok (.getfield 29, 3) := by decide +kernel
theorem dX12_appendText_30 : decode cX12_appendText 30 = .ok (.iload_n 2, 1) := by decide +kernel
theorem dX12_appendText_31 : decode cX12_appendText 31 = .ok (.invokevirtual 79, 3) := by decide +kernel
theorem dX12_appendText_34 : decode cX12_appendText 34 = .ok (.aload_n 0, 1) := by decide +kernel
theorem dX12_appendText_35 : decode cX12_appendText 35 = .ok (.getfield 29, 3) := by decide +kernel
theorem dX12_appendText_38 : decode cX12_appendText 38 = .ok (.iload_n 3, 1) := by decide +kernel
theorem dX12_appendText_39 : decode cX12_appendText 39 = .ok (.invokevirtual 79, 3) := by decide +kernel
theorem dX12_appendText_42 : decode cX12_appendText 42 = .ok (.aload_n 0, 1) := by decide +kernel
theorem dX12_appendText_43 : decode cX12_appendText 43 = .ok (.getfield 29, 3) := by decide +kernel
theorem dX12_appendText_46 : decode cX12_appendText 46 = .ok (.iload 4, 2) := by decide +kernel
theorem dX12_appendText_48 : decode cX12_appendText 48 = .ok (.invokevirtual 79, 3) := by decide +kernel
theorem dX12_appendText_51 : decode cX12_appendText 51 = .ok (.aload_n 0, 1) := by decide +kernel
theorem dX12_appendText_52 : decode cX12_appendText 52 = .ok (.getfield 29, 3) := by decide +kernel
theorem dX12_appendText_55 : decode cX12_appendText 55 = .ok (.iload 5, 2) := by decide +kernel
theorem dX12_appendText_57 : decode cX12_appendText 57 = .ok (.invokevirtual 79, 3) := by decide +kernel
theorem dX12_appendText_60 : decode cX12_appendText 60 = .ok (.aload_n 0, 1) := by decide +kernel
theorem dX12_appendText_61 : decode cX12_appendText 61 = .ok (.getfield 29, 3) := by decide +kernel
theorem dX12_appendText_64 : decode cX12_appendText 64 = .ok (.invokevirtual 75, 3) := by decide +kernel
theorem dX12_appendText_67 : decode cX12_appendText 67 = .ok (.ireturn, 1) := by decide +kernel
theorem dX12_loadTable_0 : decode cX12_loadTable 0 = .ok (.aload_n 0, 1) := by decide +kernel
theorem dX12_loadTable_1 : decode cX12_loadTable 1 = .ok (.iload_n 1, 1) := by decide +kernel
theorem dX12_loadTable_2 : decode cX12_loadTable 2 = .ok (.invokevirtual 83, 3) := by decide +kernel
theorem dX12_loadTable_5 : decode cX12_loadTable 5 = .ok (.aload_n 0, 1) := by decide +kernel
theorem dX12_loadTable_6 : decode cX12_loadTable 6 = .ok (.getfield 38, 3) := by decide +kernel
theorem dX12_loadTable_9 : decode cX12_loadTable 9 = .ok (.iload_n 1, 1) := by decide +kernel
theorem dX12_loadTable_10 : decode cX12_loadTable 10 = .ok (.invokevirtual 86, 3) := by decide +kernel
theorem dX12_loadTable_13 : decode cX12_loadTable 13 = .ok (.istore_n 2, 1) := by decide +kernel
theorem dX12_loadTable_14 : decode cX12_loadTable 14 = .ok (.aload_n 0, 1) := by decide +kernel
theorem dX12_loadTable_15 : decode cX12_loadTable 15 = .ok (.getfield 29, 3) := by decide +kernel
theorem dX12_loadTable_18 : decode cX12_loadTable 18 = .ok (.invokevirtual 90, 3) := by decide +kernel
theorem dX12_loadTable_21 : decode cX12_loadTable 21 = .ok (.iload_n 2, 1) := by decide +kernel
theorem dX12_loadTable_22 : decode cX12_loadTable 22 = .ok (.ifCond .ne 5, 3) := by decide +kernel
theorem dX12_loadTable_25 : decode cX12_loadTable 25 = .ok (.iconst (-1), 1) := by decide +kernel
theorem dX12_loadTable_26 : decode cX12_loadTable 26 = .ok (.ireturn, 1) := by decide +kernel
theorem dX12_loadTable_27 : decode cX12_loadTable 27 = .ok (.aload_n 0, 1) := by decide +kernel
theorem dX12_loadTable_28 : decode cX12_loadTable 28 = .ok (.getfield 10, 3) := by decide +kernel
theorem dX12_loadTable_31 : decode cX12_loadTable 31 = .ok (.aload_n 0, 1) := by decide +kernel
theorem dX12_loadTable_32 : decode cX12_loadTable 32 = .ok (.getfield 38, 3) := by decide +kernel
theorem dX12_loadTable_35 : decode cX12_loadTable 35 = .ok (.invokevirtual 93, 3) := by decide +kernel
theorem dX12_loadTable_38 : decode cX12_loadTable 38 = .ok (.aload_n 0, 1) := by decide +kernel
theorem dX12_loadTable_39 : decode cX12_loadTable 39 = .ok (.getfield 38, 3) := by decide +kernel
theorem dX12_loadTable_42 : decode cX12_loadTable 42 = .ok (.invokevirtual 96, 3) := by decide +kernel
theorem dX12_loadTable_45 : decode cX12_loadTable 45 = .ok (.aload_n 0, 1) := by decide +kernel
theorem dX12_loadTable_46 : decode cX12_loadTable 46 = .ok (.getfield 38, 3) := by decide +kernel
theorem dX12_loadTable_49 : decode cX12_loadTable 49 = .ok (.invokevirtual 99, 3) := by decide +kernel
theorem dX12_loadTable_52 : decode cX12_loadTable 52 = .ok (.invokevirtual 71, 3) := by decide +kernel
theorem dX12_loadTable_55 : decode cX12_loadTable 55 = .ok (.aload_n 0, 1) := by decide +kernel
theorem dX12_loadTable_56 : decode cX12_loadTable 56 = .ok (.getfield 22, 3) := by decide +kernel
theorem dX12_loadTable_59 : decode cX12_loadTable 59 = .ok (.invokevirtual 103, 3) := by decide +kernel
theorem dX12_loadTable_62 : decode cX12_loadTable 62 = .ok (.aload_n 0, 1) := by decide +kernel
theorem dX12_loadTable_63 : decode cX12_loadTable 63 = .ok (.iconst 0, 1) := by decide +kernel
theorem dX12_loadTable_64 : decode cX12_loadTable 64 = .ok (.putfield 104, 3) := by decide +kernel
theorem dX12_loadTable_67 : decode cX12_loadTable 67 = .ok (.aload_n 0, 1) := by decide +kernel
theorem dX12_loadTable_68 : decode cX12_loadTable 68 = .ok (.getfield 10, 3) := by decide +kernel
theorem dX12_loadTable_71 : decode cX12_loadTable 71 = .ok (.invokevirtual 108, 3) := by decide +kernel
theorem dX12_loadTable_74 : decode cX12_loadTable 74 = .ok (.ireturn, 1) := by decide +kernel
theorem dX12_columnCount_0 : decode cX12_columnCount 0 = .ok (.aload_n 0, 1) := by decide +kernel
theorem dX12_columnCount_1 : decode cX12_columnCount 1 = .ok (.getfield 10, 3) := by decide +kernel
theorem dX12_columnCount_4 : decode cX12_columnCount 4 = .ok (.invokevirtual 115, 3) := by decide +kernel
theorem dX12_columnCount_7 : decode cX12_columnCount 7 = .ok (.ireturn, 1) := by decide +kernel
theorem dX12_rowCount_0 : decode cX12_rowCount 0 = .ok (.aload_n 0, 1) := by decide +kernel
theorem dX12_rowCount_1 : decode cX12_rowCount 1 = .ok (.getfield 10, 3) := by decide +kernel
theorem dX12_rowCount_4 : decode cX12_rowCount 4 = .ok (.invokevirtual 108, 3) := by decide +kernel
theorem dX12_rowCount_7 : decode cX12_rowCount 7 = .ok (.ireturn, 1) := by decide +kernel
theorem dX12_value_0 : decode cX12_value 0 = .ok (.aload_n 0, 1) := by decide +kernel
theorem dX12_value_1 : decode cX12_value 1 = .ok (.iload_n 1, 1) := by decide +kernel
theorem dX12_value_2 : decode cX12_value 2 = .ok (.invokevirtual 116, 3) := by decide +kernel
theorem dX12_value_5 : decode cX12_value 5 = .ok (.aload_n 0, 1) := by decide +kernel
theorem dX12_value_6 : decode cX12_value 6 = .ok (.iload_n 2, 1) := by decide +kernel
theorem dX12_value_7 : decode cX12_value 7 = .ok (.invokevirtual 119, 3) := by decide +kernel
theorem dX12_value_10 : decode cX12_value 10 = .ok (.aload_n 0, 1) := by decide +kernel
theorem dX12_value_11 : decode cX12_value 11 = .ok (.getfield 10, 3) := by decide +kernel
theorem dX12_value_14 : decode cX12_value 14 = .ok (.iload_n 1, 1) := by decide +kernel
theorem dX12_value_15 : decode cX12_value 15 = .ok (.invokevirtual 122, 3) := by decide +kernel
theorem dX12_value_18 : decode cX12_value 18 = .ok (.iload_n 2, 1) := by decide +kernel
theorem dX12_value_19 : decode cX12_value 19 = .ok (.invokevirtual 126, 3) := by decide +kernel
theorem dX12_value_22 : decode cX12_value 22 = .ok (.ireturn, 1) := by decide +kernel
theorem dX12_code_0 : decode cX12_code 0 = .ok (.aload_n 0, 1) := by decide +kernel
theorem dX12_code_1 : decode cX12_code 1 = .ok (.iload_n 1, 1) := by decide +kernel
theorem dX12_code_2 : decode cX12_code 2 = .ok (.invokevirtual 116, 3) := by decide +kernel
theorem dX12_code_5 : decode cX12_code 5 = .ok (.aload_n 0, 1) := by decide +kernel
theorem dX12_code_6 : decode cX12_code 6 = .ok (.iload_n 2, 1) := by decide +kernel
theorem dX12_code_7 : decode cX12_code 7 = .ok (.invokevirtual 119, 3) := by decide +kernel
theorem dX12_code_10 : decode cX12_code 10 = .ok (.aload_n 0, 1) := by decide +kernel
theorem dX12_code_11 : decode cX12_code 11 = .ok (.getfield 10, 3) := by decide +kernel
theorem dX12_code_14 : decode cX12_code 14 = .ok (.iload_n 1, 1) := by decide +kernel
theorem dX12_code_15 : decode cX12_code 15 = .ok (.invokevirtual 122, 3) := by decide +kernel
theorem dX12_code_18 : decode cX12_code 18 = .ok (.iload_n 2, 1) := by decide +kernel
theorem dX12_code_19 : decode cX12_code 19 = .ok (.invokevirtual 132, 3) := by decide +kernel
theorem dX12_code_22 : decode cX12_code 22 = .ok (.ireturn, 1) := by decide +kernel
theorem dX12_dictionarySize_0 : decode cX12_dictionarySize 0 = .ok (.aload_n 0, 1) := by decide +kernel
theorem dX12_dictionarySize_1 : decode cX12_dictionarySize 1 = .ok (.iload_n 1, 1) := by decide +kernel
theorem dX12_dictionarySize_2 : decode cX12_dictionarySize 2 = .ok (.invokevirtual 116, 3) := by decide +kernel
theorem dX12_dictionarySize_5 : decode cX12_dictionarySize 5 = .ok (.aload_n 0, 1) := by decide +kernel
theorem dX12_dictionarySize_6 : decode cX12_dictionarySize 6 = .ok (.getfield 10, 3) := by decide +kernel
theorem dX12_dictionarySize_9 : decode cX12_dictionarySize 9 = .ok (.iload_n 1, 1) := by decide +kernel
theorem dX12_dictionarySize_10 : decode cX12_dictionarySize 10 = .ok (.invokevirtual 135, 3) := by decide +kernel
theorem dX12_dictionarySize_13 : decode cX12_dictionarySize 13 = .ok (.invokevirtual 139, 3) := by decide +kernel
theorem dX12_dictionarySize_16 : decode cX12_dictionarySize 16 = .ok (.ireturn, 1) := by decide +kernel
theorem dX12_dictionaryValue_0 : decode cX12_dictionaryValue 0 = .ok (.aload_n 0, 1) := by decide +kernel
theorem dX12_dictionaryValue_1 : decode cX12_dictionaryValue 1 = .ok (.iload_n 1, 1) := by decide +kernel
theorem dX12_dictionaryValue_2 : decode cX12_dictionaryValue 2 = .ok (.invokevirtual 116, 3) := by decide +kernel
theorem dX12_dictionaryValue_5 : decode cX12_dictionaryValue 5 = .ok (.aload_n 0, 1) := by decide +kernel
theorem dX12_dictionaryValue_6 : decode cX12_dictionaryValue 6 = .ok (.iload_n 1, 1) := by decide +kernel
theorem dX12_dictionaryValue_7 : decode cX12_dictionaryValue 7 = .ok (.iload_n 2, 1) := by decide +kernel
theorem dX12_dictionaryValue_8 : decode cX12_dictionaryValue 8 = .ok (.invokevirtual 140, 3) := by decide +kernel
theorem dX12_dictionaryValue_11 : decode cX12_dictionaryValue 11 = .ok (.aload_n 0, 1) := by decide +kernel
theorem dX12_dictionaryValue_12 : decode cX12_dictionaryValue 12 = .ok (.getfield 10, 3) := by decide +kernel
theorem dX12_dictionaryValue_15 : decode cX12_dictionaryValue 15 = .ok (.iload_n 1, 1) := by decide +kernel
theorem dX12_dictionaryValue_16 : decode cX12_dictionaryValue 16 = .ok (.invokevirtual 135, 3) := by decide +kernel
theorem dX12_dictionaryValue_19 : decode cX12_dictionaryValue 19 = .ok (.iload_n 2, 1) := by decide +kernel
theorem dX12_dictionaryValue_20 : decode cX12_dictionaryValue 20 = .ok (.invokevirtual 144, 3) := by decide +kernel
theorem dX12_dictionaryValue_23 : decode cX12_dictionaryValue 23 = .ok (.ireturn, 1) := by decide +kernel
theorem dX12_findCode_0 : decode cX12_findCode 0 = .ok (.aload_n 0, 1) := by decide +kernel
theorem dX12_findCode_1 : decode cX12_findCode 1 = .ok (.iload_n 1, 1) := by decide +kernel
theorem dX12_findCode_2 : decode cX12_findCode 2 = .ok (.invokevirtual 116, 3) := by decide +kernel
theorem dX12_findCode_5 : decode cX12_findCode 5 = .ok (.aload_n 0, 1) := by decide +kernel
theorem dX12_findCode_6 : decode cX12_findCode 6 = .ok (.getfield 10, 3) := by decide +kernel
theorem dX12_findCode_9 : decode cX12_findCode 9 = .ok (.iload_n 1, 1) := by decide +kernel
theorem dX12_findCode_10 : decode cX12_findCode 10 = .ok (.invokevirtual 135, 3) := by decide +kernel
theorem dX12_findCode_13 : decode cX12_findCode 13 = .ok (.iload_n 2, 1) := by decide +kernel
theorem dX12_findCode_14 : decode cX12_findCode 14 = .ok (.invokevirtual 147, 3) := by decide +kernel
theorem dX12_findCode_17 : decode cX12_findCode 17 = .ok (.ireturn, 1) := by decide +kernel
theorem dX12_staleCount_0 : decode cX12_staleCount 0 = .ok (.aload_n 0, 1) := by decide +kernel
theorem dX12_staleCount_1 : decode cX12_staleCount 1 = .ok (.iload_n 1, 1) := by decide +kernel
theorem dX12_staleCount_2 : decode cX12_staleCount 2 = .ok (.invokevirtual 116, 3) := by decide +kernel
theorem dX12_staleCount_5 : decode cX12_staleCount 5 = .ok (.aload_n 0, 1) := by decide +kernel
theorem dX12_staleCount_6 : decode cX12_staleCount 6 = .ok (.getfield 10, 3) := by decide +kernel
theorem dX12_staleCount_9 : decode cX12_staleCount 9 = .ok (.iload_n 1, 1) := by decide +kernel
theorem dX12_staleCount_10 : decode cX12_staleCount 10 = .ok (.invokevirtual 122, 3) := by decide +kernel
theorem dX12_staleCount_13 : decode cX12_staleCount 13 = .ok (.aload_n 0, 1) := by decide +kernel
theorem dX12_staleCount_14 : decode cX12_staleCount 14 = .ok (.getfield 56, 3) := by decide +kernel
theorem dX12_staleCount_17 : decode cX12_staleCount 17 = .ok (.invokevirtual 150, 3) := by decide +kernel
theorem dX12_staleCount_20 : decode cX12_staleCount 20 = .ok (.aload_n 0, 1) := by decide +kernel
theorem dX12_staleCount_21 : decode cX12_staleCount 21 = .ok (.getfield 10, 3) := by decide +kernel
theorem dX12_staleCount_24 : decode cX12_staleCount 24 = .ok (.iload_n 1, 1) := by decide +kernel
theorem dX12_staleCount_25 : decode cX12_staleCount 25 = .ok (.invokevirtual 135, 3) := by decide +kernel
theorem dX12_staleCount_28 : decode cX12_staleCount 28 = .ok (.invokevirtual 139, 3) := by decide +kernel
theorem dX12_staleCount_31 : decode cX12_staleCount 31 = .ok (.aload_n 0, 1) := by decide +kernel
theorem dX12_staleCount_32 : decode cX12_staleCount 32 = .ok (.getfield 56, 3) := by decide +kernel
theorem dX12_staleCount_35 : decode cX12_staleCount 35 = .ok (.invokevirtual 139, 3) := by decide +kernel
theorem dX12_staleCount_38 : decode cX12_staleCount 38 = .ok (.isub, 1) := by decide +kernel
theorem dX12_staleCount_39 : decode cX12_staleCount 39 = .ok (.ireturn, 1) := by decide +kernel
theorem dX12_frequency_0 : decode cX12_frequency 0 = .ok (.aload_n 0, 1) := by decide +kernel
theorem dX12_frequency_1 : decode cX12_frequency 1 = .ok (.iload_n 1, 1) := by decide +kernel
theorem dX12_frequency_2 : decode cX12_frequency 2 = .ok (.invokevirtual 116, 3) := by decide +kernel
theorem dX12_frequency_5 : decode cX12_frequency 5 = .ok (.aload_n 0, 1) := by decide +kernel
theorem dX12_frequency_6 : decode cX12_frequency 6 = .ok (.iload_n 1, 1) := by decide +kernel
theorem dX12_frequency_7 : decode cX12_frequency 7 = .ok (.iload_n 2, 1) := by decide +kernel
theorem dX12_frequency_8 : decode cX12_frequency 8 = .ok (.invokevirtual 140, 3) := by decide +kernel
theorem dX12_frequency_11 : decode cX12_frequency 11 = .ok (.aload_n 0, 1) := by decide +kernel
theorem dX12_frequency_12 : decode cX12_frequency 12 = .ok (.getfield 10, 3) := by decide +kernel
theorem dX12_frequency_15 : decode cX12_frequency 15 = .ok (.iload_n 1, 1) := by decide +kernel
theorem dX12_frequency_16 : decode cX12_frequency 16 = .ok (.invokevirtual 122, 3) := by decide +kernel
theorem dX12_frequency_19 : decode cX12_frequency 19 = .ok (.aload_n 0, 1) := by decide +kernel
theorem dX12_frequency_20 : decode cX12_frequency 20 = .ok (.getfield 10, 3) := by decide +kernel
theorem dX12_frequency_23 : decode cX12_frequency 23 = .ok (.iload_n 1, 1) := by decide +kernel
theorem dX12_frequency_24 : decode cX12_frequency 24 = .ok (.invokevirtual 135, 3) := by decide +kernel
theorem dX12_frequency_27 : decode cX12_frequency 27 = .ok (.iload_n 2, 1) := by decide +kernel
theorem dX12_frequency_28 : decode cX12_frequency 28 = .ok (.invokevirtual 144, 3) := by decide +kernel
theorem dX12_frequency_31 : decode cX12_frequency 31 = .ok (.invokevirtual 154, 3) := by decide +kernel
theorem dX12_frequency_34 : decode cX12_frequency 34 = .ok (.ireturn, 1) := by decide +kernel
theorem dX12_commonestCode_0 : decode cX12_commonestCode 0 = .ok (.aload_n 0, 1) := by decide +kernel
theorem dX12_commonestCode_1 : decode cX12_commonestCode 1 = .ok (.iload_n 1, 1) := by decide +kernel
theorem dX12_commonestCode_2 : decode cX12_commonestCode 2 = .ok (.invokevirtual 116, 3) := by decide +kernel
theorem dX12_commonestCode_5 : decode cX12_commonestCode 5 = .ok (.aload_n 0, 1) := by decide +kernel
theorem dX12_commonestCode_6 : decode cX12_commonestCode 6 = .ok (.getfield 10, 3) := by decide +kernel
theorem dX12_commonestCode_9 : decode cX12_commonestCode 9 = .ok (.iload_n 1, 1) := by decide +kernel
theorem dX12_commonestCode_10 : decode cX12_commonestCode 10 = .ok (.invokevirtual 122, 3) := by decide +kernel
theorem dX12_commonestCode_13 : decode cX12_commonestCode 13 = .ok (.invokevirtual 157, 3) := by decide +kernel
theorem dX12_commonestCode_16 : decode cX12_commonestCode 16 = .ok (.ireturn, 1) := by decide +kernel
theorem dX12_bitWidth_0 : decode cX12_bitWidth 0 = .ok (.aload_n 0, 1) := by decide +kernel
theorem dX12_bitWidth_1 : decode cX12_bitWidth 1 = .ok (.iload_n 1, 1) := by decide +kernel
theorem dX12_bitWidth_2 : decode cX12_bitWidth 2 = .ok (.invokevirtual 116, 3) := by decide +kernel
theorem dX12_bitWidth_5 : decode cX12_bitWidth 5 = .ok (.aload_n 0, 1) := by decide +kernel
theorem dX12_bitWidth_6 : decode cX12_bitWidth 6 = .ok (.getfield 10, 3) := by decide +kernel
theorem dX12_bitWidth_9 : decode cX12_bitWidth 9 = .ok (.iload_n 1, 1) := by decide +kernel
theorem dX12_bitWidth_10 : decode cX12_bitWidth 10 = .ok (.invokevirtual 135, 3) := by decide +kernel
theorem dX12_bitWidth_13 : decode cX12_bitWidth 13 = .ok (.invokevirtual 160, 3) := by decide +kernel
theorem dX12_bitWidth_16 : decode cX12_bitWidth 16 = .ok (.ireturn, 1) := by decide +kernel
theorem dX12_wordCount_0 : decode cX12_wordCount 0 = .ok (.aload_n 0, 1) := by decide +kernel
theorem dX12_wordCount_1 : decode cX12_wordCount 1 = .ok (.iload_n 1, 1) := by decide +kernel
theorem dX12_wordCount_2 : decode cX12_wordCount 2 = .ok (.invokevirtual 116, 3) := by decide +kernel
theorem dX12_wordCount_5 : decode cX12_wordCount 5 = .ok (.aload_n 0, 1) := by decide +kernel
theorem dX12_wordCount_6 : decode cX12_wordCount 6 = .ok (.iload_n 1, 1) := by decide +kernel
theorem dX12_wordCount_7 : decode cX12_wordCount 7 = .ok (.invokevirtual 163, 3) := by decide +kernel
theorem dX12_wordCount_10 : decode cX12_wordCount 10 = .ok (.ireturn, 1) := by decide +kernel
theorem dX12_packedWord_0 : decode cX12_packedWord 0 = .ok (.aload_n 0, 1) := by decide +kernel
theorem dX12_packedWord_1 : decode cX12_packedWord 1 = .ok (.iload_n 1, 1) := by decide +kernel
theorem dX12_packedWord_2 : decode cX12_packedWord 2 = .ok (.invokevirtual 116, 3) := by decide +kernel
theorem dX12_packedWord_5 : decode cX12_packedWord 5 = .ok (.iload_n 2, 1) := by decide +kernel
theorem dX12_packedWord_6 : decode cX12_packedWord 6 = .ok (.ifCond .lt 12, 3) := by decide +kernel
theorem dX12_packedWord_9 : decode cX12_packedWord 9 = .ok (.iload_n 2, 1) := by decide +kernel
theorem dX12_packedWord_10 : decode cX12_packedWord 10 = .ok (.aload_n 0, 1) := by decide +kernel
theorem dX12_packedWord_11 : decode cX12_packedWord 11 = .ok (.iload_n 1, 1) := by decide +kernel
theorem dX12_packedWord_12 : decode cX12_packedWord 12 = .ok (.invokevirtual 163, 3) := by decide +kernel
theorem dX12_packedWord_15 : decode cX12_packedWord 15 = .ok (.if_icmp .lt 13, 3) := by decide +kernel
theorem dX12_packedWord_18 : decode cX12_packedWord 18 = .ok (.new 166, 3) := by decide +kernel
theorem dX12_packedWord_21 : decode cX12_packedWord 21 = .ok (.dup, 1) := by decide +kernel
theorem dX12_packedWord_22 : decode cX12_packedWord 22 = .ok (.ldc 168, 2) := by decide +kernel
theorem dX12_packedWord_24 : decode cX12_packedWord 24 = .ok (.invokespecial 170, 3) := by decide +kernel
theorem dX12_packedWord_27 : decode cX12_packedWord 27 = .ok (.athrow, 1) := by decide +kernel
theorem dX12_packedWord_28 : decode cX12_packedWord 28 = .ok (.aload_n 0, 1) := by decide +kernel
theorem dX12_packedWord_29 : decode cX12_packedWord 29 = .ok (.getfield 63, 3) := by decide +kernel
theorem dX12_packedWord_32 : decode cX12_packedWord 32 = .ok (.aload_n 0, 1) := by decide +kernel
theorem dX12_packedWord_33 : decode cX12_packedWord 33 = .ok (.getfield 10, 3) := by decide +kernel
theorem dX12_packedWord_36 : decode cX12_packedWord 36 = .ok (.iload_n 1, 1) := by decide +kernel
theorem dX12_packedWord_37 : decode cX12_packedWord 37 = .ok (.invokevirtual 122, 3) := by decide +kernel
theorem dX12_packedWord_40 : decode cX12_packedWord 40 = .ok (.invokevirtual 173, 3) := by decide +kernel
theorem dX12_packedWord_43 : decode cX12_packedWord 43 = .ok (.aload_n 0, 1) := by decide +kernel
theorem dX12_packedWord_44 : decode cX12_packedWord 44 = .ok (.getfield 63, 3) := by decide +kernel
theorem dX12_packedWord_47 : decode cX12_packedWord 47 = .ok (.iload_n 2, 1) := by decide +kernel
theorem dX12_packedWord_48 : decode cX12_packedWord 48 = .ok (.invokevirtual 177, 3) := by decide +kernel
theorem dX12_packedWord_51 : decode cX12_packedWord 51 = .ok (.lreturn, 1) := by decide +kernel
theorem dX12_packedBits_0 : decode cX12_packedBits 0 = .ok (.iconst 0, 1) := by decide +kernel
theorem dX12_packedBits_1 : decode cX12_packedBits 1 = .ok (.istore_n 1, 1) := by decide +kernel
theorem dX12_packedBits_2 : decode cX12_packedBits 2 = .ok (.iconst 0, 1) := by decide +kernel
theorem dX12_packedBits_3 : decode cX12_packedBits 3 = .ok (.istore_n 2, 1) := by decide +kernel
theorem dX12_packedBits_4 : decode cX12_packedBits 4 = .ok (.iload_n 2, 1) := by decide +kernel
theorem dX12_packedBits_5 : decode cX12_packedBits 5 = .ok (.aload_n 0, 1) := by decide +kernel
theorem dX12_packedBits_6 : decode cX12_packedBits 6 = .ok (.getfield 10, 3) := by decide +kernel
theorem dX12_packedBits_9 : decode cX12_packedBits 9 = .ok (.invokevirtual 115, 3) := by decide +kernel
theorem dX12_packedBits_12 : decode cX12_packedBits 12 = .ok (.if_icmp .ge 23, 3) := by decide +kernel
theorem dX12_packedBits_15 : decode cX12_packedBits 15 = .ok (.iload_n 1, 1) := by decide +kernel
theorem dX12_packedBits_16 : decode cX12_packedBits 16 = .ok (.aload_n 0, 1) := by decide +kernel
theorem dX12_packedBits_17 : decode cX12_packedBits 17 = .ok (.getfield 10, 3) := by decide +kernel
theorem dX12_packedBits_20 : decode cX12_packedBits 20 = .ok (.iload_n 2, 1) := by decide +kernel
theorem dX12_packedBits_21 : decode cX12_packedBits 21 = .ok (.invokevirtual 135, 3) := by decide +kernel
theorem dX12_packedBits_24 : decode cX12_packedBits 24 = .ok (.invokevirtual 160, 3) := by decide +kernel
theorem dX12_packedBits_27 : decode cX12_packedBits 27 = .ok (.iadd, 1) := by decide +kernel
theorem dX12_packedBits_28 : decode cX12_packedBits 28 = .ok (.istore_n 1, 1) := by decide +kernel
theorem dX12_packedBits_29 : decode cX12_packedBits 29 = .ok (.iinc 2 1, 3) := by decide +kernel
theorem dX12_packedBits_32 : decode cX12_packedBits 32 = .ok (.goto (-28), 3) := by decide +kernel
theorem dX12_packedBits_35 : decode cX12_packedBits 35 = .ok (.iload_n 1, 1) := by decide +kernel
theorem dX12_packedBits_36 : decode cX12_packedBits 36 = .ok (.aload_n 0, 1) := by decide +kernel
theorem dX12_packedBits_37 : decode cX12_packedBits 37 = .ok (.getfield 10, 3) := by decide +kernel
theorem dX12_packedBits_40 : decode cX12_packedBits 40 = .ok (.invokevirtual 108, 3) := by decide +kernel
theorem dX12_packedBits_43 : decode cX12_packedBits 43 = .ok (.imul, 1) := by decide +kernel
theorem dX12_packedBits_44 : decode cX12_packedBits 44 = .ok (.ireturn, 1) := by decide +kernel
theorem dX12_runCount_0 : decode cX12_runCount 0 = .ok (.aload_n 0, 1) := by decide +kernel
theorem dX12_runCount_1 : decode cX12_runCount 1 = .ok (.iload_n 1, 1) := by decide +kernel
theorem dX12_runCount_2 : decode cX12_runCount 2 = .ok (.invokevirtual 116, 3) := by decide +kernel
theorem dX12_runCount_5 : decode cX12_runCount 5 = .ok (.aload_n 0, 1) := by decide +kernel
theorem dX12_runCount_6 : decode cX12_runCount 6 = .ok (.getfield 49, 3) := by decide +kernel
theorem dX12_runCount_9 : decode cX12_runCount 9 = .ok (.aload_n 0, 1) := by decide +kernel
theorem dX12_runCount_10 : decode cX12_runCount 10 = .ok (.getfield 10, 3) := by decide +kernel
theorem dX12_runCount_13 : decode cX12_runCount 13 = .ok (.invokevirtual 108, 3) := by decide +kernel
theorem dX12_runCount_16 : decode cX12_runCount 16 = .ok (.invokevirtual 184, 3) := by decide +kernel
theorem dX12_runCount_19 : decode cX12_runCount 19 = .ok (.aload_n 0, 1) := by decide +kernel
theorem dX12_runCount_20 : decode cX12_runCount 20 = .ok (.getfield 10, 3) := by decide +kernel
theorem dX12_runCount_23 : decode cX12_runCount 23 = .ok (.iload_n 1, 1) := by decide +kernel
theorem dX12_runCount_24 : decode cX12_runCount 24 = .ok (.invokevirtual 122, 3) := by decide +kernel
theorem dX12_runCount_27 : decode cX12_runCount 27 = .ok (.aload_n 0, 1) := by decide +kernel
theorem dX12_runCount_28 : decode cX12_runCount 28 = .ok (.getfield 49, 3) := by decide +kernel
theorem dX12_runCount_31 : decode cX12_runCount 31 = .ok (.invokevirtual 187, 3) := by decide +kernel
theorem dX12_runCount_34 : decode cX12_runCount 34 = .ok (.ireturn, 1) := by decide +kernel
theorem dX12_longestRun_0 : decode cX12_longestRun 0 = .ok (.aload_n 0, 1) := by decide +kernel
theorem dX12_longestRun_1 : decode cX12_longestRun 1 = .ok (.iload_n 1, 1) := by decide +kernel
theorem dX12_longestRun_2 : decode cX12_longestRun 2 = .ok (.invokevirtual 116, 3) := by decide +kernel
theorem dX12_longestRun_5 : decode cX12_longestRun 5 = .ok (.aload_n 0, 1) := by decide +kernel
theorem dX12_longestRun_6 : decode cX12_longestRun 6 = .ok (.getfield 10, 3) := by decide +kernel
theorem dX12_longestRun_9 : decode cX12_longestRun 9 = .ok (.iload_n 1, 1) := by decide +kernel
theorem dX12_longestRun_10 : decode cX12_longestRun 10 = .ok (.invokevirtual 122, 3) := by decide +kernel
theorem dX12_longestRun_13 : decode cX12_longestRun 13 = .ok (.invokevirtual 191, 3) := by decide +kernel
theorem dX12_longestRun_16 : decode cX12_longestRun 16 = .ok (.ireturn, 1) := by decide +kernel
theorem dX12_isSorted_0 : decode cX12_isSorted 0 = .ok (.aload_n 0, 1) := by decide +kernel
theorem dX12_isSorted_1 : decode cX12_isSorted 1 = .ok (.iload_n 1, 1) := by decide +kernel
theorem dX12_isSorted_2 : decode cX12_isSorted 2 = .ok (.invokevirtual 116, 3) := by decide +kernel
theorem dX12_isSorted_5 : decode cX12_isSorted 5 = .ok (.aload_n 0, 1) := by decide +kernel
theorem dX12_isSorted_6 : decode cX12_isSorted 6 = .ok (.getfield 10, 3) := by decide +kernel
theorem dX12_isSorted_9 : decode cX12_isSorted 9 = .ok (.iload_n 1, 1) := by decide +kernel
theorem dX12_isSorted_10 : decode cX12_isSorted 10 = .ok (.invokevirtual 122, 3) := by decide +kernel
theorem dX12_isSorted_13 : decode cX12_isSorted 13 = .ok (.invokevirtual 194, 3) := by decide +kernel
theorem dX12_isSorted_16 : decode cX12_isSorted 16 = .ok (.ireturn, 1) := by decide +kernel
theorem dX12_conditionCount_0 : decode cX12_conditionCount 0 = .ok (.aload_n 0, 1) := by decide +kernel
theorem dX12_conditionCount_1 : decode cX12_conditionCount 1 = .ok (.getfield 10, 3) := by decide +kernel
theorem dX12_conditionCount_4 : decode cX12_conditionCount 4 = .ok (.invokevirtual 198, 3) := by decide +kernel
theorem dX12_conditionCount_7 : decode cX12_conditionCount 7 = .ok (.invokevirtual 202, 3) := by decide +kernel
theorem dX12_conditionCount_10 : decode cX12_conditionCount 10 = .ok (.ireturn, 1) := by decide +kernel
theorem dX12_conditionColumn_0 : decode cX12_conditionColumn 0 = .ok (.aload_n 0, 1) := by decide +kernel
theorem dX12_conditionColumn_1 : decode cX12_conditionColumn 1 = .ok (.iload_n 1, 1) := by decide +kernel
theorem dX12_conditionColumn_2 : decode cX12_conditionColumn 2 = .ok (.invokevirtual 205, 3) := by decide +kernel
theorem dX12_conditionColumn_5 : decode cX12_conditionColumn 5 = .ok (.aload_n 0, 1) := by decide +kernel
theorem dX12_conditionColumn_6 : decode cX12_conditionColumn 6 = .ok (.getfield 10, 3) := by decide +kernel
theorem dX12_conditionColumn_9 : decode cX12_conditionColumn 9 = .ok (.invokevirtual 198, 3) := by decide +kernel
theorem dX12_conditionColumn_12 : decode cX12_conditionColumn 12 = .ok (.iload_n 1, 1) := by decide +kernel
theorem dX12_conditionColumn_13 : decode cX12_conditionColumn 13 = .ok (.invokevirtual 208, 3) := by decide +kernel
theorem dX12_conditionColumn_16 : decode cX12_conditionColumn 16 = .ok (.ireturn, 1) := by decide +kernel
theorem dX12_conditionValue_0 : decode cX12_conditionValue 0 = .ok (.aload_n 0, 1) := by decide +kernel
theorem dX12_conditionValue_1 : decode cX12_conditionValue 1 = .ok (.iload_n 1, 1) := by decide +kernel
theorem dX12_conditionValue_2 : decode cX12_conditionValue 2 = .ok (.invokevirtual 205, 3) := by decide +kernel
theorem dX12_conditionValue_5 : decode cX12_conditionValue 5 = .ok (.aload_n 0, 1) := by decide +kernel
theorem dX12_conditionValue_6 : decode cX12_conditionValue 6 = .ok (.getfield 10, 3) := by decide +kernel
theorem dX12_conditionValue_9 : decode cX12_conditionValue 9 = .ok (.invokevirtual 198, 3) := by decide +kernel
theorem dX12_conditionValue_12 : decode cX12_conditionValue 12 = .ok (.iload_n 1, 1) := by decide +kernel
theorem dX12_conditionValue_13 : decode cX12_conditionValue 13 = .ok (.invokevirtual 211, 3) := by decide +kernel
theorem dX12_conditionValue_16 : decode cX12_conditionValue 16 = .ok (.ireturn, 1) := by decide +kernel
theorem dX12_conditionDirection_0 : decode cX12_conditionDirection 0 = .ok (.aload_n 0, 1) := by decide +kernel
theorem dX12_conditionDirection_1 : decode cX12_conditionDirection 1 = .ok (.iload_n 1, 1) := by decide +kernel
theorem dX12_conditionDirection_2 : decode cX12_conditionDirection 2 = .ok (.invokevirtual 205, 3) := by decide +kernel
theorem dX12_conditionDirection_5 : decode cX12_conditionDirection 5 = .ok (.aload_n 0, 1) := by decide +kernel
theorem dX12_conditionDirection_6 : decode cX12_conditionDirection 6 = .ok (.getfield 10, 3) := by decide +kernel
theorem dX12_conditionDirection_9 : decode cX12_conditionDirection 9 = .ok (.invokevirtual 198, 3) := by decide +kernel
theorem dX12_conditionDirection_12 : decode cX12_conditionDirection 12 = .ok (.iload_n 1, 1) := by decide +kernel
theorem dX12_conditionDirection_13 : decode cX12_conditionDirection 13 = .ok (.invokevirtual 214, 3) := by decide +kernel
theorem dX12_conditionDirection_16 : decode cX12_conditionDirection 16 = .ok (.ireturn, 1) := by decide +kernel
theorem dX12_lowerCode_0 : decode cX12_lowerCode 0 = .ok (.aload_n 0, 1) := by decide +kernel
theorem dX12_lowerCode_1 : decode cX12_lowerCode 1 = .ok (.iload_n 1, 1) := by decide +kernel
theorem dX12_lowerCode_2 : decode cX12_lowerCode 2 = .ok (.invokevirtual 205, 3) := by decide +kernel
theorem dX12_lowerCode_5 : decode cX12_lowerCode 5 = .ok (.aload_n 0, 1) := by decide +kernel
theorem dX12_lowerCode_6 : decode cX12_lowerCode 6 = .ok (.getfield 10, 3) := by decide +kernel
theorem dX12_lowerCode_9 : decode cX12_lowerCode 9 = .ok (.iload_n 1, 1) := by decide +kernel
theorem dX12_lowerCode_10 : decode cX12_lowerCode 10 = .ok (.invokevirtual 217, 3) := by decide +kernel
theorem dX12_lowerCode_13 : decode cX12_lowerCode 13 = .ok (.ireturn, 1) := by decide +kernel
theorem dX12_upperCode_0 : decode cX12_upperCode 0 = .ok (.aload_n 0, 1) := by decide +kernel
theorem dX12_upperCode_1 : decode cX12_upperCode 1 = .ok (.iload_n 1, 1) := by decide +kernel
theorem dX12_upperCode_2 : decode cX12_upperCode 2 = .ok (.invokevirtual 205, 3) := by decide +kernel
theorem dX12_upperCode_5 : decode cX12_upperCode 5 = .ok (.aload_n 0, 1) := by decide +kernel
theorem dX12_upperCode_6 : decode cX12_upperCode 6 = .ok (.getfield 10, 3) := by decide +kernel
theorem dX12_upperCode_9 : decode cX12_upperCode 9 = .ok (.iload_n 1, 1) := by decide +kernel
theorem dX12_upperCode_10 : decode cX12_upperCode 10 = .ok (.invokevirtual 220, 3) := by decide +kernel
theorem dX12_upperCode_13 : decode cX12_upperCode 13 = .ok (.ireturn, 1) := by decide +kernel
theorem dX12_matches_0 : decode cX12_matches 0 = .ok (.aload_n 0, 1) := by decide +kernel
theorem dX12_matches_1 : decode cX12_matches 1 = .ok (.iload_n 1, 1) := by decide +kernel
theorem dX12_matches_2 : decode cX12_matches 2 = .ok (.invokevirtual 205, 3) := by decide +kernel
theorem dX12_matches_5 : decode cX12_matches 5 = .ok (.aload_n 0, 1) := by decide +kernel
theorem dX12_matches_6 : decode cX12_matches 6 = .ok (.getfield 10, 3) := by decide +kernel
theorem dX12_matches_9 : decode cX12_matches 9 = .ok (.iload_n 1, 1) := by decide +kernel
theorem dX12_matches_10 : decode cX12_matches 10 = .ok (.invokevirtual 223, 3) := by decide +kernel
theorem dX12_matches_13 : decode cX12_matches 13 = .ok (.ireturn, 1) := by decide +kernel
theorem dX12_strictestCondition_0 : decode cX12_strictestCondition 0 = .ok (.iconst (-1), 1) := by decide +kernel
theorem dX12_strictestCondition_1 : decode cX12_strictestCondition 1 = .ok (.istore_n 1, 1) := by decide +kernel
theorem dX12_strictestCondition_2 : decode cX12_strictestCondition 2 = .ok (.bipush 61, 2) := by decide +kernel
theorem dX12_strictestCondition_4 : decode cX12_strictestCondition 4 = .ok (.istore_n 2, 1) := by decide +kernel
theorem dX12_strictestCondition_5 : decode cX12_strictestCondition 5 = .ok (.iconst 0, 1) := by decide +kernel
theorem dX12_strictestCondition_6 : decode cX12_strictestCondition 6 = .ok (.istore_n 3, 1) := by decide +kernel
theorem dX12_strictestCondition_7 : decode cX12_strictestCondition 7 = .ok (.iload_n 3, 1) := by decide +kernel
theorem dX12_strictestCondition_8 : decode cX12_strictestCondition 8 = .ok (.aload_n 0, 1) := by decide +kernel
theorem dX12_strictestCondition_9 : decode cX12_strictestCondition 9 = .ok (.getfield 10, 3) := by decide +kernel
theorem dX12_strictestCondition_12 : decode cX12_strictestCondition 12 = .ok (.invokevirtual 198, 3) := by decide +kernel
theorem dX12_strictestCondition_15 : decode cX12_strictestCondition 15 = .ok (.invokevirtual 202, 3) := by decide +kernel
theorem dX12_strictestCondition_18 : decode cX12_strictestCondition 18 = .ok (.if_icmp .ge 30, 3) := by decide +kernel
theorem dX12_strictestCondition_21 : decode cX12_strictestCondition 21 = .ok (.aload_n 0, 1) := by decide +kernel
theorem dX12_strictestCondition_22 : decode cX12_strictestCondition 22 = .ok (.getfield 10, 3) := by decide +kernel
theorem dX12_strictestCondition_25 : decode cX12_strictestCondition 25 = .ok (.iload_n 3, 1) := by decide +kernel
theorem dX12_strictestCondition_26 : decode cX12_strictestCondition 26 = .ok (.invokevirtual 223, 3) := by decide +kernel
theorem dX12_strictestCondition_29 : decode cX12_strictestCondition 29 = .ok (.istore 4, 2) := by decide +kernel
theorem dX12_strictestCondition_31 : decode cX12_strictestCondition 31 = .ok (.iload 4, 2) := by decide +kernel
theorem dX12_strictestCondition_33 : decode cX12_strictestCondition 33 = .ok (.iload_n 2, 1) := by decide +kernel
theorem dX12_strictestCondition_34 : decode cX12_strictestCondition 34 = .ok (.if_icmp .ge 8, 3) := by decide +kernel
theorem dX12_strictestCondition_37 : decode cX12_strictestCondition 37 = .ok (.iload_n 3, 1) := by decide +kernel
theorem dX12_strictestCondition_38 : decode cX12_strictestCondition 38 = .ok (.istore_n 1, 1) := by decide +kernel
theorem dX12_strictestCondition_39 : decode cX12_strictestCondition 39 = .ok (.iload 4, 2) := by decide +kernel
theorem dX12_strictestCondition_41 : decode cX12_strictestCondition 41 = .ok (.istore_n 2, 1) := by decide +kernel
theorem dX12_strictestCondition_42 : decode cX12_strictestCondition 42 = .ok (.iinc 3 1, 3) := by decide +kernel
theorem dX12_strictestCondition_45 : decode cX12_strictestCondition 45 = .ok (.goto (-38), 3) := by decide +kernel
theorem dX12_strictestCondition_48 : decode cX12_strictestCondition 48 = .ok (.iload_n 1, 1) := by decide +kernel
theorem dX12_strictestCondition_49 : decode cX12_strictestCondition 49 = .ok (.ireturn, 1) := by decide +kernel
theorem dX12_isSelected_0 : decode cX12_isSelected 0 = .ok (.aload_n 0, 1) := by decide +kernel
theorem dX12_isSelected_1 : decode cX12_isSelected 1 = .ok (.iload_n 1, 1) := by decide +kernel
theorem dX12_isSelected_2 : decode cX12_isSelected 2 = .ok (.invokevirtual 119, 3) := by decide +kernel
theorem dX12_isSelected_5 : decode cX12_isSelected 5 = .ok (.aload_n 0, 1) := by decide +kernel
theorem dX12_isSelected_6 : decode cX12_isSelected 6 = .ok (.getfield 10, 3) := by decide +kernel
theorem dX12_isSelected_9 : decode cX12_isSelected 9 = .ok (.iload_n 1, 1) := by decide +kernel
theorem dX12_isSelected_10 : decode cX12_isSelected 10 = .ok (.invokevirtual 226, 3) := by decide +kernel
theorem dX12_isSelected_13 : decode cX12_isSelected 13 = .ok (.ireturn, 1) := by decide +kernel
theorem dX12_selectedCount_0 : decode cX12_selectedCount 0 = .ok (.aload_n 0, 1) := by decide +kernel
theorem dX12_selectedCount_1 : decode cX12_selectedCount 1 = .ok (.getfield 10, 3) := by decide +kernel
theorem dX12_selectedCount_4 : decode cX12_selectedCount 4 = .ok (.invokevirtual 229, 3) := by decide +kernel
theorem dX12_selectedCount_7 : decode cX12_selectedCount 7 = .ok (.ireturn, 1) := by decide +kernel
theorem dX12_selectedRow_0 : decode cX12_selectedRow 0 = .ok (.iconst 0, 1) := by decide +kernel
theorem dX12_selectedRow_1 : decode cX12_selectedRow 1 = .ok (.istore_n 2, 1) := by decide +kernel
theorem dX12_selectedRow_2 : decode cX12_selectedRow 2 = .ok (.iconst 0, 1) := by decide +kernel
theorem dX12_selectedRow_3 : decode cX12_selectedRow 3 = .ok (.istore_n 3, 1) := by decide +kernel
theorem dX12_selectedRow_4 : decode cX12_selectedRow 4 = .ok (.iload_n 3, 1) := by decide +kernel
theorem dX12_selectedRow_5 : decode cX12_selectedRow 5 = .ok (.aload_n 0, 1) := by decide +kernel
theorem dX12_selectedRow_6 : decode cX12_selectedRow 6 = .ok (.getfield 10, 3) := by decide +kernel
theorem dX12_selectedRow_9 : decode cX12_selectedRow 9 = .ok (.invokevirtual 108, 3) := by decide +kernel
theorem dX12_selectedRow_12 : decode cX12_selectedRow 12 = .ok (.if_icmp .ge 30, 3) := by decide +kernel
theorem dX12_selectedRow_15 : decode cX12_selectedRow 15 = .ok (.aload_n 0, 1) := by decide +kernel
theorem dX12_selectedRow_16 : decode cX12_selectedRow 16 = .ok (.getfield 10, 3) := by decide +kernel
theorem dX12_selectedRow_19 : decode cX12_selectedRow 19 = .ok (.iload_n 3, 1) := by decide +kernel
theorem dX12_selectedRow_20 : decode cX12_selectedRow 20 = .ok (.invokevirtual 226, 3) := by decide +kernel
theorem dX12_selectedRow_23 : decode cX12_selectedRow 23 = .ok (.ifCond .eq 13, 3) := by decide +kernel
theorem dX12_selectedRow_26 : decode cX12_selectedRow 26 = .ok (.iload_n 2, 1) := by decide +kernel
theorem dX12_selectedRow_27 : decode cX12_selectedRow 27 = .ok (.iload_n 1, 1) := by decide +kernel
theorem dX12_selectedRow_28 : decode cX12_selectedRow 28 = .ok (.if_icmp .ne 5, 3) := by decide +kernel
theorem dX12_selectedRow_31 : decode cX12_selectedRow 31 = .ok (.iload_n 3, 1) := by decide +kernel
theorem dX12_selectedRow_32 : decode cX12_selectedRow 32 = .ok (.ireturn, 1) := by decide +kernel
theorem dX12_selectedRow_33 : decode cX12_selectedRow 33 = .ok (.iinc 2 1, 3) := by decide +kernel
theorem dX12_selectedRow_36 : decode cX12_selectedRow 36 = .ok (.iinc 3 1, 3) := by decide +kernel
theorem dX12_selectedRow_39 : decode cX12_selectedRow 39 = .ok (.goto (-35), 3) := by decide +kernel
theorem dX12_selectedRow_42 : decode cX12_selectedRow 42 = .ok (.iconst (-1), 1) := by decide +kernel
theorem dX12_selectedRow_43 : decode cX12_selectedRow 43 = .ok (.ireturn, 1) := by decide +kernel
theorem dX12_rejectedBy_0 : decode cX12_rejectedBy 0 = .ok (.aload_n 0, 1) := by decide +kernel
theorem dX12_rejectedBy_1 : decode cX12_rejectedBy 1 = .ok (.iload_n 1, 1) := by decide +kernel
theorem dX12_rejectedBy_2 : decode cX12_rejectedBy 2 = .ok (.invokevirtual 119, 3) := by decide +kernel
theorem dX12_rejectedBy_5 : decode cX12_rejectedBy 5 = .ok (.aload_n 0, 1) := by decide +kernel
theorem dX12_rejectedBy_6 : decode cX12_rejectedBy 6 = .ok (.getfield 10, 3) := by decide +kernel
theorem dX12_rejectedBy_9 : decode cX12_rejectedBy 9 = .ok (.iload_n 1, 1) := by decide +kernel
theorem dX12_rejectedBy_10 : decode cX12_rejectedBy 10 = .ok (.invokevirtual 232, 3) := by decide +kernel
theorem dX12_rejectedBy_13 : decode cX12_rejectedBy 13 = .ok (.ireturn, 1) := by decide +kernel
theorem dX12_sumSelected_0 : decode cX12_sumSelected 0 = .ok (.aload_n 0, 1) := by decide +kernel
theorem dX12_sumSelected_1 : decode cX12_sumSelected 1 = .ok (.iload_n 1, 1) := by decide +kernel
theorem dX12_sumSelected_2 : decode cX12_sumSelected 2 = .ok (.invokevirtual 116, 3) := by decide +kernel
theorem dX12_sumSelected_5 : decode cX12_sumSelected 5 = .ok (.aload_n 0, 1) := by decide +kernel
theorem dX12_sumSelected_6 : decode cX12_sumSelected 6 = .ok (.iload_n 1, 1) := by decide +kernel
theorem dX12_sumSelected_7 : decode cX12_sumSelected 7 = .ok (.invokevirtual 235, 3) := by decide +kernel
theorem dX12_sumSelected_10 : decode cX12_sumSelected 10 = .ok (.lreturn, 1) := by decide +kernel
theorem dX12_smallestSelected_0 : decode cX12_smallestSelected 0 = .ok (.aload_n 0, 1) := by decide +kernel
theorem dX12_smallestSelected_1 : decode cX12_smallestSelected 1 = .ok (.iload_n 1, 1) := by decide +kernel
theorem dX12_smallestSelected_2 : decode cX12_smallestSelected 2 = .ok (.invokevirtual 116, 3) := by decide +kernel
theorem dX12_smallestSelected_5 : decode cX12_smallestSelected 5 = .ok (.aload_n 0, 1) := by decide +kernel
theorem dX12_smallestSelected_6 : decode cX12_smallestSelected 6 = .ok (.iload_n 1, 1) := by decide +kernel
theorem dX12_smallestSelected_7 : decode cX12_smallestSelected 7 = .ok (.invokevirtual 238, 3) := by decide +kernel
theorem dX12_smallestSelected_10 : decode cX12_smallestSelected 10 = .ok (.aload_n 0, 1) := by decide +kernel
theorem dX12_smallestSelected_11 : decode cX12_smallestSelected 11 = .ok (.invokevirtual 241, 3) := by decide +kernel
theorem dX12_smallestSelected_14 : decode cX12_smallestSelected 14 = .ok (.aload_n 0, 1) := by decide +kernel
theorem dX12_smallestSelected_15 : decode cX12_smallestSelected 15 = .ok (.getfield 56, 3) := by decide +kernel
theorem dX12_smallestSelected_18 : decode cX12_smallestSelected 18 = .ok (.iconst 0, 1) := by decide +kernel
theorem dX12_smallestSelected_19 : decode cX12_smallestSelected 19 = .ok (.invokevirtual 144, 3) := by decide +kernel
theorem dX12_smallestSelected_22 : decode cX12_smallestSelected 22 = .ok (.ireturn, 1) := by decide +kernel
theorem dX12_greatestSelected_0 : decode cX12_greatestSelected 0 = .ok (.aload_n 0, 1) := by decide +kernel
theorem dX12_greatestSelected_1 : decode cX12_greatestSelected 1 = .ok (.iload_n 1, 1) := by decide +kernel
theorem dX12_greatestSelected_2 : decode cX12_greatestSelected 2 = .ok (.invokevirtual 116, 3) := by decide +kernel
theorem dX12_greatestSelected_5 : decode cX12_greatestSelected 5 = .ok (.aload_n 0, 1) := by decide +kernel
theorem dX12_greatestSelected_6 : decode cX12_greatestSelected 6 = .ok (.iload_n 1, 1) := by decide +kernel
theorem dX12_greatestSelected_7 : decode cX12_greatestSelected 7 = .ok (.invokevirtual 238, 3) := by decide +kernel
theorem dX12_greatestSelected_10 : decode cX12_greatestSelected 10 = .ok (.aload_n 0, 1) := by decide +kernel
theorem dX12_greatestSelected_11 : decode cX12_greatestSelected 11 = .ok (.invokevirtual 241, 3) := by decide +kernel
theorem dX12_greatestSelected_14 : decode cX12_greatestSelected 14 = .ok (.aload_n 0, 1) := by decide +kernel
theorem dX12_greatestSelected_15 : decode cX12_greatestSelected 15 = .ok (.getfield 56, 3) := by decide +kernel
theorem dX12_greatestSelected_18 : decode cX12_greatestSelected 18 = .ok (.aload_n 0, 1) := by decide +kernel
theorem dX12_greatestSelected_19 : decode cX12_greatestSelected 19 = .ok (.getfield 56, 3) := by decide +kernel
theorem dX12_greatestSelected_22 : decode cX12_greatestSelected 22 = .ok (.invokevirtual 139, 3) := by decide +kernel
theorem dX12_greatestSelected_25 : decode cX12_greatestSelected 25 = .ok (.iconst 1, 1) := by decide +kernel
theorem dX12_greatestSelected_26 : decode cX12_greatestSelected 26 = .ok (.isub, 1) := by decide +kernel
theorem dX12_greatestSelected_27 : decode cX12_greatestSelected 27 = .ok (.invokevirtual 144, 3) := by decide +kernel
theorem dX12_greatestSelected_30 : decode cX12_greatestSelected 30 = .ok (.ireturn, 1) := by decide +kernel
theorem dX12_distinctSelected_0 : decode cX12_distinctSelected 0 = .ok (.aload_n 0, 1) := by decide +kernel
theorem dX12_distinctSelected_1 : decode cX12_distinctSelected 1 = .ok (.iload_n 1, 1) := by decide +kernel
theorem dX12_distinctSelected_2 : decode cX12_distinctSelected 2 = .ok (.invokevirtual 116, 3) := by decide +kernel
theorem dX12_distinctSelected_5 : decode cX12_distinctSelected 5 = .ok (.aload_n 0, 1) := by decide +kernel
theorem dX12_distinctSelected_6 : decode cX12_distinctSelected 6 = .ok (.iload_n 1, 1) := by decide +kernel
theorem dX12_distinctSelected_7 : decode cX12_distinctSelected 7 = .ok (.invokevirtual 238, 3) := by decide +kernel
theorem dX12_distinctSelected_10 : decode cX12_distinctSelected 10 = .ok (.aload_n 0, 1) := by decide +kernel
theorem dX12_distinctSelected_11 : decode cX12_distinctSelected 11 = .ok (.getfield 56, 3) := by decide +kernel
theorem dX12_distinctSelected_14 : decode cX12_distinctSelected 14 = .ok (.invokevirtual 139, 3) := by decide +kernel
theorem dX12_distinctSelected_17 : decode cX12_distinctSelected 17 = .ok (.ireturn, 1) := by decide +kernel
theorem dX12_bitWidthWith_0 : decode cX12_bitWidthWith 0 = .ok (.aload_n 0, 1) := by decide +kernel
theorem dX12_bitWidthWith_1 : decode cX12_bitWidthWith 1 = .ok (.iload_n 1, 1) := by decide +kernel
theorem dX12_bitWidthWith_2 : decode cX12_bitWidthWith 2 = .ok (.invokevirtual 116, 3) := by decide +kernel
theorem dX12_bitWidthWith_5 : decode cX12_bitWidthWith 5 = .ok (.aload_n 0, 1) := by decide +kernel
theorem dX12_bitWidthWith_6 : decode cX12_bitWidthWith 6 = .ok (.iload_n 2, 1) := by decide +kernel
theorem dX12_bitWidthWith_7 : decode cX12_bitWidthWith 7 = .ok (.invokevirtual 244, 3) := by decide +kernel
theorem dX12_bitWidthWith_10 : decode cX12_bitWidthWith 10 = .ok (.aload_n 0, 1) := by decide +kernel
theorem dX12_bitWidthWith_11 : decode cX12_bitWidthWith 11 = .ok (.getfield 10, 3) := by decide +kernel
theorem dX12_bitWidthWith_14 : decode cX12_bitWidthWith 14 = .ok (.iload_n 1, 1) := by decide +kernel
theorem dX12_bitWidthWith_15 : decode cX12_bitWidthWith 15 = .ok (.invokevirtual 135, 3) := by decide +kernel
theorem dX12_bitWidthWith_18 : decode cX12_bitWidthWith 18 = .ok (.astore_n 3, 1) := by decide +kernel
theorem dX12_bitWidthWith_19 : decode cX12_bitWidthWith 19 = .ok (.aload_n 3, 1) := by decide +kernel
theorem dX12_bitWidthWith_20 : decode cX12_bitWidthWith 20 = .ok (.iload_n 2, 1) := by decide +kernel
theorem dX12_bitWidthWith_21 : decode cX12_bitWidthWith 21 = .ok (.invokevirtual 247, 3) := by decide +kernel
theorem dX12_bitWidthWith_24 : decode cX12_bitWidthWith 24 = .ok (.ifCond .eq 10, 3) := by decide +kernel
theorem dX12_bitWidthWith_27 : decode cX12_bitWidthWith 27 = .ok (.aload_n 3, 1) := by decide +kernel
theorem dX12_bitWidthWith_28 : decode cX12_bitWidthWith 28 = .ok (.invokevirtual 139, 3) := by decide +kernel
theorem dX12_bitWidthWith_31 : decode cX12_bitWidthWith 31 = .ok (.goto 9, 3) := by decide +kernel
theorem dX12_bitWidthWith_34 : decode cX12_bitWidthWith 34 = .ok (.aload_n 3, 1) := by decide +kernel
theorem dX12_bitWidthWith_35 : decode cX12_bitWidthWith 35 = .ok (.invokevirtual 139, 3) := by decide +kernel
theorem dX12_bitWidthWith_38 : decode cX12_bitWidthWith 38 = .ok (.iconst 1, 1) := by decide +kernel
theorem dX12_bitWidthWith_39 : decode cX12_bitWidthWith 39 = .ok (.iadd, 1) := by decide +kernel
theorem dX12_bitWidthWith_40 : decode cX12_bitWidthWith 40 = .ok (.invokestatic 250, 3) := by decide +kernel
theorem dX12_bitWidthWith_43 : decode cX12_bitWidthWith 43 = .ok (.ireturn, 1) := by decide +kernel
theorem dX12_bitWidthCompacted_0 : decode cX12_bitWidthCompacted 0 = .ok (.aload_n 0, 1) := by decide +kernel
theorem dX12_bitWidthCompacted_1 : decode cX12_bitWidthCompacted 1 = .ok (.iload_n 1, 1) := by decide +kernel
theorem dX12_bitWidthCompacted_2 : decode cX12_bitWidthCompacted 2 = .ok (.invokevirtual 116, 3) := by decide +kernel
theorem dX12_bitWidthCompacted_5 : decode cX12_bitWidthCompacted 5 = .ok (.aload_n 0, 1) := by decide +kernel
theorem dX12_bitWidthCompacted_6 : decode cX12_bitWidthCompacted 6 = .ok (.getfield 10, 3) := by decide +kernel
theorem dX12_bitWidthCompacted_9 : decode cX12_bitWidthCompacted 9 = .ok (.iload_n 1, 1) := by decide +kernel
theorem dX12_bitWidthCompacted_10 : decode cX12_bitWidthCompacted 10 = .ok (.invokevirtual 122, 3) := by decide +kernel
theorem dX12_bitWidthCompacted_13 : decode cX12_bitWidthCompacted 13 = .ok (.aload_n 0, 1) := by decide +kernel
theorem dX12_bitWidthCompacted_14 : decode cX12_bitWidthCompacted 14 = .ok (.getfield 56, 3) := by decide +kernel
theorem dX12_bitWidthCompacted_17 : decode cX12_bitWidthCompacted 17 = .ok (.invokevirtual 150, 3) := by decide +kernel
theorem dX12_bitWidthCompacted_20 : decode cX12_bitWidthCompacted 20 = .ok (.aload_n 0, 1) := by decide +kernel
theorem dX12_bitWidthCompacted_21 : decode cX12_bitWidthCompacted 21 = .ok (.getfield 56, 3) := by decide +kernel
theorem dX12_bitWidthCompacted_24 : decode cX12_bitWidthCompacted 24 = .ok (.invokevirtual 160, 3) := by decide +kernel
theorem dX12_bitWidthCompacted_27 : decode cX12_bitWidthCompacted 27 = .ok (.ireturn, 1) := by decide +kernel
theorem dX12_runsIfSorted_0 : decode cX12_runsIfSorted 0 = .ok (.aload_n 0, 1) := by decide +kernel
theorem dX12_runsIfSorted_1 : decode cX12_runsIfSorted 1 = .ok (.iload_n 1, 1) := by decide +kernel
theorem dX12_runsIfSorted_2 : decode cX12_runsIfSorted 2 = .ok (.invokevirtual 116, 3) := by decide +kernel
theorem dX12_runsIfSorted_5 : decode cX12_runsIfSorted 5 = .ok (.aload_n 0, 1) := by decide +kernel
theorem dX12_runsIfSorted_6 : decode cX12_runsIfSorted 6 = .ok (.iload_n 1, 1) := by decide +kernel
theorem dX12_runsIfSorted_7 : decode cX12_runsIfSorted 7 = .ok (.invokevirtual 253, 3) := by decide +kernel
theorem dX12_runsIfSorted_10 : decode cX12_runsIfSorted 10 = .ok (.ireturn, 1) := by decide +kernel
theorem dX12_bestSortColumn_0 : decode cX12_bestSortColumn 0 = .ok (.iconst 0, 1) := by decide +kernel
theorem dX12_bestSortColumn_1 : decode cX12_bestSortColumn 1 = .ok (.istore_n 1, 1) := by decide +kernel
theorem dX12_bestSortColumn_2 : decode cX12_bestSortColumn 2 = .ok (.aload_n 0, 1) := by decide +kernel
theorem dX12_bestSortColumn_3 : decode cX12_bestSortColumn 3 = .ok (.iconst 0, 1) := by decide +kernel
theorem dX12_bestSortColumn_4 : decode cX12_bestSortColumn 4 = .ok (.invokevirtual 253, 3) := by decide +kernel
theorem dX12_bestSortColumn_7 : decode cX12_bestSortColumn 7 = .ok (.istore_n 2, 1) := by decide +kernel
theorem dX12_bestSortColumn_8 : decode cX12_bestSortColumn 8 = .ok (.iconst 1, 1) := by decide +kernel
theorem dX12_bestSortColumn_9 : decode cX12_bestSortColumn 9 = .ok (.istore_n 3, 1) := by decide +kernel
theorem dX12_bestSortColumn_10 : decode cX12_bestSortColumn 10 = .ok (.iload_n 3, 1) := by decide +kernel
theorem dX12_bestSortColumn_11 : decode cX12_bestSortColumn 11 = .ok (.aload_n 0, 1) := by decide +kernel
theorem dX12_bestSortColumn_12 : decode cX12_bestSortColumn 12 = .ok (.getfield 10, 3) := by decide +kernel
theorem dX12_bestSortColumn_15 : decode cX12_bestSortColumn 15 = .ok (.invokevirtual 115, 3) := by decide +kernel
theorem dX12_bestSortColumn_18 : decode cX12_bestSortColumn 18 = .ok (.if_icmp .ge 27, 3) := by decide +kernel
theorem dX12_bestSortColumn_21 : decode cX12_bestSortColumn 21 = .ok (.aload_n 0, 1) := by decide +kernel
theorem dX12_bestSortColumn_22 : decode cX12_bestSortColumn 22 = .ok (.iload_n 3, 1) := by decide +kernel
theorem dX12_bestSortColumn_23 : decode cX12_bestSortColumn 23 = .ok (.invokevirtual 253, 3) := by decide +kernel
theorem dX12_bestSortColumn_26 : decode cX12_bestSortColumn 26 = .ok (.istore 4, 2) := by decide +kernel
theorem dX12_bestSortColumn_28 : decode cX12_bestSortColumn 28 = .ok (.iload 4, 2) := by decide +kernel
theorem dX12_bestSortColumn_30 : decode cX12_bestSortColumn 30 = .ok (.iload_n 2, 1) := by decide +kernel
theorem dX12_bestSortColumn_31 : decode cX12_bestSortColumn 31 = .ok (.if_icmp .ge 8, 3) := by decide +kernel
theorem dX12_bestSortColumn_34 : decode cX12_bestSortColumn 34 = .ok (.iload_n 3, 1) := by decide +kernel
theorem dX12_bestSortColumn_35 : decode cX12_bestSortColumn 35 = .ok (.istore_n 1, 1) := by decide +kernel
theorem dX12_bestSortColumn_36 : decode cX12_bestSortColumn 36 = .ok (.iload 4, 2) := by decide +kernel
theorem dX12_bestSortColumn_38 : decode cX12_bestSortColumn 38 = .ok (.istore_n 2, 1) := by decide +kernel
theorem dX12_bestSortColumn_39 : decode cX12_bestSortColumn 39 = .ok (.iinc 3 1, 3) := by decide +kernel
theorem dX12_bestSortColumn_42 : decode cX12_bestSortColumn 42 = .ok (.goto (-32), 3) := by decide +kernel
theorem dX12_bestSortColumn_45 : decode cX12_bestSortColumn 45 = .ok (.iload_n 1, 1) := by decide +kernel
theorem dX12_bestSortColumn_46 : decode cX12_bestSortColumn 46 = .ok (.ireturn, 1) := by decide +kernel
theorem dX12_gap_0 : decode cX12_gap 0 = .ok (.iconst 0, 1) := by decide +kernel
theorem dX12_gap_1 : decode cX12_gap 1 = .ok (.istore_n 1, 1) := by decide +kernel
theorem dX12_gap_2 : decode cX12_gap 2 = .ok (.iconst 0, 1) := by decide +kernel
theorem dX12_gap_3 : decode cX12_gap 3 = .ok (.istore_n 2, 1) := by decide +kernel
theorem dX12_gap_4 : decode cX12_gap 4 = .ok (.iload_n 2, 1) := by decide +kernel
theorem dX12_gap_5 : decode cX12_gap 5 = .ok (.aload_n 0, 1) := by decide +kernel
theorem dX12_gap_6 : decode cX12_gap 6 = .ok (.getfield 10, 3) := by decide +kernel
theorem dX12_gap_9 : decode cX12_gap 9 = .ok (.invokevirtual 108, 3) := by decide +kernel
theorem dX12_gap_12 : decode cX12_gap 12 = .ok (.if_icmp .ge 31, 3) := by decide +kernel
theorem dX12_gap_15 : decode cX12_gap 15 = .ok (.aload_n 0, 1) := by decide +kernel
theorem dX12_gap_16 : decode cX12_gap 16 = .ok (.getfield 10, 3) := by decide +kernel
theorem dX12_gap_19 : decode cX12_gap 19 = .ok (.iload_n 2, 1) := by decide +kernel
theorem dX12_gap_20 : decode cX12_gap 20 = .ok (.invokevirtual 226, 3) := by decide +kernel
theorem dX12_gap_23 : decode cX12_gap 23 = .ok (.aload_n 0, 1) := by decide +kernel
theorem dX12_gap_24 : decode cX12_gap 24 = .ok (.getfield 10, 3) := by decide +kernel
theorem dX12_gap_27 : decode cX12_gap 27 = .ok (.iload_n 2, 1) := by decide +kernel
theorem dX12_gap_28 : decode cX12_gap 28 = .ok (.invokevirtual 256, 3) := by decide +kernel
theorem dX12_gap_31 : decode cX12_gap 31 = .ok (.if_icmp .eq 6, 3) := by decide +kernel
theorem dX12_gap_34 : decode cX12_gap 34 = .ok (.iinc 1 1, 3) := by decide +kernel
theorem dX12_gap_37 : decode cX12_gap 37 = .ok (.iinc 2 1, 3) := by decide +kernel
theorem dX12_gap_40 : decode cX12_gap 40 = .ok (.goto (-36), 3) := by decide +kernel
theorem dX12_gap_43 : decode cX12_gap 43 = .ok (.iconst 0, 1) := by decide +kernel
theorem dX12_gap_44 : decode cX12_gap 44 = .ok (.istore_n 2, 1) := by decide +kernel
theorem dX12_gap_45 : decode cX12_gap 45 = .ok (.iload_n 2, 1) := by decide +kernel
theorem dX12_gap_46 : decode cX12_gap 46 = .ok (.aload_n 0, 1) := by decide +kernel
theorem dX12_gap_47 : decode cX12_gap 47 = .ok (.getfield 10, 3) := by decide +kernel
theorem dX12_gap_50 : decode cX12_gap 50 = .ok (.invokevirtual 115, 3) := by decide +kernel
theorem dX12_gap_53 : decode cX12_gap 53 = .ok (.if_icmp .ge 24, 3) := by decide +kernel
theorem dX12_gap_56 : decode cX12_gap 56 = .ok (.iload_n 1, 1) := by decide +kernel
theorem dX12_gap_57 : decode cX12_gap 57 = .ok (.aload_n 0, 1) := by decide +kernel
theorem dX12_gap_58 : decode cX12_gap 58 = .ok (.aload_n 0, 1) := by decide +kernel
theorem dX12_gap_59 : decode cX12_gap 59 = .ok (.getfield 10, 3) := by decide +kernel
theorem dX12_gap_62 : decode cX12_gap 62 = .ok (.iload_n 2, 1) := by decide +kernel
theorem dX12_gap_63 : decode cX12_gap 63 = .ok (.invokevirtual 122, 3) := by decide +kernel
theorem dX12_gap_66 : decode cX12_gap 66 = .ok (.invokevirtual 259, 3) := by decide +kernel
theorem dX12_gap_69 : decode cX12_gap 69 = .ok (.iadd, 1) := by decide +kernel
theorem dX12_gap_70 : decode cX12_gap 70 = .ok (.istore_n 1, 1) := by decide +kernel
theorem dX12_gap_71 : decode cX12_gap 71 = .ok (.iinc 2 1, 3) := by decide +kernel
theorem dX12_gap_74 : decode cX12_gap 74 = .ok (.goto (-29), 3) := by decide +kernel
theorem dX12_gap_77 : decode cX12_gap 77 = .ok (.iload_n 1, 1) := by decide +kernel
theorem dX12_gap_78 : decode cX12_gap 78 = .ok (.ireturn, 1) := by decide +kernel
theorem dX12_addRow_0 : decode cX12_addRow 0 = .ok (.aload_n 0, 1) := by decide +kernel
theorem dX12_addRow_1 : decode cX12_addRow 1 = .ok (.iload_n 1, 1) := by decide +kernel
theorem dX12_addRow_2 : decode cX12_addRow 2 = .ok (.invokevirtual 83, 3) := by decide +kernel
theorem dX12_addRow_5 : decode cX12_addRow 5 = .ok (.aload_n 0, 1) := by decide +kernel
theorem dX12_addRow_6 : decode cX12_addRow 6 = .ok (.getfield 10, 3) := by decide +kernel
theorem dX12_addRow_9 : decode cX12_addRow 9 = .ok (.invokevirtual 263, 3) := by decide +kernel
theorem dX12_addRow_12 : decode cX12_addRow 12 = .ok (.ifCond .eq 14, 3) := by decide +kernel
theorem dX12_addRow_15 : decode cX12_addRow 15 = .ok (.new 266, 3) := by decide +kernel
theorem dX12_addRow_18 : decode cX12_addRow 18 = .ok (.dup, 1) := by decide +kernel
theorem dX12_addRow_19 : decode cX12_addRow 19 = .ok (.ldc_w 268, 3) := by decide +kernel
theorem dX12_addRow_22 : decode cX12_addRow 22 = .ok (.invokespecial 270, 3) := by decide +kernel
theorem dX12_addRow_25 : decode cX12_addRow 25 = .ok (.athrow, 1) := by decide +kernel
theorem dX12_addRow_26 : decode cX12_addRow 26 = .ok (.aload_n 0, 1) := by decide +kernel
theorem dX12_addRow_27 : decode cX12_addRow 27 = .ok (.getfield 38, 3) := by decide +kernel
theorem dX12_addRow_30 : decode cX12_addRow 30 = .ok (.iload_n 1, 1) := by decide +kernel
theorem dX12_addRow_31 : decode cX12_addRow 31 = .ok (.aload_n 0, 1) := by decide +kernel
theorem dX12_addRow_32 : decode cX12_addRow 32 = .ok (.getfield 10, 3) := by decide +kernel
theorem dX12_addRow_35 : decode cX12_addRow 35 = .ok (.invokevirtual 115, 3) := by decide +kernel
theorem dX12_addRow_38 : decode cX12_addRow 38 = .ok (.invokevirtual 271, 3) := by decide +kernel
theorem dX12_addRow_41 : decode cX12_addRow 41 = .ok (.istore_n 2, 1) := by decide +kernel
theorem dX12_addRow_42 : decode cX12_addRow 42 = .ok (.aload_n 0, 1) := by decide +kernel
theorem dX12_addRow_43 : decode cX12_addRow 43 = .ok (.getfield 29, 3) := by decide +kernel
theorem dX12_addRow_46 : decode cX12_addRow 46 = .ok (.invokevirtual 90, 3) := by decide +kernel
theorem dX12_addRow_49 : decode cX12_addRow 49 = .ok (.iload_n 2, 1) := by decide +kernel
theorem dX12_addRow_50 : decode cX12_addRow 50 = .ok (.ifCond .ne 5, 3) := by decide +kernel
theorem dX12_addRow_53 : decode cX12_addRow 53 = .ok (.iconst (-1), 1) := by decide +kernel
theorem dX12_addRow_54 : decode cX12_addRow 54 = .ok (.ireturn, 1) := by decide +kernel
theorem dX12_addRow_55 : decode cX12_addRow 55 = .ok (.aload_n 0, 1) := by decide +kernel
theorem dX12_addRow_56 : decode cX12_addRow 56 = .ok (.getfield 22, 3) := by decide +kernel
theorem dX12_addRow_59 : decode cX12_addRow 59 = .ok (.aload_n 0, 1) := by decide +kernel
theorem dX12_addRow_60 : decode cX12_addRow 60 = .ok (.getfield 10, 3) := by decide +kernel
theorem dX12_addRow_63 : decode cX12_addRow 63 = .ok (.invokevirtual 275, 3) := by decide +kernel
theorem dX12_addRow_66 : decode cX12_addRow 66 = .ok (.aload_n 0, 1) := by decide +kernel
theorem dX12_addRow_67 : decode cX12_addRow 67 = .ok (.getfield 10, 3) := by decide +kernel
theorem dX12_addRow_70 : decode cX12_addRow 70 = .ok (.aload_n 0, 1) := by decide +kernel
theorem dX12_addRow_71 : decode cX12_addRow 71 = .ok (.getfield 38, 3) := by decide +kernel
theorem dX12_addRow_74 : decode cX12_addRow 74 = .ok (.invokevirtual 99, 3) := by decide +kernel
theorem dX12_addRow_77 : decode cX12_addRow 77 = .ok (.iconst 0, 1) := by decide +kernel
theorem dX12_addRow_78 : decode cX12_addRow 78 = .ok (.invokevirtual 279, 3) := by decide +kernel
theorem dX12_addRow_81 : decode cX12_addRow 81 = .ok (.aload_n 0, 1) := by decide +kernel
theorem dX12_addRow_82 : decode cX12_addRow 82 = .ok (.getfield 10, 3) := by decide +kernel
theorem dX12_addRow_85 : decode cX12_addRow 85 = .ok (.invokevirtual 108, 3) := by decide +kernel
theorem dX12_addRow_88 : decode cX12_addRow 88 = .ok (.iconst 1, 1) := by decide +kernel
theorem dX12_addRow_89 : decode cX12_addRow 89 = .ok (.isub, 1) := by decide +kernel
theorem dX12_addRow_90 : decode cX12_addRow 90 = .ok (.ireturn, 1) := by decide +kernel
theorem dX12_removeRow_0 : decode cX12_removeRow 0 = .ok (.aload_n 0, 1) := by decide +kernel
theorem dX12_removeRow_1 : decode cX12_removeRow 1 = .ok (.iload_n 1, 1) := by decide +kernel
theorem dX12_removeRow_2 : decode cX12_removeRow 2 = .ok (.invokevirtual 119, 3) := by decide +kernel
theorem dX12_removeRow_5 : decode cX12_removeRow 5 = .ok (.aload_n 0, 1) := by decide +kernel
theorem dX12_removeRow_6 : decode cX12_removeRow 6 = .ok (.getfield 22, 3) := by decide +kernel
theorem dX12_removeRow_9 : decode cX12_removeRow 9 = .ok (.aload_n 0, 1) := by decide +kernel
theorem dX12_removeRow_10 : decode cX12_removeRow 10 = .ok (.getfield 10, 3) := by decide +kernel
theorem dX12_removeRow_13 : decode cX12_removeRow 13 = .ok (.invokevirtual 275, 3) := by decide +kernel
theorem dX12_removeRow_16 : decode cX12_removeRow 16 = .ok (.aload_n 0, 1) := by decide +kernel
theorem dX12_removeRow_17 : decode cX12_removeRow 17 = .ok (.getfield 10, 3) := by decide +kernel
theorem dX12_removeRow_20 : decode cX12_removeRow 20 = .ok (.iload_n 1, 1) := by decide +kernel
theorem dX12_removeRow_21 : decode cX12_removeRow 21 = .ok (.invokevirtual 283, 3) := by decide +kernel
theorem dX12_removeRow_24 : decode cX12_removeRow 24 = .ok (.aload_n 0, 1) := by decide +kernel
theorem dX12_removeRow_25 : decode cX12_removeRow 25 = .ok (.getfield 10, 3) := by decide +kernel
theorem dX12_removeRow_28 : decode cX12_removeRow 28 = .ok (.invokevirtual 108, 3) := by decide +kernel
theorem dX12_removeRow_31 : decode cX12_removeRow 31 = .ok (.ireturn, 1) := by decide +kernel
theorem dX12_setValue_0 : decode cX12_setValue 0 = .ok (.aload_n 0, 1) := by decide +kernel
theorem dX12_setValue_1 : decode cX12_setValue 1 = .ok (.iload_n 1, 1) := by decide +kernel
theorem dX12_setValue_2 : decode cX12_setValue 2 = .ok (.invokevirtual 116, 3) := by decide +kernel
theorem dX12_setValue_5 : decode cX12_setValue 5 = .ok (.aload_n 0, 1) := by decide +kernel
theorem dX12_setValue_6 : decode cX12_setValue 6 = .ok (.iload_n 2, 1) := by decide +kernel
theorem dX12_setValue_7 : decode cX12_setValue 7 = .ok (.invokevirtual 119, 3) := by decide +kernel
theorem dX12_setValue_10 : decode cX12_setValue 10 = .ok (.aload_n 0, 1) := by decide +kernel
theorem dX12_setValue_11 : decode cX12_setValue 11 = .ok (.iload_n 3, 1) := by decide +kernel
theorem dX12_setValue_12 : decode cX12_setValue 12 = .ok (.invokevirtual 244, 3) := by decide +kernel
theorem dX12_setValue_15 : decode cX12_setValue 15 = .ok (.aload_n 0, 1) := by decide +kernel
theorem dX12_setValue_16 : decode cX12_setValue 16 = .ok (.getfield 10, 3) := by decide +kernel
theorem dX12_setValue_19 : decode cX12_setValue 19 = .ok (.iload_n 1, 1) := by decide +kernel
theorem dX12_setValue_20 : decode cX12_setValue 20 = .ok (.invokevirtual 122, 3) := by decide +kernel
theorem dX12_setValue_23 : decode cX12_setValue 23 = .ok (.iload_n 2, 1) := by decide +kernel
theorem dX12_setValue_24 : decode cX12_setValue 24 = .ok (.invokevirtual 126, 3) := by decide +kernel
theorem dX12_setValue_27 : decode cX12_setValue 27 = .ok (.istore 4, 2) := by decide +kernel
theorem dX12_setValue_29 : decode cX12_setValue 29 = .ok (.aload_n 0, 1) := by decide +kernel
theorem dX12_setValue_30 : decode cX12_setValue 30 = .ok (.getfield 22, 3) := by decide +kernel
theorem dX12_setValue_33 : decode cX12_setValue 33 = .ok (.aload_n 0, 1) := by decide +kernel
theorem dX12_setValue_34 : decode cX12_setValue 34 = .ok (.getfield 10, 3) := by decide +kernel
theorem dX12_setValue_37 : decode cX12_setValue 37 = .ok (.invokevirtual 275, 3) := by decide +kernel
theorem dX12_setValue_40 : decode cX12_setValue 40 = .ok (.aload_n 0, 1) := by decide +kernel
theorem dX12_setValue_41 : decode cX12_setValue 41 = .ok (.getfield 10, 3) := by decide +kernel
theorem dX12_setValue_44 : decode cX12_setValue 44 = .ok (.iload_n 1, 1) := by decide +kernel
theorem dX12_setValue_45 : decode cX12_setValue 45 = .ok (.invokevirtual 122, 3) := by decide +kernel
theorem dX12_setValue_48 : decode cX12_setValue 48 = .ok (.iload_n 2, 1) := by decide +kernel
theorem dX12_setValue_49 : decode cX12_setValue 49 = .ok (.iload_n 3, 1) := by decide +kernel
theorem dX12_setValue_50 : decode cX12_setValue 50 = .ok (.invokevirtual 286, 3) := by decide +kernel
theorem dX12_setValue_53 : decode cX12_setValue 53 = .ok (.iload 4, 2) := by decide +kernel
theorem dX12_setValue_55 : decode cX12_setValue 55 = .ok (.ireturn, 1) := by decide +kernel
theorem dX12_sort_0 : decode cX12_sort 0 = .ok (.aload_n 0, 1) := by decide +kernel
theorem dX12_sort_1 : decode cX12_sort 1 = .ok (.iload_n 1, 1) := by decide +kernel
theorem dX12_sort_2 : decode cX12_sort 2 = .ok (.invokevirtual 116, 3) := by decide +kernel
theorem dX12_sort_5 : decode cX12_sort 5 = .ok (.aload_n 0, 1) := by decide +kernel
theorem dX12_sort_6 : decode cX12_sort 6 = .ok (.getfield 22, 3) := by decide +kernel
theorem dX12_sort_9 : decode cX12_sort 9 = .ok (.aload_n 0, 1) := by decide +kernel
theorem dX12_sort_10 : decode cX12_sort 10 = .ok (.getfield 10, 3) := by decide +kernel
theorem dX12_sort_13 : decode cX12_sort 13 = .ok (.invokevirtual 275, 3) := by decide +kernel
theorem dX12_sort_16 : decode cX12_sort 16 = .ok (.aload_n 0, 1) := by decide +kernel
theorem dX12_sort_17 : decode cX12_sort 17 = .ok (.iload_n 1, 1) := by decide +kernel
theorem dX12_sort_18 : decode cX12_sort 18 = .ok (.iload_n 2, 1) := by decide +kernel
theorem dX12_sort_19 : decode cX12_sort 19 = .ok (.invokevirtual 289, 3) := by decide +kernel
theorem dX12_sort_22 : decode cX12_sort 22 = .ok (.aload_n 0, 1) := by decide +kernel
theorem dX12_sort_23 : decode cX12_sort 23 = .ok (.getfield 49, 3) := by decide +kernel
theorem dX12_sort_26 : decode cX12_sort 26 = .ok (.aload_n 0, 1) := by decide +kernel
theorem dX12_sort_27 : decode cX12_sort 27 = .ok (.getfield 10, 3) := by decide +kernel
theorem dX12_sort_30 : decode cX12_sort 30 = .ok (.invokevirtual 108, 3) := by decide +kernel
theorem dX12_sort_33 : decode cX12_sort 33 = .ok (.invokevirtual 184, 3) := by decide +kernel
theorem dX12_sort_36 : decode cX12_sort 36 = .ok (.aload_n 0, 1) := by decide +kernel
theorem dX12_sort_37 : decode cX12_sort 37 = .ok (.getfield 10, 3) := by decide +kernel
theorem dX12_sort_40 : decode cX12_sort 40 = .ok (.iload_n 1, 1) := by decide +kernel
theorem dX12_sort_41 : decode cX12_sort 41 = .ok (.invokevirtual 122, 3) := by decide +kernel
theorem dX12_sort_44 : decode cX12_sort 44 = .ok (.aload_n 0, 1) := by decide +kernel
theorem dX12_sort_45 : decode cX12_sort 45 = .ok (.getfield 49, 3) := by decide +kernel
theorem dX12_sort_48 : decode cX12_sort 48 = .ok (.invokevirtual 187, 3) := by decide +kernel
theorem dX12_sort_51 : decode cX12_sort 51 = .ok (.ireturn, 1) := by decide +kernel
theorem dX12_addLess_0 : decode cX12_addLess 0 = .ok (.aload_n 0, 1) := by decide +kernel
theorem dX12_addLess_1 : decode cX12_addLess 1 = .ok (.iload_n 1, 1) := by decide +kernel
theorem dX12_addLess_2 : decode cX12_addLess 2 = .ok (.iload_n 2, 1) := by decide +kernel
theorem dX12_addLess_3 : decode cX12_addLess 3 = .ok (.iconst (-1), 1) := by decide +kernel
theorem dX12_addLess_4 : decode cX12_addLess 4 = .ok (.invokevirtual 293, 3) := by decide +kernel
theorem dX12_addLess_7 : decode cX12_addLess 7 = .ok (.ireturn, 1) := by decide +kernel
theorem dX12_addEqual_0 : decode cX12_addEqual 0 = .ok (.aload_n 0, 1) := by decide +kernel
theorem dX12_addEqual_1 : decode cX12_addEqual 1 = .ok (.iload_n 1, 1) := by decide +kernel
theorem dX12_addEqual_2 : decode cX12_addEqual 2 = .ok (.iload_n 2, 1) := by decide +kernel
theorem dX12_addEqual_3 : decode cX12_addEqual 3 = .ok (.iconst 0, 1) := by decide +kernel
theorem dX12_addEqual_4 : decode cX12_addEqual 4 = .ok (.invokevirtual 293, 3) := by decide +kernel
theorem dX12_addEqual_7 : decode cX12_addEqual 7 = .ok (.ireturn, 1) := by decide +kernel
theorem dX12_addGreater_0 : decode cX12_addGreater 0 = .ok (.aload_n 0, 1) := by decide +kernel
theorem dX12_addGreater_1 : decode cX12_addGreater 1 = .ok (.iload_n 1, 1) := by decide +kernel
theorem dX12_addGreater_2 : decode cX12_addGreater 2 = .ok (.iload_n 2, 1) := by decide +kernel
theorem dX12_addGreater_3 : decode cX12_addGreater 3 = .ok (.iconst 1, 1) := by decide +kernel
theorem dX12_addGreater_4 : decode cX12_addGreater 4 = .ok (.invokevirtual 293, 3) := by decide +kernel
theorem dX12_addGreater_7 : decode cX12_addGreater 7 = .ok (.ireturn, 1) := by decide +kernel
theorem dX12_removeCondition_0 : decode cX12_removeCondition 0 = .ok (.aload_n 0, 1) := by decide +kernel
theorem dX12_removeCondition_1 : decode cX12_removeCondition 1 = .ok (.iload_n 1, 1) := by decide +kernel
theorem dX12_removeCondition_2 : decode cX12_removeCondition 2 = .ok (.invokevirtual 205, 3) := by decide +kernel
theorem dX12_removeCondition_5 : decode cX12_removeCondition 5 = .ok (.aload_n 0, 1) := by decide +kernel
theorem dX12_removeCondition_6 : decode cX12_removeCondition 6 = .ok (.getfield 22, 3) := by decide +kernel
theorem dX12_removeCondition_9 : decode cX12_removeCondition 9 = .ok (.aload_n 0, 1) := by decide +kernel
theorem dX12_removeCondition_10 : decode cX12_removeCondition 10 = .ok (.getfield 10, 3) := by decide +kernel
theorem dX12_removeCondition_13 : decode cX12_removeCondition 13 = .ok (.invokevirtual 275, 3) := by decide +kernel
theorem dX12_removeCondition_16 : decode cX12_removeCondition 16 = .ok (.aload_n 0, 1) := by decide +kernel
theorem dX12_removeCondition_17 : decode cX12_removeCondition 17 = .ok (.getfield 10, 3) := by decide +kernel
theorem dX12_removeCondition_20 : decode cX12_removeCondition 20 = .ok (.invokevirtual 198, 3) := by decide +kernel
theorem dX12_removeCondition_23 : decode cX12_removeCondition 23 = .ok (.iload_n 1, 1) := by decide +kernel
theorem dX12_removeCondition_24 : decode cX12_removeCondition 24 = .ok (.invokevirtual 297, 3) := by decide +kernel
theorem dX12_removeCondition_27 : decode cX12_removeCondition 27 = .ok (.aload_n 0, 1) := by decide +kernel
theorem dX12_removeCondition_28 : decode cX12_removeCondition 28 = .ok (.getfield 10, 3) := by decide +kernel
theorem dX12_removeCondition_31 : decode cX12_removeCondition 31 = .ok (.invokevirtual 229, 3) := by decide +kernel
theorem dX12_removeCondition_34 : decode cX12_removeCondition 34 = .ok (.ireturn, 1) := by decide +kernel
theorem dX12_deleteSelected_0 : decode cX12_deleteSelected 0 = .ok (.aload_n 0, 1) := by decide +kernel
theorem dX12_deleteSelected_1 : decode cX12_deleteSelected 1 = .ok (.getfield 22, 3) := by decide +kernel
theorem dX12_deleteSelected_4 : decode cX12_deleteSelected 4 = .ok (.aload_n 0, 1) := by decide +kernel
theorem dX12_deleteSelected_5 : decode cX12_deleteSelected 5 = .ok (.getfield 10, 3) := by decide +kernel
theorem dX12_deleteSelected_8 : decode cX12_deleteSelected 8 = .ok (.invokevirtual 275, 3) := by decide +kernel
theorem dX12_deleteSelected_11 : decode cX12_deleteSelected 11 = .ok (.aload_n 0, 1) := by decide +kernel
theorem dX12_deleteSelected_12 : decode cX12_deleteSelected 12 = .ok (.getfield 10, 3) := by decide +kernel
theorem dX12_deleteSelected_15 : decode cX12_deleteSelected 15 = .ok (.invokevirtual 300, 3) := by decide +kernel
theorem dX12_deleteSelected_18 : decode cX12_deleteSelected 18 = .ok (.ireturn, 1) := by decide +kernel
theorem dX12_compact_0 : decode cX12_compact 0 = .ok (.aload_n 0, 1) := by decide +kernel
theorem dX12_compact_1 : decode cX12_compact 1 = .ok (.iload_n 1, 1) := by decide +kernel
theorem dX12_compact_2 : decode cX12_compact 2 = .ok (.invokevirtual 116, 3) := by decide +kernel
theorem dX12_compact_5 : decode cX12_compact 5 = .ok (.aload_n 0, 1) := by decide +kernel
theorem dX12_compact_6 : decode cX12_compact 6 = .ok (.getfield 22, 3) := by decide +kernel
theorem dX12_compact_9 : decode cX12_compact 9 = .ok (.aload_n 0, 1) := by decide +kernel
theorem dX12_compact_10 : decode cX12_compact 10 = .ok (.getfield 10, 3) := by decide +kernel
theorem dX12_compact_13 : decode cX12_compact 13 = .ok (.invokevirtual 275, 3) := by decide +kernel
theorem dX12_compact_16 : decode cX12_compact 16 = .ok (.aload_n 0, 1) := by decide +kernel
theorem dX12_compact_17 : decode cX12_compact 17 = .ok (.getfield 10, 3) := by decide +kernel
theorem dX12_compact_20 : decode cX12_compact 20 = .ok (.iload_n 1, 1) := by decide +kernel
theorem dX12_compact_21 : decode cX12_compact 21 = .ok (.invokevirtual 135, 3) := by decide +kernel
theorem dX12_compact_24 : decode cX12_compact 24 = .ok (.invokevirtual 139, 3) := by decide +kernel
theorem dX12_compact_27 : decode cX12_compact 27 = .ok (.istore_n 2, 1) := by decide +kernel
theorem dX12_compact_28 : decode cX12_compact 28 = .ok (.aload_n 0, 1) := by decide +kernel
theorem dX12_compact_29 : decode cX12_compact 29 = .ok (.getfield 10, 3) := by decide +kernel
theorem dX12_compact_32 : decode cX12_compact 32 = .ok (.iload_n 1, 1) := by decide +kernel
theorem dX12_compact_33 : decode cX12_compact 33 = .ok (.invokevirtual 122, 3) := by decide +kernel
theorem dX12_compact_36 : decode cX12_compact 36 = .ok (.invokevirtual 303, 3) := by decide +kernel
theorem dX12_compact_39 : decode cX12_compact 39 = .ok (.iload_n 2, 1) := by decide +kernel
theorem dX12_compact_40 : decode cX12_compact 40 = .ok (.aload_n 0, 1) := by decide +kernel
theorem dX12_compact_41 : decode cX12_compact 41 = .ok (.getfield 10, 3) := by decide +kernel
theorem dX12_compact_44 : decode cX12_compact 44 = .ok (.iload_n 1, 1) := by decide +kernel
theorem dX12_compact_45 : decode cX12_compact 45 = .ok (.invokevirtual 135, 3) := by decide +kernel
theorem dX12_compact_48 : decode cX12_compact 48 = .ok (.invokevirtual 139, 3) := by decide +kernel
theorem dX12_compact_51 : decode cX12_compact 51 = .ok (.isub, 1) := by decide +kernel
theorem dX12_compact_52 : decode cX12_compact 52 = .ok (.ireturn, 1) := by decide +kernel
theorem dX12_undoableCount_0 : decode cX12_undoableCount 0 = .ok (.aload_n 0, 1) := by decide +kernel
theorem dX12_undoableCount_1 : decode cX12_undoableCount 1 = .ok (.getfield 22, 3) := by decide +kernel
theorem dX12_undoableCount_4 : decode cX12_undoableCount 4 = .ok (.invokevirtual 336, 3) := by decide +kernel
theorem dX12_undoableCount_7 : decode cX12_undoableCount 7 = .ok (.ireturn, 1) := by decide +kernel
theorem dX12_undo_0 : decode cX12_undo 0 = .ok (.aload_n 0, 1) := by decide +kernel
theorem dX12_undo_1 : decode cX12_undo 1 = .ok (.getfield 22, 3) := by decide +kernel
theorem dX12_undo_4 : decode cX12_undo 4 = .ok (.invokevirtual 336, 3) := by decide +kernel
theorem dX12_undo_7 : decode cX12_undo 7 = .ok (.ifCond .ne 14, 3) := by decide +kernel
theorem dX12_undo_10 : decode cX12_undo 10 = .ok (.new 266, 3) := by decide +kernel
theorem dX12_undo_13 : decode cX12_undo 13 = .ok (.dup, 1) := by decide +kernel
theorem dX12_undo_14 : decode cX12_undo 14 = .ok (.ldc_w 337, 3) := by decide +kernel
theorem dX12_undo_17 : decode cX12_undo 17 = .ok (.invokespecial 270, 3) := by decide +kernel
theorem dX12_undo_20 : decode cX12_undo 20 = .ok (.athrow, 1) := by decide +kernel
theorem dX12_undo_21 : decode cX12_undo 21 = .ok (.aload_n 0, 1) := by decide +kernel
theorem dX12_undo_22 : decode cX12_undo 22 = .ok (.getfield 22, 3) := by decide +kernel
theorem dX12_undo_25 : decode cX12_undo 25 = .ok (.aload_n 0, 1) := by decide +kernel
theorem dX12_undo_26 : decode cX12_undo 26 = .ok (.getfield 10, 3) := by decide +kernel
theorem dX12_undo_29 : decode cX12_undo 29 = .ok (.invokevirtual 339, 3) := by decide +kernel
theorem dX12_undo_32 : decode cX12_undo 32 = .ok (.aload_n 0, 1) := by decide +kernel
theorem dX12_undo_33 : decode cX12_undo 33 = .ok (.getfield 22, 3) := by decide +kernel
theorem dX12_undo_36 : decode cX12_undo 36 = .ok (.invokevirtual 336, 3) := by decide +kernel
theorem dX12_undo_39 : decode cX12_undo 39 = .ok (.ireturn, 1) := by decide +kernel
theorem dX12_saveSnapshot_0 : decode cX12_saveSnapshot 0 = .ok (.aload_n 0, 1) := by decide +kernel
theorem dX12_saveSnapshot_1 : decode cX12_saveSnapshot 1 = .ok (.getfield 16, 3) := by decide +kernel
theorem dX12_saveSnapshot_4 : decode cX12_saveSnapshot 4 = .ok (.aload_n 0, 1) := by decide +kernel
theorem dX12_saveSnapshot_5 : decode cX12_saveSnapshot 5 = .ok (.getfield 10, 3) := by decide +kernel
theorem dX12_saveSnapshot_8 : decode cX12_saveSnapshot 8 = .ok (.invokevirtual 342, 3) := by decide +kernel
theorem dX12_saveSnapshot_11 : decode cX12_saveSnapshot 11 = .ok (.aload_n 0, 1) := by decide +kernel
theorem dX12_saveSnapshot_12 : decode cX12_saveSnapshot 12 = .ok (.iconst 1, 1) := by decide +kernel
theorem dX12_saveSnapshot_13 : decode cX12_saveSnapshot 13 = .ok (.putfield 104, 3) := by decide +kernel
theorem dX12_saveSnapshot_16 : decode cX12_saveSnapshot 16 = .ok (.return_, 1) := by decide +kernel
theorem dX12_restoreSnapshot_0 : decode cX12_restoreSnapshot 0 = .ok (.aload_n 0, 1) := by decide +kernel
theorem dX12_restoreSnapshot_1 : decode cX12_restoreSnapshot 1 = .ok (.getfield 104, 3) := by decide +kernel
theorem dX12_restoreSnapshot_4 : decode cX12_restoreSnapshot 4 = .ok (.ifCond .ne 14, 3) := by decide +kernel
theorem dX12_restoreSnapshot_7 : decode cX12_restoreSnapshot 7 = .ok (.new 266, 3) := by decide +kernel
theorem dX12_restoreSnapshot_10 : decode cX12_restoreSnapshot 10 = .ok (.dup, 1) := by decide +kernel
theorem dX12_restoreSnapshot_11 : decode cX12_restoreSnapshot 11 = .ok (.ldc_w 345, 3) := by decide +kernel
theorem dX12_restoreSnapshot_14 : decode cX12_restoreSnapshot 14 = .ok (.invokespecial 270, 3) := by decide +kernel
theorem dX12_restoreSnapshot_17 : decode cX12_restoreSnapshot 17 = .ok (.athrow, 1) := by decide +kernel
theorem dX12_restoreSnapshot_18 : decode cX12_restoreSnapshot 18 = .ok (.aload_n 0, 1) := by decide +kernel
theorem dX12_restoreSnapshot_19 : decode cX12_restoreSnapshot 19 = .ok (.getfield 10, 3) := by decide +kernel
theorem dX12_restoreSnapshot_22 : decode cX12_restoreSnapshot 22 = .ok (.aload_n 0, 1) := by decide +kernel
theorem dX12_restoreSnapshot_23 : decode cX12_restoreSnapshot 23 = .ok (.getfield 16, 3) := by decide +kernel
theorem dX12_restoreSnapshot_26 : decode cX12_restoreSnapshot 26 = .ok (.invokevirtual 342, 3) := by decide +kernel
theorem dX12_restoreSnapshot_29 : decode cX12_restoreSnapshot 29 = .ok (.aload_n 0, 1) := by decide +kernel
theorem dX12_restoreSnapshot_30 : decode cX12_restoreSnapshot 30 = .ok (.getfield 22, 3) := by decide +kernel
theorem dX12_restoreSnapshot_33 : decode cX12_restoreSnapshot 33 = .ok (.invokevirtual 103, 3) := by decide +kernel
theorem dX12_restoreSnapshot_36 : decode cX12_restoreSnapshot 36 = .ok (.aload_n 0, 1) := by decide +kernel
theorem dX12_restoreSnapshot_37 : decode cX12_restoreSnapshot 37 = .ok (.getfield 10, 3) := by decide +kernel
theorem dX12_restoreSnapshot_40 : decode cX12_restoreSnapshot 40 = .ok (.invokevirtual 108, 3) := by decide +kernel
theorem dX12_restoreSnapshot_43 : decode cX12_restoreSnapshot 43 = .ok (.ireturn, 1) := by decide +kernel
theorem dX12_checkLength_0 : decode cX12_checkLength 0 = .ok (.iload_n 1, 1) := by decide +kernel
theorem dX12_checkLength_1 : decode cX12_checkLength 1 = .ok (.ifCond .lt 14, 3) := by decide +kernel
theorem dX12_checkLength_4 : decode cX12_checkLength 4 = .ok (.iload_n 1, 1) := by decide +kernel
theorem dX12_checkLength_5 : decode cX12_checkLength 5 = .ok (.aload_n 0, 1) := by decide +kernel
theorem dX12_checkLength_6 : decode cX12_checkLength 6 = .ok (.getfield 29, 3) := by decide +kernel
theorem dX12_checkLength_9 : decode cX12_checkLength 9 = .ok (.invokevirtual 75, 3) := by decide +kernel
theorem dX12_checkLength_12 : decode cX12_checkLength 12 = .ok (.if_icmp .le 14, 3) := by decide +kernel
theorem dX12_checkLength_15 : decode cX12_checkLength 15 = .ok (.new 347, 3) := by decide +kernel
theorem dX12_checkLength_18 : decode cX12_checkLength 18 = .ok (.dup, 1) := by decide +kernel
theorem dX12_checkLength_19 : decode cX12_checkLength 19 = .ok (.ldc_w 349, 3) := by decide +kernel
theorem dX12_checkLength_22 : decode cX12_checkLength 22 = .ok (.invokespecial 351, 3) := by decide +kernel
theorem dX12_checkLength_25 : decode cX12_checkLength 25 = .ok (.athrow, 1) := by decide +kernel
theorem dX12_checkLength_26 : decode cX12_checkLength 26 = .ok (.return_, 1) := by decide +kernel
theorem dX12_checkColumn_0 : decode cX12_checkColumn 0 = .ok (.iload_n 1, 1) := by decide +kernel
theorem dX12_checkColumn_1 : decode cX12_checkColumn 1 = .ok (.ifCond .lt 14, 3) := by decide +kernel
theorem dX12_checkColumn_4 : decode cX12_checkColumn 4 = .ok (.iload_n 1, 1) := by decide +kernel
theorem dX12_checkColumn_5 : decode cX12_checkColumn 5 = .ok (.aload_n 0, 1) := by decide +kernel
theorem dX12_checkColumn_6 : decode cX12_checkColumn 6 = .ok (.getfield 10, 3) := by decide +kernel
theorem dX12_checkColumn_9 : decode cX12_checkColumn 9 = .ok (.invokevirtual 115, 3) := by decide +kernel
theorem dX12_checkColumn_12 : decode cX12_checkColumn 12 = .ok (.if_icmp .lt 14, 3) := by decide +kernel
theorem dX12_checkColumn_15 : decode cX12_checkColumn 15 = .ok (.new 166, 3) := by decide +kernel
theorem dX12_checkColumn_18 : decode cX12_checkColumn 18 = .ok (.dup, 1) := by decide +kernel
theorem dX12_checkColumn_19 : decode cX12_checkColumn 19 = .ok (.ldc_w 352, 3) := by decide +kernel
theorem dX12_checkColumn_22 : decode cX12_checkColumn 22 = .ok (.invokespecial 170, 3) := by decide +kernel
theorem dX12_checkColumn_25 : decode cX12_checkColumn 25 = .ok (.athrow, 1) := by decide +kernel
theorem dX12_checkColumn_26 : decode cX12_checkColumn 26 = .ok (.return_, 1) := by decide +kernel
theorem dX12_checkRow_0 : decode cX12_checkRow 0 = .ok (.aload_n 0, 1) := by decide +kernel
theorem dX12_checkRow_1 : decode cX12_checkRow 1 = .ok (.getfield 10, 3) := by decide +kernel
theorem dX12_checkRow_4 : decode cX12_checkRow 4 = .ok (.iload_n 1, 1) := by decide +kernel
theorem dX12_checkRow_5 : decode cX12_checkRow 5 = .ok (.invokevirtual 354, 3) := by decide +kernel
theorem dX12_checkRow_8 : decode cX12_checkRow 8 = .ok (.ifCond .ne 14, 3) := by decide +kernel
theorem dX12_checkRow_11 : decode cX12_checkRow 11 = .ok (.new 166, 3) := by decide +kernel
theorem dX12_checkRow_14 : decode cX12_checkRow 14 = .ok (.dup, 1) := by decide +kernel
theorem dX12_checkRow_15 : decode cX12_checkRow 15 = .ok (.ldc_w 357, 3) := by decide +kernel
theorem dX12_checkRow_18 : decode cX12_checkRow 18 = .ok (.invokespecial 170, 3) := by decide +kernel
theorem dX12_checkRow_21 : decode cX12_checkRow 21 = .ok (.athrow, 1) := by decide +kernel
theorem dX12_checkRow_22 : decode cX12_checkRow 22 = .ok (.return_, 1) := by decide +kernel
theorem dX12_checkCode_0 : decode cX12_checkCode 0 = .ok (.iload_n 2, 1) := by decide +kernel
theorem dX12_checkCode_1 : decode cX12_checkCode 1 = .ok (.ifCond .lt 18, 3) := by decide +kernel
theorem dX12_checkCode_4 : decode cX12_checkCode 4 = .ok (.iload_n 2, 1) := by decide +kernel
theorem dX12_checkCode_5 : decode cX12_checkCode 5 = .ok (.aload_n 0, 1) := by decide +kernel
theorem dX12_checkCode_6 : decode cX12_checkCode 6 = .ok (.getfield 10, 3) := by decide +kernel
theorem dX12_checkCode_9 : decode cX12_checkCode 9 = .ok (.iload_n 1, 1) := by decide +kernel
theorem dX12_checkCode_10 : decode cX12_checkCode 10 = .ok (.invokevirtual 135, 3) := by decide +kernel
theorem dX12_checkCode_13 : decode cX12_checkCode 13 = .ok (.invokevirtual 139, 3) := by decide +kernel
theorem dX12_checkCode_16 : decode cX12_checkCode 16 = .ok (.if_icmp .lt 14, 3) := by decide +kernel
theorem dX12_checkCode_19 : decode cX12_checkCode 19 = .ok (.new 166, 3) := by decide +kernel
theorem dX12_checkCode_22 : decode cX12_checkCode 22 = .ok (.dup, 1) := by decide +kernel
theorem dX12_checkCode_23 : decode cX12_checkCode 23 = .ok (.ldc_w 359, 3) := by decide +kernel
theorem dX12_checkCode_26 : decode cX12_checkCode 26 = .ok (.invokespecial 170, 3) := by decide +kernel
theorem dX12_checkCode_29 : decode cX12_checkCode 29 = .ok (.athrow, 1) := by decide +kernel
theorem dX12_checkCode_30 : decode cX12_checkCode 30 = .ok (.return_, 1) := by decide +kernel
theorem dX12_checkCondition_0 : decode cX12_checkCondition 0 = .ok (.aload_n 0, 1) := by decide +kernel
theorem dX12_checkCondition_1 : decode cX12_checkCondition 1 = .ok (.getfield 10, 3) := by decide +kernel
theorem dX12_checkCondition_4 : decode cX12_checkCondition 4 = .ok (.invokevirtual 198, 3) := by decide +kernel
theorem dX12_checkCondition_7 : decode cX12_checkCondition 7 = .ok (.iload_n 1, 1) := by decide +kernel
theorem dX12_checkCondition_8 : decode cX12_checkCondition 8 = .ok (.invokevirtual 361, 3) := by decide +kernel
theorem dX12_checkCondition_11 : decode cX12_checkCondition 11 = .ok (.ifCond .ne 14, 3) := by decide +kernel
theorem dX12_checkCondition_14 : decode cX12_checkCondition 14 = .ok (.new 166, 3) := by decide +kernel
theorem dX12_checkCondition_17 : decode cX12_checkCondition 17 = .ok (.dup, 1) := by decide +kernel
theorem dX12_checkCondition_18 : decode cX12_checkCondition 18 = .ok (.ldc_w 364, 3) := by decide +kernel
theorem dX12_checkCondition_21 : decode cX12_checkCondition 21 = .ok (.invokespecial 170, 3) := by decide +kernel
theorem dX12_checkCondition_24 : decode cX12_checkCondition 24 = .ok (.athrow, 1) := by decide +kernel
theorem dX12_checkCondition_25 : decode cX12_checkCondition 25 = .ok (.return_, 1) := by decide +kernel
theorem dX12_checkValue_0 : decode cX12_checkValue 0 = .ok (.iload_n 1, 1) := by decide +kernel
theorem dX12_checkValue_1 : decode cX12_checkValue 1 = .ok (.sipush (-9999), 3) := by decide +kernel
theorem dX12_checkValue_4 : decode cX12_checkValue 4 = .ok (.if_icmp .lt 10, 3) := by decide +kernel
theorem dX12_checkValue_7 : decode cX12_checkValue 7 = .ok (.iload_n 1, 1) := by decide +kernel
theorem dX12_checkValue_8 : decode cX12_checkValue 8 = .ok (.sipush 9999, 3) := by decide +kernel
theorem dX12_checkValue_11 : decode cX12_checkValue 11 = .ok (.if_icmp .le 14, 3) := by decide +kernel
theorem dX12_checkValue_14 : decode cX12_checkValue 14 = .ok (.new 347, 3) := by decide +kernel
theorem dX12_checkValue_17 : decode cX12_checkValue 17 = .ok (.dup, 1) := by decide +kernel
theorem dX12_checkValue_18 : decode cX12_checkValue 18 = .ok (.ldc_w 366, 3) := by decide +kernel
theorem dX12_checkValue_21 : decode cX12_checkValue 21 = .ok (.invokespecial 351, 3) := by decide +kernel
theorem dX12_checkValue_24 : decode cX12_checkValue 24 = .ok (.athrow, 1) := by decide +kernel
theorem dX12_checkValue_25 : decode cX12_checkValue 25 = .ok (.return_, 1) := by decide +kernel
theorem dX12_checkAnySeen_0 : decode cX12_checkAnySeen 0 = .ok (.aload_n 0, 1) := by decide +kernel
theorem dX12_checkAnySeen_1 : decode cX12_checkAnySeen 1 = .ok (.getfield 56, 3) := by decide +kernel
theorem dX12_checkAnySeen_4 : decode cX12_checkAnySeen 4 = .ok (.invokevirtual 139, 3) := by decide +kernel
theorem dX12_checkAnySeen_7 : decode cX12_checkAnySeen 7 = .ok (.ifCond .ne 14, 3) := by decide +kernel
theorem dX12_checkAnySeen_10 : decode cX12_checkAnySeen 10 = .ok (.new 266, 3) := by decide +kernel
theorem dX12_checkAnySeen_13 : decode cX12_checkAnySeen 13 = .ok (.dup, 1) := by decide +kernel
theorem dX12_checkAnySeen_14 : decode cX12_checkAnySeen 14 = .ok (.ldc_w 368, 3) := by decide +kernel
theorem dX12_checkAnySeen_17 : decode cX12_checkAnySeen 17 = .ok (.invokespecial 270, 3) := by decide +kernel
theorem dX12_checkAnySeen_20 : decode cX12_checkAnySeen 20 = .ok (.athrow, 1) := by decide +kernel
theorem dX12_checkAnySeen_21 : decode cX12_checkAnySeen 21 = .ok (.return_, 1) := by decide +kernel
theorem dX12_wordsOf_0 : decode cX12_wordsOf 0 = .ok (.aload_n 0, 1) := by decide +kernel
theorem dX12_wordsOf_1 : decode cX12_wordsOf 1 = .ok (.getfield 10, 3) := by decide +kernel
theorem dX12_wordsOf_4 : decode cX12_wordsOf 4 = .ok (.invokevirtual 108, 3) := by decide +kernel
theorem dX12_wordsOf_7 : decode cX12_wordsOf 7 = .ok (.aload_n 0, 1) := by decide +kernel
theorem dX12_wordsOf_8 : decode cX12_wordsOf 8 = .ok (.getfield 10, 3) := by decide +kernel
theorem dX12_wordsOf_11 : decode cX12_wordsOf 11 = .ok (.iload_n 1, 1) := by decide +kernel
theorem dX12_wordsOf_12 : decode cX12_wordsOf 12 = .ok (.invokevirtual 135, 3) := by decide +kernel
theorem dX12_wordsOf_15 : decode cX12_wordsOf 15 = .ok (.invokevirtual 160, 3) := by decide +kernel
theorem dX12_wordsOf_18 : decode cX12_wordsOf 18 = .ok (.imul, 1) := by decide +kernel
theorem dX12_wordsOf_19 : decode cX12_wordsOf 19 = .ok (.bipush 64, 2) := by decide +kernel
theorem dX12_wordsOf_21 : decode cX12_wordsOf 21 = .ok (.iadd, 1) := by decide +kernel
theorem dX12_wordsOf_22 : decode cX12_wordsOf 22 = .ok (.iconst 1, 1) := by decide +kernel
theorem dX12_wordsOf_23 : decode cX12_wordsOf 23 = .ok (.isub, 1) := by decide +kernel
theorem dX12_wordsOf_24 : decode cX12_wordsOf 24 = .ok (.bipush 64, 2) := by decide +kernel
theorem dX12_wordsOf_26 : decode cX12_wordsOf 26 = .ok (.idiv, 1) := by decide +kernel
theorem dX12_wordsOf_27 : decode cX12_wordsOf 27 = .ok (.ireturn, 1) := by decide +kernel
theorem dX12_sumOfSelected_0 : decode cX12_sumOfSelected 0 = .ok (.lconst 0, 1) := by decide +kernel
theorem dX12_sumOfSelected_1 : decode cX12_sumOfSelected 1 = .ok (.lstore_n 2, 1) := by decide +kernel
theorem dX12_sumOfSelected_2 : decode cX12_sumOfSelected 2 = .ok (.iconst 0, 1) := by decide +kernel
theorem dX12_sumOfSelected_3 : decode cX12_sumOfSelected 3 = .ok (.istore 4, 2) := by decide +kernel
theorem dX12_sumOfSelected_5 : decode cX12_sumOfSelected 5 = .ok (.iload 4, 2) := by decide +kernel
theorem dX12_sumOfSelected_7 : decode cX12_sumOfSelected 7 = .ok (.aload_n 0, 1) := by decide +kernel
theorem dX12_sumOfSelected_8 : decode cX12_sumOfSelected 8 = .ok (.getfield 10, 3) := by decide +kernel
theorem dX12_sumOfSelected_11 : decode cX12_sumOfSelected 11 = .ok (.invokevirtual 108, 3) := by decide +kernel
theorem dX12_sumOfSelected_14 : decode cX12_sumOfSelected 14 = .ok (.if_icmp .ge 38, 3) := by decide +kernel
theorem dX12_sumOfSelected_17 : decode cX12_sumOfSelected 17 = .ok (.aload_n 0, 1) := by decide +kernel
theorem dX12_sumOfSelected_18 : decode cX12_sumOfSelected 18 = .ok (.getfield 10, 3) := by decide +kernel
theorem dX12_sumOfSelected_21 : decode cX12_sumOfSelected 21 = .ok (.iload 4, 2) := by decide +kernel
theorem dX12_sumOfSelected_23 : decode cX12_sumOfSelected 23 = .ok (.invokevirtual 226, 3) := by decide +kernel
theorem dX12_sumOfSelected_26 : decode cX12_sumOfSelected 26 = .ok (.ifCond .eq 20, 3) := by decide +kernel
theorem dX12_sumOfSelected_29 : decode cX12_sumOfSelected 29 = .ok (.lload_n 2, 1) := by decide +kernel
theorem dX12_sumOfSelected_30 : decode cX12_sumOfSelected 30 = .ok (.aload_n 0, 1) := by decide +kernel
theorem dX12_sumOfSelected_31 : decode cX12_sumOfSelected 31 = .ok (.getfield 10, 3) := by decide +kernel
theorem dX12_sumOfSelected_34 : decode cX12_sumOfSelected 34 = .ok (.iload_n 1, 1) := by decide +kernel
theorem dX12_sumOfSelected_35 : decode cX12_sumOfSelected 35 = .ok (.invokevirtual 122, 3) := by decide +kernel
theorem dX12_sumOfSelected_38 : decode cX12_sumOfSelected 38 = .ok (.iload 4, 2) := by decide +kernel
theorem dX12_sumOfSelected_40 : decode cX12_sumOfSelected 40 = .ok (.invokevirtual 126, 3) := by decide +kernel
theorem dX12_sumOfSelected_43 : decode cX12_sumOfSelected 43 = .ok (.i2l, 1) := by decide +kernel
theorem dX12_sumOfSelected_44 : decode cX12_sumOfSelected 44 = .ok (.ladd, 1) := by decide +kernel
theorem dX12_sumOfSelected_45 : decode cX12_sumOfSelected 45 = .ok (.lstore_n 2, 1) := by decide +kernel
theorem dX12_sumOfSelected_46 : decode cX12_sumOfSelected 46 = .ok (.iinc 4 1, 3) := by decide +kernel
theorem dX12_sumOfSelected_49 : decode cX12_sumOfSelected 49 = .ok (.goto (-44), 3) := by decide +kernel
theorem dX12_sumOfSelected_52 : decode cX12_sumOfSelected 52 = .ok (.lload_n 2, 1) := by decide +kernel
theorem dX12_sumOfSelected_53 : decode cX12_sumOfSelected 53 = .ok (.lreturn, 1) := by decide +kernel
theorem dX12_collectSelected_0 : decode cX12_collectSelected 0 = .ok (.aload_n 0, 1) := by decide +kernel
theorem dX12_collectSelected_1 : decode cX12_collectSelected 1 = .ok (.getfield 56, 3) := by decide +kernel
theorem dX12_collectSelected_4 : decode cX12_collectSelected 4 = .ok (.invokevirtual 370, 3) := by decide +kernel
theorem dX12_collectSelected_7 : decode cX12_collectSelected 7 = .ok (.iconst 0, 1) := by decide +kernel
theorem dX12_collectSelected_8 : decode cX12_collectSelected 8 = .ok (.istore_n 2, 1) := by decide +kernel
theorem dX12_collectSelected_9 : decode cX12_collectSelected 9 = .ok (.iload_n 2, 1) := by decide +kernel
theorem dX12_collectSelected_10 : decode cX12_collectSelected 10 = .ok (.aload_n 0, 1) := by decide +kernel
theorem dX12_collectSelected_11 : decode cX12_collectSelected 11 = .ok (.getfield 10, 3) := by decide +kernel
theorem dX12_collectSelected_14 : decode cX12_collectSelected 14 = .ok (.invokevirtual 108, 3) := by decide +kernel
theorem dX12_collectSelected_17 : decode cX12_collectSelected 17 = .ok (.if_icmp .ge 39, 3) := by decide +kernel
theorem dX12_collectSelected_20 : decode cX12_collectSelected 20 = .ok (.aload_n 0, 1) := by decide +kernel
theorem dX12_collectSelected_21 : decode cX12_collectSelected 21 = .ok (.getfield 10, 3) := by decide +kernel
theorem dX12_collectSelected_24 : decode cX12_collectSelected 24 = .ok (.iload_n 2, 1) := by decide +kernel
theorem dX12_collectSelected_25 : decode cX12_collectSelected 25 = .ok (.invokevirtual 226, 3) := by decide +kernel
theorem dX12_collectSelected_28 : decode cX12_collectSelected 28 = .ok (.ifCond .eq 22, 3) := by decide +kernel
theorem dX12_collectSelected_31 : decode cX12_collectSelected 31 = .ok (.aload_n 0, 1) := by decide +kernel
theorem dX12_collectSelected_32 : decode cX12_collectSelected 32 = .ok (.getfield 56, 3) := by decide +kernel
theorem dX12_collectSelected_35 : decode cX12_collectSelected 35 = .ok (.aload_n 0, 1) := by decide +kernel
theorem dX12_collectSelected_36 : decode cX12_collectSelected 36 = .ok (.getfield 10, 3) := by decide +kernel
theorem dX12_collectSelected_39 : decode cX12_collectSelected 39 = .ok (.iload_n 1, 1) := by decide +kernel
theorem dX12_collectSelected_40 : decode cX12_collectSelected 40 = .ok (.invokevirtual 122, 3) := by decide +kernel
theorem dX12_collectSelected_43 : decode cX12_collectSelected 43 = .ok (.iload_n 2, 1) := by decide +kernel
