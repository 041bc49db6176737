/-! decode rows -/
theorem dX1_init_0 : decode cX1_init 0 = .ok (.aload_n 0, 1) := by decide +kernel
theorem dX1_init_1 : decode cX1_init 1 = .ok (.invokespecial 3, 3) := by decide +kernel
theorem dX1_init_4 : decode cX1_init 4 = .ok (.aload_n 0, 1) := by decide +kernel
theorem dX1_init_5 : decode cX1_init 5 = .ok (.bipush 60, 2) := by decide +kernel
theorem dX1_init_7 : decode cX1_init 7 = .ok (.newarray .int, 2) := by decide +kernel
theorem dX1_init_9 : decode cX1_init 9 = .ok (.putfield 9, 3) := by decide +kernel
theorem dX1_init_12 : decode cX1_init 12 = .ok (.aload_n 0, 1) := by decide +kernel
theorem dX1_init_13 : decode cX1_init 13 = .ok (.new 15, 3) := by decide +kernel
theorem dX1_init_16 : decode cX1_init 16 = .ok (.dup, 1) := by decide +kernel
theorem dX1_init_17 : decode cX1_init 17 = .ok (.invokespecial 17, 3) := by decide +kernel
theorem dX1_init_20 : decode cX1_init 20 = .ok (.putfield 18, 3) := by decide +kernel
theorem dX1_init_23 : decode cX1_init 23 = .ok (.return_, 1) := by decide +kernel
theorem dX1_length_0 : decode cX1_length 0 = .ok (.aload_n 0, 1) := by decide +kernel
theorem dX1_length_1 : decode cX1_length 1 = .ok (.getfield 22, 3) := by decide +kernel
theorem dX1_length_4 : decode cX1_length 4 = .ok (.ireturn, 1) := by decide +kernel
theorem dX1_dictionary_0 : decode cX1_dictionary 0 = .ok (.aload_n 0, 1) := by decide +kernel
theorem dX1_dictionary_1 : decode cX1_dictionary 1 = .ok (.getfield 18, 3) := by decide +kernel
theorem dX1_dictionary_4 : decode cX1_dictionary 4 = .ok (.areturn, 1) := by decide +kernel
theorem dX1_valueAt_0 : decode cX1_valueAt 0 = .ok (.aload_n 0, 1) := by decide +kernel
theorem dX1_valueAt_1 : decode cX1_valueAt 1 = .ok (.getfield 9, 3) := by decide +kernel
theorem dX1_valueAt_4 : decode cX1_valueAt 4 = .ok (.iload_n 1, 1) := by decide +kernel
theorem dX1_valueAt_5 : decode cX1_valueAt 5 = .ok (.iaload, 1) := by decide +kernel
theorem dX1_valueAt_6 : decode cX1_valueAt 6 = .ok (.ireturn, 1) := by decide +kernel
theorem dX1_codeAt_0 : decode cX1_codeAt 0 = .ok (.aload_n 0, 1) := by decide +kernel
theorem dX1_codeAt_1 : decode cX1_codeAt 1 = .ok (.getfield 18, 3) := by decide +kernel
theorem dX1_codeAt_4 : decode cX1_codeAt 4 = .ok (.aload_n 0, 1) := by decide +kernel
theorem dX1_codeAt_5 : decode cX1_codeAt 5 = .ok (.getfield 9, 3) := by decide +kernel
theorem dX1_codeAt_8 : decode cX1_codeAt 8 = .ok (.iload_n 1, 1) := by decide +kernel
theorem dX1_codeAt_9 : decode cX1_codeAt 9 = .ok (.iaload, 1) := by decide +kernel
theorem dX1_codeAt_10 : decode cX1_codeAt 10 = .ok (.invokevirtual 26, 3) := by decide +kernel
theorem dX1_codeAt_13 : decode cX1_codeAt 13 = .ok (.ireturn, 1) := by decide +kernel
theorem dX1_clear_0 : decode cX1_clear 0 = .ok (.aload_n 0, 1) := by decide +kernel
theorem dX1_clear_1 : decode cX1_clear 1 = .ok (.iconst 0, 1) := by decide +kernel
theorem dX1_clear_2 : decode cX1_clear 2 = .ok (.putfield 22, 3) := by decide +kernel
theorem dX1_clear_5 : decode cX1_clear 5 = .ok (.aload_n 0, 1) := by decide +kernel
theorem dX1_clear_6 : decode cX1_clear 6 = .ok (.getfield 18, 3) := by decide +kernel
theorem dX1_clear_9 : decode cX1_clear 9 = .ok (.invokevirtual 30, 3) := by decide +kernel
theorem dX1_clear_12 : decode cX1_clear 12 = .ok (.return_, 1) := by decide +kernel
theorem dX1_append_0 : decode cX1_append 0 = .ok (.aload_n 0, 1) := by decide +kernel
theorem dX1_append_1 : decode cX1_append 1 = .ok (.getfield 22, 3) := by decide +kernel
theorem dX1_append_4 : decode cX1_append 4 = .ok (.bipush 60, 2) := by decide +kernel
theorem dX1_append_6 : decode cX1_append 6 = .ok (.if_icmp .ge 31, 3) := by decide +kernel
theorem dX1_append_9 : decode cX1_append 9 = .ok (.aload_n 0, 1) := by decide +kernel
theorem dX1_append_10 : decode cX1_append 10 = .ok (.getfield 9, 3) := by decide +kernel
theorem dX1_append_13 : decode cX1_append 13 = .ok (.aload_n 0, 1) := by decide +kernel
theorem dX1_append_14 : decode cX1_append 14 = .ok (.getfield 22, 3) := by decide +kernel
theorem dX1_append_17 : decode cX1_append 17 = .ok (.iload_n 1, 1) := by decide +kernel
theorem dX1_append_18 : decode cX1_append 18 = .ok (.iastore, 1) := by decide +kernel
theorem dX1_append_19 : decode cX1_append 19 = .ok (.aload_n 0, 1) := by decide +kernel
theorem dX1_append_20 : decode cX1_append 20 = .ok (.dup, 1) := by decide +kernel
theorem dX1_append_21 : decode cX1_append 21 = .ok (.getfield 22, 3) := by decide +kernel
theorem dX1_append_24 : decode cX1_append 24 = .ok (.iconst 1, 1) := by decide +kernel
theorem dX1_append_25 : decode cX1_append 25 = .ok (.iadd, 1) := by decide +kernel
theorem dX1_append_26 : decode cX1_append 26 = .ok (.putfield 22, 3) := by decide +kernel
theorem dX1_append_29 : decode cX1_append 29 = .ok (.aload_n 0, 1) := by decide +kernel
theorem dX1_append_30 : decode cX1_append 30 = .ok (.getfield 18, 3) := by decide +kernel
theorem dX1_append_33 : decode cX1_append 33 = .ok (.iload_n 1, 1) := by decide +kernel
theorem dX1_append_34 : decode cX1_append 34 = .ok (.invokevirtual 33, 3) := by decide +kernel
theorem dX1_append_37 : decode cX1_append 37 = .ok (.return_, 1) := by decide +kernel
theorem dX1_put_0 : decode cX1_put 0 = .ok (.aload_n 0, 1) := by decide +kernel
theorem dX1_put_1 : decode cX1_put 1 = .ok (.getfield 9, 3) := by decide +kernel
theorem dX1_put_4 : decode cX1_put 4 = .ok (.iload_n 1, 1) := by decide +kernel
theorem dX1_put_5 : decode cX1_put 5 = .ok (.iload_n 2, 1) := by decide +kernel
theorem dX1_put_6 : decode cX1_put 6 = .ok (.iastore, 1) := by decide +kernel
theorem dX1_put_7 : decode cX1_put 7 = .ok (.aload_n 0, 1) := by decide +kernel
theorem dX1_put_8 : decode cX1_put 8 = .ok (.getfield 18, 3) := by decide +kernel
theorem dX1_put_11 : decode cX1_put 11 = .ok (.iload_n 2, 1) := by decide +kernel
theorem dX1_put_12 : decode cX1_put 12 = .ok (.invokevirtual 33, 3) := by decide +kernel
theorem dX1_put_15 : decode cX1_put 15 = .ok (.return_, 1) := by decide +kernel
theorem dX1_move_0 : decode cX1_move 0 = .ok (.aload_n 0, 1) := by decide +kernel
theorem dX1_move_1 : decode cX1_move 1 = .ok (.getfield 9, 3) := by decide +kernel
theorem dX1_move_4 : decode cX1_move 4 = .ok (.iload_n 2, 1) := by decide +kernel
theorem dX1_move_5 : decode cX1_move 5 = .ok (.aload_n 0, 1) := by decide +kernel
theorem dX1_move_6 : decode cX1_move 6 = .ok (.getfield 9, 3) := by decide +kernel
theorem dX1_move_9 : decode cX1_move 9 = .ok (.iload_n 1, 1) := by decide +kernel
theorem dX1_move_10 : decode cX1_move 10 = .ok (.iaload, 1) := by decide +kernel
theorem dX1_move_11 : decode cX1_move 11 = .ok (.iastore, 1) := by decide +kernel
theorem dX1_move_12 : decode cX1_move 12 = .ok (.return_, 1) := by decide +kernel
theorem dX1_shorten_0 : decode cX1_shorten 0 = .ok (.aload_n 0, 1) := by decide +kernel
theorem dX1_shorten_1 : decode cX1_shorten 1 = .ok (.iload_n 1, 1) := by decide +kernel
theorem dX1_shorten_2 : decode cX1_shorten 2 = .ok (.putfield 22, 3) := by decide +kernel
theorem dX1_shorten_5 : decode cX1_shorten 5 = .ok (.return_, 1) := by decide +kernel
theorem dX1_reorder_0 : decode cX1_reorder 0 = .ok (.aload_n 1, 1) := by decide +kernel
theorem dX1_reorder_1 : decode cX1_reorder 1 = .ok (.aload_n 0, 1) := by decide +kernel
theorem dX1_reorder_2 : decode cX1_reorder 2 = .ok (.getfield 9, 3) := by decide +kernel
theorem dX1_reorder_5 : decode cX1_reorder 5 = .ok (.invokevirtual 37, 3) := by decide +kernel
theorem dX1_reorder_8 : decode cX1_reorder 8 = .ok (.return_, 1) := by decide +kernel
theorem dX1_collectInto_0 : decode cX1_collectInto 0 = .ok (.aload_n 1, 1) := by decide +kernel
theorem dX1_collectInto_1 : decode cX1_collectInto 1 = .ok (.invokevirtual 30, 3) := by decide +kernel
theorem dX1_collectInto_4 : decode cX1_collectInto 4 = .ok (.iconst 0, 1) := by decide +kernel
theorem dX1_collectInto_5 : decode cX1_collectInto 5 = .ok (.istore_n 2, 1) := by decide +kernel
theorem dX1_collectInto_6 : decode cX1_collectInto 6 = .ok (.iload_n 2, 1) := by decide +kernel
theorem dX1_collectInto_7 : decode cX1_collectInto 7 = .ok (.aload_n 0, 1) := by decide +kernel
theorem dX1_collectInto_8 : decode cX1_collectInto 8 = .ok (.getfield 22, 3) := by decide +kernel
theorem dX1_collectInto_11 : decode cX1_collectInto 11 = .ok (.if_icmp .ge 19, 3) := by decide +kernel
theorem dX1_collectInto_14 : decode cX1_collectInto 14 = .ok (.aload_n 1, 1) := by decide +kernel
theorem dX1_collectInto_15 : decode cX1_collectInto 15 = .ok (.aload_n 0, 1) := by decide +kernel
theorem dX1_collectInto_16 : decode cX1_collectInto 16 = .ok (.getfield 9, 3) := by decide +kernel
theorem dX1_collectInto_19 : decode cX1_collectInto 19 = .ok (.iload_n 2, 1) := by decide +kernel
theorem dX1_collectInto_20 : decode cX1_collectInto 20 = .ok (.iaload, 1) := by decide +kernel
theorem dX1_collectInto_21 : decode cX1_collectInto 21 = .ok (.invokevirtual 33, 3) := by decide +kernel
theorem dX1_collectInto_24 : decode cX1_collectInto 24 = .ok (.iinc 2 1, 3) := by decide +kernel
theorem dX1_collectInto_27 : decode cX1_collectInto 27 = .ok (.goto (-21), 3) := by decide +kernel
theorem dX1_collectInto_30 : decode cX1_collectInto 30 = .ok (.return_, 1) := by decide +kernel
theorem dX1_dropStale_0 : decode cX1_dropStale 0 = .ok (.aload_n 0, 1) := by decide +kernel
theorem dX1_dropStale_1 : decode cX1_dropStale 1 = .ok (.aload_n 0, 1) := by decide +kernel
theorem dX1_dropStale_2 : decode cX1_dropStale 2 = .ok (.getfield 18, 3) := by decide +kernel
theorem dX1_dropStale_5 : decode cX1_dropStale 5 = .ok (.invokevirtual 43, 3) := by decide +kernel
theorem dX1_dropStale_8 : decode cX1_dropStale 8 = .ok (.return_, 1) := by decide +kernel
theorem dX1_occurrences_0 : decode cX1_occurrences 0 = .ok (.iconst 0, 1) := by decide +kernel
theorem dX1_occurrences_1 : decode cX1_occurrences 1 = .ok (.istore_n 2, 1) := by decide +kernel
theorem dX1_occurrences_2 : decode cX1_occurrences 2 = .ok (.iconst 0, 1) := by decide +kernel
theorem dX1_occurrences_3 : decode cX1_occurrences 3 = .ok (.istore_n 3, 1) := by decide +kernel
theorem dX1_occurrences_4 : decode cX1_occurrences 4 = .ok (.iload_n 3, 1) := by decide +kernel
theorem dX1_occurrences_5 : decode cX1_occurrences 5 = .ok (.aload_n 0, 1) := by decide +kernel
theorem dX1_occurrences_6 : decode cX1_occurrences 6 = .ok (.getfield 22, 3) := by decide +kernel
theorem dX1_occurrences_9 : decode cX1_occurrences 9 = .ok (.if_icmp .ge 22, 3) := by decide +kernel
theorem dX1_occurrences_12 : decode cX1_occurrences 12 = .ok (.aload_n 0, 1) := by decide +kernel
theorem dX1_occurrences_13 : decode cX1_occurrences 13 = .ok (.getfield 9, 3) := by decide +kernel
theorem dX1_occurrences_16 : decode cX1_occurrences 16 = .ok (.iload_n 3, 1) := by decide +kernel
theorem dX1_occurrences_17 : decode cX1_occurrences 17 = .ok (.iaload, 1) := by decide +kernel
theorem dX1_occurrences_18 : decode cX1_occurrences 18 = .ok (.iload_n 1, 1) := by decide +kernel
theorem dX1_occurrences_19 : decode cX1_occurrences 19 = .ok (.if_icmp .ne 6, 3) := by decide +kernel
theorem dX1_occurrences_22 : decode cX1_occurrences 22 = .ok (.iinc 2 1, 3) := by decide +kernel
theorem dX1_occurrences_25 : decode cX1_occurrences 25 = .ok (.iinc 3 1, 3) := by decide +kernel
theorem dX1_occurrences_28 : decode cX1_occurrences 28 = .ok (.goto (-24), 3) := by decide +kernel
theorem dX1_occurrences_31 : decode cX1_occurrences 31 = .ok (.iload_n 2, 1) := by decide +kernel
theorem dX1_occurrences_32 : decode cX1_occurrences 32 = .ok (.ireturn, 1) := by decide +kernel
theorem dX1_commonest_0 : decode cX1_commonest 0 = .ok (.iconst 0, 1) := by decide +kernel
theorem dX1_commonest_1 : decode cX1_commonest 1 = .ok (.istore_n 1, 1) := by decide +kernel
theorem dX1_commonest_2 : decode cX1_commonest 2 = .ok (.iconst 0, 1) := by decide +kernel
theorem dX1_commonest_3 : decode cX1_commonest 3 = .ok (.istore_n 2, 1) := by decide +kernel
theorem dX1_commonest_4 : decode cX1_commonest 4 = .ok (.iconst 0, 1) := by decide +kernel
theorem dX1_commonest_5 : decode cX1_commonest 5 = .ok (.istore_n 3, 1) := by decide +kernel
theorem dX1_commonest_6 : decode cX1_commonest 6 = .ok (.iload_n 3, 1) := by decide +kernel
theorem dX1_commonest_7 : decode cX1_commonest 7 = .ok (.aload_n 0, 1) := by decide +kernel
theorem dX1_commonest_8 : decode cX1_commonest 8 = .ok (.getfield 22, 3) := by decide +kernel
theorem dX1_commonest_11 : decode cX1_commonest 11 = .ok (.if_icmp .ge 53, 3) := by decide +kernel
theorem dX1_commonest_14 : decode cX1_commonest 14 = .ok (.aload_n 0, 1) := by decide +kernel
theorem dX1_commonest_15 : decode cX1_commonest 15 = .ok (.aload_n 0, 1) := by decide +kernel
theorem dX1_commonest_16 : decode cX1_commonest 16 = .ok (.getfield 9, 3) := by decide +kernel
theorem dX1_commonest_19 : decode cX1_commonest 19 = .ok (.iload_n 3, 1) := by decide +kernel
theorem dX1_commonest_20 : decode cX1_commonest 20 = .ok (.iaload, 1) := by decide +kernel
theorem dX1_commonest_21 : decode cX1_commonest 21 = .ok (.invokevirtual 47, 3) := by decide +kernel
theorem dX1_commonest_24 : decode cX1_commonest 24 = .ok (.istore 4, 2) := by decide +kernel
theorem dX1_commonest_26 : decode cX1_commonest 26 = .ok (.iload 4, 2) := by decide +kernel
theorem dX1_commonest_28 : decode cX1_commonest 28 = .ok (.iload_n 1, 1) := by decide +kernel
theorem dX1_commonest_29 : decode cX1_commonest 29 = .ok (.if_icmp .gt 19, 3) := by decide +kernel
theorem dX1_commonest_32 : decode cX1_commonest 32 = .ok (.iload 4, 2) := by decide +kernel
theorem dX1_commonest_34 : decode cX1_commonest 34 = .ok (.iload_n 1, 1) := by decide +kernel
theorem dX1_commonest_35 : decode cX1_commonest 35 = .ok (.if_icmp .ne 23, 3) := by decide +kernel
theorem dX1_commonest_38 : decode cX1_commonest 38 = .ok (.aload_n 0, 1) := by decide +kernel
theorem dX1_commonest_39 : decode cX1_commonest 39 = .ok (.getfield 9, 3) := by decide +kernel
theorem dX1_commonest_42 : decode cX1_commonest 42 = .ok (.iload_n 3, 1) := by decide +kernel
theorem dX1_commonest_43 : decode cX1_commonest 43 = .ok (.iaload, 1) := by decide +kernel
theorem dX1_commonest_44 : decode cX1_commonest 44 = .ok (.iload_n 2, 1) := by decide +kernel
theorem dX1_commonest_45 : decode cX1_commonest 45 = .ok (.if_icmp .ge 13, 3) := by decide +kernel
theorem dX1_commonest_48 : decode cX1_commonest 48 = .ok (.iload 4, 2) := by decide +kernel
theorem dX1_commonest_50 : decode cX1_commonest 50 = .ok (.istore_n 1, 1) := by decide +kernel
theorem dX1_commonest_51 : decode cX1_commonest 51 = .ok (.aload_n 0, 1) := by decide +kernel
theorem dX1_commonest_52 : decode cX1_commonest 52 = .ok (.getfield 9, 3) := by decide +kernel
theorem dX1_commonest_55 : decode cX1_commonest 55 = .ok (.iload_n 3, 1) := by decide +kernel
theorem dX1_commonest_56 : decode cX1_commonest 56 = .ok (.iaload, 1) := by decide +kernel
theorem dX1_commonest_57 : decode cX1_commonest 57 = .ok (.istore_n 2, 1) := by decide +kernel
theorem dX1_commonest_58 : decode cX1_commonest 58 = .ok (.iinc 3 1, 3) := by decide +kernel
theorem dX1_commonest_61 : decode cX1_commonest 61 = .ok (.goto (-55), 3) := by decide +kernel
theorem dX1_commonest_64 : decode cX1_commonest 64 = .ok (.iload_n 1, 1) := by decide +kernel
theorem dX1_commonest_65 : decode cX1_commonest 65 = .ok (.ifCond .le 14, 3) := by decide +kernel
theorem dX1_commonest_68 : decode cX1_commonest 68 = .ok (.aload_n 0, 1) := by decide +kernel
theorem dX1_commonest_69 : decode cX1_commonest 69 = .ok (.getfield 18, 3) := by decide +kernel
theorem dX1_commonest_72 : decode cX1_commonest 72 = .ok (.iload_n 2, 1) := by decide +kernel
theorem dX1_commonest_73 : decode cX1_commonest 73 = .ok (.invokevirtual 26, 3) := by decide +kernel
theorem dX1_commonest_76 : decode cX1_commonest 76 = .ok (.goto 4, 3) := by decide +kernel
theorem dX1_commonest_79 : decode cX1_commonest 79 = .ok (.iconst (-1), 1) := by decide +kernel
theorem dX1_commonest_80 : decode cX1_commonest 80 = .ok (.ireturn, 1) := by decide +kernel
theorem dX1_runsIn_0 : decode cX1_runsIn 0 = .ok (.iconst 0, 1) := by decide +kernel
theorem dX1_runsIn_1 : decode cX1_runsIn 1 = .ok (.istore_n 2, 1) := by decide +kernel
theorem dX1_runsIn_2 : decode cX1_runsIn 2 = .ok (.iconst 0, 1) := by decide +kernel
theorem dX1_runsIn_3 : decode cX1_runsIn 3 = .ok (.istore_n 3, 1) := by decide +kernel
theorem dX1_runsIn_4 : decode cX1_runsIn 4 = .ok (.iload_n 3, 1) := by decide +kernel
theorem dX1_runsIn_5 : decode cX1_runsIn 5 = .ok (.aload_n 0, 1) := by decide +kernel
theorem dX1_runsIn_6 : decode cX1_runsIn 6 = .ok (.getfield 22, 3) := by decide +kernel
theorem dX1_runsIn_9 : decode cX1_runsIn 9 = .ok (.if_icmp .ge 41, 3) := by decide +kernel
theorem dX1_runsIn_12 : decode cX1_runsIn 12 = .ok (.iload_n 3, 1) := by decide +kernel
theorem dX1_runsIn_13 : decode cX1_runsIn 13 = .ok (.ifCond .eq 28, 3) := by decide +kernel
theorem dX1_runsIn_16 : decode cX1_runsIn 16 = .ok (.aload_n 0, 1) := by decide +kernel
theorem dX1_runsIn_17 : decode cX1_runsIn 17 = .ok (.getfield 9, 3) := by decide +kernel
theorem dX1_runsIn_20 : decode cX1_runsIn 20 = .ok (.aload_n 1, 1) := by decide +kernel
theorem dX1_runsIn_21 : decode cX1_runsIn 21 = .ok (.iload_n 3, 1) := by decide +kernel
theorem dX1_runsIn_22 : decode cX1_runsIn 22 = .ok (.invokevirtual 50, 3) := by decide +kernel
theorem dX1_runsIn_25 : decode cX1_runsIn 25 = .ok (.iaload, 1) := by decide +kernel
theorem dX1_runsIn_26 : decode cX1_runsIn 26 = .ok (.aload_n 0, 1) := by decide +kernel
theorem dX1_runsIn_27 : decode cX1_runsIn 27 = .ok (.getfield 9, 3) := by decide +kernel
theorem dX1_runsIn_30 : decode cX1_runsIn 30 = .ok (.aload_n 1, 1) := by decide +kernel
theorem dX1_runsIn_31 : decode cX1_runsIn 31 = .ok (.iload_n 3, 1) := by decide +kernel
theorem dX1_runsIn_32 : decode cX1_runsIn 32 = .ok (.iconst 1, 1) := by decide +kernel
theorem dX1_runsIn_33 : decode cX1_runsIn 33 = .ok (.isub, 1) := by decide +kernel
theorem dX1_runsIn_34 : decode cX1_runsIn 34 = .ok (.invokevirtual 50, 3) := by decide +kernel
theorem dX1_runsIn_37 : decode cX1_runsIn 37 = .ok (.iaload, 1) := by decide +kernel
theorem dX1_runsIn_38 : decode cX1_runsIn 38 = .ok (.if_icmp .eq 6, 3) := by decide +kernel
theorem dX1_runsIn_41 : decode cX1_runsIn 41 = .ok (.iinc 2 1, 3) := by decide +kernel
theorem dX1_runsIn_44 : decode cX1_runsIn 44 = .ok (.iinc 3 1, 3) := by decide +kernel
theorem dX1_runsIn_47 : decode cX1_runsIn 47 = .ok (.goto (-43), 3) := by decide +kernel
theorem dX1_runsIn_50 : decode cX1_runsIn 50 = .ok (.iload_n 2, 1) := by decide +kernel
theorem dX1_runsIn_51 : decode cX1_runsIn 51 = .ok (.ireturn, 1) := by decide +kernel
theorem dX1_greatestRun_0 : decode cX1_greatestRun 0 = .ok (.iconst 0, 1) := by decide +kernel
theorem dX1_greatestRun_1 : decode cX1_greatestRun 1 = .ok (.istore_n 1, 1) := by decide +kernel
theorem dX1_greatestRun_2 : decode cX1_greatestRun 2 = .ok (.iconst 0, 1) := by decide +kernel
theorem dX1_greatestRun_3 : decode cX1_greatestRun 3 = .ok (.istore_n 2, 1) := by decide +kernel
theorem dX1_greatestRun_4 : decode cX1_greatestRun 4 = .ok (.iconst 0, 1) := by decide +kernel
theorem dX1_greatestRun_5 : decode cX1_greatestRun 5 = .ok (.istore_n 3, 1) := by decide +kernel
theorem dX1_greatestRun_6 : decode cX1_greatestRun 6 = .ok (.iload_n 3, 1) := by decide +kernel
theorem dX1_greatestRun_7 : decode cX1_greatestRun 7 = .ok (.aload_n 0, 1) := by decide +kernel
theorem dX1_greatestRun_8 : decode cX1_greatestRun 8 = .ok (.getfield 22, 3) := by decide +kernel
theorem dX1_greatestRun_11 : decode cX1_greatestRun 11 = .ok (.if_icmp .ge 56, 3) := by decide +kernel
theorem dX1_greatestRun_14 : decode cX1_greatestRun 14 = .ok (.iload_n 3, 1) := by decide +kernel
theorem dX1_greatestRun_15 : decode cX1_greatestRun 15 = .ok (.ifCond .le 24, 3) := by decide +kernel
theorem dX1_greatestRun_18 : decode cX1_greatestRun 18 = .ok (.aload_n 0, 1) := by decide +kernel
theorem dX1_greatestRun_19 : decode cX1_greatestRun 19 = .ok (.getfield 9, 3) := by decide +kernel
theorem dX1_greatestRun_22 : decode cX1_greatestRun 22 = .ok (.iload_n 3, 1) := by decide +kernel
theorem dX1_greatestRun_23 : decode cX1_greatestRun 23 = .ok (.iaload, 1) := by decide +kernel
theorem dX1_greatestRun_24 : decode cX1_greatestRun 24 = .ok (.aload_n 0, 1) := by decide +kernel
theorem dX1_greatestRun_25 : decode cX1_greatestRun 25 = .ok (.getfield 9, 3) := by decide +kernel
theorem dX1_greatestRun_28 : decode cX1_greatestRun 28 = .ok (.iload_n 3, 1) := by decide +kernel
theorem dX1_greatestRun_29 : decode cX1_greatestRun 29 = .ok (.iconst 1, 1) := by decide +kernel
theorem dX1_greatestRun_30 : decode cX1_greatestRun 30 = .ok (.isub, 1) := by decide +kernel
theorem dX1_greatestRun_31 : decode cX1_greatestRun 31 = .ok (.iaload, 1) := by decide +kernel
theorem dX1_greatestRun_32 : decode cX1_greatestRun 32 = .ok (.if_icmp .ne 7, 3) := by decide +kernel
theorem dX1_greatestRun_35 : decode cX1_greatestRun 35 = .ok (.iconst 1, 1) := by decide +kernel
theorem dX1_greatestRun_36 : decode cX1_greatestRun 36 = .ok (.goto 4, 3) := by decide +kernel
theorem dX1_greatestRun_39 : decode cX1_greatestRun 39 = .ok (.iconst 0, 1) := by decide +kernel
theorem dX1_greatestRun_40 : decode cX1_greatestRun 40 = .ok (.istore 4, 2) := by decide +kernel
theorem dX1_greatestRun_42 : decode cX1_greatestRun 42 = .ok (.iload 4, 2) := by decide +kernel
theorem dX1_greatestRun_44 : decode cX1_greatestRun 44 = .ok (.ifCond .eq 9, 3) := by decide +kernel
theorem dX1_greatestRun_47 : decode cX1_greatestRun 47 = .ok (.iload_n 2, 1) := by decide +kernel
theorem dX1_greatestRun_48 : decode cX1_greatestRun 48 = .ok (.iconst 1, 1) := by decide +kernel
theorem dX1_greatestRun_49 : decode cX1_greatestRun 49 = .ok (.iadd, 1) := by decide +kernel
theorem dX1_greatestRun_50 : decode cX1_greatestRun 50 = .ok (.goto 4, 3) := by decide +kernel
theorem dX1_greatestRun_53 : decode cX1_greatestRun 53 = .ok (.iconst 1, 1) := by decide +kernel
theorem dX1_greatestRun_54 : decode cX1_greatestRun 54 = .ok (.istore_n 2, 1) := by decide +kernel
theorem dX1_greatestRun_55 : decode cX1_greatestRun 55 = .ok (.iload_n 1, 1) := by decide +kernel
theorem dX1_greatestRun_56 : decode cX1_greatestRun 56 = .ok (.iload_n 2, 1) := by decide +kernel
theorem dX1_greatestRun_57 : decode cX1_greatestRun 57 = .ok (.invokestatic 53, 3) := by decide +kernel
theorem dX1_greatestRun_60 : decode cX1_greatestRun 60 = .ok (.istore_n 1, 1) := by decide +kernel
theorem dX1_greatestRun_61 : decode cX1_greatestRun 61 = .ok (.iinc 3 1, 3) := by decide +kernel
theorem dX1_greatestRun_64 : decode cX1_greatestRun 64 = .ok (.goto (-58), 3) := by decide +kernel
theorem dX1_greatestRun_67 : decode cX1_greatestRun 67 = .ok (.iload_n 1, 1) := by decide +kernel
theorem dX1_greatestRun_68 : decode cX1_greatestRun 68 = .ok (.ireturn, 1) := by decide +kernel
theorem dX1_isAscending_0 : decode cX1_isAscending 0 = .ok (.iconst 1, 1) := by decide +kernel
theorem dX1_isAscending_1 : decode cX1_isAscending 1 = .ok (.istore_n 1, 1) := by decide +kernel
theorem dX1_isAscending_2 : decode cX1_isAscending 2 = .ok (.iload_n 1, 1) := by decide +kernel
theorem dX1_isAscending_3 : decode cX1_isAscending 3 = .ok (.aload_n 0, 1) := by decide +kernel
theorem dX1_isAscending_4 : decode cX1_isAscending 4 = .ok (.getfield 22, 3) := by decide +kernel
theorem dX1_isAscending_7 : decode cX1_isAscending 7 = .ok (.if_icmp .ge 28, 3) := by decide +kernel
theorem dX1_isAscending_10 : decode cX1_isAscending 10 = .ok (.aload_n 0, 1) := by decide +kernel
theorem dX1_isAscending_11 : decode cX1_isAscending 11 = .ok (.getfield 9, 3) := by decide +kernel
theorem dX1_isAscending_14 : decode cX1_isAscending 14 = .ok (.iload_n 1, 1) := by decide +kernel
theorem dX1_isAscending_15 : decode cX1_isAscending 15 = .ok (.iaload, 1) := by decide +kernel
theorem dX1_isAscending_16 : decode cX1_isAscending 16 = .ok (.aload_n 0, 1) := by decide +kernel
theorem dX1_isAscending_17 : decode cX1_isAscending 17 = .ok (.getfield 9, 3) := by decide +kernel
theorem dX1_isAscending_20 : decode cX1_isAscending 20 = .ok (.iload_n 1, 1) := by decide +kernel
theorem dX1_isAscending_21 : decode cX1_isAscending 21 = .ok (.iconst 1, 1) := by decide +kernel
theorem dX1_isAscending_22 : decode cX1_isAscending 22 = .ok (.isub, 1) := by decide +kernel
theorem dX1_isAscending_23 : decode cX1_isAscending 23 = .ok (.iaload, 1) := by decide +kernel
theorem dX1_isAscending_24 : decode cX1_isAscending 24 = .ok (.if_icmp .ge 5, 3) := by decide +kernel
theorem dX1_isAscending_27 : decode cX1_isAscending 27 = .ok (.iconst 0, 1) := by decide +kernel
theorem dX1_isAscending_28 : decode cX1_isAscending 28 = .ok (.ireturn, 1) := by decide +kernel
theorem dX1_isAscending_29 : decode cX1_isAscending 29 = .ok (.iinc 1 1, 3) := by decide +kernel
theorem dX1_isAscending_32 : decode cX1_isAscending 32 = .ok (.goto (-30), 3) := by decide +kernel
theorem dX1_isAscending_35 : decode cX1_isAscending 35 = .ok (.iconst 1, 1) := by decide +kernel
theorem dX1_isAscending_36 : decode cX1_isAscending 36 = .ok (.ireturn, 1) := by decide +kernel
theorem dX1_copyFrom_0 : decode cX1_copyFrom 0 = .ok (.aload_n 1, 1) := by decide +kernel
theorem dX1_copyFrom_1 : decode cX1_copyFrom 1 = .ok (.getfield 9, 3) := by decide +kernel
theorem dX1_copyFrom_4 : decode cX1_copyFrom 4 = .ok (.iconst 0, 1) := by decide +kernel
theorem dX1_copyFrom_5 : decode cX1_copyFrom 5 = .ok (.aload_n 0, 1) := by decide +kernel
theorem dX1_copyFrom_6 : decode cX1_copyFrom 6 = .ok (.getfield 9, 3) := by decide +kernel
theorem dX1_copyFrom_9 : decode cX1_copyFrom 9 = .ok (.iconst 0, 1) := by decide +kernel
theorem dX1_copyFrom_10 : decode cX1_copyFrom 10 = .ok (.aload_n 1, 1) := by decide +kernel
theorem dX1_copyFrom_11 : decode cX1_copyFrom 11 = .ok (.getfield 22, 3) := by decide +kernel
theorem dX1_copyFrom_14 : decode cX1_copyFrom 14 = .ok (.invokestatic 59, 3) := by decide +kernel
theorem dX1_copyFrom_17 : decode cX1_copyFrom 17 = .ok (.aload_n 0, 1) := by decide +kernel
theorem dX1_copyFrom_18 : decode cX1_copyFrom 18 = .ok (.aload_n 1, 1) := by decide +kernel
theorem dX1_copyFrom_19 : decode cX1_copyFrom 19 = .ok (.getfield 22, 3) := by decide +kernel
theorem dX1_copyFrom_22 : decode cX1_copyFrom 22 = .ok (.putfield 22, 3) := by decide +kernel
theorem dX1_copyFrom_25 : decode cX1_copyFrom 25 = .ok (.aload_n 0, 1) := by decide +kernel
theorem dX1_copyFrom_26 : decode cX1_copyFrom 26 = .ok (.getfield 18, 3) := by decide +kernel
theorem dX1_copyFrom_29 : decode cX1_copyFrom 29 = .ok (.aload_n 1, 1) := by decide +kernel
theorem dX1_copyFrom_30 : decode cX1_copyFrom 30 = .ok (.getfield 18, 3) := by decide +kernel
theorem dX1_copyFrom_33 : decode cX1_copyFrom 33 = .ok (.invokevirtual 65, 3) := by decide +kernel
theorem dX1_copyFrom_36 : decode cX1_copyFrom 36 = .ok (.return_, 1) := by decide +kernel
theorem dX2_init_0 : decode cX2_init 0 = .ok (.aload_n 0, 1) := by decide +kernel
theorem dX2_init_1 : decode cX2_init 1 = .ok (.invokespecial 3, 3) := by decide +kernel
theorem dX2_init_4 : decode cX2_init 4 = .ok (.aload_n 0, 1) := by decide +kernel
theorem dX2_init_5 : decode cX2_init 5 = .ok (.getstatic 9, 3) := by decide +kernel
theorem dX2_init_8 : decode cX2_init 8 = .ok (.putfield 15, 3) := by decide +kernel
theorem dX2_init_11 : decode cX2_init 11 = .ok (.aload_n 0, 1) := by decide +kernel
theorem dX2_init_12 : decode cX2_init 12 = .ok (.bipush 6, 2) := by decide +kernel
theorem dX2_init_14 : decode cX2_init 14 = .ok (.newarray .int, 2) := by decide +kernel
theorem dX2_init_16 : decode cX2_init 16 = .ok (.putfield 20, 3) := by decide +kernel
theorem dX2_init_19 : decode cX2_init 19 = .ok (.return_, 1) := by decide +kernel
theorem dX3_init_0 : decode cX3_init 0 = .ok (.aload_n 0, 1) := by decide +kernel
theorem dX3_init_1 : decode cX3_init 1 = .ok (.invokespecial 1, 3) := by decide +kernel
theorem dX3_init_4 : decode cX3_init 4 = .ok (.aload_n 0, 1) := by decide +kernel
theorem dX3_init_5 : decode cX3_init 5 = .ok (.bipush 16, 2) := by decide +kernel
theorem dX3_init_7 : decode cX3_init 7 = .ok (.newarray .int, 2) := by decide +kernel
theorem dX3_init_9 : decode cX3_init 9 = .ok (.putfield 9, 3) := by decide +kernel
theorem dX3_init_12 : decode cX3_init 12 = .ok (.return_, 1) := by decide +kernel
theorem dX3_widthFor_0 : decode cX3_widthFor 0 = .ok (.iconst 0, 1) := by decide +kernel
theorem dX3_widthFor_1 : decode cX3_widthFor 1 = .ok (.istore_n 1, 1) := by decide +kernel
theorem dX3_widthFor_2 : decode cX3_widthFor 2 = .ok (.iload_n 1, 1) := by decide +kernel
theorem dX3_widthFor_3 : decode cX3_widthFor 3 = .ok (.bipush 31, 2) := by decide +kernel
theorem dX3_widthFor_5 : decode cX3_widthFor 5 = .ok (.if_icmp .ge 18, 3) := by decide +kernel
theorem dX3_widthFor_8 : decode cX3_widthFor 8 = .ok (.lconst 1, 1) := by decide +kernel
theorem dX3_widthFor_9 : decode cX3_widthFor 9 = .ok (.iload_n 1, 1) := by decide +kernel
theorem dX3_widthFor_10 : decode cX3_widthFor 10 = .ok (.lshl, 1) := by decide +kernel
theorem dX3_widthFor_11 : decode cX3_widthFor 11 = .ok (.iload_n 0, 1) := by decide +kernel
theorem dX3_widthFor_12 : decode cX3_widthFor 12 = .ok (.i2l, 1) := by decide +kernel
theorem dX3_widthFor_13 : decode cX3_widthFor 13 = .ok (.lcmp, 1) := by decide +kernel
theorem dX3_widthFor_14 : decode cX3_widthFor 14 = .ok (.ifCond .ge 9, 3) := by decide +kernel
theorem dX3_widthFor_17 : decode cX3_widthFor 17 = .ok (.iinc 1 1, 3) := by decide +kernel
theorem dX3_widthFor_20 : decode cX3_widthFor 20 = .ok (.goto (-18), 3) := by decide +kernel
theorem dX3_widthFor_23 : decode cX3_widthFor 23 = .ok (.iload_n 1, 1) := by decide +kernel
theorem dX3_widthFor_24 : decode cX3_widthFor 24 = .ok (.ireturn, 1) := by decide +kernel
theorem dX3_size_0 : decode cX3_size 0 = .ok (.aload_n 0, 1) := by decide +kernel
theorem dX3_size_1 : decode cX3_size 1 = .ok (.getfield 13, 3) := by decide +kernel
theorem dX3_size_4 : decode cX3_size 4 = .ok (.ireturn, 1) := by decide +kernel
theorem dX3_width_0 : decode cX3_width 0 = .ok (.aload_n 0, 1) := by decide +kernel
theorem dX3_width_1 : decode cX3_width 1 = .ok (.getfield 13, 3) := by decide +kernel
theorem dX3_width_4 : decode cX3_width 4 = .ok (.invokestatic 17, 3) := by decide +kernel
theorem dX3_width_7 : decode cX3_width 7 = .ok (.ireturn, 1) := by decide +kernel
theorem dX3_entry_0 : decode cX3_entry 0 = .ok (.aload_n 0, 1) := by decide +kernel
theorem dX3_entry_1 : decode cX3_entry 1 = .ok (.getfield 9, 3) := by decide +kernel
theorem dX3_entry_4 : decode cX3_entry 4 = .ok (.iload_n 1, 1) := by decide +kernel
theorem dX3_entry_5 : decode cX3_entry 5 = .ok (.iaload, 1) := by decide +kernel
theorem dX3_entry_6 : decode cX3_entry 6 = .ok (.ireturn, 1) := by decide +kernel
theorem dX3_countBelow_0 : decode cX3_countBelow 0 = .ok (.iconst 0, 1) := by decide +kernel
theorem dX3_countBelow_1 : decode cX3_countBelow 1 = .ok (.istore_n 2, 1) := by decide +kernel
theorem dX3_countBelow_2 : decode cX3_countBelow 2 = .ok (.aload_n 0, 1) := by decide +kernel
theorem dX3_countBelow_3 : decode cX3_countBelow 3 = .ok (.getfield 13, 3) := by decide +kernel
theorem dX3_countBelow_6 : decode cX3_countBelow 6 = .ok (.istore_n 3, 1) := by decide +kernel
theorem dX3_countBelow_7 : decode cX3_countBelow 7 = .ok (.iload_n 2, 1) := by decide +kernel
theorem dX3_countBelow_8 : decode cX3_countBelow 8 = .ok (.iload_n 3, 1) := by decide +kernel
theorem dX3_countBelow_9 : decode cX3_countBelow 9 = .ok (.if_icmp .ge 35, 3) := by decide +kernel
theorem dX3_countBelow_12 : decode cX3_countBelow 12 = .ok (.iload_n 2, 1) := by decide +kernel
theorem dX3_countBelow_13 : decode cX3_countBelow 13 = .ok (.iload_n 3, 1) := by decide +kernel
theorem dX3_countBelow_14 : decode cX3_countBelow 14 = .ok (.iadd, 1) := by decide +kernel
theorem dX3_countBelow_15 : decode cX3_countBelow 15 = .ok (.iconst 2, 1) := by decide +kernel
theorem dX3_countBelow_16 : decode cX3_countBelow 16 = .ok (.idiv, 1) := by decide +kernel
theorem dX3_countBelow_17 : decode cX3_countBelow 17 = .ok (.istore 4, 2) := by decide +kernel
theorem dX3_countBelow_19 : decode cX3_countBelow 19 = .ok (.aload_n 0, 1) := by decide +kernel
theorem dX3_countBelow_20 : decode cX3_countBelow 20 = .ok (.getfield 9, 3) := by decide +kernel
theorem dX3_countBelow_23 : decode cX3_countBelow 23 = .ok (.iload 4, 2) := by decide +kernel
theorem dX3_countBelow_25 : decode cX3_countBelow 25 = .ok (.iaload, 1) := by decide +kernel
theorem dX3_countBelow_26 : decode cX3_countBelow 26 = .ok (.iload_n 1, 1) := by decide +kernel
theorem dX3_countBelow_27 : decode cX3_countBelow 27 = .ok (.if_icmp .ge 11, 3) := by decide +kernel
theorem dX3_countBelow_30 : decode cX3_countBelow 30 = .ok (.iload 4, 2) := by decide +kernel
theorem dX3_countBelow_32 : decode cX3_countBelow 32 = .ok (.iconst 1, 1) := by decide +kernel
theorem dX3_countBelow_33 : decode cX3_countBelow 33 = .ok (.iadd, 1) := by decide +kernel
theorem dX3_countBelow_34 : decode cX3_countBelow 34 = .ok (.istore_n 2, 1) := by decide +kernel
theorem dX3_countBelow_35 : decode cX3_countBelow 35 = .ok (.goto 6, 3) := by decide +kernel
theorem dX3_countBelow_38 : decode cX3_countBelow 38 = .ok (.iload 4, 2) := by decide +kernel
theorem dX3_countBelow_40 : decode cX3_countBelow 40 = .ok (.istore_n 3, 1) := by decide +kernel
theorem dX3_countBelow_41 : decode cX3_countBelow 41 = .ok (.goto (-34), 3) := by decide +kernel
theorem dX3_countBelow_44 : decode cX3_countBelow 44 = .ok (.iload_n 2, 1) := by decide +kernel
theorem dX3_countBelow_45 : decode cX3_countBelow 45 = .ok (.ireturn, 1) := by decide +kernel
theorem dX3_holds_0 : decode cX3_holds 0 = .ok (.aload_n 0, 1) := by decide +kernel
theorem dX3_holds_1 : decode cX3_holds 1 = .ok (.iload_n 1, 1) := by decide +kernel
theorem dX3_holds_2 : decode cX3_holds 2 = .ok (.invokevirtual 21, 3) := by decide +kernel
theorem dX3_holds_5 : decode cX3_holds 5 = .ok (.ifCond .lt 7, 3) := by decide +kernel
theorem dX3_holds_8 : decode cX3_holds 8 = .ok (.iconst 1, 1) := by decide +kernel
theorem dX3_holds_9 : decode cX3_holds 9 = .ok (.goto 4, 3) := by decide +kernel
theorem dX3_holds_12 : decode cX3_holds 12 = .ok (.iconst 0, 1) := by decide +kernel
theorem dX3_holds_13 : decode cX3_holds 13 = .ok (.ireturn, 1) := by decide +kernel
theorem dX3_find_0 : decode cX3_find 0 = .ok (.aload_n 0, 1) := by decide +kernel
theorem dX3_find_1 : decode cX3_find 1 = .ok (.iload_n 1, 1) := by decide +kernel
theorem dX3_find_2 : decode cX3_find 2 = .ok (.invokevirtual 24, 3) := by decide +kernel
theorem dX3_find_5 : decode cX3_find 5 = .ok (.istore_n 2, 1) := by decide +kernel
theorem dX3_find_6 : decode cX3_find 6 = .ok (.iload_n 2, 1) := by decide +kernel
theorem dX3_find_7 : decode cX3_find 7 = .ok (.aload_n 0, 1) := by decide +kernel
theorem dX3_find_8 : decode cX3_find 8 = .ok (.getfield 13, 3) := by decide +kernel
theorem dX3_find_11 : decode cX3_find 11 = .ok (.if_icmp .ge 17, 3) := by decide +kernel
theorem dX3_find_14 : decode cX3_find 14 = .ok (.aload_n 0, 1) := by decide +kernel
theorem dX3_find_15 : decode cX3_find 15 = .ok (.getfield 9, 3) := by decide +kernel
theorem dX3_find_18 : decode cX3_find 18 = .ok (.iload_n 2, 1) := by decide +kernel
theorem dX3_find_19 : decode cX3_find 19 = .ok (.iaload, 1) := by decide +kernel
theorem dX3_find_20 : decode cX3_find 20 = .ok (.iload_n 1, 1) := by decide +kernel
theorem dX3_find_21 : decode cX3_find 21 = .ok (.if_icmp .ne 7, 3) := by decide +kernel
theorem dX3_find_24 : decode cX3_find 24 = .ok (.iload_n 2, 1) := by decide +kernel
theorem dX3_find_25 : decode cX3_find 25 = .ok (.goto 4, 3) := by decide +kernel
theorem dX3_find_28 : decode cX3_find 28 = .ok (.iconst (-1), 1) := by decide +kernel
theorem dX3_find_29 : decode cX3_find 29 = .ok (.ireturn, 1) := by decide +kernel
theorem dX3_insert_0 : decode cX3_insert 0 = .ok (.aload_n 0, 1) := by decide +kernel
theorem dX3_insert_1 : decode cX3_insert 1 = .ok (.iload_n 1, 1) := by decide +kernel
theorem dX3_insert_2 : decode cX3_insert 2 = .ok (.invokevirtual 24, 3) := by decide +kernel
theorem dX3_insert_5 : decode cX3_insert 5 = .ok (.istore_n 2, 1) := by decide +kernel
theorem dX3_insert_6 : decode cX3_insert 6 = .ok (.iload_n 2, 1) := by decide +kernel
theorem dX3_insert_7 : decode cX3_insert 7 = .ok (.aload_n 0, 1) := by decide +kernel
theorem dX3_insert_8 : decode cX3_insert 8 = .ok (.getfield 13, 3) := by decide +kernel
theorem dX3_insert_11 : decode cX3_insert 11 = .ok (.if_icmp .ge 14, 3) := by decide +kernel
theorem dX3_insert_14 : decode cX3_insert 14 = .ok (.aload_n 0, 1) := by decide +kernel
theorem dX3_insert_15 : decode cX3_insert 15 = .ok (.getfield 9, 3) := by decide +kernel
theorem dX3_insert_18 : decode cX3_insert 18 = .ok (.iload_n 2, 1) := by decide +kernel
theorem dX3_insert_19 : decode cX3_insert 19 = .ok (.iaload, 1) := by decide +kernel
theorem dX3_insert_20 : decode cX3_insert 20 = .ok (.iload_n 1, 1) := by decide +kernel
theorem dX3_insert_21 : decode cX3_insert 21 = .ok (.if_icmp .ne 4, 3) := by decide +kernel
theorem dX3_insert_24 : decode cX3_insert 24 = .ok (.return_, 1) := by decide +kernel
theorem dX3_insert_25 : decode cX3_insert 25 = .ok (.aload_n 0, 1) := by decide +kernel
theorem dX3_insert_26 : decode cX3_insert 26 = .ok (.getfield 13, 3) := by decide +kernel
theorem dX3_insert_29 : decode cX3_insert 29 = .ok (.aload_n 0, 1) := by decide +kernel
theorem dX3_insert_30 : decode cX3_insert 30 = .ok (.getfield 9, 3) := by decide +kernel
theorem dX3_insert_33 : decode cX3_insert 33 = .ok (.arraylength, 1) := by decide +kernel
theorem dX3_insert_34 : decode cX3_insert 34 = .ok (.if_icmp .ne 20, 3) := by decide +kernel
theorem dX3_insert_37 : decode cX3_insert 37 = .ok (.aload_n 0, 1) := by decide +kernel
theorem dX3_insert_38 : decode cX3_insert 38 = .ok (.aload_n 0, 1) := by decide +kernel
theorem dX3_insert_39 : decode cX3_insert 39 = .ok (.getfield 9, 3) := by decide +kernel
theorem dX3_insert_42 : decode cX3_insert 42 = .ok (.iconst 2, 1) := by decide +kernel
theorem dX3_insert_43 : decode cX3_insert 43 = .ok (.aload_n 0, 1) := by decide +kernel
theorem dX3_insert_44 : decode cX3_insert 44 = .ok (.getfield 13, 3) := by decide +kernel
theorem dX3_insert_47 : decode cX3_insert 47 = .ok (.imul, 1) := by decide +kernel
theorem dX3_insert_48 : decode cX3_insert 48 = .ok (.invokestatic 27, 3) := by decide +kernel
theorem dX3_insert_51 : decode cX3_insert 51 = .ok (.putfield 9, 3) := by decide +kernel
theorem dX3_insert_54 : decode cX3_insert 54 = .ok (.aload_n 0, 1) := by decide +kernel
theorem dX3_insert_55 : decode cX3_insert 55 = .ok (.getfield 9, 3) := by decide +kernel
theorem dX3_insert_58 : decode cX3_insert 58 = .ok (.iload_n 2, 1) := by decide +kernel
theorem dX3_insert_59 : decode cX3_insert 59 = .ok (.aload_n 0, 1) := by decide +kernel
theorem dX3_insert_60 : decode cX3_insert 60 = .ok (.getfield 9, 3) := by decide +kernel
theorem dX3_insert_63 : decode cX3_insert 63 = .ok (.iload_n 2, 1) := by decide +kernel
theorem dX3_insert_64 : decode cX3_insert 64 = .ok (.iconst 1, 1) := by decide +kernel
theorem dX3_insert_65 : decode cX3_insert 65 = .ok (.iadd, 1) := by decide +kernel
theorem dX3_insert_66 : decode cX3_insert 66 = .ok (.aload_n 0, 1) := by decide +kernel
theorem dX3_insert_67 : decode cX3_insert 67 = .ok (.getfield 13, 3) := by decide +kernel
theorem dX3_insert_70 : decode cX3_insert 70 = .ok (.iload_n 2, 1) := by decide +kernel
theorem dX3_insert_71 : decode cX3_insert 71 = .ok (.isub, 1) := by decide +kernel
theorem dX3_insert_72 : decode cX3_insert 72 = .ok (.invokestatic 33, 3) := by decide +kernel
theorem dX3_insert_75 : decode cX3_insert 75 = .ok (.aload_n 0, 1) := by decide +kernel
theorem dX3_insert_76 : decode cX3_insert 76 = .ok (.getfield 9, 3) := by decide +kernel
theorem dX3_insert_79 : decode cX3_insert 79 = .ok (.iload_n 2, 1) := by decide +kernel
theorem dX3_insert_80 : decode cX3_insert 80 = .ok (.iload_n 1, 1) := by decide +kernel
theorem dX3_insert_81 : decode cX3_insert 81 = .ok (.iastore, 1) := by decide +kernel
theorem dX3_insert_82 : decode cX3_insert 82 = .ok (.aload_n 0, 1) := by decide +kernel
theorem dX3_insert_83 : decode cX3_insert 83 = .ok (.dup, 1) := by decide +kernel
theorem dX3_insert_84 : decode cX3_insert 84 = .ok (.getfield 13, 3) := by decide +kernel
theorem dX3_insert_87 : decode cX3_insert 87 = .ok (.iconst 1, 1) := by decide +kernel
theorem dX3_insert_88 : decode cX3_insert 88 = .ok (.iadd, 1) := by decide +kernel
theorem dX3_insert_89 : decode cX3_insert 89 = .ok (.putfield 13, 3) := by decide +kernel
theorem dX3_insert_92 : decode cX3_insert 92 = .ok (.return_, 1) := by decide +kernel
theorem dX3_clear_0 : decode cX3_clear 0 = .ok (.aload_n 0, 1) := by decide +kernel
theorem dX3_clear_1 : decode cX3_clear 1 = .ok (.iconst 0, 1) := by decide +kernel
theorem dX3_clear_2 : decode cX3_clear 2 = .ok (.putfield 13, 3) := by decide +kernel
theorem dX3_clear_5 : decode cX3_clear 5 = .ok (.return_, 1) := by decide +kernel
theorem dX3_copyFrom_0 : decode cX3_copyFrom 0 = .ok (.aload_n 0, 1) := by decide +kernel
theorem dX3_copyFrom_1 : decode cX3_copyFrom 1 = .ok (.getfield 9, 3) := by decide +kernel
theorem dX3_copyFrom_4 : decode cX3_copyFrom 4 = .ok (.arraylength, 1) := by decide +kernel
theorem dX3_copyFrom_5 : decode cX3_copyFrom 5 = .ok (.aload_n 1, 1) := by decide +kernel
theorem dX3_copyFrom_6 : decode cX3_copyFrom 6 = .ok (.getfield 13, 3) := by decide +kernel
theorem dX3_copyFrom_9 : decode cX3_copyFrom 9 = .ok (.if_icmp .ge 14, 3) := by decide +kernel
theorem dX3_copyFrom_12 : decode cX3_copyFrom 12 = .ok (.aload_n 0, 1) := by decide +kernel
theorem dX3_copyFrom_13 : decode cX3_copyFrom 13 = .ok (.aload_n 1, 1) := by decide +kernel
theorem dX3_copyFrom_14 : decode cX3_copyFrom 14 = .ok (.getfield 9, 3) := by decide +kernel
theorem dX3_copyFrom_17 : decode cX3_copyFrom 17 = .ok (.arraylength, 1) := by decide +kernel
theorem dX3_copyFrom_18 : decode cX3_copyFrom 18 = .ok (.newarray .int, 2) := by decide +kernel
theorem dX3_copyFrom_20 : decode cX3_copyFrom 20 = .ok (.putfield 9, 3) := by decide +kernel
theorem dX3_copyFrom_23 : decode cX3_copyFrom 23 = .ok (.aload_n 1, 1) := by decide +kernel
theorem dX3_copyFrom_24 : decode cX3_copyFrom 24 = .ok (.getfield 9, 3) := by decide +kernel
theorem dX3_copyFrom_27 : decode cX3_copyFrom 27 = .ok (.iconst 0, 1) := by decide +kernel
theorem dX3_copyFrom_28 : decode cX3_copyFrom 28 = .ok (.aload_n 0, 1) := by decide +kernel
theorem dX3_copyFrom_29 : decode cX3_copyFrom 29 = .ok (.getfield 9, 3) := by decide +kernel
theorem dX3_copyFrom_32 : decode cX3_copyFrom 32 = .ok (.iconst 0, 1) := by decide +kernel
theorem dX3_copyFrom_33 : decode cX3_copyFrom 33 = .ok (.aload_n 1, 1) := by decide +kernel
theorem dX3_copyFrom_34 : decode cX3_copyFrom 34 = .ok (.getfield 13, 3) := by decide +kernel
theorem dX3_copyFrom_37 : decode cX3_copyFrom 37 = .ok (.invokestatic 33, 3) := by decide +kernel
theorem dX3_copyFrom_40 : decode cX3_copyFrom 40 = .ok (.aload_n 0, 1) := by decide +kernel
theorem dX3_copyFrom_41 : decode cX3_copyFrom 41 = .ok (.aload_n 1, 1) := by decide +kernel
theorem dX3_copyFrom_42 : decode cX3_copyFrom 42 = .ok (.getfield 13, 3) := by decide +kernel
theorem dX3_copyFrom_45 : decode cX3_copyFrom 45 = .ok (.putfield 13, 3) := by decide +kernel
theorem dX3_copyFrom_48 : decode cX3_copyFrom 48 = .ok (.return_, 1) := by decide +kernel
theorem dX4_init_0 : decode cX4_init 0 = .ok (.aload_n 0, 1) := by decide +kernel
theorem dX4_init_1 : decode cX4_init 1 = .ok (.invokespecial 3, 3) := by decide +kernel
theorem dX4_init_4 : decode cX4_init 4 = .ok (.aload_n 0, 1) := by decide +kernel
theorem dX4_init_5 : decode cX4_init 5 = .ok (.bipush 8, 2) := by decide +kernel
theorem dX4_init_7 : decode cX4_init 7 = .ok (.newarray .int, 2) := by decide +kernel
theorem dX4_init_9 : decode cX4_init 9 = .ok (.putfield 9, 3) := by decide +kernel
theorem dX4_init_12 : decode cX4_init 12 = .ok (.aload_n 0, 1) := by decide +kernel
theorem dX4_init_13 : decode cX4_init 13 = .ok (.bipush 8, 2) := by decide +kernel
theorem dX4_init_15 : decode cX4_init 15 = .ok (.newarray .int, 2) := by decide +kernel
theorem dX4_init_17 : decode cX4_init 17 = .ok (.putfield 15, 3) := by decide +kernel
theorem dX4_init_20 : decode cX4_init 20 = .ok (.aload_n 0, 1) := by decide +kernel
theorem dX4_init_21 : decode cX4_init 21 = .ok (.bipush 8, 2) := by decide +kernel
theorem dX4_init_23 : decode cX4_init 23 = .ok (.newarray .int, 2) := by decide +kernel
theorem dX4_init_25 : decode cX4_init 25 = .ok (.putfield 18, 3) := by decide +kernel
theorem dX4_init_28 : decode cX4_init 28 = .ok (.return_, 1) := by decide +kernel
theorem dX4_size_0 : decode cX4_size 0 = .ok (.aload_n 0, 1) := by decide +kernel
theorem dX4_size_1 : decode cX4_size 1 = .ok (.getfield 21, 3) := by decide +kernel
theorem dX4_size_4 : decode cX4_size 4 = .ok (.ireturn, 1) := by decide +kernel
theorem dX4_isFull_0 : decode cX4_isFull 0 = .ok (.aload_n 0, 1) := by decide +kernel
theorem dX4_isFull_1 : decode cX4_isFull 1 = .ok (.getfield 21, 3) := by decide +kernel
theorem dX4_isFull_4 : decode cX4_isFull 4 = .ok (.bipush 8, 2) := by decide +kernel
theorem dX4_isFull_6 : decode cX4_isFull 6 = .ok (.if_icmp .ne 7, 3) := by decide +kernel
theorem dX4_isFull_9 : decode cX4_isFull 9 = .ok (.iconst 1, 1) := by decide +kernel
theorem dX4_isFull_10 : decode cX4_isFull 10 = .ok (.goto 4, 3) := by decide +kernel
theorem dX4_isFull_13 : decode cX4_isFull 13 = .ok (.iconst 0, 1) := by decide +kernel
theorem dX4_isFull_14 : decode cX4_isFull 14 = .ok (.ireturn, 1) := by decide +kernel
theorem dX4_has_0 : decode cX4_has 0 = .ok (.iload_n 1, 1) := by decide +kernel
theorem dX4_has_1 : decode cX4_has 1 = .ok (.ifCond .lt 15, 3) := by decide +kernel
theorem dX4_has_4 : decode cX4_has 4 = .ok (.iload_n 1, 1) := by decide +kernel
theorem dX4_has_5 : decode cX4_has 5 = .ok (.aload_n 0, 1) := by decide +kernel
theorem dX4_has_6 : decode cX4_has 6 = .ok (.getfield 21, 3) := by decide +kernel
theorem dX4_has_9 : decode cX4_has 9 = .ok (.if_icmp .ge 7, 3) := by decide +kernel
theorem dX4_has_12 : decode cX4_has 12 = .ok (.iconst 1, 1) := by decide +kernel
theorem dX4_has_13 : decode cX4_has 13 = .ok (.goto 4, 3) := by decide +kernel
theorem dX4_has_16 : decode cX4_has 16 = .ok (.iconst 0, 1) := by decide +kernel
theorem dX4_has_17 : decode cX4_has 17 = .ok (.ireturn, 1) := by decide +kernel
theorem dX4_columnOf_0 : decode cX4_columnOf 0 = .ok (.aload_n 0, 1) := by decide +kernel
theorem dX4_columnOf_1 : decode cX4_columnOf 1 = .ok (.getfield 9, 3) := by decide +kernel
theorem dX4_columnOf_4 : decode cX4_columnOf 4 = .ok (.iload_n 1, 1) := by decide +kernel
theorem dX4_columnOf_5 : decode cX4_columnOf 5 = .ok (.iaload, 1) := by decide +kernel
theorem dX4_columnOf_6 : decode cX4_columnOf 6 = .ok (.ireturn, 1) := by decide +kernel
theorem dX4_valueOf_0 : decode cX4_valueOf 0 = .ok (.aload_n 0, 1) := by decide +kernel
theorem dX4_valueOf_1 : decode cX4_valueOf 1 = .ok (.getfield 15, 3) := by decide +kernel
theorem dX4_valueOf_4 : decode cX4_valueOf 4 = .ok (.iload_n 1, 1) := by decide +kernel
theorem dX4_valueOf_5 : decode cX4_valueOf 5 = .ok (.iaload, 1) := by decide +kernel
theorem dX4_valueOf_6 : decode cX4_valueOf 6 = .ok (.ireturn, 1) := by decide +kernel
theorem dX4_directionOf_0 : decode cX4_directionOf 0 = .ok (.aload_n 0, 1) := by decide +kernel
theorem dX4_directionOf_1 : decode cX4_directionOf 1 = .ok (.getfield 18, 3) := by decide +kernel
theorem dX4_directionOf_4 : decode cX4_directionOf 4 = .ok (.iload_n 1, 1) := by decide +kernel
theorem dX4_directionOf_5 : decode cX4_directionOf 5 = .ok (.iaload, 1) := by decide +kernel
theorem dX4_directionOf_6 : decode cX4_directionOf 6 = .ok (.ireturn, 1) := by decide +kernel
theorem dX4_allows_0 : decode cX4_allows 0 = .ok (.iload_n 2, 1) := by decide +kernel
theorem dX4_allows_1 : decode cX4_allows 1 = .ok (.aload_n 0, 1) := by decide +kernel
theorem dX4_allows_2 : decode cX4_allows 2 = .ok (.getfield 15, 3) := by decide +kernel
theorem dX4_allows_5 : decode cX4_allows 5 = .ok (.iload_n 1, 1) := by decide +kernel
theorem dX4_allows_6 : decode cX4_allows 6 = .ok (.iaload, 1) := by decide +kernel
theorem dX4_allows_7 : decode cX4_allows 7 = .ok (.isub, 1) := by decide +kernel
theorem dX4_allows_8 : decode cX4_allows 8 = .ok (.invokestatic 25, 3) := by decide +kernel
theorem dX4_allows_11 : decode cX4_allows 11 = .ok (.aload_n 0, 1) := by decide +kernel
theorem dX4_allows_12 : decode cX4_allows 12 = .ok (.getfield 18, 3) := by decide +kernel
theorem dX4_allows_15 : decode cX4_allows 15 = .ok (.iload_n 1, 1) := by decide +kernel
theorem dX4_allows_16 : decode cX4_allows 16 = .ok (.iaload, 1) := by decide +kernel
theorem dX4_allows_17 : decode cX4_allows 17 = .ok (.if_icmp .ne 7, 3) := by decide +kernel
theorem dX4_allows_20 : decode cX4_allows 20 = .ok (.iconst 1, 1) := by decide +kernel
theorem dX4_allows_21 : decode cX4_allows 21 = .ok (.goto 4, 3) := by decide +kernel
theorem dX4_allows_24 : decode cX4_allows 24 = .ok (.iconst 0, 1) := by decide +kernel
theorem dX4_allows_25 : decode cX4_allows 25 = .ok (.ireturn, 1) := by decide +kernel
theorem dX4_add_0 : decode cX4_add 0 = .ok (.aload_n 0, 1) := by decide +kernel
theorem dX4_add_1 : decode cX4_add 1 = .ok (.getfield 21, 3) := by decide +kernel
theorem dX4_add_4 : decode cX4_add 4 = .ok (.bipush 8, 2) := by decide +kernel
theorem dX4_add_6 : decode cX4_add 6 = .ok (.if_icmp .ge 43, 3) := by decide +kernel
theorem dX4_add_9 : decode cX4_add 9 = .ok (.aload_n 0, 1) := by decide +kernel
theorem dX4_add_10 : decode cX4_add 10 = .ok (.getfield 9, 3) := by decide +kernel
theorem dX4_add_13 : decode cX4_add 13 = .ok (.aload_n 0, 1) := by decide +kernel
theorem dX4_add_14 : decode cX4_add 14 = .ok (.getfield 21, 3) := by decide +kernel
theorem dX4_add_17 : decode cX4_add 17 = .ok (.iload_n 1, 1) := by decide +kernel
theorem dX4_add_18 : decode cX4_add 18 = .ok (.iastore, 1) := by decide +kernel
theorem dX4_add_19 : decode cX4_add 19 = .ok (.aload_n 0, 1) := by decide +kernel
theorem dX4_add_20 : decode cX4_add 20 = .ok (.getfield 15, 3) := by decide +kernel
theorem dX4_add_23 : decode cX4_add 23 = .ok (.aload_n 0, 1) := by decide +kernel
theorem dX4_add_24 : decode cX4_add 24 = .ok (.getfield 21, 3) := by decide +kernel
theorem dX4_add_27 : decode cX4_add 27 = .ok (.iload_n 2, 1) := by decide +kernel
theorem dX4_add_28 : decode cX4_add 28 = .ok (.iastore, 1) := by decide +kernel
theorem dX4_add_29 : decode cX4_add 29 = .ok (.aload_n 0, 1) := by decide +kernel
theorem dX4_add_30 : decode cX4_add 30 = .ok (.getfield 18, 3) := by decide +kernel
theorem dX4_add_33 : decode cX4_add 33 = .ok (.aload_n 0, 1) := by decide +kernel
theorem dX4_add_34 : decode cX4_add 34 = .ok (.getfield 21, 3) := by decide +kernel
theorem dX4_add_37 : decode cX4_add 37 = .ok (.iload_n 3, 1) := by decide +kernel
theorem dX4_add_38 : decode cX4_add 38 = .ok (.iastore, 1) := by decide +kernel
theorem dX4_add_39 : decode cX4_add 39 = .ok (.aload_n 0, 1) := by decide +kernel
theorem dX4_add_40 : decode cX4_add 40 = .ok (.dup, 1) := by decide +kernel
theorem dX4_add_41 : decode cX4_add 41 = .ok (.getfield 21, 3) := by decide +kernel
theorem dX4_add_44 : decode cX4_add 44 = .ok (.iconst 1, 1) := by decide +kernel
theorem dX4_add_45 : decode cX4_add 45 = .ok (.iadd, 1) := by decide +kernel
theorem dX4_add_46 : decode cX4_add 46 = .ok (.putfield 21, 3) := by decide +kernel
theorem dX4_add_49 : decode cX4_add 49 = .ok (.return_, 1) := by decide +kernel
theorem dX4_remove_0 : decode cX4_remove 0 = .ok (.iload_n 1, 1) := by decide +kernel
theorem dX4_remove_1 : decode cX4_remove 1 = .ok (.iconst 1, 1) := by decide +kernel
theorem dX4_remove_2 : decode cX4_remove 2 = .ok (.iadd, 1) := by decide +kernel
theorem dX4_remove_3 : decode cX4_remove 3 = .ok (.istore_n 2, 1) := by decide +kernel
theorem dX4_remove_4 : decode cX4_remove 4 = .ok (.iload_n 2, 1) := by decide +kernel
theorem dX4_remove_5 : decode cX4_remove 5 = .ok (.aload_n 0, 1) := by decide +kernel
theorem dX4_remove_6 : decode cX4_remove 6 = .ok (.getfield 21, 3) := by decide +kernel
theorem dX4_remove_9 : decode cX4_remove 9 = .ok (.if_icmp .ge 51, 3) := by decide +kernel
theorem dX4_remove_12 : decode cX4_remove 12 = .ok (.aload_n 0, 1) := by decide +kernel
theorem dX4_remove_13 : decode cX4_remove 13 = .ok (.getfield 9, 3) := by decide +kernel
theorem dX4_remove_16 : decode cX4_remove 16 = .ok (.iload_n 2, 1) := by decide +kernel
theorem dX4_remove_17 : decode cX4_remove 17 = .ok (.iconst 1, 1) := by decide +kernel
theorem dX4_remove_18 : decode cX4_remove 18 = .ok (.isub, 1) := by decide +kernel
theorem dX4_remove_19 : decode cX4_remove 19 = .ok (.aload_n 0, 1) := by decide +kernel
theorem dX4_remove_20 : decode cX4_remove 20 = .ok (.getfield 9, 3) := by decide +kernel
theorem dX4_remove_23 : decode cX4_remove 23 = .ok (.iload_n 2, 1) := by decide +kernel
theorem dX4_remove_24 : decode cX4_remove 24 = .ok (.iaload, 1) := by decide +kernel
theorem dX4_remove_25 : decode cX4_remove 25 = .ok (.iastore, 1) := by decide +kernel
theorem dX4_remove_26 : decode cX4_remove 26 = .ok (.aload_n 0, 1) := by decide +kernel
theorem dX4_remove_27 : decode cX4_remove 27 = .ok (.getfield 15, 3) := by decide +kernel
theorem dX4_remove_30 : decode cX4_remove 30 = .ok (.iload_n 2, 1) := by decide +kernel
theorem dX4_remove_31 : decode cX4_remove 31 = .ok (.iconst 1, 1) := by decide +kernel
theorem dX4_remove_32 : decode cX4_remove 32 = .ok (.isub, 1) := by decide +kernel
theorem dX4_remove_33 : decode cX4_remove 33 = .ok (.aload_n 0, 1) := by decide +kernel
theorem dX4_remove_34 : decode cX4_remove 34 = .ok (.getfield 15, 3) := by decide +kernel
theorem dX4_remove_37 : decode cX4_remove 37 = .ok (.iload_n 2, 1) := by decide +kernel
theorem dX4_remove_38 : decode cX4_remove 38 = .ok (.iaload, 1) := by decide +kernel
theorem dX4_remove_39 : decode cX4_remove 39 = .ok (.iastore, 1) := by decide +kernel
theorem dX4_remove_40 : decode cX4_remove 40 = .ok (.aload_n 0, 1) := by decide +kernel
theorem dX4_remove_41 : decode cX4_remove 41 = .ok (.getfield 18, 3) := by decide +kernel
theorem dX4_remove_44 : decode cX4_remove 44 = .ok (.iload_n 2, 1) := by decide +kernel
theorem dX4_remove_45 : decode cX4_remove 45 = .ok (.iconst 1, 1) := by decide +kernel
theorem dX4_remove_46 : decode cX4_remove 46 = .ok (.isub, 1) := by decide +kernel
theorem dX4_remove_47 : decode cX4_remove 47 = .ok (.aload_n 0, 1) := by decide +kernel
theorem dX4_remove_48 : decode cX4_remove 48 = .ok (.getfield 18, 3) := by decide +kernel
theorem dX4_remove_51 : decode cX4_remove 51 = .ok (.iload_n 2, 1) := by decide +kernel
theorem dX4_remove_52 : decode cX4_remove 52 = .ok (.iaload, 1) := by decide +kernel
theorem dX4_remove_53 : decode cX4_remove 53 = .ok (.iastore, 1) := by decide +kernel
theorem dX4_remove_54 : decode cX4_remove 54 = .ok (.iinc 2 1, 3) := by decide +kernel
theorem dX4_remove_57 : decode cX4_remove 57 = .ok (.goto (-53), 3) := by decide +kernel
theorem dX4_remove_60 : decode cX4_remove 60 = .ok (.aload_n 0, 1) := by decide +kernel
theorem dX4_remove_61 : decode cX4_remove 61 = .ok (.dup, 1) := by decide +kernel
theorem dX4_remove_62 : decode cX4_remove 62 = .ok (.getfield 21, 3) := by decide +kernel
theorem dX4_remove_65 : decode cX4_remove 65 = .ok (.iconst 1, 1) := by decide +kernel
theorem dX4_remove_66 : decode cX4_remove 66 = .ok (.isub, 1) := by decide +kernel
theorem dX4_remove_67 : decode cX4_remove 67 = .ok (.putfield 21, 3) := by decide +kernel
theorem dX4_remove_70 : decode cX4_remove 70 = .ok (.return_, 1) := by decide +kernel
theorem dX4_clear_0 : decode cX4_clear 0 = .ok (.aload_n 0, 1) := by decide +kernel
theorem dX4_clear_1 : decode cX4_clear 1 = .ok (.iconst 0, 1) := by decide +kernel
theorem dX4_clear_2 : decode cX4_clear 2 = .ok (.putfield 21, 3) := by decide +kernel
theorem dX4_clear_5 : decode cX4_clear 5 = .ok (.return_, 1) := by decide +kernel
theorem dX4_copyFrom_0 : decode cX4_copyFrom 0 = .ok (.aload_n 0, 1) := by decide +kernel
theorem dX4_copyFrom_1 : decode cX4_copyFrom 1 = .ok (.aload_n 1, 1) := by decide +kernel
theorem dX4_copyFrom_2 : decode cX4_copyFrom 2 = .ok (.getfield 21, 3) := by decide +kernel
theorem dX4_copyFrom_5 : decode cX4_copyFrom 5 = .ok (.putfield 21, 3) := by decide +kernel
theorem dX4_copyFrom_8 : decode cX4_copyFrom 8 = .ok (.aload_n 1, 1) := by decide +kernel
theorem dX4_copyFrom_9 : decode cX4_copyFrom 9 = .ok (.getfield 9, 3) := by decide +kernel
theorem dX4_copyFrom_12 : decode cX4_copyFrom 12 = .ok (.iconst 0, 1) := by decide +kernel
theorem dX4_copyFrom_13 : decode cX4_copyFrom 13 = .ok (.aload_n 0, 1) := by decide +kernel
theorem dX4_copyFrom_14 : decode cX4_copyFrom 14 = .ok (.getfield 9, 3) := by decide +kernel
theorem dX4_copyFrom_17 : decode cX4_copyFrom 17 = .ok (.iconst 0, 1) := by decide +kernel
theorem dX4_copyFrom_18 : decode cX4_copyFrom 18 = .ok (.aload_n 0, 1) := by decide +kernel
theorem dX4_copyFrom_19 : decode cX4_copyFrom 19 = .ok (.getfield 21, 3) := by decide +kernel
theorem dX4_copyFrom_22 : decode cX4_copyFrom 22 = .ok (.invokestatic 31, 3) := by decide +kernel
theorem dX4_copyFrom_25 : decode cX4_copyFrom 25 = .ok (.aload_n 1, 1) := by decide +kernel
theorem dX4_copyFrom_26 : decode cX4_copyFrom 26 = .ok (.getfield 15, 3) := by decide +kernel
theorem dX4_copyFrom_29 : decode cX4_copyFrom 29 = .ok (.iconst 0, 1) := by decide +kernel
theorem dX4_copyFrom_30 : decode cX4_copyFrom 30 = .ok (.aload_n 0, 1) := by decide +kernel
theorem dX4_copyFrom_31 : decode cX4_copyFrom 31 = .ok (.getfield 15, 3) := by decide +kernel
theorem dX4_copyFrom_34 : decode cX4_copyFrom 34 = .ok (.iconst 0, 1) := by decide +kernel
theorem dX4_copyFrom_35 : decode cX4_copyFrom 35 = .ok (.aload_n 0, 1) := by decide +kernel
theorem dX4_copyFrom_36 : decode cX4_copyFrom 36 = .ok (.getfield 21, 3) := by decide +kernel
theorem dX4_copyFrom_39 : decode cX4_copyFrom 39 = .ok (.invokestatic 31, 3) := by decide +kernel
theorem dX4_copyFrom_42 : decode cX4_copyFrom 42 = .ok (.aload_n 1, 1) := by decide +kernel
theorem dX4_copyFrom_43 : decode cX4_copyFrom 43 = .ok (.getfield 18, 3) := by decide +kernel
theorem dX4_copyFrom_46 : decode cX4_copyFrom 46 = .ok (.iconst 0, 1) := by decide +kernel
theorem dX4_copyFrom_47 : decode cX4_copyFrom 47 = .ok (.aload_n 0, 1) := by decide +kernel
theorem dX4_copyFrom_48 : decode cX4_copyFrom 48 = .ok (.getfield 18, 3) := by decide +kernel
theorem dX4_copyFrom_51 : decode cX4_copyFrom 51 = .ok (.iconst 0, 1) := by decide +kernel
theorem dX4_copyFrom_52 : decode cX4_copyFrom 52 = .ok (.aload_n 0, 1) := by decide +kernel
theorem dX4_copyFrom_53 : decode cX4_copyFrom 53 = .ok (.getfield 21, 3) := by decide +kernel
theorem dX4_copyFrom_56 : decode cX4_copyFrom 56 = .ok (.invokestatic 31, 3) := by decide +kernel
theorem dX4_copyFrom_59 : decode cX4_copyFrom 59 = .ok (.return_, 1) := by decide +kernel
theorem dX5_init_0 : decode cX5_init 0 = .ok (.aload_n 0, 1) := by decide +kernel
theorem dX5_init_1 : decode cX5_init 1 = .ok (.invokespecial 3, 3) := by decide +kernel
theorem dX5_init_4 : decode cX5_init 4 = .ok (.aload_n 0, 1) := by decide +kernel
theorem dX5_init_5 : decode cX5_init 5 = .ok (.bipush 8, 2) := by decide +kernel
theorem dX5_init_7 : decode cX5_init 7 = .ok (.anewarray 9, 3) := by decide +kernel
theorem dX5_init_10 : decode cX5_init 10 = .ok (.putfield 11, 3) := by decide +kernel
theorem dX5_init_13 : decode cX5_init 13 = .ok (.iconst 0, 1) := by decide +kernel
theorem dX5_init_14 : decode cX5_init 14 = .ok (.istore_n 1, 1) := by decide +kernel
theorem dX5_init_15 : decode cX5_init 15 = .ok (.iload_n 1, 1) := by decide +kernel
theorem dX5_init_16 : decode cX5_init 16 = .ok (.bipush 8, 2) := by decide +kernel
theorem dX5_init_18 : decode cX5_init 18 = .ok (.if_icmp .ge 22, 3) := by decide +kernel
theorem dX5_init_21 : decode cX5_init 21 = .ok (.aload_n 0, 1) := by decide +kernel
theorem dX5_init_22 : decode cX5_init 22 = .ok (.getfield 11, 3) := by decide +kernel
theorem dX5_init_25 : decode cX5_init 25 = .ok (.iload_n 1, 1) := by decide +kernel
theorem dX5_init_26 : decode cX5_init 26 = .ok (.new 9, 3) := by decide +kernel
theorem dX5_init_29 : decode cX5_init 29 = .ok (.dup, 1) := by decide +kernel
theorem dX5_init_30 : decode cX5_init 30 = .ok (.invokespecial 17, 3) := by decide +kernel
theorem dX5_init_33 : decode cX5_init 33 = .ok (.aastore, 1) := by decide +kernel
theorem dX5_init_34 : decode cX5_init 34 = .ok (.iinc 1 1, 3) := by decide +kernel
theorem dX5_init_37 : decode cX5_init 37 = .ok (.goto (-22), 3) := by decide +kernel
theorem dX5_init_40 : decode cX5_init 40 = .ok (.return_, 1) := by decide +kernel
theorem dX5_size_0 : decode cX5_size 0 = .ok (.aload_n 0, 1) := by decide +kernel
theorem dX5_size_1 : decode cX5_size 1 = .ok (.getfield 18, 3) := by decide +kernel
theorem dX5_size_4 : decode cX5_size 4 = .ok (.ireturn, 1) := by decide +kernel
theorem dX5_clear_0 : decode cX5_clear 0 = .ok (.aload_n 0, 1) := by decide +kernel
theorem dX5_clear_1 : decode cX5_clear 1 = .ok (.iconst 0, 1) := by decide +kernel
theorem dX5_clear_2 : decode cX5_clear 2 = .ok (.putfield 18, 3) := by decide +kernel
theorem dX5_clear_5 : decode cX5_clear 5 = .ok (.return_, 1) := by decide +kernel
theorem dX5_record_0 : decode cX5_record 0 = .ok (.aload_n 0, 1) := by decide +kernel
theorem dX5_record_1 : decode cX5_record 1 = .ok (.getfield 11, 3) := by decide +kernel
theorem dX5_record_4 : decode cX5_record 4 = .ok (.aload_n 0, 1) := by decide +kernel
theorem dX5_record_5 : decode cX5_record 5 = .ok (.getfield 22, 3) := by decide +kernel
theorem dX5_record_8 : decode cX5_record 8 = .ok (.aaload, 1) := by decide +kernel
theorem dX5_record_9 : decode cX5_record 9 = .ok (.aload_n 1, 1) := by decide +kernel
theorem dX5_record_10 : decode cX5_record 10 = .ok (.invokevirtual 25, 3) := by decide +kernel
theorem dX5_record_13 : decode cX5_record 13 = .ok (.aload_n 0, 1) := by decide +kernel
theorem dX5_record_14 : decode cX5_record 14 = .ok (.aload_n 0, 1) := by decide +kernel
theorem dX5_record_15 : decode cX5_record 15 = .ok (.getfield 22, 3) := by decide +kernel
theorem dX5_record_18 : decode cX5_record 18 = .ok (.iconst 1, 1) := by decide +kernel
theorem dX5_record_19 : decode cX5_record 19 = .ok (.iadd, 1) := by decide +kernel
theorem dX5_record_20 : decode cX5_record 20 = .ok (.bipush 8, 2) := by decide +kernel
theorem dX5_record_22 : decode cX5_record 22 = .ok (.irem, 1) := by decide +kernel
theorem dX5_record_23 : decode cX5_record 23 = .ok (.putfield 22, 3) := by decide +kernel
theorem dX5_record_26 : decode cX5_record 26 = .ok (.aload_n 0, 1) := by decide +kernel
theorem dX5_record_27 : decode cX5_record 27 = .ok (.aload_n 0, 1) := by decide +kernel
theorem dX5_record_28 : decode cX5_record 28 = .ok (.getfield 18, 3) := by decide +kernel
theorem dX5_record_31 : decode cX5_record 31 = .ok (.iconst 1, 1) := by decide +kernel
theorem dX5_record_32 : decode cX5_record 32 = .ok (.iadd, 1) := by decide +kernel
theorem dX5_record_33 : decode cX5_record 33 = .ok (.bipush 8, 2) := by decide +kernel
theorem dX5_record_35 : decode cX5_record 35 = .ok (.invokestatic 29, 3) := by decide +kernel
theorem dX5_record_38 : decode cX5_record 38 = .ok (.putfield 18, 3) := by decide +kernel
theorem dX5_record_41 : decode cX5_record 41 = .ok (.return_, 1) := by decide +kernel
theorem dX5_takeBack_0 : decode cX5_takeBack 0 = .ok (.aload_n 0, 1) := by decide +kernel
theorem dX5_takeBack_1 : decode cX5_takeBack 1 = .ok (.aload_n 0, 1) := by decide +kernel
theorem dX5_takeBack_2 : decode cX5_takeBack 2 = .ok (.getfield 22, 3) := by decide +kernel
theorem dX5_takeBack_5 : decode cX5_takeBack 5 = .ok (.bipush 8, 2) := by decide +kernel
theorem dX5_takeBack_7 : decode cX5_takeBack 7 = .ok (.iadd, 1) := by decide +kernel
theorem dX5_takeBack_8 : decode cX5_takeBack 8 = .ok (.iconst 1, 1) := by decide +kernel
theorem dX5_takeBack_9 : decode cX5_takeBack 9 = .ok (.isub, 1) := by decide +kernel
theorem dX5_takeBack_10 : decode cX5_takeBack 10 = .ok (.bipush 8, 2) := by decide +kernel
theorem dX5_takeBack_12 : decode cX5_takeBack 12 = .ok (.irem, 1) := by decide +kernel
theorem dX5_takeBack_13 : decode cX5_takeBack 13 = .ok (.putfield 22, 3) := by decide +kernel
theorem dX5_takeBack_16 : decode cX5_takeBack 16 = .ok (.aload_n 0, 1) := by decide +kernel
theorem dX5_takeBack_17 : decode cX5_takeBack 17 = .ok (.dup, 1) := by decide +kernel
theorem dX5_takeBack_18 : decode cX5_takeBack 18 = .ok (.getfield 18, 3) := by decide +kernel
theorem dX5_takeBack_21 : decode cX5_takeBack 21 = .ok (.iconst 1, 1) := by decide +kernel
theorem dX5_takeBack_22 : decode cX5_takeBack 22 = .ok (.isub, 1) := by decide +kernel
theorem dX5_takeBack_23 : decode cX5_takeBack 23 = .ok (.putfield 18, 3) := by decide +kernel
theorem dX5_takeBack_26 : decode cX5_takeBack 26 = .ok (.aload_n 1, 1) := by decide +kernel
theorem dX5_takeBack_27 : decode cX5_takeBack 27 = .ok (.aload_n 0, 1) := by decide +kernel
theorem dX5_takeBack_28 : decode cX5_takeBack 28 = .ok (.getfield 11, 3) := by decide +kernel
theorem dX5_takeBack_31 : decode cX5_takeBack 31 = .ok (.aload_n 0, 1) := by decide +kernel
theorem dX5_takeBack_32 : decode cX5_takeBack 32 = .ok (.getfield 22, 3) := by decide +kernel
theorem dX5_takeBack_35 : decode cX5_takeBack 35 = .ok (.aaload, 1) := by decide +kernel
theorem dX5_takeBack_36 : decode cX5_takeBack 36 = .ok (.invokevirtual 25, 3) := by decide +kernel
theorem dX5_takeBack_39 : decode cX5_takeBack 39 = .ok (.return_, 1) := by decide +kernel
theorem dX6_init_0 : decode cX6_init 0 = .ok (.aload_n 0, 1) := by decide +kernel
theorem dX6_init_1 : decode cX6_init 1 = .ok (.invokespecial 3, 3) := by decide +kernel
theorem dX6_init_4 : decode cX6_init 4 = .ok (.aload_n 0, 1) := by decide +kernel
theorem dX6_init_5 : decode cX6_init 5 = .ok (.sipush 700, 3) := by decide +kernel
theorem dX6_init_8 : decode cX6_init 8 = .ok (.newarray .byte, 2) := by decide +kernel
theorem dX6_init_10 : decode cX6_init 10 = .ok (.putfield 9, 3) := by decide +kernel
theorem dX6_init_13 : decode cX6_init 13 = .ok (.return_, 1) := by decide +kernel
theorem dX6_size_0 : decode cX6_size 0 = .ok (.aload_n 0, 1) := by decide +kernel
theorem dX6_size_1 : decode cX6_size 1 = .ok (.getfield 15, 3) := by decide +kernel
theorem dX6_size_4 : decode cX6_size 4 = .ok (.ireturn, 1) := by decide +kernel
theorem dX6_append_0 : decode cX6_append 0 = .ok (.bipush 24, 2) := by decide +kernel
theorem dX6_append_2 : decode cX6_append 2 = .ok (.istore_n 2, 1) := by decide +kernel
theorem dX6_append_3 : decode cX6_append 3 = .ok (.iload_n 2, 1) := by decide +kernel
theorem dX6_append_4 : decode cX6_append 4 = .ok (.ifCond .lt 42, 3) := by decide +kernel
theorem dX6_append_7 : decode cX6_append 7 = .ok (.aload_n 0, 1) := by decide +kernel
theorem dX6_append_8 : decode cX6_append 8 = .ok (.getfield 15, 3) := by decide +kernel
theorem dX6_append_11 : decode cX6_append 11 = .ok (.sipush 700, 3) := by decide +kernel
theorem dX6_append_14 : decode cX6_append 14 = .ok (.if_icmp .ge 32, 3) := by decide +kernel
theorem dX6_append_17 : decode cX6_append 17 = .ok (.aload_n 0, 1) := by decide +kernel
theorem dX6_append_18 : decode cX6_append 18 = .ok (.getfield 9, 3) := by decide +kernel
theorem dX6_append_21 : decode cX6_append 21 = .ok (.aload_n 0, 1) := by decide +kernel
theorem dX6_append_22 : decode cX6_append 22 = .ok (.getfield 15, 3) := by decide +kernel
theorem dX6_append_25 : decode cX6_append 25 = .ok (.iload_n 1, 1) := by decide +kernel
theorem dX6_append_26 : decode cX6_append 26 = .ok (.iload_n 2, 1) := by decide +kernel
theorem dX6_append_27 : decode cX6_append 27 = .ok (.ishr, 1) := by decide +kernel
theorem dX6_append_28 : decode cX6_append 28 = .ok (.i2b, 1) := by decide +kernel
theorem dX6_append_29 : decode cX6_append 29 = .ok (.bastore, 1) := by decide +kernel
theorem dX6_append_30 : decode cX6_append 30 = .ok (.aload_n 0, 1) := by decide +kernel
theorem dX6_append_31 : decode cX6_append 31 = .ok (.dup, 1) := by decide +kernel
theorem dX6_append_32 : decode cX6_append 32 = .ok (.getfield 15, 3) := by decide +kernel
theorem dX6_append_35 : decode cX6_append 35 = .ok (.iconst 1, 1) := by decide +kernel
theorem dX6_append_36 : decode cX6_append 36 = .ok (.iadd, 1) := by decide +kernel
theorem dX6_append_37 : decode cX6_append 37 = .ok (.putfield 15, 3) := by decide +kernel
theorem dX6_append_40 : decode cX6_append 40 = .ok (.iinc 2 (-8), 3) := by decide +kernel
theorem dX6_append_43 : decode cX6_append 43 = .ok (.goto (-40), 3) := by decide +kernel
theorem dX6_append_46 : decode cX6_append 46 = .ok (.return_, 1) := by decide +kernel
theorem dX6_clear_0 : decode cX6_clear 0 = .ok (.aload_n 0, 1) := by decide +kernel
theorem dX6_clear_1 : decode cX6_clear 1 = .ok (.iconst 0, 1) := by decide +kernel
theorem dX6_clear_2 : decode cX6_clear 2 = .ok (.putfield 15, 3) := by decide +kernel
theorem dX6_clear_5 : decode cX6_clear 5 = .ok (.return_, 1) := by decide +kernel
theorem dX6_startText_0 : decode cX6_startText 0 = .ok (.aload_n 0, 1) := by decide +kernel
theorem dX6_startText_1 : decode cX6_startText 1 = .ok (.iload_n 1, 1) := by decide +kernel
theorem dX6_startText_2 : decode cX6_startText 2 = .ok (.aload_n 0, 1) := by decide +kernel
theorem dX6_startText_3 : decode cX6_startText 3 = .ok (.getfield 15, 3) := by decide +kernel
theorem dX6_startText_6 : decode cX6_startText 6 = .ok (.invokestatic 19, 3) := by decide +kernel
theorem dX6_startText_9 : decode cX6_startText 9 = .ok (.putfield 25, 3) := by decide +kernel
theorem dX6_startText_12 : decode cX6_startText 12 = .ok (.aload_n 0, 1) := by decide +kernel
theorem dX6_startText_13 : decode cX6_startText 13 = .ok (.iconst 0, 1) := by decide +kernel
theorem dX6_startText_14 : decode cX6_startText 14 = .ok (.putfield 28, 3) := by decide +kernel
theorem dX6_startText_17 : decode cX6_startText 17 = .ok (.aload_n 0, 1) := by decide +kernel
theorem dX6_startText_18 : decode cX6_startText 18 = .ok (.invokevirtual 31, 3) := by decide +kernel
theorem dX6_startText_21 : decode cX6_startText 21 = .ok (.return_, 1) := by decide +kernel
theorem dX6_next_0 : decode cX6_next 0 = .ok (.aload_n 0, 1) := by decide +kernel
theorem dX6_next_1 : decode cX6_next 1 = .ok (.getfield 28, 3) := by decide +kernel
theorem dX6_next_4 : decode cX6_next 4 = .ok (.aload_n 0, 1) := by decide +kernel
theorem dX6_next_5 : decode cX6_next 5 = .ok (.getfield 25, 3) := by decide +kernel
theorem dX6_next_8 : decode cX6_next 8 = .ok (.if_icmp .ge 28, 3) := by decide +kernel
theorem dX6_next_11 : decode cX6_next 11 = .ok (.aload_n 0, 1) := by decide +kernel
theorem dX6_next_12 : decode cX6_next 12 = .ok (.aload_n 0, 1) := by decide +kernel
theorem dX6_next_13 : decode cX6_next 13 = .ok (.getfield 28, 3) := by decide +kernel
theorem dX6_next_16 : decode cX6_next 16 = .ok (.invokevirtual 34, 3) := by decide +kernel
theorem dX6_next_19 : decode cX6_next 19 = .ok (.iconst 1, 1) := by decide +kernel
theorem dX6_next_20 : decode cX6_next 20 = .ok (.if_icmp .ne 16, 3) := by decide +kernel
theorem dX6_next_23 : decode cX6_next 23 = .ok (.aload_n 0, 1) := by decide +kernel
theorem dX6_next_24 : decode cX6_next 24 = .ok (.dup, 1) := by decide +kernel
theorem dX6_next_25 : decode cX6_next 25 = .ok (.getfield 28, 3) := by decide +kernel
theorem dX6_next_28 : decode cX6_next 28 = .ok (.iconst 1, 1) := by decide +kernel
theorem dX6_next_29 : decode cX6_next 29 = .ok (.iadd, 1) := by decide +kernel
theorem dX6_next_30 : decode cX6_next 30 = .ok (.putfield 28, 3) := by decide +kernel
theorem dX6_next_33 : decode cX6_next 33 = .ok (.goto (-33), 3) := by decide +kernel
theorem dX6_next_36 : decode cX6_next 36 = .ok (.aload_n 0, 1) := by decide +kernel
theorem dX6_next_37 : decode cX6_next 37 = .ok (.aload_n 0, 1) := by decide +kernel
theorem dX6_next_38 : decode cX6_next 38 = .ok (.getfield 28, 3) := by decide +kernel
theorem dX6_next_41 : decode cX6_next 41 = .ok (.putfield 38, 3) := by decide +kernel
theorem dX6_next_44 : decode cX6_next 44 = .ok (.aload_n 0, 1) := by decide +kernel
theorem dX6_next_45 : decode cX6_next 45 = .ok (.aload_n 0, 1) := by decide +kernel
theorem dX6_next_46 : decode cX6_next 46 = .ok (.aload_n 0, 1) := by decide +kernel
theorem dX6_next_47 : decode cX6_next 47 = .ok (.getfield 38, 3) := by decide +kernel
theorem dX6_next_50 : decode cX6_next 50 = .ok (.invokevirtual 34, 3) := by decide +kernel
theorem dX6_next_53 : decode cX6_next 53 = .ok (.putfield 41, 3) := by decide +kernel
theorem dX6_next_56 : decode cX6_next 56 = .ok (.aload_n 0, 1) := by decide +kernel
theorem dX6_next_57 : decode cX6_next 57 = .ok (.iconst 0, 1) := by decide +kernel
theorem dX6_next_58 : decode cX6_next 58 = .ok (.putfield 44, 3) := by decide +kernel
theorem dX6_next_61 : decode cX6_next 61 = .ok (.aload_n 0, 1) := by decide +kernel
theorem dX6_next_62 : decode cX6_next 62 = .ok (.getfield 41, 3) := by decide +kernel
theorem dX6_next_65 : decode cX6_next 65 = .ok (.iconst 2, 1) := by decide +kernel
theorem dX6_next_66 : decode cX6_next 66 = .ok (.if_icmp .eq 11, 3) := by decide +kernel
theorem dX6_next_69 : decode cX6_next 69 = .ok (.aload_n 0, 1) := by decide +kernel
theorem dX6_next_70 : decode cX6_next 70 = .ok (.getfield 41, 3) := by decide +kernel
theorem dX6_next_73 : decode cX6_next 73 = .ok (.iconst 3, 1) := by decide +kernel
theorem dX6_next_74 : decode cX6_next 74 = .ok (.if_icmp .ne 7, 3) := by decide +kernel
theorem dX6_next_77 : decode cX6_next 77 = .ok (.iconst 1, 1) := by decide +kernel
theorem dX6_next_78 : decode cX6_next 78 = .ok (.goto 4, 3) := by decide +kernel
theorem dX6_next_81 : decode cX6_next 81 = .ok (.iconst 0, 1) := by decide +kernel
theorem dX6_next_82 : decode cX6_next 82 = .ok (.istore_n 1, 1) := by decide +kernel
theorem dX6_next_83 : decode cX6_next 83 = .ok (.iload_n 1, 1) := by decide +kernel
theorem dX6_next_84 : decode cX6_next 84 = .ok (.ifCond .eq 10, 3) := by decide +kernel
theorem dX6_next_87 : decode cX6_next 87 = .ok (.aload_n 0, 1) := by decide +kernel
theorem dX6_next_88 : decode cX6_next 88 = .ok (.getfield 25, 3) := by decide +kernel
theorem dX6_next_91 : decode cX6_next 91 = .ok (.goto 16, 3) := by decide +kernel
theorem dX6_next_94 : decode cX6_next 94 = .ok (.aload_n 0, 1) := by decide +kernel
theorem dX6_next_95 : decode cX6_next 95 = .ok (.getfield 38, 3) := by decide +kernel
theorem dX6_next_98 : decode cX6_next 98 = .ok (.iconst 1, 1) := by decide +kernel
theorem dX6_next_99 : decode cX6_next 99 = .ok (.iadd, 1) := by decide +kernel
theorem dX6_next_100 : decode cX6_next 100 = .ok (.aload_n 0, 1) := by decide +kernel
theorem dX6_next_101 : decode cX6_next 101 = .ok (.getfield 25, 3) := by decide +kernel
theorem dX6_next_104 : decode cX6_next 104 = .ok (.invokestatic 19, 3) := by decide +kernel
theorem dX6_next_107 : decode cX6_next 107 = .ok (.istore_n 2, 1) := by decide +kernel
theorem dX6_next_108 : decode cX6_next 108 = .ok (.aload_n 0, 1) := by decide +kernel
theorem dX6_next_109 : decode cX6_next 109 = .ok (.getfield 28, 3) := by decide +kernel
theorem dX6_next_112 : decode cX6_next 112 = .ok (.iload_n 2, 1) := by decide +kernel
theorem dX6_next_113 : decode cX6_next 113 = .ok (.if_icmp .ge 72, 3) := by decide +kernel
theorem dX6_next_116 : decode cX6_next 116 = .ok (.aload_n 0, 1) := by decide +kernel
theorem dX6_next_117 : decode cX6_next 117 = .ok (.aload_n 0, 1) := by decide +kernel
theorem dX6_next_118 : decode cX6_next 118 = .ok (.getfield 28, 3) := by decide +kernel
theorem dX6_next_121 : decode cX6_next 121 = .ok (.invokevirtual 34, 3) := by decide +kernel
theorem dX6_next_124 : decode cX6_next 124 = .ok (.aload_n 0, 1) := by decide +kernel
theorem dX6_next_125 : decode cX6_next 125 = .ok (.getfield 41, 3) := by decide +kernel
theorem dX6_next_128 : decode cX6_next 128 = .ok (.if_icmp .ne 57, 3) := by decide +kernel
theorem dX6_next_131 : decode cX6_next 131 = .ok (.aload_n 0, 1) := by decide +kernel
theorem dX6_next_132 : decode cX6_next 132 = .ok (.getfield 41, 3) := by decide +kernel
theorem dX6_next_135 : decode cX6_next 135 = .ok (.iconst 3, 1) := by decide +kernel
theorem dX6_next_136 : decode cX6_next 136 = .ok (.if_icmp .ne 36, 3) := by decide +kernel
theorem dX6_next_139 : decode cX6_next 139 = .ok (.aload_n 0, 1) := by decide +kernel
theorem dX6_next_140 : decode cX6_next 140 = .ok (.getfield 44, 3) := by decide +kernel
theorem dX6_next_143 : decode cX6_next 143 = .ok (.ldc 47, 2) := by decide +kernel
theorem dX6_next_145 : decode cX6_next 145 = .ok (.if_icmp .ge 27, 3) := by decide +kernel
theorem dX6_next_148 : decode cX6_next 148 = .ok (.aload_n 0, 1) := by decide +kernel
theorem dX6_next_149 : decode cX6_next 149 = .ok (.bipush 10, 2) := by decide +kernel
theorem dX6_next_151 : decode cX6_next 151 = .ok (.aload_n 0, 1) := by decide +kernel
theorem dX6_next_152 : decode cX6_next 152 = .ok (.getfield 44, 3) := by decide +kernel
theorem dX6_next_155 : decode cX6_next 155 = .ok (.imul, 1) := by decide +kernel
theorem dX6_next_156 : decode cX6_next 156 = .ok (.aload_n 0, 1) := by decide +kernel
theorem dX6_next_157 : decode cX6_next 157 = .ok (.getfield 9, 3) := by decide +kernel
theorem dX6_next_160 : decode cX6_next 160 = .ok (.aload_n 0, 1) := by decide +kernel
theorem dX6_next_161 : decode cX6_next 161 = .ok (.getfield 28, 3) := by decide +kernel
theorem dX6_next_164 : decode cX6_next 164 = .ok (.baload, 1) := by decide +kernel
theorem dX6_next_165 : decode cX6_next 165 = .ok (.iadd, 1) := by decide +kernel
theorem dX6_next_166 : decode cX6_next 166 = .ok (.bipush 48, 2) := by decide +kernel
theorem dX6_next_168 : decode cX6_next 168 = .ok (.isub, 1) := by decide +kernel
theorem dX6_next_169 : decode cX6_next 169 = .ok (.putfield 44, 3) := by decide +kernel
theorem dX6_next_172 : decode cX6_next 172 = .ok (.aload_n 0, 1) := by decide +kernel
theorem dX6_next_173 : decode cX6_next 173 = .ok (.dup, 1) := by decide +kernel
theorem dX6_next_174 : decode cX6_next 174 = .ok (.getfield 28, 3) := by decide +kernel
theorem dX6_next_177 : decode cX6_next 177 = .ok (.iconst 1, 1) := by decide +kernel
theorem dX6_next_178 : decode cX6_next 178 = .ok (.iadd, 1) := by decide +kernel
theorem dX6_next_179 : decode cX6_next 179 = .ok (.putfield 28, 3) := by decide +kernel
theorem dX6_next_182 : decode cX6_next 182 = .ok (.goto (-74), 3) := by decide +kernel
theorem dX6_next_185 : decode cX6_next 185 = .ok (.return_, 1) := by decide +kernel
theorem dX6_kindAt_0 : decode cX6_kindAt 0 = .ok (.iload_n 1, 1) := by decide +kernel
theorem dX6_kindAt_1 : decode cX6_kindAt 1 = .ok (.aload_n 0, 1) := by decide +kernel
theorem dX6_kindAt_2 : decode cX6_kindAt 2 = .ok (.getfield 25, 3) := by decide +kernel
theorem dX6_kindAt_5 : decode cX6_kindAt 5 = .ok (.if_icmp .lt 5, 3) := by decide +kernel
theorem dX6_kindAt_8 : decode cX6_kindAt 8 = .ok (.iconst 0, 1) := by decide +kernel
theorem dX6_kindAt_9 : decode cX6_kindAt 9 = .ok (.ireturn, 1) := by decide +kernel
theorem dX6_kindAt_10 : decode cX6_kindAt 10 = .ok (.aload_n 0, 1) := by decide +kernel
theorem dX6_kindAt_11 : decode cX6_kindAt 11 = .ok (.getfield 9, 3) := by decide +kernel
theorem dX6_kindAt_14 : decode cX6_kindAt 14 = .ok (.iload_n 1, 1) := by decide +kernel
theorem dX6_kindAt_15 : decode cX6_kindAt 15 = .ok (.baload, 1) := by decide +kernel
theorem dX6_kindAt_16 : decode cX6_kindAt 16 = .ok (.istore_n 2, 1) := by decide +kernel
theorem dX6_kindAt_17 : decode cX6_kindAt 17 = .ok (.iload_n 2, 1) := by decide +kernel
theorem dX6_kindAt_18 : decode cX6_kindAt 18 = .ok (.bipush 97, 2) := by decide +kernel
theorem dX6_kindAt_20 : decode cX6_kindAt 20 = .ok (.if_icmp .lt 11, 3) := by decide +kernel
theorem dX6_kindAt_23 : decode cX6_kindAt 23 = .ok (.iload_n 2, 1) := by decide +kernel
theorem dX6_kindAt_24 : decode cX6_kindAt 24 = .ok (.bipush 122, 2) := by decide +kernel
theorem dX6_kindAt_26 : decode cX6_kindAt 26 = .ok (.if_icmp .gt 5, 3) := by decide +kernel
theorem dX6_kindAt_29 : decode cX6_kindAt 29 = .ok (.iconst 2, 1) := by decide +kernel
theorem dX6_kindAt_30 : decode cX6_kindAt 30 = .ok (.ireturn, 1) := by decide +kernel
theorem dX6_kindAt_31 : decode cX6_kindAt 31 = .ok (.iload_n 2, 1) := by decide +kernel
theorem dX6_kindAt_32 : decode cX6_kindAt 32 = .ok (.bipush 48, 2) := by decide +kernel
theorem dX6_kindAt_34 : decode cX6_kindAt 34 = .ok (.if_icmp .lt 11, 3) := by decide +kernel
theorem dX6_kindAt_37 : decode cX6_kindAt 37 = .ok (.iload_n 2, 1) := by decide +kernel
theorem dX6_kindAt_38 : decode cX6_kindAt 38 = .ok (.bipush 57, 2) := by decide +kernel
theorem dX6_kindAt_40 : decode cX6_kindAt 40 = .ok (.if_icmp .gt 5, 3) := by decide +kernel
theorem dX6_kindAt_43 : decode cX6_kindAt 43 = .ok (.iconst 3, 1) := by decide +kernel
theorem dX6_kindAt_44 : decode cX6_kindAt 44 = .ok (.ireturn, 1) := by decide +kernel
theorem dX6_kindAt_45 : decode cX6_kindAt 45 = .ok (.iload_n 2, 1) := by decide +kernel
theorem dX6_kindAt_46 : decode cX6_kindAt 46 = .ok (.lookupswitch 48 #[(10, 42), (32, 42), (45, 46), (59, 44)], 42) := by decide +kernel
theorem dX6_kindAt_88 : decode cX6_kindAt 88 = .ok (.iconst 1, 1) := by decide +kernel
theorem dX6_kindAt_89 : decode cX6_kindAt 89 = .ok (.ireturn, 1) := by decide +kernel
theorem dX6_kindAt_90 : decode cX6_kindAt 90 = .ok (.iconst 4, 1) := by decide +kernel
theorem dX6_kindAt_91 : decode cX6_kindAt 91 = .ok (.ireturn, 1) := by decide +kernel
theorem dX6_kindAt_92 : decode cX6_kindAt 92 = .ok (.iconst 5, 1) := by decide +kernel
theorem dX6_kindAt_93 : decode cX6_kindAt 93 = .ok (.ireturn, 1) := by decide +kernel
theorem dX6_kindAt_94 : decode cX6_kindAt 94 = .ok (.bipush 6, 2) := by decide +kernel
theorem dX6_kindAt_96 : decode cX6_kindAt 96 = .ok (.ireturn, 1) := by decide +kernel
theorem dX6_offset_0 : decode cX6_offset 0 = .ok (.aload_n 0, 1) := by decide +kernel
theorem dX6_offset_1 : decode cX6_offset 1 = .ok (.getfield 38, 3) := by decide +kernel
theorem dX6_offset_4 : decode cX6_offset 4 = .ok (.ireturn, 1) := by decide +kernel
theorem dX6_isAtEnd_0 : decode cX6_isAtEnd 0 = .ok (.aload_n 0, 1) := by decide +kernel
theorem dX6_isAtEnd_1 : decode cX6_isAtEnd 1 = .ok (.getfield 41, 3) := by decide +kernel
theorem dX6_isAtEnd_4 : decode cX6_isAtEnd 4 = .ok (.ifCond .ne 7, 3) := by decide +kernel
theorem dX6_isAtEnd_7 : decode cX6_isAtEnd 7 = .ok (.iconst 1, 1) := by decide +kernel
theorem dX6_isAtEnd_8 : decode cX6_isAtEnd 8 = .ok (.goto 4, 3) := by decide +kernel
theorem dX6_isAtEnd_11 : decode cX6_isAtEnd 11 = .ok (.iconst 0, 1) := by decide +kernel
theorem dX6_isAtEnd_12 : decode cX6_isAtEnd 12 = .ok (.ireturn, 1) := by decide +kernel
theorem dX6_isNumber_0 : decode cX6_isNumber 0 = .ok (.aload_n 0, 1) := by decide +kernel
theorem dX6_isNumber_1 : decode cX6_isNumber 1 = .ok (.getfield 41, 3) := by decide +kernel
theorem dX6_isNumber_4 : decode cX6_isNumber 4 = .ok (.iconst 3, 1) := by decide +kernel
theorem dX6_isNumber_5 : decode cX6_isNumber 5 = .ok (.if_icmp .ne 7, 3) := by decide +kernel
theorem dX6_isNumber_8 : decode cX6_isNumber 8 = .ok (.iconst 1, 1) := by decide +kernel
theorem dX6_isNumber_9 : decode cX6_isNumber 9 = .ok (.goto 4, 3) := by decide +kernel
theorem dX6_isNumber_12 : decode cX6_isNumber 12 = .ok (.iconst 0, 1) := by decide +kernel
theorem dX6_isNumber_13 : decode cX6_isNumber 13 = .ok (.ireturn, 1) := by decide +kernel
theorem dX6_number_0 : decode cX6_number 0 = .ok (.aload_n 0, 1) := by decide +kernel
theorem dX6_number_1 : decode cX6_number 1 = .ok (.getfield 44, 3) := by decide +kernel
theorem dX6_number_4 : decode cX6_number 4 = .ok (.ireturn, 1) := by decide +kernel
theorem dX6_isSemicolon_0 : decode cX6_isSemicolon 0 = .ok (.aload_n 0, 1) := by decide +kernel
theorem dX6_isSemicolon_1 : decode cX6_isSemicolon 1 = .ok (.getfield 41, 3) := by decide +kernel
theorem dX6_isSemicolon_4 : decode cX6_isSemicolon 4 = .ok (.iconst 4, 1) := by decide +kernel
theorem dX6_isSemicolon_5 : decode cX6_isSemicolon 5 = .ok (.if_icmp .ne 7, 3) := by decide +kernel
theorem dX6_isSemicolon_8 : decode cX6_isSemicolon 8 = .ok (.iconst 1, 1) := by decide +kernel
theorem dX6_isSemicolon_9 : decode cX6_isSemicolon 9 = .ok (.goto 4, 3) := by decide +kernel
theorem dX6_isSemicolon_12 : decode cX6_isSemicolon 12 = .ok (.iconst 0, 1) := by decide +kernel
theorem dX6_isSemicolon_13 : decode cX6_isSemicolon 13 = .ok (.ireturn, 1) := by decide +kernel
theorem dX6_isMinus_0 : decode cX6_isMinus 0 = .ok (.aload_n 0, 1) := by decide +kernel
theorem dX6_isMinus_1 : decode cX6_isMinus 1 = .ok (.getfield 41, 3) := by decide +kernel
theorem dX6_isMinus_4 : decode cX6_isMinus 4 = .ok (.iconst 5, 1) := by decide +kernel
theorem dX6_isMinus_5 : decode cX6_isMinus 5 = .ok (.if_icmp .ne 7, 3) := by decide +kernel
theorem dX6_isMinus_8 : decode cX6_isMinus 8 = .ok (.iconst 1, 1) := by decide +kernel
theorem dX6_isMinus_9 : decode cX6_isMinus 9 = .ok (.goto 4, 3) := by decide +kernel
theorem dX6_isMinus_12 : decode cX6_isMinus 12 = .ok (.iconst 0, 1) := by decide +kernel
theorem dX6_isMinus_13 : decode cX6_isMinus 13 = .ok (.ireturn, 1) := by decide +kernel
theorem dX6_isWord_0 : decode cX6_isWord 0 = .ok (.aload_n 0, 1) := by decide +kernel
theorem dX6_isWord_1 : decode cX6_isWord 1 = .ok (.getfield 41, 3) := by decide +kernel
theorem dX6_isWord_4 : decode cX6_isWord 4 = .ok (.iconst 2, 1) := by decide +kernel
theorem dX6_isWord_5 : decode cX6_isWord 5 = .ok (.if_icmp .ne 19, 3) := by decide +kernel
theorem dX6_isWord_8 : decode cX6_isWord 8 = .ok (.aload_n 0, 1) := by decide +kernel
theorem dX6_isWord_9 : decode cX6_isWord 9 = .ok (.getfield 28, 3) := by decide +kernel
theorem dX6_isWord_12 : decode cX6_isWord 12 = .ok (.aload_n 0, 1) := by decide +kernel
theorem dX6_isWord_13 : decode cX6_isWord 13 = .ok (.getfield 38, 3) := by decide +kernel
theorem dX6_isWord_16 : decode cX6_isWord 16 = .ok (.isub, 1) := by decide +kernel
theorem dX6_isWord_17 : decode cX6_isWord 17 = .ok (.aload_n 1, 1) := by decide +kernel
theorem dX6_isWord_18 : decode cX6_isWord 18 = .ok (.invokevirtual 48, 3) := by decide +kernel
theorem dX6_isWord_21 : decode cX6_isWord 21 = .ok (.if_icmp .eq 5, 3) := by decide +kernel
theorem dX6_isWord_24 : decode cX6_isWord 24 = .ok (.iconst 0, 1) := by decide +kernel
theorem dX6_isWord_25 : decode cX6_isWord 25 = .ok (.ireturn, 1) := by decide +kernel
theorem dX6_isWord_26 : decode cX6_isWord 26 = .ok (.iconst 0, 1) := by decide +kernel
theorem dX6_isWord_27 : decode cX6_isWord 27 = .ok (.istore_n 2, 1) := by decide +kernel
theorem dX6_isWord_28 : decode cX6_isWord 28 = .ok (.iload_n 2, 1) := by decide +kernel
theorem dX6_isWord_29 : decode cX6_isWord 29 = .ok (.aload_n 1, 1) := by decide +kernel
theorem dX6_isWord_30 : decode cX6_isWord 30 = .ok (.invokevirtual 48, 3) := by decide +kernel
theorem dX6_isWord_33 : decode cX6_isWord 33 = .ok (.if_icmp .ge 30, 3) := by decide +kernel
theorem dX6_isWord_36 : decode cX6_isWord 36 = .ok (.aload_n 0, 1) := by decide +kernel
theorem dX6_isWord_37 : decode cX6_isWord 37 = .ok (.getfield 9, 3) := by decide +kernel
theorem dX6_isWord_40 : decode cX6_isWord 40 = .ok (.aload_n 0, 1) := by decide +kernel
theorem dX6_isWord_41 : decode cX6_isWord 41 = .ok (.getfield 38, 3) := by decide +kernel
theorem dX6_isWord_44 : decode cX6_isWord 44 = .ok (.iload_n 2, 1) := by decide +kernel
theorem dX6_isWord_45 : decode cX6_isWord 45 = .ok (.iadd, 1) := by decide +kernel
theorem dX6_isWord_46 : decode cX6_isWord 46 = .ok (.baload, 1) := by decide +kernel
theorem dX6_isWord_47 : decode cX6_isWord 47 = .ok (.aload_n 1, 1) := by decide +kernel
theorem dX6_isWord_48 : decode cX6_isWord 48 = .ok (.iload_n 2, 1) := by decide +kernel
theorem dX6_isWord_49 : decode cX6_isWord 49 = .ok (.invokevirtual 54, 3) := by decide +kernel
theorem dX6_isWord_52 : decode cX6_isWord 52 = .ok (.if_icmp .eq 5, 3) := by decide +kernel
theorem dX6_isWord_55 : decode cX6_isWord 55 = .ok (.iconst 0, 1) := by decide +kernel
theorem dX6_isWord_56 : decode cX6_isWord 56 = .ok (.ireturn, 1) := by decide +kernel
theorem dX6_isWord_57 : decode cX6_isWord 57 = .ok (.iinc 2 1, 3) := by decide +kernel
theorem dX6_isWord_60 : decode cX6_isWord 60 = .ok (.goto (-32), 3) := by decide +kernel
theorem dX6_isWord_63 : decode cX6_isWord 63 = .ok (.iconst 1, 1) := by decide +kernel
theorem dX6_isWord_64 : decode cX6_isWord 64 = .ok (.ireturn, 1) := by decide +kernel
theorem dX8_init_0 : decode cX8_init 0 = .ok (.aload_n 0, 1) := by decide +kernel
theorem dX8_init_1 : decode cX8_init 1 = .ok (.invokespecial 3, 3) := by decide +kernel
theorem dX8_init_4 : decode cX8_init 4 = .ok (.aload_n 0, 1) := by decide +kernel
theorem dX8_init_5 : decode cX8_init 5 = .ok (.bipush 15, 2) := by decide +kernel
theorem dX8_init_7 : decode cX8_init 7 = .ok (.newarray .long, 2) := by decide +kernel
theorem dX8_init_9 : decode cX8_init 9 = .ok (.putfield 11, 3) := by decide +kernel
theorem dX8_init_12 : decode cX8_init 12 = .ok (.return_, 1) := by decide +kernel
theorem dX8_pack_0 : decode cX8_pack 0 = .ok (.aload_n 0, 1) := by decide +kernel
theorem dX8_pack_1 : decode cX8_pack 1 = .ok (.getfield 11, 3) := by decide +kernel
theorem dX8_pack_4 : decode cX8_pack 4 = .ok (.lconst 0, 1) := by decide +kernel
theorem dX8_pack_5 : decode cX8_pack 5 = .ok (.invokestatic 15, 3) := by decide +kernel
theorem dX8_pack_8 : decode cX8_pack 8 = .ok (.aload_n 0, 1) := by decide +kernel
theorem dX8_pack_9 : decode cX8_pack 9 = .ok (.aload_n 1, 1) := by decide +kernel
theorem dX8_pack_10 : decode cX8_pack 10 = .ok (.invokevirtual 21, 3) := by decide +kernel
theorem dX8_pack_13 : decode cX8_pack 13 = .ok (.invokevirtual 27, 3) := by decide +kernel
theorem dX8_pack_16 : decode cX8_pack 16 = .ok (.putfield 33, 3) := by decide +kernel
theorem dX8_pack_19 : decode cX8_pack 19 = .ok (.iconst 0, 1) := by decide +kernel
theorem dX8_pack_20 : decode cX8_pack 20 = .ok (.istore_n 2, 1) := by decide +kernel
theorem dX8_pack_21 : decode cX8_pack 21 = .ok (.iload_n 2, 1) := by decide +kernel
theorem dX8_pack_22 : decode cX8_pack 22 = .ok (.aload_n 1, 1) := by decide +kernel
theorem dX8_pack_23 : decode cX8_pack 23 = .ok (.invokevirtual 36, 3) := by decide +kernel
theorem dX8_pack_26 : decode cX8_pack 26 = .ok (.if_icmp .ge 20, 3) := by decide +kernel
theorem dX8_pack_29 : decode cX8_pack 29 = .ok (.aload_n 0, 1) := by decide +kernel
theorem dX8_pack_30 : decode cX8_pack 30 = .ok (.iload_n 2, 1) := by decide +kernel
theorem dX8_pack_31 : decode cX8_pack 31 = .ok (.aload_n 1, 1) := by decide +kernel
theorem dX8_pack_32 : decode cX8_pack 32 = .ok (.iload_n 2, 1) := by decide +kernel
theorem dX8_pack_33 : decode cX8_pack 33 = .ok (.invokevirtual 39, 3) := by decide +kernel
theorem dX8_pack_36 : decode cX8_pack 36 = .ok (.i2l, 1) := by decide +kernel
theorem dX8_pack_37 : decode cX8_pack 37 = .ok (.invokevirtual 43, 3) := by decide +kernel
theorem dX8_pack_40 : decode cX8_pack 40 = .ok (.iinc 2 1, 3) := by decide +kernel
theorem dX8_pack_43 : decode cX8_pack 43 = .ok (.goto (-22), 3) := by decide +kernel
theorem dX8_pack_46 : decode cX8_pack 46 = .ok (.return_, 1) := by decide +kernel
theorem dX8_packCode_0 : decode cX8_packCode 0 = .ok (.iload_n 1, 1) := by decide +kernel
theorem dX8_packCode_1 : decode cX8_packCode 1 = .ok (.aload_n 0, 1) := by decide +kernel
theorem dX8_packCode_2 : decode cX8_packCode 2 = .ok (.getfield 33, 3) := by decide +kernel
theorem dX8_packCode_5 : decode cX8_packCode 5 = .ok (.imul, 1) := by decide +kernel
theorem dX8_packCode_6 : decode cX8_packCode 6 = .ok (.istore 4, 2) := by decide +kernel
theorem dX8_packCode_8 : decode cX8_packCode 8 = .ok (.iload 4, 2) := by decide +kernel
theorem dX8_packCode_10 : decode cX8_packCode 10 = .ok (.bipush 64, 2) := by decide +kernel
theorem dX8_packCode_12 : decode cX8_packCode 12 = .ok (.idiv, 1) := by decide +kernel
theorem dX8_packCode_13 : decode cX8_packCode 13 = .ok (.istore 5, 2) := by decide +kernel
theorem dX8_packCode_15 : decode cX8_packCode 15 = .ok (.iload 4, 2) := by decide +kernel
theorem dX8_packCode_17 : decode cX8_packCode 17 = .ok (.bipush 64, 2) := by decide +kernel
theorem dX8_packCode_19 : decode cX8_packCode 19 = .ok (.irem, 1) := by decide +kernel
theorem dX8_packCode_20 : decode cX8_packCode 20 = .ok (.istore 6, 2) := by decide +kernel
theorem dX8_packCode_22 : decode cX8_packCode 22 = .ok (.iload 5, 2) := by decide +kernel
theorem dX8_packCode_24 : decode cX8_packCode 24 = .ok (.bipush 15, 2) := by decide +kernel
theorem dX8_packCode_26 : decode cX8_packCode 26 = .ok (.if_icmp .ge 17, 3) := by decide +kernel
theorem dX8_packCode_29 : decode cX8_packCode 29 = .ok (.aload_n 0, 1) := by decide +kernel
theorem dX8_packCode_30 : decode cX8_packCode 30 = .ok (.getfield 11, 3) := by decide +kernel
theorem dX8_packCode_33 : decode cX8_packCode 33 = .ok (.iload 5, 2) := by decide +kernel
theorem dX8_packCode_35 : decode cX8_packCode 35 = .ok (.dup2, 1) := by decide +kernel
theorem dX8_packCode_36 : decode cX8_packCode 36 = .ok (.laload, 1) := by decide +kernel
theorem dX8_packCode_37 : decode cX8_packCode 37 = .ok (.lload_n 2, 1) := by decide +kernel
theorem dX8_packCode_38 : decode cX8_packCode 38 = .ok (.iload 6, 2) := by decide +kernel
theorem dX8_packCode_40 : decode cX8_packCode 40 = .ok (.lshl, 1) := by decide +kernel
theorem dX8_packCode_41 : decode cX8_packCode 41 = .ok (.lor, 1) := by decide +kernel
theorem dX8_packCode_42 : decode cX8_packCode 42 = .ok (.lastore, 1) := by decide +kernel
theorem dX8_packCode_43 : decode cX8_packCode 43 = .ok (.iload 6, 2) := by decide +kernel
theorem dX8_packCode_45 : decode cX8_packCode 45 = .ok (.aload_n 0, 1) := by decide +kernel
theorem dX8_packCode_46 : decode cX8_packCode 46 = .ok (.getfield 33, 3) := by decide +kernel
theorem dX8_packCode_49 : decode cX8_packCode 49 = .ok (.iadd, 1) := by decide +kernel
theorem dX8_packCode_50 : decode cX8_packCode 50 = .ok (.bipush 64, 2) := by decide +kernel
theorem dX8_packCode_52 : decode cX8_packCode 52 = .ok (.if_icmp .le 31, 3) := by decide +kernel
theorem dX8_packCode_55 : decode cX8_packCode 55 = .ok (.iload 5, 2) := by decide +kernel
theorem dX8_packCode_57 : decode cX8_packCode 57 = .ok (.iconst 1, 1) := by decide +kernel
theorem dX8_packCode_58 : decode cX8_packCode 58 = .ok (.iadd, 1) := by decide +kernel
theorem dX8_packCode_59 : decode cX8_packCode 59 = .ok (.bipush 15, 2) := by decide +kernel
theorem dX8_packCode_61 : decode cX8_packCode 61 = .ok (.if_icmp .ge 22, 3) := by decide +kernel
theorem dX8_packCode_64 : decode cX8_packCode 64 = .ok (.aload_n 0, 1) := by decide +kernel
theorem dX8_packCode_65 : decode cX8_packCode 65 = .ok (.getfield 11, 3) := by decide +kernel
theorem dX8_packCode_68 : decode cX8_packCode 68 = .ok (.iload 5, 2) := by decide +kernel
theorem dX8_packCode_70 : decode cX8_packCode 70 = .ok (.iconst 1, 1) := by decide +kernel
theorem dX8_packCode_71 : decode cX8_packCode 71 = .ok (.iadd, 1) := by decide +kernel
theorem dX8_packCode_72 : decode cX8_packCode 72 = .ok (.dup2, 1) := by decide +kernel
theorem dX8_packCode_73 : decode cX8_packCode 73 = .ok (.laload, 1) := by decide +kernel
theorem dX8_packCode_74 : decode cX8_packCode 74 = .ok (.lload_n 2, 1) := by decide +kernel
theorem dX8_packCode_75 : decode cX8_packCode 75 = .ok (.bipush 64, 2) := by decide +kernel
theorem dX8_packCode_77 : decode cX8_packCode 77 = .ok (.iload 6, 2) := by decide +kernel
theorem dX8_packCode_79 : decode cX8_packCode 79 = .ok (.isub, 1) := by decide +kernel
theorem dX8_packCode_80 : decode cX8_packCode 80 = .ok (.lushr, 1) := by decide +kernel
theorem dX8_packCode_81 : decode cX8_packCode 81 = .ok (.lor, 1) := by decide +kernel
theorem dX8_packCode_82 : decode cX8_packCode 82 = .ok (.lastore, 1) := by decide +kernel
theorem dX8_packCode_83 : decode cX8_packCode 83 = .ok (.return_, 1) := by decide +kernel
theorem dX8_unpack_0 : decode cX8_unpack 0 = .ok (.iconst 0, 1) := by decide +kernel
theorem dX8_unpack_1 : decode cX8_unpack 1 = .ok (.istore_n 2, 1) := by decide +kernel
theorem dX8_unpack_2 : decode cX8_unpack 2 = .ok (.iconst 0, 1) := by decide +kernel
theorem dX8_unpack_3 : decode cX8_unpack 3 = .ok (.istore_n 3, 1) := by decide +kernel
theorem dX8_unpack_4 : decode cX8_unpack 4 = .ok (.iload_n 3, 1) := by decide +kernel
theorem dX8_unpack_5 : decode cX8_unpack 5 = .ok (.aload_n 0, 1) := by decide +kernel
theorem dX8_unpack_6 : decode cX8_unpack 6 = .ok (.getfield 33, 3) := by decide +kernel
theorem dX8_unpack_9 : decode cX8_unpack 9 = .ok (.if_icmp .ge 59, 3) := by decide +kernel
theorem dX8_unpack_12 : decode cX8_unpack 12 = .ok (.iload_n 1, 1) := by decide +kernel
theorem dX8_unpack_13 : decode cX8_unpack 13 = .ok (.aload_n 0, 1) := by decide +kernel
theorem dX8_unpack_14 : decode cX8_unpack 14 = .ok (.getfield 33, 3) := by decide +kernel
theorem dX8_unpack_17 : decode cX8_unpack 17 = .ok (.imul, 1) := by decide +kernel
theorem dX8_unpack_18 : decode cX8_unpack 18 = .ok (.iload_n 3, 1) := by decide +kernel
theorem dX8_unpack_19 : decode cX8_unpack 19 = .ok (.iadd, 1) := by decide +kernel
theorem dX8_unpack_20 : decode cX8_unpack 20 = .ok (.istore 4, 2) := by decide +kernel
theorem dX8_unpack_22 : decode cX8_unpack 22 = .ok (.iload 4, 2) := by decide +kernel
theorem dX8_unpack_24 : decode cX8_unpack 24 = .ok (.bipush 64, 2) := by decide +kernel
theorem dX8_unpack_26 : decode cX8_unpack 26 = .ok (.idiv, 1) := by decide +kernel
theorem dX8_unpack_27 : decode cX8_unpack 27 = .ok (.istore 5, 2) := by decide +kernel
theorem dX8_unpack_29 : decode cX8_unpack 29 = .ok (.iload 5, 2) := by decide +kernel
theorem dX8_unpack_31 : decode cX8_unpack 31 = .ok (.bipush 15, 2) := by decide +kernel
theorem dX8_unpack_33 : decode cX8_unpack 33 = .ok (.if_icmp .ge 29, 3) := by decide +kernel
theorem dX8_unpack_36 : decode cX8_unpack 36 = .ok (.aload_n 0, 1) := by decide +kernel
theorem dX8_unpack_37 : decode cX8_unpack 37 = .ok (.getfield 11, 3) := by decide +kernel
theorem dX8_unpack_40 : decode cX8_unpack 40 = .ok (.iload 5, 2) := by decide +kernel
theorem dX8_unpack_42 : decode cX8_unpack 42 = .ok (.laload, 1) := by decide +kernel
theorem dX8_unpack_43 : decode cX8_unpack 43 = .ok (.iload 4, 2) := by decide +kernel
theorem dX8_unpack_45 : decode cX8_unpack 45 = .ok (.bipush 64, 2) := by decide +kernel
theorem dX8_unpack_47 : decode cX8_unpack 47 = .ok (.irem, 1) := by decide +kernel
theorem dX8_unpack_48 : decode cX8_unpack 48 = .ok (.lushr, 1) := by decide +kernel
theorem dX8_unpack_49 : decode cX8_unpack 49 = .ok (.lconst 1, 1) := by decide +kernel
theorem dX8_unpack_50 : decode cX8_unpack 50 = .ok (.land, 1) := by decide +kernel
theorem dX8_unpack_51 : decode cX8_unpack 51 = .ok (.lconst 1, 1) := by decide +kernel
theorem dX8_unpack_52 : decode cX8_unpack 52 = .ok (.lcmp, 1) := by decide +kernel
theorem dX8_unpack_53 : decode cX8_unpack 53 = .ok (.ifCond .ne 9, 3) := by decide +kernel
theorem dX8_unpack_56 : decode cX8_unpack 56 = .ok (.iload_n 2, 1) := by decide +kernel
theorem dX8_unpack_57 : decode cX8_unpack 57 = .ok (.iconst 1, 1) := by decide +kernel
theorem dX8_unpack_58 : decode cX8_unpack 58 = .ok (.iload_n 3, 1) := by decide +kernel
theorem dX8_unpack_59 : decode cX8_unpack 59 = .ok (.ishl, 1) := by decide +kernel
theorem dX8_unpack_60 : decode cX8_unpack 60 = .ok (.ior, 1) := by decide +kernel
theorem dX8_unpack_61 : decode cX8_unpack 61 = .ok (.istore_n 2, 1) := by decide +kernel
theorem dX8_unpack_62 : decode cX8_unpack 62 = .ok (.iinc 3 1, 3) := by decide +kernel
theorem dX8_unpack_65 : decode cX8_unpack 65 = .ok (.goto (-61), 3) := by decide +kernel
theorem dX8_unpack_68 : decode cX8_unpack 68 = .ok (.iload_n 2, 1) := by decide +kernel
theorem dX8_unpack_69 : decode cX8_unpack 69 = .ok (.ireturn, 1) := by decide +kernel
theorem dX8_word_0 : decode cX8_word 0 = .ok (.aload_n 0, 1) := by decide +kernel
theorem dX8_word_1 : decode cX8_word 1 = .ok (.getfield 11, 3) := by decide +kernel
theorem dX8_word_4 : decode cX8_word 4 = .ok (.iload_n 1, 1) := by decide +kernel
theorem dX8_word_5 : decode cX8_word 5 = .ok (.laload, 1) := by decide +kernel
theorem dX8_word_6 : decode cX8_word 6 = .ok (.lreturn, 1) := by decide +kernel
theorem dX9_init_0 : decode cX9_init 0 = .ok (.aload_n 0, 1) := by decide +kernel
theorem dX9_init_1 : decode cX9_init 1 = .ok (.invokespecial 3, 3) := by decide +kernel
theorem dX9_init_4 : decode cX9_init 4 = .ok (.aload_n 0, 1) := by decide +kernel
theorem dX9_init_5 : decode cX9_init 5 = .ok (.iconst (-1), 1) := by decide +kernel
theorem dX9_init_6 : decode cX9_init 6 = .ok (.putfield 9, 3) := by decide +kernel
theorem dX9_init_9 : decode cX9_init 9 = .ok (.aload_n 0, 1) := by decide +kernel
theorem dX9_init_10 : decode cX9_init 10 = .ok (.sipush 360, 3) := by decide +kernel
theorem dX9_init_13 : decode cX9_init 13 = .ok (.newarray .int, 2) := by decide +kernel
theorem dX9_init_15 : decode cX9_init 15 = .ok (.putfield 15, 3) := by decide +kernel
theorem dX9_init_18 : decode cX9_init 18 = .ok (.aload_n 0, 1) := by decide +kernel
theorem dX9_init_19 : decode cX9_init 19 = .ok (.bipush 20, 2) := by decide +kernel
theorem dX9_init_21 : decode cX9_init 21 = .ok (.anewarray 19, 3) := by decide +kernel
theorem dX9_init_24 : decode cX9_init 24 = .ok (.putfield 21, 3) := by decide +kernel
theorem dX9_init_27 : decode cX9_init 27 = .ok (.aload_n 0, 1) := by decide +kernel
theorem dX9_init_28 : decode cX9_init 28 = .ok (.aload_n 1, 1) := by decide +kernel
theorem dX9_init_29 : decode cX9_init 29 = .ok (.putfield 25, 3) := by decide +kernel
theorem dX9_init_32 : decode cX9_init 32 = .ok (.iconst 0, 1) := by decide +kernel
theorem dX9_init_33 : decode cX9_init 33 = .ok (.istore_n 2, 1) := by decide +kernel
theorem dX9_init_34 : decode cX9_init 34 = .ok (.iload_n 2, 1) := by decide +kernel
theorem dX9_init_35 : decode cX9_init 35 = .ok (.bipush 20, 2) := by decide +kernel
theorem dX9_init_37 : decode cX9_init 37 = .ok (.if_icmp .ge 22, 3) := by decide +kernel
theorem dX9_init_40 : decode cX9_init 40 = .ok (.aload_n 0, 1) := by decide +kernel
theorem dX9_init_41 : decode cX9_init 41 = .ok (.getfield 21, 3) := by decide +kernel
theorem dX9_init_44 : decode cX9_init 44 = .ok (.iload_n 2, 1) := by decide +kernel
theorem dX9_init_45 : decode cX9_init 45 = .ok (.new 19, 3) := by decide +kernel
theorem dX9_init_48 : decode cX9_init 48 = .ok (.dup, 1) := by decide +kernel
theorem dX9_init_49 : decode cX9_init 49 = .ok (.invokespecial 29, 3) := by decide +kernel
theorem dX9_init_52 : decode cX9_init 52 = .ok (.aastore, 1) := by decide +kernel
theorem dX9_init_53 : decode cX9_init 53 = .ok (.iinc 2 1, 3) := by decide +kernel
theorem dX9_init_56 : decode cX9_init 56 = .ok (.goto (-22), 3) := by decide +kernel
theorem dX9_init_59 : decode cX9_init 59 = .ok (.return_, 1) := by decide +kernel
theorem dX9_columns_0 : decode cX9_columns 0 = .ok (.aload_n 0, 1) := by decide +kernel
theorem dX9_columns_1 : decode cX9_columns 1 = .ok (.getfield 33, 3) := by decide +kernel
theorem dX9_columns_4 : decode cX9_columns 4 = .ok (.ireturn, 1) := by decide +kernel
theorem dX9_rows_0 : decode cX9_rows 0 = .ok (.aload_n 0, 1) := by decide +kernel
theorem dX9_rows_1 : decode cX9_rows 1 = .ok (.getfield 36, 3) := by decide +kernel
theorem dX9_rows_4 : decode cX9_rows 4 = .ok (.ireturn, 1) := by decide +kernel
theorem dX9_cells_0 : decode cX9_cells 0 = .ok (.aload_n 0, 1) := by decide +kernel
theorem dX9_cells_1 : decode cX9_cells 1 = .ok (.getfield 15, 3) := by decide +kernel
theorem dX9_cells_4 : decode cX9_cells 4 = .ok (.areturn, 1) := by decide +kernel
theorem dX9_readTable_0 : decode cX9_readTable 0 = .ok (.aload_n 0, 1) := by decide +kernel
theorem dX9_readTable_1 : decode cX9_readTable 1 = .ok (.iload_n 1, 1) := by decide +kernel
theorem dX9_readTable_2 : decode cX9_readTable 2 = .ok (.invokevirtual 42, 3) := by decide +kernel
theorem dX9_readTable_5 : decode cX9_readTable 5 = .ok (.aload_n 0, 1) := by decide +kernel
theorem dX9_readTable_6 : decode cX9_readTable 6 = .ok (.invokevirtual 46, 3) := by decide +kernel
theorem dX9_readTable_9 : decode cX9_readTable 9 = .ok (.ifCond .ne 5, 3) := by decide +kernel
theorem dX9_readTable_12 : decode cX9_readTable 12 = .ok (.iconst 0, 1) := by decide +kernel
theorem dX9_readTable_13 : decode cX9_readTable 13 = .ok (.ireturn, 1) := by decide +kernel
theorem dX9_readTable_14 : decode cX9_readTable 14 = .ok (.iconst 0, 1) := by decide +kernel
theorem dX9_readTable_15 : decode cX9_readTable 15 = .ok (.istore_n 2, 1) := by decide +kernel
theorem dX9_readTable_16 : decode cX9_readTable 16 = .ok (.iload_n 2, 1) := by decide +kernel
theorem dX9_readTable_17 : decode cX9_readTable 17 = .ok (.bipush 60, 2) := by decide +kernel
theorem dX9_readTable_19 : decode cX9_readTable 19 = .ok (.if_icmp .gt 28, 3) := by decide +kernel
theorem dX9_readTable_22 : decode cX9_readTable 22 = .ok (.aload_n 0, 1) := by decide +kernel
theorem dX9_readTable_23 : decode cX9_readTable 23 = .ok (.getfield 25, 3) := by decide +kernel
theorem dX9_readTable_26 : decode cX9_readTable 26 = .ok (.invokevirtual 50, 3) := by decide +kernel
theorem dX9_readTable_29 : decode cX9_readTable 29 = .ok (.ifCond .ne 18, 3) := by decide +kernel
theorem dX9_readTable_32 : decode cX9_readTable 32 = .ok (.aload_n 0, 1) := by decide +kernel
theorem dX9_readTable_33 : decode cX9_readTable 33 = .ok (.invokevirtual 55, 3) := by decide +kernel
theorem dX9_readTable_36 : decode cX9_readTable 36 = .ok (.ifCond .ne 5, 3) := by decide +kernel
theorem dX9_readTable_39 : decode cX9_readTable 39 = .ok (.iconst 0, 1) := by decide +kernel
theorem dX9_readTable_40 : decode cX9_readTable 40 = .ok (.ireturn, 1) := by decide +kernel
theorem dX9_readTable_41 : decode cX9_readTable 41 = .ok (.iinc 2 1, 3) := by decide +kernel
theorem dX9_readTable_44 : decode cX9_readTable 44 = .ok (.goto (-28), 3) := by decide +kernel
theorem dX9_readTable_47 : decode cX9_readTable 47 = .ok (.iconst 1, 1) := by decide +kernel
theorem dX9_readTable_48 : decode cX9_readTable 48 = .ok (.ireturn, 1) := by decide +kernel
theorem dX9_readRow_0 : decode cX9_readRow 0 = .ok (.aload_n 0, 1) := by decide +kernel
theorem dX9_readRow_1 : decode cX9_readRow 1 = .ok (.iload_n 1, 1) := by decide +kernel
theorem dX9_readRow_2 : decode cX9_readRow 2 = .ok (.invokevirtual 42, 3) := by decide +kernel
theorem dX9_readRow_5 : decode cX9_readRow 5 = .ok (.aload_n 0, 1) := by decide +kernel
theorem dX9_readRow_6 : decode cX9_readRow 6 = .ok (.iload_n 2, 1) := by decide +kernel
theorem dX9_readRow_7 : decode cX9_readRow 7 = .ok (.putfield 33, 3) := by decide +kernel
theorem dX9_readRow_10 : decode cX9_readRow 10 = .ok (.aload_n 0, 1) := by decide +kernel
theorem dX9_readRow_11 : decode cX9_readRow 11 = .ok (.aload_n 0, 1) := by decide +kernel
theorem dX9_readRow_12 : decode cX9_readRow 12 = .ok (.getfield 15, 3) := by decide +kernel
theorem dX9_readRow_15 : decode cX9_readRow 15 = .ok (.iconst 0, 1) := by decide +kernel
theorem dX9_readRow_16 : decode cX9_readRow 16 = .ok (.invokevirtual 58, 3) := by decide +kernel
theorem dX9_readRow_19 : decode cX9_readRow 19 = .ok (.ifCond .eq 14, 3) := by decide +kernel
theorem dX9_readRow_22 : decode cX9_readRow 22 = .ok (.aload_n 0, 1) := by decide +kernel
theorem dX9_readRow_23 : decode cX9_readRow 23 = .ok (.invokevirtual 62, 3) := by decide +kernel
theorem dX9_readRow_26 : decode cX9_readRow 26 = .ok (.ifCond .eq 7, 3) := by decide +kernel
theorem dX9_readRow_29 : decode cX9_readRow 29 = .ok (.iconst 1, 1) := by decide +kernel
theorem dX9_readRow_30 : decode cX9_readRow 30 = .ok (.goto 4, 3) := by decide +kernel
theorem dX9_readRow_33 : decode cX9_readRow 33 = .ok (.iconst 0, 1) := by decide +kernel
theorem dX9_readRow_34 : decode cX9_readRow 34 = .ok (.ireturn, 1) := by decide +kernel
theorem dX9_start_0 : decode cX9_start 0 = .ok (.aload_n 0, 1) := by decide +kernel
theorem dX9_start_1 : decode cX9_start 1 = .ok (.iconst 0, 1) := by decide +kernel
theorem dX9_start_2 : decode cX9_start 2 = .ok (.putfield 30, 3) := by decide +kernel
theorem dX9_start_5 : decode cX9_start 5 = .ok (.aload_n 0, 1) := by decide +kernel
theorem dX9_start_6 : decode cX9_start 6 = .ok (.iconst (-1), 1) := by decide +kernel
theorem dX9_start_7 : decode cX9_start 7 = .ok (.putfield 9, 3) := by decide +kernel
theorem dX9_start_10 : decode cX9_start 10 = .ok (.aload_n 0, 1) := by decide +kernel
theorem dX9_start_11 : decode cX9_start 11 = .ok (.iconst 0, 1) := by decide +kernel
theorem dX9_start_12 : decode cX9_start 12 = .ok (.putfield 36, 3) := by decide +kernel
theorem dX9_start_15 : decode cX9_start 15 = .ok (.aload_n 0, 1) := by decide +kernel
theorem dX9_start_16 : decode cX9_start 16 = .ok (.iconst 0, 1) := by decide +kernel
theorem dX9_start_17 : decode cX9_start 17 = .ok (.putfield 39, 3) := by decide +kernel
theorem dX9_start_20 : decode cX9_start 20 = .ok (.aload_n 0, 1) := by decide +kernel
theorem dX9_start_21 : decode cX9_start 21 = .ok (.getfield 25, 3) := by decide +kernel
theorem dX9_start_24 : decode cX9_start 24 = .ok (.iload_n 1, 1) := by decide +kernel
theorem dX9_start_25 : decode cX9_start 25 = .ok (.invokevirtual 75, 3) := by decide +kernel
theorem dX9_start_28 : decode cX9_start 28 = .ok (.return_, 1) := by decide +kernel
theorem dX9_fail_0 : decode cX9_fail 0 = .ok (.aload_n 0, 1) := by decide +kernel
theorem dX9_fail_1 : decode cX9_fail 1 = .ok (.iload_n 1, 1) := by decide +kernel
theorem dX9_fail_2 : decode cX9_fail 2 = .ok (.putfield 30, 3) := by decide +kernel
theorem dX9_fail_5 : decode cX9_fail 5 = .ok (.aload_n 0, 1) := by decide +kernel
theorem dX9_fail_6 : decode cX9_fail 6 = .ok (.aload_n 0, 1) := by decide +kernel
theorem dX9_fail_7 : decode cX9_fail 7 = .ok (.getfield 25, 3) := by decide +kernel
theorem dX9_fail_10 : decode cX9_fail 10 = .ok (.invokevirtual 78, 3) := by decide +kernel
theorem dX9_fail_13 : decode cX9_fail 13 = .ok (.putfield 9, 3) := by decide +kernel
theorem dX9_fail_16 : decode cX9_fail 16 = .ok (.iconst 0, 1) := by decide +kernel
theorem dX9_fail_17 : decode cX9_fail 17 = .ok (.ireturn, 1) := by decide +kernel
theorem dX9_takeHead_0 : decode cX9_takeHead 0 = .ok (.aload_n 0, 1) := by decide +kernel
theorem dX9_takeHead_1 : decode cX9_takeHead 1 = .ok (.ldc 81, 2) := by decide +kernel
theorem dX9_takeHead_3 : decode cX9_takeHead 3 = .ok (.invokevirtual 83, 3) := by decide +kernel
theorem dX9_takeHead_6 : decode cX9_takeHead 6 = .ok (.ifCond .eq 13, 3) := by decide +kernel
theorem dX9_takeHead_9 : decode cX9_takeHead 9 = .ok (.aload_n 0, 1) := by decide +kernel
theorem dX9_takeHead_10 : decode cX9_takeHead 10 = .ok (.iconst 1, 1) := by decide +kernel
theorem dX9_takeHead_11 : decode cX9_takeHead 11 = .ok (.bipush 6, 2) := by decide +kernel
theorem dX9_takeHead_13 : decode cX9_takeHead 13 = .ok (.invokevirtual 87, 3) := by decide +kernel
theorem dX9_takeHead_16 : decode cX9_takeHead 16 = .ok (.ifCond .ne 5, 3) := by decide +kernel
theorem dX9_takeHead_19 : decode cX9_takeHead 19 = .ok (.iconst 0, 1) := by decide +kernel
theorem dX9_takeHead_20 : decode cX9_takeHead 20 = .ok (.ireturn, 1) := by decide +kernel
theorem dX9_takeHead_21 : decode cX9_takeHead 21 = .ok (.aload_n 0, 1) := by decide +kernel
theorem dX9_takeHead_22 : decode cX9_takeHead 22 = .ok (.aload_n 0, 1) := by decide +kernel
theorem dX9_takeHead_23 : decode cX9_takeHead 23 = .ok (.getfield 91, 3) := by decide +kernel
theorem dX9_takeHead_26 : decode cX9_takeHead 26 = .ok (.putfield 33, 3) := by decide +kernel
theorem dX9_takeHead_29 : decode cX9_takeHead 29 = .ok (.aload_n 0, 1) := by decide +kernel
theorem dX9_takeHead_30 : decode cX9_takeHead 30 = .ok (.invokevirtual 72, 3) := by decide +kernel
theorem dX9_takeHead_33 : decode cX9_takeHead 33 = .ok (.ireturn, 1) := by decide +kernel
theorem dX9_takeTableRow_0 : decode cX9_takeTableRow 0 = .ok (.aload_n 0, 1) := by decide +kernel
theorem dX9_takeTableRow_1 : decode cX9_takeTableRow 1 = .ok (.getfield 36, 3) := by decide +kernel
theorem dX9_takeTableRow_4 : decode cX9_takeTableRow 4 = .ok (.bipush 60, 2) := by decide +kernel
theorem dX9_takeTableRow_6 : decode cX9_takeTableRow 6 = .ok (.if_icmp .ne 8, 3) := by decide +kernel
theorem dX9_takeTableRow_9 : decode cX9_takeTableRow 9 = .ok (.aload_n 0, 1) := by decide +kernel
theorem dX9_takeTableRow_10 : decode cX9_takeTableRow 10 = .ok (.invokevirtual 94, 3) := by decide +kernel
theorem dX9_takeTableRow_13 : decode cX9_takeTableRow 13 = .ok (.ireturn, 1) := by decide +kernel
theorem dX9_takeTableRow_14 : decode cX9_takeTableRow 14 = .ok (.aload_n 0, 1) := by decide +kernel
theorem dX9_takeTableRow_15 : decode cX9_takeTableRow 15 = .ok (.aload_n 0, 1) := by decide +kernel
theorem dX9_takeTableRow_16 : decode cX9_takeTableRow 16 = .ok (.getfield 15, 3) := by decide +kernel
theorem dX9_takeTableRow_19 : decode cX9_takeTableRow 19 = .ok (.aload_n 0, 1) := by decide +kernel
theorem dX9_takeTableRow_20 : decode cX9_takeTableRow 20 = .ok (.getfield 36, 3) := by decide +kernel
theorem dX9_takeTableRow_23 : decode cX9_takeTableRow 23 = .ok (.aload_n 0, 1) := by decide +kernel
theorem dX9_takeTableRow_24 : decode cX9_takeTableRow 24 = .ok (.getfield 33, 3) := by decide +kernel
theorem dX9_takeTableRow_27 : decode cX9_takeTableRow 27 = .ok (.imul, 1) := by decide +kernel
theorem dX9_takeTableRow_28 : decode cX9_takeTableRow 28 = .ok (.invokevirtual 58, 3) := by decide +kernel
theorem dX9_takeTableRow_31 : decode cX9_takeTableRow 31 = .ok (.ifCond .eq 10, 3) := by decide +kernel
theorem dX9_takeTableRow_34 : decode cX9_takeTableRow 34 = .ok (.aload_n 0, 1) := by decide +kernel
theorem dX9_takeTableRow_35 : decode cX9_takeTableRow 35 = .ok (.invokevirtual 72, 3) := by decide +kernel
theorem dX9_takeTableRow_38 : decode cX9_takeTableRow 38 = .ok (.ifCond .ne 5, 3) := by decide +kernel
theorem dX9_takeTableRow_41 : decode cX9_takeTableRow 41 = .ok (.iconst 0, 1) := by decide +kernel
theorem dX9_takeTableRow_42 : decode cX9_takeTableRow 42 = .ok (.ireturn, 1) := by decide +kernel
theorem dX9_takeTableRow_43 : decode cX9_takeTableRow 43 = .ok (.aload_n 0, 1) := by decide +kernel
theorem dX9_takeTableRow_44 : decode cX9_takeTableRow 44 = .ok (.dup, 1) := by decide +kernel
theorem dX9_takeTableRow_45 : decode cX9_takeTableRow 45 = .ok (.getfield 36, 3) := by decide +kernel
theorem dX9_takeTableRow_48 : decode cX9_takeTableRow 48 = .ok (.iconst 1, 1) := by decide +kernel
theorem dX9_takeTableRow_49 : decode cX9_takeTableRow 49 = .ok (.iadd, 1) := by decide +kernel
theorem dX9_takeTableRow_50 : decode cX9_takeTableRow 50 = .ok (.putfield 36, 3) := by decide +kernel
theorem dX9_takeTableRow_53 : decode cX9_takeTableRow 53 = .ok (.iconst 1, 1) := by decide +kernel
theorem dX9_takeTableRow_54 : decode cX9_takeTableRow 54 = .ok (.ireturn, 1) := by decide +kernel
theorem dX9_failAtExtraRow_0 : decode cX9_failAtExtraRow 0 = .ok (.aload_n 0, 1) := by decide +kernel
theorem dX9_failAtExtraRow_1 : decode cX9_failAtExtraRow 1 = .ok (.getfield 25, 3) := by decide +kernel
theorem dX9_failAtExtraRow_4 : decode cX9_failAtExtraRow 4 = .ok (.invokevirtual 97, 3) := by decide +kernel
theorem dX9_failAtExtraRow_7 : decode cX9_failAtExtraRow 7 = .ok (.ifCond .eq 9, 3) := by decide +kernel
theorem dX9_failAtExtraRow_10 : decode cX9_failAtExtraRow 10 = .ok (.aload_n 0, 1) := by decide +kernel
theorem dX9_failAtExtraRow_11 : decode cX9_failAtExtraRow 11 = .ok (.iconst 3, 1) := by decide +kernel
theorem dX9_failAtExtraRow_12 : decode cX9_failAtExtraRow 12 = .ok (.invokevirtual 100, 3) := by decide +kernel
theorem dX9_failAtExtraRow_15 : decode cX9_failAtExtraRow 15 = .ok (.ireturn, 1) := by decide +kernel
theorem dX9_failAtExtraRow_16 : decode cX9_failAtExtraRow 16 = .ok (.aload_n 0, 1) := by decide +kernel
theorem dX9_failAtExtraRow_17 : decode cX9_failAtExtraRow 17 = .ok (.getfield 25, 3) := by decide +kernel
theorem dX9_failAtExtraRow_20 : decode cX9_failAtExtraRow 20 = .ok (.invokevirtual 104, 3) := by decide +kernel
theorem dX9_failAtExtraRow_23 : decode cX9_failAtExtraRow 23 = .ok (.ifCond .ne 9, 3) := by decide +kernel
theorem dX9_failAtExtraRow_26 : decode cX9_failAtExtraRow 26 = .ok (.aload_n 0, 1) := by decide +kernel
theorem dX9_failAtExtraRow_27 : decode cX9_failAtExtraRow 27 = .ok (.iconst 1, 1) := by decide +kernel
theorem dX9_failAtExtraRow_28 : decode cX9_failAtExtraRow 28 = .ok (.invokevirtual 100, 3) := by decide +kernel
theorem dX9_failAtExtraRow_31 : decode cX9_failAtExtraRow 31 = .ok (.ireturn, 1) := by decide +kernel
theorem dX9_failAtExtraRow_32 : decode cX9_failAtExtraRow 32 = .ok (.aload_n 0, 1) := by decide +kernel
theorem dX9_failAtExtraRow_33 : decode cX9_failAtExtraRow 33 = .ok (.aload_n 0, 1) := by decide +kernel
theorem dX9_failAtExtraRow_34 : decode cX9_failAtExtraRow 34 = .ok (.getfield 25, 3) := by decide +kernel
theorem dX9_failAtExtraRow_37 : decode cX9_failAtExtraRow 37 = .ok (.invokevirtual 107, 3) := by decide +kernel
theorem dX9_failAtExtraRow_40 : decode cX9_failAtExtraRow 40 = .ok (.sipush 9999, 3) := by decide +kernel
theorem dX9_failAtExtraRow_43 : decode cX9_failAtExtraRow 43 = .ok (.if_icmp .le 7, 3) := by decide +kernel
theorem dX9_failAtExtraRow_46 : decode cX9_failAtExtraRow 46 = .ok (.iconst 2, 1) := by decide +kernel
theorem dX9_failAtExtraRow_47 : decode cX9_failAtExtraRow 47 = .ok (.goto 4, 3) := by decide +kernel
theorem dX9_failAtExtraRow_50 : decode cX9_failAtExtraRow 50 = .ok (.iconst 3, 1) := by decide +kernel
theorem dX9_failAtExtraRow_51 : decode cX9_failAtExtraRow 51 = .ok (.invokevirtual 100, 3) := by decide +kernel
theorem dX9_failAtExtraRow_54 : decode cX9_failAtExtraRow 54 = .ok (.ireturn, 1) := by decide +kernel
theorem dX9_takeRow_0 : decode cX9_takeRow 0 = .ok (.iconst 0, 1) := by decide +kernel
theorem dX9_takeRow_1 : decode cX9_takeRow 1 = .ok (.istore_n 3, 1) := by decide +kernel
theorem dX9_takeRow_2 : decode cX9_takeRow 2 = .ok (.iload_n 3, 1) := by decide +kernel
theorem dX9_takeRow_3 : decode cX9_takeRow 3 = .ok (.aload_n 0, 1) := by decide +kernel
theorem dX9_takeRow_4 : decode cX9_takeRow 4 = .ok (.getfield 33, 3) := by decide +kernel
theorem dX9_takeRow_7 : decode cX9_takeRow 7 = .ok (.if_icmp .ge 27, 3) := by decide +kernel
theorem dX9_takeRow_10 : decode cX9_takeRow 10 = .ok (.aload_n 0, 1) := by decide +kernel
theorem dX9_takeRow_11 : decode cX9_takeRow 11 = .ok (.invokevirtual 109, 3) := by decide +kernel
theorem dX9_takeRow_14 : decode cX9_takeRow 14 = .ok (.ifCond .ne 5, 3) := by decide +kernel
theorem dX9_takeRow_17 : decode cX9_takeRow 17 = .ok (.iconst 0, 1) := by decide +kernel
theorem dX9_takeRow_18 : decode cX9_takeRow 18 = .ok (.ireturn, 1) := by decide +kernel
theorem dX9_takeRow_19 : decode cX9_takeRow 19 = .ok (.aload_n 1, 1) := by decide +kernel
theorem dX9_takeRow_20 : decode cX9_takeRow 20 = .ok (.iload_n 2, 1) := by decide +kernel
theorem dX9_takeRow_21 : decode cX9_takeRow 21 = .ok (.iload_n 3, 1) := by decide +kernel
theorem dX9_takeRow_22 : decode cX9_takeRow 22 = .ok (.iadd, 1) := by decide +kernel
theorem dX9_takeRow_23 : decode cX9_takeRow 23 = .ok (.aload_n 0, 1) := by decide +kernel
theorem dX9_takeRow_24 : decode cX9_takeRow 24 = .ok (.getfield 91, 3) := by decide +kernel
theorem dX9_takeRow_27 : decode cX9_takeRow 27 = .ok (.iastore, 1) := by decide +kernel
theorem dX9_takeRow_28 : decode cX9_takeRow 28 = .ok (.iinc 3 1, 3) := by decide +kernel
theorem dX9_takeRow_31 : decode cX9_takeRow 31 = .ok (.goto (-29), 3) := by decide +kernel
theorem dX9_takeRow_34 : decode cX9_takeRow 34 = .ok (.iconst 1, 1) := by decide +kernel
theorem dX9_takeRow_35 : decode cX9_takeRow 35 = .ok (.ireturn, 1) := by decide +kernel
theorem dX9_takeInteger_0 : decode cX9_takeInteger 0 = .ok (.aload_n 0, 1) := by decide +kernel
theorem dX9_takeInteger_1 : decode cX9_takeInteger 1 = .ok (.getfield 25, 3) := by decide +kernel
theorem dX9_takeInteger_4 : decode cX9_takeInteger 4 = .ok (.invokevirtual 97, 3) := by decide +kernel
theorem dX9_takeInteger_7 : decode cX9_takeInteger 7 = .ok (.istore_n 1, 1) := by decide +kernel
theorem dX9_takeInteger_8 : decode cX9_takeInteger 8 = .ok (.iload_n 1, 1) := by decide +kernel
theorem dX9_takeInteger_9 : decode cX9_takeInteger 9 = .ok (.ifCond .eq 10, 3) := by decide +kernel
theorem dX9_takeInteger_12 : decode cX9_takeInteger 12 = .ok (.aload_n 0, 1) := by decide +kernel
theorem dX9_takeInteger_13 : decode cX9_takeInteger 13 = .ok (.getfield 25, 3) := by decide +kernel
theorem dX9_takeInteger_16 : decode cX9_takeInteger 16 = .ok (.invokevirtual 120, 3) := by decide +kernel
theorem dX9_takeInteger_19 : decode cX9_takeInteger 19 = .ok (.aload_n 0, 1) := by decide +kernel
theorem dX9_takeInteger_20 : decode cX9_takeInteger 20 = .ok (.iconst 0, 1) := by decide +kernel
theorem dX9_takeInteger_21 : decode cX9_takeInteger 21 = .ok (.sipush 9999, 3) := by decide +kernel
theorem dX9_takeInteger_24 : decode cX9_takeInteger 24 = .ok (.invokevirtual 87, 3) := by decide +kernel
theorem dX9_takeInteger_27 : decode cX9_takeInteger 27 = .ok (.istore_n 2, 1) := by decide +kernel
theorem dX9_takeInteger_28 : decode cX9_takeInteger 28 = .ok (.aload_n 0, 1) := by decide +kernel
theorem dX9_takeInteger_29 : decode cX9_takeInteger 29 = .ok (.iload_n 1, 1) := by decide +kernel
theorem dX9_takeInteger_30 : decode cX9_takeInteger 30 = .ok (.ifCond .eq 11, 3) := by decide +kernel
theorem dX9_takeInteger_33 : decode cX9_takeInteger 33 = .ok (.aload_n 0, 1) := by decide +kernel
theorem dX9_takeInteger_34 : decode cX9_takeInteger 34 = .ok (.getfield 91, 3) := by decide +kernel
theorem dX9_takeInteger_37 : decode cX9_takeInteger 37 = .ok (.ineg, 1) := by decide +kernel
theorem dX9_takeInteger_38 : decode cX9_takeInteger 38 = .ok (.goto 7, 3) := by decide +kernel
theorem dX9_takeInteger_41 : decode cX9_takeInteger 41 = .ok (.aload_n 0, 1) := by decide +kernel
theorem dX9_takeInteger_42 : decode cX9_takeInteger 42 = .ok (.getfield 91, 3) := by decide +kernel
theorem dX9_takeInteger_45 : decode cX9_takeInteger 45 = .ok (.putfield 91, 3) := by decide +kernel
theorem dX9_takeInteger_48 : decode cX9_takeInteger 48 = .ok (.iload_n 2, 1) := by decide +kernel
theorem dX9_takeInteger_49 : decode cX9_takeInteger 49 = .ok (.ireturn, 1) := by decide +kernel
theorem dX9_takeNumber_0 : decode cX9_takeNumber 0 = .ok (.aload_n 0, 1) := by decide +kernel
theorem dX9_takeNumber_1 : decode cX9_takeNumber 1 = .ok (.getfield 25, 3) := by decide +kernel
theorem dX9_takeNumber_4 : decode cX9_takeNumber 4 = .ok (.invokevirtual 104, 3) := by decide +kernel
theorem dX9_takeNumber_7 : decode cX9_takeNumber 7 = .ok (.ifCond .ne 9, 3) := by decide +kernel
theorem dX9_takeNumber_10 : decode cX9_takeNumber 10 = .ok (.aload_n 0, 1) := by decide +kernel
theorem dX9_takeNumber_11 : decode cX9_takeNumber 11 = .ok (.iconst 1, 1) := by decide +kernel
theorem dX9_takeNumber_12 : decode cX9_takeNumber 12 = .ok (.invokevirtual 100, 3) := by decide +kernel
theorem dX9_takeNumber_15 : decode cX9_takeNumber 15 = .ok (.ireturn, 1) := by decide +kernel
theorem dX9_takeNumber_16 : decode cX9_takeNumber 16 = .ok (.aload_n 0, 1) := by decide +kernel
theorem dX9_takeNumber_17 : decode cX9_takeNumber 17 = .ok (.getfield 25, 3) := by decide +kernel
theorem dX9_takeNumber_20 : decode cX9_takeNumber 20 = .ok (.invokevirtual 107, 3) := by decide +kernel
theorem dX9_takeNumber_23 : decode cX9_takeNumber 23 = .ok (.iload_n 1, 1) := by decide +kernel
theorem dX9_takeNumber_24 : decode cX9_takeNumber 24 = .ok (.if_icmp .lt 14, 3) := by decide +kernel
theorem dX9_takeNumber_27 : decode cX9_takeNumber 27 = .ok (.aload_n 0, 1) := by decide +kernel
theorem dX9_takeNumber_28 : decode cX9_takeNumber 28 = .ok (.getfield 25, 3) := by decide +kernel
theorem dX9_takeNumber_31 : decode cX9_takeNumber 31 = .ok (.invokevirtual 107, 3) := by decide +kernel
theorem dX9_takeNumber_34 : decode cX9_takeNumber 34 = .ok (.iload_n 2, 1) := by decide +kernel
theorem dX9_takeNumber_35 : decode cX9_takeNumber 35 = .ok (.if_icmp .le 9, 3) := by decide +kernel
theorem dX9_takeNumber_38 : decode cX9_takeNumber 38 = .ok (.aload_n 0, 1) := by decide +kernel
theorem dX9_takeNumber_39 : decode cX9_takeNumber 39 = .ok (.iconst 2, 1) := by decide +kernel
theorem dX9_takeNumber_40 : decode cX9_takeNumber 40 = .ok (.invokevirtual 100, 3) := by decide +kernel
theorem dX9_takeNumber_43 : decode cX9_takeNumber 43 = .ok (.ireturn, 1) := by decide +kernel
theorem dX9_takeNumber_44 : decode cX9_takeNumber 44 = .ok (.aload_n 0, 1) := by decide +kernel
theorem dX9_takeNumber_45 : decode cX9_takeNumber 45 = .ok (.aload_n 0, 1) := by decide +kernel
theorem dX9_takeNumber_46 : decode cX9_takeNumber 46 = .ok (.getfield 25, 3) := by decide +kernel
theorem dX9_takeNumber_49 : decode cX9_takeNumber 49 = .ok (.invokevirtual 107, 3) := by decide +kernel
theorem dX9_takeNumber_52 : decode cX9_takeNumber 52 = .ok (.putfield 91, 3) := by decide +kernel
theorem dX9_takeNumber_55 : decode cX9_takeNumber 55 = .ok (.aload_n 0, 1) := by decide +kernel
theorem dX9_takeNumber_56 : decode cX9_takeNumber 56 = .ok (.getfield 25, 3) := by decide +kernel
theorem dX9_takeNumber_59 : decode cX9_takeNumber 59 = .ok (.invokevirtual 120, 3) := by decide +kernel
theorem dX9_takeNumber_62 : decode cX9_takeNumber 62 = .ok (.iconst 1, 1) := by decide +kernel
theorem dX9_takeNumber_63 : decode cX9_takeNumber 63 = .ok (.ireturn, 1) := by decide +kernel
theorem dX9_takeWord_0 : decode cX9_takeWord 0 = .ok (.aload_n 0, 1) := by decide +kernel
theorem dX9_takeWord_1 : decode cX9_takeWord 1 = .ok (.getfield 25, 3) := by decide +kernel
theorem dX9_takeWord_4 : decode cX9_takeWord 4 = .ok (.aload_n 1, 1) := by decide +kernel
theorem dX9_takeWord_5 : decode cX9_takeWord 5 = .ok (.invokevirtual 133, 3) := by decide +kernel
theorem dX9_takeWord_8 : decode cX9_takeWord 8 = .ok (.ifCond .ne 9, 3) := by decide +kernel
theorem dX9_takeWord_11 : decode cX9_takeWord 11 = .ok (.aload_n 0, 1) := by decide +kernel
theorem dX9_takeWord_12 : decode cX9_takeWord 12 = .ok (.iconst 1, 1) := by decide +kernel
theorem dX9_takeWord_13 : decode cX9_takeWord 13 = .ok (.invokevirtual 100, 3) := by decide +kernel
theorem dX9_takeWord_16 : decode cX9_takeWord 16 = .ok (.ireturn, 1) := by decide +kernel
theorem dX9_takeWord_17 : decode cX9_takeWord 17 = .ok (.aload_n 0, 1) := by decide +kernel
theorem dX9_takeWord_18 : decode cX9_takeWord 18 = .ok (.getfield 25, 3) := by decide +kernel
theorem dX9_takeWord_21 : decode cX9_takeWord 21 = .ok (.invokevirtual 120, 3) := by decide +kernel
theorem dX9_takeWord_24 : decode cX9_takeWord 24 = .ok (.iconst 1, 1) := by decide +kernel
theorem dX9_takeWord_25 : decode cX9_takeWord 25 = .ok (.ireturn, 1) := by decide +kernel
theorem dX9_takeSemicolon_0 : decode cX9_takeSemicolon 0 = .ok (.aload_n 0, 1) := by decide +kernel
theorem dX9_takeSemicolon_1 : decode cX9_takeSemicolon 1 = .ok (.getfield 25, 3) := by decide +kernel
theorem dX9_takeSemicolon_4 : decode cX9_takeSemicolon 4 = .ok (.invokevirtual 171, 3) := by decide +kernel
theorem dX9_takeSemicolon_7 : decode cX9_takeSemicolon 7 = .ok (.ifCond .ne 9, 3) := by decide +kernel
theorem dX9_takeSemicolon_10 : decode cX9_takeSemicolon 10 = .ok (.aload_n 0, 1) := by decide +kernel
theorem dX9_takeSemicolon_11 : decode cX9_takeSemicolon 11 = .ok (.iconst 1, 1) := by decide +kernel
theorem dX9_takeSemicolon_12 : decode cX9_takeSemicolon 12 = .ok (.invokevirtual 100, 3) := by decide +kernel
theorem dX9_takeSemicolon_15 : decode cX9_takeSemicolon 15 = .ok (.ireturn, 1) := by decide +kernel
theorem dX9_takeSemicolon_16 : decode cX9_takeSemicolon 16 = .ok (.aload_n 0, 1) := by decide +kernel
theorem dX9_takeSemicolon_17 : decode cX9_takeSemicolon 17 = .ok (.getfield 25, 3) := by decide +kernel
theorem dX9_takeSemicolon_20 : decode cX9_takeSemicolon 20 = .ok (.invokevirtual 120, 3) := by decide +kernel
theorem dX9_takeSemicolon_23 : decode cX9_takeSemicolon 23 = .ok (.iconst 1, 1) := by decide +kernel
theorem dX9_takeSemicolon_24 : decode cX9_takeSemicolon 24 = .ok (.ireturn, 1) := by decide +kernel
theorem dX9_takeEnd_0 : decode cX9_takeEnd 0 = .ok (.aload_n 0, 1) := by decide +kernel
theorem dX9_takeEnd_1 : decode cX9_takeEnd 1 = .ok (.getfield 25, 3) := by decide +kernel
theorem dX9_takeEnd_4 : decode cX9_takeEnd 4 = .ok (.invokevirtual 50, 3) := by decide +kernel
theorem dX9_takeEnd_7 : decode cX9_takeEnd 7 = .ok (.ifCond .ne 11, 3) := by decide +kernel
theorem dX9_takeEnd_10 : decode cX9_takeEnd 10 = .ok (.aload_n 0, 1) := by decide +kernel
theorem dX9_takeEnd_11 : decode cX9_takeEnd 11 = .ok (.iconst 1, 1) := by decide +kernel
theorem dX9_takeEnd_12 : decode cX9_takeEnd 12 = .ok (.invokevirtual 100, 3) := by decide +kernel
theorem dX9_takeEnd_15 : decode cX9_takeEnd 15 = .ok (.ifCond .eq 7, 3) := by decide +kernel
theorem dX9_takeEnd_18 : decode cX9_takeEnd 18 = .ok (.iconst 1, 1) := by decide +kernel
theorem dX9_takeEnd_19 : decode cX9_takeEnd 19 = .ok (.goto 4, 3) := by decide +kernel
theorem dX9_takeEnd_22 : decode cX9_takeEnd 22 = .ok (.iconst 0, 1) := by decide +kernel
theorem dX9_takeEnd_23 : decode cX9_takeEnd 23 = .ok (.ireturn, 1) := by decide +kernel
theorem dX10_init_0 : decode cX10_init 0 = .ok (.aload_n 0, 1) := by decide +kernel
theorem dX10_init_1 : decode cX10_init 1 = .ok (.invokespecial 3, 3) := by decide +kernel
theorem dX10_init_4 : decode cX10_init 4 = .ok (.aload_n 0, 1) := by decide +kernel
theorem dX10_init_5 : decode cX10_init 5 = .ok (.bipush 60, 2) := by decide +kernel
theorem dX10_init_7 : decode cX10_init 7 = .ok (.newarray .int, 2) := by decide +kernel
theorem dX10_init_9 : decode cX10_init 9 = .ok (.putfield 9, 3) := by decide +kernel
theorem dX10_init_12 : decode cX10_init 12 = .ok (.aload_n 0, 1) := by decide +kernel
theorem dX10_init_13 : decode cX10_init 13 = .ok (.bipush 60, 2) := by decide +kernel
theorem dX10_init_15 : decode cX10_init 15 = .ok (.newarray .int, 2) := by decide +kernel
theorem dX10_init_17 : decode cX10_init 17 = .ok (.putfield 15, 3) := by decide +kernel
theorem dX10_init_20 : decode cX10_init 20 = .ok (.return_, 1) := by decide +kernel
theorem dX10_reset_0 : decode cX10_reset 0 = .ok (.aload_n 0, 1) := by decide +kernel
theorem dX10_reset_1 : decode cX10_reset 1 = .ok (.iload_n 1, 1) := by decide +kernel
theorem dX10_reset_2 : decode cX10_reset 2 = .ok (.putfield 18, 3) := by decide +kernel
theorem dX10_reset_5 : decode cX10_reset 5 = .ok (.iconst 0, 1) := by decide +kernel
theorem dX10_reset_6 : decode cX10_reset 6 = .ok (.istore_n 2, 1) := by decide +kernel
theorem dX10_reset_7 : decode cX10_reset 7 = .ok (.iload_n 2, 1) := by decide +kernel
theorem dX10_reset_8 : decode cX10_reset 8 = .ok (.aload_n 0, 1) := by decide +kernel
theorem dX10_reset_9 : decode cX10_reset 9 = .ok (.getfield 18, 3) := by decide +kernel
theorem dX10_reset_12 : decode cX10_reset 12 = .ok (.if_icmp .ge 16, 3) := by decide +kernel
theorem dX10_reset_15 : decode cX10_reset 15 = .ok (.aload_n 0, 1) := by decide +kernel
theorem dX10_reset_16 : decode cX10_reset 16 = .ok (.getfield 9, 3) := by decide +kernel
theorem dX10_reset_19 : decode cX10_reset 19 = .ok (.iload_n 2, 1) := by decide +kernel
theorem dX10_reset_20 : decode cX10_reset 20 = .ok (.iload_n 2, 1) := by decide +kernel
theorem dX10_reset_21 : decode cX10_reset 21 = .ok (.iastore, 1) := by decide +kernel
theorem dX10_reset_22 : decode cX10_reset 22 = .ok (.iinc 2 1, 3) := by decide +kernel
theorem dX10_reset_25 : decode cX10_reset 25 = .ok (.goto (-18), 3) := by decide +kernel
theorem dX10_reset_28 : decode cX10_reset 28 = .ok (.return_, 1) := by decide +kernel
theorem dX10_sortBy_0 : decode cX10_sortBy 0 = .ok (.aload_n 0, 1) := by decide +kernel
theorem dX10_sortBy_1 : decode cX10_sortBy 1 = .ok (.aload_n 1, 1) := by decide +kernel
theorem dX10_sortBy_2 : decode cX10_sortBy 2 = .ok (.invokevirtual 22, 3) := by decide +kernel
theorem dX10_sortBy_5 : decode cX10_sortBy 5 = .ok (.invokevirtual 27, 3) := by decide +kernel
theorem dX10_sortBy_8 : decode cX10_sortBy 8 = .ok (.iconst 1, 1) := by decide +kernel
theorem dX10_sortBy_9 : decode cX10_sortBy 9 = .ok (.istore_n 3, 1) := by decide +kernel
theorem dX10_sortBy_10 : decode cX10_sortBy 10 = .ok (.iload_n 3, 1) := by decide +kernel
theorem dX10_sortBy_11 : decode cX10_sortBy 11 = .ok (.aload_n 0, 1) := by decide +kernel
theorem dX10_sortBy_12 : decode cX10_sortBy 12 = .ok (.getfield 18, 3) := by decide +kernel
theorem dX10_sortBy_15 : decode cX10_sortBy 15 = .ok (.if_icmp .ge 86, 3) := by decide +kernel
theorem dX10_sortBy_18 : decode cX10_sortBy 18 = .ok (.aload_n 0, 1) := by decide +kernel
theorem dX10_sortBy_19 : decode cX10_sortBy 19 = .ok (.getfield 9, 3) := by decide +kernel
theorem dX10_sortBy_22 : decode cX10_sortBy 22 = .ok (.iload_n 3, 1) := by decide +kernel
theorem dX10_sortBy_23 : decode cX10_sortBy 23 = .ok (.iaload, 1) := by decide +kernel
theorem dX10_sortBy_24 : decode cX10_sortBy 24 = .ok (.istore 4, 2) := by decide +kernel
theorem dX10_sortBy_26 : decode cX10_sortBy 26 = .ok (.aload_n 1, 1) := by decide +kernel
theorem dX10_sortBy_27 : decode cX10_sortBy 27 = .ok (.iload 4, 2) := by decide +kernel
theorem dX10_sortBy_29 : decode cX10_sortBy 29 = .ok (.invokevirtual 31, 3) := by decide +kernel
theorem dX10_sortBy_32 : decode cX10_sortBy 32 = .ok (.istore 5, 2) := by decide +kernel
theorem dX10_sortBy_34 : decode cX10_sortBy 34 = .ok (.iload_n 3, 1) := by decide +kernel
theorem dX10_sortBy_35 : decode cX10_sortBy 35 = .ok (.istore 6, 2) := by decide +kernel
theorem dX10_sortBy_37 : decode cX10_sortBy 37 = .ok (.iload 6, 2) := by decide +kernel
theorem dX10_sortBy_39 : decode cX10_sortBy 39 = .ok (.ifCond .le 47, 3) := by decide +kernel
theorem dX10_sortBy_42 : decode cX10_sortBy 42 = .ok (.aload_n 1, 1) := by decide +kernel
theorem dX10_sortBy_43 : decode cX10_sortBy 43 = .ok (.aload_n 0, 1) := by decide +kernel
theorem dX10_sortBy_44 : decode cX10_sortBy 44 = .ok (.getfield 9, 3) := by decide +kernel
theorem dX10_sortBy_47 : decode cX10_sortBy 47 = .ok (.iload 6, 2) := by decide +kernel
theorem dX10_sortBy_49 : decode cX10_sortBy 49 = .ok (.iconst 1, 1) := by decide +kernel
theorem dX10_sortBy_50 : decode cX10_sortBy 50 = .ok (.isub, 1) := by decide +kernel
theorem dX10_sortBy_51 : decode cX10_sortBy 51 = .ok (.iaload, 1) := by decide +kernel
theorem dX10_sortBy_52 : decode cX10_sortBy 52 = .ok (.invokevirtual 31, 3) := by decide +kernel
theorem dX10_sortBy_55 : decode cX10_sortBy 55 = .ok (.iload 5, 2) := by decide +kernel
theorem dX10_sortBy_57 : decode cX10_sortBy 57 = .ok (.iload_n 2, 1) := by decide +kernel
theorem dX10_sortBy_58 : decode cX10_sortBy 58 = .ok (.invokestatic 35, 3) := by decide +kernel
theorem dX10_sortBy_61 : decode cX10_sortBy 61 = .ok (.ifCond .eq 25, 3) := by decide +kernel
theorem dX10_sortBy_64 : decode cX10_sortBy 64 = .ok (.aload_n 0, 1) := by decide +kernel
theorem dX10_sortBy_65 : decode cX10_sortBy 65 = .ok (.getfield 9, 3) := by decide +kernel
theorem dX10_sortBy_68 : decode cX10_sortBy 68 = .ok (.iload 6, 2) := by decide +kernel
theorem dX10_sortBy_70 : decode cX10_sortBy 70 = .ok (.aload_n 0, 1) := by decide +kernel
theorem dX10_sortBy_71 : decode cX10_sortBy 71 = .ok (.getfield 9, 3) := by decide +kernel
theorem dX10_sortBy_74 : decode cX10_sortBy 74 = .ok (.iload 6, 2) := by decide +kernel
