/-! decode rows -/
theorem dX12_setValue_27 : decode cX12_setValue 27 = .ok (.istore 4, 2) := by decide +kernel
theorem dX12_setValue_29 : decode cX12_setValue 29 = .ok (.aload_n 0, 1) := by decide +kernel
theorem dX12_setValue_30 : decode cX12_setValue 30 = .ok (.getfield 22, 3) := by decide +kernel
theorem dX12_setValue_33 : decode cX12_setValue 33 = .ok (.aload_n 0, 1) := by decide +kernel
theorem dX12_setValue_34 : decode cX12_setValue 34 = .ok (.getfield 10, 3) := by decide +kernel
theorem dX12_setValue_37 : decode cX12_setValue 37 = .ok (.invokevirtual 275, 3) := by decide +kernel
theorem dX12_setValue_40 : decode cX12_setValue 40 = .ok (.aload_n 0, 1) := by decide +kernel
theorem dX12_setValue_41 : decode cX12_setValue 41 = .ok (.getfield 10, 3) := by decide +kernel
theorem dX12_setValue_44 : decode cX12_setValue 44 = .ok (.iload_n 1, 1) := by decide +kernel
theorem dX12_setValue_45 : decode cX12_setValue 45 = .ok (.invokevirtual 122, 3) := by decide +kernel
theorem dX12_setValue_48 : decode cX12_setValue 48 = .ok (.iload_n 2, 1) := by decide +kernel
theorem dX12_setValue_49 : decode cX12_setValue 49 = .ok (.iload_n 3, 1) := by decide +kernel
theorem dX12_setValue_50 : decode cX12_setValue 50 = .ok (.invokevirtual 286, 3) := by decide +kernel
theorem dX12_setValue_53 : decode cX12_setValue 53 = .ok (.iload 4, 2) := by decide +kernel
theorem dX12_setValue_55 : decode cX12_setValue 55 = .ok (.ireturn, 1) := by decide +kernel
theorem dX12_sort_0 : decode cX12_sort 0 = .ok (.aload_n 0, 1) := by decide +kernel
theorem dX12_sort_1 : decode cX12_sort 1 = .ok (.iload_n 1, 1) := by decide +kernel
theorem dX12_sort_2 : decode cX12_sort 2 = .ok (.invokevirtual 116, 3) := by decide +kernel
theorem dX12_sort_5 : decode cX12_sort 5 = .ok (.aload_n 0, 1) := by decide +kernel
theorem dX12_sort_6 : decode cX12_sort 6 = .ok (.getfield 22, 3) := by decide +kernel
theorem dX12_sort_9 : decode cX12_sort 9 = .ok (.aload_n 0, 1) := by decide +kernel
theorem dX12_sort_10 : decode cX12_sort 10 = .ok (.getfield 10, 3) := by decide +kernel
theorem dX12_sort_13 : decode cX12_sort 13 = .ok (.invokevirtual 275, 3) := by decide +kernel
theorem dX12_sort_16 : decode cX12_sort 16 = .ok (.aload_n 0, 1) := by decide +kernel
theorem dX12_sort_17 : decode cX12_sort 17 = .ok (.iload_n 1, 1) := by decide +kernel
theorem dX12_sort_18 : decode cX12_sort 18 = .ok (.iload_n 2, 1) := by decide +kernel
theorem dX12_sort_19 : decode cX12_sort 19 = .ok (.invokevirtual 289, 3) := by decide +kernel
theorem dX12_sort_22 : decode cX12_sort 22 = .ok (.aload_n 0, 1) := by decide +kernel
theorem dX12_sort_23 : decode cX12_sort 23 = .ok (.getfield 49, 3) := by decide +kernel
theorem dX12_sort_26 : decode cX12_sort 26 = .ok (.aload_n 0, 1) := by decide +kernel
theorem dX12_sort_27 : decode cX12_sort 27 = .ok (.getfield 10, 3) := by decide +kernel
theorem dX12_sort_30 : decode cX12_sort 30 = .ok (.invokevirtual 108, 3) := by decide +kernel
theorem dX12_sort_33 : decode cX12_sort 33 = .ok (.invokevirtual 184, 3) := by decide +kernel
theorem dX12_sort_36 : decode cX12_sort 36 = .ok (.aload_n 0, 1) := by decide +kernel
theorem dX12_sort_37 : decode cX12_sort 37 = .ok (.getfield 10, 3) := by decide +kernel
theorem dX12_sort_40 : decode cX12_sort 40 = .ok (.iload_n 1, 1) := by decide +kernel
theorem dX12_sort_41 : decode cX12_sort 41 = .ok (.invokevirtual 122, 3) := by decide +kernel
theorem dX12_sort_44 : decode cX12_sort 44 = .ok (.aload_n 0, 1) := by decide +kernel
theorem dX12_sort_45 : decode cX12_sort 45 = .ok (.getfield 49, 3) := by decide +kernel
theorem dX12_sort_48 : decode cX12_sort 48 = .ok (.invokevirtual 187, 3) := by decide +kernel
theorem dX12_sort_51 : decode cX12_sort 51 = .ok (.ireturn, 1) := by decide +kernel
theorem dX12_addLess_0 : decode cX12_addLess 0 = .ok (.aload_n 0, 1) := by decide +kernel
theorem dX12_addLess_1 : decode cX12_addLess 1 = .ok (.iload_n 1, 1) := by decide +kernel
theorem dX12_addLess_2 : decode cX12_addLess 2 = .ok (.iload_n 2, 1) := by decide +kernel
theorem dX12_addLess_3 : decode cX12_addLess 3 = .ok (.iconst (-1), 1) := by decide +kernel
theorem dX12_addLess_4 : decode cX12_addLess 4 = .ok (.invokevirtual 293, 3) := by decide +kernel
theorem dX12_addLess_7 : decode cX12_addLess 7 = .ok (.ireturn, 1) := by decide +kernel
theorem dX12_addEqual_0 : decode cX12_addEqual 0 = .ok (.aload_n 0, 1) := by decide +kernel
theorem dX12_addEqual_1 : decode cX12_addEqual 1 = .ok (.iload_n 1, 1) := by decide +kernel
theorem dX12_addEqual_2 : decode cX12_addEqual 2 = .ok (.iload_n 2, 1) := by decide +kernel
theorem dX12_addEqual_3 : decode cX12_addEqual 3 = .ok (.iconst 0, 1) := by decide +kernel
theorem dX12_addEqual_4 : decode cX12_addEqual 4 = .ok (.invokevirtual 293, 3) := by decide +kernel
theorem dX12_addEqual_7 : decode cX12_addEqual 7 = .ok (.ireturn, 1) := by decide +kernel
theorem dX12_addGreater_0 : decode cX12_addGreater 0 = .ok (.aload_n 0, 1) := by decide +kernel
theorem dX12_addGreater_1 : decode cX12_addGreater 1 = .ok (.iload_n 1, 1) := by decide +kernel
theorem dX12_addGreater_2 : decode cX12_addGreater 2 = .ok (.iload_n 2, 1) := by decide +kernel
theorem dX12_addGreater_3 : decode cX12_addGreater 3 = .ok (.iconst 1, 1) := by decide +kernel
theorem dX12_addGreater_4 : decode cX12_addGreater 4 = .ok (.invokevirtual 293, 3) := by decide +kernel
theorem dX12_addGreater_7 : decode cX12_addGreater 7 = .ok (.ireturn, 1) := by decide +kernel
theorem dX12_removeCondition_0 : decode cX12_removeCondition 0 = .ok (.aload_n 0, 1) := by decide +kernel
theorem dX12_removeCondition_1 : decode cX12_removeCondition 1 = .ok (.iload_n 1, 1) := by decide +kernel
theorem dX12_removeCondition_2 : decode cX12_removeCondition 2 = .ok (.invokevirtual 205, 3) := by decide +kernel
theorem dX12_removeCondition_5 : decode cX12_removeCondition 5 = .ok (.aload_n 0, 1) := by decide +kernel
theorem dX12_removeCondition_6 : decode cX12_removeCondition 6 = .ok (.getfield 22, 3) := by decide +kernel
theorem dX12_removeCondition_9 : decode cX12_removeCondition 9 = .ok (.aload_n 0, 1) := by decide +kernel
theorem dX12_removeCondition_10 : decode cX12_removeCondition 10 = .ok (.getfield 10, 3) := by decide +kernel
theorem dX12_removeCondition_13 : decode cX12_removeCondition 13 = .ok (.invokevirtual 275, 3) := by decide +kernel
theorem dX12_removeCondition_16 : decode cX12_removeCondition 16 = .ok (.aload_n 0, 1) := by decide +kernel
theorem dX12_removeCondition_17 : decode cX12_removeCondition 17 = .ok (.getfield 10, 3) := by decide +kernel
theorem dX12_removeCondition_20 : decode cX12_removeCondition 20 = .ok (.invokevirtual 198, 3) := by decide +kernel
theorem dX12_removeCondition_23 : decode cX12_removeCondition 23 = .ok (.iload_n 1, 1) := by decide +kernel
theorem dX12_removeCondition_24 : decode cX12_removeCondition 24 = .ok (.invokevirtual 297, 3) := by decide +kernel
theorem dX12_removeCondition_27 : decode cX12_removeCondition 27 = .ok (.aload_n 0, 1) := by decide +kernel
theorem dX12_removeCondition_28 : decode cX12_removeCondition 28 = .ok (.getfield 10, 3) := by decide +kernel
theorem dX12_removeCondition_31 : decode cX12_removeCondition 31 = .ok (.invokevirtual 229, 3) := by decide +kernel
theorem dX12_removeCondition_34 : decode cX12_removeCondition 34 = .ok (.ireturn, 1) := by decide +kernel
theorem dX12_deleteSelected_0 : decode cX12_deleteSelected 0 = .ok (.aload_n 0, 1) := by decide +kernel
theorem dX12_deleteSelected_1 : decode cX12_deleteSelected 1 = .ok (.getfield 22, 3) := by decide +kernel
theorem dX12_deleteSelected_4 : decode cX12_deleteSelected 4 = .ok (.aload_n 0, 1) := by decide +kernel
theorem dX12_deleteSelected_5 : decode cX12_deleteSelected 5 = .ok (.getfield 10, 3) := by decide +kernel
theorem dX12_deleteSelected_8 : decode cX12_deleteSelected 8 = .ok (.invokevirtual 275, 3) := by decide +kernel
theorem dX12_deleteSelected_11 : decode cX12_deleteSelected 11 = .ok (.aload_n 0, 1) := by decide +kernel
theorem dX12_deleteSelected_12 : decode cX12_deleteSelected 12 = .ok (.getfield 10, 3) := by decide +kernel
theorem dX12_deleteSelected_15 : decode cX12_deleteSelected 15 = .ok (.invokevirtual 300, 3) := by decide +kernel
theorem dX12_deleteSelected_18 : decode cX12_deleteSelected 18 = .ok (.ireturn, 1) := by decide +kernel
theorem dX12_compact_0 : decode cX12_compact 0 = .ok (.aload_n 0, 1) := by decide +kernel
theorem dX12_compact_1 : decode cX12_compact 1 = .ok (.iload_n 1, 1) := by decide +kernel
theorem dX12_compact_2 : decode cX12_compact 2 = .ok (.invokevirtual 116, 3) := by decide +kernel
theorem dX12_compact_5 : decode cX12_compact 5 = .ok (.aload_n 0, 1) := by decide +kernel
theorem dX12_compact_6 : decode cX12_compact 6 = .ok (.getfield 22, 3) := by decide +kernel
theorem dX12_compact_9 : decode cX12_compact 9 = .ok (.aload_n 0, 1) := by decide +kernel
theorem dX12_compact_10 : decode cX12_compact 10 = .ok (.getfield 10, 3) := by decide +kernel
theorem dX12_compact_13 : decode cX12_compact 13 = .ok (.invokevirtual 275, 3) := by decide +kernel
theorem dX12_compact_16 : decode cX12_compact 16 = .ok (.aload_n 0, 1) := by decide +kernel
theorem dX12_compact_17 : decode cX12_compact 17 = .ok (.getfield 10, 3) := by decide +kernel
theorem dX12_compact_20 : decode cX12_compact 20 = .ok (.iload_n 1, 1) := by decide +kernel
theorem dX12_compact_21 : decode cX12_compact 21 = .ok (.invokevirtual 135, 3) := by decide +kernel
theorem dX12_compact_24 : decode cX12_compact 24 = .ok (.invokevirtual 139, 3) := by decide +kernel
theorem dX12_compact_27 : decode cX12_compact 27 = .ok (.istore_n 2, 1) := by decide +kernel
theorem dX12_compact_28 : decode cX12_compact 28 = .ok (.aload_n 0, 1) := by decide +kernel
theorem dX12_compact_29 : decode cX12_compact 29 = .ok (.getfield 10, 3) := by decide +kernel
theorem dX12_compact_32 : decode cX12_compact 32 = .ok (.iload_n 1, 1) := by decide +kernel
theorem dX12_compact_33 : decode cX12_compact 33 = .ok (.invokevirtual 122, 3) := by decide +kernel
theorem dX12_compact_36 : decode cX12_compact 36 = .ok (.invokevirtual 303, 3) := by decide +kernel
theorem dX12_compact_39 : decode cX12_compact 39 = .ok (.iload_n 2, 1) := by decide +kernel
theorem dX12_compact_40 : decode cX12_compact 40 = .ok (.aload_n 0, 1) := by decide +kernel
theorem dX12_compact_41 : decode cX12_compact 41 = .ok (.getfield 10, 3) := by decide +kernel
theorem dX12_compact_44 : decode cX12_compact 44 = .ok (.iload_n 1, 1) := by decide +kernel
theorem dX12_compact_45 : decode cX12_compact 45 = .ok (.invokevirtual 135, 3) := by decide +kernel
theorem dX12_compact_48 : decode cX12_compact 48 = .ok (.invokevirtual 139, 3) := by decide +kernel
theorem dX12_compact_51 : decode cX12_compact 51 = .ok (.isub, 1) := by decide +kernel
theorem dX12_compact_52 : decode cX12_compact 52 = .ok (.ireturn, 1) := by decide +kernel
theorem dX12_runScript_0 : decode cX12_runScript 0 = .ok (.aload_n 0, 1) := by decide +kernel
theorem dX12_runScript_1 : decode cX12_runScript 1 = .ok (.iload_n 1, 1) := by decide +kernel
theorem dX12_runScript_2 : decode cX12_runScript 2 = .ok (.invokevirtual 83, 3) := by decide +kernel
theorem dX12_runScript_5 : decode cX12_runScript 5 = .ok (.aload_n 0, 1) := by decide +kernel
theorem dX12_runScript_6 : decode cX12_runScript 6 = .ok (.getfield 38, 3) := by decide +kernel
theorem dX12_runScript_9 : decode cX12_runScript 9 = .ok (.iload_n 1, 1) := by decide +kernel
theorem dX12_runScript_10 : decode cX12_runScript 10 = .ok (.aload_n 0, 1) := by decide +kernel
theorem dX12_runScript_11 : decode cX12_runScript 11 = .ok (.getfield 10, 3) := by decide +kernel
theorem dX12_runScript_14 : decode cX12_runScript 14 = .ok (.invokevirtual 115, 3) := by decide +kernel
theorem dX12_runScript_17 : decode cX12_runScript 17 = .ok (.invokevirtual 306, 3) := by decide +kernel
theorem dX12_runScript_20 : decode cX12_runScript 20 = .ok (.istore_n 2, 1) := by decide +kernel
theorem dX12_runScript_21 : decode cX12_runScript 21 = .ok (.aload_n 0, 1) := by decide +kernel
theorem dX12_runScript_22 : decode cX12_runScript 22 = .ok (.getfield 29, 3) := by decide +kernel
theorem dX12_runScript_25 : decode cX12_runScript 25 = .ok (.invokevirtual 90, 3) := by decide +kernel
theorem dX12_runScript_28 : decode cX12_runScript 28 = .ok (.iload_n 2, 1) := by decide +kernel
theorem dX12_runScript_29 : decode cX12_runScript 29 = .ok (.ifCond .ne 5, 3) := by decide +kernel
theorem dX12_runScript_32 : decode cX12_runScript 32 = .ok (.iconst (-1), 1) := by decide +kernel
theorem dX12_runScript_33 : decode cX12_runScript 33 = .ok (.ireturn, 1) := by decide +kernel
theorem dX12_runScript_34 : decode cX12_runScript 34 = .ok (.aload_n 0, 1) := by decide +kernel
theorem dX12_runScript_35 : decode cX12_runScript 35 = .ok (.getfield 22, 3) := by decide +kernel
theorem dX12_runScript_38 : decode cX12_runScript 38 = .ok (.aload_n 0, 1) := by decide +kernel
theorem dX12_runScript_39 : decode cX12_runScript 39 = .ok (.getfield 10, 3) := by decide +kernel
theorem dX12_runScript_42 : decode cX12_runScript 42 = .ok (.invokevirtual 275, 3) := by decide +kernel
theorem dX12_runScript_45 : decode cX12_runScript 45 = .ok (.iconst 0, 1) := by decide +kernel
theorem dX12_runScript_46 : decode cX12_runScript 46 = .ok (.istore_n 3, 1) := by decide +kernel
theorem dX12_runScript_47 : decode cX12_runScript 47 = .ok (.iload_n 3, 1) := by decide +kernel
theorem dX12_runScript_48 : decode cX12_runScript 48 = .ok (.aload_n 0, 1) := by decide +kernel
theorem dX12_runScript_49 : decode cX12_runScript 49 = .ok (.getfield 38, 3) := by decide +kernel
theorem dX12_runScript_52 : decode cX12_runScript 52 = .ok (.invokevirtual 309, 3) := by decide +kernel
theorem dX12_runScript_55 : decode cX12_runScript 55 = .ok (.if_icmp .ge 36, 3) := by decide +kernel
theorem dX12_runScript_58 : decode cX12_runScript 58 = .ok (.aload_n 0, 1) := by decide +kernel
theorem dX12_runScript_59 : decode cX12_runScript 59 = .ok (.aload_n 0, 1) := by decide +kernel
theorem dX12_runScript_60 : decode cX12_runScript 60 = .ok (.getfield 38, 3) := by decide +kernel
theorem dX12_runScript_63 : decode cX12_runScript 63 = .ok (.iload_n 3, 1) := by decide +kernel
theorem dX12_runScript_64 : decode cX12_runScript 64 = .ok (.invokevirtual 312, 3) := by decide +kernel
theorem dX12_runScript_67 : decode cX12_runScript 67 = .ok (.invokevirtual 316, 3) := by decide +kernel
theorem dX12_runScript_70 : decode cX12_runScript 70 = .ok (.ifCond .eq 21, 3) := by decide +kernel
theorem dX12_runScript_73 : decode cX12_runScript 73 = .ok (.aload_n 0, 1) := by decide +kernel
theorem dX12_runScript_74 : decode cX12_runScript 74 = .ok (.aload_n 0, 1) := by decide +kernel
theorem dX12_runScript_75 : decode cX12_runScript 75 = .ok (.getfield 38, 3) := by decide +kernel
theorem dX12_runScript_78 : decode cX12_runScript 78 = .ok (.iload_n 3, 1) := by decide +kernel
theorem dX12_runScript_79 : decode cX12_runScript 79 = .ok (.invokevirtual 312, 3) := by decide +kernel
theorem dX12_runScript_82 : decode cX12_runScript 82 = .ok (.invokevirtual 320, 3) := by decide +kernel
theorem dX12_runScript_85 : decode cX12_runScript 85 = .ok (.iinc 3 1, 3) := by decide +kernel
theorem dX12_runScript_88 : decode cX12_runScript 88 = .ok (.goto (-41), 3) := by decide +kernel
theorem dX12_runScript_91 : decode cX12_runScript 91 = .ok (.iload_n 3, 1) := by decide +kernel
theorem dX12_runScript_92 : decode cX12_runScript 92 = .ok (.ireturn, 1) := by decide +kernel
theorem dX12_writeRow_0 : decode cX12_writeRow 0 = .ok (.aload_n 0, 1) := by decide +kernel
theorem dX12_writeRow_1 : decode cX12_writeRow 1 = .ok (.iload_n 1, 1) := by decide +kernel
theorem dX12_writeRow_2 : decode cX12_writeRow 2 = .ok (.invokevirtual 119, 3) := by decide +kernel
theorem dX12_writeRow_5 : decode cX12_writeRow 5 = .ok (.aload_n 0, 1) := by decide +kernel
theorem dX12_writeRow_6 : decode cX12_writeRow 6 = .ok (.iconst 0, 1) := by decide +kernel
theorem dX12_writeRow_7 : decode cX12_writeRow 7 = .ok (.putfield 324, 3) := by decide +kernel
theorem dX12_writeRow_10 : decode cX12_writeRow 10 = .ok (.iconst 0, 1) := by decide +kernel
theorem dX12_writeRow_11 : decode cX12_writeRow 11 = .ok (.istore_n 2, 1) := by decide +kernel
theorem dX12_writeRow_12 : decode cX12_writeRow 12 = .ok (.iload_n 2, 1) := by decide +kernel
theorem dX12_writeRow_13 : decode cX12_writeRow 13 = .ok (.aload_n 0, 1) := by decide +kernel
theorem dX12_writeRow_14 : decode cX12_writeRow 14 = .ok (.getfield 10, 3) := by decide +kernel
theorem dX12_writeRow_17 : decode cX12_writeRow 17 = .ok (.invokevirtual 115, 3) := by decide +kernel
theorem dX12_writeRow_20 : decode cX12_writeRow 20 = .ok (.if_icmp .ge 35, 3) := by decide +kernel
theorem dX12_writeRow_23 : decode cX12_writeRow 23 = .ok (.iload_n 2, 1) := by decide +kernel
theorem dX12_writeRow_24 : decode cX12_writeRow 24 = .ok (.ifCond .le 9, 3) := by decide +kernel
theorem dX12_writeRow_27 : decode cX12_writeRow 27 = .ok (.aload_n 0, 1) := by decide +kernel
theorem dX12_writeRow_28 : decode cX12_writeRow 28 = .ok (.bipush 32, 2) := by decide +kernel
theorem dX12_writeRow_30 : decode cX12_writeRow 30 = .ok (.invokevirtual 328, 3) := by decide +kernel
theorem dX12_writeRow_33 : decode cX12_writeRow 33 = .ok (.aload_n 0, 1) := by decide +kernel
theorem dX12_writeRow_34 : decode cX12_writeRow 34 = .ok (.aload_n 0, 1) := by decide +kernel
theorem dX12_writeRow_35 : decode cX12_writeRow 35 = .ok (.getfield 10, 3) := by decide +kernel
theorem dX12_writeRow_38 : decode cX12_writeRow 38 = .ok (.iload_n 2, 1) := by decide +kernel
theorem dX12_writeRow_39 : decode cX12_writeRow 39 = .ok (.invokevirtual 122, 3) := by decide +kernel
theorem dX12_writeRow_42 : decode cX12_writeRow 42 = .ok (.iload_n 1, 1) := by decide +kernel
theorem dX12_writeRow_43 : decode cX12_writeRow 43 = .ok (.invokevirtual 126, 3) := by decide +kernel
theorem dX12_writeRow_46 : decode cX12_writeRow 46 = .ok (.invokevirtual 331, 3) := by decide +kernel
theorem dX12_writeRow_49 : decode cX12_writeRow 49 = .ok (.iinc 2 1, 3) := by decide +kernel
theorem dX12_writeRow_52 : decode cX12_writeRow 52 = .ok (.goto (-40), 3) := by decide +kernel
theorem dX12_writeRow_55 : decode cX12_writeRow 55 = .ok (.aload_n 0, 1) := by decide +kernel
theorem dX12_writeRow_56 : decode cX12_writeRow 56 = .ok (.getfield 10, 3) := by decide +kernel
theorem dX12_writeRow_59 : decode cX12_writeRow 59 = .ok (.iload_n 1, 1) := by decide +kernel
theorem dX12_writeRow_60 : decode cX12_writeRow 60 = .ok (.invokevirtual 226, 3) := by decide +kernel
theorem dX12_writeRow_63 : decode cX12_writeRow 63 = .ok (.ifCond .eq 9, 3) := by decide +kernel
theorem dX12_writeRow_66 : decode cX12_writeRow 66 = .ok (.aload_n 0, 1) := by decide +kernel
theorem dX12_writeRow_67 : decode cX12_writeRow 67 = .ok (.bipush 42, 2) := by decide +kernel
theorem dX12_writeRow_69 : decode cX12_writeRow 69 = .ok (.invokevirtual 328, 3) := by decide +kernel
theorem dX12_writeRow_72 : decode cX12_writeRow 72 = .ok (.aload_n 0, 1) := by decide +kernel
theorem dX12_writeRow_73 : decode cX12_writeRow 73 = .ok (.getfield 324, 3) := by decide +kernel
theorem dX12_writeRow_76 : decode cX12_writeRow 76 = .ok (.ireturn, 1) := by decide +kernel
theorem dX12_outputByte_0 : decode cX12_outputByte 0 = .ok (.iload_n 1, 1) := by decide +kernel
theorem dX12_outputByte_1 : decode cX12_outputByte 1 = .ok (.ifCond .lt 11, 3) := by decide +kernel
theorem dX12_outputByte_4 : decode cX12_outputByte 4 = .ok (.iload_n 1, 1) := by decide +kernel
theorem dX12_outputByte_5 : decode cX12_outputByte 5 = .ok (.aload_n 0, 1) := by decide +kernel
theorem dX12_outputByte_6 : decode cX12_outputByte 6 = .ok (.getfield 324, 3) := by decide +kernel
theorem dX12_outputByte_9 : decode cX12_outputByte 9 = .ok (.if_icmp .lt 14, 3) := by decide +kernel
theorem dX12_outputByte_12 : decode cX12_outputByte 12 = .ok (.new 166, 3) := by decide +kernel
theorem dX12_outputByte_15 : decode cX12_outputByte 15 = .ok (.dup, 1) := by decide +kernel
theorem dX12_outputByte_16 : decode cX12_outputByte 16 = .ok (.ldc_w 334, 3) := by decide +kernel
theorem dX12_outputByte_19 : decode cX12_outputByte 19 = .ok (.invokespecial 170, 3) := by decide +kernel
theorem dX12_outputByte_22 : decode cX12_outputByte 22 = .ok (.athrow, 1) := by decide +kernel
theorem dX12_outputByte_23 : decode cX12_outputByte 23 = .ok (.aload_n 0, 1) := by decide +kernel
theorem dX12_outputByte_24 : decode cX12_outputByte 24 = .ok (.getfield 42, 3) := by decide +kernel
theorem dX12_outputByte_27 : decode cX12_outputByte 27 = .ok (.iload_n 1, 1) := by decide +kernel
theorem dX12_outputByte_28 : decode cX12_outputByte 28 = .ok (.baload, 1) := by decide +kernel
theorem dX12_outputByte_29 : decode cX12_outputByte 29 = .ok (.ireturn, 1) := by decide +kernel
theorem dX12_undoableCount_0 : decode cX12_undoableCount 0 = .ok (.aload_n 0, 1) := by decide +kernel
theorem dX12_undoableCount_1 : decode cX12_undoableCount 1 = .ok (.getfield 22, 3) := by decide +kernel
theorem dX12_undoableCount_4 : decode cX12_undoableCount 4 = .ok (.invokevirtual 336, 3) := by decide +kernel
theorem dX12_undoableCount_7 : decode cX12_undoableCount 7 = .ok (.ireturn, 1) := by decide +kernel
theorem dX12_undo_0 : decode cX12_undo 0 = .ok (.aload_n 0, 1) := by decide +kernel
theorem dX12_undo_1 : decode cX12_undo 1 = .ok (.getfield 22, 3) := by decide +kernel
theorem dX12_undo_4 : decode cX12_undo 4 = .ok (.invokevirtual 336, 3) := by decide +kernel
theorem dX12_undo_7 : decode cX12_undo 7 = .ok (.ifCond .ne 14, 3) := by decide +kernel
theorem dX12_undo_10 : decode cX12_undo 10 = .ok (.new 266, 3) := by decide +kernel
theorem dX12_undo_13 : decode cX12_undo 13 = .ok (.dup, 1) := by decide +kernel
theorem dX12_undo_14 : decode cX12_undo 14 = .ok (.ldc_w 337, 3) := by decide +kernel
theorem dX12_undo_17 : decode cX12_undo 17 = .ok (.invokespecial 270, 3) := by decide +kernel
theorem dX12_undo_20 : decode cX12_undo 20 = .ok (.athrow, 1) := by decide +kernel
theorem dX12_undo_21 : decode cX12_undo 21 = .ok (.aload_n 0, 1) := by decide +kernel
theorem dX12_undo_22 : decode cX12_undo 22 = .ok (.getfield 22, 3) := by decide +kernel
theorem dX12_undo_25 : decode cX12_undo 25 = .ok (.aload_n 0, 1) := by decide +kernel
theorem dX12_undo_26 : decode cX12_undo 26 = .ok (.getfield 10, 3) := by decide +kernel
theorem dX12_undo_29 : decode cX12_undo 29 = .ok (.invokevirtual 339, 3) := by decide +kernel
theorem dX12_undo_32 : decode cX12_undo 32 = .ok (.aload_n 0, 1) := by decide +kernel
theorem dX12_undo_33 : decode cX12_undo 33 = .ok (.getfield 22, 3) := by decide +kernel
theorem dX12_undo_36 : decode cX12_undo 36 = .ok (.invokevirtual 336, 3) := by decide +kernel
theorem dX12_undo_39 : decode cX12_undo 39 = .ok (.ireturn, 1) := by decide +kernel
theorem dX12_saveSnapshot_0 : decode cX12_saveSnapshot 0 = .ok (.aload_n 0, 1) := by decide +kernel
theorem dX12_saveSnapshot_1 : decode cX12_saveSnapshot 1 = .ok (.getfield 16, 3) := by decide +kernel
theorem dX12_saveSnapshot_4 : decode cX12_saveSnapshot 4 = .ok (.aload_n 0, 1) := by decide +kernel
theorem dX12_saveSnapshot_5 : decode cX12_saveSnapshot 5 = .ok (.getfield 10, 3) := by decide +kernel
theorem dX12_saveSnapshot_8 : decode cX12_saveSnapshot 8 = .ok (.invokevirtual 342, 3) := by decide +kernel
theorem dX12_saveSnapshot_11 : decode cX12_saveSnapshot 11 = .ok (.aload_n 0, 1) := by decide +kernel
theorem dX12_saveSnapshot_12 : decode cX12_saveSnapshot 12 = .ok (.iconst 1, 1) := by decide +kernel
theorem dX12_saveSnapshot_13 : decode cX12_saveSnapshot 13 = .ok (.putfield 104, 3) := by decide +kernel
theorem dX12_saveSnapshot_16 : decode cX12_saveSnapshot 16 = .ok (.return_, 1) := by decide +kernel
theorem dX12_restoreSnapshot_0 : decode cX12_restoreSnapshot 0 = .ok (.aload_n 0, 1) := by decide +kernel
theorem dX12_restoreSnapshot_1 : decode cX12_restoreSnapshot 1 = .ok (.getfield 104, 3) := by decide +kernel
theorem dX12_restoreSnapshot_4 : decode cX12_restoreSnapshot 4 = .ok (.ifCond .ne 14, 3) := by decide +kernel
theorem dX12_restoreSnapshot_7 : decode cX12_restoreSnapshot 7 = .ok (.new 266, 3) := by decide +kernel
theorem dX12_restoreSnapshot_10 : decode cX12_restoreSnapshot 10 = .ok (.dup, 1) := by decide +kernel
theorem dX12_restoreSnapshot_11 : decode cX12_restoreSnapshot 11 = .ok (.ldc_w 345, 3) := by decide +kernel
theorem dX12_restoreSnapshot_14 : decode cX12_restoreSnapshot 14 = .ok (.invokespecial 270, 3) := by decide +kernel
theorem dX12_restoreSnapshot_17 : decode cX12_restoreSnapshot 17 = .ok (.athrow, 1) := by decide +kernel
theorem dX12_restoreSnapshot_18 : decode cX12_restoreSnapshot 18 = .ok (.aload_n 0, 1) := by decide +kernel
theorem dX12_restoreSnapshot_19 : decode cX12_restoreSnapshot 19 = .ok (.getfield 10, 3) := by decide +kernel
theorem dX12_restoreSnapshot_22 : decode cX12_restoreSnapshot 22 = .ok (.aload_n 0, 1) := by decide +kernel
theorem dX12_restoreSnapshot_23 : decode cX12_restoreSnapshot 23 = .ok (.getfield 16, 3) := by decide +kernel
theorem dX12_restoreSnapshot_26 : decode cX12_restoreSnapshot 26 = .ok (.invokevirtual 342, 3) := by decide +kernel
theorem dX12_restoreSnapshot_29 : decode cX12_restoreSnapshot 29 = .ok (.aload_n 0, 1) := by decide +kernel
theorem dX12_restoreSnapshot_30 : decode cX12_restoreSnapshot 30 = .ok (.getfield 22, 3) := by decide +kernel
theorem dX12_restoreSnapshot_33 : decode cX12_restoreSnapshot 33 = .ok (.invokevirtual 103, 3) := by decide +kernel
theorem dX12_restoreSnapshot_36 : decode cX12_restoreSnapshot 36 = .ok (.aload_n 0, 1) := by decide +kernel
theorem dX12_restoreSnapshot_37 : decode cX12_restoreSnapshot 37 = .ok (.getfield 10, 3) := by decide +kernel
theorem dX12_restoreSnapshot_40 : decode cX12_restoreSnapshot 40 = .ok (.invokevirtual 108, 3) := by decide +kernel
theorem dX12_restoreSnapshot_43 : decode cX12_restoreSnapshot 43 = .ok (.ireturn, 1) := by decide +kernel
theorem dX12_checkLength_0 : decode cX12_checkLength 0 = .ok (.iload_n 1, 1) := by decide +kernel
theorem dX12_checkLength_1 : decode cX12_checkLength 1 = .ok (.ifCond .lt 14, 3) := by decide +kernel
theorem dX12_checkLength_4 : decode cX12_checkLength 4 = .ok (.iload_n 1, 1) := by decide +kernel
theorem dX12_checkLength_5 : decode cX12_checkLength 5 = .ok (.aload_n 0, 1) := by decide +kernel
theorem dX12_checkLength_6 : decode cX12_checkLength 6 = .ok (.getfield 29, 3) := by decide +kernel
theorem dX12_checkLength_9 : decode cX12_checkLength 9 = .ok (.invokevirtual 75, 3) := by decide +kernel
theorem dX12_checkLength_12 : decode cX12_checkLength 12 = .ok (.if_icmp .le 14, 3) := by decide +kernel
theorem dX12_checkLength_15 : decode cX12_checkLength 15 = .ok (.new 347, 3) := by decide +kernel
theorem dX12_checkLength_18 : decode cX12_checkLength 18 = .ok (.dup, 1) := by decide +kernel
theorem dX12_checkLength_19 : decode cX12_checkLength 19 = .ok (.ldc_w 349, 3) := by decide +kernel
theorem dX12_checkLength_22 : decode cX12_checkLength 22 = .ok (.invokespecial 351, 3) := by decide +kernel
theorem dX12_checkLength_25 : decode cX12_checkLength 25 = .ok (.athrow, 1) := by decide +kernel
theorem dX12_checkLength_26 : decode cX12_checkLength 26 = .ok (.return_, 1) := by decide +kernel
theorem dX12_checkColumn_0 : decode cX12_checkColumn 0 = .ok (.iload_n 1, 1) := by decide +kernel
theorem dX12_checkColumn_1 : decode cX12_checkColumn 1 = .ok (.ifCond .lt 14, 3) := by decide +kernel
theorem dX12_checkColumn_4 : decode cX12_checkColumn 4 = .ok (.iload_n 1, 1) := by decide +kernel
theorem dX12_checkColumn_5 : decode cX12_checkColumn 5 = .ok (.aload_n 0, 1) := by decide +kernel
theorem dX12_checkColumn_6 : decode cX12_checkColumn 6 = .ok (.getfield 10, 3) := by decide +kernel
theorem dX12_checkColumn_9 : decode cX12_checkColumn 9 = .ok (.invokevirtual 115, 3) := by decide +kernel
theorem dX12_checkColumn_12 : decode cX12_checkColumn 12 = .ok (.if_icmp .lt 14, 3) := by decide +kernel
theorem dX12_checkColumn_15 : decode cX12_checkColumn 15 = .ok (.new 166, 3) := by decide +kernel
theorem dX12_checkColumn_18 : decode cX12_checkColumn 18 = .ok (.dup, 1) := by decide +kernel
theorem dX12_checkColumn_19 : decode cX12_checkColumn 19 = .ok (.ldc_w 352, 3) := by decide +kernel
theorem dX12_checkColumn_22 : decode cX12_checkColumn 22 = .ok (.invokespecial 170, 3) := by decide +kernel
theorem dX12_checkColumn_25 : decode cX12_checkColumn 25 = .ok (.athrow, 1) := by decide +kernel
theorem dX12_checkColumn_26 : decode cX12_checkColumn 26 = .ok (.return_, 1) := by decide +kernel
theorem dX12_checkRow_0 : decode cX12_checkRow 0 = .ok (.aload_n 0, 1) := by decide +kernel
theorem dX12_checkRow_1 : decode cX12_checkRow 1 = .ok (.getfield 10, 3) := by decide +kernel
theorem dX12_checkRow_4 : decode cX12_checkRow 4 = .ok (.iload_n 1, 1) := by decide +kernel
theorem dX12_checkRow_5 : decode cX12_checkRow 5 = .ok (.invokevirtual 354, 3) := by decide +kernel
theorem dX12_checkRow_8 : decode cX12_checkRow 8 = .ok (.ifCond .ne 14, 3) := by decide +kernel
theorem dX12_checkRow_11 : decode cX12_checkRow 11 = .ok (.new 166, 3) := by decide +kernel
theorem dX12_checkRow_14 : decode cX12_checkRow 14 = .ok (.dup, 1) := by decide +kernel
theorem dX12_checkRow_15 : decode cX12_checkRow 15 = .ok (.ldc_w 357, 3) := by decide +kernel
theorem dX12_checkRow_18 : decode cX12_checkRow 18 = .ok (.invokespecial 170, 3) := by decide +kernel
theorem dX12_checkRow_21 : decode cX12_checkRow 21 = .ok (.athrow, 1) := by decide +kernel
theorem dX12_checkRow_22 : decode cX12_checkRow 22 = .ok (.return_, 1) := by decide +kernel
theorem dX12_checkCode_0 : decode cX12_checkCode 0 = .ok (.iload_n 2, 1) := by decide +kernel
theorem dX12_checkCode_1 : decode cX12_checkCode 1 = .ok (.ifCond .lt 18, 3) := by decide +kernel
theorem dX12_checkCode_4 : decode cX12_checkCode 4 = .ok (.iload_n 2, 1) := by decide +kernel
theorem dX12_checkCode_5 : decode cX12_checkCode 5 = .ok (.aload_n 0, 1) := by decide +kernel
theorem dX12_checkCode_6 : decode cX12_checkCode 6 = .ok (.getfield 10, 3) := by decide +kernel
theorem dX12_checkCode_9 : decode cX12_checkCode 9 = .ok (.iload_n 1, 1) := by decide +kernel
theorem dX12_checkCode_10 : decode cX12_checkCode 10 = .ok (.invokevirtual 135, 3) := by decide +kernel
theorem dX12_checkCode_13 : decode cX12_checkCode 13 = .ok (.invokevirtual 139, 3) := by decide +kernel
theorem dX12_checkCode_16 : decode cX12_checkCode 16 = .ok (.if_icmp .lt 14, 3) := by decide +kernel
theorem dX12_checkCode_19 : decode cX12_checkCode 19 = .ok (.new 166, 3) := by decide +kernel
theorem dX12_checkCode_22 : decode cX12_checkCode 22 = .ok (.dup, 1) := by decide +kernel
theorem dX12_checkCode_23 : decode cX12_checkCode 23 = .ok (.ldc_w 359, 3) := by decide +kernel
theorem dX12_checkCode_26 : decode cX12_checkCode 26 = .ok (.invokespecial 170, 3) := by decide +kernel
theorem dX12_checkCode_29 : decode cX12_checkCode 29 = .ok (.athrow, 1) := by decide +kernel
theorem dX12_checkCode_30 : decode cX12_checkCode 30 = .ok (.return_, 1) := by decide +kernel
theorem dX12_checkCondition_0 : decode cX12_checkCondition 0 = .ok (.aload_n 0, 1) := by decide +kernel
theorem dX12_checkCondition_1 : decode cX12_checkCondition 1 = .ok (.getfield 10, 3) := by decide +kernel
theorem dX12_checkCondition_4 : decode cX12_checkCondition 4 = .ok (.invokevirtual 198, 3) := by decide +kernel
theorem dX12_checkCondition_7 : decode cX12_checkCondition 7 = .ok (.iload_n 1, 1) := by decide +kernel
theorem dX12_checkCondition_8 : decode cX12_checkCondition 8 = .ok (.invokevirtual 361, 3) := by decide +kernel
theorem dX12_checkCondition_11 : decode cX12_checkCondition 11 = .ok (.ifCond .ne 14, 3) := by decide +kernel
theorem dX12_checkCondition_14 : decode cX12_checkCondition 14 = .ok (.new 166, 3) := by decide +kernel
theorem dX12_checkCondition_17 : decode cX12_checkCondition 17 = .ok (.dup, 1) := by decide +kernel
theorem dX12_checkCondition_18 : decode cX12_checkCondition 18 = .ok (.ldc_w 364, 3) := by decide +kernel
theorem dX12_checkCondition_21 : decode cX12_checkCondition 21 = .ok (.invokespecial 170, 3) := by decide +kernel
theorem dX12_checkCondition_24 : decode cX12_checkCondition 24 = .ok (.athrow, 1) := by decide +kernel
theorem dX12_checkCondition_25 : decode cX12_checkCondition 25 = .ok (.return_, 1) := by decide +kernel
theorem dX12_checkValue_0 : decode cX12_checkValue 0 = .ok (.iload_n 1, 1) := by decide +kernel
theorem dX12_checkValue_1 : decode cX12_checkValue 1 = .ok (.sipush (-9999), 3) := by decide +kernel
theorem dX12_checkValue_4 : decode cX12_checkValue 4 = .ok (.if_icmp .lt 10, 3) := by decide +kernel
theorem dX12_checkValue_7 : decode cX12_checkValue 7 = .ok (.iload_n 1, 1) := by decide +kernel
theorem dX12_checkValue_8 : decode cX12_checkValue 8 = .ok (.sipush 9999, 3) := by decide +kernel
theorem dX12_checkValue_11 : decode cX12_checkValue 11 = .ok (.if_icmp .le 14, 3) := by decide +kernel
theorem dX12_checkValue_14 : decode cX12_checkValue 14 = .ok (.new 347, 3) := by decide +kernel
theorem dX12_checkValue_17 : decode cX12_checkValue 17 = .ok (.dup, 1) := by decide +kernel
theorem dX12_checkValue_18 : decode cX12_checkValue 18 = .ok (.ldc_w 366, 3) := by decide +kernel
theorem dX12_checkValue_21 : decode cX12_checkValue 21 = .ok (.invokespecial 351, 3) := by decide +kernel
theorem dX12_checkValue_24 : decode cX12_checkValue 24 = .ok (.athrow, 1) := by decide +kernel
theorem dX12_checkValue_25 : decode cX12_checkValue 25 = .ok (.return_, 1) := by decide +kernel
theorem dX12_checkAnySeen_0 : decode cX12_checkAnySeen 0 = .ok (.aload_n 0, 1) := by decide +kernel
theorem dX12_checkAnySeen_1 : decode cX12_checkAnySeen 1 = .ok (.getfield 56, 3) := by decide +kernel
theorem dX12_checkAnySeen_4 : decode cX12_checkAnySeen 4 = .ok (.invokevirtual 139, 3) := by decide +kernel
theorem dX12_checkAnySeen_7 : decode cX12_checkAnySeen 7 = .ok (.ifCond .ne 14, 3) := by decide +kernel
theorem dX12_checkAnySeen_10 : decode cX12_checkAnySeen 10 = .ok (.new 266, 3) := by decide +kernel
theorem dX12_checkAnySeen_13 : decode cX12_checkAnySeen 13 = .ok (.dup, 1) := by decide +kernel
theorem dX12_checkAnySeen_14 : decode cX12_checkAnySeen 14 = .ok (.ldc_w 368, 3) := by decide +kernel
theorem dX12_checkAnySeen_17 : decode cX12_checkAnySeen 17 = .ok (.invokespecial 270, 3) := by decide +kernel
theorem dX12_checkAnySeen_20 : decode cX12_checkAnySeen 20 = .ok (.athrow, 1) := by decide +kernel
theorem dX12_checkAnySeen_21 : decode cX12_checkAnySeen 21 = .ok (.return_, 1) := by decide +kernel
theorem dX12_wordsOf_0 : decode cX12_wordsOf 0 = .ok (.aload_n 0, 1) := by decide +kernel
theorem dX12_wordsOf_1 : decode cX12_wordsOf 1 = .ok (.getfield 10, 3) := by decide +kernel
theorem dX12_wordsOf_4 : decode cX12_wordsOf 4 = .ok (.invokevirtual 108, 3) := by decide +kernel
theorem dX12_wordsOf_7 : decode cX12_wordsOf 7 = .ok (.aload_n 0, 1) := by decide +kernel
theorem dX12_wordsOf_8 : decode cX12_wordsOf 8 = .ok (.getfield 10, 3) := by decide +kernel
theorem dX12_wordsOf_11 : decode cX12_wordsOf 11 = .ok (.iload_n 1, 1) := by decide +kernel
theorem dX12_wordsOf_12 : decode cX12_wordsOf 12 = .ok (.invokevirtual 135, 3) := by decide +kernel
theorem dX12_wordsOf_15 : decode cX12_wordsOf 15 = .ok (.invokevirtual 160, 3) := by decide +kernel
theorem dX12_wordsOf_18 : decode cX12_wordsOf 18 = .ok (.imul, 1) := by decide +kernel
theorem dX12_wordsOf_19 : decode cX12_wordsOf 19 = .ok (.bipush 64, 2) := by decide +kernel
theorem dX12_wordsOf_21 : decode cX12_wordsOf 21 = .ok (.iadd, 1) := by decide +kernel
theorem dX12_wordsOf_22 : decode cX12_wordsOf 22 = .ok (.iconst 1, 1) := by decide +kernel
theorem dX12_wordsOf_23 : decode cX12_wordsOf 23 = .ok (.isub, 1) := by decide +kernel
theorem dX12_wordsOf_24 : decode cX12_wordsOf 24 = .ok (.bipush 64, 2) := by decide +kernel
theorem dX12_wordsOf_26 : decode cX12_wordsOf 26 = .ok (.idiv, 1) := by decide +kernel
theorem dX12_wordsOf_27 : decode cX12_wordsOf 27 = .ok (.ireturn, 1) := by decide +kernel
theorem dX12_sumOfSelected_0 : decode cX12_sumOfSelected 0 = .ok (.lconst 0, 1) := by decide +kernel
theorem dX12_sumOfSelected_1 : decode cX12_sumOfSelected 1 = .ok (.lstore_n 2, 1) := by decide +kernel
theorem dX12_sumOfSelected_2 : decode cX12_sumOfSelected 2 = .ok (.iconst 0, 1) := by decide +kernel
theorem dX12_sumOfSelected_3 : decode cX12_sumOfSelected 3 = .ok (.istore 4, 2) := by decide +kernel
theorem dX12_sumOfSelected_5 : decode cX12_sumOfSelected 5 = .ok (.iload 4, 2) := by decide +kernel
theorem dX12_sumOfSelected_7 : decode cX12_sumOfSelected 7 = .ok (.aload_n 0, 1) := by decide +kernel
theorem dX12_sumOfSelected_8 : decode cX12_sumOfSelected 8 = .ok (.getfield 10, 3) := by decide +kernel
theorem dX12_sumOfSelected_11 : decode cX12_sumOfSelected 11 = .ok (.invokevirtual 108, 3) := by decide +kernel
theorem dX12_sumOfSelected_14 : decode cX12_sumOfSelected 14 = .ok (.if_icmp .ge 38, 3) := by decide +kernel
theorem dX12_sumOfSelected_17 : decode cX12_sumOfSelected 17 = .ok (.aload_n 0, 1) := by decide +kernel
theorem dX12_sumOfSelected_18 : decode cX12_sumOfSelected 18 = .ok (.getfield 10, 3) := by decide +kernel
theorem dX12_sumOfSelected_21 : decode cX12_sumOfSelected 21 = .ok (.iload 4, 2) := by decide +kernel
theorem dX12_sumOfSelected_23 : decode cX12_sumOfSelected 23 = .ok (.invokevirtual 226, 3) := by decide +kernel
theorem dX12_sumOfSelected_26 : decode cX12_sumOfSelected 26 = .ok (.ifCond .eq 20, 3) := by decide +kernel
theorem dX12_sumOfSelected_29 : decode cX12_sumOfSelected 29 = .ok (.lload_n 2, 1) := by decide +kernel
theorem dX12_sumOfSelected_30 : decode cX12_sumOfSelected 30 = .ok (.aload_n 0, 1) := by decide +kernel
theorem dX12_sumOfSelected_31 : decode cX12_sumOfSelected 31 = .ok (.getfield 10, 3) := by decide +kernel
theorem dX12_sumOfSelected_34 : decode cX12_sumOfSelected 34 = .ok (.iload_n 1, 1) := by decide +kernel
theorem dX12_sumOfSelected_35 : decode cX12_sumOfSelected 35 = .ok (.invokevirtual 122, 3) := by decide +kernel
theorem dX12_sumOfSelected_38 : decode cX12_sumOfSelected 38 = .ok (.iload 4, 2) := by decide +kernel
theorem dX12_sumOfSelected_40 : decode cX12_sumOfSelected 40 = .ok (.invokevirtual 126, 3) := by decide +kernel
theorem dX12_sumOfSelected_43 : decode cX12_sumOfSelected 43 = .ok (.i2l, 1) := by decide +kernel
theorem dX12_sumOfSelected_44 : decode cX12_sumOfSelected 44 = .ok (.ladd, 1) := by decide +kernel
theorem dX12_sumOfSelected_45 : decode cX12_sumOfSelected 45 = .ok (.lstore_n 2, 1) := by decide +kernel
theorem dX12_sumOfSelected_46 : decode cX12_sumOfSelected 46 = .ok (.iinc 4 1, 3) := by decide +kernel
theorem dX12_sumOfSelected_49 : decode cX12_sumOfSelected 49 = .ok (.goto (-44), 3) := by decide +kernel
theorem dX12_sumOfSelected_52 : decode cX12_sumOfSelected 52 = .ok (.lload_n 2, 1) := by decide +kernel
theorem dX12_sumOfSelected_53 : decode cX12_sumOfSelected 53 = .ok (.lreturn, 1) := by decide +kernel
theorem dX12_collectSelected_0 : decode cX12_collectSelected 0 = .ok (.aload_n 0, 1) := by decide +kernel
theorem dX12_collectSelected_1 : decode cX12_collectSelected 1 = .ok (.getfield 56, 3) := by decide +kernel
theorem dX12_collectSelected_4 : decode cX12_collectSelected 4 = .ok (.invokevirtual 370, 3) := by decide +kernel
theorem dX12_collectSelected_7 : decode cX12_collectSelected 7 = .ok (.iconst 0, 1) := by decide +kernel
theorem dX12_collectSelected_8 : decode cX12_collectSelected 8 = .ok (.istore_n 2, 1) := by decide +kernel
theorem dX12_collectSelected_9 : decode cX12_collectSelected 9 = .ok (.iload_n 2, 1) := by decide +kernel
theorem dX12_collectSelected_10 : decode cX12_collectSelected 10 = .ok (.aload_n 0, 1) := by decide +kernel
theorem dX12_collectSelected_11 : decode cX12_collectSelected 11 = .ok (.getfield 10, 3) := by decide +kernel
theorem dX12_collectSelected_14 : decode cX12_collectSelected 14 = .ok (.invokevirtual 108, 3) := by decide +kernel
theorem dX12_collectSelected_17 : decode cX12_collectSelected 17 = .ok (.if_icmp .ge 39, 3) := by decide +kernel
theorem dX12_collectSelected_20 : decode cX12_collectSelected 20 = .ok (.aload_n 0, 1) := by decide +kernel
theorem dX12_collectSelected_21 : decode cX12_collectSelected 21 = .ok (.getfield 10, 3) := by decide +kernel
theorem dX12_collectSelected_24 : decode cX12_collectSelected 24 = .ok (.iload_n 2, 1) := by decide +kernel
theorem dX12_collectSelected_25 : decode cX12_collectSelected 25 = .ok (.invokevirtual 226, 3) := by decide +kernel
theorem dX12_collectSelected_28 : decode cX12_collectSelected 28 = .ok (.ifCond .eq 22, 3) := by decide +kernel
theorem dX12_collectSelected_31 : decode cX12_collectSelected 31 = .ok (.aload_n 0, 1) := by decide +kernel
theorem dX12_collectSelected_32 : decode cX12_collectSelected 32 = .ok (.getfield 56, 3) := by decide +kernel
theorem dX12_collectSelected_35 : decode cX12_collectSelected 35 = .ok (.aload_n 0, 1) := by decide +kernel
theorem dX12_collectSelected_36 : decode cX12_collectSelected 36 = .ok (.getfield 10, 3) := by decide +kernel
theorem dX12_collectSelected_39 : decode cX12_collectSelected 39 = .ok (.iload_n 1, 1) := by decide +kernel
theorem dX12_collectSelected_40 : decode cX12_collectSelected 40 = .ok (.invokevirtual 122, 3) := by decide +kernel
theorem dX12_collectSelected_43 : decode cX12_collectSelected 43 = .ok (.iload_n 2, 1) := by decide +kernel
theorem dX12_collectSelected_44 : decode cX12_collectSelected 44 = .ok (.invokevirtual 126, 3) := by decide +kernel
theorem dX12_collectSelected_47 : decode cX12_collectSelected 47 = .ok (.invokevirtual 371, 3) := by decide +kernel
theorem dX12_collectSelected_50 : decode cX12_collectSelected 50 = .ok (.iinc 2 1, 3) := by decide +kernel
theorem dX12_collectSelected_53 : decode cX12_collectSelected 53 = .ok (.goto (-44), 3) := by decide +kernel
theorem dX12_collectSelected_56 : decode cX12_collectSelected 56 = .ok (.return_, 1) := by decide +kernel
theorem dX12_runsAfterSorting_0 : decode cX12_runsAfterSorting 0 = .ok (.aload_n 0, 1) := by decide +kernel
theorem dX12_runsAfterSorting_1 : decode cX12_runsAfterSorting 1 = .ok (.getfield 49, 3) := by decide +kernel
theorem dX12_runsAfterSorting_4 : decode cX12_runsAfterSorting 4 = .ok (.aload_n 0, 1) := by decide +kernel
theorem dX12_runsAfterSorting_5 : decode cX12_runsAfterSorting 5 = .ok (.getfield 10, 3) := by decide +kernel
theorem dX12_runsAfterSorting_8 : decode cX12_runsAfterSorting 8 = .ok (.iload_n 1, 1) := by decide +kernel
theorem dX12_runsAfterSorting_9 : decode cX12_runsAfterSorting 9 = .ok (.invokevirtual 122, 3) := by decide +kernel
theorem dX12_runsAfterSorting_12 : decode cX12_runsAfterSorting 12 = .ok (.iconst 1, 1) := by decide +kernel
theorem dX12_runsAfterSorting_13 : decode cX12_runsAfterSorting 13 = .ok (.invokevirtual 374, 3) := by decide +kernel
theorem dX12_runsAfterSorting_16 : decode cX12_runsAfterSorting 16 = .ok (.iconst 0, 1) := by decide +kernel
theorem dX12_runsAfterSorting_17 : decode cX12_runsAfterSorting 17 = .ok (.istore_n 2, 1) := by decide +kernel
theorem dX12_runsAfterSorting_18 : decode cX12_runsAfterSorting 18 = .ok (.iconst 0, 1) := by decide +kernel
theorem dX12_runsAfterSorting_19 : decode cX12_runsAfterSorting 19 = .ok (.istore_n 3, 1) := by decide +kernel
theorem dX12_runsAfterSorting_20 : decode cX12_runsAfterSorting 20 = .ok (.iload_n 3, 1) := by decide +kernel
theorem dX12_runsAfterSorting_21 : decode cX12_runsAfterSorting 21 = .ok (.aload_n 0, 1) := by decide +kernel
theorem dX12_runsAfterSorting_22 : decode cX12_runsAfterSorting 22 = .ok (.getfield 10, 3) := by decide +kernel
theorem dX12_runsAfterSorting_25 : decode cX12_runsAfterSorting 25 = .ok (.invokevirtual 115, 3) := by decide +kernel
theorem dX12_runsAfterSorting_28 : decode cX12_runsAfterSorting 28 = .ok (.if_icmp .ge 27, 3) := by decide +kernel
theorem dX12_runsAfterSorting_31 : decode cX12_runsAfterSorting 31 = .ok (.iload_n 2, 1) := by decide +kernel
theorem dX12_runsAfterSorting_32 : decode cX12_runsAfterSorting 32 = .ok (.aload_n 0, 1) := by decide +kernel
theorem dX12_runsAfterSorting_33 : decode cX12_runsAfterSorting 33 = .ok (.getfield 10, 3) := by decide +kernel
theorem dX12_runsAfterSorting_36 : decode cX12_runsAfterSorting 36 = .ok (.iload_n 3, 1) := by decide +kernel
theorem dX12_runsAfterSorting_37 : decode cX12_runsAfterSorting 37 = .ok (.invokevirtual 122, 3) := by decide +kernel
theorem dX12_runsAfterSorting_40 : decode cX12_runsAfterSorting 40 = .ok (.aload_n 0, 1) := by decide +kernel
theorem dX12_runsAfterSorting_41 : decode cX12_runsAfterSorting 41 = .ok (.getfield 49, 3) := by decide +kernel
theorem dX12_runsAfterSorting_44 : decode cX12_runsAfterSorting 44 = .ok (.invokevirtual 187, 3) := by decide +kernel
theorem dX12_runsAfterSorting_47 : decode cX12_runsAfterSorting 47 = .ok (.iadd, 1) := by decide +kernel
theorem dX12_runsAfterSorting_48 : decode cX12_runsAfterSorting 48 = .ok (.istore_n 2, 1) := by decide +kernel
theorem dX12_runsAfterSorting_49 : decode cX12_runsAfterSorting 49 = .ok (.iinc 3 1, 3) := by decide +kernel
theorem dX12_runsAfterSorting_52 : decode cX12_runsAfterSorting 52 = .ok (.goto (-32), 3) := by decide +kernel
theorem dX12_runsAfterSorting_55 : decode cX12_runsAfterSorting 55 = .ok (.iload_n 2, 1) := by decide +kernel
theorem dX12_runsAfterSorting_56 : decode cX12_runsAfterSorting 56 = .ok (.ireturn, 1) := by decide +kernel
theorem dX12_packingDifferences_0 : decode cX12_packingDifferences 0 = .ok (.aload_n 0, 1) := by decide +kernel
theorem dX12_packingDifferences_1 : decode cX12_packingDifferences 1 = .ok (.getfield 63, 3) := by decide +kernel
theorem dX12_packingDifferences_4 : decode cX12_packingDifferences 4 = .ok (.aload_n 1, 1) := by decide +kernel
theorem dX12_packingDifferences_5 : decode cX12_packingDifferences 5 = .ok (.invokevirtual 173, 3) := by decide +kernel
theorem dX12_packingDifferences_8 : decode cX12_packingDifferences 8 = .ok (.iconst 0, 1) := by decide +kernel
theorem dX12_packingDifferences_9 : decode cX12_packingDifferences 9 = .ok (.istore_n 2, 1) := by decide +kernel
theorem dX12_packingDifferences_10 : decode cX12_packingDifferences 10 = .ok (.iconst 0, 1) := by decide +kernel
theorem dX12_packingDifferences_11 : decode cX12_packingDifferences 11 = .ok (.istore_n 3, 1) := by decide +kernel
theorem dX12_packingDifferences_12 : decode cX12_packingDifferences 12 = .ok (.iload_n 3, 1) := by decide +kernel
theorem dX12_packingDifferences_13 : decode cX12_packingDifferences 13 = .ok (.aload_n 1, 1) := by decide +kernel
theorem dX12_packingDifferences_14 : decode cX12_packingDifferences 14 = .ok (.invokevirtual 378, 3) := by decide +kernel
theorem dX12_packingDifferences_17 : decode cX12_packingDifferences 17 = .ok (.if_icmp .ge 51, 3) := by decide +kernel
theorem dX12_packingDifferences_20 : decode cX12_packingDifferences 20 = .ok (.aload_n 0, 1) := by decide +kernel
theorem dX12_packingDifferences_21 : decode cX12_packingDifferences 21 = .ok (.getfield 63, 3) := by decide +kernel
theorem dX12_packingDifferences_24 : decode cX12_packingDifferences 24 = .ok (.iload_n 3, 1) := by decide +kernel
theorem dX12_packingDifferences_25 : decode cX12_packingDifferences 25 = .ok (.invokevirtual 381, 3) := by decide +kernel
theorem dX12_packingDifferences_28 : decode cX12_packingDifferences 28 = .ok (.istore 4, 2) := by decide +kernel
theorem dX12_packingDifferences_30 : decode cX12_packingDifferences 30 = .ok (.iload 4, 2) := by decide +kernel
theorem dX12_packingDifferences_32 : decode cX12_packingDifferences 32 = .ok (.aload_n 1, 1) := by decide +kernel
theorem dX12_packingDifferences_33 : decode cX12_packingDifferences 33 = .ok (.invokevirtual 384, 3) := by decide +kernel
theorem dX12_packingDifferences_36 : decode cX12_packingDifferences 36 = .ok (.invokevirtual 139, 3) := by decide +kernel
theorem dX12_packingDifferences_39 : decode cX12_packingDifferences 39 = .ok (.if_icmp .ge 20, 3) := by decide +kernel
theorem dX12_packingDifferences_42 : decode cX12_packingDifferences 42 = .ok (.aload_n 1, 1) := by decide +kernel
theorem dX12_packingDifferences_43 : decode cX12_packingDifferences 43 = .ok (.invokevirtual 384, 3) := by decide +kernel
theorem dX12_packingDifferences_46 : decode cX12_packingDifferences 46 = .ok (.iload 4, 2) := by decide +kernel
theorem dX12_packingDifferences_48 : decode cX12_packingDifferences 48 = .ok (.invokevirtual 144, 3) := by decide +kernel
theorem dX12_packingDifferences_51 : decode cX12_packingDifferences 51 = .ok (.aload_n 1, 1) := by decide +kernel
theorem dX12_packingDifferences_52 : decode cX12_packingDifferences 52 = .ok (.iload_n 3, 1) := by decide +kernel
theorem dX12_packingDifferences_53 : decode cX12_packingDifferences 53 = .ok (.invokevirtual 126, 3) := by decide +kernel
theorem dX12_packingDifferences_56 : decode cX12_packingDifferences 56 = .ok (.if_icmp .eq 6, 3) := by decide +kernel
theorem dX12_packingDifferences_59 : decode cX12_packingDifferences 59 = .ok (.iinc 2 1, 3) := by decide +kernel
theorem dX12_packingDifferences_62 : decode cX12_packingDifferences 62 = .ok (.iinc 3 1, 3) := by decide +kernel
theorem dX12_packingDifferences_65 : decode cX12_packingDifferences 65 = .ok (.goto (-53), 3) := by decide +kernel
theorem dX12_packingDifferences_68 : decode cX12_packingDifferences 68 = .ok (.iload_n 2, 1) := by decide +kernel
theorem dX12_packingDifferences_69 : decode cX12_packingDifferences 69 = .ok (.ireturn, 1) := by decide +kernel
theorem dX12_addCondition_0 : decode cX12_addCondition 0 = .ok (.aload_n 0, 1) := by decide +kernel
theorem dX12_addCondition_1 : decode cX12_addCondition 1 = .ok (.iload_n 1, 1) := by decide +kernel
theorem dX12_addCondition_2 : decode cX12_addCondition 2 = .ok (.invokevirtual 116, 3) := by decide +kernel
theorem dX12_addCondition_5 : decode cX12_addCondition 5 = .ok (.aload_n 0, 1) := by decide +kernel
theorem dX12_addCondition_6 : decode cX12_addCondition 6 = .ok (.iload_n 2, 1) := by decide +kernel
theorem dX12_addCondition_7 : decode cX12_addCondition 7 = .ok (.invokevirtual 244, 3) := by decide +kernel
theorem dX12_addCondition_10 : decode cX12_addCondition 10 = .ok (.aload_n 0, 1) := by decide +kernel
theorem dX12_addCondition_11 : decode cX12_addCondition 11 = .ok (.getfield 10, 3) := by decide +kernel
theorem dX12_addCondition_14 : decode cX12_addCondition 14 = .ok (.invokevirtual 198, 3) := by decide +kernel
theorem dX12_addCondition_17 : decode cX12_addCondition 17 = .ok (.invokevirtual 387, 3) := by decide +kernel
theorem dX12_addCondition_20 : decode cX12_addCondition 20 = .ok (.ifCond .eq 14, 3) := by decide +kernel
theorem dX12_addCondition_23 : decode cX12_addCondition 23 = .ok (.new 266, 3) := by decide +kernel
theorem dX12_addCondition_26 : decode cX12_addCondition 26 = .ok (.dup, 1) := by decide +kernel
theorem dX12_addCondition_27 : decode cX12_addCondition 27 = .ok (.ldc_w 388, 3) := by decide +kernel
theorem dX12_addCondition_30 : decode cX12_addCondition 30 = .ok (.invokespecial 270, 3) := by decide +kernel
theorem dX12_addCondition_33 : decode cX12_addCondition 33 = .ok (.athrow, 1) := by decide +kernel
theorem dX12_addCondition_34 : decode cX12_addCondition 34 = .ok (.aload_n 0, 1) := by decide +kernel
theorem dX12_addCondition_35 : decode cX12_addCondition 35 = .ok (.getfield 22, 3) := by decide +kernel
theorem dX12_addCondition_38 : decode cX12_addCondition 38 = .ok (.aload_n 0, 1) := by decide +kernel
theorem dX12_addCondition_39 : decode cX12_addCondition 39 = .ok (.getfield 10, 3) := by decide +kernel
theorem dX12_addCondition_42 : decode cX12_addCondition 42 = .ok (.invokevirtual 275, 3) := by decide +kernel
theorem dX12_addCondition_45 : decode cX12_addCondition 45 = .ok (.aload_n 0, 1) := by decide +kernel
theorem dX12_addCondition_46 : decode cX12_addCondition 46 = .ok (.getfield 10, 3) := by decide +kernel
theorem dX12_addCondition_49 : decode cX12_addCondition 49 = .ok (.invokevirtual 198, 3) := by decide +kernel
theorem dX12_addCondition_52 : decode cX12_addCondition 52 = .ok (.iload_n 1, 1) := by decide +kernel
theorem dX12_addCondition_53 : decode cX12_addCondition 53 = .ok (.iload_n 2, 1) := by decide +kernel
theorem dX12_addCondition_54 : decode cX12_addCondition 54 = .ok (.iload_n 3, 1) := by decide +kernel
theorem dX12_addCondition_55 : decode cX12_addCondition 55 = .ok (.invokevirtual 390, 3) := by decide +kernel
theorem dX12_addCondition_58 : decode cX12_addCondition 58 = .ok (.aload_n 0, 1) := by decide +kernel
theorem dX12_addCondition_59 : decode cX12_addCondition 59 = .ok (.getfield 10, 3) := by decide +kernel
theorem dX12_addCondition_62 : decode cX12_addCondition 62 = .ok (.invokevirtual 229, 3) := by decide +kernel
theorem dX12_addCondition_65 : decode cX12_addCondition 65 = .ok (.ireturn, 1) := by decide +kernel
theorem dX12_sortRows_0 : decode cX12_sortRows 0 = .ok (.aload_n 0, 1) := by decide +kernel
theorem dX12_sortRows_1 : decode cX12_sortRows 1 = .ok (.getfield 49, 3) := by decide +kernel
theorem dX12_sortRows_4 : decode cX12_sortRows 4 = .ok (.aload_n 0, 1) := by decide +kernel
theorem dX12_sortRows_5 : decode cX12_sortRows 5 = .ok (.getfield 10, 3) := by decide +kernel
theorem dX12_sortRows_8 : decode cX12_sortRows 8 = .ok (.iload_n 1, 1) := by decide +kernel
theorem dX12_sortRows_9 : decode cX12_sortRows 9 = .ok (.invokevirtual 122, 3) := by decide +kernel
theorem dX12_sortRows_12 : decode cX12_sortRows 12 = .ok (.iload_n 2, 1) := by decide +kernel
theorem dX12_sortRows_13 : decode cX12_sortRows 13 = .ok (.invokevirtual 374, 3) := by decide +kernel
theorem dX12_sortRows_16 : decode cX12_sortRows 16 = .ok (.aload_n 0, 1) := by decide +kernel
theorem dX12_sortRows_17 : decode cX12_sortRows 17 = .ok (.getfield 10, 3) := by decide +kernel
theorem dX12_sortRows_20 : decode cX12_sortRows 20 = .ok (.aload_n 0, 1) := by decide +kernel
theorem dX12_sortRows_21 : decode cX12_sortRows 21 = .ok (.getfield 49, 3) := by decide +kernel
theorem dX12_sortRows_24 : decode cX12_sortRows 24 = .ok (.invokevirtual 394, 3) := by decide +kernel
theorem dX12_sortRows_27 : decode cX12_sortRows 27 = .ok (.return_, 1) := by decide +kernel
theorem dX12_isPossible_0 : decode cX12_isPossible 0 = .ok (.getstatic 398, 3) := by decide +kernel
theorem dX12_isPossible_3 : decode cX12_isPossible 3 = .ok (.aload_n 1, 1) := by decide +kernel
theorem dX12_isPossible_4 : decode cX12_isPossible 4 = .ok (.getfield 403, 3) := by decide +kernel
theorem dX12_isPossible_7 : decode cX12_isPossible 7 = .ok (.invokevirtual 409, 3) := by decide +kernel
theorem dX12_isPossible_10 : decode cX12_isPossible 10 = .ok (.iaload, 1) := by decide +kernel
theorem dX12_isPossible_11 : decode cX12_isPossible 11 = .ok (.tableswitch 99 1 6 #[37, 53, 65, 65, 65, 84], 37) := by decide +kernel
theorem dX12_isPossible_48 : decode cX12_isPossible 48 = .ok (.aload_n 0, 1) := by decide +kernel
theorem dX12_isPossible_49 : decode cX12_isPossible 49 = .ok (.getfield 10, 3) := by decide +kernel
theorem dX12_isPossible_52 : decode cX12_isPossible 52 = .ok (.invokevirtual 263, 3) := by decide +kernel
theorem dX12_isPossible_55 : decode cX12_isPossible 55 = .ok (.ifCond .ne 7, 3) := by decide +kernel
theorem dX12_isPossible_58 : decode cX12_isPossible 58 = .ok (.iconst 1, 1) := by decide +kernel
theorem dX12_isPossible_59 : decode cX12_isPossible 59 = .ok (.goto 4, 3) := by decide +kernel
theorem dX12_isPossible_62 : decode cX12_isPossible 62 = .ok (.iconst 0, 1) := by decide +kernel
theorem dX12_isPossible_63 : decode cX12_isPossible 63 = .ok (.ireturn, 1) := by decide +kernel
theorem dX12_isPossible_64 : decode cX12_isPossible 64 = .ok (.aload_n 0, 1) := by decide +kernel
theorem dX12_isPossible_65 : decode cX12_isPossible 65 = .ok (.getfield 10, 3) := by decide +kernel
theorem dX12_isPossible_68 : decode cX12_isPossible 68 = .ok (.aload_n 1, 1) := by decide +kernel
theorem dX12_isPossible_69 : decode cX12_isPossible 69 = .ok (.getfield 414, 3) := by decide +kernel
theorem dX12_isPossible_72 : decode cX12_isPossible 72 = .ok (.invokevirtual 354, 3) := by decide +kernel
theorem dX12_isPossible_75 : decode cX12_isPossible 75 = .ok (.ireturn, 1) := by decide +kernel
theorem dX12_isPossible_76 : decode cX12_isPossible 76 = .ok (.aload_n 0, 1) := by decide +kernel
theorem dX12_isPossible_77 : decode cX12_isPossible 77 = .ok (.getfield 10, 3) := by decide +kernel
theorem dX12_isPossible_80 : decode cX12_isPossible 80 = .ok (.invokevirtual 198, 3) := by decide +kernel
theorem dX12_isPossible_83 : decode cX12_isPossible 83 = .ok (.invokevirtual 387, 3) := by decide +kernel
theorem dX12_isPossible_86 : decode cX12_isPossible 86 = .ok (.ifCond .ne 7, 3) := by decide +kernel
theorem dX12_isPossible_89 : decode cX12_isPossible 89 = .ok (.iconst 1, 1) := by decide +kernel
theorem dX12_isPossible_90 : decode cX12_isPossible 90 = .ok (.goto 4, 3) := by decide +kernel
theorem dX12_isPossible_93 : decode cX12_isPossible 93 = .ok (.iconst 0, 1) := by decide +kernel
theorem dX12_isPossible_94 : decode cX12_isPossible 94 = .ok (.ireturn, 1) := by decide +kernel
theorem dX12_isPossible_95 : decode cX12_isPossible 95 = .ok (.aload_n 0, 1) := by decide +kernel
theorem dX12_isPossible_96 : decode cX12_isPossible 96 = .ok (.getfield 10, 3) := by decide +kernel
theorem dX12_isPossible_99 : decode cX12_isPossible 99 = .ok (.invokevirtual 198, 3) := by decide +kernel
theorem dX12_isPossible_102 : decode cX12_isPossible 102 = .ok (.aload_n 1, 1) := by decide +kernel
theorem dX12_isPossible_103 : decode cX12_isPossible 103 = .ok (.getfield 414, 3) := by decide +kernel
theorem dX12_isPossible_106 : decode cX12_isPossible 106 = .ok (.invokevirtual 361, 3) := by decide +kernel
theorem dX12_isPossible_109 : decode cX12_isPossible 109 = .ok (.ireturn, 1) := by decide +kernel
theorem dX12_isPossible_110 : decode cX12_isPossible 110 = .ok (.iconst 1, 1) := by decide +kernel
theorem dX12_isPossible_111 : decode cX12_isPossible 111 = .ok (.ireturn, 1) := by decide +kernel
theorem dX12_execute_0 : decode cX12_execute 0 = .ok (.getstatic 398, 3) := by decide +kernel
theorem dX12_execute_3 : decode cX12_execute 3 = .ok (.aload_n 1, 1) := by decide +kernel
theorem dX12_execute_4 : decode cX12_execute 4 = .ok (.getfield 403, 3) := by decide +kernel
theorem dX12_execute_7 : decode cX12_execute 7 = .ok (.invokevirtual 409, 3) := by decide +kernel
theorem dX12_execute_10 : decode cX12_execute 10 = .ok (.iaload, 1) := by decide +kernel
theorem dX12_execute_11 : decode cX12_execute 11 = .ok (.tableswitch 223 1 9 #[49, 64, 112, 134, 156, 178, 89, 195, 206], 49) := by decide +kernel
theorem dX12_execute_60 : decode cX12_execute 60 = .ok (.aload_n 0, 1) := by decide +kernel
theorem dX12_execute_61 : decode cX12_execute 61 = .ok (.getfield 10, 3) := by decide +kernel
theorem dX12_execute_64 : decode cX12_execute 64 = .ok (.aload_n 1, 1) := by decide +kernel
theorem dX12_execute_65 : decode cX12_execute 65 = .ok (.getfield 417, 3) := by decide +kernel
theorem dX12_execute_68 : decode cX12_execute 68 = .ok (.iconst 0, 1) := by decide +kernel
theorem dX12_execute_69 : decode cX12_execute 69 = .ok (.invokevirtual 279, 3) := by decide +kernel
theorem dX12_execute_72 : decode cX12_execute 72 = .ok (.goto 162, 3) := by decide +kernel
theorem dX12_execute_75 : decode cX12_execute 75 = .ok (.aload_n 0, 1) := by decide +kernel
theorem dX12_execute_76 : decode cX12_execute 76 = .ok (.getfield 10, 3) := by decide +kernel
theorem dX12_execute_79 : decode cX12_execute 79 = .ok (.aload_n 1, 1) := by decide +kernel
theorem dX12_execute_80 : decode cX12_execute 80 = .ok (.getfield 419, 3) := by decide +kernel
theorem dX12_execute_83 : decode cX12_execute 83 = .ok (.invokevirtual 122, 3) := by decide +kernel
theorem dX12_execute_86 : decode cX12_execute 86 = .ok (.aload_n 1, 1) := by decide +kernel
theorem dX12_execute_87 : decode cX12_execute 87 = .ok (.getfield 414, 3) := by decide +kernel
theorem dX12_execute_90 : decode cX12_execute 90 = .ok (.aload_n 1, 1) := by decide +kernel
theorem dX12_execute_91 : decode cX12_execute 91 = .ok (.getfield 421, 3) := by decide +kernel
theorem dX12_execute_94 : decode cX12_execute 94 = .ok (.invokevirtual 286, 3) := by decide +kernel
theorem dX12_execute_97 : decode cX12_execute 97 = .ok (.goto 137, 3) := by decide +kernel
theorem dX12_execute_100 : decode cX12_execute 100 = .ok (.aload_n 0, 1) := by decide +kernel
theorem dX12_execute_101 : decode cX12_execute 101 = .ok (.aload_n 1, 1) := by decide +kernel
theorem dX12_execute_102 : decode cX12_execute 102 = .ok (.getfield 419, 3) := by decide +kernel
theorem dX12_execute_105 : decode cX12_execute 105 = .ok (.aload_n 1, 1) := by decide +kernel
theorem dX12_execute_106 : decode cX12_execute 106 = .ok (.getfield 424, 3) := by decide +kernel
theorem dX12_execute_109 : decode cX12_execute 109 = .ok (.ifCond .ne 7, 3) := by decide +kernel
theorem dX12_execute_112 : decode cX12_execute 112 = .ok (.iconst 1, 1) := by decide +kernel
theorem dX12_execute_113 : decode cX12_execute 113 = .ok (.goto 4, 3) := by decide +kernel
theorem dX12_execute_116 : decode cX12_execute 116 = .ok (.iconst 0, 1) := by decide +kernel
theorem dX12_execute_117 : decode cX12_execute 117 = .ok (.invokevirtual 289, 3) := by decide +kernel
theorem dX12_execute_120 : decode cX12_execute 120 = .ok (.goto 114, 3) := by decide +kernel
theorem dX12_execute_123 : decode cX12_execute 123 = .ok (.aload_n 0, 1) := by decide +kernel
theorem dX12_execute_124 : decode cX12_execute 124 = .ok (.getfield 10, 3) := by decide +kernel
theorem dX12_execute_127 : decode cX12_execute 127 = .ok (.invokevirtual 198, 3) := by decide +kernel
theorem dX12_execute_130 : decode cX12_execute 130 = .ok (.aload_n 1, 1) := by decide +kernel
theorem dX12_execute_131 : decode cX12_execute 131 = .ok (.getfield 419, 3) := by decide +kernel
theorem dX12_execute_134 : decode cX12_execute 134 = .ok (.aload_n 1, 1) := by decide +kernel
theorem dX12_execute_135 : decode cX12_execute 135 = .ok (.getfield 421, 3) := by decide +kernel
theorem dX12_execute_138 : decode cX12_execute 138 = .ok (.iconst (-1), 1) := by decide +kernel
theorem dX12_execute_139 : decode cX12_execute 139 = .ok (.invokevirtual 390, 3) := by decide +kernel
theorem dX12_execute_142 : decode cX12_execute 142 = .ok (.goto 92, 3) := by decide +kernel
theorem dX12_execute_145 : decode cX12_execute 145 = .ok (.aload_n 0, 1) := by decide +kernel
theorem dX12_execute_146 : decode cX12_execute 146 = .ok (.getfield 10, 3) := by decide +kernel
theorem dX12_execute_149 : decode cX12_execute 149 = .ok (.invokevirtual 198, 3) := by decide +kernel
theorem dX12_execute_152 : decode cX12_execute 152 = .ok (.aload_n 1, 1) := by decide +kernel
theorem dX12_execute_153 : decode cX12_execute 153 = .ok (.getfield 419, 3) := by decide +kernel
theorem dX12_execute_156 : decode cX12_execute 156 = .ok (.aload_n 1, 1) := by decide +kernel
theorem dX12_execute_157 : decode cX12_execute 157 = .ok (.getfield 421, 3) := by decide +kernel
theorem dX12_execute_160 : decode cX12_execute 160 = .ok (.iconst 0, 1) := by decide +kernel
theorem dX12_execute_161 : decode cX12_execute 161 = .ok (.invokevirtual 390, 3) := by decide +kernel
theorem dX12_execute_164 : decode cX12_execute 164 = .ok (.goto 70, 3) := by decide +kernel
theorem dX12_execute_167 : decode cX12_execute 167 = .ok (.aload_n 0, 1) := by decide +kernel
theorem dX12_execute_168 : decode cX12_execute 168 = .ok (.getfield 10, 3) := by decide +kernel
theorem dX12_execute_171 : decode cX12_execute 171 = .ok (.invokevirtual 198, 3) := by decide +kernel
theorem dX12_execute_174 : decode cX12_execute 174 = .ok (.aload_n 1, 1) := by decide +kernel
theorem dX12_execute_175 : decode cX12_execute 175 = .ok (.getfield 419, 3) := by decide +kernel
theorem dX12_execute_178 : decode cX12_execute 178 = .ok (.aload_n 1, 1) := by decide +kernel
theorem dX12_execute_179 : decode cX12_execute 179 = .ok (.getfield 421, 3) := by decide +kernel
theorem dX12_execute_182 : decode cX12_execute 182 = .ok (.iconst 1, 1) := by decide +kernel
theorem dX12_execute_183 : decode cX12_execute 183 = .ok (.invokevirtual 390, 3) := by decide +kernel
theorem dX12_execute_186 : decode cX12_execute 186 = .ok (.goto 48, 3) := by decide +kernel
theorem dX12_execute_189 : decode cX12_execute 189 = .ok (.aload_n 0, 1) := by decide +kernel
theorem dX12_execute_190 : decode cX12_execute 190 = .ok (.getfield 10, 3) := by decide +kernel
theorem dX12_execute_193 : decode cX12_execute 193 = .ok (.invokevirtual 198, 3) := by decide +kernel
theorem dX12_execute_196 : decode cX12_execute 196 = .ok (.aload_n 1, 1) := by decide +kernel
theorem dX12_execute_197 : decode cX12_execute 197 = .ok (.getfield 414, 3) := by decide +kernel
theorem dX12_execute_200 : decode cX12_execute 200 = .ok (.invokevirtual 297, 3) := by decide +kernel
theorem dX12_execute_203 : decode cX12_execute 203 = .ok (.goto 31, 3) := by decide +kernel
theorem dX12_execute_206 : decode cX12_execute 206 = .ok (.aload_n 0, 1) := by decide +kernel
theorem dX12_execute_207 : decode cX12_execute 207 = .ok (.getfield 10, 3) := by decide +kernel
theorem dX12_execute_210 : decode cX12_execute 210 = .ok (.invokevirtual 300, 3) := by decide +kernel
theorem dX12_execute_213 : decode cX12_execute 213 = .ok (.pop, 1) := by decide +kernel
theorem dX12_execute_214 : decode cX12_execute 214 = .ok (.goto 20, 3) := by decide +kernel
theorem dX12_execute_217 : decode cX12_execute 217 = .ok (.aload_n 0, 1) := by decide +kernel
theorem dX12_execute_218 : decode cX12_execute 218 = .ok (.getfield 10, 3) := by decide +kernel
theorem dX12_execute_221 : decode cX12_execute 221 = .ok (.aload_n 1, 1) := by decide +kernel
theorem dX12_execute_222 : decode cX12_execute 222 = .ok (.getfield 419, 3) := by decide +kernel
theorem dX12_execute_225 : decode cX12_execute 225 = .ok (.invokevirtual 122, 3) := by decide +kernel
theorem dX12_execute_228 : decode cX12_execute 228 = .ok (.invokevirtual 303, 3) := by decide +kernel
theorem dX12_execute_231 : decode cX12_execute 231 = .ok (.goto 3, 3) := by decide +kernel
theorem dX12_execute_234 : decode cX12_execute 234 = .ok (.return_, 1) := by decide +kernel
theorem dX12_putNumber_0 : decode cX12_putNumber 0 = .ok (.iload_n 1, 1) := by decide +kernel
theorem dX12_putNumber_1 : decode cX12_putNumber 1 = .ok (.istore_n 2, 1) := by decide +kernel
theorem dX12_putNumber_2 : decode cX12_putNumber 2 = .ok (.iload_n 2, 1) := by decide +kernel
theorem dX12_putNumber_3 : decode cX12_putNumber 3 = .ok (.ifCond .ge 12, 3) := by decide +kernel
theorem dX12_putNumber_6 : decode cX12_putNumber 6 = .ok (.aload_n 0, 1) := by decide +kernel
theorem dX12_putNumber_7 : decode cX12_putNumber 7 = .ok (.bipush 45, 2) := by decide +kernel
theorem dX12_putNumber_9 : decode cX12_putNumber 9 = .ok (.invokevirtual 328, 3) := by decide +kernel
theorem dX12_putNumber_12 : decode cX12_putNumber 12 = .ok (.iload_n 2, 1) := by decide +kernel
theorem dX12_putNumber_13 : decode cX12_putNumber 13 = .ok (.ineg, 1) := by decide +kernel
theorem dX12_putNumber_14 : decode cX12_putNumber 14 = .ok (.istore_n 2, 1) := by decide +kernel
theorem dX12_putNumber_15 : decode cX12_putNumber 15 = .ok (.iconst 1, 1) := by decide +kernel
theorem dX12_putNumber_16 : decode cX12_putNumber 16 = .ok (.istore_n 3, 1) := by decide +kernel
theorem dX12_putNumber_17 : decode cX12_putNumber 17 = .ok (.iload_n 3, 1) := by decide +kernel
theorem dX12_putNumber_18 : decode cX12_putNumber 18 = .ok (.iload_n 2, 1) := by decide +kernel
theorem dX12_putNumber_19 : decode cX12_putNumber 19 = .ok (.bipush 10, 2) := by decide +kernel
theorem dX12_putNumber_21 : decode cX12_putNumber 21 = .ok (.idiv, 1) := by decide +kernel
theorem dX12_putNumber_22 : decode cX12_putNumber 22 = .ok (.if_icmp .gt 11, 3) := by decide +kernel
theorem dX12_putNumber_25 : decode cX12_putNumber 25 = .ok (.iload_n 3, 1) := by decide +kernel
theorem dX12_putNumber_26 : decode cX12_putNumber 26 = .ok (.bipush 10, 2) := by decide +kernel
theorem dX12_putNumber_28 : decode cX12_putNumber 28 = .ok (.imul, 1) := by decide +kernel
theorem dX12_putNumber_29 : decode cX12_putNumber 29 = .ok (.istore_n 3, 1) := by decide +kernel
theorem dX12_putNumber_30 : decode cX12_putNumber 30 = .ok (.goto (-13), 3) := by decide +kernel
theorem dX12_putNumber_33 : decode cX12_putNumber 33 = .ok (.iload_n 3, 1) := by decide +kernel
theorem dX12_putNumber_34 : decode cX12_putNumber 34 = .ok (.ifCond .le 24, 3) := by decide +kernel
theorem dX12_putNumber_37 : decode cX12_putNumber 37 = .ok (.aload_n 0, 1) := by decide +kernel
theorem dX12_putNumber_38 : decode cX12_putNumber 38 = .ok (.bipush 48, 2) := by decide +kernel
theorem dX12_putNumber_40 : decode cX12_putNumber 40 = .ok (.iload_n 2, 1) := by decide +kernel
theorem dX12_putNumber_41 : decode cX12_putNumber 41 = .ok (.iload_n 3, 1) := by decide +kernel
theorem dX12_putNumber_42 : decode cX12_putNumber 42 = .ok (.idiv, 1) := by decide +kernel
theorem dX12_putNumber_43 : decode cX12_putNumber 43 = .ok (.bipush 10, 2) := by decide +kernel
theorem dX12_putNumber_45 : decode cX12_putNumber 45 = .ok (.irem, 1) := by decide +kernel
theorem dX12_putNumber_46 : decode cX12_putNumber 46 = .ok (.iadd, 1) := by decide +kernel
theorem dX12_putNumber_47 : decode cX12_putNumber 47 = .ok (.invokevirtual 328, 3) := by decide +kernel
theorem dX12_putNumber_50 : decode cX12_putNumber 50 = .ok (.iload_n 3, 1) := by decide +kernel
theorem dX12_putNumber_51 : decode cX12_putNumber 51 = .ok (.bipush 10, 2) := by decide +kernel
theorem dX12_putNumber_53 : decode cX12_putNumber 53 = .ok (.idiv, 1) := by decide +kernel
theorem dX12_putNumber_54 : decode cX12_putNumber 54 = .ok (.istore_n 3, 1) := by decide +kernel
theorem dX12_putNumber_55 : decode cX12_putNumber 55 = .ok (.goto (-22), 3) := by decide +kernel
theorem dX12_putNumber_58 : decode cX12_putNumber 58 = .ok (.return_, 1) := by decide +kernel
theorem dX12_putByte_0 : decode cX12_putByte 0 = .ok (.aload_n 0, 1) := by decide +kernel
theorem dX12_putByte_1 : decode cX12_putByte 1 = .ok (.getfield 324, 3) := by decide +kernel
theorem dX12_putByte_4 : decode cX12_putByte 4 = .ok (.aload_n 0, 1) := by decide +kernel
theorem dX12_putByte_5 : decode cX12_putByte 5 = .ok (.getfield 42, 3) := by decide +kernel
theorem dX12_putByte_8 : decode cX12_putByte 8 = .ok (.arraylength, 1) := by decide +kernel
theorem dX12_putByte_9 : decode cX12_putByte 9 = .ok (.if_icmp .ge 24, 3) := by decide +kernel
theorem dX12_putByte_12 : decode cX12_putByte 12 = .ok (.aload_n 0, 1) := by decide +kernel
theorem dX12_putByte_13 : decode cX12_putByte 13 = .ok (.getfield 42, 3) := by decide +kernel
theorem dX12_putByte_16 : decode cX12_putByte 16 = .ok (.aload_n 0, 1) := by decide +kernel
theorem dX12_putByte_17 : decode cX12_putByte 17 = .ok (.getfield 324, 3) := by decide +kernel
theorem dX12_putByte_20 : decode cX12_putByte 20 = .ok (.iload_n 1, 1) := by decide +kernel
theorem dX12_putByte_21 : decode cX12_putByte 21 = .ok (.i2b, 1) := by decide +kernel
theorem dX12_putByte_22 : decode cX12_putByte 22 = .ok (.bastore, 1) := by decide +kernel
theorem dX12_putByte_23 : decode cX12_putByte 23 = .ok (.aload_n 0, 1) := by decide +kernel
theorem dX12_putByte_24 : decode cX12_putByte 24 = .ok (.dup, 1) := by decide +kernel
theorem dX12_putByte_25 : decode cX12_putByte 25 = .ok (.getfield 324, 3) := by decide +kernel
theorem dX12_putByte_28 : decode cX12_putByte 28 = .ok (.iconst 1, 1) := by decide +kernel
theorem dX12_putByte_29 : decode cX12_putByte 29 = .ok (.iadd, 1) := by decide +kernel
theorem dX12_putByte_30 : decode cX12_putByte 30 = .ok (.putfield 324, 3) := by decide +kernel
theorem dX12_putByte_33 : decode cX12_putByte 33 = .ok (.return_, 1) := by decide +kernel
theorem dJx29ce0_ordinal_8abf5_0 : decode cJx29ce0_ordinal_8abf5 0 = .ok (.aload_n 0, 1) := by decide +kernel
theorem dJx29ce0_ordinal_8abf5_1 : decode cJx29ce0_ordinal_8abf5 1 = .ok (.getfield 7, 3) := by decide +kernel
theorem dJx29ce0_ordinal_8abf5_4 : decode cJx29ce0_ordinal_8abf5 4 = .ok (.ireturn, 1) := by decide +kernel
theorem dJ6_signum_0f7a4_0 : decode cJ6_signum_0f7a4 0 = .ok (.iload_n 0, 1) := by decide +kernel
theorem dJ6_signum_0f7a4_1 : decode cJ6_signum_0f7a4 1 = .ok (.bipush 31, 2) := by decide +kernel
theorem dJ6_signum_0f7a4_3 : decode cJ6_signum_0f7a4 3 = .ok (.ishr, 1) := by decide +kernel
theorem dJ6_signum_0f7a4_4 : decode cJ6_signum_0f7a4 4 = .ok (.iload_n 0, 1) := by decide +kernel
theorem dJ6_signum_0f7a4_5 : decode cJ6_signum_0f7a4 5 = .ok (.ineg, 1) := by decide +kernel
theorem dJ6_signum_0f7a4_6 : decode cJ6_signum_0f7a4 6 = .ok (.bipush 31, 2) := by decide +kernel
theorem dJ6_signum_0f7a4_8 : decode cJ6_signum_0f7a4 8 = .ok (.iushr, 1) := by decide +kernel
theorem dJ6_signum_0f7a4_9 : decode cJ6_signum_0f7a4 9 = .ok (.ior, 1) := by decide +kernel
theorem dJ6_signum_0f7a4_10 : decode cJ6_signum_0f7a4 10 = .ok (.ireturn, 1) := by decide +kernel
theorem dJ9_max_7cf53_0 : decode cJ9_max_7cf53 0 = .ok (.iload_n 0, 1) := by decide +kernel
theorem dJ9_max_7cf53_1 : decode cJ9_max_7cf53 1 = .ok (.iload_n 1, 1) := by decide +kernel
theorem dJ9_max_7cf53_2 : decode cJ9_max_7cf53 2 = .ok (.if_icmp .lt 7, 3) := by decide +kernel
theorem dJ9_max_7cf53_5 : decode cJ9_max_7cf53 5 = .ok (.iload_n 0, 1) := by decide +kernel
theorem dJ9_max_7cf53_6 : decode cJ9_max_7cf53 6 = .ok (.goto 4, 3) := by decide +kernel
theorem dJ9_max_7cf53_9 : decode cJ9_max_7cf53 9 = .ok (.iload_n 1, 1) := by decide +kernel
theorem dJ9_max_7cf53_10 : decode cJ9_max_7cf53 10 = .ok (.ireturn, 1) := by decide +kernel
theorem dJ9_min_7cf53_0 : decode cJ9_min_7cf53 0 = .ok (.iload_n 0, 1) := by decide +kernel
theorem dJ9_min_7cf53_1 : decode cJ9_min_7cf53 1 = .ok (.iload_n 1, 1) := by decide +kernel
theorem dJ9_min_7cf53_2 : decode cJ9_min_7cf53 2 = .ok (.if_icmp .gt 7, 3) := by decide +kernel
theorem dJ9_min_7cf53_5 : decode cJ9_min_7cf53 5 = .ok (.iload_n 0, 1) := by decide +kernel
theorem dJ9_min_7cf53_6 : decode cJ9_min_7cf53 6 = .ok (.goto 4, 3) := by decide +kernel
theorem dJ9_min_7cf53_9 : decode cJ9_min_7cf53 9 = .ok (.iload_n 1, 1) := by decide +kernel
theorem dJ9_min_7cf53_10 : decode cJ9_min_7cf53 10 = .ok (.ireturn, 1) := by decide +kernel
theorem dJ0_length_8abf5_0 : decode cJ0_length_8abf5 0 = .ok (.aload_n 0, 1) := by decide +kernel
theorem dJ0_length_8abf5_1 : decode cJ0_length_8abf5 1 = .ok (.getfield 9, 3) := by decide +kernel
theorem dJ0_length_8abf5_4 : decode cJ0_length_8abf5 4 = .ok (.arraylength, 1) := by decide +kernel
theorem dJ0_length_8abf5_5 : decode cJ0_length_8abf5 5 = .ok (.aload_n 0, 1) := by decide +kernel
theorem dJ0_length_8abf5_6 : decode cJ0_length_8abf5 6 = .ok (.invokevirtual 335, 3) := by decide +kernel
theorem dJ0_length_8abf5_9 : decode cJ0_length_8abf5 9 = .ok (.ishr, 1) := by decide +kernel
theorem dJ0_length_8abf5_10 : decode cJ0_length_8abf5 10 = .ok (.ireturn, 1) := by decide +kernel
theorem dJ0_charAt_5068e_0 : decode cJ0_charAt_5068e 0 = .ok (.aload_n 0, 1) := by decide +kernel
theorem dJ0_charAt_5068e_1 : decode cJ0_charAt_5068e 1 = .ok (.invokevirtual 492, 3) := by decide +kernel
theorem dJ0_charAt_5068e_4 : decode cJ0_charAt_5068e 4 = .ok (.ifCond .eq 12, 3) := by decide +kernel
theorem dJ0_charAt_5068e_7 : decode cJ0_charAt_5068e 7 = .ok (.aload_n 0, 1) := by decide +kernel
theorem dJ0_charAt_5068e_8 : decode cJ0_charAt_5068e 8 = .ok (.getfield 9, 3) := by decide +kernel
theorem dJ0_charAt_5068e_11 : decode cJ0_charAt_5068e 11 = .ok (.iload_n 1, 1) := by decide +kernel
theorem dJ0_charAt_5068e_12 : decode cJ0_charAt_5068e 12 = .ok (.invokestatic 495, 3) := by decide +kernel
theorem dJ0_charAt_5068e_15 : decode cJ0_charAt_5068e 15 = .ok (.ireturn, 1) := by decide +kernel
theorem dJ0_charAt_5068e_16 : decode cJ0_charAt_5068e 16 = .ok (.aload_n 0, 1) := by decide +kernel
theorem dJ0_charAt_5068e_17 : decode cJ0_charAt_5068e 17 = .ok (.getfield 9, 3) := by decide +kernel
theorem dJ0_charAt_5068e_20 : decode cJ0_charAt_5068e 20 = .ok (.iload_n 1, 1) := by decide +kernel
theorem dJ0_charAt_5068e_21 : decode cJ0_charAt_5068e 21 = .ok (.invokestatic 498, 3) := by decide +kernel
theorem dJ0_charAt_5068e_24 : decode cJ0_charAt_5068e 24 = .ok (.ireturn, 1) := by decide +kernel
theorem dJ0_coder_7d493_0 : decode cJ0_coder_7d493 0 = .ok (.getstatic 38, 3) := by decide +kernel
theorem dJ0_coder_7d493_3 : decode cJ0_coder_7d493 3 = .ok (.ifCond .eq 10, 3) := by decide +kernel
theorem dJ0_coder_7d493_6 : decode cJ0_coder_7d493 6 = .ok (.aload_n 0, 1) := by decide +kernel
theorem dJ0_coder_7d493_7 : decode cJ0_coder_7d493 7 = .ok (.getfield 15, 3) := by decide +kernel
theorem dJ0_coder_7d493_10 : decode cJ0_coder_7d493 10 = .ok (.goto 4, 3) := by decide +kernel
theorem dJ0_coder_7d493_13 : decode cJ0_coder_7d493 13 = .ok (.iconst 1, 1) := by decide +kernel
theorem dJ0_coder_7d493_14 : decode cJ0_coder_7d493 14 = .ok (.ireturn, 1) := by decide +kernel
theorem dJ0_isLatin1_aae02_0 : decode cJ0_isLatin1_aae02 0 = .ok (.getstatic 38, 3) := by decide +kernel
theorem dJ0_isLatin1_aae02_3 : decode cJ0_isLatin1_aae02 3 = .ok (.ifCond .eq 14, 3) := by decide +kernel
theorem dJ0_isLatin1_aae02_6 : decode cJ0_isLatin1_aae02 6 = .ok (.aload_n 0, 1) := by decide +kernel
theorem dJ0_isLatin1_aae02_7 : decode cJ0_isLatin1_aae02 7 = .ok (.getfield 15, 3) := by decide +kernel
theorem dJ0_isLatin1_aae02_10 : decode cJ0_isLatin1_aae02 10 = .ok (.ifCond .ne 7, 3) := by decide +kernel
theorem dJ0_isLatin1_aae02_13 : decode cJ0_isLatin1_aae02 13 = .ok (.iconst 1, 1) := by decide +kernel
theorem dJ0_isLatin1_aae02_14 : decode cJ0_isLatin1_aae02 14 = .ok (.goto 4, 3) := by decide +kernel
theorem dJ0_isLatin1_aae02_17 : decode cJ0_isLatin1_aae02 17 = .ok (.iconst 0, 1) := by decide +kernel
theorem dJ0_isLatin1_aae02_18 : decode cJ0_isLatin1_aae02 18 = .ok (.ireturn, 1) := by decide +kernel
theorem dJ0_checkIndex_df160_0 : decode cJ0_checkIndex_df160 0 = .ok (.iload_n 0, 1) := by decide +kernel
theorem dJ0_checkIndex_df160_1 : decode cJ0_checkIndex_df160 1 = .ok (.iload_n 1, 1) := by decide +kernel
theorem dJ0_checkIndex_df160_2 : decode cJ0_checkIndex_df160 2 = .ok (.getstatic 1053, 3) := by decide +kernel
theorem dJ0_checkIndex_df160_5 : decode cJ0_checkIndex_df160 5 = .ok (.invokestatic 1059, 3) := by decide +kernel
theorem dJ0_checkIndex_df160_8 : decode cJ0_checkIndex_df160 8 = .ok (.pop, 1) := by decide +kernel
theorem dJ0_checkIndex_df160_9 : decode cJ0_checkIndex_df160 9 = .ok (.return_, 1) := by decide +kernel
theorem dJ1_charAt_3b067_0 : decode cJ1_charAt_3b067 0 = .ok (.iload_n 1, 1) := by decide +kernel
theorem dJ1_charAt_3b067_1 : decode cJ1_charAt_3b067 1 = .ok (.aload_n 0, 1) := by decide +kernel
theorem dJ1_charAt_3b067_2 : decode cJ1_charAt_3b067 2 = .ok (.arraylength, 1) := by decide +kernel
theorem dJ1_charAt_3b067_3 : decode cJ1_charAt_3b067 3 = .ok (.invokestatic 9, 3) := by decide +kernel
theorem dJ1_charAt_3b067_6 : decode cJ1_charAt_3b067 6 = .ok (.aload_n 0, 1) := by decide +kernel
theorem dJ1_charAt_3b067_7 : decode cJ1_charAt_3b067 7 = .ok (.iload_n 1, 1) := by decide +kernel
theorem dJ1_charAt_3b067_8 : decode cJ1_charAt_3b067 8 = .ok (.baload, 1) := by decide +kernel
theorem dJ1_charAt_3b067_9 : decode cJ1_charAt_3b067 9 = .ok (.sipush 255, 3) := by decide +kernel
theorem dJ1_charAt_3b067_12 : decode cJ1_charAt_3b067 12 = .ok (.iand, 1) := by decide +kernel
theorem dJ1_charAt_3b067_13 : decode cJ1_charAt_3b067 13 = .ok (.i2c, 1) := by decide +kernel
theorem dJ1_charAt_3b067_14 : decode cJ1_charAt_3b067 14 = .ok (.ireturn, 1) := by decide +kernel
theorem dJ2_getChar_3b067_0 : decode cJ2_getChar_3b067 0 = .ok (.getstatic 44, 3) := by decide +kernel
theorem dJ2_getChar_3b067_3 : decode cJ2_getChar_3b067 3 = .ok (.ifCond .ne 25, 3) := by decide +kernel
theorem dJ2_getChar_3b067_6 : decode cJ2_getChar_3b067 6 = .ok (.iload_n 1, 1) := by decide +kernel
theorem dJ2_getChar_3b067_7 : decode cJ2_getChar_3b067 7 = .ok (.ifCond .lt 11, 3) := by decide +kernel
theorem dJ2_getChar_3b067_10 : decode cJ2_getChar_3b067 10 = .ok (.iload_n 1, 1) := by decide +kernel
theorem dJ2_getChar_3b067_11 : decode cJ2_getChar_3b067 11 = .ok (.aload_n 0, 1) := by decide +kernel
theorem dJ2_getChar_3b067_12 : decode cJ2_getChar_3b067 12 = .ok (.invokestatic 48, 3) := by decide +kernel
theorem dJ2_getChar_3b067_15 : decode cJ2_getChar_3b067 15 = .ok (.if_icmp .lt 13, 3) := by decide +kernel
theorem dJ2_getChar_3b067_18 : decode cJ2_getChar_3b067 18 = .ok (.new 52, 3) := by decide +kernel
theorem dJ2_getChar_3b067_21 : decode cJ2_getChar_3b067 21 = .ok (.dup, 1) := by decide +kernel
theorem dJ2_getChar_3b067_22 : decode cJ2_getChar_3b067 22 = .ok (.ldc 54, 2) := by decide +kernel
theorem dJ2_getChar_3b067_24 : decode cJ2_getChar_3b067 24 = .ok (.invokespecial 56, 3) := by decide +kernel
theorem dJ2_getChar_3b067_27 : decode cJ2_getChar_3b067 27 = .ok (.athrow, 1) := by decide +kernel
theorem dJ2_getChar_3b067_28 : decode cJ2_getChar_3b067 28 = .ok (.iload_n 1, 1) := by decide +kernel
theorem dJ2_getChar_3b067_29 : decode cJ2_getChar_3b067 29 = .ok (.iconst 1, 1) := by decide +kernel
theorem dJ2_getChar_3b067_30 : decode cJ2_getChar_3b067 30 = .ok (.ishl, 1) := by decide +kernel
theorem dJ2_getChar_3b067_31 : decode cJ2_getChar_3b067 31 = .ok (.istore_n 1, 1) := by decide +kernel
theorem dJ2_getChar_3b067_32 : decode cJ2_getChar_3b067 32 = .ok (.aload_n 0, 1) := by decide +kernel
theorem dJ2_getChar_3b067_33 : decode cJ2_getChar_3b067 33 = .ok (.iload_n 1, 1) := by decide +kernel
theorem dJ2_getChar_3b067_34 : decode cJ2_getChar_3b067 34 = .ok (.iinc 1 1, 3) := by decide +kernel
theorem dJ2_getChar_3b067_37 : decode cJ2_getChar_3b067 37 = .ok (.baload, 1) := by decide +kernel
theorem dJ2_getChar_3b067_38 : decode cJ2_getChar_3b067 38 = .ok (.sipush 255, 3) := by decide +kernel
theorem dJ2_getChar_3b067_41 : decode cJ2_getChar_3b067 41 = .ok (.iand, 1) := by decide +kernel
theorem dJ2_getChar_3b067_42 : decode cJ2_getChar_3b067 42 = .ok (.getstatic 59, 3) := by decide +kernel
theorem dJ2_getChar_3b067_45 : decode cJ2_getChar_3b067 45 = .ok (.ishl, 1) := by decide +kernel
theorem dJ2_getChar_3b067_46 : decode cJ2_getChar_3b067 46 = .ok (.aload_n 0, 1) := by decide +kernel
theorem dJ2_getChar_3b067_47 : decode cJ2_getChar_3b067 47 = .ok (.iload_n 1, 1) := by decide +kernel
theorem dJ2_getChar_3b067_48 : decode cJ2_getChar_3b067 48 = .ok (.baload, 1) := by decide +kernel
theorem dJ2_getChar_3b067_49 : decode cJ2_getChar_3b067 49 = .ok (.sipush 255, 3) := by decide +kernel
theorem dJ2_getChar_3b067_52 : decode cJ2_getChar_3b067 52 = .ok (.iand, 1) := by decide +kernel
theorem dJ2_getChar_3b067_53 : decode cJ2_getChar_3b067 53 = .ok (.getstatic 63, 3) := by decide +kernel
theorem dJ2_getChar_3b067_56 : decode cJ2_getChar_3b067 56 = .ok (.ishl, 1) := by decide +kernel
theorem dJ2_getChar_3b067_57 : decode cJ2_getChar_3b067 57 = .ok (.ior, 1) := by decide +kernel
theorem dJ2_getChar_3b067_58 : decode cJ2_getChar_3b067 58 = .ok (.i2c, 1) := by decide +kernel
theorem dJ2_getChar_3b067_59 : decode cJ2_getChar_3b067 59 = .ok (.ireturn, 1) := by decide +kernel
theorem dJ2_length_9d52b_0 : decode cJ2_length_9d52b 0 = .ok (.aload_n 0, 1) := by decide +kernel
theorem dJ2_length_9d52b_1 : decode cJ2_length_9d52b 1 = .ok (.arraylength, 1) := by decide +kernel
theorem dJ2_length_9d52b_2 : decode cJ2_length_9d52b 2 = .ok (.iconst 1, 1) := by decide +kernel
theorem dJ2_length_9d52b_3 : decode cJ2_length_9d52b 3 = .ok (.ishr, 1) := by decide +kernel
theorem dJ2_length_9d52b_4 : decode cJ2_length_9d52b 4 = .ok (.ireturn, 1) := by decide +kernel
theorem dJ2_charAt_3b067_0 : decode cJ2_charAt_3b067 0 = .ok (.iload_n 1, 1) := by decide +kernel
theorem dJ2_charAt_3b067_1 : decode cJ2_charAt_3b067 1 = .ok (.aload_n 0, 1) := by decide +kernel
theorem dJ2_charAt_3b067_2 : decode cJ2_charAt_3b067 2 = .ok (.invokestatic 67, 3) := by decide +kernel
theorem dJ2_charAt_3b067_5 : decode cJ2_charAt_3b067 5 = .ok (.aload_n 0, 1) := by decide +kernel
theorem dJ2_charAt_3b067_6 : decode cJ2_charAt_3b067 6 = .ok (.iload_n 1, 1) := by decide +kernel
theorem dJ2_charAt_3b067_7 : decode cJ2_charAt_3b067 7 = .ok (.invokestatic 71, 3) := by decide +kernel
theorem dJ2_charAt_3b067_10 : decode cJ2_charAt_3b067 10 = .ok (.ireturn, 1) := by decide +kernel
theorem dJ2_checkIndex_2214a_0 : decode cJ2_checkIndex_2214a 0 = .ok (.iload_n 0, 1) := by decide +kernel
theorem dJ2_checkIndex_2214a_1 : decode cJ2_checkIndex_2214a 1 = .ok (.aload_n 1, 1) := by decide +kernel
theorem dJ2_checkIndex_2214a_2 : decode cJ2_checkIndex_2214a 2 = .ok (.invokestatic 48, 3) := by decide +kernel
theorem dJ2_checkIndex_2214a_5 : decode cJ2_checkIndex_2214a 5 = .ok (.invokestatic 414, 3) := by decide +kernel
theorem dJ2_checkIndex_2214a_8 : decode cJ2_checkIndex_2214a 8 = .ok (.return_, 1) := by decide +kernel
theorem dJ7_fill_d0a16_0 : decode cJ7_fill_d0a16 0 = .ok (.iconst 0, 1) := by decide +kernel
theorem dJ7_fill_d0a16_1 : decode cJ7_fill_d0a16 1 = .ok (.istore_n 3, 1) := by decide +kernel
theorem dJ7_fill_d0a16_2 : decode cJ7_fill_d0a16 2 = .ok (.aload_n 0, 1) := by decide +kernel
theorem dJ7_fill_d0a16_3 : decode cJ7_fill_d0a16 3 = .ok (.arraylength, 1) := by decide +kernel
theorem dJ7_fill_d0a16_4 : decode cJ7_fill_d0a16 4 = .ok (.istore 4, 2) := by decide +kernel
theorem dJ7_fill_d0a16_6 : decode cJ7_fill_d0a16 6 = .ok (.iload_n 3, 1) := by decide +kernel
theorem dJ7_fill_d0a16_7 : decode cJ7_fill_d0a16 7 = .ok (.iload 4, 2) := by decide +kernel
theorem dJ7_fill_d0a16_9 : decode cJ7_fill_d0a16 9 = .ok (.if_icmp .ge 13, 3) := by decide +kernel
theorem dJ7_fill_d0a16_12 : decode cJ7_fill_d0a16 12 = .ok (.aload_n 0, 1) := by decide +kernel
theorem dJ7_fill_d0a16_13 : decode cJ7_fill_d0a16 13 = .ok (.iload_n 3, 1) := by decide +kernel
theorem dJ7_fill_d0a16_14 : decode cJ7_fill_d0a16 14 = .ok (.lload_n 1, 1) := by decide +kernel
theorem dJ7_fill_d0a16_15 : decode cJ7_fill_d0a16 15 = .ok (.lastore, 1) := by decide +kernel
theorem dJ7_fill_d0a16_16 : decode cJ7_fill_d0a16 16 = .ok (.iinc 3 1, 3) := by decide +kernel
theorem dJ7_fill_d0a16_19 : decode cJ7_fill_d0a16 19 = .ok (.goto (-13), 3) := by decide +kernel
theorem dJ7_fill_d0a16_22 : decode cJ7_fill_d0a16 22 = .ok (.return_, 1) := by decide +kernel
theorem dJ7_copyOf_59c91_0 : decode cJ7_copyOf_59c91 0 = .ok (.iload_n 1, 1) := by decide +kernel
theorem dJ7_copyOf_59c91_1 : decode cJ7_copyOf_59c91 1 = .ok (.aload_n 0, 1) := by decide +kernel
theorem dJ7_copyOf_59c91_2 : decode cJ7_copyOf_59c91 2 = .ok (.arraylength, 1) := by decide +kernel
theorem dJ7_copyOf_59c91_3 : decode cJ7_copyOf_59c91 3 = .ok (.if_icmp .ne 11, 3) := by decide +kernel
theorem dJ7_copyOf_59c91_6 : decode cJ7_copyOf_59c91 6 = .ok (.aload_n 0, 1) := by decide +kernel
theorem dJ7_copyOf_59c91_7 : decode cJ7_copyOf_59c91 7 = .ok (.invokevirtual 316, 3) := by decide +kernel
theorem dJ7_copyOf_59c91_10 : decode cJ7_copyOf_59c91 10 = .ok (.checkcast 317, 3) := by decide +kernel
theorem dJ7_copyOf_59c91_13 : decode cJ7_copyOf_59c91 13 = .ok (.areturn, 1) := by decide +kernel
theorem dJ7_copyOf_59c91_14 : decode cJ7_copyOf_59c91 14 = .ok (.iload_n 1, 1) := by decide +kernel
theorem dJ7_copyOf_59c91_15 : decode cJ7_copyOf_59c91 15 = .ok (.newarray .int, 2) := by decide +kernel
theorem dJ7_copyOf_59c91_17 : decode cJ7_copyOf_59c91 17 = .ok (.astore_n 2, 1) := by decide +kernel
theorem dJ7_copyOf_59c91_18 : decode cJ7_copyOf_59c91 18 = .ok (.aload_n 0, 1) := by decide +kernel
theorem dJ7_copyOf_59c91_19 : decode cJ7_copyOf_59c91 19 = .ok (.iconst 0, 1) := by decide +kernel
theorem dJ7_copyOf_59c91_20 : decode cJ7_copyOf_59c91 20 = .ok (.aload_n 2, 1) := by decide +kernel
theorem dJ7_copyOf_59c91_21 : decode cJ7_copyOf_59c91 21 = .ok (.iconst 0, 1) := by decide +kernel
theorem dJ7_copyOf_59c91_22 : decode cJ7_copyOf_59c91 22 = .ok (.aload_n 0, 1) := by decide +kernel
theorem dJ7_copyOf_59c91_23 : decode cJ7_copyOf_59c91 23 = .ok (.arraylength, 1) := by decide +kernel
theorem dJ7_copyOf_59c91_24 : decode cJ7_copyOf_59c91 24 = .ok (.iload_n 1, 1) := by decide +kernel
theorem dJ7_copyOf_59c91_25 : decode cJ7_copyOf_59c91 25 = .ok (.invokestatic 304, 3) := by decide +kernel
theorem dJ7_copyOf_59c91_28 : decode cJ7_copyOf_59c91 28 = .ok (.invokestatic 150, 3) := by decide +kernel
theorem dJ7_copyOf_59c91_31 : decode cJ7_copyOf_59c91 31 = .ok (.aload_n 2, 1) := by decide +kernel
theorem dJ7_copyOf_59c91_32 : decode cJ7_copyOf_59c91 32 = .ok (.areturn, 1) := by decide +kernel
theorem dJ3_checkIndex_8e157_0 : decode cJ3_checkIndex_8e157 0 = .ok (.iload_n 0, 1) := by decide +kernel
theorem dJ3_checkIndex_8e157_1 : decode cJ3_checkIndex_8e157 1 = .ok (.ifCond .lt 8, 3) := by decide +kernel
theorem dJ3_checkIndex_8e157_4 : decode cJ3_checkIndex_8e157 4 = .ok (.iload_n 0, 1) := by decide +kernel
theorem dJ3_checkIndex_8e157_5 : decode cJ3_checkIndex_8e157 5 = .ok (.iload_n 1, 1) := by decide +kernel
theorem dJ3_checkIndex_8e157_6 : decode cJ3_checkIndex_8e157 6 = .ok (.if_icmp .lt 10, 3) := by decide +kernel
theorem dJ3_checkIndex_8e157_9 : decode cJ3_checkIndex_8e157 9 = .ok (.aload_n 2, 1) := by decide +kernel
theorem dJ3_checkIndex_8e157_10 : decode cJ3_checkIndex_8e157 10 = .ok (.iload_n 0, 1) := by decide +kernel
theorem dJ3_checkIndex_8e157_11 : decode cJ3_checkIndex_8e157 11 = .ok (.iload_n 1, 1) := by decide +kernel
theorem dJ3_checkIndex_8e157_12 : decode cJ3_checkIndex_8e157 12 = .ok (.invokestatic 95, 3) := by decide +kernel
theorem dJ3_checkIndex_8e157_15 : decode cJ3_checkIndex_8e157 15 = .ok (.athrow, 1) := by decide +kernel
theorem dJ3_checkIndex_8e157_16 : decode cJ3_checkIndex_8e157 16 = .ok (.iload_n 0, 1) := by decide +kernel
theorem dJ3_checkIndex_8e157_17 : decode cJ3_checkIndex_8e157 17 = .ok (.ireturn, 1) := by decide +kernel
