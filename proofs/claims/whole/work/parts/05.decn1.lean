/-! decode rows -/
theorem dL_loadTable_0 : decode cL_loadTable 0 = .ok (.aload_n 2, 1) := by decide +kernel
theorem dL_loadTable_1 : decode cL_loadTable 1 = .ok (.iconst 0, 1) := by decide +kernel
theorem dL_loadTable_2 : decode cL_loadTable 2 = .ok (.aload_n 0, 1) := by decide +kernel
theorem dL_loadTable_3 : decode cL_loadTable 3 = .ok (.iload_n 1, 1) := by decide +kernel
theorem dL_loadTable_4 : decode cL_loadTable 4 = .ok (.invokevirtual 7, 3) := by decide +kernel
theorem dL_loadTable_7 : decode cL_loadTable 7 = .ok (.i2l, 1) := by decide +kernel
theorem dL_loadTable_8 : decode cL_loadTable 8 = .ok (.lastore, 1) := by decide +kernel
theorem dL_loadTable_9 : decode cL_loadTable 9 = .ok (.goto 6, 3) := by decide +kernel
theorem dL_loadTable_12 : decode cL_loadTable 12 = .ok (.astore_n 3, 1) := by decide +kernel
theorem dL_loadTable_13 : decode cL_loadTable 13 = .ok (.iconst 1, 1) := by decide +kernel
theorem dL_loadTable_14 : decode cL_loadTable 14 = .ok (.ireturn, 1) := by decide +kernel
theorem dL_loadTable_15 : decode cL_loadTable 15 = .ok (.iconst 0, 1) := by decide +kernel
theorem dL_loadTable_16 : decode cL_loadTable 16 = .ok (.ireturn, 1) := by decide +kernel
theorem dL_value_0 : decode cL_value 0 = .ok (.aload_n 3, 1) := by decide +kernel
theorem dL_value_1 : decode cL_value 1 = .ok (.iconst 0, 1) := by decide +kernel
theorem dL_value_2 : decode cL_value 2 = .ok (.aload_n 0, 1) := by decide +kernel
theorem dL_value_3 : decode cL_value 3 = .ok (.iload_n 1, 1) := by decide +kernel
theorem dL_value_4 : decode cL_value 4 = .ok (.iload_n 2, 1) := by decide +kernel
theorem dL_value_5 : decode cL_value 5 = .ok (.invokevirtual 15, 3) := by decide +kernel
theorem dL_value_8 : decode cL_value 8 = .ok (.i2l, 1) := by decide +kernel
theorem dL_value_9 : decode cL_value 9 = .ok (.lastore, 1) := by decide +kernel
theorem dL_value_10 : decode cL_value 10 = .ok (.goto 7, 3) := by decide +kernel
theorem dL_value_13 : decode cL_value 13 = .ok (.astore 4, 2) := by decide +kernel
theorem dL_value_15 : decode cL_value 15 = .ok (.iconst 1, 1) := by decide +kernel
theorem dL_value_16 : decode cL_value 16 = .ok (.ireturn, 1) := by decide +kernel
theorem dL_value_17 : decode cL_value 17 = .ok (.iconst 0, 1) := by decide +kernel
theorem dL_value_18 : decode cL_value 18 = .ok (.ireturn, 1) := by decide +kernel
theorem dL_code_0 : decode cL_code 0 = .ok (.aload_n 3, 1) := by decide +kernel
theorem dL_code_1 : decode cL_code 1 = .ok (.iconst 0, 1) := by decide +kernel
theorem dL_code_2 : decode cL_code 2 = .ok (.aload_n 0, 1) := by decide +kernel
theorem dL_code_3 : decode cL_code 3 = .ok (.iload_n 1, 1) := by decide +kernel
theorem dL_code_4 : decode cL_code 4 = .ok (.iload_n 2, 1) := by decide +kernel
theorem dL_code_5 : decode cL_code 5 = .ok (.invokevirtual 21, 3) := by decide +kernel
theorem dL_code_8 : decode cL_code 8 = .ok (.i2l, 1) := by decide +kernel
theorem dL_code_9 : decode cL_code 9 = .ok (.lastore, 1) := by decide +kernel
theorem dL_code_10 : decode cL_code 10 = .ok (.goto 7, 3) := by decide +kernel
theorem dL_code_13 : decode cL_code 13 = .ok (.astore 4, 2) := by decide +kernel
theorem dL_code_15 : decode cL_code 15 = .ok (.iconst 1, 1) := by decide +kernel
theorem dL_code_16 : decode cL_code 16 = .ok (.ireturn, 1) := by decide +kernel
theorem dL_code_17 : decode cL_code 17 = .ok (.iconst 0, 1) := by decide +kernel
theorem dL_code_18 : decode cL_code 18 = .ok (.ireturn, 1) := by decide +kernel
theorem dL_dictionarySize_0 : decode cL_dictionarySize 0 = .ok (.aload_n 2, 1) := by decide +kernel
theorem dL_dictionarySize_1 : decode cL_dictionarySize 1 = .ok (.iconst 0, 1) := by decide +kernel
theorem dL_dictionarySize_2 : decode cL_dictionarySize 2 = .ok (.aload_n 0, 1) := by decide +kernel
theorem dL_dictionarySize_3 : decode cL_dictionarySize 3 = .ok (.iload_n 1, 1) := by decide +kernel
theorem dL_dictionarySize_4 : decode cL_dictionarySize 4 = .ok (.invokevirtual 24, 3) := by decide +kernel
theorem dL_dictionarySize_7 : decode cL_dictionarySize 7 = .ok (.i2l, 1) := by decide +kernel
theorem dL_dictionarySize_8 : decode cL_dictionarySize 8 = .ok (.lastore, 1) := by decide +kernel
theorem dL_dictionarySize_9 : decode cL_dictionarySize 9 = .ok (.goto 6, 3) := by decide +kernel
theorem dL_dictionarySize_12 : decode cL_dictionarySize 12 = .ok (.astore_n 3, 1) := by decide +kernel
theorem dL_dictionarySize_13 : decode cL_dictionarySize 13 = .ok (.iconst 1, 1) := by decide +kernel
theorem dL_dictionarySize_14 : decode cL_dictionarySize 14 = .ok (.ireturn, 1) := by decide +kernel
theorem dL_dictionarySize_15 : decode cL_dictionarySize 15 = .ok (.iconst 0, 1) := by decide +kernel
theorem dL_dictionarySize_16 : decode cL_dictionarySize 16 = .ok (.ireturn, 1) := by decide +kernel
theorem dL_dictionaryValue_0 : decode cL_dictionaryValue 0 = .ok (.aload_n 3, 1) := by decide +kernel
theorem dL_dictionaryValue_1 : decode cL_dictionaryValue 1 = .ok (.iconst 0, 1) := by decide +kernel
theorem dL_dictionaryValue_2 : decode cL_dictionaryValue 2 = .ok (.aload_n 0, 1) := by decide +kernel
theorem dL_dictionaryValue_3 : decode cL_dictionaryValue 3 = .ok (.iload_n 1, 1) := by decide +kernel
theorem dL_dictionaryValue_4 : decode cL_dictionaryValue 4 = .ok (.iload_n 2, 1) := by decide +kernel
theorem dL_dictionaryValue_5 : decode cL_dictionaryValue 5 = .ok (.invokevirtual 27, 3) := by decide +kernel
theorem dL_dictionaryValue_8 : decode cL_dictionaryValue 8 = .ok (.i2l, 1) := by decide +kernel
theorem dL_dictionaryValue_9 : decode cL_dictionaryValue 9 = .ok (.lastore, 1) := by decide +kernel
theorem dL_dictionaryValue_10 : decode cL_dictionaryValue 10 = .ok (.goto 7, 3) := by decide +kernel
theorem dL_dictionaryValue_13 : decode cL_dictionaryValue 13 = .ok (.astore 4, 2) := by decide +kernel
theorem dL_dictionaryValue_15 : decode cL_dictionaryValue 15 = .ok (.iconst 1, 1) := by decide +kernel
theorem dL_dictionaryValue_16 : decode cL_dictionaryValue 16 = .ok (.ireturn, 1) := by decide +kernel
theorem dL_dictionaryValue_17 : decode cL_dictionaryValue 17 = .ok (.iconst 0, 1) := by decide +kernel
theorem dL_dictionaryValue_18 : decode cL_dictionaryValue 18 = .ok (.ireturn, 1) := by decide +kernel
theorem dL_findCode_0 : decode cL_findCode 0 = .ok (.aload_n 3, 1) := by decide +kernel
theorem dL_findCode_1 : decode cL_findCode 1 = .ok (.iconst 0, 1) := by decide +kernel
theorem dL_findCode_2 : decode cL_findCode 2 = .ok (.aload_n 0, 1) := by decide +kernel
theorem dL_findCode_3 : decode cL_findCode 3 = .ok (.iload_n 1, 1) := by decide +kernel
theorem dL_findCode_4 : decode cL_findCode 4 = .ok (.iload_n 2, 1) := by decide +kernel
theorem dL_findCode_5 : decode cL_findCode 5 = .ok (.invokevirtual 30, 3) := by decide +kernel
theorem dL_findCode_8 : decode cL_findCode 8 = .ok (.i2l, 1) := by decide +kernel
theorem dL_findCode_9 : decode cL_findCode 9 = .ok (.lastore, 1) := by decide +kernel
theorem dL_findCode_10 : decode cL_findCode 10 = .ok (.goto 7, 3) := by decide +kernel
theorem dL_findCode_13 : decode cL_findCode 13 = .ok (.astore 4, 2) := by decide +kernel
theorem dL_findCode_15 : decode cL_findCode 15 = .ok (.iconst 1, 1) := by decide +kernel
theorem dL_findCode_16 : decode cL_findCode 16 = .ok (.ireturn, 1) := by decide +kernel
theorem dL_findCode_17 : decode cL_findCode 17 = .ok (.iconst 0, 1) := by decide +kernel
theorem dL_findCode_18 : decode cL_findCode 18 = .ok (.ireturn, 1) := by decide +kernel
theorem dL_staleCount_0 : decode cL_staleCount 0 = .ok (.aload_n 2, 1) := by decide +kernel
theorem dL_staleCount_1 : decode cL_staleCount 1 = .ok (.iconst 0, 1) := by decide +kernel
theorem dL_staleCount_2 : decode cL_staleCount 2 = .ok (.aload_n 0, 1) := by decide +kernel
theorem dL_staleCount_3 : decode cL_staleCount 3 = .ok (.iload_n 1, 1) := by decide +kernel
theorem dL_staleCount_4 : decode cL_staleCount 4 = .ok (.invokevirtual 33, 3) := by decide +kernel
theorem dL_staleCount_7 : decode cL_staleCount 7 = .ok (.i2l, 1) := by decide +kernel
theorem dL_staleCount_8 : decode cL_staleCount 8 = .ok (.lastore, 1) := by decide +kernel
theorem dL_staleCount_9 : decode cL_staleCount 9 = .ok (.goto 6, 3) := by decide +kernel
theorem dL_staleCount_12 : decode cL_staleCount 12 = .ok (.astore_n 3, 1) := by decide +kernel
theorem dL_staleCount_13 : decode cL_staleCount 13 = .ok (.iconst 1, 1) := by decide +kernel
theorem dL_staleCount_14 : decode cL_staleCount 14 = .ok (.ireturn, 1) := by decide +kernel
theorem dL_staleCount_15 : decode cL_staleCount 15 = .ok (.iconst 0, 1) := by decide +kernel
theorem dL_staleCount_16 : decode cL_staleCount 16 = .ok (.ireturn, 1) := by decide +kernel
theorem dL_frequency_0 : decode cL_frequency 0 = .ok (.aload_n 3, 1) := by decide +kernel
theorem dL_frequency_1 : decode cL_frequency 1 = .ok (.iconst 0, 1) := by decide +kernel
theorem dL_frequency_2 : decode cL_frequency 2 = .ok (.aload_n 0, 1) := by decide +kernel
theorem dL_frequency_3 : decode cL_frequency 3 = .ok (.iload_n 1, 1) := by decide +kernel
theorem dL_frequency_4 : decode cL_frequency 4 = .ok (.iload_n 2, 1) := by decide +kernel
theorem dL_frequency_5 : decode cL_frequency 5 = .ok (.invokevirtual 36, 3) := by decide +kernel
theorem dL_frequency_8 : decode cL_frequency 8 = .ok (.i2l, 1) := by decide +kernel
theorem dL_frequency_9 : decode cL_frequency 9 = .ok (.lastore, 1) := by decide +kernel
theorem dL_frequency_10 : decode cL_frequency 10 = .ok (.goto 7, 3) := by decide +kernel
theorem dL_frequency_13 : decode cL_frequency 13 = .ok (.astore 4, 2) := by decide +kernel
theorem dL_frequency_15 : decode cL_frequency 15 = .ok (.iconst 1, 1) := by decide +kernel
theorem dL_frequency_16 : decode cL_frequency 16 = .ok (.ireturn, 1) := by decide +kernel
theorem dL_frequency_17 : decode cL_frequency 17 = .ok (.iconst 0, 1) := by decide +kernel
theorem dL_frequency_18 : decode cL_frequency 18 = .ok (.ireturn, 1) := by decide +kernel
theorem dL_commonestCode_0 : decode cL_commonestCode 0 = .ok (.aload_n 2, 1) := by decide +kernel
theorem dL_commonestCode_1 : decode cL_commonestCode 1 = .ok (.iconst 0, 1) := by decide +kernel
theorem dL_commonestCode_2 : decode cL_commonestCode 2 = .ok (.aload_n 0, 1) := by decide +kernel
theorem dL_commonestCode_3 : decode cL_commonestCode 3 = .ok (.iload_n 1, 1) := by decide +kernel
theorem dL_commonestCode_4 : decode cL_commonestCode 4 = .ok (.invokevirtual 39, 3) := by decide +kernel
theorem dL_commonestCode_7 : decode cL_commonestCode 7 = .ok (.i2l, 1) := by decide +kernel
theorem dL_commonestCode_8 : decode cL_commonestCode 8 = .ok (.lastore, 1) := by decide +kernel
theorem dL_commonestCode_9 : decode cL_commonestCode 9 = .ok (.goto 6, 3) := by decide +kernel
theorem dL_commonestCode_12 : decode cL_commonestCode 12 = .ok (.astore_n 3, 1) := by decide +kernel
theorem dL_commonestCode_13 : decode cL_commonestCode 13 = .ok (.iconst 1, 1) := by decide +kernel
theorem dL_commonestCode_14 : decode cL_commonestCode 14 = .ok (.ireturn, 1) := by decide +kernel
theorem dL_commonestCode_15 : decode cL_commonestCode 15 = .ok (.iconst 0, 1) := by decide +kernel
theorem dL_commonestCode_16 : decode cL_commonestCode 16 = .ok (.ireturn, 1) := by decide +kernel
theorem dL_bitWidth_0 : decode cL_bitWidth 0 = .ok (.aload_n 2, 1) := by decide +kernel
theorem dL_bitWidth_1 : decode cL_bitWidth 1 = .ok (.iconst 0, 1) := by decide +kernel
theorem dL_bitWidth_2 : decode cL_bitWidth 2 = .ok (.aload_n 0, 1) := by decide +kernel
theorem dL_bitWidth_3 : decode cL_bitWidth 3 = .ok (.iload_n 1, 1) := by decide +kernel
theorem dL_bitWidth_4 : decode cL_bitWidth 4 = .ok (.invokevirtual 42, 3) := by decide +kernel
theorem dL_bitWidth_7 : decode cL_bitWidth 7 = .ok (.i2l, 1) := by decide +kernel
theorem dL_bitWidth_8 : decode cL_bitWidth 8 = .ok (.lastore, 1) := by decide +kernel
theorem dL_bitWidth_9 : decode cL_bitWidth 9 = .ok (.goto 6, 3) := by decide +kernel
theorem dL_bitWidth_12 : decode cL_bitWidth 12 = .ok (.astore_n 3, 1) := by decide +kernel
theorem dL_bitWidth_13 : decode cL_bitWidth 13 = .ok (.iconst 1, 1) := by decide +kernel
theorem dL_bitWidth_14 : decode cL_bitWidth 14 = .ok (.ireturn, 1) := by decide +kernel
theorem dL_bitWidth_15 : decode cL_bitWidth 15 = .ok (.iconst 0, 1) := by decide +kernel
theorem dL_bitWidth_16 : decode cL_bitWidth 16 = .ok (.ireturn, 1) := by decide +kernel
theorem dL_wordCount_0 : decode cL_wordCount 0 = .ok (.aload_n 2, 1) := by decide +kernel
theorem dL_wordCount_1 : decode cL_wordCount 1 = .ok (.iconst 0, 1) := by decide +kernel
theorem dL_wordCount_2 : decode cL_wordCount 2 = .ok (.aload_n 0, 1) := by decide +kernel
theorem dL_wordCount_3 : decode cL_wordCount 3 = .ok (.iload_n 1, 1) := by decide +kernel
theorem dL_wordCount_4 : decode cL_wordCount 4 = .ok (.invokevirtual 45, 3) := by decide +kernel
theorem dL_wordCount_7 : decode cL_wordCount 7 = .ok (.i2l, 1) := by decide +kernel
theorem dL_wordCount_8 : decode cL_wordCount 8 = .ok (.lastore, 1) := by decide +kernel
theorem dL_wordCount_9 : decode cL_wordCount 9 = .ok (.goto 6, 3) := by decide +kernel
theorem dL_wordCount_12 : decode cL_wordCount 12 = .ok (.astore_n 3, 1) := by decide +kernel
theorem dL_wordCount_13 : decode cL_wordCount 13 = .ok (.iconst 1, 1) := by decide +kernel
theorem dL_wordCount_14 : decode cL_wordCount 14 = .ok (.ireturn, 1) := by decide +kernel
theorem dL_wordCount_15 : decode cL_wordCount 15 = .ok (.iconst 0, 1) := by decide +kernel
theorem dL_wordCount_16 : decode cL_wordCount 16 = .ok (.ireturn, 1) := by decide +kernel
theorem dL_packedWord_0 : decode cL_packedWord 0 = .ok (.aload_n 3, 1) := by decide +kernel
theorem dL_packedWord_1 : decode cL_packedWord 1 = .ok (.iconst 0, 1) := by decide +kernel
theorem dL_packedWord_2 : decode cL_packedWord 2 = .ok (.aload_n 0, 1) := by decide +kernel
theorem dL_packedWord_3 : decode cL_packedWord 3 = .ok (.iload_n 1, 1) := by decide +kernel
theorem dL_packedWord_4 : decode cL_packedWord 4 = .ok (.iload_n 2, 1) := by decide +kernel
theorem dL_packedWord_5 : decode cL_packedWord 5 = .ok (.invokevirtual 48, 3) := by decide +kernel
theorem dL_packedWord_8 : decode cL_packedWord 8 = .ok (.lastore, 1) := by decide +kernel
theorem dL_packedWord_9 : decode cL_packedWord 9 = .ok (.goto 7, 3) := by decide +kernel
theorem dL_packedWord_12 : decode cL_packedWord 12 = .ok (.astore 4, 2) := by decide +kernel
theorem dL_packedWord_14 : decode cL_packedWord 14 = .ok (.iconst 1, 1) := by decide +kernel
theorem dL_packedWord_15 : decode cL_packedWord 15 = .ok (.ireturn, 1) := by decide +kernel
theorem dL_packedWord_16 : decode cL_packedWord 16 = .ok (.iconst 0, 1) := by decide +kernel
theorem dL_packedWord_17 : decode cL_packedWord 17 = .ok (.ireturn, 1) := by decide +kernel
theorem dL_runCount_0 : decode cL_runCount 0 = .ok (.aload_n 2, 1) := by decide +kernel
theorem dL_runCount_1 : decode cL_runCount 1 = .ok (.iconst 0, 1) := by decide +kernel
theorem dL_runCount_2 : decode cL_runCount 2 = .ok (.aload_n 0, 1) := by decide +kernel
theorem dL_runCount_3 : decode cL_runCount 3 = .ok (.iload_n 1, 1) := by decide +kernel
theorem dL_runCount_4 : decode cL_runCount 4 = .ok (.invokevirtual 52, 3) := by decide +kernel
theorem dL_runCount_7 : decode cL_runCount 7 = .ok (.i2l, 1) := by decide +kernel
theorem dL_runCount_8 : decode cL_runCount 8 = .ok (.lastore, 1) := by decide +kernel
theorem dL_runCount_9 : decode cL_runCount 9 = .ok (.goto 6, 3) := by decide +kernel
theorem dL_runCount_12 : decode cL_runCount 12 = .ok (.astore_n 3, 1) := by decide +kernel
theorem dL_runCount_13 : decode cL_runCount 13 = .ok (.iconst 1, 1) := by decide +kernel
theorem dL_runCount_14 : decode cL_runCount 14 = .ok (.ireturn, 1) := by decide +kernel
theorem dL_runCount_15 : decode cL_runCount 15 = .ok (.iconst 0, 1) := by decide +kernel
theorem dL_runCount_16 : decode cL_runCount 16 = .ok (.ireturn, 1) := by decide +kernel
theorem dL_longestRun_0 : decode cL_longestRun 0 = .ok (.aload_n 2, 1) := by decide +kernel
theorem dL_longestRun_1 : decode cL_longestRun 1 = .ok (.iconst 0, 1) := by decide +kernel
theorem dL_longestRun_2 : decode cL_longestRun 2 = .ok (.aload_n 0, 1) := by decide +kernel
theorem dL_longestRun_3 : decode cL_longestRun 3 = .ok (.iload_n 1, 1) := by decide +kernel
theorem dL_longestRun_4 : decode cL_longestRun 4 = .ok (.invokevirtual 55, 3) := by decide +kernel
theorem dL_longestRun_7 : decode cL_longestRun 7 = .ok (.i2l, 1) := by decide +kernel
theorem dL_longestRun_8 : decode cL_longestRun 8 = .ok (.lastore, 1) := by decide +kernel
theorem dL_longestRun_9 : decode cL_longestRun 9 = .ok (.goto 6, 3) := by decide +kernel
theorem dL_longestRun_12 : decode cL_longestRun 12 = .ok (.astore_n 3, 1) := by decide +kernel
theorem dL_longestRun_13 : decode cL_longestRun 13 = .ok (.iconst 1, 1) := by decide +kernel
theorem dL_longestRun_14 : decode cL_longestRun 14 = .ok (.ireturn, 1) := by decide +kernel
theorem dL_longestRun_15 : decode cL_longestRun 15 = .ok (.iconst 0, 1) := by decide +kernel
theorem dL_longestRun_16 : decode cL_longestRun 16 = .ok (.ireturn, 1) := by decide +kernel
theorem dL_isSorted_0 : decode cL_isSorted 0 = .ok (.aload_n 2, 1) := by decide +kernel
theorem dL_isSorted_1 : decode cL_isSorted 1 = .ok (.iconst 0, 1) := by decide +kernel
theorem dL_isSorted_2 : decode cL_isSorted 2 = .ok (.aload_n 0, 1) := by decide +kernel
theorem dL_isSorted_3 : decode cL_isSorted 3 = .ok (.iload_n 1, 1) := by decide +kernel
theorem dL_isSorted_4 : decode cL_isSorted 4 = .ok (.invokevirtual 58, 3) := by decide +kernel
theorem dL_isSorted_7 : decode cL_isSorted 7 = .ok (.ifCond .eq 7, 3) := by decide +kernel
theorem dL_isSorted_10 : decode cL_isSorted 10 = .ok (.lconst 1, 1) := by decide +kernel
theorem dL_isSorted_11 : decode cL_isSorted 11 = .ok (.goto 4, 3) := by decide +kernel
theorem dL_isSorted_14 : decode cL_isSorted 14 = .ok (.lconst 0, 1) := by decide +kernel
theorem dL_isSorted_15 : decode cL_isSorted 15 = .ok (.lastore, 1) := by decide +kernel
theorem dL_isSorted_16 : decode cL_isSorted 16 = .ok (.goto 6, 3) := by decide +kernel
theorem dL_isSorted_19 : decode cL_isSorted 19 = .ok (.astore_n 3, 1) := by decide +kernel
theorem dL_isSorted_20 : decode cL_isSorted 20 = .ok (.iconst 1, 1) := by decide +kernel
theorem dL_isSorted_21 : decode cL_isSorted 21 = .ok (.ireturn, 1) := by decide +kernel
theorem dL_isSorted_22 : decode cL_isSorted 22 = .ok (.iconst 0, 1) := by decide +kernel
theorem dL_isSorted_23 : decode cL_isSorted 23 = .ok (.ireturn, 1) := by decide +kernel
theorem dL_conditionColumn_0 : decode cL_conditionColumn 0 = .ok (.aload_n 2, 1) := by decide +kernel
theorem dL_conditionColumn_1 : decode cL_conditionColumn 1 = .ok (.iconst 0, 1) := by decide +kernel
theorem dL_conditionColumn_2 : decode cL_conditionColumn 2 = .ok (.aload_n 0, 1) := by decide +kernel
theorem dL_conditionColumn_3 : decode cL_conditionColumn 3 = .ok (.iload_n 1, 1) := by decide +kernel
theorem dL_conditionColumn_4 : decode cL_conditionColumn 4 = .ok (.invokevirtual 62, 3) := by decide +kernel
theorem dL_conditionColumn_7 : decode cL_conditionColumn 7 = .ok (.i2l, 1) := by decide +kernel
theorem dL_conditionColumn_8 : decode cL_conditionColumn 8 = .ok (.lastore, 1) := by decide +kernel
theorem dL_conditionColumn_9 : decode cL_conditionColumn 9 = .ok (.goto 6, 3) := by decide +kernel
theorem dL_conditionColumn_12 : decode cL_conditionColumn 12 = .ok (.astore_n 3, 1) := by decide +kernel
theorem dL_conditionColumn_13 : decode cL_conditionColumn 13 = .ok (.iconst 1, 1) := by decide +kernel
theorem dL_conditionColumn_14 : decode cL_conditionColumn 14 = .ok (.ireturn, 1) := by decide +kernel
theorem dL_conditionColumn_15 : decode cL_conditionColumn 15 = .ok (.iconst 0, 1) := by decide +kernel
theorem dL_conditionColumn_16 : decode cL_conditionColumn 16 = .ok (.ireturn, 1) := by decide +kernel
theorem dL_conditionValue_0 : decode cL_conditionValue 0 = .ok (.aload_n 2, 1) := by decide +kernel
theorem dL_conditionValue_1 : decode cL_conditionValue 1 = .ok (.iconst 0, 1) := by decide +kernel
theorem dL_conditionValue_2 : decode cL_conditionValue 2 = .ok (.aload_n 0, 1) := by decide +kernel
theorem dL_conditionValue_3 : decode cL_conditionValue 3 = .ok (.iload_n 1, 1) := by decide +kernel
theorem dL_conditionValue_4 : decode cL_conditionValue 4 = .ok (.invokevirtual 65, 3) := by decide +kernel
theorem dL_conditionValue_7 : decode cL_conditionValue 7 = .ok (.i2l, 1) := by decide +kernel
theorem dL_conditionValue_8 : decode cL_conditionValue 8 = .ok (.lastore, 1) := by decide +kernel
theorem dL_conditionValue_9 : decode cL_conditionValue 9 = .ok (.goto 6, 3) := by decide +kernel
theorem dL_conditionValue_12 : decode cL_conditionValue 12 = .ok (.astore_n 3, 1) := by decide +kernel
theorem dL_conditionValue_13 : decode cL_conditionValue 13 = .ok (.iconst 1, 1) := by decide +kernel
theorem dL_conditionValue_14 : decode cL_conditionValue 14 = .ok (.ireturn, 1) := by decide +kernel
theorem dL_conditionValue_15 : decode cL_conditionValue 15 = .ok (.iconst 0, 1) := by decide +kernel
theorem dL_conditionValue_16 : decode cL_conditionValue 16 = .ok (.ireturn, 1) := by decide +kernel
theorem dL_conditionDirection_0 : decode cL_conditionDirection 0 = .ok (.aload_n 2, 1) := by decide +kernel
theorem dL_conditionDirection_1 : decode cL_conditionDirection 1 = .ok (.iconst 0, 1) := by decide +kernel
theorem dL_conditionDirection_2 : decode cL_conditionDirection 2 = .ok (.aload_n 0, 1) := by decide +kernel
theorem dL_conditionDirection_3 : decode cL_conditionDirection 3 = .ok (.iload_n 1, 1) := by decide +kernel
theorem dL_conditionDirection_4 : decode cL_conditionDirection 4 = .ok (.invokevirtual 68, 3) := by decide +kernel
theorem dL_conditionDirection_7 : decode cL_conditionDirection 7 = .ok (.i2l, 1) := by decide +kernel
theorem dL_conditionDirection_8 : decode cL_conditionDirection 8 = .ok (.lastore, 1) := by decide +kernel
theorem dL_conditionDirection_9 : decode cL_conditionDirection 9 = .ok (.goto 6, 3) := by decide +kernel
theorem dL_conditionDirection_12 : decode cL_conditionDirection 12 = .ok (.astore_n 3, 1) := by decide +kernel
theorem dL_conditionDirection_13 : decode cL_conditionDirection 13 = .ok (.iconst 1, 1) := by decide +kernel
theorem dL_conditionDirection_14 : decode cL_conditionDirection 14 = .ok (.ireturn, 1) := by decide +kernel
theorem dL_conditionDirection_15 : decode cL_conditionDirection 15 = .ok (.iconst 0, 1) := by decide +kernel
theorem dL_conditionDirection_16 : decode cL_conditionDirection 16 = .ok (.ireturn, 1) := by decide +kernel
theorem dL_lowerCode_0 : decode cL_lowerCode 0 = .ok (.aload_n 2, 1) := by decide +kernel
theorem dL_lowerCode_1 : decode cL_lowerCode 1 = .ok (.iconst 0, 1) := by decide +kernel
theorem dL_lowerCode_2 : decode cL_lowerCode 2 = .ok (.aload_n 0, 1) := by decide +kernel
theorem dL_lowerCode_3 : decode cL_lowerCode 3 = .ok (.iload_n 1, 1) := by decide +kernel
theorem dL_lowerCode_4 : decode cL_lowerCode 4 = .ok (.invokevirtual 71, 3) := by decide +kernel
theorem dL_lowerCode_7 : decode cL_lowerCode 7 = .ok (.i2l, 1) := by decide +kernel
theorem dL_lowerCode_8 : decode cL_lowerCode 8 = .ok (.lastore, 1) := by decide +kernel
theorem dL_lowerCode_9 : decode cL_lowerCode 9 = .ok (.goto 6, 3) := by decide +kernel
theorem dL_lowerCode_12 : decode cL_lowerCode 12 = .ok (.astore_n 3, 1) := by decide +kernel
theorem dL_lowerCode_13 : decode cL_lowerCode 13 = .ok (.iconst 1, 1) := by decide +kernel
theorem dL_lowerCode_14 : decode cL_lowerCode 14 = .ok (.ireturn, 1) := by decide +kernel
theorem dL_lowerCode_15 : decode cL_lowerCode 15 = .ok (.iconst 0, 1) := by decide +kernel
theorem dL_lowerCode_16 : decode cL_lowerCode 16 = .ok (.ireturn, 1) := by decide +kernel
theorem dL_upperCode_0 : decode cL_upperCode 0 = .ok (.aload_n 2, 1) := by decide +kernel
theorem dL_upperCode_1 : decode cL_upperCode 1 = .ok (.iconst 0, 1) := by decide +kernel
theorem dL_upperCode_2 : decode cL_upperCode 2 = .ok (.aload_n 0, 1) := by decide +kernel
theorem dL_upperCode_3 : decode cL_upperCode 3 = .ok (.iload_n 1, 1) := by decide +kernel
theorem dL_upperCode_4 : decode cL_upperCode 4 = .ok (.invokevirtual 74, 3) := by decide +kernel
theorem dL_upperCode_7 : decode cL_upperCode 7 = .ok (.i2l, 1) := by decide +kernel
theorem dL_upperCode_8 : decode cL_upperCode 8 = .ok (.lastore, 1) := by decide +kernel
theorem dL_upperCode_9 : decode cL_upperCode 9 = .ok (.goto 6, 3) := by decide +kernel
theorem dL_upperCode_12 : decode cL_upperCode 12 = .ok (.astore_n 3, 1) := by decide +kernel
theorem dL_upperCode_13 : decode cL_upperCode 13 = .ok (.iconst 1, 1) := by decide +kernel
theorem dL_upperCode_14 : decode cL_upperCode 14 = .ok (.ireturn, 1) := by decide +kernel
theorem dL_upperCode_15 : decode cL_upperCode 15 = .ok (.iconst 0, 1) := by decide +kernel
theorem dL_upperCode_16 : decode cL_upperCode 16 = .ok (.ireturn, 1) := by decide +kernel
theorem dL_matches_0 : decode cL_matches 0 = .ok (.aload_n 2, 1) := by decide +kernel
theorem dL_matches_1 : decode cL_matches 1 = .ok (.iconst 0, 1) := by decide +kernel
theorem dL_matches_2 : decode cL_matches 2 = .ok (.aload_n 0, 1) := by decide +kernel
theorem dL_matches_3 : decode cL_matches 3 = .ok (.iload_n 1, 1) := by decide +kernel
theorem dL_matches_4 : decode cL_matches 4 = .ok (.invokevirtual 77, 3) := by decide +kernel
theorem dL_matches_7 : decode cL_matches 7 = .ok (.i2l, 1) := by decide +kernel
theorem dL_matches_8 : decode cL_matches 8 = .ok (.lastore, 1) := by decide +kernel
theorem dL_matches_9 : decode cL_matches 9 = .ok (.goto 6, 3) := by decide +kernel
theorem dL_matches_12 : decode cL_matches 12 = .ok (.astore_n 3, 1) := by decide +kernel
theorem dL_matches_13 : decode cL_matches 13 = .ok (.iconst 1, 1) := by decide +kernel
theorem dL_matches_14 : decode cL_matches 14 = .ok (.ireturn, 1) := by decide +kernel
theorem dL_matches_15 : decode cL_matches 15 = .ok (.iconst 0, 1) := by decide +kernel
theorem dL_matches_16 : decode cL_matches 16 = .ok (.ireturn, 1) := by decide +kernel
theorem dL_isSelected_0 : decode cL_isSelected 0 = .ok (.aload_n 2, 1) := by decide +kernel
theorem dL_isSelected_1 : decode cL_isSelected 1 = .ok (.iconst 0, 1) := by decide +kernel
theorem dL_isSelected_2 : decode cL_isSelected 2 = .ok (.aload_n 0, 1) := by decide +kernel
theorem dL_isSelected_3 : decode cL_isSelected 3 = .ok (.iload_n 1, 1) := by decide +kernel
theorem dL_isSelected_4 : decode cL_isSelected 4 = .ok (.invokevirtual 80, 3) := by decide +kernel
theorem dL_isSelected_7 : decode cL_isSelected 7 = .ok (.ifCond .eq 7, 3) := by decide +kernel
theorem dL_isSelected_10 : decode cL_isSelected 10 = .ok (.lconst 1, 1) := by decide +kernel
theorem dL_isSelected_11 : decode cL_isSelected 11 = .ok (.goto 4, 3) := by decide +kernel
theorem dL_isSelected_14 : decode cL_isSelected 14 = .ok (.lconst 0, 1) := by decide +kernel
theorem dL_isSelected_15 : decode cL_isSelected 15 = .ok (.lastore, 1) := by decide +kernel
theorem dL_isSelected_16 : decode cL_isSelected 16 = .ok (.goto 6, 3) := by decide +kernel
theorem dL_isSelected_19 : decode cL_isSelected 19 = .ok (.astore_n 3, 1) := by decide +kernel
theorem dL_isSelected_20 : decode cL_isSelected 20 = .ok (.iconst 1, 1) := by decide +kernel
theorem dL_isSelected_21 : decode cL_isSelected 21 = .ok (.ireturn, 1) := by decide +kernel
theorem dL_isSelected_22 : decode cL_isSelected 22 = .ok (.iconst 0, 1) := by decide +kernel
theorem dL_isSelected_23 : decode cL_isSelected 23 = .ok (.ireturn, 1) := by decide +kernel
theorem dL_rejectedBy_0 : decode cL_rejectedBy 0 = .ok (.aload_n 2, 1) := by decide +kernel
theorem dL_rejectedBy_1 : decode cL_rejectedBy 1 = .ok (.iconst 0, 1) := by decide +kernel
theorem dL_rejectedBy_2 : decode cL_rejectedBy 2 = .ok (.aload_n 0, 1) := by decide +kernel
theorem dL_rejectedBy_3 : decode cL_rejectedBy 3 = .ok (.iload_n 1, 1) := by decide +kernel
theorem dL_rejectedBy_4 : decode cL_rejectedBy 4 = .ok (.invokevirtual 83, 3) := by decide +kernel
theorem dL_rejectedBy_7 : decode cL_rejectedBy 7 = .ok (.i2l, 1) := by decide +kernel
theorem dL_rejectedBy_8 : decode cL_rejectedBy 8 = .ok (.lastore, 1) := by decide +kernel
theorem dL_rejectedBy_9 : decode cL_rejectedBy 9 = .ok (.goto 6, 3) := by decide +kernel
theorem dL_rejectedBy_12 : decode cL_rejectedBy 12 = .ok (.astore_n 3, 1) := by decide +kernel
theorem dL_rejectedBy_13 : decode cL_rejectedBy 13 = .ok (.iconst 1, 1) := by decide +kernel
theorem dL_rejectedBy_14 : decode cL_rejectedBy 14 = .ok (.ireturn, 1) := by decide +kernel
theorem dL_rejectedBy_15 : decode cL_rejectedBy 15 = .ok (.iconst 0, 1) := by decide +kernel
theorem dL_rejectedBy_16 : decode cL_rejectedBy 16 = .ok (.ireturn, 1) := by decide +kernel
theorem dL_sumSelected_0 : decode cL_sumSelected 0 = .ok (.aload_n 2, 1) := by decide +kernel
theorem dL_sumSelected_1 : decode cL_sumSelected 1 = .ok (.iconst 0, 1) := by decide +kernel
theorem dL_sumSelected_2 : decode cL_sumSelected 2 = .ok (.aload_n 0, 1) := by decide +kernel
theorem dL_sumSelected_3 : decode cL_sumSelected 3 = .ok (.iload_n 1, 1) := by decide +kernel
theorem dL_sumSelected_4 : decode cL_sumSelected 4 = .ok (.invokevirtual 86, 3) := by decide +kernel
theorem dL_sumSelected_7 : decode cL_sumSelected 7 = .ok (.lastore, 1) := by decide +kernel
theorem dL_sumSelected_8 : decode cL_sumSelected 8 = .ok (.goto 6, 3) := by decide +kernel
theorem dL_sumSelected_11 : decode cL_sumSelected 11 = .ok (.astore_n 3, 1) := by decide +kernel
theorem dL_sumSelected_12 : decode cL_sumSelected 12 = .ok (.iconst 1, 1) := by decide +kernel
theorem dL_sumSelected_13 : decode cL_sumSelected 13 = .ok (.ireturn, 1) := by decide +kernel
theorem dL_sumSelected_14 : decode cL_sumSelected 14 = .ok (.iconst 0, 1) := by decide +kernel
theorem dL_sumSelected_15 : decode cL_sumSelected 15 = .ok (.ireturn, 1) := by decide +kernel
theorem dL_smallestSelected_0 : decode cL_smallestSelected 0 = .ok (.aload_n 2, 1) := by decide +kernel
theorem dL_smallestSelected_1 : decode cL_smallestSelected 1 = .ok (.iconst 0, 1) := by decide +kernel
theorem dL_smallestSelected_2 : decode cL_smallestSelected 2 = .ok (.aload_n 0, 1) := by decide +kernel
theorem dL_smallestSelected_3 : decode cL_smallestSelected 3 = .ok (.iload_n 1, 1) := by decide +kernel
theorem dL_smallestSelected_4 : decode cL_smallestSelected 4 = .ok (.invokevirtual 90, 3) := by decide +kernel
theorem dL_smallestSelected_7 : decode cL_smallestSelected 7 = .ok (.i2l, 1) := by decide +kernel
theorem dL_smallestSelected_8 : decode cL_smallestSelected 8 = .ok (.lastore, 1) := by decide +kernel
theorem dL_smallestSelected_9 : decode cL_smallestSelected 9 = .ok (.goto 9, 3) := by decide +kernel
theorem dL_smallestSelected_12 : decode cL_smallestSelected 12 = .ok (.astore_n 3, 1) := by decide +kernel
theorem dL_smallestSelected_13 : decode cL_smallestSelected 13 = .ok (.iconst 1, 1) := by decide +kernel
theorem dL_smallestSelected_14 : decode cL_smallestSelected 14 = .ok (.ireturn, 1) := by decide +kernel
theorem dL_smallestSelected_15 : decode cL_smallestSelected 15 = .ok (.astore_n 3, 1) := by decide +kernel
theorem dL_smallestSelected_16 : decode cL_smallestSelected 16 = .ok (.iconst 2, 1) := by decide +kernel
theorem dL_smallestSelected_17 : decode cL_smallestSelected 17 = .ok (.ireturn, 1) := by decide +kernel
theorem dL_smallestSelected_18 : decode cL_smallestSelected 18 = .ok (.iconst 0, 1) := by decide +kernel
theorem dL_smallestSelected_19 : decode cL_smallestSelected 19 = .ok (.ireturn, 1) := by decide +kernel
theorem dL_greatestSelected_0 : decode cL_greatestSelected 0 = .ok (.aload_n 2, 1) := by decide +kernel
theorem dL_greatestSelected_1 : decode cL_greatestSelected 1 = .ok (.iconst 0, 1) := by decide +kernel
theorem dL_greatestSelected_2 : decode cL_greatestSelected 2 = .ok (.aload_n 0, 1) := by decide +kernel
theorem dL_greatestSelected_3 : decode cL_greatestSelected 3 = .ok (.iload_n 1, 1) := by decide +kernel
theorem dL_greatestSelected_4 : decode cL_greatestSelected 4 = .ok (.invokevirtual 95, 3) := by decide +kernel
theorem dL_greatestSelected_7 : decode cL_greatestSelected 7 = .ok (.i2l, 1) := by decide +kernel
theorem dL_greatestSelected_8 : decode cL_greatestSelected 8 = .ok (.lastore, 1) := by decide +kernel
theorem dL_greatestSelected_9 : decode cL_greatestSelected 9 = .ok (.goto 9, 3) := by decide +kernel
theorem dL_greatestSelected_12 : decode cL_greatestSelected 12 = .ok (.astore_n 3, 1) := by decide +kernel
theorem dL_greatestSelected_13 : decode cL_greatestSelected 13 = .ok (.iconst 1, 1) := by decide +kernel
theorem dL_greatestSelected_14 : decode cL_greatestSelected 14 = .ok (.ireturn, 1) := by decide +kernel
theorem dL_greatestSelected_15 : decode cL_greatestSelected 15 = .ok (.astore_n 3, 1) := by decide +kernel
theorem dL_greatestSelected_16 : decode cL_greatestSelected 16 = .ok (.iconst 2, 1) := by decide +kernel
theorem dL_greatestSelected_17 : decode cL_greatestSelected 17 = .ok (.ireturn, 1) := by decide +kernel
theorem dL_greatestSelected_18 : decode cL_greatestSelected 18 = .ok (.iconst 0, 1) := by decide +kernel
theorem dL_greatestSelected_19 : decode cL_greatestSelected 19 = .ok (.ireturn, 1) := by decide +kernel
theorem dL_distinctSelected_0 : decode cL_distinctSelected 0 = .ok (.aload_n 2, 1) := by decide +kernel
theorem dL_distinctSelected_1 : decode cL_distinctSelected 1 = .ok (.iconst 0, 1) := by decide +kernel
theorem dL_distinctSelected_2 : decode cL_distinctSelected 2 = .ok (.aload_n 0, 1) := by decide +kernel
theorem dL_distinctSelected_3 : decode cL_distinctSelected 3 = .ok (.iload_n 1, 1) := by decide +kernel
theorem dL_distinctSelected_4 : decode cL_distinctSelected 4 = .ok (.invokevirtual 98, 3) := by decide +kernel
theorem dL_distinctSelected_7 : decode cL_distinctSelected 7 = .ok (.i2l, 1) := by decide +kernel
theorem dL_distinctSelected_8 : decode cL_distinctSelected 8 = .ok (.lastore, 1) := by decide +kernel
theorem dL_distinctSelected_9 : decode cL_distinctSelected 9 = .ok (.goto 6, 3) := by decide +kernel
theorem dL_distinctSelected_12 : decode cL_distinctSelected 12 = .ok (.astore_n 3, 1) := by decide +kernel
theorem dL_distinctSelected_13 : decode cL_distinctSelected 13 = .ok (.iconst 1, 1) := by decide +kernel
theorem dL_distinctSelected_14 : decode cL_distinctSelected 14 = .ok (.ireturn, 1) := by decide +kernel
theorem dL_distinctSelected_15 : decode cL_distinctSelected 15 = .ok (.iconst 0, 1) := by decide +kernel
theorem dL_distinctSelected_16 : decode cL_distinctSelected 16 = .ok (.ireturn, 1) := by decide +kernel
theorem dL_meanSelected_0 : decode cL_meanSelected 0 = .ok (.aload_n 2, 1) := by decide +kernel
theorem dL_meanSelected_1 : decode cL_meanSelected 1 = .ok (.iconst 0, 1) := by decide +kernel
theorem dL_meanSelected_2 : decode cL_meanSelected 2 = .ok (.aload_n 0, 1) := by decide +kernel
theorem dL_meanSelected_3 : decode cL_meanSelected 3 = .ok (.iload_n 1, 1) := by decide +kernel
theorem dL_meanSelected_4 : decode cL_meanSelected 4 = .ok (.invokevirtual 101, 3) := by decide +kernel
theorem dL_meanSelected_7 : decode cL_meanSelected 7 = .ok (.dastore, 1) := by decide +kernel
theorem dL_meanSelected_8 : decode cL_meanSelected 8 = .ok (.goto 6, 3) := by decide +kernel
theorem dL_meanSelected_11 : decode cL_meanSelected 11 = .ok (.astore_n 3, 1) := by decide +kernel
theorem dL_meanSelected_12 : decode cL_meanSelected 12 = .ok (.iconst 1, 1) := by decide +kernel
theorem dL_meanSelected_13 : decode cL_meanSelected 13 = .ok (.ireturn, 1) := by decide +kernel
theorem dL_meanSelected_14 : decode cL_meanSelected 14 = .ok (.iconst 0, 1) := by decide +kernel
theorem dL_meanSelected_15 : decode cL_meanSelected 15 = .ok (.ireturn, 1) := by decide +kernel
theorem dL_bitWidthWith_0 : decode cL_bitWidthWith 0 = .ok (.aload_n 3, 1) := by decide +kernel
theorem dL_bitWidthWith_1 : decode cL_bitWidthWith 1 = .ok (.iconst 0, 1) := by decide +kernel
theorem dL_bitWidthWith_2 : decode cL_bitWidthWith 2 = .ok (.aload_n 0, 1) := by decide +kernel
theorem dL_bitWidthWith_3 : decode cL_bitWidthWith 3 = .ok (.iload_n 1, 1) := by decide +kernel
theorem dL_bitWidthWith_4 : decode cL_bitWidthWith 4 = .ok (.iload_n 2, 1) := by decide +kernel
theorem dL_bitWidthWith_5 : decode cL_bitWidthWith 5 = .ok (.invokevirtual 105, 3) := by decide +kernel
theorem dL_bitWidthWith_8 : decode cL_bitWidthWith 8 = .ok (.i2l, 1) := by decide +kernel
theorem dL_bitWidthWith_9 : decode cL_bitWidthWith 9 = .ok (.lastore, 1) := by decide +kernel
theorem dL_bitWidthWith_10 : decode cL_bitWidthWith 10 = .ok (.goto 11, 3) := by decide +kernel
theorem dL_bitWidthWith_13 : decode cL_bitWidthWith 13 = .ok (.astore 4, 2) := by decide +kernel
theorem dL_bitWidthWith_15 : decode cL_bitWidthWith 15 = .ok (.iconst 1, 1) := by decide +kernel
theorem dL_bitWidthWith_16 : decode cL_bitWidthWith 16 = .ok (.ireturn, 1) := by decide +kernel
theorem dL_bitWidthWith_17 : decode cL_bitWidthWith 17 = .ok (.astore 4, 2) := by decide +kernel
theorem dL_bitWidthWith_19 : decode cL_bitWidthWith 19 = .ok (.iconst 2, 1) := by decide +kernel
theorem dL_bitWidthWith_20 : decode cL_bitWidthWith 20 = .ok (.ireturn, 1) := by decide +kernel
theorem dL_bitWidthWith_21 : decode cL_bitWidthWith 21 = .ok (.iconst 0, 1) := by decide +kernel
theorem dL_bitWidthWith_22 : decode cL_bitWidthWith 22 = .ok (.ireturn, 1) := by decide +kernel
theorem dL_bitWidthCompacted_0 : decode cL_bitWidthCompacted 0 = .ok (.aload_n 2, 1) := by decide +kernel
theorem dL_bitWidthCompacted_1 : decode cL_bitWidthCompacted 1 = .ok (.iconst 0, 1) := by decide +kernel
theorem dL_bitWidthCompacted_2 : decode cL_bitWidthCompacted 2 = .ok (.aload_n 0, 1) := by decide +kernel
theorem dL_bitWidthCompacted_3 : decode cL_bitWidthCompacted 3 = .ok (.iload_n 1, 1) := by decide +kernel
theorem dL_bitWidthCompacted_4 : decode cL_bitWidthCompacted 4 = .ok (.invokevirtual 108, 3) := by decide +kernel
theorem dL_bitWidthCompacted_7 : decode cL_bitWidthCompacted 7 = .ok (.i2l, 1) := by decide +kernel
theorem dL_bitWidthCompacted_8 : decode cL_bitWidthCompacted 8 = .ok (.lastore, 1) := by decide +kernel
theorem dL_bitWidthCompacted_9 : decode cL_bitWidthCompacted 9 = .ok (.goto 6, 3) := by decide +kernel
theorem dL_bitWidthCompacted_12 : decode cL_bitWidthCompacted 12 = .ok (.astore_n 3, 1) := by decide +kernel
theorem dL_bitWidthCompacted_13 : decode cL_bitWidthCompacted 13 = .ok (.iconst 1, 1) := by decide +kernel
theorem dL_bitWidthCompacted_14 : decode cL_bitWidthCompacted 14 = .ok (.ireturn, 1) := by decide +kernel
theorem dL_bitWidthCompacted_15 : decode cL_bitWidthCompacted 15 = .ok (.iconst 0, 1) := by decide +kernel
theorem dL_bitWidthCompacted_16 : decode cL_bitWidthCompacted 16 = .ok (.ireturn, 1) := by decide +kernel
theorem dL_runsIfSorted_0 : decode cL_runsIfSorted 0 = .ok (.aload_n 2, 1) := by decide +kernel
theorem dL_runsIfSorted_1 : decode cL_runsIfSorted 1 = .ok (.iconst 0, 1) := by decide +kernel
theorem dL_runsIfSorted_2 : decode cL_runsIfSorted 2 = .ok (.aload_n 0, 1) := by decide +kernel
theorem dL_runsIfSorted_3 : decode cL_runsIfSorted 3 = .ok (.iload_n 1, 1) := by decide +kernel
theorem dL_runsIfSorted_4 : decode cL_runsIfSorted 4 = .ok (.invokevirtual 111, 3) := by decide +kernel
theorem dL_runsIfSorted_7 : decode cL_runsIfSorted 7 = .ok (.i2l, 1) := by decide +kernel
theorem dL_runsIfSorted_8 : decode cL_runsIfSorted 8 = .ok (.lastore, 1) := by decide +kernel
theorem dL_runsIfSorted_9 : decode cL_runsIfSorted 9 = .ok (.goto 6, 3) := by decide +kernel
theorem dL_runsIfSorted_12 : decode cL_runsIfSorted 12 = .ok (.astore_n 3, 1) := by decide +kernel
theorem dL_runsIfSorted_13 : decode cL_runsIfSorted 13 = .ok (.iconst 1, 1) := by decide +kernel
theorem dL_runsIfSorted_14 : decode cL_runsIfSorted 14 = .ok (.ireturn, 1) := by decide +kernel
theorem dL_runsIfSorted_15 : decode cL_runsIfSorted 15 = .ok (.iconst 0, 1) := by decide +kernel
theorem dL_runsIfSorted_16 : decode cL_runsIfSorted 16 = .ok (.ireturn, 1) := by decide +kernel
theorem dL_addRow_0 : decode cL_addRow 0 = .ok (.aload_n 2, 1) := by decide +kernel
theorem dL_addRow_1 : decode cL_addRow 1 = .ok (.iconst 0, 1) := by decide +kernel
theorem dL_addRow_2 : decode cL_addRow 2 = .ok (.aload_n 0, 1) := by decide +kernel
theorem dL_addRow_3 : decode cL_addRow 3 = .ok (.iload_n 1, 1) := by decide +kernel
theorem dL_addRow_4 : decode cL_addRow 4 = .ok (.invokevirtual 114, 3) := by decide +kernel
theorem dL_addRow_7 : decode cL_addRow 7 = .ok (.i2l, 1) := by decide +kernel
theorem dL_addRow_8 : decode cL_addRow 8 = .ok (.lastore, 1) := by decide +kernel
theorem dL_addRow_9 : decode cL_addRow 9 = .ok (.goto 9, 3) := by decide +kernel
theorem dL_addRow_12 : decode cL_addRow 12 = .ok (.astore_n 3, 1) := by decide +kernel
theorem dL_addRow_13 : decode cL_addRow 13 = .ok (.iconst 1, 1) := by decide +kernel
theorem dL_addRow_14 : decode cL_addRow 14 = .ok (.ireturn, 1) := by decide +kernel
theorem dL_addRow_15 : decode cL_addRow 15 = .ok (.astore_n 3, 1) := by decide +kernel
theorem dL_addRow_16 : decode cL_addRow 16 = .ok (.iconst 2, 1) := by decide +kernel
theorem dL_addRow_17 : decode cL_addRow 17 = .ok (.ireturn, 1) := by decide +kernel
theorem dL_addRow_18 : decode cL_addRow 18 = .ok (.iconst 0, 1) := by decide +kernel
theorem dL_addRow_19 : decode cL_addRow 19 = .ok (.ireturn, 1) := by decide +kernel
theorem dL_removeRow_0 : decode cL_removeRow 0 = .ok (.aload_n 2, 1) := by decide +kernel
theorem dL_removeRow_1 : decode cL_removeRow 1 = .ok (.iconst 0, 1) := by decide +kernel
theorem dL_removeRow_2 : decode cL_removeRow 2 = .ok (.aload_n 0, 1) := by decide +kernel
theorem dL_removeRow_3 : decode cL_removeRow 3 = .ok (.iload_n 1, 1) := by decide +kernel
theorem dL_removeRow_4 : decode cL_removeRow 4 = .ok (.invokevirtual 117, 3) := by decide +kernel
theorem dL_removeRow_7 : decode cL_removeRow 7 = .ok (.i2l, 1) := by decide +kernel
theorem dL_removeRow_8 : decode cL_removeRow 8 = .ok (.lastore, 1) := by decide +kernel
theorem dL_removeRow_9 : decode cL_removeRow 9 = .ok (.goto 6, 3) := by decide +kernel
theorem dL_removeRow_12 : decode cL_removeRow 12 = .ok (.astore_n 3, 1) := by decide +kernel
theorem dL_removeRow_13 : decode cL_removeRow 13 = .ok (.iconst 1, 1) := by decide +kernel
theorem dL_removeRow_14 : decode cL_removeRow 14 = .ok (.ireturn, 1) := by decide +kernel
theorem dL_removeRow_15 : decode cL_removeRow 15 = .ok (.iconst 0, 1) := by decide +kernel
theorem dL_removeRow_16 : decode cL_removeRow 16 = .ok (.ireturn, 1) := by decide +kernel
theorem dL_setValue_0 : decode cL_setValue 0 = .ok (.aload 4, 2) := by decide +kernel
theorem dL_setValue_2 : decode cL_setValue 2 = .ok (.iconst 0, 1) := by decide +kernel
theorem dL_setValue_3 : decode cL_setValue 3 = .ok (.aload_n 0, 1) := by decide +kernel
theorem dL_setValue_4 : decode cL_setValue 4 = .ok (.iload_n 1, 1) := by decide +kernel
theorem dL_setValue_5 : decode cL_setValue 5 = .ok (.iload_n 2, 1) := by decide +kernel
theorem dL_setValue_6 : decode cL_setValue 6 = .ok (.iload_n 3, 1) := by decide +kernel
theorem dL_setValue_7 : decode cL_setValue 7 = .ok (.invokevirtual 120, 3) := by decide +kernel
theorem dL_setValue_10 : decode cL_setValue 10 = .ok (.i2l, 1) := by decide +kernel
theorem dL_setValue_11 : decode cL_setValue 11 = .ok (.lastore, 1) := by decide +kernel
theorem dL_setValue_12 : decode cL_setValue 12 = .ok (.goto 11, 3) := by decide +kernel
theorem dL_setValue_15 : decode cL_setValue 15 = .ok (.astore 5, 2) := by decide +kernel
theorem dL_setValue_17 : decode cL_setValue 17 = .ok (.iconst 1, 1) := by decide +kernel
theorem dL_setValue_18 : decode cL_setValue 18 = .ok (.ireturn, 1) := by decide +kernel
theorem dL_setValue_19 : decode cL_setValue 19 = .ok (.astore 5, 2) := by decide +kernel
theorem dL_setValue_21 : decode cL_setValue 21 = .ok (.iconst 2, 1) := by decide +kernel
theorem dL_setValue_22 : decode cL_setValue 22 = .ok (.ireturn, 1) := by decide +kernel
theorem dL_setValue_23 : decode cL_setValue 23 = .ok (.iconst 0, 1) := by decide +kernel
theorem dL_setValue_24 : decode cL_setValue 24 = .ok (.ireturn, 1) := by decide +kernel
theorem dL_sort_0 : decode cL_sort 0 = .ok (.aload_n 3, 1) := by decide +kernel
theorem dL_sort_1 : decode cL_sort 1 = .ok (.iconst 0, 1) := by decide +kernel
theorem dL_sort_2 : decode cL_sort 2 = .ok (.aload_n 0, 1) := by decide +kernel
theorem dL_sort_3 : decode cL_sort 3 = .ok (.iload_n 1, 1) := by decide +kernel
theorem dL_sort_4 : decode cL_sort 4 = .ok (.iload_n 2, 1) := by decide +kernel
theorem dL_sort_5 : decode cL_sort 5 = .ok (.invokevirtual 124, 3) := by decide +kernel
theorem dL_sort_8 : decode cL_sort 8 = .ok (.i2l, 1) := by decide +kernel
theorem dL_sort_9 : decode cL_sort 9 = .ok (.lastore, 1) := by decide +kernel
theorem dL_sort_10 : decode cL_sort 10 = .ok (.goto 7, 3) := by decide +kernel
theorem dL_sort_13 : decode cL_sort 13 = .ok (.astore 4, 2) := by decide +kernel
theorem dL_sort_15 : decode cL_sort 15 = .ok (.iconst 1, 1) := by decide +kernel
theorem dL_sort_16 : decode cL_sort 16 = .ok (.ireturn, 1) := by decide +kernel
theorem dL_sort_17 : decode cL_sort 17 = .ok (.iconst 0, 1) := by decide +kernel
theorem dL_sort_18 : decode cL_sort 18 = .ok (.ireturn, 1) := by decide +kernel
theorem dL_addLess_0 : decode cL_addLess 0 = .ok (.aload_n 3, 1) := by decide +kernel
theorem dL_addLess_1 : decode cL_addLess 1 = .ok (.iconst 0, 1) := by decide +kernel
theorem dL_addLess_2 : decode cL_addLess 2 = .ok (.aload_n 0, 1) := by decide +kernel
theorem dL_addLess_3 : decode cL_addLess 3 = .ok (.iload_n 1, 1) := by decide +kernel
theorem dL_addLess_4 : decode cL_addLess 4 = .ok (.iload_n 2, 1) := by decide +kernel
theorem dL_addLess_5 : decode cL_addLess 5 = .ok (.invokevirtual 128, 3) := by decide +kernel
theorem dL_addLess_8 : decode cL_addLess 8 = .ok (.i2l, 1) := by decide +kernel
theorem dL_addLess_9 : decode cL_addLess 9 = .ok (.lastore, 1) := by decide +kernel
theorem dL_addLess_10 : decode cL_addLess 10 = .ok (.goto 15, 3) := by decide +kernel
theorem dL_addLess_13 : decode cL_addLess 13 = .ok (.astore 4, 2) := by decide +kernel
theorem dL_addLess_15 : decode cL_addLess 15 = .ok (.iconst 1, 1) := by decide +kernel
theorem dL_addLess_16 : decode cL_addLess 16 = .ok (.ireturn, 1) := by decide +kernel
theorem dL_addLess_17 : decode cL_addLess 17 = .ok (.astore 4, 2) := by decide +kernel
theorem dL_addLess_19 : decode cL_addLess 19 = .ok (.iconst 2, 1) := by decide +kernel
theorem dL_addLess_20 : decode cL_addLess 20 = .ok (.ireturn, 1) := by decide +kernel
theorem dL_addLess_21 : decode cL_addLess 21 = .ok (.astore 4, 2) := by decide +kernel
theorem dL_addLess_23 : decode cL_addLess 23 = .ok (.iconst 3, 1) := by decide +kernel
theorem dL_addLess_24 : decode cL_addLess 24 = .ok (.ireturn, 1) := by decide +kernel
theorem dL_addLess_25 : decode cL_addLess 25 = .ok (.iconst 0, 1) := by decide +kernel
theorem dL_addLess_26 : decode cL_addLess 26 = .ok (.ireturn, 1) := by decide +kernel
theorem dL_addEqual_0 : decode cL_addEqual 0 = .ok (.aload_n 3, 1) := by decide +kernel
theorem dL_addEqual_1 : decode cL_addEqual 1 = .ok (.iconst 0, 1) := by decide +kernel
theorem dL_addEqual_2 : decode cL_addEqual 2 = .ok (.aload_n 0, 1) := by decide +kernel
theorem dL_addEqual_3 : decode cL_addEqual 3 = .ok (.iload_n 1, 1) := by decide +kernel
theorem dL_addEqual_4 : decode cL_addEqual 4 = .ok (.iload_n 2, 1) := by decide +kernel
theorem dL_addEqual_5 : decode cL_addEqual 5 = .ok (.invokevirtual 131, 3) := by decide +kernel
theorem dL_addEqual_8 : decode cL_addEqual 8 = .ok (.i2l, 1) := by decide +kernel
theorem dL_addEqual_9 : decode cL_addEqual 9 = .ok (.lastore, 1) := by decide +kernel
theorem dL_addEqual_10 : decode cL_addEqual 10 = .ok (.goto 15, 3) := by decide +kernel
theorem dL_addEqual_13 : decode cL_addEqual 13 = .ok (.astore 4, 2) := by decide +kernel
theorem dL_addEqual_15 : decode cL_addEqual 15 = .ok (.iconst 1, 1) := by decide +kernel
theorem dL_addEqual_16 : decode cL_addEqual 16 = .ok (.ireturn, 1) := by decide +kernel
theorem dL_addEqual_17 : decode cL_addEqual 17 = .ok (.astore 4, 2) := by decide +kernel
theorem dL_addEqual_19 : decode cL_addEqual 19 = .ok (.iconst 2, 1) := by decide +kernel
theorem dL_addEqual_20 : decode cL_addEqual 20 = .ok (.ireturn, 1) := by decide +kernel
theorem dL_addEqual_21 : decode cL_addEqual 21 = .ok (.astore 4, 2) := by decide +kernel
theorem dL_addEqual_23 : decode cL_addEqual 23 = .ok (.iconst 3, 1) := by decide +kernel
theorem dL_addEqual_24 : decode cL_addEqual 24 = .ok (.ireturn, 1) := by decide +kernel
theorem dL_addEqual_25 : decode cL_addEqual 25 = .ok (.iconst 0, 1) := by decide +kernel
theorem dL_addEqual_26 : decode cL_addEqual 26 = .ok (.ireturn, 1) := by decide +kernel
theorem dL_addGreater_0 : decode cL_addGreater 0 = .ok (.aload_n 3, 1) := by decide +kernel
theorem dL_addGreater_1 : decode cL_addGreater 1 = .ok (.iconst 0, 1) := by decide +kernel
theorem dL_addGreater_2 : decode cL_addGreater 2 = .ok (.aload_n 0, 1) := by decide +kernel
theorem dL_addGreater_3 : decode cL_addGreater 3 = .ok (.iload_n 1, 1) := by decide +kernel
theorem dL_addGreater_4 : decode cL_addGreater 4 = .ok (.iload_n 2, 1) := by decide +kernel
theorem dL_addGreater_5 : decode cL_addGreater 5 = .ok (.invokevirtual 134, 3) := by decide +kernel
theorem dL_addGreater_8 : decode cL_addGreater 8 = .ok (.i2l, 1) := by decide +kernel
theorem dL_addGreater_9 : decode cL_addGreater 9 = .ok (.lastore, 1) := by decide +kernel
theorem dL_addGreater_10 : decode cL_addGreater 10 = .ok (.goto 15, 3) := by decide +kernel
theorem dL_addGreater_13 : decode cL_addGreater 13 = .ok (.astore 4, 2) := by decide +kernel
theorem dL_addGreater_15 : decode cL_addGreater 15 = .ok (.iconst 1, 1) := by decide +kernel
theorem dL_addGreater_16 : decode cL_addGreater 16 = .ok (.ireturn, 1) := by decide +kernel
theorem dL_addGreater_17 : decode cL_addGreater 17 = .ok (.astore 4, 2) := by decide +kernel
theorem dL_addGreater_19 : decode cL_addGreater 19 = .ok (.iconst 2, 1) := by decide +kernel
theorem dL_addGreater_20 : decode cL_addGreater 20 = .ok (.ireturn, 1) := by decide +kernel
theorem dL_addGreater_21 : decode cL_addGreater 21 = .ok (.astore 4, 2) := by decide +kernel
theorem dL_addGreater_23 : decode cL_addGreater 23 = .ok (.iconst 3, 1) := by decide +kernel
theorem dL_addGreater_24 : decode cL_addGreater 24 = .ok (.ireturn, 1) := by decide +kernel
theorem dL_addGreater_25 : decode cL_addGreater 25 = .ok (.iconst 0, 1) := by decide +kernel
theorem dL_addGreater_26 : decode cL_addGreater 26 = .ok (.ireturn, 1) := by decide +kernel
theorem dL_removeCondition_0 : decode cL_removeCondition 0 = .ok (.aload_n 2, 1) := by decide +kernel
theorem dL_removeCondition_1 : decode cL_removeCondition 1 = .ok (.iconst 0, 1) := by decide +kernel
theorem dL_removeCondition_2 : decode cL_removeCondition 2 = .ok (.aload_n 0, 1) := by decide +kernel
theorem dL_removeCondition_3 : decode cL_removeCondition 3 = .ok (.iload_n 1, 1) := by decide +kernel
theorem dL_removeCondition_4 : decode cL_removeCondition 4 = .ok (.invokevirtual 137, 3) := by decide +kernel
theorem dL_removeCondition_7 : decode cL_removeCondition 7 = .ok (.i2l, 1) := by decide +kernel
theorem dL_removeCondition_8 : decode cL_removeCondition 8 = .ok (.lastore, 1) := by decide +kernel
theorem dL_removeCondition_9 : decode cL_removeCondition 9 = .ok (.goto 6, 3) := by decide +kernel
theorem dL_removeCondition_12 : decode cL_removeCondition 12 = .ok (.astore_n 3, 1) := by decide +kernel
theorem dL_removeCondition_13 : decode cL_removeCondition 13 = .ok (.iconst 1, 1) := by decide +kernel
theorem dL_removeCondition_14 : decode cL_removeCondition 14 = .ok (.ireturn, 1) := by decide +kernel
theorem dL_removeCondition_15 : decode cL_removeCondition 15 = .ok (.iconst 0, 1) := by decide +kernel
theorem dL_removeCondition_16 : decode cL_removeCondition 16 = .ok (.ireturn, 1) := by decide +kernel
theorem dL_compact_0 : decode cL_compact 0 = .ok (.aload_n 2, 1) := by decide +kernel
theorem dL_compact_1 : decode cL_compact 1 = .ok (.iconst 0, 1) := by decide +kernel
theorem dL_compact_2 : decode cL_compact 2 = .ok (.aload_n 0, 1) := by decide +kernel
theorem dL_compact_3 : decode cL_compact 3 = .ok (.iload_n 1, 1) := by decide +kernel
theorem dL_compact_4 : decode cL_compact 4 = .ok (.invokevirtual 140, 3) := by decide +kernel
theorem dL_compact_7 : decode cL_compact 7 = .ok (.i2l, 1) := by decide +kernel
theorem dL_compact_8 : decode cL_compact 8 = .ok (.lastore, 1) := by decide +kernel
theorem dL_compact_9 : decode cL_compact 9 = .ok (.goto 6, 3) := by decide +kernel
theorem dL_compact_12 : decode cL_compact 12 = .ok (.astore_n 3, 1) := by decide +kernel
theorem dL_compact_13 : decode cL_compact 13 = .ok (.iconst 1, 1) := by decide +kernel
theorem dL_compact_14 : decode cL_compact 14 = .ok (.ireturn, 1) := by decide +kernel
theorem dL_compact_15 : decode cL_compact 15 = .ok (.iconst 0, 1) := by decide +kernel
theorem dL_compact_16 : decode cL_compact 16 = .ok (.ireturn, 1) := by decide +kernel
theorem dL_runScript_0 : decode cL_runScript 0 = .ok (.aload_n 2, 1) := by decide +kernel
theorem dL_runScript_1 : decode cL_runScript 1 = .ok (.iconst 0, 1) := by decide +kernel
theorem dL_runScript_2 : decode cL_runScript 2 = .ok (.aload_n 0, 1) := by decide +kernel
theorem dL_runScript_3 : decode cL_runScript 3 = .ok (.iload_n 1, 1) := by decide +kernel
theorem dL_runScript_4 : decode cL_runScript 4 = .ok (.invokevirtual 143, 3) := by decide +kernel
theorem dL_runScript_7 : decode cL_runScript 7 = .ok (.i2l, 1) := by decide +kernel
theorem dL_runScript_8 : decode cL_runScript 8 = .ok (.lastore, 1) := by decide +kernel
theorem dL_runScript_9 : decode cL_runScript 9 = .ok (.goto 6, 3) := by decide +kernel
theorem dL_runScript_12 : decode cL_runScript 12 = .ok (.astore_n 3, 1) := by decide +kernel
theorem dL_runScript_13 : decode cL_runScript 13 = .ok (.iconst 1, 1) := by decide +kernel
theorem dL_runScript_14 : decode cL_runScript 14 = .ok (.ireturn, 1) := by decide +kernel
theorem dL_runScript_15 : decode cL_runScript 15 = .ok (.iconst 0, 1) := by decide +kernel
theorem dL_runScript_16 : decode cL_runScript 16 = .ok (.ireturn, 1) := by decide +kernel
theorem dL_writeRow_0 : decode cL_writeRow 0 = .ok (.aload_n 2, 1) := by decide +kernel
theorem dL_writeRow_1 : decode cL_writeRow 1 = .ok (.iconst 0, 1) := by decide +kernel
theorem dL_writeRow_2 : decode cL_writeRow 2 = .ok (.aload_n 0, 1) := by decide +kernel
theorem dL_writeRow_3 : decode cL_writeRow 3 = .ok (.iload_n 1, 1) := by decide +kernel
theorem dL_writeRow_4 : decode cL_writeRow 4 = .ok (.invokevirtual 146, 3) := by decide +kernel
theorem dL_writeRow_7 : decode cL_writeRow 7 = .ok (.i2l, 1) := by decide +kernel
theorem dL_writeRow_8 : decode cL_writeRow 8 = .ok (.lastore, 1) := by decide +kernel
theorem dL_writeRow_9 : decode cL_writeRow 9 = .ok (.goto 6, 3) := by decide +kernel
theorem dL_writeRow_12 : decode cL_writeRow 12 = .ok (.astore_n 3, 1) := by decide +kernel
theorem dL_writeRow_13 : decode cL_writeRow 13 = .ok (.iconst 1, 1) := by decide +kernel
theorem dL_writeRow_14 : decode cL_writeRow 14 = .ok (.ireturn, 1) := by decide +kernel
theorem dL_writeRow_15 : decode cL_writeRow 15 = .ok (.iconst 0, 1) := by decide +kernel
theorem dL_writeRow_16 : decode cL_writeRow 16 = .ok (.ireturn, 1) := by decide +kernel
theorem dL_outputByte_0 : decode cL_outputByte 0 = .ok (.aload_n 2, 1) := by decide +kernel
theorem dL_outputByte_1 : decode cL_outputByte 1 = .ok (.iconst 0, 1) := by decide +kernel
theorem dL_outputByte_2 : decode cL_outputByte 2 = .ok (.aload_n 0, 1) := by decide +kernel
theorem dL_outputByte_3 : decode cL_outputByte 3 = .ok (.iload_n 1, 1) := by decide +kernel
theorem dL_outputByte_4 : decode cL_outputByte 4 = .ok (.invokevirtual 149, 3) := by decide +kernel
theorem dL_outputByte_7 : decode cL_outputByte 7 = .ok (.i2l, 1) := by decide +kernel
theorem dL_outputByte_8 : decode cL_outputByte 8 = .ok (.lastore, 1) := by decide +kernel
theorem dL_outputByte_9 : decode cL_outputByte 9 = .ok (.goto 6, 3) := by decide +kernel
theorem dL_outputByte_12 : decode cL_outputByte 12 = .ok (.astore_n 3, 1) := by decide +kernel
theorem dL_outputByte_13 : decode cL_outputByte 13 = .ok (.iconst 1, 1) := by decide +kernel
theorem dL_outputByte_14 : decode cL_outputByte 14 = .ok (.ireturn, 1) := by decide +kernel
theorem dL_outputByte_15 : decode cL_outputByte 15 = .ok (.iconst 0, 1) := by decide +kernel
theorem dL_outputByte_16 : decode cL_outputByte 16 = .ok (.ireturn, 1) := by decide +kernel
theorem dL_undo_0 : decode cL_undo 0 = .ok (.aload_n 1, 1) := by decide +kernel
theorem dL_undo_1 : decode cL_undo 1 = .ok (.iconst 0, 1) := by decide +kernel
theorem dL_undo_2 : decode cL_undo 2 = .ok (.aload_n 0, 1) := by decide +kernel
theorem dL_undo_3 : decode cL_undo 3 = .ok (.invokevirtual 152, 3) := by decide +kernel
theorem dL_undo_6 : decode cL_undo 6 = .ok (.i2l, 1) := by decide +kernel
theorem dL_undo_7 : decode cL_undo 7 = .ok (.lastore, 1) := by decide +kernel
theorem dL_undo_8 : decode cL_undo 8 = .ok (.goto 6, 3) := by decide +kernel
theorem dL_undo_11 : decode cL_undo 11 = .ok (.astore_n 2, 1) := by decide +kernel
theorem dL_undo_12 : decode cL_undo 12 = .ok (.iconst 1, 1) := by decide +kernel
theorem dL_undo_13 : decode cL_undo 13 = .ok (.ireturn, 1) := by decide +kernel
theorem dL_undo_14 : decode cL_undo 14 = .ok (.iconst 0, 1) := by decide +kernel
theorem dL_undo_15 : decode cL_undo 15 = .ok (.ireturn, 1) := by decide +kernel
theorem dL_restoreSnapshot_0 : decode cL_restoreSnapshot 0 = .ok (.aload_n 1, 1) := by decide +kernel
theorem dL_restoreSnapshot_1 : decode cL_restoreSnapshot 1 = .ok (.iconst 0, 1) := by decide +kernel
theorem dL_restoreSnapshot_2 : decode cL_restoreSnapshot 2 = .ok (.aload_n 0, 1) := by decide +kernel
theorem dL_restoreSnapshot_3 : decode cL_restoreSnapshot 3 = .ok (.invokevirtual 156, 3) := by decide +kernel
theorem dL_restoreSnapshot_6 : decode cL_restoreSnapshot 6 = .ok (.i2l, 1) := by decide +kernel
theorem dL_restoreSnapshot_7 : decode cL_restoreSnapshot 7 = .ok (.lastore, 1) := by decide +kernel
theorem dL_restoreSnapshot_8 : decode cL_restoreSnapshot 8 = .ok (.goto 6, 3) := by decide +kernel
theorem dL_restoreSnapshot_11 : decode cL_restoreSnapshot 11 = .ok (.astore_n 2, 1) := by decide +kernel
theorem dL_restoreSnapshot_12 : decode cL_restoreSnapshot 12 = .ok (.iconst 1, 1) := by decide +kernel
theorem dL_restoreSnapshot_13 : decode cL_restoreSnapshot 13 = .ok (.ireturn, 1) := by decide +kernel
theorem dL_restoreSnapshot_14 : decode cL_restoreSnapshot 14 = .ok (.iconst 0, 1) := by decide +kernel
theorem dL_restoreSnapshot_15 : decode cL_restoreSnapshot 15 = .ok (.ireturn, 1) := by decide +kernel
theorem dL_law_0 : decode cL_law 0 = .ok (.new 8, 3) := by decide +kernel
theorem dL_law_3 : decode cL_law 3 = .ok (.dup, 1) := by decide +kernel
theorem dL_law_4 : decode cL_law 4 = .ok (.invokespecial 159, 3) := by decide +kernel
theorem dL_law_7 : decode cL_law 7 = .ok (.astore_n 1, 1) := by decide +kernel
theorem dL_law_8 : decode cL_law 8 = .ok (.new 160, 3) := by decide +kernel
theorem dL_law_11 : decode cL_law 11 = .ok (.dup, 1) := by decide +kernel
theorem dL_law_12 : decode cL_law 12 = .ok (.invokespecial 162, 3) := by decide +kernel
theorem dL_law_15 : decode cL_law 15 = .ok (.astore_n 2, 1) := by decide +kernel
theorem dL_law_16 : decode cL_law 16 = .ok (.iconst 1, 1) := by decide +kernel
theorem dL_law_17 : decode cL_law 17 = .ok (.newarray .long, 2) := by decide +kernel
theorem dL_law_19 : decode cL_law 19 = .ok (.astore_n 3, 1) := by decide +kernel
theorem dL_law_20 : decode cL_law 20 = .ok (.iconst 1, 1) := by decide +kernel
theorem dL_law_21 : decode cL_law 21 = .ok (.newarray .double, 2) := by decide +kernel
theorem dL_law_23 : decode cL_law 23 = .ok (.astore 4, 2) := by decide +kernel
theorem dL_law_25 : decode cL_law 25 = .ok (.iconst 0, 1) := by decide +kernel
theorem dL_law_26 : decode cL_law 26 = .ok (.istore 5, 2) := by decide +kernel
theorem dL_law_28 : decode cL_law 28 = .ok (.iload 5, 2) := by decide +kernel
theorem dL_law_30 : decode cL_law 30 = .ok (.aload_n 0, 1) := by decide +kernel
theorem dL_law_31 : decode cL_law 31 = .ok (.arraylength, 1) := by decide +kernel
theorem dL_law_32 : decode cL_law 32 = .ok (.bipush 6, 2) := by decide +kernel
theorem dL_law_34 : decode cL_law 34 = .ok (.isub, 1) := by decide +kernel
theorem dL_law_35 : decode cL_law 35 = .ok (.if_icmp .gt 3329, 3) := by decide +kernel
theorem dL_law_38 : decode cL_law 38 = .ok (.aload_n 0, 1) := by decide +kernel
theorem dL_law_39 : decode cL_law 39 = .ok (.iload 5, 2) := by decide +kernel
theorem dL_law_41 : decode cL_law 41 = .ok (.iaload, 1) := by decide +kernel
theorem dL_law_42 : decode cL_law 42 = .ok (.bipush 63, 2) := by decide +kernel
theorem dL_law_44 : decode cL_law 44 = .ok (.iand, 1) := by decide +kernel
theorem dL_law_45 : decode cL_law 45 = .ok (.tableswitch 3313 0 61 #[263, 336, 392, 405, 418, 431, 444, 512, 580, 636, 704, 772, 828, 896, 952, 1008, 1064, 1131, 1144, 1185, 1241, 1297, 1360, 1373, 1429, 1485, 1541, 1597, 1653, 1709, 1722, 1785, 1798, 1823, 1879, 1934, 1990, 2046, 2102, 2179, 2222, 2290, 2346, 2402, 2415, 2428, 2484, 2540, 2620, 2704, 2772, 2840, 2908, 2964, 2977, 3033, 3089, 3145, 3201, 3214, 3258, 3269], 263) := by decide +kernel
theorem dL_law_308 : decode cL_law 308 = .ok (.aload_n 1, 1) := by decide +kernel
theorem dL_law_309 : decode cL_law 309 = .ok (.aload_n 0, 1) := by decide +kernel
theorem dL_law_310 : decode cL_law 310 = .ok (.iload 5, 2) := by decide +kernel
theorem dL_law_312 : decode cL_law 312 = .ok (.iconst 1, 1) := by decide +kernel
theorem dL_law_313 : decode cL_law 313 = .ok (.iadd, 1) := by decide +kernel
theorem dL_law_314 : decode cL_law 314 = .ok (.iaload, 1) := by decide +kernel
theorem dL_law_315 : decode cL_law 315 = .ok (.aload_n 0, 1) := by decide +kernel
theorem dL_law_316 : decode cL_law 316 = .ok (.iload 5, 2) := by decide +kernel
theorem dL_law_318 : decode cL_law 318 = .ok (.iconst 2, 1) := by decide +kernel
theorem dL_law_319 : decode cL_law 319 = .ok (.iadd, 1) := by decide +kernel
theorem dL_law_320 : decode cL_law 320 = .ok (.iaload, 1) := by decide +kernel
theorem dL_law_321 : decode cL_law 321 = .ok (.aload_n 0, 1) := by decide +kernel
theorem dL_law_322 : decode cL_law 322 = .ok (.iload 5, 2) := by decide +kernel
theorem dL_law_324 : decode cL_law 324 = .ok (.iconst 3, 1) := by decide +kernel
theorem dL_law_325 : decode cL_law 325 = .ok (.iadd, 1) := by decide +kernel
theorem dL_law_326 : decode cL_law 326 = .ok (.iaload, 1) := by decide +kernel
theorem dL_law_327 : decode cL_law 327 = .ok (.aload_n 0, 1) := by decide +kernel
theorem dL_law_328 : decode cL_law 328 = .ok (.iload 5, 2) := by decide +kernel
theorem dL_law_330 : decode cL_law 330 = .ok (.iconst 4, 1) := by decide +kernel
theorem dL_law_331 : decode cL_law 331 = .ok (.iadd, 1) := by decide +kernel
theorem dL_law_332 : decode cL_law 332 = .ok (.iaload, 1) := by decide +kernel
theorem dL_law_333 : decode cL_law 333 = .ok (.aload_n 0, 1) := by decide +kernel
theorem dL_law_334 : decode cL_law 334 = .ok (.iload 5, 2) := by decide +kernel
theorem dL_law_336 : decode cL_law 336 = .ok (.iconst 5, 1) := by decide +kernel
theorem dL_law_337 : decode cL_law 337 = .ok (.iadd, 1) := by decide +kernel
theorem dL_law_338 : decode cL_law 338 = .ok (.iaload, 1) := by decide +kernel
theorem dL_law_339 : decode cL_law 339 = .ok (.invokevirtual 163, 3) := by decide +kernel
theorem dL_law_342 : decode cL_law 342 = .ok (.aload_n 2, 1) := by decide +kernel
theorem dL_law_343 : decode cL_law 343 = .ok (.aload_n 0, 1) := by decide +kernel
theorem dL_law_344 : decode cL_law 344 = .ok (.iload 5, 2) := by decide +kernel
theorem dL_law_346 : decode cL_law 346 = .ok (.iconst 1, 1) := by decide +kernel
theorem dL_law_347 : decode cL_law 347 = .ok (.iadd, 1) := by decide +kernel
theorem dL_law_348 : decode cL_law 348 = .ok (.iaload, 1) := by decide +kernel
theorem dL_law_349 : decode cL_law 349 = .ok (.aload_n 0, 1) := by decide +kernel
theorem dL_law_350 : decode cL_law 350 = .ok (.iload 5, 2) := by decide +kernel
theorem dL_law_352 : decode cL_law 352 = .ok (.iconst 2, 1) := by decide +kernel
theorem dL_law_353 : decode cL_law 353 = .ok (.iadd, 1) := by decide +kernel
theorem dL_law_354 : decode cL_law 354 = .ok (.iaload, 1) := by decide +kernel
theorem dL_law_355 : decode cL_law 355 = .ok (.aload_n 0, 1) := by decide +kernel
theorem dL_law_356 : decode cL_law 356 = .ok (.iload 5, 2) := by decide +kernel
theorem dL_law_358 : decode cL_law 358 = .ok (.iconst 3, 1) := by decide +kernel
theorem dL_law_359 : decode cL_law 359 = .ok (.iadd, 1) := by decide +kernel
theorem dL_law_360 : decode cL_law 360 = .ok (.iaload, 1) := by decide +kernel
theorem dL_law_361 : decode cL_law 361 = .ok (.aload_n 0, 1) := by decide +kernel
theorem dL_law_362 : decode cL_law 362 = .ok (.iload 5, 2) := by decide +kernel
theorem dL_law_364 : decode cL_law 364 = .ok (.iconst 4, 1) := by decide +kernel
theorem dL_law_365 : decode cL_law 365 = .ok (.iadd, 1) := by decide +kernel
theorem dL_law_366 : decode cL_law 366 = .ok (.iaload, 1) := by decide +kernel
theorem dL_law_367 : decode cL_law 367 = .ok (.aload_n 0, 1) := by decide +kernel
theorem dL_law_368 : decode cL_law 368 = .ok (.iload 5, 2) := by decide +kernel
theorem dL_law_370 : decode cL_law 370 = .ok (.iconst 5, 1) := by decide +kernel
theorem dL_law_371 : decode cL_law 371 = .ok (.iadd, 1) := by decide +kernel
theorem dL_law_372 : decode cL_law 372 = .ok (.iaload, 1) := by decide +kernel
theorem dL_law_373 : decode cL_law 373 = .ok (.invokevirtual 167, 3) := by decide +kernel
theorem dL_law_376 : decode cL_law 376 = .ok (.if_icmp .eq 2982, 3) := by decide +kernel
theorem dL_law_379 : decode cL_law 379 = .ok (.iconst 0, 1) := by decide +kernel
theorem dL_law_380 : decode cL_law 380 = .ok (.ireturn, 1) := by decide +kernel
theorem dL_law_381 : decode cL_law 381 = .ok (.aload_n 1, 1) := by decide +kernel
theorem dL_law_382 : decode cL_law 382 = .ok (.aload_n 0, 1) := by decide +kernel
theorem dL_law_383 : decode cL_law 383 = .ok (.iload 5, 2) := by decide +kernel
theorem dL_law_385 : decode cL_law 385 = .ok (.iconst 1, 1) := by decide +kernel
theorem dL_law_386 : decode cL_law 386 = .ok (.iadd, 1) := by decide +kernel
theorem dL_law_387 : decode cL_law 387 = .ok (.iaload, 1) := by decide +kernel
theorem dL_law_388 : decode cL_law 388 = .ok (.aload_n 3, 1) := by decide +kernel
theorem dL_law_389 : decode cL_law 389 = .ok (.invokestatic 168, 3) := by decide +kernel
theorem dL_law_392 : decode cL_law 392 = .ok (.istore 6, 2) := by decide +kernel
theorem dL_law_394 : decode cL_law 394 = .ok (.aload_n 2, 1) := by decide +kernel
theorem dL_law_395 : decode cL_law 395 = .ok (.aload_n 0, 1) := by decide +kernel
theorem dL_law_396 : decode cL_law 396 = .ok (.iload 5, 2) := by decide +kernel
theorem dL_law_398 : decode cL_law 398 = .ok (.iconst 1, 1) := by decide +kernel
theorem dL_law_399 : decode cL_law 399 = .ok (.iadd, 1) := by decide +kernel
theorem dL_law_400 : decode cL_law 400 = .ok (.iaload, 1) := by decide +kernel
theorem dL_law_401 : decode cL_law 401 = .ok (.invokevirtual 173, 3) := by decide +kernel
theorem dL_law_404 : decode cL_law 404 = .ok (.istore 7, 2) := by decide +kernel
theorem dL_law_406 : decode cL_law 406 = .ok (.aload_n 2, 1) := by decide +kernel
theorem dL_law_407 : decode cL_law 407 = .ok (.invokevirtual 174, 3) := by decide +kernel
theorem dL_law_410 : decode cL_law 410 = .ok (.iload 6, 2) := by decide +kernel
theorem dL_law_412 : decode cL_law 412 = .ok (.if_icmp .eq 5, 3) := by decide +kernel
theorem dL_law_415 : decode cL_law 415 = .ok (.iconst 0, 1) := by decide +kernel
theorem dL_law_416 : decode cL_law 416 = .ok (.ireturn, 1) := by decide +kernel
theorem dL_law_417 : decode cL_law 417 = .ok (.iload 6, 2) := by decide +kernel
theorem dL_law_419 : decode cL_law 419 = .ok (.ifCond .ne 15, 3) := by decide +kernel
theorem dL_law_422 : decode cL_law 422 = .ok (.aload_n 3, 1) := by decide +kernel
theorem dL_law_423 : decode cL_law 423 = .ok (.iconst 0, 1) := by decide +kernel
theorem dL_law_424 : decode cL_law 424 = .ok (.laload, 1) := by decide +kernel
theorem dL_law_425 : decode cL_law 425 = .ok (.iload 7, 2) := by decide +kernel
theorem dL_law_427 : decode cL_law 427 = .ok (.i2l, 1) := by decide +kernel
theorem dL_law_428 : decode cL_law 428 = .ok (.lcmp, 1) := by decide +kernel
theorem dL_law_429 : decode cL_law 429 = .ok (.ifCond .eq 5, 3) := by decide +kernel
theorem dL_law_432 : decode cL_law 432 = .ok (.iconst 0, 1) := by decide +kernel
theorem dL_law_433 : decode cL_law 433 = .ok (.ireturn, 1) := by decide +kernel
theorem dL_law_434 : decode cL_law 434 = .ok (.goto 2924, 3) := by decide +kernel
theorem dL_law_437 : decode cL_law 437 = .ok (.aload_n 1, 1) := by decide +kernel
theorem dL_law_438 : decode cL_law 438 = .ok (.invokevirtual 177, 3) := by decide +kernel
theorem dL_law_441 : decode cL_law 441 = .ok (.aload_n 2, 1) := by decide +kernel
theorem dL_law_442 : decode cL_law 442 = .ok (.invokevirtual 180, 3) := by decide +kernel
theorem dL_law_445 : decode cL_law 445 = .ok (.if_icmp .eq 2913, 3) := by decide +kernel
theorem dL_law_448 : decode cL_law 448 = .ok (.iconst 0, 1) := by decide +kernel
theorem dL_law_449 : decode cL_law 449 = .ok (.ireturn, 1) := by decide +kernel
theorem dL_law_450 : decode cL_law 450 = .ok (.aload_n 1, 1) := by decide +kernel
theorem dL_law_451 : decode cL_law 451 = .ok (.invokevirtual 181, 3) := by decide +kernel
theorem dL_law_454 : decode cL_law 454 = .ok (.aload_n 2, 1) := by decide +kernel
theorem dL_law_455 : decode cL_law 455 = .ok (.invokevirtual 184, 3) := by decide +kernel
theorem dL_law_458 : decode cL_law 458 = .ok (.if_icmp .eq 2900, 3) := by decide +kernel
theorem dL_law_461 : decode cL_law 461 = .ok (.iconst 0, 1) := by decide +kernel
theorem dL_law_462 : decode cL_law 462 = .ok (.ireturn, 1) := by decide +kernel
theorem dL_law_463 : decode cL_law 463 = .ok (.aload_n 1, 1) := by decide +kernel
theorem dL_law_464 : decode cL_law 464 = .ok (.invokevirtual 185, 3) := by decide +kernel
theorem dL_law_467 : decode cL_law 467 = .ok (.aload_n 2, 1) := by decide +kernel
theorem dL_law_468 : decode cL_law 468 = .ok (.invokevirtual 188, 3) := by decide +kernel
theorem dL_law_471 : decode cL_law 471 = .ok (.if_icmp .eq 2887, 3) := by decide +kernel
theorem dL_law_474 : decode cL_law 474 = .ok (.iconst 0, 1) := by decide +kernel
theorem dL_law_475 : decode cL_law 475 = .ok (.ireturn, 1) := by decide +kernel
theorem dL_law_476 : decode cL_law 476 = .ok (.aload_n 1, 1) := by decide +kernel
theorem dL_law_477 : decode cL_law 477 = .ok (.invokevirtual 189, 3) := by decide +kernel
theorem dL_law_480 : decode cL_law 480 = .ok (.aload_n 2, 1) := by decide +kernel
theorem dL_law_481 : decode cL_law 481 = .ok (.invokevirtual 192, 3) := by decide +kernel
theorem dL_law_484 : decode cL_law 484 = .ok (.if_icmp .eq 2874, 3) := by decide +kernel
theorem dL_law_487 : decode cL_law 487 = .ok (.iconst 0, 1) := by decide +kernel
theorem dL_law_488 : decode cL_law 488 = .ok (.ireturn, 1) := by decide +kernel
theorem dL_law_489 : decode cL_law 489 = .ok (.aload_n 1, 1) := by decide +kernel
theorem dL_law_490 : decode cL_law 490 = .ok (.aload_n 0, 1) := by decide +kernel
theorem dL_law_491 : decode cL_law 491 = .ok (.iload 5, 2) := by decide +kernel
theorem dL_law_493 : decode cL_law 493 = .ok (.iconst 1, 1) := by decide +kernel
theorem dL_law_494 : decode cL_law 494 = .ok (.iadd, 1) := by decide +kernel
theorem dL_law_495 : decode cL_law 495 = .ok (.iaload, 1) := by decide +kernel
theorem dL_law_496 : decode cL_law 496 = .ok (.aload_n 0, 1) := by decide +kernel
theorem dL_law_497 : decode cL_law 497 = .ok (.iload 5, 2) := by decide +kernel
theorem dL_law_499 : decode cL_law 499 = .ok (.iconst 2, 1) := by decide +kernel
theorem dL_law_500 : decode cL_law 500 = .ok (.iadd, 1) := by decide +kernel
theorem dL_law_501 : decode cL_law 501 = .ok (.iaload, 1) := by decide +kernel
theorem dL_law_502 : decode cL_law 502 = .ok (.aload_n 3, 1) := by decide +kernel
theorem dL_law_503 : decode cL_law 503 = .ok (.invokestatic 193, 3) := by decide +kernel
theorem dL_law_506 : decode cL_law 506 = .ok (.istore 6, 2) := by decide +kernel
theorem dL_law_508 : decode cL_law 508 = .ok (.aload_n 2, 1) := by decide +kernel
theorem dL_law_509 : decode cL_law 509 = .ok (.aload_n 0, 1) := by decide +kernel
theorem dL_law_510 : decode cL_law 510 = .ok (.iload 5, 2) := by decide +kernel
theorem dL_law_512 : decode cL_law 512 = .ok (.iconst 1, 1) := by decide +kernel
theorem dL_law_513 : decode cL_law 513 = .ok (.iadd, 1) := by decide +kernel
theorem dL_law_514 : decode cL_law 514 = .ok (.iaload, 1) := by decide +kernel
theorem dL_law_515 : decode cL_law 515 = .ok (.aload_n 0, 1) := by decide +kernel
theorem dL_law_516 : decode cL_law 516 = .ok (.iload 5, 2) := by decide +kernel
theorem dL_law_518 : decode cL_law 518 = .ok (.iconst 2, 1) := by decide +kernel
theorem dL_law_519 : decode cL_law 519 = .ok (.iadd, 1) := by decide +kernel
theorem dL_law_520 : decode cL_law 520 = .ok (.iaload, 1) := by decide +kernel
theorem dL_law_521 : decode cL_law 521 = .ok (.invokevirtual 196, 3) := by decide +kernel
theorem dL_law_524 : decode cL_law 524 = .ok (.istore 7, 2) := by decide +kernel
theorem dL_law_526 : decode cL_law 526 = .ok (.aload_n 2, 1) := by decide +kernel
theorem dL_law_527 : decode cL_law 527 = .ok (.invokevirtual 174, 3) := by decide +kernel
theorem dL_law_530 : decode cL_law 530 = .ok (.iload 6, 2) := by decide +kernel
theorem dL_law_532 : decode cL_law 532 = .ok (.if_icmp .eq 5, 3) := by decide +kernel
theorem dL_law_535 : decode cL_law 535 = .ok (.iconst 0, 1) := by decide +kernel
theorem dL_law_536 : decode cL_law 536 = .ok (.ireturn, 1) := by decide +kernel
theorem dL_law_537 : decode cL_law 537 = .ok (.iload 6, 2) := by decide +kernel
theorem dL_law_539 : decode cL_law 539 = .ok (.ifCond .ne 15, 3) := by decide +kernel
theorem dL_law_542 : decode cL_law 542 = .ok (.aload_n 3, 1) := by decide +kernel
theorem dL_law_543 : decode cL_law 543 = .ok (.iconst 0, 1) := by decide +kernel
theorem dL_law_544 : decode cL_law 544 = .ok (.laload, 1) := by decide +kernel
theorem dL_law_545 : decode cL_law 545 = .ok (.iload 7, 2) := by decide +kernel
theorem dL_law_547 : decode cL_law 547 = .ok (.i2l, 1) := by decide +kernel
theorem dL_law_548 : decode cL_law 548 = .ok (.lcmp, 1) := by decide +kernel
theorem dL_law_549 : decode cL_law 549 = .ok (.ifCond .eq 5, 3) := by decide +kernel
theorem dL_law_552 : decode cL_law 552 = .ok (.iconst 0, 1) := by decide +kernel
theorem dL_law_553 : decode cL_law 553 = .ok (.ireturn, 1) := by decide +kernel
theorem dL_law_554 : decode cL_law 554 = .ok (.goto 2804, 3) := by decide +kernel
theorem dL_law_557 : decode cL_law 557 = .ok (.aload_n 1, 1) := by decide +kernel
theorem dL_law_558 : decode cL_law 558 = .ok (.aload_n 0, 1) := by decide +kernel
theorem dL_law_559 : decode cL_law 559 = .ok (.iload 5, 2) := by decide +kernel
theorem dL_law_561 : decode cL_law 561 = .ok (.iconst 1, 1) := by decide +kernel
theorem dL_law_562 : decode cL_law 562 = .ok (.iadd, 1) := by decide +kernel
theorem dL_law_563 : decode cL_law 563 = .ok (.iaload, 1) := by decide +kernel
theorem dL_law_564 : decode cL_law 564 = .ok (.aload_n 0, 1) := by decide +kernel
theorem dL_law_565 : decode cL_law 565 = .ok (.iload 5, 2) := by decide +kernel
theorem dL_law_567 : decode cL_law 567 = .ok (.iconst 2, 1) := by decide +kernel
theorem dL_law_568 : decode cL_law 568 = .ok (.iadd, 1) := by decide +kernel
theorem dL_law_569 : decode cL_law 569 = .ok (.iaload, 1) := by decide +kernel
theorem dL_law_570 : decode cL_law 570 = .ok (.aload_n 3, 1) := by decide +kernel
theorem dL_law_571 : decode cL_law 571 = .ok (.invokestatic 197, 3) := by decide +kernel
theorem dL_law_574 : decode cL_law 574 = .ok (.istore 6, 2) := by decide +kernel
theorem dL_law_576 : decode cL_law 576 = .ok (.aload_n 2, 1) := by decide +kernel
theorem dL_law_577 : decode cL_law 577 = .ok (.aload_n 0, 1) := by decide +kernel
theorem dL_law_578 : decode cL_law 578 = .ok (.iload 5, 2) := by decide +kernel
theorem dL_law_580 : decode cL_law 580 = .ok (.iconst 1, 1) := by decide +kernel
theorem dL_law_581 : decode cL_law 581 = .ok (.iadd, 1) := by decide +kernel
theorem dL_law_582 : decode cL_law 582 = .ok (.iaload, 1) := by decide +kernel
theorem dL_law_583 : decode cL_law 583 = .ok (.aload_n 0, 1) := by decide +kernel
theorem dL_law_584 : decode cL_law 584 = .ok (.iload 5, 2) := by decide +kernel
theorem dL_law_586 : decode cL_law 586 = .ok (.iconst 2, 1) := by decide +kernel
theorem dL_law_587 : decode cL_law 587 = .ok (.iadd, 1) := by decide +kernel
theorem dL_law_588 : decode cL_law 588 = .ok (.iaload, 1) := by decide +kernel
theorem dL_law_589 : decode cL_law 589 = .ok (.invokevirtual 199, 3) := by decide +kernel
theorem dL_law_592 : decode cL_law 592 = .ok (.istore 7, 2) := by decide +kernel
theorem dL_law_594 : decode cL_law 594 = .ok (.aload_n 2, 1) := by decide +kernel
theorem dL_law_595 : decode cL_law 595 = .ok (.invokevirtual 174, 3) := by decide +kernel
theorem dL_law_598 : decode cL_law 598 = .ok (.iload 6, 2) := by decide +kernel
theorem dL_law_600 : decode cL_law 600 = .ok (.if_icmp .eq 5, 3) := by decide +kernel
theorem dL_law_603 : decode cL_law 603 = .ok (.iconst 0, 1) := by decide +kernel
theorem dL_law_604 : decode cL_law 604 = .ok (.ireturn, 1) := by decide +kernel
theorem dL_law_605 : decode cL_law 605 = .ok (.iload 6, 2) := by decide +kernel
theorem dL_law_607 : decode cL_law 607 = .ok (.ifCond .ne 15, 3) := by decide +kernel
theorem dL_law_610 : decode cL_law 610 = .ok (.aload_n 3, 1) := by decide +kernel
theorem dL_law_611 : decode cL_law 611 = .ok (.iconst 0, 1) := by decide +kernel
theorem dL_law_612 : decode cL_law 612 = .ok (.laload, 1) := by decide +kernel
theorem dL_law_613 : decode cL_law 613 = .ok (.iload 7, 2) := by decide +kernel
theorem dL_law_615 : decode cL_law 615 = .ok (.i2l, 1) := by decide +kernel
theorem dL_law_616 : decode cL_law 616 = .ok (.lcmp, 1) := by decide +kernel
theorem dL_law_617 : decode cL_law 617 = .ok (.ifCond .eq 5, 3) := by decide +kernel
theorem dL_law_620 : decode cL_law 620 = .ok (.iconst 0, 1) := by decide +kernel
theorem dL_law_621 : decode cL_law 621 = .ok (.ireturn, 1) := by decide +kernel
theorem dL_law_622 : decode cL_law 622 = .ok (.goto 2736, 3) := by decide +kernel
theorem dL_law_625 : decode cL_law 625 = .ok (.aload_n 1, 1) := by decide +kernel
theorem dL_law_626 : decode cL_law 626 = .ok (.aload_n 0, 1) := by decide +kernel
theorem dL_law_627 : decode cL_law 627 = .ok (.iload 5, 2) := by decide +kernel
theorem dL_law_629 : decode cL_law 629 = .ok (.iconst 1, 1) := by decide +kernel
theorem dL_law_630 : decode cL_law 630 = .ok (.iadd, 1) := by decide +kernel
theorem dL_law_631 : decode cL_law 631 = .ok (.iaload, 1) := by decide +kernel
theorem dL_law_632 : decode cL_law 632 = .ok (.aload_n 3, 1) := by decide +kernel
theorem dL_law_633 : decode cL_law 633 = .ok (.invokestatic 200, 3) := by decide +kernel
theorem dL_law_636 : decode cL_law 636 = .ok (.istore 6, 2) := by decide +kernel
theorem dL_law_638 : decode cL_law 638 = .ok (.aload_n 2, 1) := by decide +kernel
theorem dL_law_639 : decode cL_law 639 = .ok (.aload_n 0, 1) := by decide +kernel
theorem dL_law_640 : decode cL_law 640 = .ok (.iload 5, 2) := by decide +kernel
theorem dL_law_642 : decode cL_law 642 = .ok (.iconst 1, 1) := by decide +kernel
theorem dL_law_643 : decode cL_law 643 = .ok (.iadd, 1) := by decide +kernel
theorem dL_law_644 : decode cL_law 644 = .ok (.iaload, 1) := by decide +kernel
theorem dL_law_645 : decode cL_law 645 = .ok (.invokevirtual 202, 3) := by decide +kernel
theorem dL_law_648 : decode cL_law 648 = .ok (.istore 7, 2) := by decide +kernel
theorem dL_law_650 : decode cL_law 650 = .ok (.aload_n 2, 1) := by decide +kernel
theorem dL_law_651 : decode cL_law 651 = .ok (.invokevirtual 174, 3) := by decide +kernel
theorem dL_law_654 : decode cL_law 654 = .ok (.iload 6, 2) := by decide +kernel
theorem dL_law_656 : decode cL_law 656 = .ok (.if_icmp .eq 5, 3) := by decide +kernel
theorem dL_law_659 : decode cL_law 659 = .ok (.iconst 0, 1) := by decide +kernel
theorem dL_law_660 : decode cL_law 660 = .ok (.ireturn, 1) := by decide +kernel
theorem dL_law_661 : decode cL_law 661 = .ok (.iload 6, 2) := by decide +kernel
theorem dL_law_663 : decode cL_law 663 = .ok (.ifCond .ne 15, 3) := by decide +kernel
theorem dL_law_666 : decode cL_law 666 = .ok (.aload_n 3, 1) := by decide +kernel
theorem dL_law_667 : decode cL_law 667 = .ok (.iconst 0, 1) := by decide +kernel
theorem dL_law_668 : decode cL_law 668 = .ok (.laload, 1) := by decide +kernel
theorem dL_law_669 : decode cL_law 669 = .ok (.iload 7, 2) := by decide +kernel
theorem dL_law_671 : decode cL_law 671 = .ok (.i2l, 1) := by decide +kernel
theorem dL_law_672 : decode cL_law 672 = .ok (.lcmp, 1) := by decide +kernel
theorem dL_law_673 : decode cL_law 673 = .ok (.ifCond .eq 5, 3) := by decide +kernel
theorem dL_law_676 : decode cL_law 676 = .ok (.iconst 0, 1) := by decide +kernel
theorem dL_law_677 : decode cL_law 677 = .ok (.ireturn, 1) := by decide +kernel
theorem dL_law_678 : decode cL_law 678 = .ok (.goto 2680, 3) := by decide +kernel
theorem dL_law_681 : decode cL_law 681 = .ok (.aload_n 1, 1) := by decide +kernel
theorem dL_law_682 : decode cL_law 682 = .ok (.aload_n 0, 1) := by decide +kernel
theorem dL_law_683 : decode cL_law 683 = .ok (.iload 5, 2) := by decide +kernel
theorem dL_law_685 : decode cL_law 685 = .ok (.iconst 1, 1) := by decide +kernel
theorem dL_law_686 : decode cL_law 686 = .ok (.iadd, 1) := by decide +kernel
theorem dL_law_687 : decode cL_law 687 = .ok (.iaload, 1) := by decide +kernel
theorem dL_law_688 : decode cL_law 688 = .ok (.aload_n 0, 1) := by decide +kernel
theorem dL_law_689 : decode cL_law 689 = .ok (.iload 5, 2) := by decide +kernel
theorem dL_law_691 : decode cL_law 691 = .ok (.iconst 2, 1) := by decide +kernel
theorem dL_law_692 : decode cL_law 692 = .ok (.iadd, 1) := by decide +kernel
theorem dL_law_693 : decode cL_law 693 = .ok (.iaload, 1) := by decide +kernel
theorem dL_law_694 : decode cL_law 694 = .ok (.aload_n 3, 1) := by decide +kernel
theorem dL_law_695 : decode cL_law 695 = .ok (.invokestatic 203, 3) := by decide +kernel
theorem dL_law_698 : decode cL_law 698 = .ok (.istore 6, 2) := by decide +kernel
theorem dL_law_700 : decode cL_law 700 = .ok (.aload_n 2, 1) := by decide +kernel
theorem dL_law_701 : decode cL_law 701 = .ok (.aload_n 0, 1) := by decide +kernel
theorem dL_law_702 : decode cL_law 702 = .ok (.iload 5, 2) := by decide +kernel
theorem dL_law_704 : decode cL_law 704 = .ok (.iconst 1, 1) := by decide +kernel
theorem dL_law_705 : decode cL_law 705 = .ok (.iadd, 1) := by decide +kernel
theorem dL_law_706 : decode cL_law 706 = .ok (.iaload, 1) := by decide +kernel
theorem dL_law_707 : decode cL_law 707 = .ok (.aload_n 0, 1) := by decide +kernel
theorem dL_law_708 : decode cL_law 708 = .ok (.iload 5, 2) := by decide +kernel
theorem dL_law_710 : decode cL_law 710 = .ok (.iconst 2, 1) := by decide +kernel
theorem dL_law_711 : decode cL_law 711 = .ok (.iadd, 1) := by decide +kernel
theorem dL_law_712 : decode cL_law 712 = .ok (.iaload, 1) := by decide +kernel
theorem dL_law_713 : decode cL_law 713 = .ok (.invokevirtual 205, 3) := by decide +kernel
theorem dL_law_716 : decode cL_law 716 = .ok (.istore 7, 2) := by decide +kernel
theorem dL_law_718 : decode cL_law 718 = .ok (.aload_n 2, 1) := by decide +kernel
theorem dL_law_719 : decode cL_law 719 = .ok (.invokevirtual 174, 3) := by decide +kernel
theorem dL_law_722 : decode cL_law 722 = .ok (.iload 6, 2) := by decide +kernel
theorem dL_law_724 : decode cL_law 724 = .ok (.if_icmp .eq 5, 3) := by decide +kernel
theorem dL_law_727 : decode cL_law 727 = .ok (.iconst 0, 1) := by decide +kernel
theorem dL_law_728 : decode cL_law 728 = .ok (.ireturn, 1) := by decide +kernel
theorem dL_law_729 : decode cL_law 729 = .ok (.iload 6, 2) := by decide +kernel
theorem dL_law_731 : decode cL_law 731 = .ok (.ifCond .ne 15, 3) := by decide +kernel
theorem dL_law_734 : decode cL_law 734 = .ok (.aload_n 3, 1) := by decide +kernel
theorem dL_law_735 : decode cL_law 735 = .ok (.iconst 0, 1) := by decide +kernel
theorem dL_law_736 : decode cL_law 736 = .ok (.laload, 1) := by decide +kernel
theorem dL_law_737 : decode cL_law 737 = .ok (.iload 7, 2) := by decide +kernel
theorem dL_law_739 : decode cL_law 739 = .ok (.i2l, 1) := by decide +kernel
theorem dL_law_740 : decode cL_law 740 = .ok (.lcmp, 1) := by decide +kernel
theorem dL_law_741 : decode cL_law 741 = .ok (.ifCond .eq 5, 3) := by decide +kernel
theorem dL_law_744 : decode cL_law 744 = .ok (.iconst 0, 1) := by decide +kernel
theorem dL_law_745 : decode cL_law 745 = .ok (.ireturn, 1) := by decide +kernel
theorem dL_law_746 : decode cL_law 746 = .ok (.goto 2612, 3) := by decide +kernel
theorem dL_law_749 : decode cL_law 749 = .ok (.aload_n 1, 1) := by decide +kernel
theorem dL_law_750 : decode cL_law 750 = .ok (.aload_n 0, 1) := by decide +kernel
theorem dL_law_751 : decode cL_law 751 = .ok (.iload 5, 2) := by decide +kernel
theorem dL_law_753 : decode cL_law 753 = .ok (.iconst 1, 1) := by decide +kernel
theorem dL_law_754 : decode cL_law 754 = .ok (.iadd, 1) := by decide +kernel
theorem dL_law_755 : decode cL_law 755 = .ok (.iaload, 1) := by decide +kernel
theorem dL_law_756 : decode cL_law 756 = .ok (.aload_n 0, 1) := by decide +kernel
theorem dL_law_757 : decode cL_law 757 = .ok (.iload 5, 2) := by decide +kernel
theorem dL_law_759 : decode cL_law 759 = .ok (.iconst 2, 1) := by decide +kernel
theorem dL_law_760 : decode cL_law 760 = .ok (.iadd, 1) := by decide +kernel
theorem dL_law_761 : decode cL_law 761 = .ok (.iaload, 1) := by decide +kernel
theorem dL_law_762 : decode cL_law 762 = .ok (.aload_n 3, 1) := by decide +kernel
theorem dL_law_763 : decode cL_law 763 = .ok (.invokestatic 206, 3) := by decide +kernel
theorem dL_law_766 : decode cL_law 766 = .ok (.istore 6, 2) := by decide +kernel
theorem dL_law_768 : decode cL_law 768 = .ok (.aload_n 2, 1) := by decide +kernel
theorem dL_law_769 : decode cL_law 769 = .ok (.aload_n 0, 1) := by decide +kernel
theorem dL_law_770 : decode cL_law 770 = .ok (.iload 5, 2) := by decide +kernel
theorem dL_law_772 : decode cL_law 772 = .ok (.iconst 1, 1) := by decide +kernel
theorem dL_law_773 : decode cL_law 773 = .ok (.iadd, 1) := by decide +kernel
theorem dL_law_774 : decode cL_law 774 = .ok (.iaload, 1) := by decide +kernel
theorem dL_law_775 : decode cL_law 775 = .ok (.aload_n 0, 1) := by decide +kernel
theorem dL_law_776 : decode cL_law 776 = .ok (.iload 5, 2) := by decide +kernel
theorem dL_law_778 : decode cL_law 778 = .ok (.iconst 2, 1) := by decide +kernel
theorem dL_law_779 : decode cL_law 779 = .ok (.iadd, 1) := by decide +kernel
theorem dL_law_780 : decode cL_law 780 = .ok (.iaload, 1) := by decide +kernel
theorem dL_law_781 : decode cL_law 781 = .ok (.invokevirtual 208, 3) := by decide +kernel
theorem dL_law_784 : decode cL_law 784 = .ok (.istore 7, 2) := by decide +kernel
theorem dL_law_786 : decode cL_law 786 = .ok (.aload_n 2, 1) := by decide +kernel
theorem dL_law_787 : decode cL_law 787 = .ok (.invokevirtual 174, 3) := by decide +kernel
theorem dL_law_790 : decode cL_law 790 = .ok (.iload 6, 2) := by decide +kernel
theorem dL_law_792 : decode cL_law 792 = .ok (.if_icmp .eq 5, 3) := by decide +kernel
theorem dL_law_795 : decode cL_law 795 = .ok (.iconst 0, 1) := by decide +kernel
theorem dL_law_796 : decode cL_law 796 = .ok (.ireturn, 1) := by decide +kernel
theorem dL_law_797 : decode cL_law 797 = .ok (.iload 6, 2) := by decide +kernel
theorem dL_law_799 : decode cL_law 799 = .ok (.ifCond .ne 15, 3) := by decide +kernel
theorem dL_law_802 : decode cL_law 802 = .ok (.aload_n 3, 1) := by decide +kernel
theorem dL_law_803 : decode cL_law 803 = .ok (.iconst 0, 1) := by decide +kernel
theorem dL_law_804 : decode cL_law 804 = .ok (.laload, 1) := by decide +kernel
theorem dL_law_805 : decode cL_law 805 = .ok (.iload 7, 2) := by decide +kernel
theorem dL_law_807 : decode cL_law 807 = .ok (.i2l, 1) := by decide +kernel
theorem dL_law_808 : decode cL_law 808 = .ok (.lcmp, 1) := by decide +kernel
theorem dL_law_809 : decode cL_law 809 = .ok (.ifCond .eq 5, 3) := by decide +kernel
theorem dL_law_812 : decode cL_law 812 = .ok (.iconst 0, 1) := by decide +kernel
theorem dL_law_813 : decode cL_law 813 = .ok (.ireturn, 1) := by decide +kernel
theorem dL_law_814 : decode cL_law 814 = .ok (.goto 2544, 3) := by decide +kernel
theorem dL_law_817 : decode cL_law 817 = .ok (.aload_n 1, 1) := by decide +kernel
theorem dL_law_818 : decode cL_law 818 = .ok (.aload_n 0, 1) := by decide +kernel
theorem dL_law_819 : decode cL_law 819 = .ok (.iload 5, 2) := by decide +kernel
theorem dL_law_821 : decode cL_law 821 = .ok (.iconst 1, 1) := by decide +kernel
theorem dL_law_822 : decode cL_law 822 = .ok (.iadd, 1) := by decide +kernel
theorem dL_law_823 : decode cL_law 823 = .ok (.iaload, 1) := by decide +kernel
theorem dL_law_824 : decode cL_law 824 = .ok (.aload_n 3, 1) := by decide +kernel
theorem dL_law_825 : decode cL_law 825 = .ok (.invokestatic 209, 3) := by decide +kernel
theorem dL_law_828 : decode cL_law 828 = .ok (.istore 6, 2) := by decide +kernel
theorem dL_law_830 : decode cL_law 830 = .ok (.aload_n 2, 1) := by decide +kernel
theorem dL_law_831 : decode cL_law 831 = .ok (.aload_n 0, 1) := by decide +kernel
theorem dL_law_832 : decode cL_law 832 = .ok (.iload 5, 2) := by decide +kernel
theorem dL_law_834 : decode cL_law 834 = .ok (.iconst 1, 1) := by decide +kernel
theorem dL_law_835 : decode cL_law 835 = .ok (.iadd, 1) := by decide +kernel
theorem dL_law_836 : decode cL_law 836 = .ok (.iaload, 1) := by decide +kernel
theorem dL_law_837 : decode cL_law 837 = .ok (.invokevirtual 211, 3) := by decide +kernel
theorem dL_law_840 : decode cL_law 840 = .ok (.istore 7, 2) := by decide +kernel
theorem dL_law_842 : decode cL_law 842 = .ok (.aload_n 2, 1) := by decide +kernel
theorem dL_law_843 : decode cL_law 843 = .ok (.invokevirtual 174, 3) := by decide +kernel
theorem dL_law_846 : decode cL_law 846 = .ok (.iload 6, 2) := by decide +kernel
theorem dL_law_848 : decode cL_law 848 = .ok (.if_icmp .eq 5, 3) := by decide +kernel
theorem dL_law_851 : decode cL_law 851 = .ok (.iconst 0, 1) := by decide +kernel
theorem dL_law_852 : decode cL_law 852 = .ok (.ireturn, 1) := by decide +kernel
theorem dL_law_853 : decode cL_law 853 = .ok (.iload 6, 2) := by decide +kernel
theorem dL_law_855 : decode cL_law 855 = .ok (.ifCond .ne 15, 3) := by decide +kernel
theorem dL_law_858 : decode cL_law 858 = .ok (.aload_n 3, 1) := by decide +kernel
theorem dL_law_859 : decode cL_law 859 = .ok (.iconst 0, 1) := by decide +kernel
theorem dL_law_860 : decode cL_law 860 = .ok (.laload, 1) := by decide +kernel
theorem dL_law_861 : decode cL_law 861 = .ok (.iload 7, 2) := by decide +kernel
theorem dL_law_863 : decode cL_law 863 = .ok (.i2l, 1) := by decide +kernel
theorem dL_law_864 : decode cL_law 864 = .ok (.lcmp, 1) := by decide +kernel
theorem dL_law_865 : decode cL_law 865 = .ok (.ifCond .eq 5, 3) := by decide +kernel
theorem dL_law_868 : decode cL_law 868 = .ok (.iconst 0, 1) := by decide +kernel
theorem dL_law_869 : decode cL_law 869 = .ok (.ireturn, 1) := by decide +kernel
theorem dL_law_870 : decode cL_law 870 = .ok (.goto 2488, 3) := by decide +kernel
theorem dL_law_873 : decode cL_law 873 = .ok (.aload_n 1, 1) := by decide +kernel
theorem dL_law_874 : decode cL_law 874 = .ok (.aload_n 0, 1) := by decide +kernel
theorem dL_law_875 : decode cL_law 875 = .ok (.iload 5, 2) := by decide +kernel
theorem dL_law_877 : decode cL_law 877 = .ok (.iconst 1, 1) := by decide +kernel
theorem dL_law_878 : decode cL_law 878 = .ok (.iadd, 1) := by decide +kernel
theorem dL_law_879 : decode cL_law 879 = .ok (.iaload, 1) := by decide +kernel
theorem dL_law_880 : decode cL_law 880 = .ok (.aload_n 0, 1) := by decide +kernel
theorem dL_law_881 : decode cL_law 881 = .ok (.iload 5, 2) := by decide +kernel
theorem dL_law_883 : decode cL_law 883 = .ok (.iconst 2, 1) := by decide +kernel
theorem dL_law_884 : decode cL_law 884 = .ok (.iadd, 1) := by decide +kernel
theorem dL_law_885 : decode cL_law 885 = .ok (.iaload, 1) := by decide +kernel
theorem dL_law_886 : decode cL_law 886 = .ok (.aload_n 3, 1) := by decide +kernel
theorem dL_law_887 : decode cL_law 887 = .ok (.invokestatic 212, 3) := by decide +kernel
theorem dL_law_890 : decode cL_law 890 = .ok (.istore 6, 2) := by decide +kernel
theorem dL_law_892 : decode cL_law 892 = .ok (.aload_n 2, 1) := by decide +kernel
theorem dL_law_893 : decode cL_law 893 = .ok (.aload_n 0, 1) := by decide +kernel
theorem dL_law_894 : decode cL_law 894 = .ok (.iload 5, 2) := by decide +kernel
theorem dL_law_896 : decode cL_law 896 = .ok (.iconst 1, 1) := by decide +kernel
theorem dL_law_897 : decode cL_law 897 = .ok (.iadd, 1) := by decide +kernel
theorem dL_law_898 : decode cL_law 898 = .ok (.iaload, 1) := by decide +kernel
theorem dL_law_899 : decode cL_law 899 = .ok (.aload_n 0, 1) := by decide +kernel
theorem dL_law_900 : decode cL_law 900 = .ok (.iload 5, 2) := by decide +kernel
theorem dL_law_902 : decode cL_law 902 = .ok (.iconst 2, 1) := by decide +kernel
theorem dL_law_903 : decode cL_law 903 = .ok (.iadd, 1) := by decide +kernel
theorem dL_law_904 : decode cL_law 904 = .ok (.iaload, 1) := by decide +kernel
theorem dL_law_905 : decode cL_law 905 = .ok (.invokevirtual 214, 3) := by decide +kernel
theorem dL_law_908 : decode cL_law 908 = .ok (.istore 7, 2) := by decide +kernel
theorem dL_law_910 : decode cL_law 910 = .ok (.aload_n 2, 1) := by decide +kernel
theorem dL_law_911 : decode cL_law 911 = .ok (.invokevirtual 174, 3) := by decide +kernel
theorem dL_law_914 : decode cL_law 914 = .ok (.iload 6, 2) := by decide +kernel
theorem dL_law_916 : decode cL_law 916 = .ok (.if_icmp .eq 5, 3) := by decide +kernel
theorem dL_law_919 : decode cL_law 919 = .ok (.iconst 0, 1) := by decide +kernel
theorem dL_law_920 : decode cL_law 920 = .ok (.ireturn, 1) := by decide +kernel
theorem dL_law_921 : decode cL_law 921 = .ok (.iload 6, 2) := by decide +kernel
theorem dL_law_923 : decode cL_law 923 = .ok (.ifCond .ne 15, 3) := by decide +kernel
theorem dL_law_926 : decode cL_law 926 = .ok (.aload_n 3, 1) := by decide +kernel
theorem dL_law_927 : decode cL_law 927 = .ok (.iconst 0, 1) := by decide +kernel
theorem dL_law_928 : decode cL_law 928 = .ok (.laload, 1) := by decide +kernel
theorem dL_law_929 : decode cL_law 929 = .ok (.iload 7, 2) := by decide +kernel
theorem dL_law_931 : decode cL_law 931 = .ok (.i2l, 1) := by decide +kernel
theorem dL_law_932 : decode cL_law 932 = .ok (.lcmp, 1) := by decide +kernel
theorem dL_law_933 : decode cL_law 933 = .ok (.ifCond .eq 5, 3) := by decide +kernel
theorem dL_law_936 : decode cL_law 936 = .ok (.iconst 0, 1) := by decide +kernel
theorem dL_law_937 : decode cL_law 937 = .ok (.ireturn, 1) := by decide +kernel
theorem dL_law_938 : decode cL_law 938 = .ok (.goto 2420, 3) := by decide +kernel
theorem dL_law_941 : decode cL_law 941 = .ok (.aload_n 1, 1) := by decide +kernel
theorem dL_law_942 : decode cL_law 942 = .ok (.aload_n 0, 1) := by decide +kernel
theorem dL_law_943 : decode cL_law 943 = .ok (.iload 5, 2) := by decide +kernel
theorem dL_law_945 : decode cL_law 945 = .ok (.iconst 1, 1) := by decide +kernel
theorem dL_law_946 : decode cL_law 946 = .ok (.iadd, 1) := by decide +kernel
theorem dL_law_947 : decode cL_law 947 = .ok (.iaload, 1) := by decide +kernel
theorem dL_law_948 : decode cL_law 948 = .ok (.aload_n 3, 1) := by decide +kernel
theorem dL_law_949 : decode cL_law 949 = .ok (.invokestatic 215, 3) := by decide +kernel
theorem dL_law_952 : decode cL_law 952 = .ok (.istore 6, 2) := by decide +kernel
theorem dL_law_954 : decode cL_law 954 = .ok (.aload_n 2, 1) := by decide +kernel
theorem dL_law_955 : decode cL_law 955 = .ok (.aload_n 0, 1) := by decide +kernel
theorem dL_law_956 : decode cL_law 956 = .ok (.iload 5, 2) := by decide +kernel
theorem dL_law_958 : decode cL_law 958 = .ok (.iconst 1, 1) := by decide +kernel
theorem dL_law_959 : decode cL_law 959 = .ok (.iadd, 1) := by decide +kernel
theorem dL_law_960 : decode cL_law 960 = .ok (.iaload, 1) := by decide +kernel
theorem dL_law_961 : decode cL_law 961 = .ok (.invokevirtual 217, 3) := by decide +kernel
theorem dL_law_964 : decode cL_law 964 = .ok (.istore 7, 2) := by decide +kernel
theorem dL_law_966 : decode cL_law 966 = .ok (.aload_n 2, 1) := by decide +kernel
theorem dL_law_967 : decode cL_law 967 = .ok (.invokevirtual 174, 3) := by decide +kernel
theorem dL_law_970 : decode cL_law 970 = .ok (.iload 6, 2) := by decide +kernel
theorem dL_law_972 : decode cL_law 972 = .ok (.if_icmp .eq 5, 3) := by decide +kernel
theorem dL_law_975 : decode cL_law 975 = .ok (.iconst 0, 1) := by decide +kernel
theorem dL_law_976 : decode cL_law 976 = .ok (.ireturn, 1) := by decide +kernel
theorem dL_law_977 : decode cL_law 977 = .ok (.iload 6, 2) := by decide +kernel
theorem dL_law_979 : decode cL_law 979 = .ok (.ifCond .ne 15, 3) := by decide +kernel
theorem dL_law_982 : decode cL_law 982 = .ok (.aload_n 3, 1) := by decide +kernel
theorem dL_law_983 : decode cL_law 983 = .ok (.iconst 0, 1) := by decide +kernel
theorem dL_law_984 : decode cL_law 984 = .ok (.laload, 1) := by decide +kernel
theorem dL_law_985 : decode cL_law 985 = .ok (.iload 7, 2) := by decide +kernel
theorem dL_law_987 : decode cL_law 987 = .ok (.i2l, 1) := by decide +kernel
theorem dL_law_988 : decode cL_law 988 = .ok (.lcmp, 1) := by decide +kernel
theorem dL_law_989 : decode cL_law 989 = .ok (.ifCond .eq 5, 3) := by decide +kernel
theorem dL_law_992 : decode cL_law 992 = .ok (.iconst 0, 1) := by decide +kernel
theorem dL_law_993 : decode cL_law 993 = .ok (.ireturn, 1) := by decide +kernel
theorem dL_law_994 : decode cL_law 994 = .ok (.goto 2364, 3) := by decide +kernel
theorem dL_law_997 : decode cL_law 997 = .ok (.aload_n 1, 1) := by decide +kernel
theorem dL_law_998 : decode cL_law 998 = .ok (.aload_n 0, 1) := by decide +kernel
theorem dL_law_999 : decode cL_law 999 = .ok (.iload 5, 2) := by decide +kernel
theorem dL_law_1001 : decode cL_law 1001 = .ok (.iconst 1, 1) := by decide +kernel
theorem dL_law_1002 : decode cL_law 1002 = .ok (.iadd, 1) := by decide +kernel
theorem dL_law_1003 : decode cL_law 1003 = .ok (.iaload, 1) := by decide +kernel
theorem dL_law_1004 : decode cL_law 1004 = .ok (.aload_n 3, 1) := by decide +kernel
theorem dL_law_1005 : decode cL_law 1005 = .ok (.invokestatic 218, 3) := by decide +kernel
theorem dL_law_1008 : decode cL_law 1008 = .ok (.istore 6, 2) := by decide +kernel
theorem dL_law_1010 : decode cL_law 1010 = .ok (.aload_n 2, 1) := by decide +kernel
theorem dL_law_1011 : decode cL_law 1011 = .ok (.aload_n 0, 1) := by decide +kernel
theorem dL_law_1012 : decode cL_law 1012 = .ok (.iload 5, 2) := by decide +kernel
theorem dL_law_1014 : decode cL_law 1014 = .ok (.iconst 1, 1) := by decide +kernel
theorem dL_law_1015 : decode cL_law 1015 = .ok (.iadd, 1) := by decide +kernel
theorem dL_law_1016 : decode cL_law 1016 = .ok (.iaload, 1) := by decide +kernel
theorem dL_law_1017 : decode cL_law 1017 = .ok (.invokevirtual 220, 3) := by decide +kernel
theorem dL_law_1020 : decode cL_law 1020 = .ok (.istore 7, 2) := by decide +kernel
theorem dL_law_1022 : decode cL_law 1022 = .ok (.aload_n 2, 1) := by decide +kernel
theorem dL_law_1023 : decode cL_law 1023 = .ok (.invokevirtual 174, 3) := by decide +kernel
theorem dL_law_1026 : decode cL_law 1026 = .ok (.iload 6, 2) := by decide +kernel
theorem dL_law_1028 : decode cL_law 1028 = .ok (.if_icmp .eq 5, 3) := by decide +kernel
theorem dL_law_1031 : decode cL_law 1031 = .ok (.iconst 0, 1) := by decide +kernel
theorem dL_law_1032 : decode cL_law 1032 = .ok (.ireturn, 1) := by decide +kernel
theorem dL_law_1033 : decode cL_law 1033 = .ok (.iload 6, 2) := by decide +kernel
theorem dL_law_1035 : decode cL_law 1035 = .ok (.ifCond .ne 15, 3) := by decide +kernel
theorem dL_law_1038 : decode cL_law 1038 = .ok (.aload_n 3, 1) := by decide +kernel
theorem dL_law_1039 : decode cL_law 1039 = .ok (.iconst 0, 1) := by decide +kernel
theorem dL_law_1040 : decode cL_law 1040 = .ok (.laload, 1) := by decide +kernel
theorem dL_law_1041 : decode cL_law 1041 = .ok (.iload 7, 2) := by decide +kernel
theorem dL_law_1043 : decode cL_law 1043 = .ok (.i2l, 1) := by decide +kernel
theorem dL_law_1044 : decode cL_law 1044 = .ok (.lcmp, 1) := by decide +kernel
theorem dL_law_1045 : decode cL_law 1045 = .ok (.ifCond .eq 5, 3) := by decide +kernel
theorem dL_law_1048 : decode cL_law 1048 = .ok (.iconst 0, 1) := by decide +kernel
theorem dL_law_1049 : decode cL_law 1049 = .ok (.ireturn, 1) := by decide +kernel
theorem dL_law_1050 : decode cL_law 1050 = .ok (.goto 2308, 3) := by decide +kernel
theorem dL_law_1053 : decode cL_law 1053 = .ok (.aload_n 1, 1) := by decide +kernel
theorem dL_law_1054 : decode cL_law 1054 = .ok (.aload_n 0, 1) := by decide +kernel
theorem dL_law_1055 : decode cL_law 1055 = .ok (.iload 5, 2) := by decide +kernel
theorem dL_law_1057 : decode cL_law 1057 = .ok (.iconst 1, 1) := by decide +kernel
theorem dL_law_1058 : decode cL_law 1058 = .ok (.iadd, 1) := by decide +kernel
theorem dL_law_1059 : decode cL_law 1059 = .ok (.iaload, 1) := by decide +kernel
theorem dL_law_1060 : decode cL_law 1060 = .ok (.aload_n 3, 1) := by decide +kernel
theorem dL_law_1061 : decode cL_law 1061 = .ok (.invokestatic 221, 3) := by decide +kernel
theorem dL_law_1064 : decode cL_law 1064 = .ok (.istore 6, 2) := by decide +kernel
theorem dL_law_1066 : decode cL_law 1066 = .ok (.aload_n 2, 1) := by decide +kernel
theorem dL_law_1067 : decode cL_law 1067 = .ok (.aload_n 0, 1) := by decide +kernel
theorem dL_law_1068 : decode cL_law 1068 = .ok (.iload 5, 2) := by decide +kernel
theorem dL_law_1070 : decode cL_law 1070 = .ok (.iconst 1, 1) := by decide +kernel
theorem dL_law_1071 : decode cL_law 1071 = .ok (.iadd, 1) := by decide +kernel
theorem dL_law_1072 : decode cL_law 1072 = .ok (.iaload, 1) := by decide +kernel
theorem dL_law_1073 : decode cL_law 1073 = .ok (.invokevirtual 223, 3) := by decide +kernel
theorem dL_law_1076 : decode cL_law 1076 = .ok (.istore 7, 2) := by decide +kernel
theorem dL_law_1078 : decode cL_law 1078 = .ok (.aload_n 2, 1) := by decide +kernel
theorem dL_law_1079 : decode cL_law 1079 = .ok (.invokevirtual 174, 3) := by decide +kernel
theorem dL_law_1082 : decode cL_law 1082 = .ok (.iload 6, 2) := by decide +kernel
theorem dL_law_1084 : decode cL_law 1084 = .ok (.if_icmp .eq 5, 3) := by decide +kernel
theorem dL_law_1087 : decode cL_law 1087 = .ok (.iconst 0, 1) := by decide +kernel
theorem dL_law_1088 : decode cL_law 1088 = .ok (.ireturn, 1) := by decide +kernel
theorem dL_law_1089 : decode cL_law 1089 = .ok (.iload 6, 2) := by decide +kernel
theorem dL_law_1091 : decode cL_law 1091 = .ok (.ifCond .ne 15, 3) := by decide +kernel
theorem dL_law_1094 : decode cL_law 1094 = .ok (.aload_n 3, 1) := by decide +kernel
theorem dL_law_1095 : decode cL_law 1095 = .ok (.iconst 0, 1) := by decide +kernel
theorem dL_law_1096 : decode cL_law 1096 = .ok (.laload, 1) := by decide +kernel
theorem dL_law_1097 : decode cL_law 1097 = .ok (.iload 7, 2) := by decide +kernel
theorem dL_law_1099 : decode cL_law 1099 = .ok (.i2l, 1) := by decide +kernel
theorem dL_law_1100 : decode cL_law 1100 = .ok (.lcmp, 1) := by decide +kernel
theorem dL_law_1101 : decode cL_law 1101 = .ok (.ifCond .eq 5, 3) := by decide +kernel
theorem dL_law_1104 : decode cL_law 1104 = .ok (.iconst 0, 1) := by decide +kernel
theorem dL_law_1105 : decode cL_law 1105 = .ok (.ireturn, 1) := by decide +kernel
theorem dL_law_1106 : decode cL_law 1106 = .ok (.goto 2252, 3) := by decide +kernel
theorem dL_law_1109 : decode cL_law 1109 = .ok (.aload_n 1, 1) := by decide +kernel
theorem dL_law_1110 : decode cL_law 1110 = .ok (.aload_n 0, 1) := by decide +kernel
theorem dL_law_1111 : decode cL_law 1111 = .ok (.iload 5, 2) := by decide +kernel
theorem dL_law_1113 : decode cL_law 1113 = .ok (.iconst 1, 1) := by decide +kernel
theorem dL_law_1114 : decode cL_law 1114 = .ok (.iadd, 1) := by decide +kernel
theorem dL_law_1115 : decode cL_law 1115 = .ok (.iaload, 1) := by decide +kernel
theorem dL_law_1116 : decode cL_law 1116 = .ok (.aload_n 0, 1) := by decide +kernel
theorem dL_law_1117 : decode cL_law 1117 = .ok (.iload 5, 2) := by decide +kernel
theorem dL_law_1119 : decode cL_law 1119 = .ok (.iconst 2, 1) := by decide +kernel
theorem dL_law_1120 : decode cL_law 1120 = .ok (.iadd, 1) := by decide +kernel
theorem dL_law_1121 : decode cL_law 1121 = .ok (.iaload, 1) := by decide +kernel
theorem dL_law_1122 : decode cL_law 1122 = .ok (.aload_n 3, 1) := by decide +kernel
theorem dL_law_1123 : decode cL_law 1123 = .ok (.invokestatic 224, 3) := by decide +kernel
theorem dL_law_1126 : decode cL_law 1126 = .ok (.istore 6, 2) := by decide +kernel
theorem dL_law_1128 : decode cL_law 1128 = .ok (.aload_n 2, 1) := by decide +kernel
theorem dL_law_1129 : decode cL_law 1129 = .ok (.aload_n 0, 1) := by decide +kernel
theorem dL_law_1130 : decode cL_law 1130 = .ok (.iload 5, 2) := by decide +kernel
theorem dL_law_1132 : decode cL_law 1132 = .ok (.iconst 1, 1) := by decide +kernel
theorem dL_law_1133 : decode cL_law 1133 = .ok (.iadd, 1) := by decide +kernel
theorem dL_law_1134 : decode cL_law 1134 = .ok (.iaload, 1) := by decide +kernel
theorem dL_law_1135 : decode cL_law 1135 = .ok (.aload_n 0, 1) := by decide +kernel
theorem dL_law_1136 : decode cL_law 1136 = .ok (.iload 5, 2) := by decide +kernel
theorem dL_law_1138 : decode cL_law 1138 = .ok (.iconst 2, 1) := by decide +kernel
theorem dL_law_1139 : decode cL_law 1139 = .ok (.iadd, 1) := by decide +kernel
theorem dL_law_1140 : decode cL_law 1140 = .ok (.iaload, 1) := by decide +kernel
theorem dL_law_1141 : decode cL_law 1141 = .ok (.invokevirtual 226, 3) := by decide +kernel
theorem dL_law_1144 : decode cL_law 1144 = .ok (.lstore 7, 2) := by decide +kernel
theorem dL_law_1146 : decode cL_law 1146 = .ok (.aload_n 2, 1) := by decide +kernel
theorem dL_law_1147 : decode cL_law 1147 = .ok (.invokevirtual 174, 3) := by decide +kernel
theorem dL_law_1150 : decode cL_law 1150 = .ok (.iload 6, 2) := by decide +kernel
theorem dL_law_1152 : decode cL_law 1152 = .ok (.if_icmp .eq 5, 3) := by decide +kernel
theorem dL_law_1155 : decode cL_law 1155 = .ok (.iconst 0, 1) := by decide +kernel
theorem dL_law_1156 : decode cL_law 1156 = .ok (.ireturn, 1) := by decide +kernel
theorem dL_law_1157 : decode cL_law 1157 = .ok (.iload 6, 2) := by decide +kernel
theorem dL_law_1159 : decode cL_law 1159 = .ok (.ifCond .ne 14, 3) := by decide +kernel
theorem dL_law_1162 : decode cL_law 1162 = .ok (.aload_n 3, 1) := by decide +kernel
theorem dL_law_1163 : decode cL_law 1163 = .ok (.iconst 0, 1) := by decide +kernel
theorem dL_law_1164 : decode cL_law 1164 = .ok (.laload, 1) := by decide +kernel
theorem dL_law_1165 : decode cL_law 1165 = .ok (.lload 7, 2) := by decide +kernel
theorem dL_law_1167 : decode cL_law 1167 = .ok (.lcmp, 1) := by decide +kernel
theorem dL_law_1168 : decode cL_law 1168 = .ok (.ifCond .eq 5, 3) := by decide +kernel
theorem dL_law_1171 : decode cL_law 1171 = .ok (.iconst 0, 1) := by decide +kernel
theorem dL_law_1172 : decode cL_law 1172 = .ok (.ireturn, 1) := by decide +kernel
theorem dL_law_1173 : decode cL_law 1173 = .ok (.goto 2185, 3) := by decide +kernel
theorem dL_law_1176 : decode cL_law 1176 = .ok (.aload_n 1, 1) := by decide +kernel
theorem dL_law_1177 : decode cL_law 1177 = .ok (.invokevirtual 227, 3) := by decide +kernel
theorem dL_law_1180 : decode cL_law 1180 = .ok (.aload_n 2, 1) := by decide +kernel
theorem dL_law_1181 : decode cL_law 1181 = .ok (.invokevirtual 230, 3) := by decide +kernel
theorem dL_law_1184 : decode cL_law 1184 = .ok (.if_icmp .eq 2174, 3) := by decide +kernel
theorem dL_law_1187 : decode cL_law 1187 = .ok (.iconst 0, 1) := by decide +kernel
theorem dL_law_1188 : decode cL_law 1188 = .ok (.ireturn, 1) := by decide +kernel
theorem dL_law_1189 : decode cL_law 1189 = .ok (.aload_n 1, 1) := by decide +kernel
theorem dL_law_1190 : decode cL_law 1190 = .ok (.invokevirtual 231, 3) := by decide +kernel
theorem dL_law_1193 : decode cL_law 1193 = .ok (.dstore 6, 2) := by decide +kernel
theorem dL_law_1195 : decode cL_law 1195 = .ok (.aload_n 2, 1) := by decide +kernel
theorem dL_law_1196 : decode cL_law 1196 = .ok (.invokevirtual 235, 3) := by decide +kernel
theorem dL_law_1199 : decode cL_law 1199 = .ok (.dstore 8, 2) := by decide +kernel
theorem dL_law_1201 : decode cL_law 1201 = .ok (.dload 6, 2) := by decide +kernel
theorem dL_law_1203 : decode cL_law 1203 = .ok (.dload 8, 2) := by decide +kernel
theorem dL_law_1205 : decode cL_law 1205 = .ok (.dcmp .l, 1) := by decide +kernel
theorem dL_law_1206 : decode cL_law 1206 = .ok (.ifCond .eq 21, 3) := by decide +kernel
theorem dL_law_1209 : decode cL_law 1209 = .ok (.dload 6, 2) := by decide +kernel
theorem dL_law_1211 : decode cL_law 1211 = .ok (.dload 6, 2) := by decide +kernel
theorem dL_law_1213 : decode cL_law 1213 = .ok (.dcmp .l, 1) := by decide +kernel
theorem dL_law_1214 : decode cL_law 1214 = .ok (.ifCond .eq 11, 3) := by decide +kernel
theorem dL_law_1217 : decode cL_law 1217 = .ok (.dload 8, 2) := by decide +kernel
theorem dL_law_1219 : decode cL_law 1219 = .ok (.dload 8, 2) := by decide +kernel
theorem dL_law_1221 : decode cL_law 1221 = .ok (.dcmp .l, 1) := by decide +kernel
theorem dL_law_1222 : decode cL_law 1222 = .ok (.ifCond .ne 5, 3) := by decide +kernel
theorem dL_law_1225 : decode cL_law 1225 = .ok (.iconst 0, 1) := by decide +kernel
theorem dL_law_1226 : decode cL_law 1226 = .ok (.ireturn, 1) := by decide +kernel
theorem dL_law_1227 : decode cL_law 1227 = .ok (.goto 2131, 3) := by decide +kernel
theorem dL_law_1230 : decode cL_law 1230 = .ok (.aload_n 1, 1) := by decide +kernel
theorem dL_law_1231 : decode cL_law 1231 = .ok (.aload_n 0, 1) := by decide +kernel
theorem dL_law_1232 : decode cL_law 1232 = .ok (.iload 5, 2) := by decide +kernel
theorem dL_law_1234 : decode cL_law 1234 = .ok (.iconst 1, 1) := by decide +kernel
theorem dL_law_1235 : decode cL_law 1235 = .ok (.iadd, 1) := by decide +kernel
theorem dL_law_1236 : decode cL_law 1236 = .ok (.iaload, 1) := by decide +kernel
theorem dL_law_1237 : decode cL_law 1237 = .ok (.aload_n 3, 1) := by decide +kernel
theorem dL_law_1238 : decode cL_law 1238 = .ok (.invokestatic 236, 3) := by decide +kernel
theorem dL_law_1241 : decode cL_law 1241 = .ok (.istore 6, 2) := by decide +kernel
theorem dL_law_1243 : decode cL_law 1243 = .ok (.aload_n 2, 1) := by decide +kernel
theorem dL_law_1244 : decode cL_law 1244 = .ok (.aload_n 0, 1) := by decide +kernel
theorem dL_law_1245 : decode cL_law 1245 = .ok (.iload 5, 2) := by decide +kernel
theorem dL_law_1247 : decode cL_law 1247 = .ok (.iconst 1, 1) := by decide +kernel
theorem dL_law_1248 : decode cL_law 1248 = .ok (.iadd, 1) := by decide +kernel
theorem dL_law_1249 : decode cL_law 1249 = .ok (.iaload, 1) := by decide +kernel
theorem dL_law_1250 : decode cL_law 1250 = .ok (.invokevirtual 238, 3) := by decide +kernel
theorem dL_law_1253 : decode cL_law 1253 = .ok (.istore 7, 2) := by decide +kernel
theorem dL_law_1255 : decode cL_law 1255 = .ok (.aload_n 2, 1) := by decide +kernel
theorem dL_law_1256 : decode cL_law 1256 = .ok (.invokevirtual 174, 3) := by decide +kernel
theorem dL_law_1259 : decode cL_law 1259 = .ok (.iload 6, 2) := by decide +kernel
theorem dL_law_1261 : decode cL_law 1261 = .ok (.if_icmp .eq 5, 3) := by decide +kernel
theorem dL_law_1264 : decode cL_law 1264 = .ok (.iconst 0, 1) := by decide +kernel
theorem dL_law_1265 : decode cL_law 1265 = .ok (.ireturn, 1) := by decide +kernel
theorem dL_law_1266 : decode cL_law 1266 = .ok (.iload 6, 2) := by decide +kernel
theorem dL_law_1268 : decode cL_law 1268 = .ok (.ifCond .ne 15, 3) := by decide +kernel
theorem dL_law_1271 : decode cL_law 1271 = .ok (.aload_n 3, 1) := by decide +kernel
theorem dL_law_1272 : decode cL_law 1272 = .ok (.iconst 0, 1) := by decide +kernel
theorem dL_law_1273 : decode cL_law 1273 = .ok (.laload, 1) := by decide +kernel
theorem dL_law_1274 : decode cL_law 1274 = .ok (.iload 7, 2) := by decide +kernel
theorem dL_law_1276 : decode cL_law 1276 = .ok (.i2l, 1) := by decide +kernel
theorem dL_law_1277 : decode cL_law 1277 = .ok (.lcmp, 1) := by decide +kernel
theorem dL_law_1278 : decode cL_law 1278 = .ok (.ifCond .eq 5, 3) := by decide +kernel
theorem dL_law_1281 : decode cL_law 1281 = .ok (.iconst 0, 1) := by decide +kernel
theorem dL_law_1282 : decode cL_law 1282 = .ok (.ireturn, 1) := by decide +kernel
theorem dL_law_1283 : decode cL_law 1283 = .ok (.goto 2075, 3) := by decide +kernel
theorem dL_law_1286 : decode cL_law 1286 = .ok (.aload_n 1, 1) := by decide +kernel
theorem dL_law_1287 : decode cL_law 1287 = .ok (.aload_n 0, 1) := by decide +kernel
theorem dL_law_1288 : decode cL_law 1288 = .ok (.iload 5, 2) := by decide +kernel
theorem dL_law_1290 : decode cL_law 1290 = .ok (.iconst 1, 1) := by decide +kernel
theorem dL_law_1291 : decode cL_law 1291 = .ok (.iadd, 1) := by decide +kernel
theorem dL_law_1292 : decode cL_law 1292 = .ok (.iaload, 1) := by decide +kernel
theorem dL_law_1293 : decode cL_law 1293 = .ok (.aload_n 3, 1) := by decide +kernel
theorem dL_law_1294 : decode cL_law 1294 = .ok (.invokestatic 239, 3) := by decide +kernel
theorem dL_law_1297 : decode cL_law 1297 = .ok (.istore 6, 2) := by decide +kernel
theorem dL_law_1299 : decode cL_law 1299 = .ok (.aload_n 2, 1) := by decide +kernel
theorem dL_law_1300 : decode cL_law 1300 = .ok (.aload_n 0, 1) := by decide +kernel
theorem dL_law_1301 : decode cL_law 1301 = .ok (.iload 5, 2) := by decide +kernel
theorem dL_law_1303 : decode cL_law 1303 = .ok (.iconst 1, 1) := by decide +kernel
theorem dL_law_1304 : decode cL_law 1304 = .ok (.iadd, 1) := by decide +kernel
theorem dL_law_1305 : decode cL_law 1305 = .ok (.iaload, 1) := by decide +kernel
theorem dL_law_1306 : decode cL_law 1306 = .ok (.invokevirtual 241, 3) := by decide +kernel
theorem dL_law_1309 : decode cL_law 1309 = .ok (.istore 7, 2) := by decide +kernel
theorem dL_law_1311 : decode cL_law 1311 = .ok (.aload_n 2, 1) := by decide +kernel
theorem dL_law_1312 : decode cL_law 1312 = .ok (.invokevirtual 174, 3) := by decide +kernel
theorem dL_law_1315 : decode cL_law 1315 = .ok (.iload 6, 2) := by decide +kernel
theorem dL_law_1317 : decode cL_law 1317 = .ok (.if_icmp .eq 5, 3) := by decide +kernel
theorem dL_law_1320 : decode cL_law 1320 = .ok (.iconst 0, 1) := by decide +kernel
theorem dL_law_1321 : decode cL_law 1321 = .ok (.ireturn, 1) := by decide +kernel
theorem dL_law_1322 : decode cL_law 1322 = .ok (.iload 6, 2) := by decide +kernel
theorem dL_law_1324 : decode cL_law 1324 = .ok (.ifCond .ne 15, 3) := by decide +kernel
theorem dL_law_1327 : decode cL_law 1327 = .ok (.aload_n 3, 1) := by decide +kernel
theorem dL_law_1328 : decode cL_law 1328 = .ok (.iconst 0, 1) := by decide +kernel
theorem dL_law_1329 : decode cL_law 1329 = .ok (.laload, 1) := by decide +kernel
theorem dL_law_1330 : decode cL_law 1330 = .ok (.iload 7, 2) := by decide +kernel
theorem dL_law_1332 : decode cL_law 1332 = .ok (.i2l, 1) := by decide +kernel
theorem dL_law_1333 : decode cL_law 1333 = .ok (.lcmp, 1) := by decide +kernel
theorem dL_law_1334 : decode cL_law 1334 = .ok (.ifCond .eq 5, 3) := by decide +kernel
theorem dL_law_1337 : decode cL_law 1337 = .ok (.iconst 0, 1) := by decide +kernel
theorem dL_law_1338 : decode cL_law 1338 = .ok (.ireturn, 1) := by decide +kernel
theorem dL_law_1339 : decode cL_law 1339 = .ok (.goto 2019, 3) := by decide +kernel
theorem dL_law_1342 : decode cL_law 1342 = .ok (.aload_n 1, 1) := by decide +kernel
theorem dL_law_1343 : decode cL_law 1343 = .ok (.aload_n 0, 1) := by decide +kernel
theorem dL_law_1344 : decode cL_law 1344 = .ok (.iload 5, 2) := by decide +kernel
theorem dL_law_1346 : decode cL_law 1346 = .ok (.iconst 1, 1) := by decide +kernel
theorem dL_law_1347 : decode cL_law 1347 = .ok (.iadd, 1) := by decide +kernel
theorem dL_law_1348 : decode cL_law 1348 = .ok (.iaload, 1) := by decide +kernel
theorem dL_law_1349 : decode cL_law 1349 = .ok (.aload_n 3, 1) := by decide +kernel
theorem dL_law_1350 : decode cL_law 1350 = .ok (.invokestatic 242, 3) := by decide +kernel
theorem dL_law_1353 : decode cL_law 1353 = .ok (.istore 6, 2) := by decide +kernel
theorem dL_law_1355 : decode cL_law 1355 = .ok (.aload_n 2, 1) := by decide +kernel
theorem dL_law_1356 : decode cL_law 1356 = .ok (.aload_n 0, 1) := by decide +kernel
theorem dL_law_1357 : decode cL_law 1357 = .ok (.iload 5, 2) := by decide +kernel
theorem dL_law_1359 : decode cL_law 1359 = .ok (.iconst 1, 1) := by decide +kernel
theorem dL_law_1360 : decode cL_law 1360 = .ok (.iadd, 1) := by decide +kernel
theorem dL_law_1361 : decode cL_law 1361 = .ok (.iaload, 1) := by decide +kernel
theorem dL_law_1362 : decode cL_law 1362 = .ok (.invokevirtual 244, 3) := by decide +kernel
theorem dL_law_1365 : decode cL_law 1365 = .ok (.istore 7, 2) := by decide +kernel
theorem dL_law_1367 : decode cL_law 1367 = .ok (.aload_n 2, 1) := by decide +kernel
theorem dL_law_1368 : decode cL_law 1368 = .ok (.invokevirtual 174, 3) := by decide +kernel
theorem dL_law_1371 : decode cL_law 1371 = .ok (.iload 6, 2) := by decide +kernel
theorem dL_law_1373 : decode cL_law 1373 = .ok (.if_icmp .eq 5, 3) := by decide +kernel
theorem dL_law_1376 : decode cL_law 1376 = .ok (.iconst 0, 1) := by decide +kernel
theorem dL_law_1377 : decode cL_law 1377 = .ok (.ireturn, 1) := by decide +kernel
theorem dL_law_1378 : decode cL_law 1378 = .ok (.iload 6, 2) := by decide +kernel
theorem dL_law_1380 : decode cL_law 1380 = .ok (.ifCond .ne 22, 3) := by decide +kernel
theorem dL_law_1383 : decode cL_law 1383 = .ok (.aload_n 3, 1) := by decide +kernel
theorem dL_law_1384 : decode cL_law 1384 = .ok (.iconst 0, 1) := by decide +kernel
theorem dL_law_1385 : decode cL_law 1385 = .ok (.laload, 1) := by decide +kernel
theorem dL_law_1386 : decode cL_law 1386 = .ok (.iload 7, 2) := by decide +kernel
theorem dL_law_1388 : decode cL_law 1388 = .ok (.ifCond .eq 7, 3) := by decide +kernel
theorem dL_law_1391 : decode cL_law 1391 = .ok (.lconst 1, 1) := by decide +kernel
theorem dL_law_1392 : decode cL_law 1392 = .ok (.goto 4, 3) := by decide +kernel
theorem dL_law_1395 : decode cL_law 1395 = .ok (.lconst 0, 1) := by decide +kernel
theorem dL_law_1396 : decode cL_law 1396 = .ok (.lcmp, 1) := by decide +kernel
theorem dL_law_1397 : decode cL_law 1397 = .ok (.ifCond .eq 5, 3) := by decide +kernel
theorem dL_law_1400 : decode cL_law 1400 = .ok (.iconst 0, 1) := by decide +kernel
theorem dL_law_1401 : decode cL_law 1401 = .ok (.ireturn, 1) := by decide +kernel
theorem dL_law_1402 : decode cL_law 1402 = .ok (.goto 1956, 3) := by decide +kernel
theorem dL_law_1405 : decode cL_law 1405 = .ok (.aload_n 1, 1) := by decide +kernel
theorem dL_law_1406 : decode cL_law 1406 = .ok (.invokevirtual 245, 3) := by decide +kernel
theorem dL_law_1409 : decode cL_law 1409 = .ok (.aload_n 2, 1) := by decide +kernel
theorem dL_law_1410 : decode cL_law 1410 = .ok (.invokevirtual 248, 3) := by decide +kernel
theorem dL_law_1413 : decode cL_law 1413 = .ok (.if_icmp .eq 1945, 3) := by decide +kernel
theorem dL_law_1416 : decode cL_law 1416 = .ok (.iconst 0, 1) := by decide +kernel
theorem dL_law_1417 : decode cL_law 1417 = .ok (.ireturn, 1) := by decide +kernel
theorem dL_law_1418 : decode cL_law 1418 = .ok (.aload_n 1, 1) := by decide +kernel
theorem dL_law_1419 : decode cL_law 1419 = .ok (.aload_n 0, 1) := by decide +kernel
theorem dL_law_1420 : decode cL_law 1420 = .ok (.iload 5, 2) := by decide +kernel
theorem dL_law_1422 : decode cL_law 1422 = .ok (.iconst 1, 1) := by decide +kernel
theorem dL_law_1423 : decode cL_law 1423 = .ok (.iadd, 1) := by decide +kernel
theorem dL_law_1424 : decode cL_law 1424 = .ok (.iaload, 1) := by decide +kernel
theorem dL_law_1425 : decode cL_law 1425 = .ok (.aload_n 3, 1) := by decide +kernel
theorem dL_law_1426 : decode cL_law 1426 = .ok (.invokestatic 249, 3) := by decide +kernel
theorem dL_law_1429 : decode cL_law 1429 = .ok (.istore 6, 2) := by decide +kernel
theorem dL_law_1431 : decode cL_law 1431 = .ok (.aload_n 2, 1) := by decide +kernel
theorem dL_law_1432 : decode cL_law 1432 = .ok (.aload_n 0, 1) := by decide +kernel
theorem dL_law_1433 : decode cL_law 1433 = .ok (.iload 5, 2) := by decide +kernel
theorem dL_law_1435 : decode cL_law 1435 = .ok (.iconst 1, 1) := by decide +kernel
theorem dL_law_1436 : decode cL_law 1436 = .ok (.iadd, 1) := by decide +kernel
theorem dL_law_1437 : decode cL_law 1437 = .ok (.iaload, 1) := by decide +kernel
theorem dL_law_1438 : decode cL_law 1438 = .ok (.invokevirtual 251, 3) := by decide +kernel
theorem dL_law_1441 : decode cL_law 1441 = .ok (.istore 7, 2) := by decide +kernel
theorem dL_law_1443 : decode cL_law 1443 = .ok (.aload_n 2, 1) := by decide +kernel
theorem dL_law_1444 : decode cL_law 1444 = .ok (.invokevirtual 174, 3) := by decide +kernel
theorem dL_law_1447 : decode cL_law 1447 = .ok (.iload 6, 2) := by decide +kernel
theorem dL_law_1449 : decode cL_law 1449 = .ok (.if_icmp .eq 5, 3) := by decide +kernel
theorem dL_law_1452 : decode cL_law 1452 = .ok (.iconst 0, 1) := by decide +kernel
theorem dL_law_1453 : decode cL_law 1453 = .ok (.ireturn, 1) := by decide +kernel
theorem dL_law_1454 : decode cL_law 1454 = .ok (.iload 6, 2) := by decide +kernel
theorem dL_law_1456 : decode cL_law 1456 = .ok (.ifCond .ne 15, 3) := by decide +kernel
theorem dL_law_1459 : decode cL_law 1459 = .ok (.aload_n 3, 1) := by decide +kernel
theorem dL_law_1460 : decode cL_law 1460 = .ok (.iconst 0, 1) := by decide +kernel
theorem dL_law_1461 : decode cL_law 1461 = .ok (.laload, 1) := by decide +kernel
theorem dL_law_1462 : decode cL_law 1462 = .ok (.iload 7, 2) := by decide +kernel
theorem dL_law_1464 : decode cL_law 1464 = .ok (.i2l, 1) := by decide +kernel
theorem dL_law_1465 : decode cL_law 1465 = .ok (.lcmp, 1) := by decide +kernel
theorem dL_law_1466 : decode cL_law 1466 = .ok (.ifCond .eq 5, 3) := by decide +kernel
theorem dL_law_1469 : decode cL_law 1469 = .ok (.iconst 0, 1) := by decide +kernel
theorem dL_law_1470 : decode cL_law 1470 = .ok (.ireturn, 1) := by decide +kernel
theorem dL_law_1471 : decode cL_law 1471 = .ok (.goto 1887, 3) := by decide +kernel
theorem dL_law_1474 : decode cL_law 1474 = .ok (.aload_n 1, 1) := by decide +kernel
theorem dL_law_1475 : decode cL_law 1475 = .ok (.aload_n 0, 1) := by decide +kernel
theorem dL_law_1476 : decode cL_law 1476 = .ok (.iload 5, 2) := by decide +kernel
theorem dL_law_1478 : decode cL_law 1478 = .ok (.iconst 1, 1) := by decide +kernel
theorem dL_law_1479 : decode cL_law 1479 = .ok (.iadd, 1) := by decide +kernel
theorem dL_law_1480 : decode cL_law 1480 = .ok (.iaload, 1) := by decide +kernel
theorem dL_law_1481 : decode cL_law 1481 = .ok (.aload_n 3, 1) := by decide +kernel
theorem dL_law_1482 : decode cL_law 1482 = .ok (.invokestatic 252, 3) := by decide +kernel
theorem dL_law_1485 : decode cL_law 1485 = .ok (.istore 6, 2) := by decide +kernel
theorem dL_law_1487 : decode cL_law 1487 = .ok (.aload_n 2, 1) := by decide +kernel
theorem dL_law_1488 : decode cL_law 1488 = .ok (.aload_n 0, 1) := by decide +kernel
theorem dL_law_1489 : decode cL_law 1489 = .ok (.iload 5, 2) := by decide +kernel
theorem dL_law_1491 : decode cL_law 1491 = .ok (.iconst 1, 1) := by decide +kernel
theorem dL_law_1492 : decode cL_law 1492 = .ok (.iadd, 1) := by decide +kernel
theorem dL_law_1493 : decode cL_law 1493 = .ok (.iaload, 1) := by decide +kernel
theorem dL_law_1494 : decode cL_law 1494 = .ok (.invokevirtual 254, 3) := by decide +kernel
theorem dL_law_1497 : decode cL_law 1497 = .ok (.istore 7, 2) := by decide +kernel
theorem dL_law_1499 : decode cL_law 1499 = .ok (.aload_n 2, 1) := by decide +kernel
theorem dL_law_1500 : decode cL_law 1500 = .ok (.invokevirtual 174, 3) := by decide +kernel
theorem dL_law_1503 : decode cL_law 1503 = .ok (.iload 6, 2) := by decide +kernel
theorem dL_law_1505 : decode cL_law 1505 = .ok (.if_icmp .eq 5, 3) := by decide +kernel
theorem dL_law_1508 : decode cL_law 1508 = .ok (.iconst 0, 1) := by decide +kernel
theorem dL_law_1509 : decode cL_law 1509 = .ok (.ireturn, 1) := by decide +kernel
theorem dL_law_1510 : decode cL_law 1510 = .ok (.iload 6, 2) := by decide +kernel
theorem dL_law_1512 : decode cL_law 1512 = .ok (.ifCond .ne 15, 3) := by decide +kernel
theorem dL_law_1515 : decode cL_law 1515 = .ok (.aload_n 3, 1) := by decide +kernel
theorem dL_law_1516 : decode cL_law 1516 = .ok (.iconst 0, 1) := by decide +kernel
theorem dL_law_1517 : decode cL_law 1517 = .ok (.laload, 1) := by decide +kernel
theorem dL_law_1518 : decode cL_law 1518 = .ok (.iload 7, 2) := by decide +kernel
theorem dL_law_1520 : decode cL_law 1520 = .ok (.i2l, 1) := by decide +kernel
theorem dL_law_1521 : decode cL_law 1521 = .ok (.lcmp, 1) := by decide +kernel
theorem dL_law_1522 : decode cL_law 1522 = .ok (.ifCond .eq 5, 3) := by decide +kernel
theorem dL_law_1525 : decode cL_law 1525 = .ok (.iconst 0, 1) := by decide +kernel
theorem dL_law_1526 : decode cL_law 1526 = .ok (.ireturn, 1) := by decide +kernel
theorem dL_law_1527 : decode cL_law 1527 = .ok (.goto 1831, 3) := by decide +kernel
theorem dL_law_1530 : decode cL_law 1530 = .ok (.aload_n 1, 1) := by decide +kernel
theorem dL_law_1531 : decode cL_law 1531 = .ok (.aload_n 0, 1) := by decide +kernel
theorem dL_law_1532 : decode cL_law 1532 = .ok (.iload 5, 2) := by decide +kernel
theorem dL_law_1534 : decode cL_law 1534 = .ok (.iconst 1, 1) := by decide +kernel
theorem dL_law_1535 : decode cL_law 1535 = .ok (.iadd, 1) := by decide +kernel
theorem dL_law_1536 : decode cL_law 1536 = .ok (.iaload, 1) := by decide +kernel
theorem dL_law_1537 : decode cL_law 1537 = .ok (.aload_n 3, 1) := by decide +kernel
theorem dL_law_1538 : decode cL_law 1538 = .ok (.invokestatic 255, 3) := by decide +kernel
theorem dL_law_1541 : decode cL_law 1541 = .ok (.istore 6, 2) := by decide +kernel
theorem dL_law_1543 : decode cL_law 1543 = .ok (.aload_n 2, 1) := by decide +kernel
theorem dL_law_1544 : decode cL_law 1544 = .ok (.aload_n 0, 1) := by decide +kernel
theorem dL_law_1545 : decode cL_law 1545 = .ok (.iload 5, 2) := by decide +kernel
theorem dL_law_1547 : decode cL_law 1547 = .ok (.iconst 1, 1) := by decide +kernel
theorem dL_law_1548 : decode cL_law 1548 = .ok (.iadd, 1) := by decide +kernel
theorem dL_law_1549 : decode cL_law 1549 = .ok (.iaload, 1) := by decide +kernel
theorem dL_law_1550 : decode cL_law 1550 = .ok (.invokevirtual 257, 3) := by decide +kernel
theorem dL_law_1553 : decode cL_law 1553 = .ok (.istore 7, 2) := by decide +kernel
theorem dL_law_1555 : decode cL_law 1555 = .ok (.aload_n 2, 1) := by decide +kernel
theorem dL_law_1556 : decode cL_law 1556 = .ok (.invokevirtual 174, 3) := by decide +kernel
theorem dL_law_1559 : decode cL_law 1559 = .ok (.iload 6, 2) := by decide +kernel
theorem dL_law_1561 : decode cL_law 1561 = .ok (.if_icmp .eq 5, 3) := by decide +kernel
theorem dL_law_1564 : decode cL_law 1564 = .ok (.iconst 0, 1) := by decide +kernel
theorem dL_law_1565 : decode cL_law 1565 = .ok (.ireturn, 1) := by decide +kernel
theorem dL_law_1566 : decode cL_law 1566 = .ok (.iload 6, 2) := by decide +kernel
theorem dL_law_1568 : decode cL_law 1568 = .ok (.ifCond .ne 15, 3) := by decide +kernel
theorem dL_law_1571 : decode cL_law 1571 = .ok (.aload_n 3, 1) := by decide +kernel
theorem dL_law_1572 : decode cL_law 1572 = .ok (.iconst 0, 1) := by decide +kernel
theorem dL_law_1573 : decode cL_law 1573 = .ok (.laload, 1) := by decide +kernel
theorem dL_law_1574 : decode cL_law 1574 = .ok (.iload 7, 2) := by decide +kernel
theorem dL_law_1576 : decode cL_law 1576 = .ok (.i2l, 1) := by decide +kernel
theorem dL_law_1577 : decode cL_law 1577 = .ok (.lcmp, 1) := by decide +kernel
theorem dL_law_1578 : decode cL_law 1578 = .ok (.ifCond .eq 5, 3) := by decide +kernel
theorem dL_law_1581 : decode cL_law 1581 = .ok (.iconst 0, 1) := by decide +kernel
theorem dL_law_1582 : decode cL_law 1582 = .ok (.ireturn, 1) := by decide +kernel
theorem dL_law_1583 : decode cL_law 1583 = .ok (.goto 1775, 3) := by decide +kernel
theorem dL_law_1586 : decode cL_law 1586 = .ok (.aload_n 1, 1) := by decide +kernel
theorem dL_law_1587 : decode cL_law 1587 = .ok (.aload_n 0, 1) := by decide +kernel
theorem dL_law_1588 : decode cL_law 1588 = .ok (.iload 5, 2) := by decide +kernel
theorem dL_law_1590 : decode cL_law 1590 = .ok (.iconst 1, 1) := by decide +kernel
theorem dL_law_1591 : decode cL_law 1591 = .ok (.iadd, 1) := by decide +kernel
theorem dL_law_1592 : decode cL_law 1592 = .ok (.iaload, 1) := by decide +kernel
theorem dL_law_1593 : decode cL_law 1593 = .ok (.aload_n 3, 1) := by decide +kernel
theorem dL_law_1594 : decode cL_law 1594 = .ok (.invokestatic 258, 3) := by decide +kernel
theorem dL_law_1597 : decode cL_law 1597 = .ok (.istore 6, 2) := by decide +kernel
theorem dL_law_1599 : decode cL_law 1599 = .ok (.aload_n 2, 1) := by decide +kernel
theorem dL_law_1600 : decode cL_law 1600 = .ok (.aload_n 0, 1) := by decide +kernel
theorem dL_law_1601 : decode cL_law 1601 = .ok (.iload 5, 2) := by decide +kernel
theorem dL_law_1603 : decode cL_law 1603 = .ok (.iconst 1, 1) := by decide +kernel
theorem dL_law_1604 : decode cL_law 1604 = .ok (.iadd, 1) := by decide +kernel
theorem dL_law_1605 : decode cL_law 1605 = .ok (.iaload, 1) := by decide +kernel
theorem dL_law_1606 : decode cL_law 1606 = .ok (.invokevirtual 260, 3) := by decide +kernel
theorem dL_law_1609 : decode cL_law 1609 = .ok (.istore 7, 2) := by decide +kernel
theorem dL_law_1611 : decode cL_law 1611 = .ok (.aload_n 2, 1) := by decide +kernel
theorem dL_law_1612 : decode cL_law 1612 = .ok (.invokevirtual 174, 3) := by decide +kernel
theorem dL_law_1615 : decode cL_law 1615 = .ok (.iload 6, 2) := by decide +kernel
theorem dL_law_1617 : decode cL_law 1617 = .ok (.if_icmp .eq 5, 3) := by decide +kernel
theorem dL_law_1620 : decode cL_law 1620 = .ok (.iconst 0, 1) := by decide +kernel
theorem dL_law_1621 : decode cL_law 1621 = .ok (.ireturn, 1) := by decide +kernel
theorem dL_law_1622 : decode cL_law 1622 = .ok (.iload 6, 2) := by decide +kernel
theorem dL_law_1624 : decode cL_law 1624 = .ok (.ifCond .ne 15, 3) := by decide +kernel
theorem dL_law_1627 : decode cL_law 1627 = .ok (.aload_n 3, 1) := by decide +kernel
theorem dL_law_1628 : decode cL_law 1628 = .ok (.iconst 0, 1) := by decide +kernel
theorem dL_law_1629 : decode cL_law 1629 = .ok (.laload, 1) := by decide +kernel
