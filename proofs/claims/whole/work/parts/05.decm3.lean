/-! decode rows -/
theorem dX13_startText_21 : decode cX13_startText 21 = .ok (.invokevirtual 324, 3) := by decide +kernel
theorem dX13_startText_24 : decode cX13_startText 24 = .ok (.return_, 1) := by decide +kernel
theorem dX13_finish_0 : decode cX13_finish 0 = .ok (.aload_n 0, 1) := by decide +kernel
theorem dX13_finish_1 : decode cX13_finish 1 = .ok (.iconst 0, 1) := by decide +kernel
theorem dX13_finish_2 : decode cX13_finish 2 = .ok (.putfield 294, 3) := by decide +kernel
theorem dX13_finish_5 : decode cX13_finish 5 = .ok (.aload_n 0, 1) := by decide +kernel
theorem dX13_finish_6 : decode cX13_finish 6 = .ok (.aload_n 0, 1) := by decide +kernel
theorem dX13_finish_7 : decode cX13_finish 7 = .ok (.getfield 318, 3) := by decide +kernel
theorem dX13_finish_10 : decode cX13_finish 10 = .ok (.ifCond .ne 7, 3) := by decide +kernel
theorem dX13_finish_13 : decode cX13_finish 13 = .ok (.iconst (-1), 1) := by decide +kernel
theorem dX13_finish_14 : decode cX13_finish 14 = .ok (.goto 7, 3) := by decide +kernel
theorem dX13_finish_17 : decode cX13_finish 17 = .ok (.aload_n 0, 1) := by decide +kernel
theorem dX13_finish_18 : decode cX13_finish 18 = .ok (.getfield 327, 3) := by decide +kernel
theorem dX13_finish_21 : decode cX13_finish 21 = .ok (.putfield 44, 3) := by decide +kernel
theorem dX13_finish_24 : decode cX13_finish 24 = .ok (.aload_n 0, 1) := by decide +kernel
theorem dX13_finish_25 : decode cX13_finish 25 = .ok (.getfield 318, 3) := by decide +kernel
theorem dX13_finish_28 : decode cX13_finish 28 = .ok (.ireturn, 1) := by decide +kernel
theorem dX13_check_0 : decode cX13_check 0 = .ok (.iload_n 1, 1) := by decide +kernel
theorem dX13_check_1 : decode cX13_check 1 = .ok (.ifCond .ne 23, 3) := by decide +kernel
theorem dX13_check_4 : decode cX13_check 4 = .ok (.aload_n 0, 1) := by decide +kernel
theorem dX13_check_5 : decode cX13_check 5 = .ok (.getfield 318, 3) := by decide +kernel
theorem dX13_check_8 : decode cX13_check 8 = .ok (.ifCond .ne 16, 3) := by decide +kernel
theorem dX13_check_11 : decode cX13_check 11 = .ok (.aload_n 0, 1) := by decide +kernel
theorem dX13_check_12 : decode cX13_check 12 = .ok (.iload_n 2, 1) := by decide +kernel
theorem dX13_check_13 : decode cX13_check 13 = .ok (.putfield 318, 3) := by decide +kernel
theorem dX13_check_16 : decode cX13_check 16 = .ok (.aload_n 0, 1) := by decide +kernel
theorem dX13_check_17 : decode cX13_check 17 = .ok (.aload_n 0, 1) := by decide +kernel
theorem dX13_check_18 : decode cX13_check 18 = .ok (.getfield 306, 3) := by decide +kernel
theorem dX13_check_21 : decode cX13_check 21 = .ok (.putfield 327, 3) := by decide +kernel
theorem dX13_check_24 : decode cX13_check 24 = .ok (.return_, 1) := by decide +kernel
theorem dX13_advance_0 : decode cX13_advance 0 = .ok (.aload_n 0, 1) := by decide +kernel
theorem dX13_advance_1 : decode cX13_advance 1 = .ok (.getfield 318, 3) := by decide +kernel
theorem dX13_advance_4 : decode cX13_advance 4 = .ok (.ifCond .ne 7, 3) := by decide +kernel
theorem dX13_advance_7 : decode cX13_advance 7 = .ok (.aload_n 0, 1) := by decide +kernel
theorem dX13_advance_8 : decode cX13_advance 8 = .ok (.invokevirtual 324, 3) := by decide +kernel
theorem dX13_advance_11 : decode cX13_advance 11 = .ok (.return_, 1) := by decide +kernel
theorem dX13_isSymbol_0 : decode cX13_isSymbol 0 = .ok (.aload_n 0, 1) := by decide +kernel
theorem dX13_isSymbol_1 : decode cX13_isSymbol 1 = .ok (.getfield 318, 3) := by decide +kernel
theorem dX13_isSymbol_4 : decode cX13_isSymbol 4 = .ok (.ifCond .ne 28, 3) := by decide +kernel
theorem dX13_isSymbol_7 : decode cX13_isSymbol 7 = .ok (.aload_n 0, 1) := by decide +kernel
theorem dX13_isSymbol_8 : decode cX13_isSymbol 8 = .ok (.getfield 309, 3) := by decide +kernel
theorem dX13_isSymbol_11 : decode cX13_isSymbol 11 = .ok (.iconst 3, 1) := by decide +kernel
theorem dX13_isSymbol_12 : decode cX13_isSymbol 12 = .ok (.if_icmp .ne 20, 3) := by decide +kernel
theorem dX13_isSymbol_15 : decode cX13_isSymbol 15 = .ok (.aload_n 0, 1) := by decide +kernel
theorem dX13_isSymbol_16 : decode cX13_isSymbol 16 = .ok (.getfield 41, 3) := by decide +kernel
theorem dX13_isSymbol_19 : decode cX13_isSymbol 19 = .ok (.aload_n 0, 1) := by decide +kernel
theorem dX13_isSymbol_20 : decode cX13_isSymbol 20 = .ok (.getfield 306, 3) := by decide +kernel
theorem dX13_isSymbol_23 : decode cX13_isSymbol 23 = .ok (.iaload, 1) := by decide +kernel
theorem dX13_isSymbol_24 : decode cX13_isSymbol 24 = .ok (.iload_n 1, 1) := by decide +kernel
theorem dX13_isSymbol_25 : decode cX13_isSymbol 25 = .ok (.if_icmp .ne 7, 3) := by decide +kernel
theorem dX13_isSymbol_28 : decode cX13_isSymbol 28 = .ok (.iconst 1, 1) := by decide +kernel
theorem dX13_isSymbol_29 : decode cX13_isSymbol 29 = .ok (.goto 4, 3) := by decide +kernel
theorem dX13_isSymbol_32 : decode cX13_isSymbol 32 = .ok (.iconst 0, 1) := by decide +kernel
theorem dX13_isSymbol_33 : decode cX13_isSymbol 33 = .ok (.ireturn, 1) := by decide +kernel
theorem dX13_isWord_0 : decode cX13_isWord 0 = .ok (.aload_n 0, 1) := by decide +kernel
theorem dX13_isWord_1 : decode cX13_isWord 1 = .ok (.getfield 318, 3) := by decide +kernel
theorem dX13_isWord_4 : decode cX13_isWord 4 = .ok (.ifCond .ne 31, 3) := by decide +kernel
theorem dX13_isWord_7 : decode cX13_isWord 7 = .ok (.aload_n 0, 1) := by decide +kernel
theorem dX13_isWord_8 : decode cX13_isWord 8 = .ok (.getfield 309, 3) := by decide +kernel
theorem dX13_isWord_11 : decode cX13_isWord 11 = .ok (.iconst 1, 1) := by decide +kernel
theorem dX13_isWord_12 : decode cX13_isWord 12 = .ok (.if_icmp .ne 23, 3) := by decide +kernel
theorem dX13_isWord_15 : decode cX13_isWord 15 = .ok (.aload_n 1, 1) := by decide +kernel
theorem dX13_isWord_16 : decode cX13_isWord 16 = .ok (.invokevirtual 330, 3) := by decide +kernel
theorem dX13_isWord_19 : decode cX13_isWord 19 = .ok (.aload_n 0, 1) := by decide +kernel
theorem dX13_isWord_20 : decode cX13_isWord 20 = .ok (.getfield 303, 3) := by decide +kernel
theorem dX13_isWord_23 : decode cX13_isWord 23 = .ok (.aload_n 0, 1) := by decide +kernel
theorem dX13_isWord_24 : decode cX13_isWord 24 = .ok (.getfield 306, 3) := by decide +kernel
theorem dX13_isWord_27 : decode cX13_isWord 27 = .ok (.isub, 1) := by decide +kernel
theorem dX13_isWord_28 : decode cX13_isWord 28 = .ok (.if_icmp .ne 7, 3) := by decide +kernel
theorem dX13_isWord_31 : decode cX13_isWord 31 = .ok (.iconst 1, 1) := by decide +kernel
theorem dX13_isWord_32 : decode cX13_isWord 32 = .ok (.goto 4, 3) := by decide +kernel
theorem dX13_isWord_35 : decode cX13_isWord 35 = .ok (.iconst 0, 1) := by decide +kernel
theorem dX13_isWord_36 : decode cX13_isWord 36 = .ok (.istore_n 2, 1) := by decide +kernel
theorem dX13_isWord_37 : decode cX13_isWord 37 = .ok (.iconst 0, 1) := by decide +kernel
theorem dX13_isWord_38 : decode cX13_isWord 38 = .ok (.istore_n 3, 1) := by decide +kernel
theorem dX13_isWord_39 : decode cX13_isWord 39 = .ok (.iload_n 2, 1) := by decide +kernel
theorem dX13_isWord_40 : decode cX13_isWord 40 = .ok (.ifCond .eq 42, 3) := by decide +kernel
theorem dX13_isWord_43 : decode cX13_isWord 43 = .ok (.iload_n 3, 1) := by decide +kernel
theorem dX13_isWord_44 : decode cX13_isWord 44 = .ok (.aload_n 1, 1) := by decide +kernel
theorem dX13_isWord_45 : decode cX13_isWord 45 = .ok (.invokevirtual 330, 3) := by decide +kernel
theorem dX13_isWord_48 : decode cX13_isWord 48 = .ok (.if_icmp .ge 34, 3) := by decide +kernel
theorem dX13_isWord_51 : decode cX13_isWord 51 = .ok (.aload_n 1, 1) := by decide +kernel
theorem dX13_isWord_52 : decode cX13_isWord 52 = .ok (.iload_n 3, 1) := by decide +kernel
theorem dX13_isWord_53 : decode cX13_isWord 53 = .ok (.invokevirtual 333, 3) := by decide +kernel
theorem dX13_isWord_56 : decode cX13_isWord 56 = .ok (.aload_n 0, 1) := by decide +kernel
theorem dX13_isWord_57 : decode cX13_isWord 57 = .ok (.getfield 41, 3) := by decide +kernel
theorem dX13_isWord_60 : decode cX13_isWord 60 = .ok (.aload_n 0, 1) := by decide +kernel
theorem dX13_isWord_61 : decode cX13_isWord 61 = .ok (.getfield 306, 3) := by decide +kernel
theorem dX13_isWord_64 : decode cX13_isWord 64 = .ok (.iload_n 3, 1) := by decide +kernel
theorem dX13_isWord_65 : decode cX13_isWord 65 = .ok (.iadd, 1) := by decide +kernel
theorem dX13_isWord_66 : decode cX13_isWord 66 = .ok (.iaload, 1) := by decide +kernel
theorem dX13_isWord_67 : decode cX13_isWord 67 = .ok (.if_icmp .ne 7, 3) := by decide +kernel
theorem dX13_isWord_70 : decode cX13_isWord 70 = .ok (.iconst 1, 1) := by decide +kernel
theorem dX13_isWord_71 : decode cX13_isWord 71 = .ok (.goto 4, 3) := by decide +kernel
theorem dX13_isWord_74 : decode cX13_isWord 74 = .ok (.iconst 0, 1) := by decide +kernel
theorem dX13_isWord_75 : decode cX13_isWord 75 = .ok (.istore_n 2, 1) := by decide +kernel
theorem dX13_isWord_76 : decode cX13_isWord 76 = .ok (.iinc 3 1, 3) := by decide +kernel
theorem dX13_isWord_79 : decode cX13_isWord 79 = .ok (.goto (-40), 3) := by decide +kernel
theorem dX13_isWord_82 : decode cX13_isWord 82 = .ok (.iload_n 2, 1) := by decide +kernel
theorem dX13_isWord_83 : decode cX13_isWord 83 = .ok (.ireturn, 1) := by decide +kernel
theorem dX13_accept_0 : decode cX13_accept 0 = .ok (.aload_n 0, 1) := by decide +kernel
theorem dX13_accept_1 : decode cX13_accept 1 = .ok (.aload_n 1, 1) := by decide +kernel
theorem dX13_accept_2 : decode cX13_accept 2 = .ok (.invokevirtual 337, 3) := by decide +kernel
theorem dX13_accept_5 : decode cX13_accept 5 = .ok (.istore_n 2, 1) := by decide +kernel
theorem dX13_accept_6 : decode cX13_accept 6 = .ok (.iload_n 2, 1) := by decide +kernel
theorem dX13_accept_7 : decode cX13_accept 7 = .ok (.ifCond .eq 7, 3) := by decide +kernel
theorem dX13_accept_10 : decode cX13_accept 10 = .ok (.aload_n 0, 1) := by decide +kernel
theorem dX13_accept_11 : decode cX13_accept 11 = .ok (.invokevirtual 324, 3) := by decide +kernel
theorem dX13_accept_14 : decode cX13_accept 14 = .ok (.iload_n 2, 1) := by decide +kernel
theorem dX13_accept_15 : decode cX13_accept 15 = .ok (.ireturn, 1) := by decide +kernel
theorem dX13_expect_0 : decode cX13_expect 0 = .ok (.aload_n 0, 1) := by decide +kernel
theorem dX13_expect_1 : decode cX13_expect 1 = .ok (.aload_n 0, 1) := by decide +kernel
theorem dX13_expect_2 : decode cX13_expect 2 = .ok (.iload_n 1, 1) := by decide +kernel
theorem dX13_expect_3 : decode cX13_expect 3 = .ok (.invokevirtual 341, 3) := by decide +kernel
theorem dX13_expect_6 : decode cX13_expect 6 = .ok (.iconst 1, 1) := by decide +kernel
theorem dX13_expect_7 : decode cX13_expect 7 = .ok (.invokevirtual 344, 3) := by decide +kernel
theorem dX13_expect_10 : decode cX13_expect 10 = .ok (.aload_n 0, 1) := by decide +kernel
theorem dX13_expect_11 : decode cX13_expect 11 = .ok (.invokevirtual 348, 3) := by decide +kernel
theorem dX13_expect_14 : decode cX13_expect 14 = .ok (.return_, 1) := by decide +kernel
theorem dX13_value__0 : decode cX13_value_ 0 = .ok (.iconst 0, 1) := by decide +kernel
theorem dX13_value__1 : decode cX13_value_ 1 = .ok (.istore_n 1, 1) := by decide +kernel
theorem dX13_value__2 : decode cX13_value_ 2 = .ok (.aload_n 0, 1) := by decide +kernel
theorem dX13_value__3 : decode cX13_value_ 3 = .ok (.getfield 306, 3) := by decide +kernel
theorem dX13_value__6 : decode cX13_value_ 6 = .ok (.istore_n 2, 1) := by decide +kernel
theorem dX13_value__7 : decode cX13_value_ 7 = .ok (.iload_n 2, 1) := by decide +kernel
theorem dX13_value__8 : decode cX13_value_ 8 = .ok (.aload_n 0, 1) := by decide +kernel
theorem dX13_value__9 : decode cX13_value_ 9 = .ok (.getfield 303, 3) := by decide +kernel
theorem dX13_value__12 : decode cX13_value_ 12 = .ok (.if_icmp .ge 43, 3) := by decide +kernel
theorem dX13_value__15 : decode cX13_value_ 15 = .ok (.aload_n 0, 1) := by decide +kernel
theorem dX13_value__16 : decode cX13_value_ 16 = .ok (.getfield 309, 3) := by decide +kernel
theorem dX13_value__19 : decode cX13_value_ 19 = .ok (.iconst 2, 1) := by decide +kernel
theorem dX13_value__20 : decode cX13_value_ 20 = .ok (.if_icmp .ne 35, 3) := by decide +kernel
theorem dX13_value__23 : decode cX13_value_ 23 = .ok (.iload_n 1, 1) := by decide +kernel
theorem dX13_value__24 : decode cX13_value_ 24 = .ok (.ldc_w 351, 3) := by decide +kernel
theorem dX13_value__27 : decode cX13_value_ 27 = .ok (.if_icmp .le 7, 3) := by decide +kernel
theorem dX13_value__30 : decode cX13_value_ 30 = .ok (.iload_n 1, 1) := by decide +kernel
theorem dX13_value__31 : decode cX13_value_ 31 = .ok (.goto 17, 3) := by decide +kernel
theorem dX13_value__34 : decode cX13_value_ 34 = .ok (.bipush 10, 2) := by decide +kernel
theorem dX13_value__36 : decode cX13_value_ 36 = .ok (.iload_n 1, 1) := by decide +kernel
theorem dX13_value__37 : decode cX13_value_ 37 = .ok (.imul, 1) := by decide +kernel
theorem dX13_value__38 : decode cX13_value_ 38 = .ok (.aload_n 0, 1) := by decide +kernel
theorem dX13_value__39 : decode cX13_value_ 39 = .ok (.getfield 41, 3) := by decide +kernel
theorem dX13_value__42 : decode cX13_value_ 42 = .ok (.iload_n 2, 1) := by decide +kernel
theorem dX13_value__43 : decode cX13_value_ 43 = .ok (.iaload, 1) := by decide +kernel
theorem dX13_value__44 : decode cX13_value_ 44 = .ok (.iadd, 1) := by decide +kernel
theorem dX13_value__45 : decode cX13_value_ 45 = .ok (.bipush 48, 2) := by decide +kernel
theorem dX13_value__47 : decode cX13_value_ 47 = .ok (.isub, 1) := by decide +kernel
theorem dX13_value__48 : decode cX13_value_ 48 = .ok (.istore_n 1, 1) := by decide +kernel
theorem dX13_value__49 : decode cX13_value_ 49 = .ok (.iinc 2 1, 3) := by decide +kernel
theorem dX13_value__52 : decode cX13_value_ 52 = .ok (.goto (-45), 3) := by decide +kernel
theorem dX13_value__55 : decode cX13_value_ 55 = .ok (.iload_n 1, 1) := by decide +kernel
theorem dX13_value__56 : decode cX13_value_ 56 = .ok (.ireturn, 1) := by decide +kernel
theorem dX13_look_0 : decode cX13_look 0 = .ok (.aload_n 0, 1) := by decide +kernel
theorem dX13_look_1 : decode cX13_look 1 = .ok (.aload_n 0, 1) := by decide +kernel
theorem dX13_look_2 : decode cX13_look 2 = .ok (.getfield 309, 3) := by decide +kernel
theorem dX13_look_5 : decode cX13_look 5 = .ok (.iconst 2, 1) := by decide +kernel
theorem dX13_look_6 : decode cX13_look 6 = .ok (.if_icmp .ne 7, 3) := by decide +kernel
theorem dX13_look_9 : decode cX13_look 9 = .ok (.iconst 1, 1) := by decide +kernel
theorem dX13_look_10 : decode cX13_look 10 = .ok (.goto 4, 3) := by decide +kernel
theorem dX13_look_13 : decode cX13_look 13 = .ok (.iconst 0, 1) := by decide +kernel
theorem dX13_look_14 : decode cX13_look 14 = .ok (.iconst 1, 1) := by decide +kernel
theorem dX13_look_15 : decode cX13_look 15 = .ok (.invokevirtual 344, 3) := by decide +kernel
theorem dX13_look_18 : decode cX13_look 18 = .ok (.aload_n 0, 1) := by decide +kernel
theorem dX13_look_19 : decode cX13_look 19 = .ok (.invokevirtual 352, 3) := by decide +kernel
theorem dX13_look_22 : decode cX13_look 22 = .ok (.istore_n 3, 1) := by decide +kernel
theorem dX13_look_23 : decode cX13_look 23 = .ok (.aload_n 0, 1) := by decide +kernel
theorem dX13_look_24 : decode cX13_look 24 = .ok (.iload_n 3, 1) := by decide +kernel
theorem dX13_look_25 : decode cX13_look 25 = .ok (.iload_n 1, 1) := by decide +kernel
theorem dX13_look_26 : decode cX13_look 26 = .ok (.iload_n 2, 1) := by decide +kernel
theorem dX13_look_27 : decode cX13_look 27 = .ok (.invokestatic 92, 3) := by decide +kernel
theorem dX13_look_30 : decode cX13_look 30 = .ok (.iconst 2, 1) := by decide +kernel
theorem dX13_look_31 : decode cX13_look 31 = .ok (.invokevirtual 344, 3) := by decide +kernel
theorem dX13_look_34 : decode cX13_look 34 = .ok (.aload_n 0, 1) := by decide +kernel
theorem dX13_look_35 : decode cX13_look 35 = .ok (.getfield 318, 3) := by decide +kernel
theorem dX13_look_38 : decode cX13_look 38 = .ok (.ifCond .ne 7, 3) := by decide +kernel
theorem dX13_look_41 : decode cX13_look 41 = .ok (.iload_n 3, 1) := by decide +kernel
theorem dX13_look_42 : decode cX13_look 42 = .ok (.goto 4, 3) := by decide +kernel
theorem dX13_look_45 : decode cX13_look 45 = .ok (.iload_n 1, 1) := by decide +kernel
theorem dX13_look_46 : decode cX13_look 46 = .ok (.ireturn, 1) := by decide +kernel
theorem dX13_readNumber_0 : decode cX13_readNumber 0 = .ok (.aload_n 0, 1) := by decide +kernel
theorem dX13_readNumber_1 : decode cX13_readNumber 1 = .ok (.iload_n 1, 1) := by decide +kernel
theorem dX13_readNumber_2 : decode cX13_readNumber 2 = .ok (.iload_n 2, 1) := by decide +kernel
theorem dX13_readNumber_3 : decode cX13_readNumber 3 = .ok (.invokevirtual 355, 3) := by decide +kernel
theorem dX13_readNumber_6 : decode cX13_readNumber 6 = .ok (.istore_n 3, 1) := by decide +kernel
theorem dX13_readNumber_7 : decode cX13_readNumber 7 = .ok (.aload_n 0, 1) := by decide +kernel
theorem dX13_readNumber_8 : decode cX13_readNumber 8 = .ok (.invokevirtual 348, 3) := by decide +kernel
theorem dX13_readNumber_11 : decode cX13_readNumber 11 = .ok (.iload_n 3, 1) := by decide +kernel
theorem dX13_readNumber_12 : decode cX13_readNumber 12 = .ok (.ireturn, 1) := by decide +kernel
theorem dX13_errorCode_0 : decode cX13_errorCode 0 = .ok (.aload_n 0, 1) := by decide +kernel
theorem dX13_errorCode_1 : decode cX13_errorCode 1 = .ok (.iconst 0, 1) := by decide +kernel
theorem dX13_errorCode_2 : decode cX13_errorCode 2 = .ok (.putfield 85, 3) := by decide +kernel
theorem dX13_errorCode_5 : decode cX13_errorCode 5 = .ok (.aload_n 0, 1) := by decide +kernel
theorem dX13_errorCode_6 : decode cX13_errorCode 6 = .ok (.getfield 358, 3) := by decide +kernel
theorem dX13_errorCode_9 : decode cX13_errorCode 9 = .ok (.ireturn, 1) := by decide +kernel
theorem dX13_isFaulty_0 : decode cX13_isFaulty 0 = .ok (.aload_n 0, 1) := by decide +kernel
theorem dX13_isFaulty_1 : decode cX13_isFaulty 1 = .ok (.aload_n 0, 1) := by decide +kernel
theorem dX13_isFaulty_2 : decode cX13_isFaulty 2 = .ok (.invokevirtual 361, 3) := by decide +kernel
theorem dX13_isFaulty_5 : decode cX13_isFaulty 5 = .ok (.putfield 358, 3) := by decide +kernel
theorem dX13_isFaulty_8 : decode cX13_isFaulty 8 = .ok (.aload_n 0, 1) := by decide +kernel
theorem dX13_isFaulty_9 : decode cX13_isFaulty 9 = .ok (.getfield 358, 3) := by decide +kernel
theorem dX13_isFaulty_12 : decode cX13_isFaulty 12 = .ok (.ifCond .eq 7, 3) := by decide +kernel
theorem dX13_isFaulty_15 : decode cX13_isFaulty 15 = .ok (.iconst 1, 1) := by decide +kernel
theorem dX13_isFaulty_16 : decode cX13_isFaulty 16 = .ok (.goto 4, 3) := by decide +kernel
theorem dX13_isFaulty_19 : decode cX13_isFaulty 19 = .ok (.iconst 0, 1) := by decide +kernel
theorem dX13_isFaulty_20 : decode cX13_isFaulty 20 = .ok (.ireturn, 1) := by decide +kernel
theorem dX13_isLength_0 : decode cX13_isLength 0 = .ok (.iload_n 1, 1) := by decide +kernel
theorem dX13_isLength_1 : decode cX13_isLength 1 = .ok (.iconst 0, 1) := by decide +kernel
theorem dX13_isLength_2 : decode cX13_isLength 2 = .ok (.aload_n 0, 1) := by decide +kernel
theorem dX13_isLength_3 : decode cX13_isLength 3 = .ok (.getfield 294, 3) := by decide +kernel
theorem dX13_isLength_6 : decode cX13_isLength 6 = .ok (.invokestatic 92, 3) := by decide +kernel
theorem dX13_isLength_9 : decode cX13_isLength 9 = .ok (.ireturn, 1) := by decide +kernel
theorem dX13_isIntegerHere_0 : decode cX13_isIntegerHere 0 = .ok (.aload_n 0, 1) := by decide +kernel
theorem dX13_isIntegerHere_1 : decode cX13_isIntegerHere 1 = .ok (.getfield 318, 3) := by decide +kernel
theorem dX13_isIntegerHere_4 : decode cX13_isIntegerHere 4 = .ok (.ifCond .ne 24, 3) := by decide +kernel
theorem dX13_isIntegerHere_7 : decode cX13_isIntegerHere 7 = .ok (.aload_n 0, 1) := by decide +kernel
theorem dX13_isIntegerHere_8 : decode cX13_isIntegerHere 8 = .ok (.getfield 309, 3) := by decide +kernel
theorem dX13_isIntegerHere_11 : decode cX13_isIntegerHere 11 = .ok (.iconst 2, 1) := by decide +kernel
theorem dX13_isIntegerHere_12 : decode cX13_isIntegerHere 12 = .ok (.if_icmp .eq 12, 3) := by decide +kernel
theorem dX13_isIntegerHere_15 : decode cX13_isIntegerHere 15 = .ok (.aload_n 0, 1) := by decide +kernel
theorem dX13_isIntegerHere_16 : decode cX13_isIntegerHere 16 = .ok (.bipush 45, 2) := by decide +kernel
theorem dX13_isIntegerHere_18 : decode cX13_isIntegerHere 18 = .ok (.invokevirtual 341, 3) := by decide +kernel
theorem dX13_isIntegerHere_21 : decode cX13_isIntegerHere 21 = .ok (.ifCond .eq 7, 3) := by decide +kernel
theorem dX13_isIntegerHere_24 : decode cX13_isIntegerHere 24 = .ok (.iconst 1, 1) := by decide +kernel
theorem dX13_isIntegerHere_25 : decode cX13_isIntegerHere 25 = .ok (.goto 4, 3) := by decide +kernel
theorem dX13_isIntegerHere_28 : decode cX13_isIntegerHere 28 = .ok (.iconst 0, 1) := by decide +kernel
theorem dX13_isIntegerHere_29 : decode cX13_isIntegerHere 29 = .ok (.ireturn, 1) := by decide +kernel
theorem dX13_readInteger_0 : decode cX13_readInteger 0 = .ok (.aload_n 0, 1) := by decide +kernel
theorem dX13_readInteger_1 : decode cX13_readInteger 1 = .ok (.bipush 45, 2) := by decide +kernel
theorem dX13_readInteger_3 : decode cX13_readInteger 3 = .ok (.invokevirtual 341, 3) := by decide +kernel
theorem dX13_readInteger_6 : decode cX13_readInteger 6 = .ok (.istore_n 1, 1) := by decide +kernel
theorem dX13_readInteger_7 : decode cX13_readInteger 7 = .ok (.iload_n 1, 1) := by decide +kernel
theorem dX13_readInteger_8 : decode cX13_readInteger 8 = .ok (.ifCond .eq 7, 3) := by decide +kernel
theorem dX13_readInteger_11 : decode cX13_readInteger 11 = .ok (.aload_n 0, 1) := by decide +kernel
theorem dX13_readInteger_12 : decode cX13_readInteger 12 = .ok (.invokevirtual 348, 3) := by decide +kernel
theorem dX13_readInteger_15 : decode cX13_readInteger 15 = .ok (.aload_n 0, 1) := by decide +kernel
theorem dX13_readInteger_16 : decode cX13_readInteger 16 = .ok (.iconst 0, 1) := by decide +kernel
theorem dX13_readInteger_17 : decode cX13_readInteger 17 = .ok (.sipush 9999, 3) := by decide +kernel
theorem dX13_readInteger_20 : decode cX13_readInteger 20 = .ok (.invokevirtual 364, 3) := by decide +kernel
theorem dX13_readInteger_23 : decode cX13_readInteger 23 = .ok (.istore_n 2, 1) := by decide +kernel
theorem dX13_readInteger_24 : decode cX13_readInteger 24 = .ok (.iload_n 1, 1) := by decide +kernel
theorem dX13_readInteger_25 : decode cX13_readInteger 25 = .ok (.ifCond .eq 8, 3) := by decide +kernel
theorem dX13_readInteger_28 : decode cX13_readInteger 28 = .ok (.iload_n 2, 1) := by decide +kernel
theorem dX13_readInteger_29 : decode cX13_readInteger 29 = .ok (.ineg, 1) := by decide +kernel
theorem dX13_readInteger_30 : decode cX13_readInteger 30 = .ok (.goto 4, 3) := by decide +kernel
theorem dX13_readInteger_33 : decode cX13_readInteger 33 = .ok (.iload_n 2, 1) := by decide +kernel
theorem dX13_readInteger_34 : decode cX13_readInteger 34 = .ok (.ireturn, 1) := by decide +kernel
theorem dX13_readRow_0 : decode cX13_readRow 0 = .ok (.iconst 0, 1) := by decide +kernel
theorem dX13_readRow_1 : decode cX13_readRow 1 = .ok (.istore_n 1, 1) := by decide +kernel
theorem dX13_readRow_2 : decode cX13_readRow 2 = .ok (.iload_n 1, 1) := by decide +kernel
theorem dX13_readRow_3 : decode cX13_readRow 3 = .ok (.aload_n 0, 1) := by decide +kernel
theorem dX13_readRow_4 : decode cX13_readRow 4 = .ok (.getfield 35, 3) := by decide +kernel
theorem dX13_readRow_7 : decode cX13_readRow 7 = .ok (.iconst 0, 1) := by decide +kernel
theorem dX13_readRow_8 : decode cX13_readRow 8 = .ok (.iaload, 1) := by decide +kernel
theorem dX13_readRow_9 : decode cX13_readRow 9 = .ok (.if_icmp .ge 19, 3) := by decide +kernel
theorem dX13_readRow_12 : decode cX13_readRow 12 = .ok (.aload_n 0, 1) := by decide +kernel
theorem dX13_readRow_13 : decode cX13_readRow 13 = .ok (.getfield 29, 3) := by decide +kernel
theorem dX13_readRow_16 : decode cX13_readRow 16 = .ok (.iload_n 1, 1) := by decide +kernel
theorem dX13_readRow_17 : decode cX13_readRow 17 = .ok (.aload_n 0, 1) := by decide +kernel
theorem dX13_readRow_18 : decode cX13_readRow 18 = .ok (.invokevirtual 367, 3) := by decide +kernel
theorem dX13_readRow_21 : decode cX13_readRow 21 = .ok (.iastore, 1) := by decide +kernel
theorem dX13_readRow_22 : decode cX13_readRow 22 = .ok (.iinc 1 1, 3) := by decide +kernel
theorem dX13_readRow_25 : decode cX13_readRow 25 = .ok (.goto (-23), 3) := by decide +kernel
theorem dX13_readRow_28 : decode cX13_readRow 28 = .ok (.return_, 1) := by decide +kernel
theorem dX13_refuseRow_0 : decode cX13_refuseRow 0 = .ok (.aload_n 0, 1) := by decide +kernel
theorem dX13_refuseRow_1 : decode cX13_refuseRow 1 = .ok (.aload_n 0, 1) := by decide +kernel
theorem dX13_refuseRow_2 : decode cX13_refuseRow 2 = .ok (.invokevirtual 370, 3) := by decide +kernel
theorem dX13_refuseRow_5 : decode cX13_refuseRow 5 = .ok (.iconst 1, 1) := by decide +kernel
theorem dX13_refuseRow_6 : decode cX13_refuseRow 6 = .ok (.invokevirtual 344, 3) := by decide +kernel
theorem dX13_refuseRow_9 : decode cX13_refuseRow 9 = .ok (.aload_n 0, 1) := by decide +kernel
theorem dX13_refuseRow_10 : decode cX13_refuseRow 10 = .ok (.aload_n 0, 1) := by decide +kernel
theorem dX13_refuseRow_11 : decode cX13_refuseRow 11 = .ok (.getfield 318, 3) := by decide +kernel
theorem dX13_refuseRow_14 : decode cX13_refuseRow 14 = .ok (.ifCond .ne 21, 3) := by decide +kernel
theorem dX13_refuseRow_17 : decode cX13_refuseRow 17 = .ok (.aload_n 0, 1) := by decide +kernel
theorem dX13_refuseRow_18 : decode cX13_refuseRow 18 = .ok (.getfield 309, 3) := by decide +kernel
theorem dX13_refuseRow_21 : decode cX13_refuseRow 21 = .ok (.iconst 2, 1) := by decide +kernel
theorem dX13_refuseRow_22 : decode cX13_refuseRow 22 = .ok (.if_icmp .ne 13, 3) := by decide +kernel
theorem dX13_refuseRow_25 : decode cX13_refuseRow 25 = .ok (.aload_n 0, 1) := by decide +kernel
theorem dX13_refuseRow_26 : decode cX13_refuseRow 26 = .ok (.invokevirtual 352, 3) := by decide +kernel
theorem dX13_refuseRow_29 : decode cX13_refuseRow 29 = .ok (.sipush 9999, 3) := by decide +kernel
theorem dX13_refuseRow_32 : decode cX13_refuseRow 32 = .ok (.if_icmp .gt 7, 3) := by decide +kernel
theorem dX13_refuseRow_35 : decode cX13_refuseRow 35 = .ok (.iconst 1, 1) := by decide +kernel
theorem dX13_refuseRow_36 : decode cX13_refuseRow 36 = .ok (.goto 4, 3) := by decide +kernel
theorem dX13_refuseRow_39 : decode cX13_refuseRow 39 = .ok (.iconst 0, 1) := by decide +kernel
theorem dX13_refuseRow_40 : decode cX13_refuseRow 40 = .ok (.iconst 2, 1) := by decide +kernel
theorem dX13_refuseRow_41 : decode cX13_refuseRow 41 = .ok (.invokevirtual 344, 3) := by decide +kernel
theorem dX13_refuseRow_44 : decode cX13_refuseRow 44 = .ok (.aload_n 0, 1) := by decide +kernel
theorem dX13_refuseRow_45 : decode cX13_refuseRow 45 = .ok (.iconst 0, 1) := by decide +kernel
theorem dX13_refuseRow_46 : decode cX13_refuseRow 46 = .ok (.iconst 3, 1) := by decide +kernel
theorem dX13_refuseRow_47 : decode cX13_refuseRow 47 = .ok (.invokevirtual 344, 3) := by decide +kernel
theorem dX13_refuseRow_50 : decode cX13_refuseRow 50 = .ok (.return_, 1) := by decide +kernel
theorem dX13_readTable_0 : decode cX13_readTable 0 = .ok (.aload_n 0, 1) := by decide +kernel
theorem dX13_readTable_1 : decode cX13_readTable 1 = .ok (.aload_n 0, 1) := by decide +kernel
theorem dX13_readTable_2 : decode cX13_readTable 2 = .ok (.ldc_w 374, 3) := by decide +kernel
theorem dX13_readTable_5 : decode cX13_readTable 5 = .ok (.invokevirtual 337, 3) := by decide +kernel
theorem dX13_readTable_8 : decode cX13_readTable 8 = .ok (.iconst 1, 1) := by decide +kernel
theorem dX13_readTable_9 : decode cX13_readTable 9 = .ok (.invokevirtual 344, 3) := by decide +kernel
theorem dX13_readTable_12 : decode cX13_readTable 12 = .ok (.aload_n 0, 1) := by decide +kernel
theorem dX13_readTable_13 : decode cX13_readTable 13 = .ok (.invokevirtual 348, 3) := by decide +kernel
theorem dX13_readTable_16 : decode cX13_readTable 16 = .ok (.aload_n 0, 1) := by decide +kernel
theorem dX13_readTable_17 : decode cX13_readTable 17 = .ok (.aload_n 0, 1) := by decide +kernel
theorem dX13_readTable_18 : decode cX13_readTable 18 = .ok (.iconst 1, 1) := by decide +kernel
theorem dX13_readTable_19 : decode cX13_readTable 19 = .ok (.bipush 6, 2) := by decide +kernel
theorem dX13_readTable_21 : decode cX13_readTable 21 = .ok (.invokevirtual 364, 3) := by decide +kernel
theorem dX13_readTable_24 : decode cX13_readTable 24 = .ok (.invokevirtual 74, 3) := by decide +kernel
theorem dX13_readTable_27 : decode cX13_readTable 27 = .ok (.aload_n 0, 1) := by decide +kernel
theorem dX13_readTable_28 : decode cX13_readTable 28 = .ok (.bipush 59, 2) := by decide +kernel
theorem dX13_readTable_30 : decode cX13_readTable 30 = .ok (.invokevirtual 376, 3) := by decide +kernel
theorem dX13_readTable_33 : decode cX13_readTable 33 = .ok (.aload_n 0, 1) := by decide +kernel
theorem dX13_readTable_34 : decode cX13_readTable 34 = .ok (.getfield 318, 3) := by decide +kernel
theorem dX13_readTable_37 : decode cX13_readTable 37 = .ok (.ifCond .ne 49, 3) := by decide +kernel
theorem dX13_readTable_40 : decode cX13_readTable 40 = .ok (.aload_n 0, 1) := by decide +kernel
theorem dX13_readTable_41 : decode cX13_readTable 41 = .ok (.getfield 309, 3) := by decide +kernel
theorem dX13_readTable_44 : decode cX13_readTable 44 = .ok (.ifCond .eq 42, 3) := by decide +kernel
theorem dX13_readTable_47 : decode cX13_readTable 47 = .ok (.aload_n 0, 1) := by decide +kernel
theorem dX13_readTable_48 : decode cX13_readTable 48 = .ok (.getfield 35, 3) := by decide +kernel
theorem dX13_readTable_51 : decode cX13_readTable 51 = .ok (.iconst 1, 1) := by decide +kernel
theorem dX13_readTable_52 : decode cX13_readTable 52 = .ok (.iaload, 1) := by decide +kernel
theorem dX13_readTable_53 : decode cX13_readTable 53 = .ok (.bipush 60, 2) := by decide +kernel
theorem dX13_readTable_55 : decode cX13_readTable 55 = .ok (.if_icmp .ne 7, 3) := by decide +kernel
theorem dX13_readTable_58 : decode cX13_readTable 58 = .ok (.aload_n 0, 1) := by decide +kernel
theorem dX13_readTable_59 : decode cX13_readTable 59 = .ok (.invokevirtual 379, 3) := by decide +kernel
theorem dX13_readTable_62 : decode cX13_readTable 62 = .ok (.aload_n 0, 1) := by decide +kernel
theorem dX13_readTable_63 : decode cX13_readTable 63 = .ok (.invokevirtual 382, 3) := by decide +kernel
theorem dX13_readTable_66 : decode cX13_readTable 66 = .ok (.aload_n 0, 1) := by decide +kernel
theorem dX13_readTable_67 : decode cX13_readTable 67 = .ok (.bipush 59, 2) := by decide +kernel
theorem dX13_readTable_69 : decode cX13_readTable 69 = .ok (.invokevirtual 376, 3) := by decide +kernel
theorem dX13_readTable_72 : decode cX13_readTable 72 = .ok (.aload_n 0, 1) := by decide +kernel
theorem dX13_readTable_73 : decode cX13_readTable 73 = .ok (.getfield 318, 3) := by decide +kernel
theorem dX13_readTable_76 : decode cX13_readTable 76 = .ok (.ifCond .ne (-43), 3) := by decide +kernel
theorem dX13_readTable_79 : decode cX13_readTable 79 = .ok (.aload_n 0, 1) := by decide +kernel
theorem dX13_readTable_80 : decode cX13_readTable 80 = .ok (.invokevirtual 82, 3) := by decide +kernel
theorem dX13_readTable_83 : decode cX13_readTable 83 = .ok (.goto (-50), 3) := by decide +kernel
theorem dX13_readTable_86 : decode cX13_readTable 86 = .ok (.return_, 1) := by decide +kernel
theorem dX13_loadTable_0 : decode cX13_loadTable 0 = .ok (.aload_n 0, 1) := by decide +kernel
theorem dX13_loadTable_1 : decode cX13_loadTable 1 = .ok (.aload_n 0, 1) := by decide +kernel
theorem dX13_loadTable_2 : decode cX13_loadTable 2 = .ok (.iload_n 1, 1) := by decide +kernel
theorem dX13_loadTable_3 : decode cX13_loadTable 3 = .ok (.invokevirtual 385, 3) := by decide +kernel
theorem dX13_loadTable_6 : decode cX13_loadTable 6 = .ok (.invokevirtual 88, 3) := by decide +kernel
theorem dX13_loadTable_9 : decode cX13_loadTable 9 = .ok (.ifCond .eq 5, 3) := by decide +kernel
theorem dX13_loadTable_12 : decode cX13_loadTable 12 = .ok (.iconst 0, 1) := by decide +kernel
theorem dX13_loadTable_13 : decode cX13_loadTable 13 = .ok (.ireturn, 1) := by decide +kernel
theorem dX13_loadTable_14 : decode cX13_loadTable 14 = .ok (.aload_n 0, 1) := by decide +kernel
theorem dX13_loadTable_15 : decode cX13_loadTable 15 = .ok (.iload_n 1, 1) := by decide +kernel
theorem dX13_loadTable_16 : decode cX13_loadTable 16 = .ok (.invokevirtual 388, 3) := by decide +kernel
theorem dX13_loadTable_19 : decode cX13_loadTable 19 = .ok (.aload_n 0, 1) := by decide +kernel
theorem dX13_loadTable_20 : decode cX13_loadTable 20 = .ok (.aload_n 0, 1) := by decide +kernel
theorem dX13_loadTable_21 : decode cX13_loadTable 21 = .ok (.getfield 13, 3) := by decide +kernel
theorem dX13_loadTable_24 : decode cX13_loadTable 24 = .ok (.putfield 35, 3) := by decide +kernel
theorem dX13_loadTable_27 : decode cX13_loadTable 27 = .ok (.aload_n 0, 1) := by decide +kernel
theorem dX13_loadTable_28 : decode cX13_loadTable 28 = .ok (.invokevirtual 391, 3) := by decide +kernel
theorem dX13_loadTable_31 : decode cX13_loadTable 31 = .ok (.aload_n 0, 1) := by decide +kernel
theorem dX13_loadTable_32 : decode cX13_loadTable 32 = .ok (.aload_n 0, 1) := by decide +kernel
theorem dX13_loadTable_33 : decode cX13_loadTable 33 = .ok (.getfield 9, 3) := by decide +kernel
theorem dX13_loadTable_36 : decode cX13_loadTable 36 = .ok (.putfield 35, 3) := by decide +kernel
theorem dX13_loadTable_39 : decode cX13_loadTable 39 = .ok (.aload_n 0, 1) := by decide +kernel
theorem dX13_loadTable_40 : decode cX13_loadTable 40 = .ok (.invokevirtual 394, 3) := by decide +kernel
theorem dX13_loadTable_43 : decode cX13_loadTable 43 = .ok (.ifCond .eq 5, 3) := by decide +kernel
theorem dX13_loadTable_46 : decode cX13_loadTable 46 = .ok (.iconst (-1), 1) := by decide +kernel
theorem dX13_loadTable_47 : decode cX13_loadTable 47 = .ok (.ireturn, 1) := by decide +kernel
theorem dX13_loadTable_48 : decode cX13_loadTable 48 = .ok (.aload_n 0, 1) := by decide +kernel
theorem dX13_loadTable_49 : decode cX13_loadTable 49 = .ok (.getfield 13, 3) := by decide +kernel
theorem dX13_loadTable_52 : decode cX13_loadTable 52 = .ok (.iconst 0, 1) := by decide +kernel
theorem dX13_loadTable_53 : decode cX13_loadTable 53 = .ok (.aload_n 0, 1) := by decide +kernel
theorem dX13_loadTable_54 : decode cX13_loadTable 54 = .ok (.getfield 9, 3) := by decide +kernel
theorem dX13_loadTable_57 : decode cX13_loadTable 57 = .ok (.iconst 0, 1) := by decide +kernel
theorem dX13_loadTable_58 : decode cX13_loadTable 58 = .ok (.invokestatic 243, 3) := by decide +kernel
theorem dX13_loadTable_61 : decode cX13_loadTable 61 = .ok (.aload_n 0, 1) := by decide +kernel
theorem dX13_loadTable_62 : decode cX13_loadTable 62 = .ok (.iconst 0, 1) := by decide +kernel
theorem dX13_loadTable_63 : decode cX13_loadTable 63 = .ok (.putfield 247, 3) := by decide +kernel
theorem dX13_loadTable_66 : decode cX13_loadTable 66 = .ok (.aload_n 0, 1) := by decide +kernel
theorem dX13_loadTable_67 : decode cX13_loadTable 67 = .ok (.iconst 0, 1) := by decide +kernel
theorem dX13_loadTable_68 : decode cX13_loadTable 68 = .ok (.putfield 290, 3) := by decide +kernel
theorem dX13_loadTable_71 : decode cX13_loadTable 71 = .ok (.aload_n 0, 1) := by decide +kernel
theorem dX13_loadTable_72 : decode cX13_loadTable 72 = .ok (.getfield 35, 3) := by decide +kernel
theorem dX13_loadTable_75 : decode cX13_loadTable 75 = .ok (.iconst 1, 1) := by decide +kernel
theorem dX13_loadTable_76 : decode cX13_loadTable 76 = .ok (.iaload, 1) := by decide +kernel
theorem dX13_loadTable_77 : decode cX13_loadTable 77 = .ok (.ireturn, 1) := by decide +kernel
theorem dX13_addRow_0 : decode cX13_addRow 0 = .ok (.aload_n 0, 1) := by decide +kernel
theorem dX13_addRow_1 : decode cX13_addRow 1 = .ok (.aload_n 0, 1) := by decide +kernel
theorem dX13_addRow_2 : decode cX13_addRow 2 = .ok (.iload_n 1, 1) := by decide +kernel
theorem dX13_addRow_3 : decode cX13_addRow 3 = .ok (.invokevirtual 385, 3) := by decide +kernel
theorem dX13_addRow_6 : decode cX13_addRow 6 = .ok (.aload_n 0, 1) := by decide +kernel
theorem dX13_addRow_7 : decode cX13_addRow 7 = .ok (.getfield 35, 3) := by decide +kernel
theorem dX13_addRow_10 : decode cX13_addRow 10 = .ok (.iconst 1, 1) := by decide +kernel
theorem dX13_addRow_11 : decode cX13_addRow 11 = .ok (.iaload, 1) := by decide +kernel
theorem dX13_addRow_12 : decode cX13_addRow 12 = .ok (.bipush 60, 2) := by decide +kernel
theorem dX13_addRow_14 : decode cX13_addRow 14 = .ok (.if_icmp .ge 7, 3) := by decide +kernel
theorem dX13_addRow_17 : decode cX13_addRow 17 = .ok (.iconst 1, 1) := by decide +kernel
theorem dX13_addRow_18 : decode cX13_addRow 18 = .ok (.goto 4, 3) := by decide +kernel
theorem dX13_addRow_21 : decode cX13_addRow 21 = .ok (.iconst 0, 1) := by decide +kernel
theorem dX13_addRow_22 : decode cX13_addRow 22 = .ok (.invokevirtual 205, 3) := by decide +kernel
theorem dX13_addRow_25 : decode cX13_addRow 25 = .ok (.ifCond .eq 5, 3) := by decide +kernel
theorem dX13_addRow_28 : decode cX13_addRow 28 = .ok (.iconst 0, 1) := by decide +kernel
theorem dX13_addRow_29 : decode cX13_addRow 29 = .ok (.ireturn, 1) := by decide +kernel
theorem dX13_addRow_30 : decode cX13_addRow 30 = .ok (.aload_n 0, 1) := by decide +kernel
theorem dX13_addRow_31 : decode cX13_addRow 31 = .ok (.iload_n 1, 1) := by decide +kernel
theorem dX13_addRow_32 : decode cX13_addRow 32 = .ok (.invokevirtual 388, 3) := by decide +kernel
theorem dX13_addRow_35 : decode cX13_addRow 35 = .ok (.aload_n 0, 1) := by decide +kernel
theorem dX13_addRow_36 : decode cX13_addRow 36 = .ok (.invokevirtual 382, 3) := by decide +kernel
theorem dX13_addRow_39 : decode cX13_addRow 39 = .ok (.aload_n 0, 1) := by decide +kernel
theorem dX13_addRow_40 : decode cX13_addRow 40 = .ok (.aload_n 0, 1) := by decide +kernel
theorem dX13_addRow_41 : decode cX13_addRow 41 = .ok (.getfield 318, 3) := by decide +kernel
theorem dX13_addRow_44 : decode cX13_addRow 44 = .ok (.ifCond .ne 10, 3) := by decide +kernel
theorem dX13_addRow_47 : decode cX13_addRow 47 = .ok (.aload_n 0, 1) := by decide +kernel
theorem dX13_addRow_48 : decode cX13_addRow 48 = .ok (.getfield 309, 3) := by decide +kernel
theorem dX13_addRow_51 : decode cX13_addRow 51 = .ok (.ifCond .ne 7, 3) := by decide +kernel
theorem dX13_addRow_54 : decode cX13_addRow 54 = .ok (.iconst 1, 1) := by decide +kernel
theorem dX13_addRow_55 : decode cX13_addRow 55 = .ok (.goto 4, 3) := by decide +kernel
theorem dX13_addRow_58 : decode cX13_addRow 58 = .ok (.iconst 0, 1) := by decide +kernel
theorem dX13_addRow_59 : decode cX13_addRow 59 = .ok (.iconst 1, 1) := by decide +kernel
theorem dX13_addRow_60 : decode cX13_addRow 60 = .ok (.invokevirtual 344, 3) := by decide +kernel
theorem dX13_addRow_63 : decode cX13_addRow 63 = .ok (.aload_n 0, 1) := by decide +kernel
theorem dX13_addRow_64 : decode cX13_addRow 64 = .ok (.invokevirtual 394, 3) := by decide +kernel
theorem dX13_addRow_67 : decode cX13_addRow 67 = .ok (.ifCond .eq 5, 3) := by decide +kernel
theorem dX13_addRow_70 : decode cX13_addRow 70 = .ok (.iconst (-1), 1) := by decide +kernel
theorem dX13_addRow_71 : decode cX13_addRow 71 = .ok (.ireturn, 1) := by decide +kernel
theorem dX13_addRow_72 : decode cX13_addRow 72 = .ok (.aload_n 0, 1) := by decide +kernel
theorem dX13_addRow_73 : decode cX13_addRow 73 = .ok (.invokevirtual 253, 3) := by decide +kernel
theorem dX13_addRow_76 : decode cX13_addRow 76 = .ok (.aload_n 0, 1) := by decide +kernel
theorem dX13_addRow_77 : decode cX13_addRow 77 = .ok (.aload_n 0, 1) := by decide +kernel
theorem dX13_addRow_78 : decode cX13_addRow 78 = .ok (.invokevirtual 397, 3) := by decide +kernel
theorem dX13_addRow_81 : decode cX13_addRow 81 = .ok (.invokevirtual 256, 3) := by decide +kernel
theorem dX13_addRow_84 : decode cX13_addRow 84 = .ok (.ireturn, 1) := by decide +kernel
theorem dX13_orderHere_0 : decode cX13_orderHere 0 = .ok (.iconst 0, 1) := by decide +kernel
theorem dX13_orderHere_1 : decode cX13_orderHere 1 = .ok (.istore_n 1, 1) := by decide +kernel
theorem dX13_orderHere_2 : decode cX13_orderHere 2 = .ok (.iload_n 1, 1) := by decide +kernel
theorem dX13_orderHere_3 : decode cX13_orderHere 3 = .ok (.aload_n 0, 1) := by decide +kernel
theorem dX13_orderHere_4 : decode cX13_orderHere 4 = .ok (.getfield 70, 3) := by decide +kernel
theorem dX13_orderHere_7 : decode cX13_orderHere 7 = .ok (.arraylength, 1) := by decide +kernel
theorem dX13_orderHere_8 : decode cX13_orderHere 8 = .ok (.if_icmp .ge 24, 3) := by decide +kernel
theorem dX13_orderHere_11 : decode cX13_orderHere 11 = .ok (.aload_n 0, 1) := by decide +kernel
theorem dX13_orderHere_12 : decode cX13_orderHere 12 = .ok (.aload_n 0, 1) := by decide +kernel
theorem dX13_orderHere_13 : decode cX13_orderHere 13 = .ok (.getfield 70, 3) := by decide +kernel
theorem dX13_orderHere_16 : decode cX13_orderHere 16 = .ok (.iload_n 1, 1) := by decide +kernel
theorem dX13_orderHere_17 : decode cX13_orderHere 17 = .ok (.aaload, 1) := by decide +kernel
theorem dX13_orderHere_18 : decode cX13_orderHere 18 = .ok (.invokevirtual 337, 3) := by decide +kernel
theorem dX13_orderHere_21 : decode cX13_orderHere 21 = .ok (.ifCond .eq 5, 3) := by decide +kernel
theorem dX13_orderHere_24 : decode cX13_orderHere 24 = .ok (.iload_n 1, 1) := by decide +kernel
theorem dX13_orderHere_25 : decode cX13_orderHere 25 = .ok (.ireturn, 1) := by decide +kernel
theorem dX13_orderHere_26 : decode cX13_orderHere 26 = .ok (.iinc 1 1, 3) := by decide +kernel
theorem dX13_orderHere_29 : decode cX13_orderHere 29 = .ok (.goto (-27), 3) := by decide +kernel
theorem dX13_orderHere_32 : decode cX13_orderHere 32 = .ok (.iconst (-1), 1) := by decide +kernel
theorem dX13_orderHere_33 : decode cX13_orderHere 33 = .ok (.ireturn, 1) := by decide +kernel
theorem dX13_readNumbers_0 : decode cX13_readNumbers 0 = .ok (.iload_n 2, 1) := by decide +kernel
theorem dX13_readNumbers_1 : decode cX13_readNumbers 1 = .ok (.bipush 7, 2) := by decide +kernel
theorem dX13_readNumbers_3 : decode cX13_readNumbers 3 = .ok (.if_icmp .ne 4, 3) := by decide +kernel
theorem dX13_readNumbers_6 : decode cX13_readNumbers 6 = .ok (.return_, 1) := by decide +kernel
theorem dX13_readNumbers_7 : decode cX13_readNumbers 7 = .ok (.aload_n 0, 1) := by decide +kernel
theorem dX13_readNumbers_8 : decode cX13_readNumbers 8 = .ok (.getfield 48, 3) := by decide +kernel
theorem dX13_readNumbers_11 : decode cX13_readNumbers 11 = .ok (.iload_n 1, 1) := by decide +kernel
theorem dX13_readNumbers_12 : decode cX13_readNumbers 12 = .ok (.iconst 1, 1) := by decide +kernel
theorem dX13_readNumbers_13 : decode cX13_readNumbers 13 = .ok (.iadd, 1) := by decide +kernel
theorem dX13_readNumbers_14 : decode cX13_readNumbers 14 = .ok (.aload_n 0, 1) := by decide +kernel
theorem dX13_readNumbers_15 : decode cX13_readNumbers 15 = .ok (.iconst 0, 1) := by decide +kernel
theorem dX13_readNumbers_16 : decode cX13_readNumbers 16 = .ok (.iload_n 2, 1) := by decide +kernel
theorem dX13_readNumbers_17 : decode cX13_readNumbers 17 = .ok (.bipush 6, 2) := by decide +kernel
theorem dX13_readNumbers_19 : decode cX13_readNumbers 19 = .ok (.if_icmp .ne 8, 3) := by decide +kernel
theorem dX13_readNumbers_22 : decode cX13_readNumbers 22 = .ok (.bipush 7, 2) := by decide +kernel
theorem dX13_readNumbers_24 : decode cX13_readNumbers 24 = .ok (.goto 11, 3) := by decide +kernel
theorem dX13_readNumbers_27 : decode cX13_readNumbers 27 = .ok (.aload_n 0, 1) := by decide +kernel
theorem dX13_readNumbers_28 : decode cX13_readNumbers 28 = .ok (.getfield 35, 3) := by decide +kernel
theorem dX13_readNumbers_31 : decode cX13_readNumbers 31 = .ok (.iconst 0, 1) := by decide +kernel
theorem dX13_readNumbers_32 : decode cX13_readNumbers 32 = .ok (.iaload, 1) := by decide +kernel
theorem dX13_readNumbers_33 : decode cX13_readNumbers 33 = .ok (.iconst 1, 1) := by decide +kernel
theorem dX13_readNumbers_34 : decode cX13_readNumbers 34 = .ok (.isub, 1) := by decide +kernel
theorem dX13_readNumbers_35 : decode cX13_readNumbers 35 = .ok (.invokevirtual 364, 3) := by decide +kernel
theorem dX13_readNumbers_38 : decode cX13_readNumbers 38 = .ok (.iastore, 1) := by decide +kernel
theorem dX13_readNumbers_39 : decode cX13_readNumbers 39 = .ok (.iload_n 2, 1) := by decide +kernel
theorem dX13_readNumbers_40 : decode cX13_readNumbers 40 = .ok (.iconst 1, 1) := by decide +kernel
theorem dX13_readNumbers_41 : decode cX13_readNumbers 41 = .ok (.if_icmp .ne 33, 3) := by decide +kernel
theorem dX13_readNumbers_44 : decode cX13_readNumbers 44 = .ok (.aload_n 0, 1) := by decide +kernel
theorem dX13_readNumbers_45 : decode cX13_readNumbers 45 = .ok (.getfield 48, 3) := by decide +kernel
theorem dX13_readNumbers_48 : decode cX13_readNumbers 48 = .ok (.iload_n 1, 1) := by decide +kernel
theorem dX13_readNumbers_49 : decode cX13_readNumbers 49 = .ok (.iconst 2, 1) := by decide +kernel
theorem dX13_readNumbers_50 : decode cX13_readNumbers 50 = .ok (.iadd, 1) := by decide +kernel
theorem dX13_readNumbers_51 : decode cX13_readNumbers 51 = .ok (.aload_n 0, 1) := by decide +kernel
theorem dX13_readNumbers_52 : decode cX13_readNumbers 52 = .ok (.iconst 0, 1) := by decide +kernel
theorem dX13_readNumbers_53 : decode cX13_readNumbers 53 = .ok (.bipush 59, 2) := by decide +kernel
theorem dX13_readNumbers_55 : decode cX13_readNumbers 55 = .ok (.invokevirtual 364, 3) := by decide +kernel
theorem dX13_readNumbers_58 : decode cX13_readNumbers 58 = .ok (.iastore, 1) := by decide +kernel
theorem dX13_readNumbers_59 : decode cX13_readNumbers 59 = .ok (.aload_n 0, 1) := by decide +kernel
theorem dX13_readNumbers_60 : decode cX13_readNumbers 60 = .ok (.getfield 48, 3) := by decide +kernel
theorem dX13_readNumbers_63 : decode cX13_readNumbers 63 = .ok (.iload_n 1, 1) := by decide +kernel
theorem dX13_readNumbers_64 : decode cX13_readNumbers 64 = .ok (.iconst 3, 1) := by decide +kernel
theorem dX13_readNumbers_65 : decode cX13_readNumbers 65 = .ok (.iadd, 1) := by decide +kernel
theorem dX13_readNumbers_66 : decode cX13_readNumbers 66 = .ok (.aload_n 0, 1) := by decide +kernel
theorem dX13_readNumbers_67 : decode cX13_readNumbers 67 = .ok (.invokevirtual 367, 3) := by decide +kernel
theorem dX13_readNumbers_70 : decode cX13_readNumbers 70 = .ok (.iastore, 1) := by decide +kernel
theorem dX13_readNumbers_71 : decode cX13_readNumbers 71 = .ok (.goto 61, 3) := by decide +kernel
theorem dX13_readNumbers_74 : decode cX13_readNumbers 74 = .ok (.iload_n 2, 1) := by decide +kernel
theorem dX13_readNumbers_75 : decode cX13_readNumbers 75 = .ok (.iconst 2, 1) := by decide +kernel
theorem dX13_readNumbers_76 : decode cX13_readNumbers 76 = .ok (.if_icmp .ne 29, 3) := by decide +kernel
theorem dX13_readNumbers_79 : decode cX13_readNumbers 79 = .ok (.aload_n 0, 1) := by decide +kernel
theorem dX13_readNumbers_80 : decode cX13_readNumbers 80 = .ok (.getfield 48, 3) := by decide +kernel
theorem dX13_readNumbers_83 : decode cX13_readNumbers 83 = .ok (.iload_n 1, 1) := by decide +kernel
theorem dX13_readNumbers_84 : decode cX13_readNumbers 84 = .ok (.iconst 2, 1) := by decide +kernel
theorem dX13_readNumbers_85 : decode cX13_readNumbers 85 = .ok (.iadd, 1) := by decide +kernel
theorem dX13_readNumbers_86 : decode cX13_readNumbers 86 = .ok (.aload_n 0, 1) := by decide +kernel
theorem dX13_readNumbers_87 : decode cX13_readNumbers 87 = .ok (.ldc_w 400, 3) := by decide +kernel
theorem dX13_readNumbers_90 : decode cX13_readNumbers 90 = .ok (.invokevirtual 402, 3) := by decide +kernel
theorem dX13_readNumbers_93 : decode cX13_readNumbers 93 = .ok (.ifCond .eq 7, 3) := by decide +kernel
theorem dX13_readNumbers_96 : decode cX13_readNumbers 96 = .ok (.iconst (-1), 1) := by decide +kernel
theorem dX13_readNumbers_97 : decode cX13_readNumbers 97 = .ok (.goto 4, 3) := by decide +kernel
theorem dX13_readNumbers_100 : decode cX13_readNumbers 100 = .ok (.iconst 1, 1) := by decide +kernel
theorem dX13_readNumbers_101 : decode cX13_readNumbers 101 = .ok (.iastore, 1) := by decide +kernel
theorem dX13_readNumbers_102 : decode cX13_readNumbers 102 = .ok (.goto 30, 3) := by decide +kernel
theorem dX13_readNumbers_105 : decode cX13_readNumbers 105 = .ok (.iload_n 2, 1) := by decide +kernel
theorem dX13_readNumbers_106 : decode cX13_readNumbers 106 = .ok (.iconst 3, 1) := by decide +kernel
theorem dX13_readNumbers_107 : decode cX13_readNumbers 107 = .ok (.if_icmp .eq 13, 3) := by decide +kernel
theorem dX13_readNumbers_110 : decode cX13_readNumbers 110 = .ok (.iload_n 2, 1) := by decide +kernel
theorem dX13_readNumbers_111 : decode cX13_readNumbers 111 = .ok (.iconst 4, 1) := by decide +kernel
theorem dX13_readNumbers_112 : decode cX13_readNumbers 112 = .ok (.if_icmp .eq 8, 3) := by decide +kernel
theorem dX13_readNumbers_115 : decode cX13_readNumbers 115 = .ok (.iload_n 2, 1) := by decide +kernel
theorem dX13_readNumbers_116 : decode cX13_readNumbers 116 = .ok (.iconst 5, 1) := by decide +kernel
theorem dX13_readNumbers_117 : decode cX13_readNumbers 117 = .ok (.if_icmp .ne 15, 3) := by decide +kernel
theorem dX13_readNumbers_120 : decode cX13_readNumbers 120 = .ok (.aload_n 0, 1) := by decide +kernel
theorem dX13_readNumbers_121 : decode cX13_readNumbers 121 = .ok (.getfield 48, 3) := by decide +kernel
theorem dX13_readNumbers_124 : decode cX13_readNumbers 124 = .ok (.iload_n 1, 1) := by decide +kernel
theorem dX13_readNumbers_125 : decode cX13_readNumbers 125 = .ok (.iconst 2, 1) := by decide +kernel
theorem dX13_readNumbers_126 : decode cX13_readNumbers 126 = .ok (.iadd, 1) := by decide +kernel
theorem dX13_readNumbers_127 : decode cX13_readNumbers 127 = .ok (.aload_n 0, 1) := by decide +kernel
theorem dX13_readNumbers_128 : decode cX13_readNumbers 128 = .ok (.invokevirtual 367, 3) := by decide +kernel
theorem dX13_readNumbers_131 : decode cX13_readNumbers 131 = .ok (.iastore, 1) := by decide +kernel
theorem dX13_readNumbers_132 : decode cX13_readNumbers 132 = .ok (.return_, 1) := by decide +kernel
theorem dX13_readOrder_0 : decode cX13_readOrder 0 = .ok (.aload_n 0, 1) := by decide +kernel
theorem dX13_readOrder_1 : decode cX13_readOrder 1 = .ok (.invokevirtual 405, 3) := by decide +kernel
theorem dX13_readOrder_4 : decode cX13_readOrder 4 = .ok (.istore_n 1, 1) := by decide +kernel
theorem dX13_readOrder_5 : decode cX13_readOrder 5 = .ok (.aload_n 0, 1) := by decide +kernel
theorem dX13_readOrder_6 : decode cX13_readOrder 6 = .ok (.iload_n 1, 1) := by decide +kernel
theorem dX13_readOrder_7 : decode cX13_readOrder 7 = .ok (.iconst (-1), 1) := by decide +kernel
theorem dX13_readOrder_8 : decode cX13_readOrder 8 = .ok (.if_icmp .eq 7, 3) := by decide +kernel
theorem dX13_readOrder_11 : decode cX13_readOrder 11 = .ok (.iconst 1, 1) := by decide +kernel
theorem dX13_readOrder_12 : decode cX13_readOrder 12 = .ok (.goto 4, 3) := by decide +kernel
theorem dX13_readOrder_15 : decode cX13_readOrder 15 = .ok (.iconst 0, 1) := by decide +kernel
theorem dX13_readOrder_16 : decode cX13_readOrder 16 = .ok (.iconst 1, 1) := by decide +kernel
theorem dX13_readOrder_17 : decode cX13_readOrder 17 = .ok (.invokevirtual 344, 3) := by decide +kernel
theorem dX13_readOrder_20 : decode cX13_readOrder 20 = .ok (.aload_n 0, 1) := by decide +kernel
theorem dX13_readOrder_21 : decode cX13_readOrder 21 = .ok (.aload_n 0, 1) := by decide +kernel
theorem dX13_readOrder_22 : decode cX13_readOrder 22 = .ok (.getfield 318, 3) := by decide +kernel
theorem dX13_readOrder_25 : decode cX13_readOrder 25 = .ok (.ifCond .ne 12, 3) := by decide +kernel
theorem dX13_readOrder_28 : decode cX13_readOrder 28 = .ok (.aload_n 0, 1) := by decide +kernel
theorem dX13_readOrder_29 : decode cX13_readOrder 29 = .ok (.getfield 408, 3) := by decide +kernel
theorem dX13_readOrder_32 : decode cX13_readOrder 32 = .ok (.bipush 20, 2) := by decide +kernel
theorem dX13_readOrder_34 : decode cX13_readOrder 34 = .ok (.if_icmp .ge 7, 3) := by decide +kernel
theorem dX13_readOrder_37 : decode cX13_readOrder 37 = .ok (.iconst 1, 1) := by decide +kernel
theorem dX13_readOrder_38 : decode cX13_readOrder 38 = .ok (.goto 4, 3) := by decide +kernel
theorem dX13_readOrder_41 : decode cX13_readOrder 41 = .ok (.iconst 0, 1) := by decide +kernel
theorem dX13_readOrder_42 : decode cX13_readOrder 42 = .ok (.iconst 3, 1) := by decide +kernel
theorem dX13_readOrder_43 : decode cX13_readOrder 43 = .ok (.invokevirtual 344, 3) := by decide +kernel
theorem dX13_readOrder_46 : decode cX13_readOrder 46 = .ok (.aload_n 0, 1) := by decide +kernel
theorem dX13_readOrder_47 : decode cX13_readOrder 47 = .ok (.invokevirtual 348, 3) := by decide +kernel
theorem dX13_readOrder_50 : decode cX13_readOrder 50 = .ok (.aload_n 0, 1) := by decide +kernel
theorem dX13_readOrder_51 : decode cX13_readOrder 51 = .ok (.getfield 318, 3) := by decide +kernel
theorem dX13_readOrder_54 : decode cX13_readOrder 54 = .ok (.ifCond .eq 4, 3) := by decide +kernel
theorem dX13_readOrder_57 : decode cX13_readOrder 57 = .ok (.return_, 1) := by decide +kernel
theorem dX13_readOrder_58 : decode cX13_readOrder 58 = .ok (.bipush 7, 2) := by decide +kernel
theorem dX13_readOrder_60 : decode cX13_readOrder 60 = .ok (.aload_n 0, 1) := by decide +kernel
theorem dX13_readOrder_61 : decode cX13_readOrder 61 = .ok (.getfield 408, 3) := by decide +kernel
theorem dX13_readOrder_64 : decode cX13_readOrder 64 = .ok (.imul, 1) := by decide +kernel
theorem dX13_readOrder_65 : decode cX13_readOrder 65 = .ok (.istore_n 2, 1) := by decide +kernel
theorem dX13_readOrder_66 : decode cX13_readOrder 66 = .ok (.aload_n 0, 1) := by decide +kernel
theorem dX13_readOrder_67 : decode cX13_readOrder 67 = .ok (.getfield 48, 3) := by decide +kernel
theorem dX13_readOrder_70 : decode cX13_readOrder 70 = .ok (.iload_n 2, 1) := by decide +kernel
theorem dX13_readOrder_71 : decode cX13_readOrder 71 = .ok (.iload_n 1, 1) := by decide +kernel
theorem dX13_readOrder_72 : decode cX13_readOrder 72 = .ok (.iastore, 1) := by decide +kernel
theorem dX13_readOrder_73 : decode cX13_readOrder 73 = .ok (.iload_n 1, 1) := by decide +kernel
theorem dX13_readOrder_74 : decode cX13_readOrder 74 = .ok (.ifCond .ne 27, 3) := by decide +kernel
theorem dX13_readOrder_77 : decode cX13_readOrder 77 = .ok (.aload_n 0, 1) := by decide +kernel
theorem dX13_readOrder_78 : decode cX13_readOrder 78 = .ok (.invokevirtual 382, 3) := by decide +kernel
theorem dX13_readOrder_81 : decode cX13_readOrder 81 = .ok (.aload_n 0, 1) := by decide +kernel
theorem dX13_readOrder_82 : decode cX13_readOrder 82 = .ok (.getfield 29, 3) := by decide +kernel
theorem dX13_readOrder_85 : decode cX13_readOrder 85 = .ok (.iconst 0, 1) := by decide +kernel
theorem dX13_readOrder_86 : decode cX13_readOrder 86 = .ok (.aload_n 0, 1) := by decide +kernel
theorem dX13_readOrder_87 : decode cX13_readOrder 87 = .ok (.getfield 48, 3) := by decide +kernel
theorem dX13_readOrder_90 : decode cX13_readOrder 90 = .ok (.iload_n 2, 1) := by decide +kernel
theorem dX13_readOrder_91 : decode cX13_readOrder 91 = .ok (.iconst 1, 1) := by decide +kernel
theorem dX13_readOrder_92 : decode cX13_readOrder 92 = .ok (.iadd, 1) := by decide +kernel
theorem dX13_readOrder_93 : decode cX13_readOrder 93 = .ok (.bipush 6, 2) := by decide +kernel
theorem dX13_readOrder_95 : decode cX13_readOrder 95 = .ok (.invokestatic 237, 3) := by decide +kernel
theorem dX13_readOrder_98 : decode cX13_readOrder 98 = .ok (.goto 9, 3) := by decide +kernel
theorem dX13_readOrder_101 : decode cX13_readOrder 101 = .ok (.aload_n 0, 1) := by decide +kernel
theorem dX13_readOrder_102 : decode cX13_readOrder 102 = .ok (.iload_n 2, 1) := by decide +kernel
theorem dX13_readOrder_103 : decode cX13_readOrder 103 = .ok (.iload_n 1, 1) := by decide +kernel
theorem dX13_readOrder_104 : decode cX13_readOrder 104 = .ok (.invokevirtual 411, 3) := by decide +kernel
theorem dX13_readOrder_107 : decode cX13_readOrder 107 = .ok (.aload_n 0, 1) := by decide +kernel
theorem dX13_readOrder_108 : decode cX13_readOrder 108 = .ok (.bipush 59, 2) := by decide +kernel
theorem dX13_readOrder_110 : decode cX13_readOrder 110 = .ok (.invokevirtual 376, 3) := by decide +kernel
theorem dX13_readOrder_113 : decode cX13_readOrder 113 = .ok (.aload_n 0, 1) := by decide +kernel
theorem dX13_readOrder_114 : decode cX13_readOrder 114 = .ok (.dup, 1) := by decide +kernel
theorem dX13_readOrder_115 : decode cX13_readOrder 115 = .ok (.getfield 408, 3) := by decide +kernel
theorem dX13_readOrder_118 : decode cX13_readOrder 118 = .ok (.iconst 1, 1) := by decide +kernel
theorem dX13_readOrder_119 : decode cX13_readOrder 119 = .ok (.iadd, 1) := by decide +kernel
theorem dX13_readOrder_120 : decode cX13_readOrder 120 = .ok (.putfield 408, 3) := by decide +kernel
theorem dX13_readOrder_123 : decode cX13_readOrder 123 = .ok (.return_, 1) := by decide +kernel
theorem dX13_does_0 : decode cX13_does 0 = .ok (.aload_n 0, 1) := by decide +kernel
theorem dX13_does_1 : decode cX13_does 1 = .ok (.getfield 48, 3) := by decide +kernel
theorem dX13_does_4 : decode cX13_does 4 = .ok (.iload_n 1, 1) := by decide +kernel
theorem dX13_does_5 : decode cX13_does 5 = .ok (.iconst 1, 1) := by decide +kernel
theorem dX13_does_6 : decode cX13_does 6 = .ok (.iadd, 1) := by decide +kernel
theorem dX13_does_7 : decode cX13_does 7 = .ok (.iaload, 1) := by decide +kernel
theorem dX13_does_8 : decode cX13_does 8 = .ok (.istore_n 2, 1) := by decide +kernel
theorem dX13_does_9 : decode cX13_does 9 = .ok (.aload_n 0, 1) := by decide +kernel
theorem dX13_does_10 : decode cX13_does 10 = .ok (.getfield 48, 3) := by decide +kernel
theorem dX13_does_13 : decode cX13_does 13 = .ok (.iload_n 1, 1) := by decide +kernel
theorem dX13_does_14 : decode cX13_does 14 = .ok (.iconst 2, 1) := by decide +kernel
theorem dX13_does_15 : decode cX13_does 15 = .ok (.iadd, 1) := by decide +kernel
theorem dX13_does_16 : decode cX13_does 16 = .ok (.iaload, 1) := by decide +kernel
theorem dX13_does_17 : decode cX13_does 17 = .ok (.istore_n 3, 1) := by decide +kernel
theorem dX13_does_18 : decode cX13_does 18 = .ok (.aload_n 0, 1) := by decide +kernel
theorem dX13_does_19 : decode cX13_does 19 = .ok (.getfield 48, 3) := by decide +kernel
theorem dX13_does_22 : decode cX13_does 22 = .ok (.iload_n 1, 1) := by decide +kernel
theorem dX13_does_23 : decode cX13_does 23 = .ok (.iaload, 1) := by decide +kernel
theorem dX13_does_24 : decode cX13_does 24 = .ok (.tableswitch 127 0 7 #[48, 70, 85, 92, 100, 108, 116, 122], 48) := by decide +kernel
theorem dX13_does_72 : decode cX13_does 72 = .ok (.aload_n 0, 1) := by decide +kernel
theorem dX13_does_73 : decode cX13_does 73 = .ok (.getfield 48, 3) := by decide +kernel
theorem dX13_does_76 : decode cX13_does 76 = .ok (.iload_n 1, 1) := by decide +kernel
theorem dX13_does_77 : decode cX13_does 77 = .ok (.iconst 1, 1) := by decide +kernel
theorem dX13_does_78 : decode cX13_does 78 = .ok (.iadd, 1) := by decide +kernel
theorem dX13_does_79 : decode cX13_does 79 = .ok (.aload_n 0, 1) := by decide +kernel
theorem dX13_does_80 : decode cX13_does 80 = .ok (.getfield 29, 3) := by decide +kernel
theorem dX13_does_83 : decode cX13_does 83 = .ok (.iconst 0, 1) := by decide +kernel
theorem dX13_does_84 : decode cX13_does 84 = .ok (.bipush 6, 2) := by decide +kernel
theorem dX13_does_86 : decode cX13_does 86 = .ok (.invokestatic 237, 3) := by decide +kernel
theorem dX13_does_89 : decode cX13_does 89 = .ok (.aload_n 0, 1) := by decide +kernel
theorem dX13_does_90 : decode cX13_does 90 = .ok (.invokevirtual 397, 3) := by decide +kernel
theorem dX13_does_93 : decode cX13_does 93 = .ok (.ireturn, 1) := by decide +kernel
theorem dX13_does_94 : decode cX13_does 94 = .ok (.aload_n 0, 1) := by decide +kernel
theorem dX13_does_95 : decode cX13_does 95 = .ok (.iload_n 2, 1) := by decide +kernel
theorem dX13_does_96 : decode cX13_does 96 = .ok (.iload_n 3, 1) := by decide +kernel
theorem dX13_does_97 : decode cX13_does 97 = .ok (.aload_n 0, 1) := by decide +kernel
theorem dX13_does_98 : decode cX13_does 98 = .ok (.getfield 48, 3) := by decide +kernel
theorem dX13_does_101 : decode cX13_does 101 = .ok (.iload_n 1, 1) := by decide +kernel
theorem dX13_does_102 : decode cX13_does 102 = .ok (.iconst 3, 1) := by decide +kernel
theorem dX13_does_103 : decode cX13_does 103 = .ok (.iadd, 1) := by decide +kernel
theorem dX13_does_104 : decode cX13_does 104 = .ok (.iaload, 1) := by decide +kernel
theorem dX13_does_105 : decode cX13_does 105 = .ok (.invokevirtual 259, 3) := by decide +kernel
theorem dX13_does_108 : decode cX13_does 108 = .ok (.ireturn, 1) := by decide +kernel
theorem dX13_does_109 : decode cX13_does 109 = .ok (.aload_n 0, 1) := by decide +kernel
theorem dX13_does_110 : decode cX13_does 110 = .ok (.iload_n 2, 1) := by decide +kernel
theorem dX13_does_111 : decode cX13_does 111 = .ok (.iload_n 3, 1) := by decide +kernel
theorem dX13_does_112 : decode cX13_does 112 = .ok (.invokevirtual 263, 3) := by decide +kernel
theorem dX13_does_115 : decode cX13_does 115 = .ok (.ireturn, 1) := by decide +kernel
theorem dX13_does_116 : decode cX13_does 116 = .ok (.aload_n 0, 1) := by decide +kernel
theorem dX13_does_117 : decode cX13_does 117 = .ok (.iload_n 2, 1) := by decide +kernel
theorem dX13_does_118 : decode cX13_does 118 = .ok (.iload_n 3, 1) := by decide +kernel
theorem dX13_does_119 : decode cX13_does 119 = .ok (.iconst (-1), 1) := by decide +kernel
theorem dX13_does_120 : decode cX13_does 120 = .ok (.invokevirtual 266, 3) := by decide +kernel
theorem dX13_does_123 : decode cX13_does 123 = .ok (.ireturn, 1) := by decide +kernel
theorem dX13_does_124 : decode cX13_does 124 = .ok (.aload_n 0, 1) := by decide +kernel
theorem dX13_does_125 : decode cX13_does 125 = .ok (.iload_n 2, 1) := by decide +kernel
theorem dX13_does_126 : decode cX13_does 126 = .ok (.iload_n 3, 1) := by decide +kernel
theorem dX13_does_127 : decode cX13_does 127 = .ok (.iconst 0, 1) := by decide +kernel
theorem dX13_does_128 : decode cX13_does 128 = .ok (.invokevirtual 266, 3) := by decide +kernel
theorem dX13_does_131 : decode cX13_does 131 = .ok (.ireturn, 1) := by decide +kernel
theorem dX13_does_132 : decode cX13_does 132 = .ok (.aload_n 0, 1) := by decide +kernel
theorem dX13_does_133 : decode cX13_does 133 = .ok (.iload_n 2, 1) := by decide +kernel
theorem dX13_does_134 : decode cX13_does 134 = .ok (.iload_n 3, 1) := by decide +kernel
theorem dX13_does_135 : decode cX13_does 135 = .ok (.iconst 1, 1) := by decide +kernel
theorem dX13_does_136 : decode cX13_does 136 = .ok (.invokevirtual 266, 3) := by decide +kernel
theorem dX13_does_139 : decode cX13_does 139 = .ok (.ireturn, 1) := by decide +kernel
theorem dX13_does_140 : decode cX13_does 140 = .ok (.aload_n 0, 1) := by decide +kernel
theorem dX13_does_141 : decode cX13_does 141 = .ok (.iload_n 2, 1) := by decide +kernel
theorem dX13_does_142 : decode cX13_does 142 = .ok (.invokevirtual 272, 3) := by decide +kernel
theorem dX13_does_145 : decode cX13_does 145 = .ok (.ireturn, 1) := by decide +kernel
theorem dX13_does_146 : decode cX13_does 146 = .ok (.aload_n 0, 1) := by decide +kernel
theorem dX13_does_147 : decode cX13_does 147 = .ok (.invokevirtual 275, 3) := by decide +kernel
theorem dX13_does_150 : decode cX13_does 150 = .ok (.ireturn, 1) := by decide +kernel
theorem dX13_does_151 : decode cX13_does 151 = .ok (.aload_n 0, 1) := by decide +kernel
theorem dX13_does_152 : decode cX13_does 152 = .ok (.iload_n 2, 1) := by decide +kernel
theorem dX13_does_153 : decode cX13_does 153 = .ok (.invokevirtual 278, 3) := by decide +kernel
theorem dX13_does_156 : decode cX13_does 156 = .ok (.ireturn, 1) := by decide +kernel
theorem dX13_runScript_0 : decode cX13_runScript 0 = .ok (.aload_n 0, 1) := by decide +kernel
theorem dX13_runScript_1 : decode cX13_runScript 1 = .ok (.aload_n 0, 1) := by decide +kernel
theorem dX13_runScript_2 : decode cX13_runScript 2 = .ok (.iload_n 1, 1) := by decide +kernel
theorem dX13_runScript_3 : decode cX13_runScript 3 = .ok (.invokevirtual 385, 3) := by decide +kernel
theorem dX13_runScript_6 : decode cX13_runScript 6 = .ok (.invokevirtual 88, 3) := by decide +kernel
theorem dX13_runScript_9 : decode cX13_runScript 9 = .ok (.ifCond .eq 5, 3) := by decide +kernel
theorem dX13_runScript_12 : decode cX13_runScript 12 = .ok (.iconst 0, 1) := by decide +kernel
theorem dX13_runScript_13 : decode cX13_runScript 13 = .ok (.ireturn, 1) := by decide +kernel
theorem dX13_runScript_14 : decode cX13_runScript 14 = .ok (.aload_n 0, 1) := by decide +kernel
theorem dX13_runScript_15 : decode cX13_runScript 15 = .ok (.iconst 0, 1) := by decide +kernel
theorem dX13_runScript_16 : decode cX13_runScript 16 = .ok (.putfield 408, 3) := by decide +kernel
theorem dX13_runScript_19 : decode cX13_runScript 19 = .ok (.aload_n 0, 1) := by decide +kernel
theorem dX13_runScript_20 : decode cX13_runScript 20 = .ok (.iload_n 1, 1) := by decide +kernel
theorem dX13_runScript_21 : decode cX13_runScript 21 = .ok (.invokevirtual 388, 3) := by decide +kernel
theorem dX13_runScript_24 : decode cX13_runScript 24 = .ok (.aload_n 0, 1) := by decide +kernel
theorem dX13_runScript_25 : decode cX13_runScript 25 = .ok (.getfield 318, 3) := by decide +kernel
theorem dX13_runScript_28 : decode cX13_runScript 28 = .ok (.ifCond .ne 17, 3) := by decide +kernel
theorem dX13_runScript_31 : decode cX13_runScript 31 = .ok (.aload_n 0, 1) := by decide +kernel
theorem dX13_runScript_32 : decode cX13_runScript 32 = .ok (.getfield 309, 3) := by decide +kernel
theorem dX13_runScript_35 : decode cX13_runScript 35 = .ok (.ifCond .eq 10, 3) := by decide +kernel
theorem dX13_runScript_38 : decode cX13_runScript 38 = .ok (.aload_n 0, 1) := by decide +kernel
theorem dX13_runScript_39 : decode cX13_runScript 39 = .ok (.invokevirtual 414, 3) := by decide +kernel
theorem dX13_runScript_42 : decode cX13_runScript 42 = .ok (.goto (-18), 3) := by decide +kernel
theorem dX13_runScript_45 : decode cX13_runScript 45 = .ok (.aload_n 0, 1) := by decide +kernel
theorem dX13_runScript_46 : decode cX13_runScript 46 = .ok (.invokevirtual 394, 3) := by decide +kernel
theorem dX13_runScript_49 : decode cX13_runScript 49 = .ok (.ifCond .eq 5, 3) := by decide +kernel
theorem dX13_runScript_52 : decode cX13_runScript 52 = .ok (.iconst (-1), 1) := by decide +kernel
theorem dX13_runScript_53 : decode cX13_runScript 53 = .ok (.ireturn, 1) := by decide +kernel
theorem dX13_runScript_54 : decode cX13_runScript 54 = .ok (.aload_n 0, 1) := by decide +kernel
theorem dX13_runScript_55 : decode cX13_runScript 55 = .ok (.invokevirtual 253, 3) := by decide +kernel
theorem dX13_runScript_58 : decode cX13_runScript 58 = .ok (.aload_n 0, 1) := by decide +kernel
theorem dX13_runScript_59 : decode cX13_runScript 59 = .ok (.invokevirtual 250, 3) := by decide +kernel
theorem dX13_runScript_62 : decode cX13_runScript 62 = .ok (.iconst 0, 1) := by decide +kernel
theorem dX13_runScript_63 : decode cX13_runScript 63 = .ok (.istore_n 2, 1) := by decide +kernel
theorem dX13_runScript_64 : decode cX13_runScript 64 = .ok (.iload_n 2, 1) := by decide +kernel
theorem dX13_runScript_65 : decode cX13_runScript 65 = .ok (.aload_n 0, 1) := by decide +kernel
theorem dX13_runScript_66 : decode cX13_runScript 66 = .ok (.getfield 408, 3) := by decide +kernel
theorem dX13_runScript_69 : decode cX13_runScript 69 = .ok (.if_icmp .ge 20, 3) := by decide +kernel
theorem dX13_runScript_72 : decode cX13_runScript 72 = .ok (.aload_n 0, 1) := by decide +kernel
theorem dX13_runScript_73 : decode cX13_runScript 73 = .ok (.bipush 7, 2) := by decide +kernel
theorem dX13_runScript_75 : decode cX13_runScript 75 = .ok (.iload_n 2, 1) := by decide +kernel
theorem dX13_runScript_76 : decode cX13_runScript 76 = .ok (.imul, 1) := by decide +kernel
theorem dX13_runScript_77 : decode cX13_runScript 77 = .ok (.invokevirtual 417, 3) := by decide +kernel
theorem dX13_runScript_80 : decode cX13_runScript 80 = .ok (.ifCond .ne 9, 3) := by decide +kernel
theorem dX13_runScript_83 : decode cX13_runScript 83 = .ok (.iinc 2 1, 3) := by decide +kernel
theorem dX13_runScript_86 : decode cX13_runScript 86 = .ok (.goto (-22), 3) := by decide +kernel
theorem dX13_runScript_89 : decode cX13_runScript 89 = .ok (.iload_n 2, 1) := by decide +kernel
theorem dX13_runScript_90 : decode cX13_runScript 90 = .ok (.ireturn, 1) := by decide +kernel
