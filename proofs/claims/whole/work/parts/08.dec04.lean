theorem dX4_isRule_19 : decode cX4_isRule 19 = .ok (.iconst 0, 1) := by decide +kernel
theorem dX4_isRule_20 : decode cX4_isRule 20 = .ok (.ireturn, 1) := by decide +kernel
theorem dX4_isWorth_0 : decode cX4_isWorth 0 = .ok (.iload_n 0, 1) := by decide +kernel
theorem dX4_isWorth_1 : decode cX4_isWorth 1 = .ok (.bipush (-99), 2) := by decide +kernel
theorem dX4_isWorth_3 : decode cX4_isWorth 3 = .ok (.if_icmp .lt 13, 3) := by decide +kernel
theorem dX4_isWorth_6 : decode cX4_isWorth 6 = .ok (.iload_n 0, 1) := by decide +kernel
theorem dX4_isWorth_7 : decode cX4_isWorth 7 = .ok (.bipush 99, 2) := by decide +kernel
theorem dX4_isWorth_9 : decode cX4_isWorth 9 = .ok (.if_icmp .gt 7, 3) := by decide +kernel
theorem dX4_isWorth_12 : decode cX4_isWorth 12 = .ok (.iconst 1, 1) := by decide +kernel
theorem dX4_isWorth_13 : decode cX4_isWorth 13 = .ok (.goto 4, 3) := by decide +kernel
theorem dX4_isWorth_16 : decode cX4_isWorth 16 = .ok (.iconst 0, 1) := by decide +kernel
theorem dX4_isWorth_17 : decode cX4_isWorth 17 = .ok (.ireturn, 1) := by decide +kernel
theorem dX4_isCount_0 : decode cX4_isCount 0 = .ok (.iload_n 0, 1) := by decide +kernel
theorem dX4_isCount_1 : decode cX4_isCount 1 = .ok (.ifCond .lt 13, 3) := by decide +kernel
theorem dX4_isCount_4 : decode cX4_isCount 4 = .ok (.iload_n 0, 1) := by decide +kernel
theorem dX4_isCount_5 : decode cX4_isCount 5 = .ok (.bipush 9, 2) := by decide +kernel
theorem dX4_isCount_7 : decode cX4_isCount 7 = .ok (.if_icmp .gt 7, 3) := by decide +kernel
theorem dX4_isCount_10 : decode cX4_isCount 10 = .ok (.iconst 1, 1) := by decide +kernel
theorem dX4_isCount_11 : decode cX4_isCount 11 = .ok (.goto 4, 3) := by decide +kernel
theorem dX4_isCount_14 : decode cX4_isCount 14 = .ok (.iconst 0, 1) := by decide +kernel
theorem dX4_isCount_15 : decode cX4_isCount 15 = .ok (.ireturn, 1) := by decide +kernel
theorem dX4_isLimit_0 : decode cX4_isLimit 0 = .ok (.lload_n 1, 1) := by decide +kernel
theorem dX4_isLimit_1 : decode cX4_isLimit 1 = .ok (.lconst 0, 1) := by decide +kernel
theorem dX4_isLimit_2 : decode cX4_isLimit 2 = .ok (.lcmp, 1) := by decide +kernel
theorem dX4_isLimit_3 : decode cX4_isLimit 3 = .ok (.ifCond .lt 25, 3) := by decide +kernel
theorem dX4_isLimit_6 : decode cX4_isLimit 6 = .ok (.lload_n 1, 1) := by decide +kernel
theorem dX4_isLimit_7 : decode cX4_isLimit 7 = .ok (.iload_n 0, 1) := by decide +kernel
theorem dX4_isLimit_8 : decode cX4_isLimit 8 = .ok (.ifCond .ne 9, 3) := by decide +kernel
theorem dX4_isLimit_11 : decode cX4_isLimit 11 = .ok (.sipush 999, 3) := by decide +kernel
theorem dX4_isLimit_14 : decode cX4_isLimit 14 = .ok (.goto 5, 3) := by decide +kernel
theorem dX4_isLimit_17 : decode cX4_isLimit 17 = .ok (.bipush 9, 2) := by decide +kernel
theorem dX4_isLimit_19 : decode cX4_isLimit 19 = .ok (.i2l, 1) := by decide +kernel
theorem dX4_isLimit_20 : decode cX4_isLimit 20 = .ok (.lcmp, 1) := by decide +kernel
theorem dX4_isLimit_21 : decode cX4_isLimit 21 = .ok (.ifCond .gt 7, 3) := by decide +kernel
theorem dX4_isLimit_24 : decode cX4_isLimit 24 = .ok (.iconst 1, 1) := by decide +kernel
theorem dX4_isLimit_25 : decode cX4_isLimit 25 = .ok (.goto 4, 3) := by decide +kernel
theorem dX4_isLimit_28 : decode cX4_isLimit 28 = .ok (.iconst 0, 1) := by decide +kernel
theorem dX4_isLimit_29 : decode cX4_isLimit 29 = .ok (.ireturn, 1) := by decide +kernel
theorem dX4_replace_0 : decode cX4_replace 0 = .ok (.aload_n 1, 1) := by decide +kernel
theorem dX4_replace_1 : decode cX4_replace 1 = .ok (.iload_n 2, 1) := by decide +kernel
theorem dX4_replace_2 : decode cX4_replace 2 = .ok (.iaload, 1) := by decide +kernel
theorem dX4_replace_3 : decode cX4_replace 3 = .ok (.istore 4, 2) := by decide +kernel
theorem dX4_replace_5 : decode cX4_replace 5 = .ok (.aload_n 1, 1) := by decide +kernel
theorem dX4_replace_6 : decode cX4_replace 6 = .ok (.iload_n 2, 1) := by decide +kernel
theorem dX4_replace_7 : decode cX4_replace 7 = .ok (.iload_n 3, 1) := by decide +kernel
theorem dX4_replace_8 : decode cX4_replace 8 = .ok (.iastore, 1) := by decide +kernel
theorem dX4_replace_9 : decode cX4_replace 9 = .ok (.aload_n 0, 1) := by decide +kernel
theorem dX4_replace_10 : decode cX4_replace 10 = .ok (.invokevirtual 54, 3) := by decide +kernel
theorem dX4_replace_13 : decode cX4_replace 13 = .ok (.iload 4, 2) := by decide +kernel
theorem dX4_replace_15 : decode cX4_replace 15 = .ok (.ireturn, 1) := by decide +kernel
theorem dX4_markChanged_0 : decode cX4_markChanged 0 = .ok (.aload_n 0, 1) := by decide +kernel
theorem dX4_markChanged_1 : decode cX4_markChanged 1 = .ok (.iconst 0, 1) := by decide +kernel
theorem dX4_markChanged_2 : decode cX4_markChanged 2 = .ok (.putfield 203, 3) := by decide +kernel
theorem dX4_markChanged_5 : decode cX4_markChanged 5 = .ok (.aload_n 0, 1) := by decide +kernel
theorem dX4_markChanged_6 : decode cX4_markChanged 6 = .ok (.iconst 0, 1) := by decide +kernel
theorem dX4_markChanged_7 : decode cX4_markChanged 7 = .ok (.putfield 207, 3) := by decide +kernel
theorem dX4_markChanged_10 : decode cX4_markChanged 10 = .ok (.return_, 1) := by decide +kernel
theorem dX4_freshSurvey_0 : decode cX4_freshSurvey 0 = .ok (.aload_n 0, 1) := by decide +kernel
theorem dX4_freshSurvey_1 : decode cX4_freshSurvey 1 = .ok (.getfield 203, 3) := by decide +kernel
theorem dX4_freshSurvey_4 : decode cX4_freshSurvey 4 = .ok (.ifCond .ne 26, 3) := by decide +kernel
theorem dX4_freshSurvey_7 : decode cX4_freshSurvey 7 = .ok (.aload_n 0, 1) := by decide +kernel
theorem dX4_freshSurvey_8 : decode cX4_freshSurvey 8 = .ok (.getfield 24, 3) := by decide +kernel
theorem dX4_freshSurvey_11 : decode cX4_freshSurvey 11 = .ok (.aload_n 0, 1) := by decide +kernel
theorem dX4_freshSurvey_12 : decode cX4_freshSurvey 12 = .ok (.getfield 10, 3) := by decide +kernel
theorem dX4_freshSurvey_15 : decode cX4_freshSurvey 15 = .ok (.aload_n 0, 1) := by decide +kernel
theorem dX4_freshSurvey_16 : decode cX4_freshSurvey 16 = .ok (.getfield 20, 3) := by decide +kernel
theorem dX4_freshSurvey_19 : decode cX4_freshSurvey 19 = .ok (.getfield 47, 3) := by decide +kernel
theorem dX4_freshSurvey_22 : decode cX4_freshSurvey 22 = .ok (.invokevirtual 210, 3) := by decide +kernel
theorem dX4_freshSurvey_25 : decode cX4_freshSurvey 25 = .ok (.aload_n 0, 1) := by decide +kernel
theorem dX4_freshSurvey_26 : decode cX4_freshSurvey 26 = .ok (.iconst 1, 1) := by decide +kernel
theorem dX4_freshSurvey_27 : decode cX4_freshSurvey 27 = .ok (.putfield 203, 3) := by decide +kernel
theorem dX4_freshSurvey_30 : decode cX4_freshSurvey 30 = .ok (.aload_n 0, 1) := by decide +kernel
theorem dX4_freshSurvey_31 : decode cX4_freshSurvey 31 = .ok (.getfield 24, 3) := by decide +kernel
theorem dX4_freshSurvey_34 : decode cX4_freshSurvey 34 = .ok (.areturn, 1) := by decide +kernel
theorem dX4_freshCorners_0 : decode cX4_freshCorners 0 = .ok (.aload_n 0, 1) := by decide +kernel
theorem dX4_freshCorners_1 : decode cX4_freshCorners 1 = .ok (.getfield 207, 3) := by decide +kernel
theorem dX4_freshCorners_4 : decode cX4_freshCorners 4 = .ok (.ifCond .ne 19, 3) := by decide +kernel
theorem dX4_freshCorners_7 : decode cX4_freshCorners 7 = .ok (.aload_n 0, 1) := by decide +kernel
theorem dX4_freshCorners_8 : decode cX4_freshCorners 8 = .ok (.getfield 31, 3) := by decide +kernel
theorem dX4_freshCorners_11 : decode cX4_freshCorners 11 = .ok (.aload_n 0, 1) := by decide +kernel
theorem dX4_freshCorners_12 : decode cX4_freshCorners 12 = .ok (.getfield 20, 3) := by decide +kernel
theorem dX4_freshCorners_15 : decode cX4_freshCorners 15 = .ok (.invokevirtual 214, 3) := by decide +kernel
theorem dX4_freshCorners_18 : decode cX4_freshCorners 18 = .ok (.aload_n 0, 1) := by decide +kernel
theorem dX4_freshCorners_19 : decode cX4_freshCorners 19 = .ok (.iconst 1, 1) := by decide +kernel
theorem dX4_freshCorners_20 : decode cX4_freshCorners 20 = .ok (.putfield 207, 3) := by decide +kernel
theorem dX4_freshCorners_23 : decode cX4_freshCorners 23 = .ok (.aload_n 0, 1) := by decide +kernel
theorem dX4_freshCorners_24 : decode cX4_freshCorners 24 = .ok (.getfield 31, 3) := by decide +kernel
theorem dX4_freshCorners_27 : decode cX4_freshCorners 27 = .ok (.areturn, 1) := by decide +kernel
theorem dX4_inLowestTerms_0 : decode cX4_inLowestTerms 0 = .ok (.lload_n 0, 1) := by decide +kernel
theorem dX4_inLowestTerms_1 : decode cX4_inLowestTerms 1 = .ok (.invokestatic 218, 3) := by decide +kernel
theorem dX4_inLowestTerms_4 : decode cX4_inLowestTerms 4 = .ok (.lload_n 2, 1) := by decide +kernel
theorem dX4_inLowestTerms_5 : decode cX4_inLowestTerms 5 = .ok (.invokestatic 224, 3) := by decide +kernel
theorem dX4_inLowestTerms_8 : decode cX4_inLowestTerms 8 = .ok (.lstore 5, 2) := by decide +kernel
theorem dX4_inLowestTerms_10 : decode cX4_inLowestTerms 10 = .ok (.lload 5, 2) := by decide +kernel
theorem dX4_inLowestTerms_12 : decode cX4_inLowestTerms 12 = .ok (.lconst 0, 1) := by decide +kernel
theorem dX4_inLowestTerms_13 : decode cX4_inLowestTerms 13 = .ok (.lcmp, 1) := by decide +kernel
theorem dX4_inLowestTerms_14 : decode cX4_inLowestTerms 14 = .ok (.ifCond .ne 14, 3) := by decide +kernel
theorem dX4_inLowestTerms_17 : decode cX4_inLowestTerms 17 = .ok (.iload 4, 2) := by decide +kernel
theorem dX4_inLowestTerms_19 : decode cX4_inLowestTerms 19 = .ok (.ifCond .eq 7, 3) := by decide +kernel
theorem dX4_inLowestTerms_22 : decode cX4_inLowestTerms 22 = .ok (.lconst 1, 1) := by decide +kernel
theorem dX4_inLowestTerms_23 : decode cX4_inLowestTerms 23 = .ok (.goto 4, 3) := by decide +kernel
theorem dX4_inLowestTerms_26 : decode cX4_inLowestTerms 26 = .ok (.lconst 0, 1) := by decide +kernel
theorem dX4_inLowestTerms_27 : decode cX4_inLowestTerms 27 = .ok (.lreturn, 1) := by decide +kernel
theorem dX4_inLowestTerms_28 : decode cX4_inLowestTerms 28 = .ok (.iload 4, 2) := by decide +kernel
theorem dX4_inLowestTerms_30 : decode cX4_inLowestTerms 30 = .ok (.ifCond .eq 7, 3) := by decide +kernel
theorem dX4_inLowestTerms_33 : decode cX4_inLowestTerms 33 = .ok (.lload_n 2, 1) := by decide +kernel
theorem dX4_inLowestTerms_34 : decode cX4_inLowestTerms 34 = .ok (.goto 4, 3) := by decide +kernel
theorem dX4_inLowestTerms_37 : decode cX4_inLowestTerms 37 = .ok (.lload_n 0, 1) := by decide +kernel
theorem dX4_inLowestTerms_38 : decode cX4_inLowestTerms 38 = .ok (.lload 5, 2) := by decide +kernel
theorem dX4_inLowestTerms_40 : decode cX4_inLowestTerms 40 = .ok (.ldiv, 1) := by decide +kernel
theorem dX4_inLowestTerms_41 : decode cX4_inLowestTerms 41 = .ok (.lreturn, 1) := by decide +kernel
theorem dX4_commonDivisor_0 : decode cX4_commonDivisor 0 = .ok (.iconst 0, 1) := by decide +kernel
theorem dX4_commonDivisor_1 : decode cX4_commonDivisor 1 = .ok (.istore 4, 2) := by decide +kernel
theorem dX4_commonDivisor_3 : decode cX4_commonDivisor 3 = .ok (.iload 4, 2) := by decide +kernel
theorem dX4_commonDivisor_5 : decode cX4_commonDivisor 5 = .ok (.sipush 200, 3) := by decide +kernel
theorem dX4_commonDivisor_8 : decode cX4_commonDivisor 8 = .ok (.if_icmp .ge 25, 3) := by decide +kernel
theorem dX4_commonDivisor_11 : decode cX4_commonDivisor 11 = .ok (.lload_n 2, 1) := by decide +kernel
theorem dX4_commonDivisor_12 : decode cX4_commonDivisor 12 = .ok (.lconst 0, 1) := by decide +kernel
theorem dX4_commonDivisor_13 : decode cX4_commonDivisor 13 = .ok (.lcmp, 1) := by decide +kernel
theorem dX4_commonDivisor_14 : decode cX4_commonDivisor 14 = .ok (.ifCond .eq 19, 3) := by decide +kernel
theorem dX4_commonDivisor_17 : decode cX4_commonDivisor 17 = .ok (.lload_n 0, 1) := by decide +kernel
theorem dX4_commonDivisor_18 : decode cX4_commonDivisor 18 = .ok (.lload_n 2, 1) := by decide +kernel
theorem dX4_commonDivisor_19 : decode cX4_commonDivisor 19 = .ok (.lrem, 1) := by decide +kernel
theorem dX4_commonDivisor_20 : decode cX4_commonDivisor 20 = .ok (.lstore 5, 2) := by decide +kernel
theorem dX4_commonDivisor_22 : decode cX4_commonDivisor 22 = .ok (.lload_n 2, 1) := by decide +kernel
theorem dX4_commonDivisor_23 : decode cX4_commonDivisor 23 = .ok (.lstore_n 0, 1) := by decide +kernel
theorem dX4_commonDivisor_24 : decode cX4_commonDivisor 24 = .ok (.lload 5, 2) := by decide +kernel
theorem dX4_commonDivisor_26 : decode cX4_commonDivisor 26 = .ok (.lstore_n 2, 1) := by decide +kernel
theorem dX4_commonDivisor_27 : decode cX4_commonDivisor 27 = .ok (.iinc 4 1, 3) := by decide +kernel
theorem dX4_commonDivisor_30 : decode cX4_commonDivisor 30 = .ok (.goto (-27), 3) := by decide +kernel
theorem dX4_commonDivisor_33 : decode cX4_commonDivisor 33 = .ok (.lload_n 0, 1) := by decide +kernel
theorem dX4_commonDivisor_34 : decode cX4_commonDivisor 34 = .ok (.lreturn, 1) := by decide +kernel
theorem dX5_init_0 : decode cX5_init 0 = .ok (.aload_n 0, 1) := by decide +kernel
theorem dX5_init_1 : decode cX5_init 1 = .ok (.invokespecial 1, 3) := by decide +kernel
theorem dX5_init_4 : decode cX5_init 4 = .ok (.aload_n 0, 1) := by decide +kernel
theorem dX5_init_5 : decode cX5_init 5 = .ok (.iconst 4, 1) := by decide +kernel
theorem dX5_init_6 : decode cX5_init 6 = .ok (.newarray .int, 2) := by decide +kernel
theorem dX5_init_8 : decode cX5_init 8 = .ok (.putfield 7, 3) := by decide +kernel
theorem dX5_init_11 : decode cX5_init 11 = .ok (.aload_n 0, 1) := by decide +kernel
theorem dX5_init_12 : decode cX5_init 12 = .ok (.iconst 4, 1) := by decide +kernel
theorem dX5_init_13 : decode cX5_init 13 = .ok (.newarray .int, 2) := by decide +kernel
theorem dX5_init_15 : decode cX5_init 15 = .ok (.putfield 13, 3) := by decide +kernel
theorem dX5_init_18 : decode cX5_init 18 = .ok (.aload_n 0, 1) := by decide +kernel
theorem dX5_init_19 : decode cX5_init 19 = .ok (.bipush 6, 2) := by decide +kernel
theorem dX5_init_21 : decode cX5_init 21 = .ok (.newarray .int, 2) := by decide +kernel
theorem dX5_init_23 : decode cX5_init 23 = .ok (.putfield 16, 3) := by decide +kernel
theorem dX5_init_26 : decode cX5_init 26 = .ok (.aload_n 0, 1) := by decide +kernel
theorem dX5_init_27 : decode cX5_init 27 = .ok (.bipush 6, 2) := by decide +kernel
theorem dX5_init_29 : decode cX5_init 29 = .ok (.newarray .int, 2) := by decide +kernel
theorem dX5_init_31 : decode cX5_init 31 = .ok (.putfield 19, 3) := by decide +kernel
theorem dX5_init_34 : decode cX5_init 34 = .ok (.aload_n 0, 1) := by decide +kernel
theorem dX5_init_35 : decode cX5_init 35 = .ok (.bipush 6, 2) := by decide +kernel
theorem dX5_init_37 : decode cX5_init 37 = .ok (.newarray .int, 2) := by decide +kernel
theorem dX5_init_39 : decode cX5_init 39 = .ok (.putfield 22, 3) := by decide +kernel
theorem dX5_init_42 : decode cX5_init 42 = .ok (.aload_n 0, 1) := by decide +kernel
theorem dX5_init_43 : decode cX5_init 43 = .ok (.bipush 6, 2) := by decide +kernel
theorem dX5_init_45 : decode cX5_init 45 = .ok (.newarray .int, 2) := by decide +kernel
theorem dX5_init_47 : decode cX5_init 47 = .ok (.putfield 25, 3) := by decide +kernel
theorem dX5_init_50 : decode cX5_init 50 = .ok (.aload_n 0, 1) := by decide +kernel
theorem dX5_init_51 : decode cX5_init 51 = .ok (.bipush 6, 2) := by decide +kernel
theorem dX5_init_53 : decode cX5_init 53 = .ok (.newarray .boolean, 2) := by decide +kernel
theorem dX5_init_55 : decode cX5_init 55 = .ok (.putfield 28, 3) := by decide +kernel
theorem dX5_init_58 : decode cX5_init 58 = .ok (.aload_n 0, 1) := by decide +kernel
theorem dX5_init_59 : decode cX5_init 59 = .ok (.bipush 24, 2) := by decide +kernel
theorem dX5_init_61 : decode cX5_init 61 = .ok (.newarray .int, 2) := by decide +kernel
theorem dX5_init_63 : decode cX5_init 63 = .ok (.putfield 32, 3) := by decide +kernel
theorem dX5_init_66 : decode cX5_init 66 = .ok (.aload_n 0, 1) := by decide +kernel
theorem dX5_init_67 : decode cX5_init 67 = .ok (.iconst 4, 1) := by decide +kernel
theorem dX5_init_68 : decode cX5_init 68 = .ok (.newarray .int, 2) := by decide +kernel
theorem dX5_init_70 : decode cX5_init 70 = .ok (.putfield 35, 3) := by decide +kernel
theorem dX5_init_73 : decode cX5_init 73 = .ok (.aload_n 0, 1) := by decide +kernel
theorem dX5_init_74 : decode cX5_init 74 = .ok (.iconst 4, 1) := by decide +kernel
theorem dX5_init_75 : decode cX5_init 75 = .ok (.newarray .int, 2) := by decide +kernel
theorem dX5_init_77 : decode cX5_init 77 = .ok (.putfield 38, 3) := by decide +kernel
theorem dX5_init_80 : decode cX5_init 80 = .ok (.aload_n 0, 1) := by decide +kernel
theorem dX5_init_81 : decode cX5_init 81 = .ok (.iconst 4, 1) := by decide +kernel
theorem dX5_init_82 : decode cX5_init 82 = .ok (.newarray .int, 2) := by decide +kernel
theorem dX5_init_84 : decode cX5_init 84 = .ok (.putfield 41, 3) := by decide +kernel
theorem dX5_init_87 : decode cX5_init 87 = .ok (.aload_n 0, 1) := by decide +kernel
theorem dX5_init_88 : decode cX5_init 88 = .ok (.iconst 4, 1) := by decide +kernel
theorem dX5_init_89 : decode cX5_init 89 = .ok (.newarray .boolean, 2) := by decide +kernel
theorem dX5_init_91 : decode cX5_init 91 = .ok (.putfield 44, 3) := by decide +kernel
theorem dX5_init_94 : decode cX5_init 94 = .ok (.aload_n 0, 1) := by decide +kernel
theorem dX5_init_95 : decode cX5_init 95 = .ok (.bipush 6, 2) := by decide +kernel
theorem dX5_init_97 : decode cX5_init 97 = .ok (.newarray .int, 2) := by decide +kernel
theorem dX5_init_99 : decode cX5_init 99 = .ok (.putfield 47, 3) := by decide +kernel
theorem dX5_init_102 : decode cX5_init 102 = .ok (.aload_n 0, 1) := by decide +kernel
theorem dX5_init_103 : decode cX5_init 103 = .ok (.bipush 56, 2) := by decide +kernel
theorem dX5_init_105 : decode cX5_init 105 = .ok (.newarray .int, 2) := by decide +kernel
theorem dX5_init_107 : decode cX5_init 107 = .ok (.putfield 50, 3) := by decide +kernel
theorem dX5_init_110 : decode cX5_init 110 = .ok (.aload_n 0, 1) := by decide +kernel
theorem dX5_init_111 : decode cX5_init 111 = .ok (.bipush 14, 2) := by decide +kernel
theorem dX5_init_113 : decode cX5_init 113 = .ok (.newarray .int, 2) := by decide +kernel
theorem dX5_init_115 : decode cX5_init 115 = .ok (.putfield 53, 3) := by decide +kernel
theorem dX5_init_118 : decode cX5_init 118 = .ok (.aload_n 0, 1) := by decide +kernel
theorem dX5_init_119 : decode cX5_init 119 = .ok (.bipush 14, 2) := by decide +kernel
theorem dX5_init_121 : decode cX5_init 121 = .ok (.newarray .int, 2) := by decide +kernel
theorem dX5_init_123 : decode cX5_init 123 = .ok (.putfield 56, 3) := by decide +kernel
theorem dX5_init_126 : decode cX5_init 126 = .ok (.aload_n 0, 1) := by decide +kernel
theorem dX5_init_127 : decode cX5_init 127 = .ok (.bipush 14, 2) := by decide +kernel
theorem dX5_init_129 : decode cX5_init 129 = .ok (.newarray .int, 2) := by decide +kernel
theorem dX5_init_131 : decode cX5_init 131 = .ok (.putfield 59, 3) := by decide +kernel
theorem dX5_init_134 : decode cX5_init 134 = .ok (.aload_n 0, 1) := by decide +kernel
theorem dX5_init_135 : decode cX5_init 135 = .ok (.bipush 16, 2) := by decide +kernel
theorem dX5_init_137 : decode cX5_init 137 = .ok (.newarray .long, 2) := by decide +kernel
theorem dX5_init_139 : decode cX5_init 139 = .ok (.putfield 62, 3) := by decide +kernel
theorem dX5_init_142 : decode cX5_init 142 = .ok (.return_, 1) := by decide +kernel
theorem dX5_in_0 : decode cX5_in 0 = .ok (.lload_n 0, 1) := by decide +kernel
theorem dX5_in_1 : decode cX5_in 1 = .ok (.lload_n 2, 1) := by decide +kernel
theorem dX5_in_2 : decode cX5_in 2 = .ok (.lcmp, 1) := by decide +kernel
theorem dX5_in_3 : decode cX5_in 3 = .ok (.ifCond .lt 14, 3) := by decide +kernel
theorem dX5_in_6 : decode cX5_in 6 = .ok (.lload_n 0, 1) := by decide +kernel
theorem dX5_in_7 : decode cX5_in 7 = .ok (.lload 4, 2) := by decide +kernel
theorem dX5_in_9 : decode cX5_in 9 = .ok (.lcmp, 1) := by decide +kernel
theorem dX5_in_10 : decode cX5_in 10 = .ok (.ifCond .gt 7, 3) := by decide +kernel
theorem dX5_in_13 : decode cX5_in 13 = .ok (.iconst 1, 1) := by decide +kernel
theorem dX5_in_14 : decode cX5_in 14 = .ok (.goto 4, 3) := by decide +kernel
theorem dX5_in_17 : decode cX5_in 17 = .ok (.iconst 0, 1) := by decide +kernel
theorem dX5_in_18 : decode cX5_in 18 = .ok (.ireturn, 1) := by decide +kernel
theorem dX5_isThing_0 : decode cX5_isThing 0 = .ok (.iload_n 1, 1) := by decide +kernel
theorem dX5_isThing_1 : decode cX5_isThing 1 = .ok (.i2l, 1) := by decide +kernel
theorem dX5_isThing_2 : decode cX5_isThing 2 = .ok (.lconst 0, 1) := by decide +kernel
theorem dX5_isThing_3 : decode cX5_isThing 3 = .ok (.aload_n 0, 1) := by decide +kernel
theorem dX5_isThing_4 : decode cX5_isThing 4 = .ok (.getfield 66, 3) := by decide +kernel
theorem dX5_isThing_7 : decode cX5_isThing 7 = .ok (.iconst 1, 1) := by decide +kernel
theorem dX5_isThing_8 : decode cX5_isThing 8 = .ok (.isub, 1) := by decide +kernel
theorem dX5_isThing_9 : decode cX5_isThing 9 = .ok (.i2l, 1) := by decide +kernel
theorem dX5_isThing_10 : decode cX5_isThing 10 = .ok (.invokestatic 70, 3) := by decide +kernel
theorem dX5_isThing_13 : decode cX5_isThing 13 = .ok (.ireturn, 1) := by decide +kernel
theorem dX5_isRule_0 : decode cX5_isRule 0 = .ok (.iload_n 1, 1) := by decide +kernel
theorem dX5_isRule_1 : decode cX5_isRule 1 = .ok (.i2l, 1) := by decide +kernel
theorem dX5_isRule_2 : decode cX5_isRule 2 = .ok (.lconst 0, 1) := by decide +kernel
theorem dX5_isRule_3 : decode cX5_isRule 3 = .ok (.aload_n 0, 1) := by decide +kernel
theorem dX5_isRule_4 : decode cX5_isRule 4 = .ok (.getfield 74, 3) := by decide +kernel
theorem dX5_isRule_7 : decode cX5_isRule 7 = .ok (.iconst 1, 1) := by decide +kernel
theorem dX5_isRule_8 : decode cX5_isRule 8 = .ok (.isub, 1) := by decide +kernel
theorem dX5_isRule_9 : decode cX5_isRule 9 = .ok (.i2l, 1) := by decide +kernel
theorem dX5_isRule_10 : decode cX5_isRule 10 = .ok (.invokestatic 70, 3) := by decide +kernel
theorem dX5_isRule_13 : decode cX5_isRule 13 = .ok (.ireturn, 1) := by decide +kernel
theorem dX5_isLimit_0 : decode cX5_isLimit 0 = .ok (.lload_n 1, 1) := by decide +kernel
theorem dX5_isLimit_1 : decode cX5_isLimit 1 = .ok (.lconst 0, 1) := by decide +kernel
theorem dX5_isLimit_2 : decode cX5_isLimit 2 = .ok (.iload_n 0, 1) := by decide +kernel
theorem dX5_isLimit_3 : decode cX5_isLimit 3 = .ok (.ifCond .ne 9, 3) := by decide +kernel
theorem dX5_isLimit_6 : decode cX5_isLimit 6 = .ok (.ldc2_w 77, 3) := by decide +kernel
theorem dX5_isLimit_9 : decode cX5_isLimit 9 = .ok (.goto 6, 3) := by decide +kernel
theorem dX5_isLimit_12 : decode cX5_isLimit 12 = .ok (.ldc2_w 79, 3) := by decide +kernel
theorem dX5_isLimit_15 : decode cX5_isLimit 15 = .ok (.invokestatic 70, 3) := by decide +kernel
theorem dX5_isLimit_18 : decode cX5_isLimit 18 = .ok (.ireturn, 1) := by decide +kernel
theorem dX5_thing_0 : decode cX5_thing 0 = .ok (.iload_n 1, 1) := by decide +kernel
theorem dX5_thing_1 : decode cX5_thing 1 = .ok (.i2l, 1) := by decide +kernel
theorem dX5_thing_2 : decode cX5_thing 2 = .ok (.ldc2_w 81, 3) := by decide +kernel
theorem dX5_thing_5 : decode cX5_thing 5 = .ok (.ldc2_w 83, 3) := by decide +kernel
theorem dX5_thing_8 : decode cX5_thing 8 = .ok (.invokestatic 70, 3) := by decide +kernel
theorem dX5_thing_11 : decode cX5_thing 11 = .ok (.ifCond .eq 15, 3) := by decide +kernel
theorem dX5_thing_14 : decode cX5_thing 14 = .ok (.iload_n 2, 1) := by decide +kernel
theorem dX5_thing_15 : decode cX5_thing 15 = .ok (.i2l, 1) := by decide +kernel
theorem dX5_thing_16 : decode cX5_thing 16 = .ok (.lconst 0, 1) := by decide +kernel
theorem dX5_thing_17 : decode cX5_thing 17 = .ok (.ldc2_w 79, 3) := by decide +kernel
theorem dX5_thing_20 : decode cX5_thing 20 = .ok (.invokestatic 70, 3) := by decide +kernel
theorem dX5_thing_23 : decode cX5_thing 23 = .ok (.ifCond .ne 6, 3) := by decide +kernel
theorem dX5_thing_26 : decode cX5_thing 26 = .ok (.ldc 85, 2) := by decide +kernel
theorem dX5_thing_28 : decode cX5_thing 28 = .ok (.ireturn, 1) := by decide +kernel
theorem dX5_thing_29 : decode cX5_thing 29 = .ok (.aload_n 0, 1) := by decide +kernel
theorem dX5_thing_30 : decode cX5_thing 30 = .ok (.getfield 66, 3) := by decide +kernel
theorem dX5_thing_33 : decode cX5_thing 33 = .ok (.iconst 4, 1) := by decide +kernel
theorem dX5_thing_34 : decode cX5_thing 34 = .ok (.if_icmp .ne 6, 3) := by decide +kernel
theorem dX5_thing_37 : decode cX5_thing 37 = .ok (.ldc 86, 2) := by decide +kernel
theorem dX5_thing_39 : decode cX5_thing 39 = .ok (.ireturn, 1) := by decide +kernel
theorem dX5_thing_40 : decode cX5_thing 40 = .ok (.aload_n 0, 1) := by decide +kernel
theorem dX5_thing_41 : decode cX5_thing 41 = .ok (.getfield 7, 3) := by decide +kernel
theorem dX5_thing_44 : decode cX5_thing 44 = .ok (.aload_n 0, 1) := by decide +kernel
theorem dX5_thing_45 : decode cX5_thing 45 = .ok (.getfield 66, 3) := by decide +kernel
theorem dX5_thing_48 : decode cX5_thing 48 = .ok (.iload_n 1, 1) := by decide +kernel
theorem dX5_thing_49 : decode cX5_thing 49 = .ok (.iastore, 1) := by decide +kernel
theorem dX5_thing_50 : decode cX5_thing 50 = .ok (.aload_n 0, 1) := by decide +kernel
theorem dX5_thing_51 : decode cX5_thing 51 = .ok (.getfield 13, 3) := by decide +kernel
theorem dX5_thing_54 : decode cX5_thing 54 = .ok (.aload_n 0, 1) := by decide +kernel
theorem dX5_thing_55 : decode cX5_thing 55 = .ok (.getfield 66, 3) := by decide +kernel
theorem dX5_thing_58 : decode cX5_thing 58 = .ok (.iload_n 2, 1) := by decide +kernel
theorem dX5_thing_59 : decode cX5_thing 59 = .ok (.iastore, 1) := by decide +kernel
theorem dX5_thing_60 : decode cX5_thing 60 = .ok (.aload_n 0, 1) := by decide +kernel
theorem dX5_thing_61 : decode cX5_thing 61 = .ok (.dup, 1) := by decide +kernel
theorem dX5_thing_62 : decode cX5_thing 62 = .ok (.getfield 66, 3) := by decide +kernel
theorem dX5_thing_65 : decode cX5_thing 65 = .ok (.iconst 1, 1) := by decide +kernel
theorem dX5_thing_66 : decode cX5_thing 66 = .ok (.iadd, 1) := by decide +kernel
theorem dX5_thing_67 : decode cX5_thing 67 = .ok (.putfield 66, 3) := by decide +kernel
theorem dX5_thing_70 : decode cX5_thing 70 = .ok (.aload_n 0, 1) := by decide +kernel
theorem dX5_thing_71 : decode cX5_thing 71 = .ok (.getfield 66, 3) := by decide +kernel
theorem dX5_thing_74 : decode cX5_thing 74 = .ok (.iconst 1, 1) := by decide +kernel
theorem dX5_thing_75 : decode cX5_thing 75 = .ok (.isub, 1) := by decide +kernel
theorem dX5_thing_76 : decode cX5_thing 76 = .ok (.ireturn, 1) := by decide +kernel
theorem dX5_rule_0 : decode cX5_rule 0 = .ok (.iload_n 1, 1) := by decide +kernel
theorem dX5_rule_1 : decode cX5_rule 1 = .ok (.i2l, 1) := by decide +kernel
theorem dX5_rule_2 : decode cX5_rule 2 = .ok (.lconst 0, 1) := by decide +kernel
theorem dX5_rule_3 : decode cX5_rule 3 = .ok (.ldc2_w 87, 3) := by decide +kernel
theorem dX5_rule_6 : decode cX5_rule 6 = .ok (.invokestatic 70, 3) := by decide +kernel
theorem dX5_rule_9 : decode cX5_rule 9 = .ok (.ifCond .eq 33, 3) := by decide +kernel
theorem dX5_rule_12 : decode cX5_rule 12 = .ok (.iload_n 1, 1) := by decide +kernel
theorem dX5_rule_13 : decode cX5_rule 13 = .ok (.iload 4, 2) := by decide +kernel
theorem dX5_rule_15 : decode cX5_rule 15 = .ok (.i2l, 1) := by decide +kernel
theorem dX5_rule_16 : decode cX5_rule 16 = .ok (.invokestatic 89, 3) := by decide +kernel
theorem dX5_rule_19 : decode cX5_rule 19 = .ok (.ifCond .eq 23, 3) := by decide +kernel
theorem dX5_rule_22 : decode cX5_rule 22 = .ok (.iload_n 1, 1) := by decide +kernel
theorem dX5_rule_23 : decode cX5_rule 23 = .ok (.ifCond .le 22, 3) := by decide +kernel
theorem dX5_rule_26 : decode cX5_rule 26 = .ok (.aload_n 0, 1) := by decide +kernel
theorem dX5_rule_27 : decode cX5_rule 27 = .ok (.iload_n 2, 1) := by decide +kernel
theorem dX5_rule_28 : decode cX5_rule 28 = .ok (.invokevirtual 93, 3) := by decide +kernel
theorem dX5_rule_31 : decode cX5_rule 31 = .ok (.ifCond .eq 11, 3) := by decide +kernel
theorem dX5_rule_34 : decode cX5_rule 34 = .ok (.aload_n 0, 1) := by decide +kernel
theorem dX5_rule_35 : decode cX5_rule 35 = .ok (.iload_n 3, 1) := by decide +kernel
theorem dX5_rule_36 : decode cX5_rule 36 = .ok (.invokevirtual 93, 3) := by decide +kernel
theorem dX5_rule_39 : decode cX5_rule 39 = .ok (.ifCond .ne 6, 3) := by decide +kernel
theorem dX5_rule_42 : decode cX5_rule 42 = .ok (.ldc 85, 2) := by decide +kernel
theorem dX5_rule_44 : decode cX5_rule 44 = .ok (.ireturn, 1) := by decide +kernel
theorem dX5_rule_45 : decode cX5_rule 45 = .ok (.aload_n 0, 1) := by decide +kernel
theorem dX5_rule_46 : decode cX5_rule 46 = .ok (.getfield 74, 3) := by decide +kernel
theorem dX5_rule_49 : decode cX5_rule 49 = .ok (.bipush 6, 2) := by decide +kernel
theorem dX5_rule_51 : decode cX5_rule 51 = .ok (.if_icmp .ne 6, 3) := by decide +kernel
theorem dX5_rule_54 : decode cX5_rule 54 = .ok (.ldc 86, 2) := by decide +kernel
theorem dX5_rule_56 : decode cX5_rule 56 = .ok (.ireturn, 1) := by decide +kernel
theorem dX5_rule_57 : decode cX5_rule 57 = .ok (.aload_n 0, 1) := by decide +kernel
theorem dX5_rule_58 : decode cX5_rule 58 = .ok (.getfield 16, 3) := by decide +kernel
theorem dX5_rule_61 : decode cX5_rule 61 = .ok (.aload_n 0, 1) := by decide +kernel
theorem dX5_rule_62 : decode cX5_rule 62 = .ok (.getfield 74, 3) := by decide +kernel
theorem dX5_rule_65 : decode cX5_rule 65 = .ok (.iload_n 1, 1) := by decide +kernel
theorem dX5_rule_66 : decode cX5_rule 66 = .ok (.iastore, 1) := by decide +kernel
theorem dX5_rule_67 : decode cX5_rule 67 = .ok (.aload_n 0, 1) := by decide +kernel
theorem dX5_rule_68 : decode cX5_rule 68 = .ok (.getfield 19, 3) := by decide +kernel
theorem dX5_rule_71 : decode cX5_rule 71 = .ok (.aload_n 0, 1) := by decide +kernel
theorem dX5_rule_72 : decode cX5_rule 72 = .ok (.getfield 74, 3) := by decide +kernel
theorem dX5_rule_75 : decode cX5_rule 75 = .ok (.iload_n 2, 1) := by decide +kernel
theorem dX5_rule_76 : decode cX5_rule 76 = .ok (.iastore, 1) := by decide +kernel
theorem dX5_rule_77 : decode cX5_rule 77 = .ok (.aload_n 0, 1) := by decide +kernel
theorem dX5_rule_78 : decode cX5_rule 78 = .ok (.getfield 22, 3) := by decide +kernel
theorem dX5_rule_81 : decode cX5_rule 81 = .ok (.aload_n 0, 1) := by decide +kernel
theorem dX5_rule_82 : decode cX5_rule 82 = .ok (.getfield 74, 3) := by decide +kernel
theorem dX5_rule_85 : decode cX5_rule 85 = .ok (.iload_n 3, 1) := by decide +kernel
theorem dX5_rule_86 : decode cX5_rule 86 = .ok (.iastore, 1) := by decide +kernel
theorem dX5_rule_87 : decode cX5_rule 87 = .ok (.aload_n 0, 1) := by decide +kernel
theorem dX5_rule_88 : decode cX5_rule 88 = .ok (.getfield 25, 3) := by decide +kernel
theorem dX5_rule_91 : decode cX5_rule 91 = .ok (.aload_n 0, 1) := by decide +kernel
theorem dX5_rule_92 : decode cX5_rule 92 = .ok (.getfield 74, 3) := by decide +kernel
theorem dX5_rule_95 : decode cX5_rule 95 = .ok (.iload 4, 2) := by decide +kernel
theorem dX5_rule_97 : decode cX5_rule 97 = .ok (.iastore, 1) := by decide +kernel
theorem dX5_rule_98 : decode cX5_rule 98 = .ok (.aload_n 0, 1) := by decide +kernel
theorem dX5_rule_99 : decode cX5_rule 99 = .ok (.getfield 28, 3) := by decide +kernel
theorem dX5_rule_102 : decode cX5_rule 102 = .ok (.aload_n 0, 1) := by decide +kernel
theorem dX5_rule_103 : decode cX5_rule 103 = .ok (.getfield 74, 3) := by decide +kernel
theorem dX5_rule_106 : decode cX5_rule 106 = .ok (.iconst 1, 1) := by decide +kernel
theorem dX5_rule_107 : decode cX5_rule 107 = .ok (.bastore, 1) := by decide +kernel
theorem dX5_rule_108 : decode cX5_rule 108 = .ok (.aload_n 0, 1) := by decide +kernel
theorem dX5_rule_109 : decode cX5_rule 109 = .ok (.dup, 1) := by decide +kernel
theorem dX5_rule_110 : decode cX5_rule 110 = .ok (.getfield 74, 3) := by decide +kernel
theorem dX5_rule_113 : decode cX5_rule 113 = .ok (.iconst 1, 1) := by decide +kernel
theorem dX5_rule_114 : decode cX5_rule 114 = .ok (.iadd, 1) := by decide +kernel
theorem dX5_rule_115 : decode cX5_rule 115 = .ok (.putfield 74, 3) := by decide +kernel
theorem dX5_rule_118 : decode cX5_rule 118 = .ok (.aload_n 0, 1) := by decide +kernel
theorem dX5_rule_119 : decode cX5_rule 119 = .ok (.getfield 74, 3) := by decide +kernel
theorem dX5_rule_122 : decode cX5_rule 122 = .ok (.iconst 1, 1) := by decide +kernel
theorem dX5_rule_123 : decode cX5_rule 123 = .ok (.isub, 1) := by decide +kernel
theorem dX5_rule_124 : decode cX5_rule 124 = .ok (.ireturn, 1) := by decide +kernel
theorem dX5_amount_0 : decode cX5_amount 0 = .ok (.aload_n 0, 1) := by decide +kernel
theorem dX5_amount_1 : decode cX5_amount 1 = .ok (.iload_n 1, 1) := by decide +kernel
theorem dX5_amount_2 : decode cX5_amount 2 = .ok (.invokevirtual 97, 3) := by decide +kernel
theorem dX5_amount_5 : decode cX5_amount 5 = .ok (.ifCond .eq 34, 3) := by decide +kernel
theorem dX5_amount_8 : decode cX5_amount 8 = .ok (.aload_n 0, 1) := by decide +kernel
theorem dX5_amount_9 : decode cX5_amount 9 = .ok (.getfield 16, 3) := by decide +kernel
theorem dX5_amount_12 : decode cX5_amount 12 = .ok (.iload_n 1, 1) := by decide +kernel
theorem dX5_amount_13 : decode cX5_amount 13 = .ok (.iaload, 1) := by decide +kernel
theorem dX5_amount_14 : decode cX5_amount 14 = .ok (.ifCond .ne 25, 3) := by decide +kernel
theorem dX5_amount_17 : decode cX5_amount 17 = .ok (.aload_n 0, 1) := by decide +kernel
theorem dX5_amount_18 : decode cX5_amount 18 = .ok (.iload_n 2, 1) := by decide +kernel
theorem dX5_amount_19 : decode cX5_amount 19 = .ok (.invokevirtual 93, 3) := by decide +kernel
theorem dX5_amount_22 : decode cX5_amount 22 = .ok (.ifCond .eq 17, 3) := by decide +kernel
theorem dX5_amount_25 : decode cX5_amount 25 = .ok (.iload_n 3, 1) := by decide +kernel
theorem dX5_amount_26 : decode cX5_amount 26 = .ok (.i2l, 1) := by decide +kernel
theorem dX5_amount_27 : decode cX5_amount 27 = .ok (.ldc2_w 100, 3) := by decide +kernel
theorem dX5_amount_30 : decode cX5_amount 30 = .ok (.ldc2_w 79, 3) := by decide +kernel
theorem dX5_amount_33 : decode cX5_amount 33 = .ok (.invokestatic 70, 3) := by decide +kernel
theorem dX5_amount_36 : decode cX5_amount 36 = .ok (.ifCond .ne 6, 3) := by decide +kernel
theorem dX5_amount_39 : decode cX5_amount 39 = .ok (.ldc 85, 2) := by decide +kernel
theorem dX5_amount_41 : decode cX5_amount 41 = .ok (.ireturn, 1) := by decide +kernel
theorem dX5_amount_42 : decode cX5_amount 42 = .ok (.aload_n 0, 1) := by decide +kernel
theorem dX5_amount_43 : decode cX5_amount 43 = .ok (.getfield 32, 3) := by decide +kernel
theorem dX5_amount_46 : decode cX5_amount 46 = .ok (.iconst 4, 1) := by decide +kernel
theorem dX5_amount_47 : decode cX5_amount 47 = .ok (.iload_n 1, 1) := by decide +kernel
theorem dX5_amount_48 : decode cX5_amount 48 = .ok (.imul, 1) := by decide +kernel
theorem dX5_amount_49 : decode cX5_amount 49 = .ok (.iload_n 2, 1) := by decide +kernel
theorem dX5_amount_50 : decode cX5_amount 50 = .ok (.iadd, 1) := by decide +kernel
theorem dX5_amount_51 : decode cX5_amount 51 = .ok (.iaload, 1) := by decide +kernel
theorem dX5_amount_52 : decode cX5_amount 52 = .ok (.istore 4, 2) := by decide +kernel
theorem dX5_amount_54 : decode cX5_amount 54 = .ok (.aload_n 0, 1) := by decide +kernel
theorem dX5_amount_55 : decode cX5_amount 55 = .ok (.getfield 32, 3) := by decide +kernel
theorem dX5_amount_58 : decode cX5_amount 58 = .ok (.iconst 4, 1) := by decide +kernel
theorem dX5_amount_59 : decode cX5_amount 59 = .ok (.iload_n 1, 1) := by decide +kernel
theorem dX5_amount_60 : decode cX5_amount 60 = .ok (.imul, 1) := by decide +kernel
theorem dX5_amount_61 : decode cX5_amount 61 = .ok (.iload_n 2, 1) := by decide +kernel
theorem dX5_amount_62 : decode cX5_amount 62 = .ok (.iadd, 1) := by decide +kernel
theorem dX5_amount_63 : decode cX5_amount 63 = .ok (.iload_n 3, 1) := by decide +kernel
theorem dX5_amount_64 : decode cX5_amount 64 = .ok (.iastore, 1) := by decide +kernel
theorem dX5_amount_65 : decode cX5_amount 65 = .ok (.iload 4, 2) := by decide +kernel
theorem dX5_amount_67 : decode cX5_amount 67 = .ok (.ireturn, 1) := by decide +kernel
theorem dX5_on_0 : decode cX5_on 0 = .ok (.aload_n 0, 1) := by decide +kernel
theorem dX5_on_1 : decode cX5_on 1 = .ok (.iload_n 1, 1) := by decide +kernel
theorem dX5_on_2 : decode cX5_on 2 = .ok (.invokevirtual 97, 3) := by decide +kernel
theorem dX5_on_5 : decode cX5_on 5 = .ok (.ifCond .ne 6, 3) := by decide +kernel
theorem dX5_on_8 : decode cX5_on 8 = .ok (.ldc 85, 2) := by decide +kernel
theorem dX5_on_10 : decode cX5_on 10 = .ok (.ireturn, 1) := by decide +kernel
theorem dX5_on_11 : decode cX5_on 11 = .ok (.aload_n 0, 1) := by decide +kernel
theorem dX5_on_12 : decode cX5_on 12 = .ok (.getfield 28, 3) := by decide +kernel
theorem dX5_on_15 : decode cX5_on 15 = .ok (.iload_n 1, 1) := by decide +kernel
theorem dX5_on_16 : decode cX5_on 16 = .ok (.baload, 1) := by decide +kernel
theorem dX5_on_17 : decode cX5_on 17 = .ok (.ifCond .eq 7, 3) := by decide +kernel
theorem dX5_on_20 : decode cX5_on 20 = .ok (.iconst 1, 1) := by decide +kernel
theorem dX5_on_21 : decode cX5_on 21 = .ok (.goto 4, 3) := by decide +kernel
theorem dX5_on_24 : decode cX5_on 24 = .ok (.iconst 0, 1) := by decide +kernel
theorem dX5_on_25 : decode cX5_on 25 = .ok (.istore_n 3, 1) := by decide +kernel
theorem dX5_on_26 : decode cX5_on 26 = .ok (.aload_n 0, 1) := by decide +kernel
theorem dX5_on_27 : decode cX5_on 27 = .ok (.getfield 28, 3) := by decide +kernel
theorem dX5_on_30 : decode cX5_on 30 = .ok (.iload_n 1, 1) := by decide +kernel
theorem dX5_on_31 : decode cX5_on 31 = .ok (.iload_n 2, 1) := by decide +kernel
theorem dX5_on_32 : decode cX5_on 32 = .ok (.bastore, 1) := by decide +kernel
theorem dX5_on_33 : decode cX5_on 33 = .ok (.iload_n 3, 1) := by decide +kernel
theorem dX5_on_34 : decode cX5_on 34 = .ok (.ireturn, 1) := by decide +kernel
theorem dX5_set_0 : decode cX5_set 0 = .ok (.iload_n 1, 1) := by decide +kernel
theorem dX5_set_1 : decode cX5_set 1 = .ok (.ifCond .ne 33, 3) := by decide +kernel
theorem dX5_set_4 : decode cX5_set 4 = .ok (.aload_n 0, 1) := by decide +kernel
theorem dX5_set_5 : decode cX5_set 5 = .ok (.iload_n 2, 1) := by decide +kernel
theorem dX5_set_6 : decode cX5_set 6 = .ok (.invokevirtual 97, 3) := by decide +kernel
theorem dX5_set_9 : decode cX5_set 9 = .ok (.ifCond .eq 21, 3) := by decide +kernel
theorem dX5_set_12 : decode cX5_set 12 = .ok (.aload_n 0, 1) := by decide +kernel
theorem dX5_set_13 : decode cX5_set 13 = .ok (.getfield 16, 3) := by decide +kernel
theorem dX5_set_16 : decode cX5_set 16 = .ok (.iload_n 2, 1) := by decide +kernel
theorem dX5_set_17 : decode cX5_set 17 = .ok (.iaload, 1) := by decide +kernel
theorem dX5_set_18 : decode cX5_set 18 = .ok (.iload_n 3, 1) := by decide +kernel
theorem dX5_set_19 : decode cX5_set 19 = .ok (.i2l, 1) := by decide +kernel
theorem dX5_set_20 : decode cX5_set 20 = .ok (.invokestatic 89, 3) := by decide +kernel
theorem dX5_set_23 : decode cX5_set 23 = .ok (.ifCond .eq 7, 3) := by decide +kernel
theorem dX5_set_26 : decode cX5_set 26 = .ok (.iconst 1, 1) := by decide +kernel
theorem dX5_set_27 : decode cX5_set 27 = .ok (.goto 59, 3) := by decide +kernel
theorem dX5_set_30 : decode cX5_set 30 = .ok (.iconst 0, 1) := by decide +kernel
theorem dX5_set_31 : decode cX5_set 31 = .ok (.goto 55, 3) := by decide +kernel
theorem dX5_set_34 : decode cX5_set 34 = .ok (.aload_n 0, 1) := by decide +kernel
theorem dX5_set_35 : decode cX5_set 35 = .ok (.iload_n 2, 1) := by decide +kernel
theorem dX5_set_36 : decode cX5_set 36 = .ok (.invokevirtual 93, 3) := by decide +kernel
theorem dX5_set_39 : decode cX5_set 39 = .ok (.ifCond .eq 46, 3) := by decide +kernel
theorem dX5_set_42 : decode cX5_set 42 = .ok (.iload_n 1, 1) := by decide +kernel
theorem dX5_set_43 : decode cX5_set 43 = .ok (.iconst 1, 1) := by decide +kernel
theorem dX5_set_44 : decode cX5_set 44 = .ok (.if_icmp .ne 20, 3) := by decide +kernel
theorem dX5_set_47 : decode cX5_set 47 = .ok (.iload_n 3, 1) := by decide +kernel
theorem dX5_set_48 : decode cX5_set 48 = .ok (.i2l, 1) := by decide +kernel
theorem dX5_set_49 : decode cX5_set 49 = .ok (.ldc2_w 81, 3) := by decide +kernel
theorem dX5_set_52 : decode cX5_set 52 = .ok (.ldc2_w 83, 3) := by decide +kernel
theorem dX5_set_55 : decode cX5_set 55 = .ok (.invokestatic 70, 3) := by decide +kernel
theorem dX5_set_58 : decode cX5_set 58 = .ok (.ifCond .eq 27, 3) := by decide +kernel
theorem dX5_set_61 : decode cX5_set 61 = .ok (.goto 20, 3) := by decide +kernel
theorem dX5_set_64 : decode cX5_set 64 = .ok (.iload_n 1, 1) := by decide +kernel
theorem dX5_set_65 : decode cX5_set 65 = .ok (.iconst 2, 1) := by decide +kernel
theorem dX5_set_66 : decode cX5_set 66 = .ok (.if_icmp .ne 19, 3) := by decide +kernel
theorem dX5_set_69 : decode cX5_set 69 = .ok (.iload_n 3, 1) := by decide +kernel
theorem dX5_set_70 : decode cX5_set 70 = .ok (.i2l, 1) := by decide +kernel
theorem dX5_set_71 : decode cX5_set 71 = .ok (.lconst 0, 1) := by decide +kernel
theorem dX5_set_72 : decode cX5_set 72 = .ok (.ldc2_w 79, 3) := by decide +kernel
theorem dX5_set_75 : decode cX5_set 75 = .ok (.invokestatic 70, 3) := by decide +kernel
theorem dX5_set_78 : decode cX5_set 78 = .ok (.ifCond .eq 7, 3) := by decide +kernel
theorem dX5_set_81 : decode cX5_set 81 = .ok (.iconst 1, 1) := by decide +kernel
theorem dX5_set_82 : decode cX5_set 82 = .ok (.goto 4, 3) := by decide +kernel
theorem dX5_set_85 : decode cX5_set 85 = .ok (.iconst 0, 1) := by decide +kernel
theorem dX5_set_86 : decode cX5_set 86 = .ok (.istore 4, 2) := by decide +kernel
theorem dX5_set_88 : decode cX5_set 88 = .ok (.iload 4, 2) := by decide +kernel
theorem dX5_set_90 : decode cX5_set 90 = .ok (.ifCond .ne 6, 3) := by decide +kernel
theorem dX5_set_93 : decode cX5_set 93 = .ok (.ldc 85, 2) := by decide +kernel
theorem dX5_set_95 : decode cX5_set 95 = .ok (.ireturn, 1) := by decide +kernel
theorem dX5_set_96 : decode cX5_set 96 = .ok (.iload_n 1, 1) := by decide +kernel
theorem dX5_set_97 : decode cX5_set 97 = .ok (.ifCond .ne 12, 3) := by decide +kernel
theorem dX5_set_100 : decode cX5_set 100 = .ok (.aload_n 0, 1) := by decide +kernel
theorem dX5_set_101 : decode cX5_set 101 = .ok (.getfield 25, 3) := by decide +kernel
theorem dX5_set_104 : decode cX5_set 104 = .ok (.iload_n 2, 1) := by decide +kernel
theorem dX5_set_105 : decode cX5_set 105 = .ok (.iaload, 1) := by decide +kernel
theorem dX5_set_106 : decode cX5_set 106 = .ok (.goto 23, 3) := by decide +kernel
theorem dX5_set_109 : decode cX5_set 109 = .ok (.iload_n 1, 1) := by decide +kernel
theorem dX5_set_110 : decode cX5_set 110 = .ok (.iconst 1, 1) := by decide +kernel
theorem dX5_set_111 : decode cX5_set 111 = .ok (.if_icmp .ne 12, 3) := by decide +kernel
theorem dX5_set_114 : decode cX5_set 114 = .ok (.aload_n 0, 1) := by decide +kernel
theorem dX5_set_115 : decode cX5_set 115 = .ok (.getfield 7, 3) := by decide +kernel
theorem dX5_set_118 : decode cX5_set 118 = .ok (.iload_n 2, 1) := by decide +kernel
theorem dX5_set_119 : decode cX5_set 119 = .ok (.iaload, 1) := by decide +kernel
theorem dX5_set_120 : decode cX5_set 120 = .ok (.goto 9, 3) := by decide +kernel
theorem dX5_set_123 : decode cX5_set 123 = .ok (.aload_n 0, 1) := by decide +kernel
theorem dX5_set_124 : decode cX5_set 124 = .ok (.getfield 13, 3) := by decide +kernel
theorem dX5_set_127 : decode cX5_set 127 = .ok (.iload_n 2, 1) := by decide +kernel
theorem dX5_set_128 : decode cX5_set 128 = .ok (.iaload, 1) := by decide +kernel
theorem dX5_set_129 : decode cX5_set 129 = .ok (.istore 5, 2) := by decide +kernel
theorem dX5_set_131 : decode cX5_set 131 = .ok (.iload_n 1, 1) := by decide +kernel
theorem dX5_set_132 : decode cX5_set 132 = .ok (.ifCond .ne 13, 3) := by decide +kernel
theorem dX5_set_135 : decode cX5_set 135 = .ok (.aload_n 0, 1) := by decide +kernel
theorem dX5_set_136 : decode cX5_set 136 = .ok (.getfield 25, 3) := by decide +kernel
theorem dX5_set_139 : decode cX5_set 139 = .ok (.iload_n 2, 1) := by decide +kernel
theorem dX5_set_140 : decode cX5_set 140 = .ok (.iload_n 3, 1) := by decide +kernel
theorem dX5_set_141 : decode cX5_set 141 = .ok (.iastore, 1) := by decide +kernel
theorem dX5_set_142 : decode cX5_set 142 = .ok (.goto 25, 3) := by decide +kernel
theorem dX5_set_145 : decode cX5_set 145 = .ok (.iload_n 1, 1) := by decide +kernel
theorem dX5_set_146 : decode cX5_set 146 = .ok (.iconst 1, 1) := by decide +kernel
theorem dX5_set_147 : decode cX5_set 147 = .ok (.if_icmp .ne 13, 3) := by decide +kernel
theorem dX5_set_150 : decode cX5_set 150 = .ok (.aload_n 0, 1) := by decide +kernel
theorem dX5_set_151 : decode cX5_set 151 = .ok (.getfield 7, 3) := by decide +kernel
theorem dX5_set_154 : decode cX5_set 154 = .ok (.iload_n 2, 1) := by decide +kernel
theorem dX5_set_155 : decode cX5_set 155 = .ok (.iload_n 3, 1) := by decide +kernel
theorem dX5_set_156 : decode cX5_set 156 = .ok (.iastore, 1) := by decide +kernel
theorem dX5_set_157 : decode cX5_set 157 = .ok (.goto 10, 3) := by decide +kernel
theorem dX5_set_160 : decode cX5_set 160 = .ok (.aload_n 0, 1) := by decide +kernel
theorem dX5_set_161 : decode cX5_set 161 = .ok (.getfield 13, 3) := by decide +kernel
theorem dX5_set_164 : decode cX5_set 164 = .ok (.iload_n 2, 1) := by decide +kernel
theorem dX5_set_165 : decode cX5_set 165 = .ok (.iload_n 3, 1) := by decide +kernel
theorem dX5_set_166 : decode cX5_set 166 = .ok (.iastore, 1) := by decide +kernel
theorem dX5_set_167 : decode cX5_set 167 = .ok (.iload 5, 2) := by decide +kernel
theorem dX5_set_169 : decode cX5_set 169 = .ok (.ireturn, 1) := by decide +kernel
theorem dX5_isAs_0 : decode cX5_isAs 0 = .ok (.aload_n 0, 1) := by decide +kernel
theorem dX5_isAs_1 : decode cX5_isAs 1 = .ok (.getfield 16, 3) := by decide +kernel
theorem dX5_isAs_4 : decode cX5_isAs 4 = .ok (.iload_n 1, 1) := by decide +kernel
theorem dX5_isAs_5 : decode cX5_isAs 5 = .ok (.iaload, 1) := by decide +kernel
theorem dX5_isAs_6 : decode cX5_isAs 6 = .ok (.iconst 1, 1) := by decide +kernel
theorem dX5_isAs_7 : decode cX5_isAs 7 = .ok (.if_icmp .ne 35, 3) := by decide +kernel
theorem dX5_isAs_10 : decode cX5_isAs 10 = .ok (.aload_n 2, 1) := by decide +kernel
theorem dX5_isAs_11 : decode cX5_isAs 11 = .ok (.aload_n 0, 1) := by decide +kernel
theorem dX5_isAs_12 : decode cX5_isAs 12 = .ok (.getfield 19, 3) := by decide +kernel
theorem dX5_isAs_15 : decode cX5_isAs 15 = .ok (.iload_n 1, 1) := by decide +kernel
theorem dX5_isAs_16 : decode cX5_isAs 16 = .ok (.iaload, 1) := by decide +kernel
theorem dX5_isAs_17 : decode cX5_isAs 17 = .ok (.iaload, 1) := by decide +kernel
theorem dX5_isAs_18 : decode cX5_isAs 18 = .ok (.aload_n 2, 1) := by decide +kernel
theorem dX5_isAs_19 : decode cX5_isAs 19 = .ok (.aload_n 0, 1) := by decide +kernel
theorem dX5_isAs_20 : decode cX5_isAs 20 = .ok (.getfield 22, 3) := by decide +kernel
theorem dX5_isAs_23 : decode cX5_isAs 23 = .ok (.iload_n 1, 1) := by decide +kernel
theorem dX5_isAs_24 : decode cX5_isAs 24 = .ok (.iaload, 1) := by decide +kernel
theorem dX5_isAs_25 : decode cX5_isAs 25 = .ok (.iaload, 1) := by decide +kernel
theorem dX5_isAs_26 : decode cX5_isAs 26 = .ok (.isub, 1) := by decide +kernel
theorem dX5_isAs_27 : decode cX5_isAs 27 = .ok (.aload_n 0, 1) := by decide +kernel
theorem dX5_isAs_28 : decode cX5_isAs 28 = .ok (.getfield 25, 3) := by decide +kernel
theorem dX5_isAs_31 : decode cX5_isAs 31 = .ok (.iload_n 1, 1) := by decide +kernel
theorem dX5_isAs_32 : decode cX5_isAs 32 = .ok (.iaload, 1) := by decide +kernel
theorem dX5_isAs_33 : decode cX5_isAs 33 = .ok (.if_icmp .gt 7, 3) := by decide +kernel
theorem dX5_isAs_36 : decode cX5_isAs 36 = .ok (.iconst 1, 1) := by decide +kernel
theorem dX5_isAs_37 : decode cX5_isAs 37 = .ok (.goto 4, 3) := by decide +kernel
theorem dX5_isAs_40 : decode cX5_isAs 40 = .ok (.iconst 0, 1) := by decide +kernel
theorem dX5_isAs_41 : decode cX5_isAs 41 = .ok (.ireturn, 1) := by decide +kernel
theorem dX5_isAs_42 : decode cX5_isAs 42 = .ok (.aload_n 0, 1) := by decide +kernel
theorem dX5_isAs_43 : decode cX5_isAs 43 = .ok (.getfield 16, 3) := by decide +kernel
theorem dX5_isAs_46 : decode cX5_isAs 46 = .ok (.iload_n 1, 1) := by decide +kernel
theorem dX5_isAs_47 : decode cX5_isAs 47 = .ok (.iaload, 1) := by decide +kernel
theorem dX5_isAs_48 : decode cX5_isAs 48 = .ok (.iconst 2, 1) := by decide +kernel
theorem dX5_isAs_49 : decode cX5_isAs 49 = .ok (.if_icmp .ne 43, 3) := by decide +kernel
theorem dX5_isAs_52 : decode cX5_isAs 52 = .ok (.aload_n 2, 1) := by decide +kernel
theorem dX5_isAs_53 : decode cX5_isAs 53 = .ok (.aload_n 0, 1) := by decide +kernel
theorem dX5_isAs_54 : decode cX5_isAs 54 = .ok (.getfield 19, 3) := by decide +kernel
theorem dX5_isAs_57 : decode cX5_isAs 57 = .ok (.iload_n 1, 1) := by decide +kernel
theorem dX5_isAs_58 : decode cX5_isAs 58 = .ok (.iaload, 1) := by decide +kernel
theorem dX5_isAs_59 : decode cX5_isAs 59 = .ok (.iaload, 1) := by decide +kernel
theorem dX5_isAs_60 : decode cX5_isAs 60 = .ok (.aload_n 0, 1) := by decide +kernel
theorem dX5_isAs_61 : decode cX5_isAs 61 = .ok (.getfield 25, 3) := by decide +kernel
theorem dX5_isAs_64 : decode cX5_isAs 64 = .ok (.iload_n 1, 1) := by decide +kernel
theorem dX5_isAs_65 : decode cX5_isAs 65 = .ok (.iaload, 1) := by decide +kernel
theorem dX5_isAs_66 : decode cX5_isAs 66 = .ok (.if_icmp .le 20, 3) := by decide +kernel
theorem dX5_isAs_69 : decode cX5_isAs 69 = .ok (.aload_n 2, 1) := by decide +kernel
theorem dX5_isAs_70 : decode cX5_isAs 70 = .ok (.aload_n 0, 1) := by decide +kernel
theorem dX5_isAs_71 : decode cX5_isAs 71 = .ok (.getfield 22, 3) := by decide +kernel
theorem dX5_isAs_74 : decode cX5_isAs 74 = .ok (.iload_n 1, 1) := by decide +kernel
theorem dX5_isAs_75 : decode cX5_isAs 75 = .ok (.iaload, 1) := by decide +kernel
theorem dX5_isAs_76 : decode cX5_isAs 76 = .ok (.iaload, 1) := by decide +kernel
theorem dX5_isAs_77 : decode cX5_isAs 77 = .ok (.aload_n 0, 1) := by decide +kernel
theorem dX5_isAs_78 : decode cX5_isAs 78 = .ok (.getfield 25, 3) := by decide +kernel
theorem dX5_isAs_81 : decode cX5_isAs 81 = .ok (.iload_n 1, 1) := by decide +kernel
theorem dX5_isAs_82 : decode cX5_isAs 82 = .ok (.iaload, 1) := by decide +kernel
theorem dX5_isAs_83 : decode cX5_isAs 83 = .ok (.if_icmp .gt 7, 3) := by decide +kernel
theorem dX5_isAs_86 : decode cX5_isAs 86 = .ok (.iconst 1, 1) := by decide +kernel
theorem dX5_isAs_87 : decode cX5_isAs 87 = .ok (.goto 4, 3) := by decide +kernel
theorem dX5_isAs_90 : decode cX5_isAs 90 = .ok (.iconst 0, 1) := by decide +kernel
theorem dX5_isAs_91 : decode cX5_isAs 91 = .ok (.ireturn, 1) := by decide +kernel
theorem dX5_isAs_92 : decode cX5_isAs 92 = .ok (.iconst 0, 1) := by decide +kernel
theorem dX5_isAs_93 : decode cX5_isAs 93 = .ok (.istore_n 3, 1) := by decide +kernel
theorem dX5_isAs_94 : decode cX5_isAs 94 = .ok (.iconst 0, 1) := by decide +kernel
theorem dX5_isAs_95 : decode cX5_isAs 95 = .ok (.istore 4, 2) := by decide +kernel
theorem dX5_isAs_97 : decode cX5_isAs 97 = .ok (.iload 4, 2) := by decide +kernel
theorem dX5_isAs_99 : decode cX5_isAs 99 = .ok (.aload_n 0, 1) := by decide +kernel
theorem dX5_isAs_100 : decode cX5_isAs 100 = .ok (.getfield 66, 3) := by decide +kernel
theorem dX5_isAs_103 : decode cX5_isAs 103 = .ok (.if_icmp .ge 28, 3) := by decide +kernel
theorem dX5_isAs_106 : decode cX5_isAs 106 = .ok (.iload_n 3, 1) := by decide +kernel
theorem dX5_isAs_107 : decode cX5_isAs 107 = .ok (.aload_n 0, 1) := by decide +kernel
theorem dX5_isAs_108 : decode cX5_isAs 108 = .ok (.getfield 32, 3) := by decide +kernel
theorem dX5_isAs_111 : decode cX5_isAs 111 = .ok (.iconst 4, 1) := by decide +kernel
theorem dX5_isAs_112 : decode cX5_isAs 112 = .ok (.iload_n 1, 1) := by decide +kernel
theorem dX5_isAs_113 : decode cX5_isAs 113 = .ok (.imul, 1) := by decide +kernel
theorem dX5_isAs_114 : decode cX5_isAs 114 = .ok (.iload 4, 2) := by decide +kernel
theorem dX5_isAs_116 : decode cX5_isAs 116 = .ok (.iadd, 1) := by decide +kernel
theorem dX5_isAs_117 : decode cX5_isAs 117 = .ok (.iaload, 1) := by decide +kernel
theorem dX5_isAs_118 : decode cX5_isAs 118 = .ok (.aload_n 2, 1) := by decide +kernel
theorem dX5_isAs_119 : decode cX5_isAs 119 = .ok (.iload 4, 2) := by decide +kernel
theorem dX5_isAs_121 : decode cX5_isAs 121 = .ok (.iaload, 1) := by decide +kernel
theorem dX5_isAs_122 : decode cX5_isAs 122 = .ok (.imul, 1) := by decide +kernel
theorem dX5_isAs_123 : decode cX5_isAs 123 = .ok (.iadd, 1) := by decide +kernel
theorem dX5_isAs_124 : decode cX5_isAs 124 = .ok (.istore_n 3, 1) := by decide +kernel
theorem dX5_isAs_125 : decode cX5_isAs 125 = .ok (.iinc 4 1, 3) := by decide +kernel
theorem dX5_isAs_128 : decode cX5_isAs 128 = .ok (.goto (-31), 3) := by decide +kernel
theorem dX5_isAs_131 : decode cX5_isAs 131 = .ok (.iload_n 3, 1) := by decide +kernel
theorem dX5_isAs_132 : decode cX5_isAs 132 = .ok (.aload_n 0, 1) := by decide +kernel
theorem dX5_isAs_133 : decode cX5_isAs 133 = .ok (.getfield 25, 3) := by decide +kernel
theorem dX5_isAs_136 : decode cX5_isAs 136 = .ok (.iload_n 1, 1) := by decide +kernel
theorem dX5_isAs_137 : decode cX5_isAs 137 = .ok (.iaload, 1) := by decide +kernel
theorem dX5_isAs_138 : decode cX5_isAs 138 = .ok (.if_icmp .gt 7, 3) := by decide +kernel
theorem dX5_isAs_141 : decode cX5_isAs 141 = .ok (.iconst 1, 1) := by decide +kernel
theorem dX5_isAs_142 : decode cX5_isAs 142 = .ok (.goto 4, 3) := by decide +kernel
theorem dX5_isAs_145 : decode cX5_isAs 145 = .ok (.iconst 0, 1) := by decide +kernel
theorem dX5_isAs_146 : decode cX5_isAs 146 = .ok (.ireturn, 1) := by decide +kernel
theorem dX5_fits_0 : decode cX5_fits 0 = .ok (.iconst 0, 1) := by decide +kernel
theorem dX5_fits_1 : decode cX5_fits 1 = .ok (.istore_n 2, 1) := by decide +kernel
theorem dX5_fits_2 : decode cX5_fits 2 = .ok (.iload_n 2, 1) := by decide +kernel
theorem dX5_fits_3 : decode cX5_fits 3 = .ok (.aload_n 0, 1) := by decide +kernel
theorem dX5_fits_4 : decode cX5_fits 4 = .ok (.getfield 74, 3) := by decide +kernel
theorem dX5_fits_7 : decode cX5_fits 7 = .ok (.if_icmp .ge 29, 3) := by decide +kernel
theorem dX5_fits_10 : decode cX5_fits 10 = .ok (.aload_n 0, 1) := by decide +kernel
theorem dX5_fits_11 : decode cX5_fits 11 = .ok (.getfield 28, 3) := by decide +kernel
theorem dX5_fits_14 : decode cX5_fits 14 = .ok (.iload_n 2, 1) := by decide +kernel
theorem dX5_fits_15 : decode cX5_fits 15 = .ok (.baload, 1) := by decide +kernel
theorem dX5_fits_16 : decode cX5_fits 16 = .ok (.ifCond .eq 14, 3) := by decide +kernel
theorem dX5_fits_19 : decode cX5_fits 19 = .ok (.aload_n 0, 1) := by decide +kernel
theorem dX5_fits_20 : decode cX5_fits 20 = .ok (.iload_n 2, 1) := by decide +kernel
theorem dX5_fits_21 : decode cX5_fits 21 = .ok (.aload_n 1, 1) := by decide +kernel
theorem dX5_fits_22 : decode cX5_fits 22 = .ok (.invokevirtual 102, 3) := by decide +kernel
theorem dX5_fits_25 : decode cX5_fits 25 = .ok (.ifCond .ne 5, 3) := by decide +kernel
theorem dX5_fits_28 : decode cX5_fits 28 = .ok (.iconst 0, 1) := by decide +kernel
theorem dX5_fits_29 : decode cX5_fits 29 = .ok (.ireturn, 1) := by decide +kernel
theorem dX5_fits_30 : decode cX5_fits 30 = .ok (.iinc 2 1, 3) := by decide +kernel
theorem dX5_fits_33 : decode cX5_fits 33 = .ok (.goto (-31), 3) := by decide +kernel
theorem dX5_fits_36 : decode cX5_fits 36 = .ok (.iconst 1, 1) := by decide +kernel
theorem dX5_fits_37 : decode cX5_fits 37 = .ok (.ireturn, 1) := by decide +kernel
theorem dX5_valueOf_0 : decode cX5_valueOf 0 = .ok (.iconst 0, 1) := by decide +kernel
theorem dX5_valueOf_1 : decode cX5_valueOf 1 = .ok (.istore_n 2, 1) := by decide +kernel
theorem dX5_valueOf_2 : decode cX5_valueOf 2 = .ok (.iconst 0, 1) := by decide +kernel
theorem dX5_valueOf_3 : decode cX5_valueOf 3 = .ok (.istore_n 3, 1) := by decide +kernel
theorem dX5_valueOf_4 : decode cX5_valueOf 4 = .ok (.iload_n 3, 1) := by decide +kernel
theorem dX5_valueOf_5 : decode cX5_valueOf 5 = .ok (.aload_n 0, 1) := by decide +kernel
theorem dX5_valueOf_6 : decode cX5_valueOf 6 = .ok (.getfield 66, 3) := by decide +kernel
theorem dX5_valueOf_9 : decode cX5_valueOf 9 = .ok (.if_icmp .ge 22, 3) := by decide +kernel
theorem dX5_valueOf_12 : decode cX5_valueOf 12 = .ok (.iload_n 2, 1) := by decide +kernel
theorem dX5_valueOf_13 : decode cX5_valueOf 13 = .ok (.aload_n 0, 1) := by decide +kernel
theorem dX5_valueOf_14 : decode cX5_valueOf 14 = .ok (.getfield 7, 3) := by decide +kernel
theorem dX5_valueOf_17 : decode cX5_valueOf 17 = .ok (.iload_n 3, 1) := by decide +kernel
theorem dX5_valueOf_18 : decode cX5_valueOf 18 = .ok (.iaload, 1) := by decide +kernel
theorem dX5_valueOf_19 : decode cX5_valueOf 19 = .ok (.aload_n 1, 1) := by decide +kernel
theorem dX5_valueOf_20 : decode cX5_valueOf 20 = .ok (.iload_n 3, 1) := by decide +kernel
theorem dX5_valueOf_21 : decode cX5_valueOf 21 = .ok (.iaload, 1) := by decide +kernel
theorem dX5_valueOf_22 : decode cX5_valueOf 22 = .ok (.imul, 1) := by decide +kernel
theorem dX5_valueOf_23 : decode cX5_valueOf 23 = .ok (.iadd, 1) := by decide +kernel
theorem dX5_valueOf_24 : decode cX5_valueOf 24 = .ok (.istore_n 2, 1) := by decide +kernel
theorem dX5_valueOf_25 : decode cX5_valueOf 25 = .ok (.iinc 3 1, 3) := by decide +kernel
theorem dX5_valueOf_28 : decode cX5_valueOf 28 = .ok (.goto (-24), 3) := by decide +kernel
theorem dX5_valueOf_31 : decode cX5_valueOf 31 = .ok (.iload_n 2, 1) := by decide +kernel
theorem dX5_valueOf_32 : decode cX5_valueOf 32 = .ok (.ireturn, 1) := by decide +kernel
theorem dX5_look_0 : decode cX5_look 0 = .ok (.aload_n 0, 1) := by decide +kernel
theorem dX5_look_1 : decode cX5_look 1 = .ok (.ldc 106, 2) := by decide +kernel
theorem dX5_look_3 : decode cX5_look 3 = .ok (.putfield 107, 3) := by decide +kernel
theorem dX5_look_6 : decode cX5_look 6 = .ok (.aload_n 0, 1) := by decide +kernel
theorem dX5_look_7 : decode cX5_look 7 = .ok (.iconst 0, 1) := by decide +kernel
theorem dX5_look_8 : decode cX5_look 8 = .ok (.putfield 110, 3) := by decide +kernel
theorem dX5_look_11 : decode cX5_look 11 = .ok (.aload_n 0, 1) := by decide +kernel
theorem dX5_look_12 : decode cX5_look 12 = .ok (.iconst 0, 1) := by decide +kernel
theorem dX5_look_13 : decode cX5_look 13 = .ok (.putfield 113, 3) := by decide +kernel
theorem dX5_look_16 : decode cX5_look 16 = .ok (.aload_n 0, 1) := by decide +kernel
theorem dX5_look_17 : decode cX5_look 17 = .ok (.iconst 0, 1) := by decide +kernel
theorem dX5_look_18 : decode cX5_look 18 = .ok (.putfield 116, 3) := by decide +kernel
theorem dX5_look_21 : decode cX5_look 21 = .ok (.iconst 0, 1) := by decide +kernel
theorem dX5_look_22 : decode cX5_look 22 = .ok (.istore_n 3, 1) := by decide +kernel
theorem dX5_look_23 : decode cX5_look 23 = .ok (.iload_n 3, 1) := by decide +kernel
theorem dX5_look_24 : decode cX5_look 24 = .ok (.aload_n 0, 1) := by decide +kernel
theorem dX5_look_25 : decode cX5_look 25 = .ok (.getfield 66, 3) := by decide +kernel
theorem dX5_look_28 : decode cX5_look 28 = .ok (.if_icmp .ge 25, 3) := by decide +kernel
theorem dX5_look_31 : decode cX5_look 31 = .ok (.aload_n 0, 1) := by decide +kernel
theorem dX5_look_32 : decode cX5_look 32 = .ok (.getfield 38, 3) := by decide +kernel
theorem dX5_look_35 : decode cX5_look 35 = .ok (.iload_n 3, 1) := by decide +kernel
theorem dX5_look_36 : decode cX5_look 36 = .ok (.iload_n 3, 1) := by decide +kernel
theorem dX5_look_37 : decode cX5_look 37 = .ok (.iload_n 1, 1) := by decide +kernel
theorem dX5_look_38 : decode cX5_look 38 = .ok (.if_icmp .ne 7, 3) := by decide +kernel
theorem dX5_look_41 : decode cX5_look 41 = .ok (.iload_n 2, 1) := by decide +kernel
theorem dX5_look_42 : decode cX5_look 42 = .ok (.goto 4, 3) := by decide +kernel
theorem dX5_look_45 : decode cX5_look 45 = .ok (.iconst 0, 1) := by decide +kernel
theorem dX5_look_46 : decode cX5_look 46 = .ok (.iastore, 1) := by decide +kernel
theorem dX5_look_47 : decode cX5_look 47 = .ok (.iinc 3 1, 3) := by decide +kernel
theorem dX5_look_50 : decode cX5_look 50 = .ok (.goto (-27), 3) := by decide +kernel
theorem dX5_look_53 : decode cX5_look 53 = .ok (.iconst 1, 1) := by decide +kernel
theorem dX5_look_54 : decode cX5_look 54 = .ok (.istore_n 3, 1) := by decide +kernel
theorem dX5_look_55 : decode cX5_look 55 = .ok (.iload_n 3, 1) := by decide +kernel
theorem dX5_look_56 : decode cX5_look 56 = .ok (.ifCond .eq 117, 3) := by decide +kernel
theorem dX5_look_59 : decode cX5_look 59 = .ok (.aload_n 0, 1) := by decide +kernel
theorem dX5_look_60 : decode cX5_look 60 = .ok (.dup, 1) := by decide +kernel
theorem dX5_look_61 : decode cX5_look 61 = .ok (.getfield 116, 3) := by decide +kernel
theorem dX5_look_64 : decode cX5_look 64 = .ok (.iconst 1, 1) := by decide +kernel
theorem dX5_look_65 : decode cX5_look 65 = .ok (.iadd, 1) := by decide +kernel
theorem dX5_look_66 : decode cX5_look 66 = .ok (.putfield 116, 3) := by decide +kernel
theorem dX5_look_69 : decode cX5_look 69 = .ok (.aload_n 0, 1) := by decide +kernel
theorem dX5_look_70 : decode cX5_look 70 = .ok (.aload_n 0, 1) := by decide +kernel
theorem dX5_look_71 : decode cX5_look 71 = .ok (.getfield 38, 3) := by decide +kernel
