theorem dX0_init_0 : decode cX0_init 0 = .ok (.aload_n 0, 1) := by decide +kernel
theorem dX0_init_1 : decode cX0_init 1 = .ok (.invokespecial 3, 3) := by decide +kernel
theorem dX0_init_4 : decode cX0_init 4 = .ok (.aload_n 0, 1) := by decide +kernel
theorem dX0_init_5 : decode cX0_init 5 = .ok (.iconst 4, 1) := by decide +kernel
theorem dX0_init_6 : decode cX0_init 6 = .ok (.newarray .int, 2) := by decide +kernel
theorem dX0_init_8 : decode cX0_init 8 = .ok (.putfield 9, 3) := by decide +kernel
theorem dX0_init_11 : decode cX0_init 11 = .ok (.aload_n 0, 1) := by decide +kernel
theorem dX0_init_12 : decode cX0_init 12 = .ok (.iconst 4, 1) := by decide +kernel
theorem dX0_init_13 : decode cX0_init 13 = .ok (.newarray .int, 2) := by decide +kernel
theorem dX0_init_15 : decode cX0_init 15 = .ok (.putfield 15, 3) := by decide +kernel
theorem dX0_init_18 : decode cX0_init 18 = .ok (.aload_n 0, 1) := by decide +kernel
theorem dX0_init_19 : decode cX0_init 19 = .ok (.bipush 6, 2) := by decide +kernel
theorem dX0_init_21 : decode cX0_init 21 = .ok (.newarray .int, 2) := by decide +kernel
theorem dX0_init_23 : decode cX0_init 23 = .ok (.putfield 18, 3) := by decide +kernel
theorem dX0_init_26 : decode cX0_init 26 = .ok (.aload_n 0, 1) := by decide +kernel
theorem dX0_init_27 : decode cX0_init 27 = .ok (.bipush 6, 2) := by decide +kernel
theorem dX0_init_29 : decode cX0_init 29 = .ok (.newarray .int, 2) := by decide +kernel
theorem dX0_init_31 : decode cX0_init 31 = .ok (.putfield 21, 3) := by decide +kernel
theorem dX0_init_34 : decode cX0_init 34 = .ok (.aload_n 0, 1) := by decide +kernel
theorem dX0_init_35 : decode cX0_init 35 = .ok (.bipush 6, 2) := by decide +kernel
theorem dX0_init_37 : decode cX0_init 37 = .ok (.newarray .int, 2) := by decide +kernel
theorem dX0_init_39 : decode cX0_init 39 = .ok (.putfield 24, 3) := by decide +kernel
theorem dX0_init_42 : decode cX0_init 42 = .ok (.aload_n 0, 1) := by decide +kernel
theorem dX0_init_43 : decode cX0_init 43 = .ok (.bipush 6, 2) := by decide +kernel
theorem dX0_init_45 : decode cX0_init 45 = .ok (.newarray .int, 2) := by decide +kernel
theorem dX0_init_47 : decode cX0_init 47 = .ok (.putfield 27, 3) := by decide +kernel
theorem dX0_init_50 : decode cX0_init 50 = .ok (.aload_n 0, 1) := by decide +kernel
theorem dX0_init_51 : decode cX0_init 51 = .ok (.bipush 6, 2) := by decide +kernel
theorem dX0_init_53 : decode cX0_init 53 = .ok (.newarray .boolean, 2) := by decide +kernel
theorem dX0_init_55 : decode cX0_init 55 = .ok (.putfield 30, 3) := by decide +kernel
theorem dX0_init_58 : decode cX0_init 58 = .ok (.aload_n 0, 1) := by decide +kernel
theorem dX0_init_59 : decode cX0_init 59 = .ok (.bipush 24, 2) := by decide +kernel
theorem dX0_init_61 : decode cX0_init 61 = .ok (.newarray .int, 2) := by decide +kernel
theorem dX0_init_63 : decode cX0_init 63 = .ok (.putfield 34, 3) := by decide +kernel
theorem dX0_init_66 : decode cX0_init 66 = .ok (.return_, 1) := by decide +kernel
theorem dX0_addThing_0 : decode cX0_addThing 0 = .ok (.aload_n 0, 1) := by decide +kernel
theorem dX0_addThing_1 : decode cX0_addThing 1 = .ok (.getfield 37, 3) := by decide +kernel
theorem dX0_addThing_4 : decode cX0_addThing 4 = .ok (.istore_n 3, 1) := by decide +kernel
theorem dX0_addThing_5 : decode cX0_addThing 5 = .ok (.aload_n 0, 1) := by decide +kernel
theorem dX0_addThing_6 : decode cX0_addThing 6 = .ok (.getfield 9, 3) := by decide +kernel
theorem dX0_addThing_9 : decode cX0_addThing 9 = .ok (.iload_n 3, 1) := by decide +kernel
theorem dX0_addThing_10 : decode cX0_addThing 10 = .ok (.iload_n 1, 1) := by decide +kernel
theorem dX0_addThing_11 : decode cX0_addThing 11 = .ok (.iastore, 1) := by decide +kernel
theorem dX0_addThing_12 : decode cX0_addThing 12 = .ok (.aload_n 0, 1) := by decide +kernel
theorem dX0_addThing_13 : decode cX0_addThing 13 = .ok (.getfield 15, 3) := by decide +kernel
theorem dX0_addThing_16 : decode cX0_addThing 16 = .ok (.iload_n 3, 1) := by decide +kernel
theorem dX0_addThing_17 : decode cX0_addThing 17 = .ok (.iload_n 2, 1) := by decide +kernel
theorem dX0_addThing_18 : decode cX0_addThing 18 = .ok (.iastore, 1) := by decide +kernel
theorem dX0_addThing_19 : decode cX0_addThing 19 = .ok (.aload_n 0, 1) := by decide +kernel
theorem dX0_addThing_20 : decode cX0_addThing 20 = .ok (.dup, 1) := by decide +kernel
theorem dX0_addThing_21 : decode cX0_addThing 21 = .ok (.getfield 37, 3) := by decide +kernel
theorem dX0_addThing_24 : decode cX0_addThing 24 = .ok (.iconst 1, 1) := by decide +kernel
theorem dX0_addThing_25 : decode cX0_addThing 25 = .ok (.iadd, 1) := by decide +kernel
theorem dX0_addThing_26 : decode cX0_addThing 26 = .ok (.putfield 37, 3) := by decide +kernel
theorem dX0_addThing_29 : decode cX0_addThing 29 = .ok (.iload_n 3, 1) := by decide +kernel
theorem dX0_addThing_30 : decode cX0_addThing 30 = .ok (.ireturn, 1) := by decide +kernel
theorem dX0_addRule_0 : decode cX0_addRule 0 = .ok (.aload_n 0, 1) := by decide +kernel
theorem dX0_addRule_1 : decode cX0_addRule 1 = .ok (.getfield 41, 3) := by decide +kernel
theorem dX0_addRule_4 : decode cX0_addRule 4 = .ok (.istore_n 3, 1) := by decide +kernel
theorem dX0_addRule_5 : decode cX0_addRule 5 = .ok (.aload_n 0, 1) := by decide +kernel
theorem dX0_addRule_6 : decode cX0_addRule 6 = .ok (.getfield 18, 3) := by decide +kernel
theorem dX0_addRule_9 : decode cX0_addRule 9 = .ok (.iload_n 3, 1) := by decide +kernel
theorem dX0_addRule_10 : decode cX0_addRule 10 = .ok (.iload_n 1, 1) := by decide +kernel
theorem dX0_addRule_11 : decode cX0_addRule 11 = .ok (.iastore, 1) := by decide +kernel
theorem dX0_addRule_12 : decode cX0_addRule 12 = .ok (.aload_n 0, 1) := by decide +kernel
theorem dX0_addRule_13 : decode cX0_addRule 13 = .ok (.getfield 27, 3) := by decide +kernel
theorem dX0_addRule_16 : decode cX0_addRule 16 = .ok (.iload_n 3, 1) := by decide +kernel
theorem dX0_addRule_17 : decode cX0_addRule 17 = .ok (.iload_n 2, 1) := by decide +kernel
theorem dX0_addRule_18 : decode cX0_addRule 18 = .ok (.iastore, 1) := by decide +kernel
theorem dX0_addRule_19 : decode cX0_addRule 19 = .ok (.aload_n 0, 1) := by decide +kernel
theorem dX0_addRule_20 : decode cX0_addRule 20 = .ok (.getfield 30, 3) := by decide +kernel
theorem dX0_addRule_23 : decode cX0_addRule 23 = .ok (.iload_n 3, 1) := by decide +kernel
theorem dX0_addRule_24 : decode cX0_addRule 24 = .ok (.iconst 1, 1) := by decide +kernel
theorem dX0_addRule_25 : decode cX0_addRule 25 = .ok (.bastore, 1) := by decide +kernel
theorem dX0_addRule_26 : decode cX0_addRule 26 = .ok (.aload_n 0, 1) := by decide +kernel
theorem dX0_addRule_27 : decode cX0_addRule 27 = .ok (.dup, 1) := by decide +kernel
theorem dX0_addRule_28 : decode cX0_addRule 28 = .ok (.getfield 41, 3) := by decide +kernel
theorem dX0_addRule_31 : decode cX0_addRule 31 = .ok (.iconst 1, 1) := by decide +kernel
theorem dX0_addRule_32 : decode cX0_addRule 32 = .ok (.iadd, 1) := by decide +kernel
theorem dX0_addRule_33 : decode cX0_addRule 33 = .ok (.putfield 41, 3) := by decide +kernel
theorem dX0_addRule_36 : decode cX0_addRule 36 = .ok (.iload_n 3, 1) := by decide +kernel
theorem dX0_addRule_37 : decode cX0_addRule 37 = .ok (.ireturn, 1) := by decide +kernel
theorem dX0_pair_0 : decode cX0_pair 0 = .ok (.aload_n 0, 1) := by decide +kernel
theorem dX0_pair_1 : decode cX0_pair 1 = .ok (.getfield 21, 3) := by decide +kernel
theorem dX0_pair_4 : decode cX0_pair 4 = .ok (.iload_n 1, 1) := by decide +kernel
theorem dX0_pair_5 : decode cX0_pair 5 = .ok (.iload_n 2, 1) := by decide +kernel
theorem dX0_pair_6 : decode cX0_pair 6 = .ok (.iastore, 1) := by decide +kernel
theorem dX0_pair_7 : decode cX0_pair 7 = .ok (.aload_n 0, 1) := by decide +kernel
theorem dX0_pair_8 : decode cX0_pair 8 = .ok (.getfield 24, 3) := by decide +kernel
theorem dX0_pair_11 : decode cX0_pair 11 = .ok (.iload_n 1, 1) := by decide +kernel
theorem dX0_pair_12 : decode cX0_pair 12 = .ok (.iload_n 3, 1) := by decide +kernel
theorem dX0_pair_13 : decode cX0_pair 13 = .ok (.iastore, 1) := by decide +kernel
theorem dX0_pair_14 : decode cX0_pair 14 = .ok (.aload_n 0, 1) := by decide +kernel
theorem dX0_pair_15 : decode cX0_pair 15 = .ok (.getfield 18, 3) := by decide +kernel
theorem dX0_pair_18 : decode cX0_pair 18 = .ok (.iload_n 1, 1) := by decide +kernel
theorem dX0_pair_19 : decode cX0_pair 19 = .ok (.iaload, 1) := by decide +kernel
theorem dX0_pair_20 : decode cX0_pair 20 = .ok (.iconst 1, 1) := by decide +kernel
theorem dX0_pair_21 : decode cX0_pair 21 = .ok (.if_icmp .ne 31, 3) := by decide +kernel
theorem dX0_pair_24 : decode cX0_pair 24 = .ok (.aload_n 0, 1) := by decide +kernel
theorem dX0_pair_25 : decode cX0_pair 25 = .ok (.getfield 34, 3) := by decide +kernel
theorem dX0_pair_28 : decode cX0_pair 28 = .ok (.iload_n 1, 1) := by decide +kernel
theorem dX0_pair_29 : decode cX0_pair 29 = .ok (.iconst 4, 1) := by decide +kernel
theorem dX0_pair_30 : decode cX0_pair 30 = .ok (.imul, 1) := by decide +kernel
theorem dX0_pair_31 : decode cX0_pair 31 = .ok (.iload_n 2, 1) := by decide +kernel
theorem dX0_pair_32 : decode cX0_pair 32 = .ok (.iadd, 1) := by decide +kernel
theorem dX0_pair_33 : decode cX0_pair 33 = .ok (.dup2, 1) := by decide +kernel
theorem dX0_pair_34 : decode cX0_pair 34 = .ok (.iaload, 1) := by decide +kernel
theorem dX0_pair_35 : decode cX0_pair 35 = .ok (.iconst 1, 1) := by decide +kernel
theorem dX0_pair_36 : decode cX0_pair 36 = .ok (.iadd, 1) := by decide +kernel
theorem dX0_pair_37 : decode cX0_pair 37 = .ok (.iastore, 1) := by decide +kernel
theorem dX0_pair_38 : decode cX0_pair 38 = .ok (.aload_n 0, 1) := by decide +kernel
theorem dX0_pair_39 : decode cX0_pair 39 = .ok (.getfield 34, 3) := by decide +kernel
theorem dX0_pair_42 : decode cX0_pair 42 = .ok (.iload_n 1, 1) := by decide +kernel
theorem dX0_pair_43 : decode cX0_pair 43 = .ok (.iconst 4, 1) := by decide +kernel
theorem dX0_pair_44 : decode cX0_pair 44 = .ok (.imul, 1) := by decide +kernel
theorem dX0_pair_45 : decode cX0_pair 45 = .ok (.iload_n 3, 1) := by decide +kernel
theorem dX0_pair_46 : decode cX0_pair 46 = .ok (.iadd, 1) := by decide +kernel
theorem dX0_pair_47 : decode cX0_pair 47 = .ok (.dup2, 1) := by decide +kernel
theorem dX0_pair_48 : decode cX0_pair 48 = .ok (.iaload, 1) := by decide +kernel
theorem dX0_pair_49 : decode cX0_pair 49 = .ok (.iconst 1, 1) := by decide +kernel
theorem dX0_pair_50 : decode cX0_pair 50 = .ok (.isub, 1) := by decide +kernel
theorem dX0_pair_51 : decode cX0_pair 51 = .ok (.iastore, 1) := by decide +kernel
theorem dX0_pair_52 : decode cX0_pair 52 = .ok (.return_, 1) := by decide +kernel
theorem dX0_rulesOn_0 : decode cX0_rulesOn 0 = .ok (.iconst 0, 1) := by decide +kernel
theorem dX0_rulesOn_1 : decode cX0_rulesOn 1 = .ok (.istore_n 1, 1) := by decide +kernel
theorem dX0_rulesOn_2 : decode cX0_rulesOn 2 = .ok (.iconst 0, 1) := by decide +kernel
theorem dX0_rulesOn_3 : decode cX0_rulesOn 3 = .ok (.istore_n 2, 1) := by decide +kernel
theorem dX0_rulesOn_4 : decode cX0_rulesOn 4 = .ok (.iload_n 2, 1) := by decide +kernel
theorem dX0_rulesOn_5 : decode cX0_rulesOn 5 = .ok (.aload_n 0, 1) := by decide +kernel
theorem dX0_rulesOn_6 : decode cX0_rulesOn 6 = .ok (.getfield 41, 3) := by decide +kernel
theorem dX0_rulesOn_9 : decode cX0_rulesOn 9 = .ok (.if_icmp .ge 21, 3) := by decide +kernel
theorem dX0_rulesOn_12 : decode cX0_rulesOn 12 = .ok (.aload_n 0, 1) := by decide +kernel
theorem dX0_rulesOn_13 : decode cX0_rulesOn 13 = .ok (.getfield 30, 3) := by decide +kernel
theorem dX0_rulesOn_16 : decode cX0_rulesOn 16 = .ok (.iload_n 2, 1) := by decide +kernel
theorem dX0_rulesOn_17 : decode cX0_rulesOn 17 = .ok (.baload, 1) := by decide +kernel
theorem dX0_rulesOn_18 : decode cX0_rulesOn 18 = .ok (.ifCond .eq 6, 3) := by decide +kernel
theorem dX0_rulesOn_21 : decode cX0_rulesOn 21 = .ok (.iinc 1 1, 3) := by decide +kernel
theorem dX0_rulesOn_24 : decode cX0_rulesOn 24 = .ok (.iinc 2 1, 3) := by decide +kernel
theorem dX0_rulesOn_27 : decode cX0_rulesOn 27 = .ok (.goto (-23), 3) := by decide +kernel
theorem dX0_rulesOn_30 : decode cX0_rulesOn 30 = .ok (.iload_n 1, 1) := by decide +kernel
theorem dX0_rulesOn_31 : decode cX0_rulesOn 31 = .ok (.ireturn, 1) := by decide +kernel
theorem dX0_countsForShares_0 : decode cX0_countsForShares 0 = .ok (.aload_n 0, 1) := by decide +kernel
theorem dX0_countsForShares_1 : decode cX0_countsForShares 1 = .ok (.getfield 30, 3) := by decide +kernel
theorem dX0_countsForShares_4 : decode cX0_countsForShares 4 = .ok (.iload_n 1, 1) := by decide +kernel
theorem dX0_countsForShares_5 : decode cX0_countsForShares 5 = .ok (.baload, 1) := by decide +kernel
theorem dX0_countsForShares_6 : decode cX0_countsForShares 6 = .ok (.ifCond .eq 17, 3) := by decide +kernel
theorem dX0_countsForShares_9 : decode cX0_countsForShares 9 = .ok (.aload_n 0, 1) := by decide +kernel
theorem dX0_countsForShares_10 : decode cX0_countsForShares 10 = .ok (.getfield 18, 3) := by decide +kernel
theorem dX0_countsForShares_13 : decode cX0_countsForShares 13 = .ok (.iload_n 1, 1) := by decide +kernel
theorem dX0_countsForShares_14 : decode cX0_countsForShares 14 = .ok (.iaload, 1) := by decide +kernel
theorem dX0_countsForShares_15 : decode cX0_countsForShares 15 = .ok (.iconst 2, 1) := by decide +kernel
theorem dX0_countsForShares_16 : decode cX0_countsForShares 16 = .ok (.if_icmp .eq 7, 3) := by decide +kernel
theorem dX0_countsForShares_19 : decode cX0_countsForShares 19 = .ok (.iconst 1, 1) := by decide +kernel
theorem dX0_countsForShares_20 : decode cX0_countsForShares 20 = .ok (.goto 4, 3) := by decide +kernel
theorem dX0_countsForShares_23 : decode cX0_countsForShares 23 = .ok (.iconst 0, 1) := by decide +kernel
theorem dX0_countsForShares_24 : decode cX0_countsForShares 24 = .ok (.ireturn, 1) := by decide +kernel
theorem dX1_init_0 : decode cX1_init 0 = .ok (.aload_n 0, 1) := by decide +kernel
theorem dX1_init_1 : decode cX1_init 1 = .ok (.invokespecial 3, 3) := by decide +kernel
theorem dX1_init_4 : decode cX1_init 4 = .ok (.aload_n 0, 1) := by decide +kernel
theorem dX1_init_5 : decode cX1_init 5 = .ok (.sipush 210, 3) := by decide +kernel
theorem dX1_init_8 : decode cX1_init 8 = .ok (.newarray .long, 2) := by decide +kernel
theorem dX1_init_10 : decode cX1_init 10 = .ok (.putfield 11, 3) := by decide +kernel
theorem dX1_init_13 : decode cX1_init 13 = .ok (.aload_n 0, 1) := by decide +kernel
theorem dX1_init_14 : decode cX1_init 14 = .ok (.sipush 210, 3) := by decide +kernel
theorem dX1_init_17 : decode cX1_init 17 = .ok (.newarray .long, 2) := by decide +kernel
theorem dX1_init_19 : decode cX1_init 19 = .ok (.putfield 15, 3) := by decide +kernel
theorem dX1_init_22 : decode cX1_init 22 = .ok (.aload_n 0, 1) := by decide +kernel
theorem dX1_init_23 : decode cX1_init 23 = .ok (.sipush 1260, 3) := by decide +kernel
theorem dX1_init_26 : decode cX1_init 26 = .ok (.newarray .long, 2) := by decide +kernel
theorem dX1_init_28 : decode cX1_init 28 = .ok (.putfield 18, 3) := by decide +kernel
theorem dX1_init_31 : decode cX1_init 31 = .ok (.aload_n 0, 1) := by decide +kernel
theorem dX1_init_32 : decode cX1_init 32 = .ok (.bipush 16, 2) := by decide +kernel
theorem dX1_init_34 : decode cX1_init 34 = .ok (.newarray .long, 2) := by decide +kernel
theorem dX1_init_36 : decode cX1_init 36 = .ok (.putfield 21, 3) := by decide +kernel
theorem dX1_init_39 : decode cX1_init 39 = .ok (.aload_n 0, 1) := by decide +kernel
theorem dX1_init_40 : decode cX1_init 40 = .ok (.iconst 4, 1) := by decide +kernel
theorem dX1_init_41 : decode cX1_init 41 = .ok (.newarray .long, 2) := by decide +kernel
theorem dX1_init_43 : decode cX1_init 43 = .ok (.putfield 24, 3) := by decide +kernel
theorem dX1_init_46 : decode cX1_init 46 = .ok (.return_, 1) := by decide +kernel
theorem dX1_find_0 : decode cX1_find 0 = .ok (.aload_n 0, 1) := by decide +kernel
theorem dX1_find_1 : decode cX1_find 1 = .ok (.iconst 0, 1) := by decide +kernel
theorem dX1_find_2 : decode cX1_find 2 = .ok (.putfield 27, 3) := by decide +kernel
theorem dX1_find_5 : decode cX1_find 5 = .ok (.iconst 0, 1) := by decide +kernel
theorem dX1_find_6 : decode cX1_find 6 = .ok (.istore_n 2, 1) := by decide +kernel
theorem dX1_find_7 : decode cX1_find 7 = .ok (.iload_n 2, 1) := by decide +kernel
theorem dX1_find_8 : decode cX1_find 8 = .ok (.iconst 1, 1) := by decide +kernel
theorem dX1_find_9 : decode cX1_find 9 = .ok (.aload_n 1, 1) := by decide +kernel
theorem dX1_find_10 : decode cX1_find 10 = .ok (.getfield 31, 3) := by decide +kernel
theorem dX1_find_13 : decode cX1_find 13 = .ok (.ishl, 1) := by decide +kernel
theorem dX1_find_14 : decode cX1_find 14 = .ok (.if_icmp .ge 42, 3) := by decide +kernel
theorem dX1_find_17 : decode cX1_find 17 = .ok (.aload_n 1, 1) := by decide +kernel
theorem dX1_find_18 : decode cX1_find 18 = .ok (.iload_n 2, 1) := by decide +kernel
theorem dX1_find_19 : decode cX1_find 19 = .ok (.invokestatic 36, 3) := by decide +kernel
theorem dX1_find_22 : decode cX1_find 22 = .ok (.ifCond .eq 28, 3) := by decide +kernel
theorem dX1_find_25 : decode cX1_find 25 = .ok (.iconst 0, 1) := by decide +kernel
theorem dX1_find_26 : decode cX1_find 26 = .ok (.istore_n 3, 1) := by decide +kernel
theorem dX1_find_27 : decode cX1_find 27 = .ok (.iload_n 3, 1) := by decide +kernel
theorem dX1_find_28 : decode cX1_find 28 = .ok (.iconst 1, 1) := by decide +kernel
theorem dX1_find_29 : decode cX1_find 29 = .ok (.aload_n 1, 1) := by decide +kernel
theorem dX1_find_30 : decode cX1_find 30 = .ok (.getfield 40, 3) := by decide +kernel
theorem dX1_find_33 : decode cX1_find 33 = .ok (.ishl, 1) := by decide +kernel
theorem dX1_find_34 : decode cX1_find 34 = .ok (.if_icmp .ge 16, 3) := by decide +kernel
theorem dX1_find_37 : decode cX1_find 37 = .ok (.aload_n 0, 1) := by decide +kernel
theorem dX1_find_38 : decode cX1_find 38 = .ok (.aload_n 1, 1) := by decide +kernel
theorem dX1_find_39 : decode cX1_find 39 = .ok (.iload_n 2, 1) := by decide +kernel
theorem dX1_find_40 : decode cX1_find 40 = .ok (.iload_n 3, 1) := by decide +kernel
theorem dX1_find_41 : decode cX1_find 41 = .ok (.invokevirtual 43, 3) := by decide +kernel
theorem dX1_find_44 : decode cX1_find 44 = .ok (.iinc 3 1, 3) := by decide +kernel
theorem dX1_find_47 : decode cX1_find 47 = .ok (.goto (-20), 3) := by decide +kernel
theorem dX1_find_50 : decode cX1_find 50 = .ok (.iinc 2 1, 3) := by decide +kernel
theorem dX1_find_53 : decode cX1_find 53 = .ok (.goto (-46), 3) := by decide +kernel
theorem dX1_find_56 : decode cX1_find 56 = .ok (.return_, 1) := by decide +kernel
theorem dX1_allCount_0 : decode cX1_allCount 0 = .ok (.iconst 0, 1) := by decide +kernel
theorem dX1_allCount_1 : decode cX1_allCount 1 = .ok (.istore_n 2, 1) := by decide +kernel
theorem dX1_allCount_2 : decode cX1_allCount 2 = .ok (.iload_n 2, 1) := by decide +kernel
theorem dX1_allCount_3 : decode cX1_allCount 3 = .ok (.aload_n 0, 1) := by decide +kernel
theorem dX1_allCount_4 : decode cX1_allCount 4 = .ok (.getfield 31, 3) := by decide +kernel
theorem dX1_allCount_7 : decode cX1_allCount 7 = .ok (.if_icmp .ge 27, 3) := by decide +kernel
theorem dX1_allCount_10 : decode cX1_allCount 10 = .ok (.iload_n 1, 1) := by decide +kernel
theorem dX1_allCount_11 : decode cX1_allCount 11 = .ok (.iload_n 2, 1) := by decide +kernel
theorem dX1_allCount_12 : decode cX1_allCount 12 = .ok (.invokestatic 47, 3) := by decide +kernel
theorem dX1_allCount_15 : decode cX1_allCount 15 = .ok (.ifCond .eq 13, 3) := by decide +kernel
theorem dX1_allCount_18 : decode cX1_allCount 18 = .ok (.aload_n 0, 1) := by decide +kernel
theorem dX1_allCount_19 : decode cX1_allCount 19 = .ok (.iload_n 2, 1) := by decide +kernel
theorem dX1_allCount_20 : decode cX1_allCount 20 = .ok (.invokevirtual 51, 3) := by decide +kernel
theorem dX1_allCount_23 : decode cX1_allCount 23 = .ok (.ifCond .ne 5, 3) := by decide +kernel
theorem dX1_allCount_26 : decode cX1_allCount 26 = .ok (.iconst 0, 1) := by decide +kernel
theorem dX1_allCount_27 : decode cX1_allCount 27 = .ok (.ireturn, 1) := by decide +kernel
theorem dX1_allCount_28 : decode cX1_allCount 28 = .ok (.iinc 2 1, 3) := by decide +kernel
theorem dX1_allCount_31 : decode cX1_allCount 31 = .ok (.goto (-29), 3) := by decide +kernel
theorem dX1_allCount_34 : decode cX1_allCount 34 = .ok (.iconst 1, 1) := by decide +kernel
theorem dX1_allCount_35 : decode cX1_allCount 35 = .ok (.ireturn, 1) := by decide +kernel
theorem dX1_has_0 : decode cX1_has 0 = .ok (.iload_n 0, 1) := by decide +kernel
theorem dX1_has_1 : decode cX1_has 1 = .ok (.iload_n 1, 1) := by decide +kernel
theorem dX1_has_2 : decode cX1_has 2 = .ok (.ishr, 1) := by decide +kernel
theorem dX1_has_3 : decode cX1_has 3 = .ok (.iconst 1, 1) := by decide +kernel
theorem dX1_has_4 : decode cX1_has 4 = .ok (.iand, 1) := by decide +kernel
theorem dX1_has_5 : decode cX1_has 5 = .ok (.ifCond .eq 7, 3) := by decide +kernel
theorem dX1_has_8 : decode cX1_has 8 = .ok (.iconst 1, 1) := by decide +kernel
theorem dX1_has_9 : decode cX1_has 9 = .ok (.goto 4, 3) := by decide +kernel
theorem dX1_has_12 : decode cX1_has 12 = .ok (.iconst 0, 1) := by decide +kernel
theorem dX1_has_13 : decode cX1_has 13 = .ok (.ireturn, 1) := by decide +kernel
theorem dX1_writeEquations_0 : decode cX1_writeEquations 0 = .ok (.iconst 0, 1) := by decide +kernel
theorem dX1_writeEquations_1 : decode cX1_writeEquations 1 = .ok (.istore 4, 2) := by decide +kernel
theorem dX1_writeEquations_3 : decode cX1_writeEquations 3 = .ok (.iconst 0, 1) := by decide +kernel
theorem dX1_writeEquations_4 : decode cX1_writeEquations 4 = .ok (.istore 5, 2) := by decide +kernel
theorem dX1_writeEquations_6 : decode cX1_writeEquations 6 = .ok (.iload 5, 2) := by decide +kernel
theorem dX1_writeEquations_8 : decode cX1_writeEquations 8 = .ok (.aload_n 1, 1) := by decide +kernel
theorem dX1_writeEquations_9 : decode cX1_writeEquations 9 = .ok (.getfield 40, 3) := by decide +kernel
theorem dX1_writeEquations_12 : decode cX1_writeEquations 12 = .ok (.if_icmp .ge 94, 3) := by decide +kernel
theorem dX1_writeEquations_15 : decode cX1_writeEquations 15 = .ok (.iload_n 3, 1) := by decide +kernel
theorem dX1_writeEquations_16 : decode cX1_writeEquations 16 = .ok (.iload 5, 2) := by decide +kernel
theorem dX1_writeEquations_18 : decode cX1_writeEquations 18 = .ok (.invokestatic 47, 3) := by decide +kernel
theorem dX1_writeEquations_21 : decode cX1_writeEquations 21 = .ok (.ifCond .eq 79, 3) := by decide +kernel
theorem dX1_writeEquations_24 : decode cX1_writeEquations 24 = .ok (.aload_n 0, 1) := by decide +kernel
theorem dX1_writeEquations_25 : decode cX1_writeEquations 25 = .ok (.getfield 24, 3) := by decide +kernel
theorem dX1_writeEquations_28 : decode cX1_writeEquations 28 = .ok (.iload 4, 2) := by decide +kernel
theorem dX1_writeEquations_30 : decode cX1_writeEquations 30 = .ok (.aload_n 1, 1) := by decide +kernel
theorem dX1_writeEquations_31 : decode cX1_writeEquations 31 = .ok (.getfield 55, 3) := by decide +kernel
theorem dX1_writeEquations_34 : decode cX1_writeEquations 34 = .ok (.iload 5, 2) := by decide +kernel
theorem dX1_writeEquations_36 : decode cX1_writeEquations 36 = .ok (.iaload, 1) := by decide +kernel
theorem dX1_writeEquations_37 : decode cX1_writeEquations 37 = .ok (.i2l, 1) := by decide +kernel
theorem dX1_writeEquations_38 : decode cX1_writeEquations 38 = .ok (.lastore, 1) := by decide +kernel
theorem dX1_writeEquations_39 : decode cX1_writeEquations 39 = .ok (.iconst 0, 1) := by decide +kernel
theorem dX1_writeEquations_40 : decode cX1_writeEquations 40 = .ok (.istore 6, 2) := by decide +kernel
theorem dX1_writeEquations_42 : decode cX1_writeEquations 42 = .ok (.iconst 0, 1) := by decide +kernel
theorem dX1_writeEquations_43 : decode cX1_writeEquations 43 = .ok (.istore 7, 2) := by decide +kernel
theorem dX1_writeEquations_45 : decode cX1_writeEquations 45 = .ok (.iload 7, 2) := by decide +kernel
theorem dX1_writeEquations_47 : decode cX1_writeEquations 47 = .ok (.aload_n 1, 1) := by decide +kernel
theorem dX1_writeEquations_48 : decode cX1_writeEquations 48 = .ok (.getfield 31, 3) := by decide +kernel
theorem dX1_writeEquations_51 : decode cX1_writeEquations 51 = .ok (.if_icmp .ge 46, 3) := by decide +kernel
theorem dX1_writeEquations_54 : decode cX1_writeEquations 54 = .ok (.iload_n 2, 1) := by decide +kernel
theorem dX1_writeEquations_55 : decode cX1_writeEquations 55 = .ok (.iload 7, 2) := by decide +kernel
theorem dX1_writeEquations_57 : decode cX1_writeEquations 57 = .ok (.invokestatic 47, 3) := by decide +kernel
theorem dX1_writeEquations_60 : decode cX1_writeEquations 60 = .ok (.ifCond .eq 31, 3) := by decide +kernel
theorem dX1_writeEquations_63 : decode cX1_writeEquations 63 = .ok (.aload_n 0, 1) := by decide +kernel
theorem dX1_writeEquations_64 : decode cX1_writeEquations 64 = .ok (.getfield 21, 3) := by decide +kernel
theorem dX1_writeEquations_67 : decode cX1_writeEquations 67 = .ok (.iload 4, 2) := by decide +kernel
theorem dX1_writeEquations_69 : decode cX1_writeEquations 69 = .ok (.iconst 4, 1) := by decide +kernel
theorem dX1_writeEquations_70 : decode cX1_writeEquations 70 = .ok (.imul, 1) := by decide +kernel
theorem dX1_writeEquations_71 : decode cX1_writeEquations 71 = .ok (.iload 6, 2) := by decide +kernel
theorem dX1_writeEquations_73 : decode cX1_writeEquations 73 = .ok (.iadd, 1) := by decide +kernel
theorem dX1_writeEquations_74 : decode cX1_writeEquations 74 = .ok (.aload_n 1, 1) := by decide +kernel
theorem dX1_writeEquations_75 : decode cX1_writeEquations 75 = .ok (.getfield 59, 3) := by decide +kernel
theorem dX1_writeEquations_78 : decode cX1_writeEquations 78 = .ok (.iload 7, 2) := by decide +kernel
theorem dX1_writeEquations_80 : decode cX1_writeEquations 80 = .ok (.iconst 4, 1) := by decide +kernel
theorem dX1_writeEquations_81 : decode cX1_writeEquations 81 = .ok (.imul, 1) := by decide +kernel
theorem dX1_writeEquations_82 : decode cX1_writeEquations 82 = .ok (.iload 5, 2) := by decide +kernel
theorem dX1_writeEquations_84 : decode cX1_writeEquations 84 = .ok (.iadd, 1) := by decide +kernel
theorem dX1_writeEquations_85 : decode cX1_writeEquations 85 = .ok (.iaload, 1) := by decide +kernel
theorem dX1_writeEquations_86 : decode cX1_writeEquations 86 = .ok (.i2l, 1) := by decide +kernel
theorem dX1_writeEquations_87 : decode cX1_writeEquations 87 = .ok (.lastore, 1) := by decide +kernel
theorem dX1_writeEquations_88 : decode cX1_writeEquations 88 = .ok (.iinc 6 1, 3) := by decide +kernel
theorem dX1_writeEquations_91 : decode cX1_writeEquations 91 = .ok (.iinc 7 1, 3) := by decide +kernel
theorem dX1_writeEquations_94 : decode cX1_writeEquations 94 = .ok (.goto (-49), 3) := by decide +kernel
theorem dX1_writeEquations_97 : decode cX1_writeEquations 97 = .ok (.iinc 4 1, 3) := by decide +kernel
theorem dX1_writeEquations_100 : decode cX1_writeEquations 100 = .ok (.iinc 5 1, 3) := by decide +kernel
theorem dX1_writeEquations_103 : decode cX1_writeEquations 103 = .ok (.goto (-97), 3) := by decide +kernel
theorem dX1_writeEquations_106 : decode cX1_writeEquations 106 = .ok (.return_, 1) := by decide +kernel
theorem dX1_tryCorner_0 : decode cX1_tryCorner 0 = .ok (.iload_n 2, 1) := by decide +kernel
theorem dX1_tryCorner_1 : decode cX1_tryCorner 1 = .ok (.invokestatic 62, 3) := by decide +kernel
theorem dX1_tryCorner_4 : decode cX1_tryCorner 4 = .ok (.istore 4, 2) := by decide +kernel
theorem dX1_tryCorner_6 : decode cX1_tryCorner 6 = .ok (.iload_n 3, 1) := by decide +kernel
theorem dX1_tryCorner_7 : decode cX1_tryCorner 7 = .ok (.invokestatic 62, 3) := by decide +kernel
theorem dX1_tryCorner_10 : decode cX1_tryCorner 10 = .ok (.iload 4, 2) := by decide +kernel
theorem dX1_tryCorner_12 : decode cX1_tryCorner 12 = .ok (.if_icmp .ne 13, 3) := by decide +kernel
theorem dX1_tryCorner_15 : decode cX1_tryCorner 15 = .ok (.aload_n 0, 1) := by decide +kernel
theorem dX1_tryCorner_16 : decode cX1_tryCorner 16 = .ok (.getfield 27, 3) := by decide +kernel
theorem dX1_tryCorner_19 : decode cX1_tryCorner 19 = .ok (.sipush 210, 3) := by decide +kernel
theorem dX1_tryCorner_22 : decode cX1_tryCorner 22 = .ok (.if_icmp .lt 4, 3) := by decide +kernel
theorem dX1_tryCorner_25 : decode cX1_tryCorner 25 = .ok (.return_, 1) := by decide +kernel
theorem dX1_tryCorner_26 : decode cX1_tryCorner 26 = .ok (.aload_n 0, 1) := by decide +kernel
theorem dX1_tryCorner_27 : decode cX1_tryCorner 27 = .ok (.aload_n 1, 1) := by decide +kernel
theorem dX1_tryCorner_28 : decode cX1_tryCorner 28 = .ok (.iload_n 2, 1) := by decide +kernel
theorem dX1_tryCorner_29 : decode cX1_tryCorner 29 = .ok (.iload_n 3, 1) := by decide +kernel
theorem dX1_tryCorner_30 : decode cX1_tryCorner 30 = .ok (.invokevirtual 68, 3) := by decide +kernel
theorem dX1_tryCorner_33 : decode cX1_tryCorner 33 = .ok (.aload_n 0, 1) := by decide +kernel
theorem dX1_tryCorner_34 : decode cX1_tryCorner 34 = .ok (.getfield 21, 3) := by decide +kernel
theorem dX1_tryCorner_37 : decode cX1_tryCorner 37 = .ok (.iload 4, 2) := by decide +kernel
theorem dX1_tryCorner_39 : decode cX1_tryCorner 39 = .ok (.iconst 0, 1) := by decide +kernel
theorem dX1_tryCorner_40 : decode cX1_tryCorner 40 = .ok (.iconst 0, 1) := by decide +kernel
theorem dX1_tryCorner_41 : decode cX1_tryCorner 41 = .ok (.invokestatic 71, 3) := by decide +kernel
theorem dX1_tryCorner_44 : decode cX1_tryCorner 44 = .ok (.lstore 5, 2) := by decide +kernel
theorem dX1_tryCorner_46 : decode cX1_tryCorner 46 = .ok (.lload 5, 2) := by decide +kernel
theorem dX1_tryCorner_48 : decode cX1_tryCorner 48 = .ok (.lconst 0, 1) := by decide +kernel
theorem dX1_tryCorner_49 : decode cX1_tryCorner 49 = .ok (.lcmp, 1) := by decide +kernel
theorem dX1_tryCorner_50 : decode cX1_tryCorner 50 = .ok (.ifCond .eq 15, 3) := by decide +kernel
theorem dX1_tryCorner_53 : decode cX1_tryCorner 53 = .ok (.aload_n 0, 1) := by decide +kernel
theorem dX1_tryCorner_54 : decode cX1_tryCorner 54 = .ok (.iload_n 2, 1) := by decide +kernel
theorem dX1_tryCorner_55 : decode cX1_tryCorner 55 = .ok (.iload 4, 2) := by decide +kernel
theorem dX1_tryCorner_57 : decode cX1_tryCorner 57 = .ok (.lload 5, 2) := by decide +kernel
theorem dX1_tryCorner_59 : decode cX1_tryCorner 59 = .ok (.invokevirtual 75, 3) := by decide +kernel
theorem dX1_tryCorner_62 : decode cX1_tryCorner 62 = .ok (.ifCond .ne 4, 3) := by decide +kernel
theorem dX1_tryCorner_65 : decode cX1_tryCorner 65 = .ok (.return_, 1) := by decide +kernel
theorem dX1_tryCorner_66 : decode cX1_tryCorner 66 = .ok (.aload_n 0, 1) := by decide +kernel
theorem dX1_tryCorner_67 : decode cX1_tryCorner 67 = .ok (.getfield 15, 3) := by decide +kernel
theorem dX1_tryCorner_70 : decode cX1_tryCorner 70 = .ok (.aload_n 0, 1) := by decide +kernel
theorem dX1_tryCorner_71 : decode cX1_tryCorner 71 = .ok (.getfield 27, 3) := by decide +kernel
theorem dX1_tryCorner_74 : decode cX1_tryCorner 74 = .ok (.lload 5, 2) := by decide +kernel
theorem dX1_tryCorner_76 : decode cX1_tryCorner 76 = .ok (.invokestatic 79, 3) := by decide +kernel
theorem dX1_tryCorner_79 : decode cX1_tryCorner 79 = .ok (.lastore, 1) := by decide +kernel
theorem dX1_tryCorner_80 : decode cX1_tryCorner 80 = .ok (.aload_n 0, 1) := by decide +kernel
theorem dX1_tryCorner_81 : decode cX1_tryCorner 81 = .ok (.getfield 11, 3) := by decide +kernel
theorem dX1_tryCorner_84 : decode cX1_tryCorner 84 = .ok (.aload_n 0, 1) := by decide +kernel
theorem dX1_tryCorner_85 : decode cX1_tryCorner 85 = .ok (.getfield 27, 3) := by decide +kernel
theorem dX1_tryCorner_88 : decode cX1_tryCorner 88 = .ok (.aload_n 0, 1) := by decide +kernel
theorem dX1_tryCorner_89 : decode cX1_tryCorner 89 = .ok (.aload_n 1, 1) := by decide +kernel
theorem dX1_tryCorner_90 : decode cX1_tryCorner 90 = .ok (.aload_n 0, 1) := by decide +kernel
theorem dX1_tryCorner_91 : decode cX1_tryCorner 91 = .ok (.getfield 27, 3) := by decide +kernel
theorem dX1_tryCorner_94 : decode cX1_tryCorner 94 = .ok (.invokevirtual 85, 3) := by decide +kernel
theorem dX1_tryCorner_97 : decode cX1_tryCorner 97 = .ok (.lastore, 1) := by decide +kernel
theorem dX1_tryCorner_98 : decode cX1_tryCorner 98 = .ok (.aload_n 0, 1) := by decide +kernel
theorem dX1_tryCorner_99 : decode cX1_tryCorner 99 = .ok (.dup, 1) := by decide +kernel
theorem dX1_tryCorner_100 : decode cX1_tryCorner 100 = .ok (.getfield 27, 3) := by decide +kernel
theorem dX1_tryCorner_103 : decode cX1_tryCorner 103 = .ok (.iconst 1, 1) := by decide +kernel
theorem dX1_tryCorner_104 : decode cX1_tryCorner 104 = .ok (.iadd, 1) := by decide +kernel
theorem dX1_tryCorner_105 : decode cX1_tryCorner 105 = .ok (.putfield 27, 3) := by decide +kernel
theorem dX1_tryCorner_108 : decode cX1_tryCorner 108 = .ok (.return_, 1) := by decide +kernel
theorem dX1_writePrices_0 : decode cX1_writePrices 0 = .ok (.iconst 0, 1) := by decide +kernel
theorem dX1_writePrices_1 : decode cX1_writePrices 1 = .ok (.istore 5, 2) := by decide +kernel
theorem dX1_writePrices_3 : decode cX1_writePrices 3 = .ok (.iconst 0, 1) := by decide +kernel
theorem dX1_writePrices_4 : decode cX1_writePrices 4 = .ok (.istore 6, 2) := by decide +kernel
theorem dX1_writePrices_6 : decode cX1_writePrices 6 = .ok (.iload 6, 2) := by decide +kernel
theorem dX1_writePrices_8 : decode cX1_writePrices 8 = .ok (.bipush 6, 2) := by decide +kernel
theorem dX1_writePrices_10 : decode cX1_writePrices 10 = .ok (.if_icmp .ge 87, 3) := by decide +kernel
theorem dX1_writePrices_13 : decode cX1_writePrices 13 = .ok (.lconst 0, 1) := by decide +kernel
theorem dX1_writePrices_14 : decode cX1_writePrices 14 = .ok (.lstore 7, 2) := by decide +kernel
theorem dX1_writePrices_16 : decode cX1_writePrices 16 = .ok (.iload_n 1, 1) := by decide +kernel
theorem dX1_writePrices_17 : decode cX1_writePrices 17 = .ok (.iload 6, 2) := by decide +kernel
theorem dX1_writePrices_19 : decode cX1_writePrices 19 = .ok (.invokestatic 47, 3) := by decide +kernel
theorem dX1_writePrices_22 : decode cX1_writePrices 22 = .ok (.ifCond .eq 32, 3) := by decide +kernel
theorem dX1_writePrices_25 : decode cX1_writePrices 25 = .ok (.aload_n 0, 1) := by decide +kernel
theorem dX1_writePrices_26 : decode cX1_writePrices 26 = .ok (.iload 5, 2) := by decide +kernel
theorem dX1_writePrices_28 : decode cX1_writePrices 28 = .ok (.iload_n 2, 1) := by decide +kernel
theorem dX1_writePrices_29 : decode cX1_writePrices 29 = .ok (.invokevirtual 89, 3) := by decide +kernel
theorem dX1_writePrices_32 : decode cX1_writePrices 32 = .ok (.aload_n 0, 1) := by decide +kernel
theorem dX1_writePrices_33 : decode cX1_writePrices 33 = .ok (.getfield 21, 3) := by decide +kernel
theorem dX1_writePrices_36 : decode cX1_writePrices 36 = .ok (.iload_n 2, 1) := by decide +kernel
theorem dX1_writePrices_37 : decode cX1_writePrices 37 = .ok (.iconst 0, 1) := by decide +kernel
theorem dX1_writePrices_38 : decode cX1_writePrices 38 = .ok (.iconst 0, 1) := by decide +kernel
theorem dX1_writePrices_39 : decode cX1_writePrices 39 = .ok (.invokestatic 71, 3) := by decide +kernel
theorem dX1_writePrices_42 : decode cX1_writePrices 42 = .ok (.lstore 7, 2) := by decide +kernel
theorem dX1_writePrices_44 : decode cX1_writePrices 44 = .ok (.aload_n 0, 1) := by decide +kernel
theorem dX1_writePrices_45 : decode cX1_writePrices 45 = .ok (.iload 5, 2) := by decide +kernel
theorem dX1_writePrices_47 : decode cX1_writePrices 47 = .ok (.iload_n 2, 1) := by decide +kernel
theorem dX1_writePrices_48 : decode cX1_writePrices 48 = .ok (.invokevirtual 89, 3) := by decide +kernel
theorem dX1_writePrices_51 : decode cX1_writePrices 51 = .ok (.iinc 5 1, 3) := by decide +kernel
theorem dX1_writePrices_54 : decode cX1_writePrices 54 = .ok (.lload_n 3, 1) := by decide +kernel
theorem dX1_writePrices_55 : decode cX1_writePrices 55 = .ok (.lconst 0, 1) := by decide +kernel
theorem dX1_writePrices_56 : decode cX1_writePrices 56 = .ok (.lcmp, 1) := by decide +kernel
theorem dX1_writePrices_57 : decode cX1_writePrices 57 = .ok (.ifCond .ge 8, 3) := by decide +kernel
theorem dX1_writePrices_60 : decode cX1_writePrices 60 = .ok (.lload 7, 2) := by decide +kernel
theorem dX1_writePrices_62 : decode cX1_writePrices 62 = .ok (.lneg, 1) := by decide +kernel
theorem dX1_writePrices_63 : decode cX1_writePrices 63 = .ok (.lstore 7, 2) := by decide +kernel
theorem dX1_writePrices_65 : decode cX1_writePrices 65 = .ok (.lload 7, 2) := by decide +kernel
theorem dX1_writePrices_67 : decode cX1_writePrices 67 = .ok (.lconst 0, 1) := by decide +kernel
theorem dX1_writePrices_68 : decode cX1_writePrices 68 = .ok (.lcmp, 1) := by decide +kernel
theorem dX1_writePrices_69 : decode cX1_writePrices 69 = .ok (.ifCond .ge 5, 3) := by decide +kernel
theorem dX1_writePrices_72 : decode cX1_writePrices 72 = .ok (.iconst 0, 1) := by decide +kernel
theorem dX1_writePrices_73 : decode cX1_writePrices 73 = .ok (.ireturn, 1) := by decide +kernel
theorem dX1_writePrices_74 : decode cX1_writePrices 74 = .ok (.aload_n 0, 1) := by decide +kernel
theorem dX1_writePrices_75 : decode cX1_writePrices 75 = .ok (.getfield 18, 3) := by decide +kernel
theorem dX1_writePrices_78 : decode cX1_writePrices 78 = .ok (.aload_n 0, 1) := by decide +kernel
theorem dX1_writePrices_79 : decode cX1_writePrices 79 = .ok (.getfield 27, 3) := by decide +kernel
theorem dX1_writePrices_82 : decode cX1_writePrices 82 = .ok (.bipush 6, 2) := by decide +kernel
theorem dX1_writePrices_84 : decode cX1_writePrices 84 = .ok (.imul, 1) := by decide +kernel
theorem dX1_writePrices_85 : decode cX1_writePrices 85 = .ok (.iload 6, 2) := by decide +kernel
theorem dX1_writePrices_87 : decode cX1_writePrices 87 = .ok (.iadd, 1) := by decide +kernel
theorem dX1_writePrices_88 : decode cX1_writePrices 88 = .ok (.lload 7, 2) := by decide +kernel
theorem dX1_writePrices_90 : decode cX1_writePrices 90 = .ok (.lastore, 1) := by decide +kernel
theorem dX1_writePrices_91 : decode cX1_writePrices 91 = .ok (.iinc 6 1, 3) := by decide +kernel
theorem dX1_writePrices_94 : decode cX1_writePrices 94 = .ok (.goto (-88), 3) := by decide +kernel
theorem dX1_writePrices_97 : decode cX1_writePrices 97 = .ok (.iconst 1, 1) := by decide +kernel
theorem dX1_writePrices_98 : decode cX1_writePrices 98 = .ok (.ireturn, 1) := by decide +kernel
theorem dX1_swapDues_0 : decode cX1_swapDues 0 = .ok (.iconst 0, 1) := by decide +kernel
theorem dX1_swapDues_1 : decode cX1_swapDues 1 = .ok (.istore_n 3, 1) := by decide +kernel
theorem dX1_swapDues_2 : decode cX1_swapDues 2 = .ok (.iload_n 3, 1) := by decide +kernel
theorem dX1_swapDues_3 : decode cX1_swapDues 3 = .ok (.iload_n 2, 1) := by decide +kernel
theorem dX1_swapDues_4 : decode cX1_swapDues 4 = .ok (.if_icmp .ge 46, 3) := by decide +kernel
theorem dX1_swapDues_7 : decode cX1_swapDues 7 = .ok (.iload_n 3, 1) := by decide +kernel
theorem dX1_swapDues_8 : decode cX1_swapDues 8 = .ok (.iconst 4, 1) := by decide +kernel
theorem dX1_swapDues_9 : decode cX1_swapDues 9 = .ok (.imul, 1) := by decide +kernel
theorem dX1_swapDues_10 : decode cX1_swapDues 10 = .ok (.iload_n 1, 1) := by decide +kernel
theorem dX1_swapDues_11 : decode cX1_swapDues 11 = .ok (.iadd, 1) := by decide +kernel
theorem dX1_swapDues_12 : decode cX1_swapDues 12 = .ok (.istore 4, 2) := by decide +kernel
theorem dX1_swapDues_14 : decode cX1_swapDues 14 = .ok (.aload_n 0, 1) := by decide +kernel
theorem dX1_swapDues_15 : decode cX1_swapDues 15 = .ok (.getfield 21, 3) := by decide +kernel
theorem dX1_swapDues_18 : decode cX1_swapDues 18 = .ok (.iload 4, 2) := by decide +kernel
theorem dX1_swapDues_20 : decode cX1_swapDues 20 = .ok (.laload, 1) := by decide +kernel
theorem dX1_swapDues_21 : decode cX1_swapDues 21 = .ok (.lstore 5, 2) := by decide +kernel
theorem dX1_swapDues_23 : decode cX1_swapDues 23 = .ok (.aload_n 0, 1) := by decide +kernel
theorem dX1_swapDues_24 : decode cX1_swapDues 24 = .ok (.getfield 21, 3) := by decide +kernel
theorem dX1_swapDues_27 : decode cX1_swapDues 27 = .ok (.iload 4, 2) := by decide +kernel
theorem dX1_swapDues_29 : decode cX1_swapDues 29 = .ok (.aload_n 0, 1) := by decide +kernel
theorem dX1_swapDues_30 : decode cX1_swapDues 30 = .ok (.getfield 24, 3) := by decide +kernel
theorem dX1_swapDues_33 : decode cX1_swapDues 33 = .ok (.iload_n 3, 1) := by decide +kernel
theorem dX1_swapDues_34 : decode cX1_swapDues 34 = .ok (.laload, 1) := by decide +kernel
theorem dX1_swapDues_35 : decode cX1_swapDues 35 = .ok (.lastore, 1) := by decide +kernel
theorem dX1_swapDues_36 : decode cX1_swapDues 36 = .ok (.aload_n 0, 1) := by decide +kernel
theorem dX1_swapDues_37 : decode cX1_swapDues 37 = .ok (.getfield 24, 3) := by decide +kernel
theorem dX1_swapDues_40 : decode cX1_swapDues 40 = .ok (.iload_n 3, 1) := by decide +kernel
theorem dX1_swapDues_41 : decode cX1_swapDues 41 = .ok (.lload 5, 2) := by decide +kernel
theorem dX1_swapDues_43 : decode cX1_swapDues 43 = .ok (.lastore, 1) := by decide +kernel
theorem dX1_swapDues_44 : decode cX1_swapDues 44 = .ok (.iinc 3 1, 3) := by decide +kernel
theorem dX1_swapDues_47 : decode cX1_swapDues 47 = .ok (.goto (-45), 3) := by decide +kernel
theorem dX1_swapDues_50 : decode cX1_swapDues 50 = .ok (.return_, 1) := by decide +kernel
theorem dX1_determinant_0 : decode cX1_determinant 0 = .ok (.iload_n 2, 1) := by decide +kernel
theorem dX1_determinant_1 : decode cX1_determinant 1 = .ok (.iload_n 1, 1) := by decide +kernel
theorem dX1_determinant_2 : decode cX1_determinant 2 = .ok (.if_icmp .ge 8, 3) := by decide +kernel
theorem dX1_determinant_5 : decode cX1_determinant 5 = .ok (.iload_n 2, 1) := by decide +kernel
theorem dX1_determinant_6 : decode cX1_determinant 6 = .ok (.iconst 4, 1) := by decide +kernel
theorem dX1_determinant_7 : decode cX1_determinant 7 = .ok (.if_icmp .lt 5, 3) := by decide +kernel
theorem dX1_determinant_10 : decode cX1_determinant 10 = .ok (.lconst 1, 1) := by decide +kernel
theorem dX1_determinant_11 : decode cX1_determinant 11 = .ok (.lreturn, 1) := by decide +kernel
theorem dX1_determinant_12 : decode cX1_determinant 12 = .ok (.lconst 0, 1) := by decide +kernel
theorem dX1_determinant_13 : decode cX1_determinant 13 = .ok (.lstore 4, 2) := by decide +kernel
theorem dX1_determinant_15 : decode cX1_determinant 15 = .ok (.lconst 1, 1) := by decide +kernel
theorem dX1_determinant_16 : decode cX1_determinant 16 = .ok (.lstore 6, 2) := by decide +kernel
theorem dX1_determinant_18 : decode cX1_determinant 18 = .ok (.iconst 0, 1) := by decide +kernel
theorem dX1_determinant_19 : decode cX1_determinant 19 = .ok (.istore 8, 2) := by decide +kernel
theorem dX1_determinant_21 : decode cX1_determinant 21 = .ok (.iload 8, 2) := by decide +kernel
theorem dX1_determinant_23 : decode cX1_determinant 23 = .ok (.iload_n 1, 1) := by decide +kernel
theorem dX1_determinant_24 : decode cX1_determinant 24 = .ok (.if_icmp .ge 65, 3) := by decide +kernel
theorem dX1_determinant_27 : decode cX1_determinant 27 = .ok (.iload_n 3, 1) := by decide +kernel
theorem dX1_determinant_28 : decode cX1_determinant 28 = .ok (.iload 8, 2) := by decide +kernel
theorem dX1_determinant_30 : decode cX1_determinant 30 = .ok (.invokestatic 47, 3) := by decide +kernel
theorem dX1_determinant_33 : decode cX1_determinant 33 = .ok (.ifCond .ne 50, 3) := by decide +kernel
theorem dX1_determinant_36 : decode cX1_determinant 36 = .ok (.aload_n 0, 1) := by decide +kernel
theorem dX1_determinant_37 : decode cX1_determinant 37 = .ok (.iload_n 2, 1) := by decide +kernel
theorem dX1_determinant_38 : decode cX1_determinant 38 = .ok (.iconst 4, 1) := by decide +kernel
theorem dX1_determinant_39 : decode cX1_determinant 39 = .ok (.imul, 1) := by decide +kernel
theorem dX1_determinant_40 : decode cX1_determinant 40 = .ok (.iload 8, 2) := by decide +kernel
theorem dX1_determinant_42 : decode cX1_determinant 42 = .ok (.iadd, 1) := by decide +kernel
theorem dX1_determinant_43 : decode cX1_determinant 43 = .ok (.laload, 1) := by decide +kernel
theorem dX1_determinant_44 : decode cX1_determinant 44 = .ok (.lstore 9, 2) := by decide +kernel
theorem dX1_determinant_46 : decode cX1_determinant 46 = .ok (.lload 9, 2) := by decide +kernel
theorem dX1_determinant_48 : decode cX1_determinant 48 = .ok (.lconst 0, 1) := by decide +kernel
theorem dX1_determinant_49 : decode cX1_determinant 49 = .ok (.lcmp, 1) := by decide +kernel
theorem dX1_determinant_50 : decode cX1_determinant 50 = .ok (.ifCond .eq 28, 3) := by decide +kernel
theorem dX1_determinant_53 : decode cX1_determinant 53 = .ok (.lload 4, 2) := by decide +kernel
theorem dX1_determinant_55 : decode cX1_determinant 55 = .ok (.lload 6, 2) := by decide +kernel
theorem dX1_determinant_57 : decode cX1_determinant 57 = .ok (.lload 9, 2) := by decide +kernel
theorem dX1_determinant_59 : decode cX1_determinant 59 = .ok (.lmul, 1) := by decide +kernel
theorem dX1_determinant_60 : decode cX1_determinant 60 = .ok (.aload_n 0, 1) := by decide +kernel
theorem dX1_determinant_61 : decode cX1_determinant 61 = .ok (.iload_n 1, 1) := by decide +kernel
theorem dX1_determinant_62 : decode cX1_determinant 62 = .ok (.iload_n 2, 1) := by decide +kernel
theorem dX1_determinant_63 : decode cX1_determinant 63 = .ok (.iconst 1, 1) := by decide +kernel
theorem dX1_determinant_64 : decode cX1_determinant 64 = .ok (.iadd, 1) := by decide +kernel
theorem dX1_determinant_65 : decode cX1_determinant 65 = .ok (.iload_n 3, 1) := by decide +kernel
theorem dX1_determinant_66 : decode cX1_determinant 66 = .ok (.iconst 1, 1) := by decide +kernel
theorem dX1_determinant_67 : decode cX1_determinant 67 = .ok (.iload 8, 2) := by decide +kernel
theorem dX1_determinant_69 : decode cX1_determinant 69 = .ok (.ishl, 1) := by decide +kernel
theorem dX1_determinant_70 : decode cX1_determinant 70 = .ok (.ior, 1) := by decide +kernel
theorem dX1_determinant_71 : decode cX1_determinant 71 = .ok (.invokestatic 71, 3) := by decide +kernel
theorem dX1_determinant_74 : decode cX1_determinant 74 = .ok (.lmul, 1) := by decide +kernel
theorem dX1_determinant_75 : decode cX1_determinant 75 = .ok (.ladd, 1) := by decide +kernel
theorem dX1_determinant_76 : decode cX1_determinant 76 = .ok (.lstore 4, 2) := by decide +kernel
theorem dX1_determinant_78 : decode cX1_determinant 78 = .ok (.lload 6, 2) := by decide +kernel
theorem dX1_determinant_80 : decode cX1_determinant 80 = .ok (.lneg, 1) := by decide +kernel
theorem dX1_determinant_81 : decode cX1_determinant 81 = .ok (.lstore 6, 2) := by decide +kernel
theorem dX1_determinant_83 : decode cX1_determinant 83 = .ok (.iinc 8 1, 3) := by decide +kernel
theorem dX1_determinant_86 : decode cX1_determinant 86 = .ok (.goto (-65), 3) := by decide +kernel
theorem dX1_determinant_89 : decode cX1_determinant 89 = .ok (.lload 4, 2) := by decide +kernel
theorem dX1_determinant_91 : decode cX1_determinant 91 = .ok (.lreturn, 1) := by decide +kernel
theorem dX1_boundAt_0 : decode cX1_boundAt 0 = .ok (.lconst 0, 1) := by decide +kernel
theorem dX1_boundAt_1 : decode cX1_boundAt 1 = .ok (.lstore_n 3, 1) := by decide +kernel
theorem dX1_boundAt_2 : decode cX1_boundAt 2 = .ok (.iconst 0, 1) := by decide +kernel
theorem dX1_boundAt_3 : decode cX1_boundAt 3 = .ok (.istore 5, 2) := by decide +kernel
theorem dX1_boundAt_5 : decode cX1_boundAt 5 = .ok (.iload 5, 2) := by decide +kernel
theorem dX1_boundAt_7 : decode cX1_boundAt 7 = .ok (.aload_n 1, 1) := by decide +kernel
theorem dX1_boundAt_8 : decode cX1_boundAt 8 = .ok (.getfield 31, 3) := by decide +kernel
theorem dX1_boundAt_11 : decode cX1_boundAt 11 = .ok (.if_icmp .ge 28, 3) := by decide +kernel
theorem dX1_boundAt_14 : decode cX1_boundAt 14 = .ok (.lload_n 3, 1) := by decide +kernel
theorem dX1_boundAt_15 : decode cX1_boundAt 15 = .ok (.aload_n 1, 1) := by decide +kernel
theorem dX1_boundAt_16 : decode cX1_boundAt 16 = .ok (.getfield 93, 3) := by decide +kernel
theorem dX1_boundAt_19 : decode cX1_boundAt 19 = .ok (.iload 5, 2) := by decide +kernel
theorem dX1_boundAt_21 : decode cX1_boundAt 21 = .ok (.iaload, 1) := by decide +kernel
theorem dX1_boundAt_22 : decode cX1_boundAt 22 = .ok (.i2l, 1) := by decide +kernel
theorem dX1_boundAt_23 : decode cX1_boundAt 23 = .ok (.aload_n 0, 1) := by decide +kernel
theorem dX1_boundAt_24 : decode cX1_boundAt 24 = .ok (.iload_n 2, 1) := by decide +kernel
theorem dX1_boundAt_25 : decode cX1_boundAt 25 = .ok (.iload 5, 2) := by decide +kernel
theorem dX1_boundAt_27 : decode cX1_boundAt 27 = .ok (.invokevirtual 96, 3) := by decide +kernel
theorem dX1_boundAt_30 : decode cX1_boundAt 30 = .ok (.lmul, 1) := by decide +kernel
theorem dX1_boundAt_31 : decode cX1_boundAt 31 = .ok (.ladd, 1) := by decide +kernel
theorem dX1_boundAt_32 : decode cX1_boundAt 32 = .ok (.lstore_n 3, 1) := by decide +kernel
theorem dX1_boundAt_33 : decode cX1_boundAt 33 = .ok (.iinc 5 1, 3) := by decide +kernel
theorem dX1_boundAt_36 : decode cX1_boundAt 36 = .ok (.goto (-31), 3) := by decide +kernel
theorem dX1_boundAt_39 : decode cX1_boundAt 39 = .ok (.iconst 0, 1) := by decide +kernel
theorem dX1_boundAt_40 : decode cX1_boundAt 40 = .ok (.istore 5, 2) := by decide +kernel
theorem dX1_boundAt_42 : decode cX1_boundAt 42 = .ok (.iload 5, 2) := by decide +kernel
theorem dX1_boundAt_44 : decode cX1_boundAt 44 = .ok (.aload_n 1, 1) := by decide +kernel
theorem dX1_boundAt_45 : decode cX1_boundAt 45 = .ok (.getfield 40, 3) := by decide +kernel
theorem dX1_boundAt_48 : decode cX1_boundAt 48 = .ok (.if_icmp .ge 88, 3) := by decide +kernel
theorem dX1_boundAt_51 : decode cX1_boundAt 51 = .ok (.aload_n 1, 1) := by decide +kernel
theorem dX1_boundAt_52 : decode cX1_boundAt 52 = .ok (.getfield 55, 3) := by decide +kernel
theorem dX1_boundAt_55 : decode cX1_boundAt 55 = .ok (.iload 5, 2) := by decide +kernel
theorem dX1_boundAt_57 : decode cX1_boundAt 57 = .ok (.iaload, 1) := by decide +kernel
theorem dX1_boundAt_58 : decode cX1_boundAt 58 = .ok (.i2l, 1) := by decide +kernel
theorem dX1_boundAt_59 : decode cX1_boundAt 59 = .ok (.aload_n 0, 1) := by decide +kernel
theorem dX1_boundAt_60 : decode cX1_boundAt 60 = .ok (.getfield 15, 3) := by decide +kernel
theorem dX1_boundAt_63 : decode cX1_boundAt 63 = .ok (.iload_n 2, 1) := by decide +kernel
theorem dX1_boundAt_64 : decode cX1_boundAt 64 = .ok (.laload, 1) := by decide +kernel
theorem dX1_boundAt_65 : decode cX1_boundAt 65 = .ok (.lmul, 1) := by decide +kernel
theorem dX1_boundAt_66 : decode cX1_boundAt 66 = .ok (.lstore 6, 2) := by decide +kernel
theorem dX1_boundAt_68 : decode cX1_boundAt 68 = .ok (.iconst 0, 1) := by decide +kernel
theorem dX1_boundAt_69 : decode cX1_boundAt 69 = .ok (.istore 8, 2) := by decide +kernel
theorem dX1_boundAt_71 : decode cX1_boundAt 71 = .ok (.iload 8, 2) := by decide +kernel
theorem dX1_boundAt_73 : decode cX1_boundAt 73 = .ok (.aload_n 1, 1) := by decide +kernel
theorem dX1_boundAt_74 : decode cX1_boundAt 74 = .ok (.getfield 31, 3) := by decide +kernel
theorem dX1_boundAt_77 : decode cX1_boundAt 77 = .ok (.if_icmp .ge 35, 3) := by decide +kernel
theorem dX1_boundAt_80 : decode cX1_boundAt 80 = .ok (.lload 6, 2) := by decide +kernel
theorem dX1_boundAt_82 : decode cX1_boundAt 82 = .ok (.aload_n 1, 1) := by decide +kernel
theorem dX1_boundAt_83 : decode cX1_boundAt 83 = .ok (.getfield 59, 3) := by decide +kernel
theorem dX1_boundAt_86 : decode cX1_boundAt 86 = .ok (.iload 8, 2) := by decide +kernel
theorem dX1_boundAt_88 : decode cX1_boundAt 88 = .ok (.iconst 4, 1) := by decide +kernel
theorem dX1_boundAt_89 : decode cX1_boundAt 89 = .ok (.imul, 1) := by decide +kernel
theorem dX1_boundAt_90 : decode cX1_boundAt 90 = .ok (.iload 5, 2) := by decide +kernel
theorem dX1_boundAt_92 : decode cX1_boundAt 92 = .ok (.iadd, 1) := by decide +kernel
theorem dX1_boundAt_93 : decode cX1_boundAt 93 = .ok (.iaload, 1) := by decide +kernel
theorem dX1_boundAt_94 : decode cX1_boundAt 94 = .ok (.i2l, 1) := by decide +kernel
theorem dX1_boundAt_95 : decode cX1_boundAt 95 = .ok (.aload_n 0, 1) := by decide +kernel
theorem dX1_boundAt_96 : decode cX1_boundAt 96 = .ok (.iload_n 2, 1) := by decide +kernel
theorem dX1_boundAt_97 : decode cX1_boundAt 97 = .ok (.iload 8, 2) := by decide +kernel
theorem dX1_boundAt_99 : decode cX1_boundAt 99 = .ok (.invokevirtual 96, 3) := by decide +kernel
theorem dX1_boundAt_102 : decode cX1_boundAt 102 = .ok (.lmul, 1) := by decide +kernel
theorem dX1_boundAt_103 : decode cX1_boundAt 103 = .ok (.lsub, 1) := by decide +kernel
theorem dX1_boundAt_104 : decode cX1_boundAt 104 = .ok (.lstore 6, 2) := by decide +kernel
theorem dX1_boundAt_106 : decode cX1_boundAt 106 = .ok (.iinc 8 1, 3) := by decide +kernel
theorem dX1_boundAt_109 : decode cX1_boundAt 109 = .ok (.goto (-38), 3) := by decide +kernel
theorem dX1_boundAt_112 : decode cX1_boundAt 112 = .ok (.lload_n 3, 1) := by decide +kernel
theorem dX1_boundAt_113 : decode cX1_boundAt 113 = .ok (.aload_n 1, 1) := by decide +kernel
theorem dX1_boundAt_114 : decode cX1_boundAt 114 = .ok (.getfield 100, 3) := by decide +kernel
theorem dX1_boundAt_117 : decode cX1_boundAt 117 = .ok (.iload 5, 2) := by decide +kernel
theorem dX1_boundAt_119 : decode cX1_boundAt 119 = .ok (.iaload, 1) := by decide +kernel
theorem dX1_boundAt_120 : decode cX1_boundAt 120 = .ok (.i2l, 1) := by decide +kernel
theorem dX1_boundAt_121 : decode cX1_boundAt 121 = .ok (.lconst 0, 1) := by decide +kernel
theorem dX1_boundAt_122 : decode cX1_boundAt 122 = .ok (.lload 6, 2) := by decide +kernel
theorem dX1_boundAt_124 : decode cX1_boundAt 124 = .ok (.invokestatic 103, 3) := by decide +kernel
theorem dX1_boundAt_127 : decode cX1_boundAt 127 = .ok (.lmul, 1) := by decide +kernel
theorem dX1_boundAt_128 : decode cX1_boundAt 128 = .ok (.ladd, 1) := by decide +kernel
theorem dX1_boundAt_129 : decode cX1_boundAt 129 = .ok (.lstore_n 3, 1) := by decide +kernel
theorem dX1_boundAt_130 : decode cX1_boundAt 130 = .ok (.iinc 5 1, 3) := by decide +kernel
theorem dX1_boundAt_133 : decode cX1_boundAt 133 = .ok (.goto (-91), 3) := by decide +kernel
theorem dX1_boundAt_136 : decode cX1_boundAt 136 = .ok (.lload_n 3, 1) := by decide +kernel
theorem dX1_boundAt_137 : decode cX1_boundAt 137 = .ok (.lreturn, 1) := by decide +kernel
theorem dX1_slope_0 : decode cX1_slope 0 = .ok (.aload_n 0, 1) := by decide +kernel
theorem dX1_slope_1 : decode cX1_slope 1 = .ok (.getfield 18, 3) := by decide +kernel
theorem dX1_slope_4 : decode cX1_slope 4 = .ok (.iload_n 1, 1) := by decide +kernel
theorem dX1_slope_5 : decode cX1_slope 5 = .ok (.bipush 6, 2) := by decide +kernel
theorem dX1_slope_7 : decode cX1_slope 7 = .ok (.imul, 1) := by decide +kernel
theorem dX1_slope_8 : decode cX1_slope 8 = .ok (.iload_n 2, 1) := by decide +kernel
theorem dX1_slope_9 : decode cX1_slope 9 = .ok (.iadd, 1) := by decide +kernel
theorem dX1_slope_10 : decode cX1_slope 10 = .ok (.laload, 1) := by decide +kernel
theorem dX1_slope_11 : decode cX1_slope 11 = .ok (.lreturn, 1) := by decide +kernel
theorem dX1_leastBound_0 : decode cX1_leastBound 0 = .ok (.iconst 0, 1) := by decide +kernel
theorem dX1_leastBound_1 : decode cX1_leastBound 1 = .ok (.istore_n 1, 1) := by decide +kernel
theorem dX1_leastBound_2 : decode cX1_leastBound 2 = .ok (.iconst 1, 1) := by decide +kernel
theorem dX1_leastBound_3 : decode cX1_leastBound 3 = .ok (.istore_n 2, 1) := by decide +kernel
theorem dX1_leastBound_4 : decode cX1_leastBound 4 = .ok (.iload_n 2, 1) := by decide +kernel
theorem dX1_leastBound_5 : decode cX1_leastBound 5 = .ok (.aload_n 0, 1) := by decide +kernel
theorem dX1_leastBound_6 : decode cX1_leastBound 6 = .ok (.getfield 27, 3) := by decide +kernel
theorem dX1_leastBound_9 : decode cX1_leastBound 9 = .ok (.if_icmp .ge 22, 3) := by decide +kernel
theorem dX1_leastBound_12 : decode cX1_leastBound 12 = .ok (.aload_n 0, 1) := by decide +kernel
theorem dX1_leastBound_13 : decode cX1_leastBound 13 = .ok (.iload_n 2, 1) := by decide +kernel
theorem dX1_leastBound_14 : decode cX1_leastBound 14 = .ok (.iload_n 1, 1) := by decide +kernel
theorem dX1_leastBound_15 : decode cX1_leastBound 15 = .ok (.invokevirtual 107, 3) := by decide +kernel
theorem dX1_leastBound_18 : decode cX1_leastBound 18 = .ok (.lconst 0, 1) := by decide +kernel
theorem dX1_leastBound_19 : decode cX1_leastBound 19 = .ok (.lcmp, 1) := by decide +kernel
theorem dX1_leastBound_20 : decode cX1_leastBound 20 = .ok (.ifCond .ge 5, 3) := by decide +kernel
theorem dX1_leastBound_23 : decode cX1_leastBound 23 = .ok (.iload_n 2, 1) := by decide +kernel
theorem dX1_leastBound_24 : decode cX1_leastBound 24 = .ok (.istore_n 1, 1) := by decide +kernel
theorem dX1_leastBound_25 : decode cX1_leastBound 25 = .ok (.iinc 2 1, 3) := by decide +kernel
theorem dX1_leastBound_28 : decode cX1_leastBound 28 = .ok (.goto (-24), 3) := by decide +kernel
theorem dX1_leastBound_31 : decode cX1_leastBound 31 = .ok (.iload_n 1, 1) := by decide +kernel
theorem dX1_leastBound_32 : decode cX1_leastBound 32 = .ok (.ireturn, 1) := by decide +kernel
theorem dX1_leastBoundFlattest_0 : decode cX1_leastBoundFlattest 0 = .ok (.iconst 0, 1) := by decide +kernel
theorem dX1_leastBoundFlattest_1 : decode cX1_leastBoundFlattest 1 = .ok (.istore_n 2, 1) := by decide +kernel
theorem dX1_leastBoundFlattest_2 : decode cX1_leastBoundFlattest 2 = .ok (.iconst 1, 1) := by decide +kernel
theorem dX1_leastBoundFlattest_3 : decode cX1_leastBoundFlattest 3 = .ok (.istore_n 3, 1) := by decide +kernel
theorem dX1_leastBoundFlattest_4 : decode cX1_leastBoundFlattest 4 = .ok (.iload_n 3, 1) := by decide +kernel
theorem dX1_leastBoundFlattest_5 : decode cX1_leastBoundFlattest 5 = .ok (.aload_n 0, 1) := by decide +kernel
theorem dX1_leastBoundFlattest_6 : decode cX1_leastBoundFlattest 6 = .ok (.getfield 27, 3) := by decide +kernel
theorem dX1_leastBoundFlattest_9 : decode cX1_leastBoundFlattest 9 = .ok (.if_icmp .ge 45, 3) := by decide +kernel
theorem dX1_leastBoundFlattest_12 : decode cX1_leastBoundFlattest 12 = .ok (.aload_n 0, 1) := by decide +kernel
theorem dX1_leastBoundFlattest_13 : decode cX1_leastBoundFlattest 13 = .ok (.iload_n 3, 1) := by decide +kernel
theorem dX1_leastBoundFlattest_14 : decode cX1_leastBoundFlattest 14 = .ok (.iload_n 2, 1) := by decide +kernel
theorem dX1_leastBoundFlattest_15 : decode cX1_leastBoundFlattest 15 = .ok (.invokevirtual 107, 3) := by decide +kernel
theorem dX1_leastBoundFlattest_18 : decode cX1_leastBoundFlattest 18 = .ok (.lstore 4, 2) := by decide +kernel
theorem dX1_leastBoundFlattest_20 : decode cX1_leastBoundFlattest 20 = .ok (.lload 4, 2) := by decide +kernel
theorem dX1_leastBoundFlattest_22 : decode cX1_leastBoundFlattest 22 = .ok (.lconst 0, 1) := by decide +kernel
theorem dX1_leastBoundFlattest_23 : decode cX1_leastBoundFlattest 23 = .ok (.lcmp, 1) := by decide +kernel
theorem dX1_leastBoundFlattest_24 : decode cX1_leastBoundFlattest 24 = .ok (.ifCond .lt 22, 3) := by decide +kernel
theorem dX1_leastBoundFlattest_27 : decode cX1_leastBoundFlattest 27 = .ok (.lload 4, 2) := by decide +kernel
theorem dX1_leastBoundFlattest_29 : decode cX1_leastBoundFlattest 29 = .ok (.lconst 0, 1) := by decide +kernel
theorem dX1_leastBoundFlattest_30 : decode cX1_leastBoundFlattest 30 = .ok (.lcmp, 1) := by decide +kernel
theorem dX1_leastBoundFlattest_31 : decode cX1_leastBoundFlattest 31 = .ok (.ifCond .ne 17, 3) := by decide +kernel
theorem dX1_leastBoundFlattest_34 : decode cX1_leastBoundFlattest 34 = .ok (.aload_n 0, 1) := by decide +kernel
theorem dX1_leastBoundFlattest_35 : decode cX1_leastBoundFlattest 35 = .ok (.iload_n 3, 1) := by decide +kernel
theorem dX1_leastBoundFlattest_36 : decode cX1_leastBoundFlattest 36 = .ok (.iload_n 2, 1) := by decide +kernel
theorem dX1_leastBoundFlattest_37 : decode cX1_leastBoundFlattest 37 = .ok (.iload_n 1, 1) := by decide +kernel
theorem dX1_leastBoundFlattest_38 : decode cX1_leastBoundFlattest 38 = .ok (.invokevirtual 110, 3) := by decide +kernel
theorem dX1_leastBoundFlattest_41 : decode cX1_leastBoundFlattest 41 = .ok (.lconst 0, 1) := by decide +kernel
theorem dX1_leastBoundFlattest_42 : decode cX1_leastBoundFlattest 42 = .ok (.lcmp, 1) := by decide +kernel
theorem dX1_leastBoundFlattest_43 : decode cX1_leastBoundFlattest 43 = .ok (.ifCond .le 5, 3) := by decide +kernel
theorem dX1_leastBoundFlattest_46 : decode cX1_leastBoundFlattest 46 = .ok (.iload_n 3, 1) := by decide +kernel
theorem dX1_leastBoundFlattest_47 : decode cX1_leastBoundFlattest 47 = .ok (.istore_n 2, 1) := by decide +kernel
theorem dX1_leastBoundFlattest_48 : decode cX1_leastBoundFlattest 48 = .ok (.iinc 3 1, 3) := by decide +kernel
theorem dX1_leastBoundFlattest_51 : decode cX1_leastBoundFlattest 51 = .ok (.goto (-47), 3) := by decide +kernel
theorem dX1_leastBoundFlattest_54 : decode cX1_leastBoundFlattest 54 = .ok (.iload_n 2, 1) := by decide +kernel
theorem dX1_leastBoundFlattest_55 : decode cX1_leastBoundFlattest 55 = .ok (.ireturn, 1) := by decide +kernel
theorem dX1_reach_0 : decode cX1_reach 0 = .ok (.ldc2_w 114, 3) := by decide +kernel
theorem dX1_reach_3 : decode cX1_reach 3 = .ok (.lstore_n 3, 1) := by decide +kernel
theorem dX1_reach_4 : decode cX1_reach 4 = .ok (.iconst 0, 1) := by decide +kernel
theorem dX1_reach_5 : decode cX1_reach 5 = .ok (.istore 5, 2) := by decide +kernel
theorem dX1_reach_7 : decode cX1_reach 7 = .ok (.iload 5, 2) := by decide +kernel
theorem dX1_reach_9 : decode cX1_reach 9 = .ok (.aload_n 0, 1) := by decide +kernel
theorem dX1_reach_10 : decode cX1_reach 10 = .ok (.getfield 27, 3) := by decide +kernel
theorem dX1_reach_13 : decode cX1_reach 13 = .ok (.if_icmp .ge 41, 3) := by decide +kernel
theorem dX1_reach_16 : decode cX1_reach 16 = .ok (.aload_n 0, 1) := by decide +kernel
theorem dX1_reach_17 : decode cX1_reach 17 = .ok (.iload 5, 2) := by decide +kernel
theorem dX1_reach_19 : decode cX1_reach 19 = .ok (.iload_n 1, 1) := by decide +kernel
theorem dX1_reach_20 : decode cX1_reach 20 = .ok (.iload_n 2, 1) := by decide +kernel
theorem dX1_reach_21 : decode cX1_reach 21 = .ok (.invokevirtual 110, 3) := by decide +kernel
theorem dX1_reach_24 : decode cX1_reach 24 = .ok (.lstore 6, 2) := by decide +kernel
theorem dX1_reach_26 : decode cX1_reach 26 = .ok (.lload 6, 2) := by decide +kernel
theorem dX1_reach_28 : decode cX1_reach 28 = .ok (.lconst 0, 1) := by decide +kernel
theorem dX1_reach_29 : decode cX1_reach 29 = .ok (.lcmp, 1) := by decide +kernel
theorem dX1_reach_30 : decode cX1_reach 30 = .ok (.ifCond .le 18, 3) := by decide +kernel
theorem dX1_reach_33 : decode cX1_reach 33 = .ok (.lload_n 3, 1) := by decide +kernel
theorem dX1_reach_34 : decode cX1_reach 34 = .ok (.aload_n 0, 1) := by decide +kernel
theorem dX1_reach_35 : decode cX1_reach 35 = .ok (.iload 5, 2) := by decide +kernel
theorem dX1_reach_37 : decode cX1_reach 37 = .ok (.iload_n 1, 1) := by decide +kernel
theorem dX1_reach_38 : decode cX1_reach 38 = .ok (.invokevirtual 107, 3) := by decide +kernel
theorem dX1_reach_41 : decode cX1_reach 41 = .ok (.lload 6, 2) := by decide +kernel
theorem dX1_reach_43 : decode cX1_reach 43 = .ok (.ldiv, 1) := by decide +kernel
theorem dX1_reach_44 : decode cX1_reach 44 = .ok (.invokestatic 116, 3) := by decide +kernel
theorem dX1_reach_47 : decode cX1_reach 47 = .ok (.lstore_n 3, 1) := by decide +kernel
theorem dX1_reach_48 : decode cX1_reach 48 = .ok (.iinc 5 1, 3) := by decide +kernel
theorem dX1_reach_51 : decode cX1_reach 51 = .ok (.goto (-44), 3) := by decide +kernel
theorem dX1_reach_54 : decode cX1_reach 54 = .ok (.lload_n 3, 1) := by decide +kernel
theorem dX1_reach_55 : decode cX1_reach 55 = .ok (.l2i, 1) := by decide +kernel
theorem dX1_reach_56 : decode cX1_reach 56 = .ok (.ireturn, 1) := by decide +kernel
theorem dX1_boundAbove_0 : decode cX1_boundAbove 0 = .ok (.aload_n 0, 1) := by decide +kernel
theorem dX1_boundAbove_1 : decode cX1_boundAbove 1 = .ok (.getfield 11, 3) := by decide +kernel
theorem dX1_boundAbove_4 : decode cX1_boundAbove 4 = .ok (.iload_n 1, 1) := by decide +kernel
theorem dX1_boundAbove_5 : decode cX1_boundAbove 5 = .ok (.laload, 1) := by decide +kernel
theorem dX1_boundAbove_6 : decode cX1_boundAbove 6 = .ok (.aload_n 0, 1) := by decide +kernel
theorem dX1_boundAbove_7 : decode cX1_boundAbove 7 = .ok (.getfield 15, 3) := by decide +kernel
theorem dX1_boundAbove_10 : decode cX1_boundAbove 10 = .ok (.iload_n 2, 1) := by decide +kernel
theorem dX1_boundAbove_11 : decode cX1_boundAbove 11 = .ok (.laload, 1) := by decide +kernel
theorem dX1_boundAbove_12 : decode cX1_boundAbove 12 = .ok (.lmul, 1) := by decide +kernel
theorem dX1_boundAbove_13 : decode cX1_boundAbove 13 = .ok (.aload_n 0, 1) := by decide +kernel
theorem dX1_boundAbove_14 : decode cX1_boundAbove 14 = .ok (.getfield 11, 3) := by decide +kernel
theorem dX1_boundAbove_17 : decode cX1_boundAbove 17 = .ok (.iload_n 2, 1) := by decide +kernel
theorem dX1_boundAbove_18 : decode cX1_boundAbove 18 = .ok (.laload, 1) := by decide +kernel
theorem dX1_boundAbove_19 : decode cX1_boundAbove 19 = .ok (.aload_n 0, 1) := by decide +kernel
theorem dX1_boundAbove_20 : decode cX1_boundAbove 20 = .ok (.getfield 15, 3) := by decide +kernel
theorem dX1_boundAbove_23 : decode cX1_boundAbove 23 = .ok (.iload_n 1, 1) := by decide +kernel
theorem dX1_boundAbove_24 : decode cX1_boundAbove 24 = .ok (.laload, 1) := by decide +kernel
theorem dX1_boundAbove_25 : decode cX1_boundAbove 25 = .ok (.lmul, 1) := by decide +kernel
