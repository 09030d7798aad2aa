theorem dX1_boundAbove_26 : decode cX1_boundAbove 26 = .ok (.lsub, 1) := by decide +kernel
theorem dX1_boundAbove_27 : decode cX1_boundAbove 27 = .ok (.lreturn, 1) := by decide +kernel
theorem dX1_slopeBelow_0 : decode cX1_slopeBelow 0 = .ok (.aload_n 0, 1) := by decide +kernel
theorem dX1_slopeBelow_1 : decode cX1_slopeBelow 1 = .ok (.iload_n 2, 1) := by decide +kernel
theorem dX1_slopeBelow_2 : decode cX1_slopeBelow 2 = .ok (.iload_n 3, 1) := by decide +kernel
theorem dX1_slopeBelow_3 : decode cX1_slopeBelow 3 = .ok (.invokevirtual 96, 3) := by decide +kernel
theorem dX1_slopeBelow_6 : decode cX1_slopeBelow 6 = .ok (.aload_n 0, 1) := by decide +kernel
theorem dX1_slopeBelow_7 : decode cX1_slopeBelow 7 = .ok (.getfield 15, 3) := by decide +kernel
theorem dX1_slopeBelow_10 : decode cX1_slopeBelow 10 = .ok (.iload_n 1, 1) := by decide +kernel
theorem dX1_slopeBelow_11 : decode cX1_slopeBelow 11 = .ok (.laload, 1) := by decide +kernel
theorem dX1_slopeBelow_12 : decode cX1_slopeBelow 12 = .ok (.lmul, 1) := by decide +kernel
theorem dX1_slopeBelow_13 : decode cX1_slopeBelow 13 = .ok (.aload_n 0, 1) := by decide +kernel
theorem dX1_slopeBelow_14 : decode cX1_slopeBelow 14 = .ok (.iload_n 1, 1) := by decide +kernel
theorem dX1_slopeBelow_15 : decode cX1_slopeBelow 15 = .ok (.iload_n 3, 1) := by decide +kernel
theorem dX1_slopeBelow_16 : decode cX1_slopeBelow 16 = .ok (.invokevirtual 96, 3) := by decide +kernel
theorem dX1_slopeBelow_19 : decode cX1_slopeBelow 19 = .ok (.aload_n 0, 1) := by decide +kernel
theorem dX1_slopeBelow_20 : decode cX1_slopeBelow 20 = .ok (.getfield 15, 3) := by decide +kernel
theorem dX1_slopeBelow_23 : decode cX1_slopeBelow 23 = .ok (.iload_n 2, 1) := by decide +kernel
theorem dX1_slopeBelow_24 : decode cX1_slopeBelow 24 = .ok (.laload, 1) := by decide +kernel
theorem dX1_slopeBelow_25 : decode cX1_slopeBelow 25 = .ok (.lmul, 1) := by decide +kernel
theorem dX1_slopeBelow_26 : decode cX1_slopeBelow 26 = .ok (.lsub, 1) := by decide +kernel
theorem dX1_slopeBelow_27 : decode cX1_slopeBelow 27 = .ok (.lreturn, 1) := by decide +kernel
theorem dX2_init_0 : decode cX2_init 0 = .ok (.aload_n 0, 1) := by decide +kernel
theorem dX2_init_1 : decode cX2_init 1 = .ok (.invokespecial 3, 3) := by decide +kernel
theorem dX2_init_4 : decode cX2_init 4 = .ok (.aload_n 0, 1) := by decide +kernel
theorem dX2_init_5 : decode cX2_init 5 = .ok (.iconst 4, 1) := by decide +kernel
theorem dX2_init_6 : decode cX2_init 6 = .ok (.newarray .int, 2) := by decide +kernel
theorem dX2_init_8 : decode cX2_init 8 = .ok (.putfield 9, 3) := by decide +kernel
theorem dX2_init_11 : decode cX2_init 11 = .ok (.aload_n 0, 1) := by decide +kernel
theorem dX2_init_12 : decode cX2_init 12 = .ok (.iconst 4, 1) := by decide +kernel
theorem dX2_init_13 : decode cX2_init 13 = .ok (.newarray .boolean, 2) := by decide +kernel
theorem dX2_init_15 : decode cX2_init 15 = .ok (.putfield 15, 3) := by decide +kernel
theorem dX2_init_18 : decode cX2_init 18 = .ok (.aload_n 0, 1) := by decide +kernel
theorem dX2_init_19 : decode cX2_init 19 = .ok (.bipush 40, 2) := by decide +kernel
theorem dX2_init_21 : decode cX2_init 21 = .ok (.newarray .int, 2) := by decide +kernel
theorem dX2_init_23 : decode cX2_init 23 = .ok (.putfield 19, 3) := by decide +kernel
theorem dX2_init_26 : decode cX2_init 26 = .ok (.aload_n 0, 1) := by decide +kernel
theorem dX2_init_27 : decode cX2_init 27 = .ok (.bipush 6, 2) := by decide +kernel
theorem dX2_init_29 : decode cX2_init 29 = .ok (.newarray .int, 2) := by decide +kernel
theorem dX2_init_31 : decode cX2_init 31 = .ok (.putfield 22, 3) := by decide +kernel
theorem dX2_init_34 : decode cX2_init 34 = .ok (.return_, 1) := by decide +kernel
theorem dX2_lookAtAll_0 : decode cX2_lookAtAll 0 = .ok (.aload_n 0, 1) := by decide +kernel
theorem dX2_lookAtAll_1 : decode cX2_lookAtAll 1 = .ok (.iload_n 2, 1) := by decide +kernel
theorem dX2_lookAtAll_2 : decode cX2_lookAtAll 2 = .ok (.putfield 25, 3) := by decide +kernel
theorem dX2_lookAtAll_5 : decode cX2_lookAtAll 5 = .ok (.aload_n 0, 1) := by decide +kernel
theorem dX2_lookAtAll_6 : decode cX2_lookAtAll 6 = .ok (.iconst 0, 1) := by decide +kernel
theorem dX2_lookAtAll_7 : decode cX2_lookAtAll 7 = .ok (.putfield 29, 3) := by decide +kernel
theorem dX2_lookAtAll_10 : decode cX2_lookAtAll 10 = .ok (.aload_n 0, 1) := by decide +kernel
theorem dX2_lookAtAll_11 : decode cX2_lookAtAll 11 = .ok (.iconst 0, 1) := by decide +kernel
theorem dX2_lookAtAll_12 : decode cX2_lookAtAll 12 = .ok (.putfield 32, 3) := by decide +kernel
theorem dX2_lookAtAll_15 : decode cX2_lookAtAll 15 = .ok (.aload_n 0, 1) := by decide +kernel
theorem dX2_lookAtAll_16 : decode cX2_lookAtAll 16 = .ok (.ldc 35, 2) := by decide +kernel
theorem dX2_lookAtAll_18 : decode cX2_lookAtAll 18 = .ok (.putfield 36, 3) := by decide +kernel
theorem dX2_lookAtAll_21 : decode cX2_lookAtAll 21 = .ok (.aload_n 0, 1) := by decide +kernel
theorem dX2_lookAtAll_22 : decode cX2_lookAtAll 22 = .ok (.getfield 19, 3) := by decide +kernel
theorem dX2_lookAtAll_25 : decode cX2_lookAtAll 25 = .ok (.ldc 35, 2) := by decide +kernel
theorem dX2_lookAtAll_27 : decode cX2_lookAtAll 27 = .ok (.invokestatic 39, 3) := by decide +kernel
theorem dX2_lookAtAll_30 : decode cX2_lookAtAll 30 = .ok (.aload_n 0, 1) := by decide +kernel
theorem dX2_lookAtAll_31 : decode cX2_lookAtAll 31 = .ok (.getfield 22, 3) := by decide +kernel
theorem dX2_lookAtAll_34 : decode cX2_lookAtAll 34 = .ok (.ldc 35, 2) := by decide +kernel
theorem dX2_lookAtAll_36 : decode cX2_lookAtAll 36 = .ok (.invokestatic 39, 3) := by decide +kernel
theorem dX2_lookAtAll_39 : decode cX2_lookAtAll 39 = .ok (.aload_n 1, 1) := by decide +kernel
theorem dX2_lookAtAll_40 : decode cX2_lookAtAll 40 = .ok (.invokevirtual 45, 3) := by decide +kernel
theorem dX2_lookAtAll_43 : decode cX2_lookAtAll 43 = .ok (.aload_n 0, 1) := by decide +kernel
theorem dX2_lookAtAll_44 : decode cX2_lookAtAll 44 = .ok (.aload_n 1, 1) := by decide +kernel
theorem dX2_lookAtAll_45 : decode cX2_lookAtAll 45 = .ok (.invokevirtual 50, 3) := by decide +kernel
theorem dX2_lookAtAll_48 : decode cX2_lookAtAll 48 = .ok (.putfield 54, 3) := by decide +kernel
theorem dX2_lookAtAll_51 : decode cX2_lookAtAll 51 = .ok (.iconst 0, 1) := by decide +kernel
theorem dX2_lookAtAll_52 : decode cX2_lookAtAll 52 = .ok (.istore_n 3, 1) := by decide +kernel
theorem dX2_lookAtAll_53 : decode cX2_lookAtAll 53 = .ok (.iload_n 3, 1) := by decide +kernel
theorem dX2_lookAtAll_54 : decode cX2_lookAtAll 54 = .ok (.aload_n 0, 1) := by decide +kernel
theorem dX2_lookAtAll_55 : decode cX2_lookAtAll 55 = .ok (.getfield 54, 3) := by decide +kernel
theorem dX2_lookAtAll_58 : decode cX2_lookAtAll 58 = .ok (.if_icmp .ge 18, 3) := by decide +kernel
theorem dX2_lookAtAll_61 : decode cX2_lookAtAll 61 = .ok (.aload_n 0, 1) := by decide +kernel
theorem dX2_lookAtAll_62 : decode cX2_lookAtAll 62 = .ok (.aload_n 1, 1) := by decide +kernel
theorem dX2_lookAtAll_63 : decode cX2_lookAtAll 63 = .ok (.invokevirtual 57, 3) := by decide +kernel
theorem dX2_lookAtAll_66 : decode cX2_lookAtAll 66 = .ok (.aload_n 1, 1) := by decide +kernel
theorem dX2_lookAtAll_67 : decode cX2_lookAtAll 67 = .ok (.invokevirtual 61, 3) := by decide +kernel
theorem dX2_lookAtAll_70 : decode cX2_lookAtAll 70 = .ok (.iinc 3 1, 3) := by decide +kernel
theorem dX2_lookAtAll_73 : decode cX2_lookAtAll 73 = .ok (.goto (-20), 3) := by decide +kernel
theorem dX2_lookAtAll_76 : decode cX2_lookAtAll 76 = .ok (.return_, 1) := by decide +kernel
theorem dX2_lookAt_0 : decode cX2_lookAt 0 = .ok (.aload_n 1, 1) := by decide +kernel
theorem dX2_lookAt_1 : decode cX2_lookAt 1 = .ok (.iconst 0, 1) := by decide +kernel
theorem dX2_lookAt_2 : decode cX2_lookAt 2 = .ok (.invokevirtual 64, 3) := by decide +kernel
theorem dX2_lookAt_5 : decode cX2_lookAt 5 = .ok (.istore_n 2, 1) := by decide +kernel
theorem dX2_lookAt_6 : decode cX2_lookAt 6 = .ok (.iload_n 2, 1) := by decide +kernel
theorem dX2_lookAt_7 : decode cX2_lookAt 7 = .ok (.ldc 35, 2) := by decide +kernel
theorem dX2_lookAt_9 : decode cX2_lookAt 9 = .ok (.if_icmp .ne 18, 3) := by decide +kernel
theorem dX2_lookAt_12 : decode cX2_lookAt 12 = .ok (.aload_n 0, 1) := by decide +kernel
theorem dX2_lookAt_13 : decode cX2_lookAt 13 = .ok (.aload_n 1, 1) := by decide +kernel
theorem dX2_lookAt_14 : decode cX2_lookAt 14 = .ok (.getfield 68, 3) := by decide +kernel
theorem dX2_lookAt_17 : decode cX2_lookAt 17 = .ok (.aload_n 1, 1) := by decide +kernel
theorem dX2_lookAt_18 : decode cX2_lookAt 18 = .ok (.getfield 71, 3) := by decide +kernel
theorem dX2_lookAt_21 : decode cX2_lookAt 21 = .ok (.invokevirtual 74, 3) := by decide +kernel
theorem dX2_lookAt_24 : decode cX2_lookAt 24 = .ok (.goto 34, 3) := by decide +kernel
theorem dX2_lookAt_27 : decode cX2_lookAt 27 = .ok (.aload_n 1, 1) := by decide +kernel
theorem dX2_lookAt_28 : decode cX2_lookAt 28 = .ok (.iload_n 2, 1) := by decide +kernel
theorem dX2_lookAt_29 : decode cX2_lookAt 29 = .ok (.iconst 1, 1) := by decide +kernel
theorem dX2_lookAt_30 : decode cX2_lookAt 30 = .ok (.iadd, 1) := by decide +kernel
theorem dX2_lookAt_31 : decode cX2_lookAt 31 = .ok (.invokevirtual 64, 3) := by decide +kernel
theorem dX2_lookAt_34 : decode cX2_lookAt 34 = .ok (.ldc 35, 2) := by decide +kernel
theorem dX2_lookAt_36 : decode cX2_lookAt 36 = .ok (.if_icmp .ne 22, 3) := by decide +kernel
theorem dX2_lookAt_39 : decode cX2_lookAt 39 = .ok (.aload_n 0, 1) := by decide +kernel
theorem dX2_lookAt_40 : decode cX2_lookAt 40 = .ok (.getfield 22, 3) := by decide +kernel
theorem dX2_lookAt_43 : decode cX2_lookAt 43 = .ok (.iload_n 2, 1) := by decide +kernel
theorem dX2_lookAt_44 : decode cX2_lookAt 44 = .ok (.aload_n 0, 1) := by decide +kernel
theorem dX2_lookAt_45 : decode cX2_lookAt 45 = .ok (.getfield 22, 3) := by decide +kernel
theorem dX2_lookAt_48 : decode cX2_lookAt 48 = .ok (.iload_n 2, 1) := by decide +kernel
theorem dX2_lookAt_49 : decode cX2_lookAt 49 = .ok (.iaload, 1) := by decide +kernel
theorem dX2_lookAt_50 : decode cX2_lookAt 50 = .ok (.aload_n 1, 1) := by decide +kernel
theorem dX2_lookAt_51 : decode cX2_lookAt 51 = .ok (.getfield 71, 3) := by decide +kernel
theorem dX2_lookAt_54 : decode cX2_lookAt 54 = .ok (.invokestatic 77, 3) := by decide +kernel
theorem dX2_lookAt_57 : decode cX2_lookAt 57 = .ok (.iastore, 1) := by decide +kernel
theorem dX2_lookAt_58 : decode cX2_lookAt 58 = .ok (.return_, 1) := by decide +kernel
theorem dX2_noteFitting_0 : decode cX2_noteFitting 0 = .ok (.aload_n 0, 1) := by decide +kernel
theorem dX2_noteFitting_1 : decode cX2_noteFitting 1 = .ok (.dup, 1) := by decide +kernel
theorem dX2_noteFitting_2 : decode cX2_noteFitting 2 = .ok (.getfield 29, 3) := by decide +kernel
theorem dX2_noteFitting_5 : decode cX2_noteFitting 5 = .ok (.iconst 1, 1) := by decide +kernel
theorem dX2_noteFitting_6 : decode cX2_noteFitting 6 = .ok (.iadd, 1) := by decide +kernel
theorem dX2_noteFitting_7 : decode cX2_noteFitting 7 = .ok (.putfield 29, 3) := by decide +kernel
theorem dX2_noteFitting_10 : decode cX2_noteFitting 10 = .ok (.iconst 0, 1) := by decide +kernel
theorem dX2_noteFitting_11 : decode cX2_noteFitting 11 = .ok (.istore_n 3, 1) := by decide +kernel
theorem dX2_noteFitting_12 : decode cX2_noteFitting 12 = .ok (.iload_n 3, 1) := by decide +kernel
theorem dX2_noteFitting_13 : decode cX2_noteFitting 13 = .ok (.aload_n 0, 1) := by decide +kernel
theorem dX2_noteFitting_14 : decode cX2_noteFitting 14 = .ok (.getfield 25, 3) := by decide +kernel
theorem dX2_noteFitting_17 : decode cX2_noteFitting 17 = .ok (.if_icmp .ge 37, 3) := by decide +kernel
theorem dX2_noteFitting_20 : decode cX2_noteFitting 20 = .ok (.iload_n 3, 1) := by decide +kernel
theorem dX2_noteFitting_21 : decode cX2_noteFitting 21 = .ok (.bipush 10, 2) := by decide +kernel
theorem dX2_noteFitting_23 : decode cX2_noteFitting 23 = .ok (.imul, 1) := by decide +kernel
theorem dX2_noteFitting_24 : decode cX2_noteFitting 24 = .ok (.aload_n 1, 1) := by decide +kernel
theorem dX2_noteFitting_25 : decode cX2_noteFitting 25 = .ok (.iload_n 3, 1) := by decide +kernel
theorem dX2_noteFitting_26 : decode cX2_noteFitting 26 = .ok (.iaload, 1) := by decide +kernel
theorem dX2_noteFitting_27 : decode cX2_noteFitting 27 = .ok (.iadd, 1) := by decide +kernel
theorem dX2_noteFitting_28 : decode cX2_noteFitting 28 = .ok (.istore 4, 2) := by decide +kernel
theorem dX2_noteFitting_30 : decode cX2_noteFitting 30 = .ok (.aload_n 0, 1) := by decide +kernel
theorem dX2_noteFitting_31 : decode cX2_noteFitting 31 = .ok (.getfield 19, 3) := by decide +kernel
theorem dX2_noteFitting_34 : decode cX2_noteFitting 34 = .ok (.iload 4, 2) := by decide +kernel
theorem dX2_noteFitting_36 : decode cX2_noteFitting 36 = .ok (.aload_n 0, 1) := by decide +kernel
theorem dX2_noteFitting_37 : decode cX2_noteFitting 37 = .ok (.getfield 19, 3) := by decide +kernel
theorem dX2_noteFitting_40 : decode cX2_noteFitting 40 = .ok (.iload 4, 2) := by decide +kernel
theorem dX2_noteFitting_42 : decode cX2_noteFitting 42 = .ok (.iaload, 1) := by decide +kernel
theorem dX2_noteFitting_43 : decode cX2_noteFitting 43 = .ok (.iload_n 2, 1) := by decide +kernel
theorem dX2_noteFitting_44 : decode cX2_noteFitting 44 = .ok (.invokestatic 77, 3) := by decide +kernel
theorem dX2_noteFitting_47 : decode cX2_noteFitting 47 = .ok (.iastore, 1) := by decide +kernel
theorem dX2_noteFitting_48 : decode cX2_noteFitting 48 = .ok (.iinc 3 1, 3) := by decide +kernel
theorem dX2_noteFitting_51 : decode cX2_noteFitting 51 = .ok (.goto (-39), 3) := by decide +kernel
theorem dX2_noteFitting_54 : decode cX2_noteFitting 54 = .ok (.iload_n 2, 1) := by decide +kernel
theorem dX2_noteFitting_55 : decode cX2_noteFitting 55 = .ok (.aload_n 0, 1) := by decide +kernel
theorem dX2_noteFitting_56 : decode cX2_noteFitting 56 = .ok (.getfield 36, 3) := by decide +kernel
theorem dX2_noteFitting_59 : decode cX2_noteFitting 59 = .ok (.if_icmp .le 12, 3) := by decide +kernel
theorem dX2_noteFitting_62 : decode cX2_noteFitting 62 = .ok (.aload_n 0, 1) := by decide +kernel
theorem dX2_noteFitting_63 : decode cX2_noteFitting 63 = .ok (.aload_n 1, 1) := by decide +kernel
theorem dX2_noteFitting_64 : decode cX2_noteFitting 64 = .ok (.iload_n 2, 1) := by decide +kernel
theorem dX2_noteFitting_65 : decode cX2_noteFitting 65 = .ok (.invokevirtual 83, 3) := by decide +kernel
theorem dX2_noteFitting_68 : decode cX2_noteFitting 68 = .ok (.goto 16, 3) := by decide +kernel
theorem dX2_noteFitting_71 : decode cX2_noteFitting 71 = .ok (.iload_n 2, 1) := by decide +kernel
theorem dX2_noteFitting_72 : decode cX2_noteFitting 72 = .ok (.aload_n 0, 1) := by decide +kernel
theorem dX2_noteFitting_73 : decode cX2_noteFitting 73 = .ok (.getfield 36, 3) := by decide +kernel
theorem dX2_noteFitting_76 : decode cX2_noteFitting 76 = .ok (.if_icmp .ne 8, 3) := by decide +kernel
theorem dX2_noteFitting_79 : decode cX2_noteFitting 79 = .ok (.aload_n 0, 1) := by decide +kernel
theorem dX2_noteFitting_80 : decode cX2_noteFitting 80 = .ok (.aload_n 1, 1) := by decide +kernel
theorem dX2_noteFitting_81 : decode cX2_noteFitting 81 = .ok (.invokevirtual 86, 3) := by decide +kernel
theorem dX2_noteFitting_84 : decode cX2_noteFitting 84 = .ok (.return_, 1) := by decide +kernel
theorem dX2_noteBetter_0 : decode cX2_noteBetter 0 = .ok (.aload_n 0, 1) := by decide +kernel
theorem dX2_noteBetter_1 : decode cX2_noteBetter 1 = .ok (.iload_n 2, 1) := by decide +kernel
theorem dX2_noteBetter_2 : decode cX2_noteBetter 2 = .ok (.putfield 36, 3) := by decide +kernel
theorem dX2_noteBetter_5 : decode cX2_noteBetter 5 = .ok (.aload_n 0, 1) := by decide +kernel
theorem dX2_noteBetter_6 : decode cX2_noteBetter 6 = .ok (.iconst 1, 1) := by decide +kernel
theorem dX2_noteBetter_7 : decode cX2_noteBetter 7 = .ok (.putfield 32, 3) := by decide +kernel
theorem dX2_noteBetter_10 : decode cX2_noteBetter 10 = .ok (.iconst 0, 1) := by decide +kernel
theorem dX2_noteBetter_11 : decode cX2_noteBetter 11 = .ok (.istore_n 3, 1) := by decide +kernel
theorem dX2_noteBetter_12 : decode cX2_noteBetter 12 = .ok (.iload_n 3, 1) := by decide +kernel
theorem dX2_noteBetter_13 : decode cX2_noteBetter 13 = .ok (.aload_n 0, 1) := by decide +kernel
theorem dX2_noteBetter_14 : decode cX2_noteBetter 14 = .ok (.getfield 25, 3) := by decide +kernel
theorem dX2_noteBetter_17 : decode cX2_noteBetter 17 = .ok (.if_icmp .ge 25, 3) := by decide +kernel
theorem dX2_noteBetter_20 : decode cX2_noteBetter 20 = .ok (.aload_n 0, 1) := by decide +kernel
theorem dX2_noteBetter_21 : decode cX2_noteBetter 21 = .ok (.getfield 9, 3) := by decide +kernel
theorem dX2_noteBetter_24 : decode cX2_noteBetter 24 = .ok (.iload_n 3, 1) := by decide +kernel
theorem dX2_noteBetter_25 : decode cX2_noteBetter 25 = .ok (.aload_n 1, 1) := by decide +kernel
theorem dX2_noteBetter_26 : decode cX2_noteBetter 26 = .ok (.iload_n 3, 1) := by decide +kernel
theorem dX2_noteBetter_27 : decode cX2_noteBetter 27 = .ok (.iaload, 1) := by decide +kernel
theorem dX2_noteBetter_28 : decode cX2_noteBetter 28 = .ok (.iastore, 1) := by decide +kernel
theorem dX2_noteBetter_29 : decode cX2_noteBetter 29 = .ok (.aload_n 0, 1) := by decide +kernel
theorem dX2_noteBetter_30 : decode cX2_noteBetter 30 = .ok (.getfield 15, 3) := by decide +kernel
theorem dX2_noteBetter_33 : decode cX2_noteBetter 33 = .ok (.iload_n 3, 1) := by decide +kernel
theorem dX2_noteBetter_34 : decode cX2_noteBetter 34 = .ok (.iconst 1, 1) := by decide +kernel
theorem dX2_noteBetter_35 : decode cX2_noteBetter 35 = .ok (.bastore, 1) := by decide +kernel
theorem dX2_noteBetter_36 : decode cX2_noteBetter 36 = .ok (.iinc 3 1, 3) := by decide +kernel
theorem dX2_noteBetter_39 : decode cX2_noteBetter 39 = .ok (.goto (-27), 3) := by decide +kernel
theorem dX2_noteBetter_42 : decode cX2_noteBetter 42 = .ok (.return_, 1) := by decide +kernel
theorem dX2_noteEqual_0 : decode cX2_noteEqual 0 = .ok (.aload_n 0, 1) := by decide +kernel
theorem dX2_noteEqual_1 : decode cX2_noteEqual 1 = .ok (.dup, 1) := by decide +kernel
theorem dX2_noteEqual_2 : decode cX2_noteEqual 2 = .ok (.getfield 32, 3) := by decide +kernel
theorem dX2_noteEqual_5 : decode cX2_noteEqual 5 = .ok (.iconst 1, 1) := by decide +kernel
theorem dX2_noteEqual_6 : decode cX2_noteEqual 6 = .ok (.iadd, 1) := by decide +kernel
theorem dX2_noteEqual_7 : decode cX2_noteEqual 7 = .ok (.putfield 32, 3) := by decide +kernel
theorem dX2_noteEqual_10 : decode cX2_noteEqual 10 = .ok (.iconst 0, 1) := by decide +kernel
theorem dX2_noteEqual_11 : decode cX2_noteEqual 11 = .ok (.istore_n 2, 1) := by decide +kernel
theorem dX2_noteEqual_12 : decode cX2_noteEqual 12 = .ok (.iload_n 2, 1) := by decide +kernel
theorem dX2_noteEqual_13 : decode cX2_noteEqual 13 = .ok (.aload_n 0, 1) := by decide +kernel
theorem dX2_noteEqual_14 : decode cX2_noteEqual 14 = .ok (.getfield 25, 3) := by decide +kernel
theorem dX2_noteEqual_17 : decode cX2_noteEqual 17 = .ok (.if_icmp .ge 28, 3) := by decide +kernel
theorem dX2_noteEqual_20 : decode cX2_noteEqual 20 = .ok (.aload_n 1, 1) := by decide +kernel
theorem dX2_noteEqual_21 : decode cX2_noteEqual 21 = .ok (.iload_n 2, 1) := by decide +kernel
theorem dX2_noteEqual_22 : decode cX2_noteEqual 22 = .ok (.iaload, 1) := by decide +kernel
theorem dX2_noteEqual_23 : decode cX2_noteEqual 23 = .ok (.aload_n 0, 1) := by decide +kernel
theorem dX2_noteEqual_24 : decode cX2_noteEqual 24 = .ok (.getfield 9, 3) := by decide +kernel
theorem dX2_noteEqual_27 : decode cX2_noteEqual 27 = .ok (.iload_n 2, 1) := by decide +kernel
theorem dX2_noteEqual_28 : decode cX2_noteEqual 28 = .ok (.iaload, 1) := by decide +kernel
theorem dX2_noteEqual_29 : decode cX2_noteEqual 29 = .ok (.if_icmp .eq 10, 3) := by decide +kernel
theorem dX2_noteEqual_32 : decode cX2_noteEqual 32 = .ok (.aload_n 0, 1) := by decide +kernel
theorem dX2_noteEqual_33 : decode cX2_noteEqual 33 = .ok (.getfield 15, 3) := by decide +kernel
theorem dX2_noteEqual_36 : decode cX2_noteEqual 36 = .ok (.iload_n 2, 1) := by decide +kernel
theorem dX2_noteEqual_37 : decode cX2_noteEqual 37 = .ok (.iconst 0, 1) := by decide +kernel
theorem dX2_noteEqual_38 : decode cX2_noteEqual 38 = .ok (.bastore, 1) := by decide +kernel
theorem dX2_noteEqual_39 : decode cX2_noteEqual 39 = .ok (.iinc 2 1, 3) := by decide +kernel
theorem dX2_noteEqual_42 : decode cX2_noteEqual 42 = .ok (.goto (-30), 3) := by decide +kernel
theorem dX2_noteEqual_45 : decode cX2_noteEqual 45 = .ok (.return_, 1) := by decide +kernel
theorem dX2_greatestWith_0 : decode cX2_greatestWith 0 = .ok (.aload_n 0, 1) := by decide +kernel
theorem dX2_greatestWith_1 : decode cX2_greatestWith 1 = .ok (.getfield 19, 3) := by decide +kernel
theorem dX2_greatestWith_4 : decode cX2_greatestWith 4 = .ok (.iload_n 1, 1) := by decide +kernel
theorem dX2_greatestWith_5 : decode cX2_greatestWith 5 = .ok (.bipush 10, 2) := by decide +kernel
theorem dX2_greatestWith_7 : decode cX2_greatestWith 7 = .ok (.imul, 1) := by decide +kernel
theorem dX2_greatestWith_8 : decode cX2_greatestWith 8 = .ok (.iload_n 2, 1) := by decide +kernel
theorem dX2_greatestWith_9 : decode cX2_greatestWith 9 = .ok (.iadd, 1) := by decide +kernel
theorem dX2_greatestWith_10 : decode cX2_greatestWith 10 = .ok (.iaload, 1) := by decide +kernel
theorem dX2_greatestWith_11 : decode cX2_greatestWith 11 = .ok (.ireturn, 1) := by decide +kernel
theorem dX2_gainWithout_0 : decode cX2_gainWithout 0 = .ok (.iconst 0, 1) := by decide +kernel
theorem dX2_gainWithout_1 : decode cX2_gainWithout 1 = .ok (.aload_n 0, 1) := by decide +kernel
theorem dX2_gainWithout_2 : decode cX2_gainWithout 2 = .ok (.getfield 22, 3) := by decide +kernel
theorem dX2_gainWithout_5 : decode cX2_gainWithout 5 = .ok (.iload_n 1, 1) := by decide +kernel
theorem dX2_gainWithout_6 : decode cX2_gainWithout 6 = .ok (.iaload, 1) := by decide +kernel
theorem dX2_gainWithout_7 : decode cX2_gainWithout 7 = .ok (.aload_n 0, 1) := by decide +kernel
theorem dX2_gainWithout_8 : decode cX2_gainWithout 8 = .ok (.getfield 36, 3) := by decide +kernel
theorem dX2_gainWithout_11 : decode cX2_gainWithout 11 = .ok (.isub, 1) := by decide +kernel
theorem dX2_gainWithout_12 : decode cX2_gainWithout 12 = .ok (.invokestatic 77, 3) := by decide +kernel
theorem dX2_gainWithout_15 : decode cX2_gainWithout 15 = .ok (.ireturn, 1) := by decide +kernel
theorem dX2_rulesAhead_0 : decode cX2_rulesAhead 0 = .ok (.aload_n 0, 1) := by decide +kernel
theorem dX2_rulesAhead_1 : decode cX2_rulesAhead 1 = .ok (.iload_n 1, 1) := by decide +kernel
theorem dX2_rulesAhead_2 : decode cX2_rulesAhead 2 = .ok (.invokevirtual 90, 3) := by decide +kernel
theorem dX2_rulesAhead_5 : decode cX2_rulesAhead 5 = .ok (.istore_n 3, 1) := by decide +kernel
theorem dX2_rulesAhead_6 : decode cX2_rulesAhead 6 = .ok (.iconst 0, 1) := by decide +kernel
theorem dX2_rulesAhead_7 : decode cX2_rulesAhead 7 = .ok (.istore 4, 2) := by decide +kernel
theorem dX2_rulesAhead_9 : decode cX2_rulesAhead 9 = .ok (.iconst 0, 1) := by decide +kernel
theorem dX2_rulesAhead_10 : decode cX2_rulesAhead 10 = .ok (.istore 5, 2) := by decide +kernel
theorem dX2_rulesAhead_12 : decode cX2_rulesAhead 12 = .ok (.iload 5, 2) := by decide +kernel
theorem dX2_rulesAhead_14 : decode cX2_rulesAhead 14 = .ok (.iload_n 2, 1) := by decide +kernel
theorem dX2_rulesAhead_15 : decode cX2_rulesAhead 15 = .ok (.if_icmp .ge 38, 3) := by decide +kernel
theorem dX2_rulesAhead_18 : decode cX2_rulesAhead 18 = .ok (.aload_n 0, 1) := by decide +kernel
theorem dX2_rulesAhead_19 : decode cX2_rulesAhead 19 = .ok (.iload 5, 2) := by decide +kernel
theorem dX2_rulesAhead_21 : decode cX2_rulesAhead 21 = .ok (.invokevirtual 90, 3) := by decide +kernel
theorem dX2_rulesAhead_24 : decode cX2_rulesAhead 24 = .ok (.istore 6, 2) := by decide +kernel
theorem dX2_rulesAhead_26 : decode cX2_rulesAhead 26 = .ok (.iload 6, 2) := by decide +kernel
theorem dX2_rulesAhead_28 : decode cX2_rulesAhead 28 = .ok (.iload_n 3, 1) := by decide +kernel
theorem dX2_rulesAhead_29 : decode cX2_rulesAhead 29 = .ok (.if_icmp .gt 15, 3) := by decide +kernel
theorem dX2_rulesAhead_32 : decode cX2_rulesAhead 32 = .ok (.iload 6, 2) := by decide +kernel
theorem dX2_rulesAhead_34 : decode cX2_rulesAhead 34 = .ok (.iload_n 3, 1) := by decide +kernel
theorem dX2_rulesAhead_35 : decode cX2_rulesAhead 35 = .ok (.if_icmp .ne 12, 3) := by decide +kernel
theorem dX2_rulesAhead_38 : decode cX2_rulesAhead 38 = .ok (.iload 5, 2) := by decide +kernel
theorem dX2_rulesAhead_40 : decode cX2_rulesAhead 40 = .ok (.iload_n 1, 1) := by decide +kernel
theorem dX2_rulesAhead_41 : decode cX2_rulesAhead 41 = .ok (.if_icmp .ge 6, 3) := by decide +kernel
theorem dX2_rulesAhead_44 : decode cX2_rulesAhead 44 = .ok (.iinc 4 1, 3) := by decide +kernel
theorem dX2_rulesAhead_47 : decode cX2_rulesAhead 47 = .ok (.iinc 5 1, 3) := by decide +kernel
theorem dX2_rulesAhead_50 : decode cX2_rulesAhead 50 = .ok (.goto (-38), 3) := by decide +kernel
theorem dX2_rulesAhead_53 : decode cX2_rulesAhead 53 = .ok (.iload 4, 2) := by decide +kernel
theorem dX2_rulesAhead_55 : decode cX2_rulesAhead 55 = .ok (.ireturn, 1) := by decide +kernel
theorem dX2_spanBottom_0 : decode cX2_spanBottom 0 = .ok (.aload_n 0, 1) := by decide +kernel
theorem dX2_spanBottom_1 : decode cX2_spanBottom 1 = .ok (.getfield 9, 3) := by decide +kernel
theorem dX2_spanBottom_4 : decode cX2_spanBottom 4 = .ok (.iload_n 1, 1) := by decide +kernel
theorem dX2_spanBottom_5 : decode cX2_spanBottom 5 = .ok (.iaload, 1) := by decide +kernel
theorem dX2_spanBottom_6 : decode cX2_spanBottom 6 = .ok (.istore_n 3, 1) := by decide +kernel
theorem dX2_spanBottom_7 : decode cX2_spanBottom 7 = .ok (.ldc 35, 2) := by decide +kernel
theorem dX2_spanBottom_9 : decode cX2_spanBottom 9 = .ok (.istore 4, 2) := by decide +kernel
theorem dX2_spanBottom_11 : decode cX2_spanBottom 11 = .ok (.iconst 0, 1) := by decide +kernel
theorem dX2_spanBottom_12 : decode cX2_spanBottom 12 = .ok (.istore 5, 2) := by decide +kernel
theorem dX2_spanBottom_14 : decode cX2_spanBottom 14 = .ok (.iload 5, 2) := by decide +kernel
theorem dX2_spanBottom_16 : decode cX2_spanBottom 16 = .ok (.iload_n 3, 1) := by decide +kernel
theorem dX2_spanBottom_17 : decode cX2_spanBottom 17 = .ok (.if_icmp .ge 57, 3) := by decide +kernel
theorem dX2_spanBottom_20 : decode cX2_spanBottom 20 = .ok (.aload_n 0, 1) := by decide +kernel
theorem dX2_spanBottom_21 : decode cX2_spanBottom 21 = .ok (.iload_n 1, 1) := by decide +kernel
theorem dX2_spanBottom_22 : decode cX2_spanBottom 22 = .ok (.iload 5, 2) := by decide +kernel
theorem dX2_spanBottom_24 : decode cX2_spanBottom 24 = .ok (.invokevirtual 93, 3) := by decide +kernel
theorem dX2_spanBottom_27 : decode cX2_spanBottom 27 = .ok (.ldc 35, 2) := by decide +kernel
theorem dX2_spanBottom_29 : decode cX2_spanBottom 29 = .ok (.if_icmp .eq 39, 3) := by decide +kernel
theorem dX2_spanBottom_32 : decode cX2_spanBottom 32 = .ok (.aload_n 0, 1) := by decide +kernel
theorem dX2_spanBottom_33 : decode cX2_spanBottom 33 = .ok (.iload_n 1, 1) := by decide +kernel
theorem dX2_spanBottom_34 : decode cX2_spanBottom 34 = .ok (.iload 5, 2) := by decide +kernel
theorem dX2_spanBottom_36 : decode cX2_spanBottom 36 = .ok (.iload_n 2, 1) := by decide +kernel
theorem dX2_spanBottom_37 : decode cX2_spanBottom 37 = .ok (.invokevirtual 96, 3) := by decide +kernel
theorem dX2_spanBottom_40 : decode cX2_spanBottom 40 = .ok (.aload_n 0, 1) := by decide +kernel
theorem dX2_spanBottom_41 : decode cX2_spanBottom 41 = .ok (.iload_n 1, 1) := by decide +kernel
theorem dX2_spanBottom_42 : decode cX2_spanBottom 42 = .ok (.iload_n 3, 1) := by decide +kernel
theorem dX2_spanBottom_43 : decode cX2_spanBottom 43 = .ok (.iload_n 2, 1) := by decide +kernel
theorem dX2_spanBottom_44 : decode cX2_spanBottom 44 = .ok (.invokevirtual 96, 3) := by decide +kernel
theorem dX2_spanBottom_47 : decode cX2_spanBottom 47 = .ok (.isub, 1) := by decide +kernel
theorem dX2_spanBottom_48 : decode cX2_spanBottom 48 = .ok (.istore 6, 2) := by decide +kernel
theorem dX2_spanBottom_50 : decode cX2_spanBottom 50 = .ok (.iload 4, 2) := by decide +kernel
theorem dX2_spanBottom_52 : decode cX2_spanBottom 52 = .ok (.iload 6, 2) := by decide +kernel
theorem dX2_spanBottom_54 : decode cX2_spanBottom 54 = .ok (.ineg, 1) := by decide +kernel
theorem dX2_spanBottom_55 : decode cX2_spanBottom 55 = .ok (.iload_n 3, 1) := by decide +kernel
theorem dX2_spanBottom_56 : decode cX2_spanBottom 56 = .ok (.iload 5, 2) := by decide +kernel
theorem dX2_spanBottom_58 : decode cX2_spanBottom 58 = .ok (.isub, 1) := by decide +kernel
theorem dX2_spanBottom_59 : decode cX2_spanBottom 59 = .ok (.invokestatic 100, 3) := by decide +kernel
theorem dX2_spanBottom_62 : decode cX2_spanBottom 62 = .ok (.ineg, 1) := by decide +kernel
theorem dX2_spanBottom_63 : decode cX2_spanBottom 63 = .ok (.invokestatic 77, 3) := by decide +kernel
theorem dX2_spanBottom_66 : decode cX2_spanBottom 66 = .ok (.istore 4, 2) := by decide +kernel
theorem dX2_spanBottom_68 : decode cX2_spanBottom 68 = .ok (.iinc 5 1, 3) := by decide +kernel
theorem dX2_spanBottom_71 : decode cX2_spanBottom 71 = .ok (.goto (-57), 3) := by decide +kernel
theorem dX2_spanBottom_74 : decode cX2_spanBottom 74 = .ok (.iload 4, 2) := by decide +kernel
theorem dX2_spanBottom_76 : decode cX2_spanBottom 76 = .ok (.ireturn, 1) := by decide +kernel
theorem dX2_spanTop_0 : decode cX2_spanTop 0 = .ok (.aload_n 0, 1) := by decide +kernel
theorem dX2_spanTop_1 : decode cX2_spanTop 1 = .ok (.getfield 9, 3) := by decide +kernel
theorem dX2_spanTop_4 : decode cX2_spanTop 4 = .ok (.iload_n 1, 1) := by decide +kernel
theorem dX2_spanTop_5 : decode cX2_spanTop 5 = .ok (.iaload, 1) := by decide +kernel
theorem dX2_spanTop_6 : decode cX2_spanTop 6 = .ok (.istore_n 3, 1) := by decide +kernel
theorem dX2_spanTop_7 : decode cX2_spanTop 7 = .ok (.ldc 35, 2) := by decide +kernel
theorem dX2_spanTop_9 : decode cX2_spanTop 9 = .ok (.istore 4, 2) := by decide +kernel
theorem dX2_spanTop_11 : decode cX2_spanTop 11 = .ok (.iload_n 3, 1) := by decide +kernel
theorem dX2_spanTop_12 : decode cX2_spanTop 12 = .ok (.iconst 1, 1) := by decide +kernel
theorem dX2_spanTop_13 : decode cX2_spanTop 13 = .ok (.iadd, 1) := by decide +kernel
theorem dX2_spanTop_14 : decode cX2_spanTop 14 = .ok (.istore 5, 2) := by decide +kernel
theorem dX2_spanTop_16 : decode cX2_spanTop 16 = .ok (.iload 5, 2) := by decide +kernel
theorem dX2_spanTop_18 : decode cX2_spanTop 18 = .ok (.bipush 10, 2) := by decide +kernel
theorem dX2_spanTop_20 : decode cX2_spanTop 20 = .ok (.if_icmp .ge 71, 3) := by decide +kernel
theorem dX2_spanTop_23 : decode cX2_spanTop 23 = .ok (.aload_n 0, 1) := by decide +kernel
theorem dX2_spanTop_24 : decode cX2_spanTop 24 = .ok (.iload_n 1, 1) := by decide +kernel
theorem dX2_spanTop_25 : decode cX2_spanTop 25 = .ok (.iload 5, 2) := by decide +kernel
theorem dX2_spanTop_27 : decode cX2_spanTop 27 = .ok (.invokevirtual 93, 3) := by decide +kernel
theorem dX2_spanTop_30 : decode cX2_spanTop 30 = .ok (.ldc 35, 2) := by decide +kernel
theorem dX2_spanTop_32 : decode cX2_spanTop 32 = .ok (.if_icmp .eq 53, 3) := by decide +kernel
theorem dX2_spanTop_35 : decode cX2_spanTop 35 = .ok (.aload_n 0, 1) := by decide +kernel
theorem dX2_spanTop_36 : decode cX2_spanTop 36 = .ok (.iload_n 1, 1) := by decide +kernel
theorem dX2_spanTop_37 : decode cX2_spanTop 37 = .ok (.iload_n 3, 1) := by decide +kernel
theorem dX2_spanTop_38 : decode cX2_spanTop 38 = .ok (.iload_n 2, 1) := by decide +kernel
theorem dX2_spanTop_39 : decode cX2_spanTop 39 = .ok (.invokevirtual 96, 3) := by decide +kernel
theorem dX2_spanTop_42 : decode cX2_spanTop 42 = .ok (.aload_n 0, 1) := by decide +kernel
theorem dX2_spanTop_43 : decode cX2_spanTop 43 = .ok (.iload_n 1, 1) := by decide +kernel
theorem dX2_spanTop_44 : decode cX2_spanTop 44 = .ok (.iload 5, 2) := by decide +kernel
theorem dX2_spanTop_46 : decode cX2_spanTop 46 = .ok (.iload_n 2, 1) := by decide +kernel
theorem dX2_spanTop_47 : decode cX2_spanTop 47 = .ok (.invokevirtual 96, 3) := by decide +kernel
theorem dX2_spanTop_50 : decode cX2_spanTop 50 = .ok (.isub, 1) := by decide +kernel
theorem dX2_spanTop_51 : decode cX2_spanTop 51 = .ok (.istore 6, 2) := by decide +kernel
theorem dX2_spanTop_53 : decode cX2_spanTop 53 = .ok (.iload 6, 2) := by decide +kernel
theorem dX2_spanTop_55 : decode cX2_spanTop 55 = .ok (.iload 5, 2) := by decide +kernel
theorem dX2_spanTop_57 : decode cX2_spanTop 57 = .ok (.iload_n 3, 1) := by decide +kernel
theorem dX2_spanTop_58 : decode cX2_spanTop 58 = .ok (.isub, 1) := by decide +kernel
theorem dX2_spanTop_59 : decode cX2_spanTop 59 = .ok (.invokestatic 100, 3) := by decide +kernel
theorem dX2_spanTop_62 : decode cX2_spanTop 62 = .ok (.istore 7, 2) := by decide +kernel
theorem dX2_spanTop_64 : decode cX2_spanTop 64 = .ok (.iload 4, 2) := by decide +kernel
theorem dX2_spanTop_66 : decode cX2_spanTop 66 = .ok (.ldc 35, 2) := by decide +kernel
theorem dX2_spanTop_68 : decode cX2_spanTop 68 = .ok (.if_icmp .ne 8, 3) := by decide +kernel
theorem dX2_spanTop_71 : decode cX2_spanTop 71 = .ok (.iload 7, 2) := by decide +kernel
theorem dX2_spanTop_73 : decode cX2_spanTop 73 = .ok (.goto 10, 3) := by decide +kernel
theorem dX2_spanTop_76 : decode cX2_spanTop 76 = .ok (.iload 4, 2) := by decide +kernel
theorem dX2_spanTop_78 : decode cX2_spanTop 78 = .ok (.iload 7, 2) := by decide +kernel
theorem dX2_spanTop_80 : decode cX2_spanTop 80 = .ok (.invokestatic 103, 3) := by decide +kernel
theorem dX2_spanTop_83 : decode cX2_spanTop 83 = .ok (.istore 4, 2) := by decide +kernel
theorem dX2_spanTop_85 : decode cX2_spanTop 85 = .ok (.iinc 5 1, 3) := by decide +kernel
theorem dX2_spanTop_88 : decode cX2_spanTop 88 = .ok (.goto (-72), 3) := by decide +kernel
theorem dX2_spanTop_91 : decode cX2_spanTop 91 = .ok (.iload 4, 2) := by decide +kernel
theorem dX2_spanTop_93 : decode cX2_spanTop 93 = .ok (.ireturn, 1) := by decide +kernel
theorem dX2_restWith_0 : decode cX2_restWith 0 = .ok (.aload_n 0, 1) := by decide +kernel
theorem dX2_restWith_1 : decode cX2_restWith 1 = .ok (.iload_n 1, 1) := by decide +kernel
theorem dX2_restWith_2 : decode cX2_restWith 2 = .ok (.iload_n 2, 1) := by decide +kernel
theorem dX2_restWith_3 : decode cX2_restWith 3 = .ok (.invokevirtual 93, 3) := by decide +kernel
theorem dX2_restWith_6 : decode cX2_restWith 6 = .ok (.iload_n 2, 1) := by decide +kernel
theorem dX2_restWith_7 : decode cX2_restWith 7 = .ok (.iload_n 3, 1) := by decide +kernel
theorem dX2_restWith_8 : decode cX2_restWith 8 = .ok (.imul, 1) := by decide +kernel
theorem dX2_restWith_9 : decode cX2_restWith 9 = .ok (.isub, 1) := by decide +kernel
theorem dX2_restWith_10 : decode cX2_restWith 10 = .ok (.ireturn, 1) := by decide +kernel
theorem dX3_init_0 : decode cX3_init 0 = .ok (.aload_n 0, 1) := by decide +kernel
theorem dX3_init_1 : decode cX3_init 1 = .ok (.invokespecial 3, 3) := by decide +kernel
theorem dX3_init_4 : decode cX3_init 4 = .ok (.aload_n 0, 1) := by decide +kernel
theorem dX3_init_5 : decode cX3_init 5 = .ok (.new 9, 3) := by decide +kernel
theorem dX3_init_8 : decode cX3_init 8 = .ok (.dup, 1) := by decide +kernel
theorem dX3_init_9 : decode cX3_init 9 = .ok (.invokespecial 11, 3) := by decide +kernel
theorem dX3_init_12 : decode cX3_init 12 = .ok (.putfield 12, 3) := by decide +kernel
theorem dX3_init_15 : decode cX3_init 15 = .ok (.aload_n 0, 1) := by decide +kernel
theorem dX3_init_16 : decode cX3_init 16 = .ok (.bipush 6, 2) := by decide +kernel
theorem dX3_init_18 : decode cX3_init 18 = .ok (.newarray .int, 2) := by decide +kernel
theorem dX3_init_20 : decode cX3_init 20 = .ok (.putfield 18, 3) := by decide +kernel
theorem dX3_init_23 : decode cX3_init 23 = .ok (.aload_n 0, 1) := by decide +kernel
theorem dX3_init_24 : decode cX3_init 24 = .ok (.iconst 4, 1) := by decide +kernel
theorem dX3_init_25 : decode cX3_init 25 = .ok (.newarray .int, 2) := by decide +kernel
theorem dX3_init_27 : decode cX3_init 27 = .ok (.putfield 22, 3) := by decide +kernel
theorem dX3_init_30 : decode cX3_init 30 = .ok (.aload_n 0, 1) := by decide +kernel
theorem dX3_init_31 : decode cX3_init 31 = .ok (.bipush 6, 2) := by decide +kernel
theorem dX3_init_33 : decode cX3_init 33 = .ok (.newarray .int, 2) := by decide +kernel
theorem dX3_init_35 : decode cX3_init 35 = .ok (.putfield 25, 3) := by decide +kernel
theorem dX3_init_38 : decode cX3_init 38 = .ok (.aload_n 0, 1) := by decide +kernel
theorem dX3_init_39 : decode cX3_init 39 = .ok (.iconst 4, 1) := by decide +kernel
theorem dX3_init_40 : decode cX3_init 40 = .ok (.newarray .int, 2) := by decide +kernel
theorem dX3_init_42 : decode cX3_init 42 = .ok (.putfield 28, 3) := by decide +kernel
theorem dX3_init_45 : decode cX3_init 45 = .ok (.return_, 1) := by decide +kernel
theorem dX3_begin_0 : decode cX3_begin 0 = .ok (.iconst 0, 1) := by decide +kernel
theorem dX3_begin_1 : decode cX3_begin 1 = .ok (.istore_n 1, 1) := by decide +kernel
theorem dX3_begin_2 : decode cX3_begin 2 = .ok (.iload_n 1, 1) := by decide +kernel
theorem dX3_begin_3 : decode cX3_begin 3 = .ok (.aload_n 0, 1) := by decide +kernel
theorem dX3_begin_4 : decode cX3_begin 4 = .ok (.getfield 12, 3) := by decide +kernel
theorem dX3_begin_7 : decode cX3_begin 7 = .ok (.getfield 31, 3) := by decide +kernel
theorem dX3_begin_10 : decode cX3_begin 10 = .ok (.if_icmp .ge 48, 3) := by decide +kernel
theorem dX3_begin_13 : decode cX3_begin 13 = .ok (.aload_n 0, 1) := by decide +kernel
theorem dX3_begin_14 : decode cX3_begin 14 = .ok (.getfield 18, 3) := by decide +kernel
theorem dX3_begin_17 : decode cX3_begin 17 = .ok (.iload_n 1, 1) := by decide +kernel
theorem dX3_begin_18 : decode cX3_begin 18 = .ok (.aload_n 0, 1) := by decide +kernel
theorem dX3_begin_19 : decode cX3_begin 19 = .ok (.getfield 12, 3) := by decide +kernel
theorem dX3_begin_22 : decode cX3_begin 22 = .ok (.getfield 35, 3) := by decide +kernel
theorem dX3_begin_25 : decode cX3_begin 25 = .ok (.iload_n 1, 1) := by decide +kernel
theorem dX3_begin_26 : decode cX3_begin 26 = .ok (.baload, 1) := by decide +kernel
theorem dX3_begin_27 : decode cX3_begin 27 = .ok (.ifCond .eq 15, 3) := by decide +kernel
theorem dX3_begin_30 : decode cX3_begin 30 = .ok (.aload_n 0, 1) := by decide +kernel
theorem dX3_begin_31 : decode cX3_begin 31 = .ok (.getfield 12, 3) := by decide +kernel
theorem dX3_begin_34 : decode cX3_begin 34 = .ok (.getfield 39, 3) := by decide +kernel
theorem dX3_begin_37 : decode cX3_begin 37 = .ok (.iload_n 1, 1) := by decide +kernel
theorem dX3_begin_38 : decode cX3_begin 38 = .ok (.iaload, 1) := by decide +kernel
theorem dX3_begin_39 : decode cX3_begin 39 = .ok (.goto 5, 3) := by decide +kernel
theorem dX3_begin_42 : decode cX3_begin 42 = .ok (.ldc 40, 2) := by decide +kernel
theorem dX3_begin_44 : decode cX3_begin 44 = .ok (.iastore, 1) := by decide +kernel
theorem dX3_begin_45 : decode cX3_begin 45 = .ok (.aload_n 0, 1) := by decide +kernel
theorem dX3_begin_46 : decode cX3_begin 46 = .ok (.getfield 25, 3) := by decide +kernel
theorem dX3_begin_49 : decode cX3_begin 49 = .ok (.iload_n 1, 1) := by decide +kernel
theorem dX3_begin_50 : decode cX3_begin 50 = .ok (.iconst 0, 1) := by decide +kernel
theorem dX3_begin_51 : decode cX3_begin 51 = .ok (.iastore, 1) := by decide +kernel
theorem dX3_begin_52 : decode cX3_begin 52 = .ok (.iinc 1 1, 3) := by decide +kernel
theorem dX3_begin_55 : decode cX3_begin 55 = .ok (.goto (-53), 3) := by decide +kernel
theorem dX3_begin_58 : decode cX3_begin 58 = .ok (.iconst 0, 1) := by decide +kernel
theorem dX3_begin_59 : decode cX3_begin 59 = .ok (.istore_n 1, 1) := by decide +kernel
theorem dX3_begin_60 : decode cX3_begin 60 = .ok (.iload_n 1, 1) := by decide +kernel
theorem dX3_begin_61 : decode cX3_begin 61 = .ok (.aload_n 0, 1) := by decide +kernel
theorem dX3_begin_62 : decode cX3_begin 62 = .ok (.getfield 12, 3) := by decide +kernel
theorem dX3_begin_65 : decode cX3_begin 65 = .ok (.getfield 41, 3) := by decide +kernel
theorem dX3_begin_68 : decode cX3_begin 68 = .ok (.if_icmp .ge 31, 3) := by decide +kernel
theorem dX3_begin_71 : decode cX3_begin 71 = .ok (.aload_n 0, 1) := by decide +kernel
theorem dX3_begin_72 : decode cX3_begin 72 = .ok (.getfield 22, 3) := by decide +kernel
theorem dX3_begin_75 : decode cX3_begin 75 = .ok (.iload_n 1, 1) := by decide +kernel
theorem dX3_begin_76 : decode cX3_begin 76 = .ok (.aload_n 0, 1) := by decide +kernel
theorem dX3_begin_77 : decode cX3_begin 77 = .ok (.getfield 12, 3) := by decide +kernel
theorem dX3_begin_80 : decode cX3_begin 80 = .ok (.getfield 44, 3) := by decide +kernel
theorem dX3_begin_83 : decode cX3_begin 83 = .ok (.iload_n 1, 1) := by decide +kernel
theorem dX3_begin_84 : decode cX3_begin 84 = .ok (.iaload, 1) := by decide +kernel
theorem dX3_begin_85 : decode cX3_begin 85 = .ok (.iastore, 1) := by decide +kernel
theorem dX3_begin_86 : decode cX3_begin 86 = .ok (.aload_n 0, 1) := by decide +kernel
theorem dX3_begin_87 : decode cX3_begin 87 = .ok (.getfield 28, 3) := by decide +kernel
theorem dX3_begin_90 : decode cX3_begin 90 = .ok (.iload_n 1, 1) := by decide +kernel
theorem dX3_begin_91 : decode cX3_begin 91 = .ok (.iconst 0, 1) := by decide +kernel
theorem dX3_begin_92 : decode cX3_begin 92 = .ok (.iastore, 1) := by decide +kernel
theorem dX3_begin_93 : decode cX3_begin 93 = .ok (.iinc 1 1, 3) := by decide +kernel
theorem dX3_begin_96 : decode cX3_begin 96 = .ok (.goto (-36), 3) := by decide +kernel
theorem dX3_begin_99 : decode cX3_begin 99 = .ok (.aload_n 0, 1) := by decide +kernel
theorem dX3_begin_100 : decode cX3_begin 100 = .ok (.iconst 0, 1) := by decide +kernel
theorem dX3_begin_101 : decode cX3_begin 101 = .ok (.putfield 45, 3) := by decide +kernel
theorem dX3_begin_104 : decode cX3_begin 104 = .ok (.return_, 1) := by decide +kernel
theorem dX3_loosen_0 : decode cX3_loosen 0 = .ok (.aload_n 0, 1) := by decide +kernel
theorem dX3_loosen_1 : decode cX3_loosen 1 = .ok (.getfield 18, 3) := by decide +kernel
theorem dX3_loosen_4 : decode cX3_loosen 4 = .ok (.iload_n 1, 1) := by decide +kernel
theorem dX3_loosen_5 : decode cX3_loosen 5 = .ok (.dup2, 1) := by decide +kernel
theorem dX3_loosen_6 : decode cX3_loosen 6 = .ok (.iaload, 1) := by decide +kernel
theorem dX3_loosen_7 : decode cX3_loosen 7 = .ok (.iload_n 2, 1) := by decide +kernel
theorem dX3_loosen_8 : decode cX3_loosen 8 = .ok (.iadd, 1) := by decide +kernel
theorem dX3_loosen_9 : decode cX3_loosen 9 = .ok (.iastore, 1) := by decide +kernel
theorem dX3_loosen_10 : decode cX3_loosen 10 = .ok (.return_, 1) := by decide +kernel
theorem dX3_allowOneMore_0 : decode cX3_allowOneMore 0 = .ok (.aload_n 0, 1) := by decide +kernel
theorem dX3_allowOneMore_1 : decode cX3_allowOneMore 1 = .ok (.getfield 22, 3) := by decide +kernel
theorem dX3_allowOneMore_4 : decode cX3_allowOneMore 4 = .ok (.iload_n 1, 1) := by decide +kernel
theorem dX3_allowOneMore_5 : decode cX3_allowOneMore 5 = .ok (.dup2, 1) := by decide +kernel
theorem dX3_allowOneMore_6 : decode cX3_allowOneMore 6 = .ok (.iaload, 1) := by decide +kernel
theorem dX3_allowOneMore_7 : decode cX3_allowOneMore 7 = .ok (.iconst 1, 1) := by decide +kernel
theorem dX3_allowOneMore_8 : decode cX3_allowOneMore 8 = .ok (.iadd, 1) := by decide +kernel
theorem dX3_allowOneMore_9 : decode cX3_allowOneMore 9 = .ok (.iastore, 1) := by decide +kernel
theorem dX3_allowOneMore_10 : decode cX3_allowOneMore 10 = .ok (.return_, 1) := by decide +kernel
theorem dX3_goTo_0 : decode cX3_goTo 0 = .ok (.iconst 0, 1) := by decide +kernel
theorem dX3_goTo_1 : decode cX3_goTo 1 = .ok (.istore_n 2, 1) := by decide +kernel
theorem dX3_goTo_2 : decode cX3_goTo 2 = .ok (.iload_n 2, 1) := by decide +kernel
theorem dX3_goTo_3 : decode cX3_goTo 3 = .ok (.aload_n 0, 1) := by decide +kernel
theorem dX3_goTo_4 : decode cX3_goTo 4 = .ok (.getfield 12, 3) := by decide +kernel
theorem dX3_goTo_7 : decode cX3_goTo 7 = .ok (.getfield 41, 3) := by decide +kernel
theorem dX3_goTo_10 : decode cX3_goTo 10 = .ok (.if_icmp .ge 24, 3) := by decide +kernel
theorem dX3_goTo_13 : decode cX3_goTo 13 = .ok (.aload_n 0, 1) := by decide +kernel
theorem dX3_goTo_14 : decode cX3_goTo 14 = .ok (.iload_n 2, 1) := by decide +kernel
theorem dX3_goTo_15 : decode cX3_goTo 15 = .ok (.aload_n 1, 1) := by decide +kernel
theorem dX3_goTo_16 : decode cX3_goTo 16 = .ok (.iload_n 2, 1) := by decide +kernel
theorem dX3_goTo_17 : decode cX3_goTo 17 = .ok (.iaload, 1) := by decide +kernel
theorem dX3_goTo_18 : decode cX3_goTo 18 = .ok (.aload_n 0, 1) := by decide +kernel
theorem dX3_goTo_19 : decode cX3_goTo 19 = .ok (.getfield 28, 3) := by decide +kernel
theorem dX3_goTo_22 : decode cX3_goTo 22 = .ok (.iload_n 2, 1) := by decide +kernel
theorem dX3_goTo_23 : decode cX3_goTo 23 = .ok (.iaload, 1) := by decide +kernel
theorem dX3_goTo_24 : decode cX3_goTo 24 = .ok (.isub, 1) := by decide +kernel
theorem dX3_goTo_25 : decode cX3_goTo 25 = .ok (.invokevirtual 48, 3) := by decide +kernel
theorem dX3_goTo_28 : decode cX3_goTo 28 = .ok (.iinc 2 1, 3) := by decide +kernel
theorem dX3_goTo_31 : decode cX3_goTo 31 = .ok (.goto (-29), 3) := by decide +kernel
theorem dX3_goTo_34 : decode cX3_goTo 34 = .ok (.return_, 1) := by decide +kernel
theorem dX3_plans_0 : decode cX3_plans 0 = .ok (.iconst 1, 1) := by decide +kernel
theorem dX3_plans_1 : decode cX3_plans 1 = .ok (.istore_n 1, 1) := by decide +kernel
theorem dX3_plans_2 : decode cX3_plans 2 = .ok (.iconst 0, 1) := by decide +kernel
theorem dX3_plans_3 : decode cX3_plans 3 = .ok (.istore_n 2, 1) := by decide +kernel
theorem dX3_plans_4 : decode cX3_plans 4 = .ok (.iload_n 2, 1) := by decide +kernel
theorem dX3_plans_5 : decode cX3_plans 5 = .ok (.aload_n 0, 1) := by decide +kernel
theorem dX3_plans_6 : decode cX3_plans 6 = .ok (.getfield 12, 3) := by decide +kernel
theorem dX3_plans_9 : decode cX3_plans 9 = .ok (.getfield 41, 3) := by decide +kernel
theorem dX3_plans_12 : decode cX3_plans 12 = .ok (.if_icmp .ge 20, 3) := by decide +kernel
theorem dX3_plans_15 : decode cX3_plans 15 = .ok (.iload_n 1, 1) := by decide +kernel
theorem dX3_plans_16 : decode cX3_plans 16 = .ok (.aload_n 0, 1) := by decide +kernel
theorem dX3_plans_17 : decode cX3_plans 17 = .ok (.getfield 22, 3) := by decide +kernel
theorem dX3_plans_20 : decode cX3_plans 20 = .ok (.iload_n 2, 1) := by decide +kernel
theorem dX3_plans_21 : decode cX3_plans 21 = .ok (.iaload, 1) := by decide +kernel
theorem dX3_plans_22 : decode cX3_plans 22 = .ok (.iconst 1, 1) := by decide +kernel
theorem dX3_plans_23 : decode cX3_plans 23 = .ok (.iadd, 1) := by decide +kernel
theorem dX3_plans_24 : decode cX3_plans 24 = .ok (.imul, 1) := by decide +kernel
theorem dX3_plans_25 : decode cX3_plans 25 = .ok (.istore_n 1, 1) := by decide +kernel
theorem dX3_plans_26 : decode cX3_plans 26 = .ok (.iinc 2 1, 3) := by decide +kernel
theorem dX3_plans_29 : decode cX3_plans 29 = .ok (.goto (-25), 3) := by decide +kernel
theorem dX3_plans_32 : decode cX3_plans 32 = .ok (.iload_n 1, 1) := by decide +kernel
theorem dX3_plans_33 : decode cX3_plans 33 = .ok (.ireturn, 1) := by decide +kernel
theorem dX3_step_0 : decode cX3_step 0 = .ok (.aload_n 0, 1) := by decide +kernel
theorem dX3_step_1 : decode cX3_step 1 = .ok (.getfield 12, 3) := by decide +kernel
theorem dX3_step_4 : decode cX3_step 4 = .ok (.getfield 41, 3) := by decide +kernel
theorem dX3_step_7 : decode cX3_step 7 = .ok (.iconst 1, 1) := by decide +kernel
theorem dX3_step_8 : decode cX3_step 8 = .ok (.isub, 1) := by decide +kernel
theorem dX3_step_9 : decode cX3_step 9 = .ok (.istore_n 1, 1) := by decide +kernel
theorem dX3_step_10 : decode cX3_step 10 = .ok (.iload_n 1, 1) := by decide +kernel
theorem dX3_step_11 : decode cX3_step 11 = .ok (.ifCond .lt 43, 3) := by decide +kernel
theorem dX3_step_14 : decode cX3_step 14 = .ok (.aload_n 0, 1) := by decide +kernel
theorem dX3_step_15 : decode cX3_step 15 = .ok (.getfield 28, 3) := by decide +kernel
theorem dX3_step_18 : decode cX3_step 18 = .ok (.iload_n 1, 1) := by decide +kernel
theorem dX3_step_19 : decode cX3_step 19 = .ok (.iaload, 1) := by decide +kernel
theorem dX3_step_20 : decode cX3_step 20 = .ok (.aload_n 0, 1) := by decide +kernel
theorem dX3_step_21 : decode cX3_step 21 = .ok (.getfield 22, 3) := by decide +kernel
theorem dX3_step_24 : decode cX3_step 24 = .ok (.iload_n 1, 1) := by decide +kernel
theorem dX3_step_25 : decode cX3_step 25 = .ok (.iaload, 1) := by decide +kernel
theorem dX3_step_26 : decode cX3_step 26 = .ok (.if_icmp .ge 10, 3) := by decide +kernel
theorem dX3_step_29 : decode cX3_step 29 = .ok (.aload_n 0, 1) := by decide +kernel
theorem dX3_step_30 : decode cX3_step 30 = .ok (.iload_n 1, 1) := by decide +kernel
theorem dX3_step_31 : decode cX3_step 31 = .ok (.iconst 1, 1) := by decide +kernel
theorem dX3_step_32 : decode cX3_step 32 = .ok (.invokevirtual 48, 3) := by decide +kernel
theorem dX3_step_35 : decode cX3_step 35 = .ok (.return_, 1) := by decide +kernel
theorem dX3_step_36 : decode cX3_step 36 = .ok (.aload_n 0, 1) := by decide +kernel
theorem dX3_step_37 : decode cX3_step 37 = .ok (.iload_n 1, 1) := by decide +kernel
theorem dX3_step_38 : decode cX3_step 38 = .ok (.aload_n 0, 1) := by decide +kernel
theorem dX3_step_39 : decode cX3_step 39 = .ok (.getfield 28, 3) := by decide +kernel
theorem dX3_step_42 : decode cX3_step 42 = .ok (.iload_n 1, 1) := by decide +kernel
theorem dX3_step_43 : decode cX3_step 43 = .ok (.iaload, 1) := by decide +kernel
theorem dX3_step_44 : decode cX3_step 44 = .ok (.ineg, 1) := by decide +kernel
theorem dX3_step_45 : decode cX3_step 45 = .ok (.invokevirtual 48, 3) := by decide +kernel
theorem dX3_step_48 : decode cX3_step 48 = .ok (.iinc 1 (-1), 3) := by decide +kernel
theorem dX3_step_51 : decode cX3_step 51 = .ok (.goto (-41), 3) := by decide +kernel
theorem dX3_step_54 : decode cX3_step 54 = .ok (.return_, 1) := by decide +kernel
theorem dX3_shift_0 : decode cX3_shift 0 = .ok (.iload_n 2, 1) := by decide +kernel
theorem dX3_shift_1 : decode cX3_shift 1 = .ok (.ifCond .ne 4, 3) := by decide +kernel
theorem dX3_shift_4 : decode cX3_shift 4 = .ok (.return_, 1) := by decide +kernel
theorem dX3_shift_5 : decode cX3_shift 5 = .ok (.aload_n 0, 1) := by decide +kernel
theorem dX3_shift_6 : decode cX3_shift 6 = .ok (.getfield 28, 3) := by decide +kernel
theorem dX3_shift_9 : decode cX3_shift 9 = .ok (.iload_n 1, 1) := by decide +kernel
theorem dX3_shift_10 : decode cX3_shift 10 = .ok (.dup2, 1) := by decide +kernel
theorem dX3_shift_11 : decode cX3_shift 11 = .ok (.iaload, 1) := by decide +kernel
theorem dX3_shift_12 : decode cX3_shift 12 = .ok (.iload_n 2, 1) := by decide +kernel
theorem dX3_shift_13 : decode cX3_shift 13 = .ok (.iadd, 1) := by decide +kernel
theorem dX3_shift_14 : decode cX3_shift 14 = .ok (.iastore, 1) := by decide +kernel
theorem dX3_shift_15 : decode cX3_shift 15 = .ok (.aload_n 0, 1) := by decide +kernel
theorem dX3_shift_16 : decode cX3_shift 16 = .ok (.dup, 1) := by decide +kernel
theorem dX3_shift_17 : decode cX3_shift 17 = .ok (.getfield 45, 3) := by decide +kernel
theorem dX3_shift_20 : decode cX3_shift 20 = .ok (.iload_n 2, 1) := by decide +kernel
theorem dX3_shift_21 : decode cX3_shift 21 = .ok (.aload_n 0, 1) := by decide +kernel
theorem dX3_shift_22 : decode cX3_shift 22 = .ok (.getfield 12, 3) := by decide +kernel
theorem dX3_shift_25 : decode cX3_shift 25 = .ok (.getfield 52, 3) := by decide +kernel
theorem dX3_shift_28 : decode cX3_shift 28 = .ok (.iload_n 1, 1) := by decide +kernel
theorem dX3_shift_29 : decode cX3_shift 29 = .ok (.iaload, 1) := by decide +kernel
theorem dX3_shift_30 : decode cX3_shift 30 = .ok (.imul, 1) := by decide +kernel
theorem dX3_shift_31 : decode cX3_shift 31 = .ok (.iadd, 1) := by decide +kernel
theorem dX3_shift_32 : decode cX3_shift 32 = .ok (.putfield 45, 3) := by decide +kernel
theorem dX3_shift_35 : decode cX3_shift 35 = .ok (.iconst 0, 1) := by decide +kernel
theorem dX3_shift_36 : decode cX3_shift 36 = .ok (.istore_n 3, 1) := by decide +kernel
theorem dX3_shift_37 : decode cX3_shift 37 = .ok (.iload_n 3, 1) := by decide +kernel
theorem dX3_shift_38 : decode cX3_shift 38 = .ok (.aload_n 0, 1) := by decide +kernel
theorem dX3_shift_39 : decode cX3_shift 39 = .ok (.getfield 12, 3) := by decide +kernel
theorem dX3_shift_42 : decode cX3_shift 42 = .ok (.getfield 31, 3) := by decide +kernel
theorem dX3_shift_45 : decode cX3_shift 45 = .ok (.if_icmp .ge 33, 3) := by decide +kernel
theorem dX3_shift_48 : decode cX3_shift 48 = .ok (.aload_n 0, 1) := by decide +kernel
theorem dX3_shift_49 : decode cX3_shift 49 = .ok (.getfield 25, 3) := by decide +kernel
theorem dX3_shift_52 : decode cX3_shift 52 = .ok (.iload_n 3, 1) := by decide +kernel
theorem dX3_shift_53 : decode cX3_shift 53 = .ok (.dup2, 1) := by decide +kernel
theorem dX3_shift_54 : decode cX3_shift 54 = .ok (.iaload, 1) := by decide +kernel
theorem dX3_shift_55 : decode cX3_shift 55 = .ok (.iload_n 2, 1) := by decide +kernel
theorem dX3_shift_56 : decode cX3_shift 56 = .ok (.aload_n 0, 1) := by decide +kernel
theorem dX3_shift_57 : decode cX3_shift 57 = .ok (.getfield 12, 3) := by decide +kernel
theorem dX3_shift_60 : decode cX3_shift 60 = .ok (.getfield 55, 3) := by decide +kernel
theorem dX3_shift_63 : decode cX3_shift 63 = .ok (.iload_n 3, 1) := by decide +kernel
theorem dX3_shift_64 : decode cX3_shift 64 = .ok (.iconst 4, 1) := by decide +kernel
theorem dX3_shift_65 : decode cX3_shift 65 = .ok (.imul, 1) := by decide +kernel
theorem dX3_shift_66 : decode cX3_shift 66 = .ok (.iload_n 1, 1) := by decide +kernel
theorem dX3_shift_67 : decode cX3_shift 67 = .ok (.iadd, 1) := by decide +kernel
theorem dX3_shift_68 : decode cX3_shift 68 = .ok (.iaload, 1) := by decide +kernel
theorem dX3_shift_69 : decode cX3_shift 69 = .ok (.imul, 1) := by decide +kernel
theorem dX3_shift_70 : decode cX3_shift 70 = .ok (.iadd, 1) := by decide +kernel
theorem dX3_shift_71 : decode cX3_shift 71 = .ok (.iastore, 1) := by decide +kernel
theorem dX3_shift_72 : decode cX3_shift 72 = .ok (.iinc 3 1, 3) := by decide +kernel
theorem dX3_shift_75 : decode cX3_shift 75 = .ok (.goto (-38), 3) := by decide +kernel
theorem dX3_shift_78 : decode cX3_shift 78 = .ok (.return_, 1) := by decide +kernel
theorem dX3_firstOver_0 : decode cX3_firstOver 0 = .ok (.iload_n 1, 1) := by decide +kernel
theorem dX3_firstOver_1 : decode cX3_firstOver 1 = .ok (.istore_n 2, 1) := by decide +kernel
theorem dX3_firstOver_2 : decode cX3_firstOver 2 = .ok (.iload_n 2, 1) := by decide +kernel
theorem dX3_firstOver_3 : decode cX3_firstOver 3 = .ok (.aload_n 0, 1) := by decide +kernel
theorem dX3_firstOver_4 : decode cX3_firstOver 4 = .ok (.getfield 12, 3) := by decide +kernel
theorem dX3_firstOver_7 : decode cX3_firstOver 7 = .ok (.getfield 31, 3) := by decide +kernel
theorem dX3_firstOver_10 : decode cX3_firstOver 10 = .ok (.if_icmp .ge 25, 3) := by decide +kernel
theorem dX3_firstOver_13 : decode cX3_firstOver 13 = .ok (.aload_n 0, 1) := by decide +kernel
theorem dX3_firstOver_14 : decode cX3_firstOver 14 = .ok (.iload_n 2, 1) := by decide +kernel
theorem dX3_firstOver_15 : decode cX3_firstOver 15 = .ok (.invokevirtual 58, 3) := by decide +kernel
theorem dX3_firstOver_18 : decode cX3_firstOver 18 = .ok (.aload_n 0, 1) := by decide +kernel
theorem dX3_firstOver_19 : decode cX3_firstOver 19 = .ok (.getfield 18, 3) := by decide +kernel
theorem dX3_firstOver_22 : decode cX3_firstOver 22 = .ok (.iload_n 2, 1) := by decide +kernel
theorem dX3_firstOver_23 : decode cX3_firstOver 23 = .ok (.iaload, 1) := by decide +kernel
theorem dX3_firstOver_24 : decode cX3_firstOver 24 = .ok (.if_icmp .le 5, 3) := by decide +kernel
theorem dX3_firstOver_27 : decode cX3_firstOver 27 = .ok (.iload_n 2, 1) := by decide +kernel
theorem dX3_firstOver_28 : decode cX3_firstOver 28 = .ok (.ireturn, 1) := by decide +kernel
theorem dX3_firstOver_29 : decode cX3_firstOver 29 = .ok (.iinc 2 1, 3) := by decide +kernel
theorem dX3_firstOver_32 : decode cX3_firstOver 32 = .ok (.goto (-30), 3) := by decide +kernel
theorem dX3_firstOver_35 : decode cX3_firstOver 35 = .ok (.ldc 62, 2) := by decide +kernel
theorem dX3_firstOver_37 : decode cX3_firstOver 37 = .ok (.ireturn, 1) := by decide +kernel
theorem dX3_load_0 : decode cX3_load 0 = .ok (.aload_n 0, 1) := by decide +kernel
theorem dX3_load_1 : decode cX3_load 1 = .ok (.getfield 12, 3) := by decide +kernel
theorem dX3_load_4 : decode cX3_load 4 = .ok (.getfield 63, 3) := by decide +kernel
theorem dX3_load_7 : decode cX3_load 7 = .ok (.iload_n 1, 1) := by decide +kernel
theorem dX3_load_8 : decode cX3_load 8 = .ok (.iaload, 1) := by decide +kernel
theorem dX3_load_9 : decode cX3_load 9 = .ok (.iconst 2, 1) := by decide +kernel
theorem dX3_load_10 : decode cX3_load 10 = .ok (.if_icmp .eq 10, 3) := by decide +kernel
theorem dX3_load_13 : decode cX3_load 13 = .ok (.aload_n 0, 1) := by decide +kernel
theorem dX3_load_14 : decode cX3_load 14 = .ok (.getfield 25, 3) := by decide +kernel
theorem dX3_load_17 : decode cX3_load 17 = .ok (.iload_n 1, 1) := by decide +kernel
theorem dX3_load_18 : decode cX3_load 18 = .ok (.iaload, 1) := by decide +kernel
theorem dX3_load_19 : decode cX3_load 19 = .ok (.ireturn, 1) := by decide +kernel
theorem dX3_load_20 : decode cX3_load 20 = .ok (.aload_n 0, 1) := by decide +kernel
theorem dX3_load_21 : decode cX3_load 21 = .ok (.getfield 28, 3) := by decide +kernel
theorem dX3_load_24 : decode cX3_load 24 = .ok (.aload_n 0, 1) := by decide +kernel
theorem dX3_load_25 : decode cX3_load 25 = .ok (.getfield 12, 3) := by decide +kernel
theorem dX3_load_28 : decode cX3_load 28 = .ok (.getfield 66, 3) := by decide +kernel
theorem dX3_load_31 : decode cX3_load 31 = .ok (.iload_n 1, 1) := by decide +kernel
theorem dX3_load_32 : decode cX3_load 32 = .ok (.iaload, 1) := by decide +kernel
theorem dX3_load_33 : decode cX3_load 33 = .ok (.iaload, 1) := by decide +kernel
theorem dX3_load_34 : decode cX3_load 34 = .ok (.aload_n 0, 1) := by decide +kernel
theorem dX3_load_35 : decode cX3_load 35 = .ok (.getfield 28, 3) := by decide +kernel
theorem dX3_load_38 : decode cX3_load 38 = .ok (.aload_n 0, 1) := by decide +kernel
theorem dX3_load_39 : decode cX3_load 39 = .ok (.getfield 12, 3) := by decide +kernel
theorem dX3_load_42 : decode cX3_load 42 = .ok (.getfield 69, 3) := by decide +kernel
theorem dX3_load_45 : decode cX3_load 45 = .ok (.iload_n 1, 1) := by decide +kernel
theorem dX3_load_46 : decode cX3_load 46 = .ok (.iaload, 1) := by decide +kernel
theorem dX3_load_47 : decode cX3_load 47 = .ok (.iaload, 1) := by decide +kernel
theorem dX3_load_48 : decode cX3_load 48 = .ok (.invokestatic 72, 3) := by decide +kernel
theorem dX3_load_51 : decode cX3_load 51 = .ok (.ireturn, 1) := by decide +kernel
theorem dX3_greatestFitting_0 : decode cX3_greatestFitting 0 = .ok (.iconst 0, 1) := by decide +kernel
theorem dX3_greatestFitting_1 : decode cX3_greatestFitting 1 = .ok (.istore_n 1, 1) := by decide +kernel
theorem dX3_greatestFitting_2 : decode cX3_greatestFitting 2 = .ok (.aload_n 0, 1) := by decide +kernel
theorem dX3_greatestFitting_3 : decode cX3_greatestFitting 3 = .ok (.invokevirtual 78, 3) := by decide +kernel
theorem dX3_greatestFitting_6 : decode cX3_greatestFitting 6 = .ok (.istore_n 2, 1) := by decide +kernel
theorem dX3_greatestFitting_7 : decode cX3_greatestFitting 7 = .ok (.iload_n 2, 1) := by decide +kernel
theorem dX3_greatestFitting_8 : decode cX3_greatestFitting 8 = .ok (.ifCond .le 36, 3) := by decide +kernel
theorem dX3_greatestFitting_11 : decode cX3_greatestFitting 11 = .ok (.aload_n 0, 1) := by decide +kernel
theorem dX3_greatestFitting_12 : decode cX3_greatestFitting 12 = .ok (.getfield 45, 3) := by decide +kernel
theorem dX3_greatestFitting_15 : decode cX3_greatestFitting 15 = .ok (.iload_n 1, 1) := by decide +kernel
theorem dX3_greatestFitting_16 : decode cX3_greatestFitting 16 = .ok (.if_icmp .le 18, 3) := by decide +kernel
theorem dX3_greatestFitting_19 : decode cX3_greatestFitting 19 = .ok (.aload_n 0, 1) := by decide +kernel
theorem dX3_greatestFitting_20 : decode cX3_greatestFitting 20 = .ok (.iconst 0, 1) := by decide +kernel
theorem dX3_greatestFitting_21 : decode cX3_greatestFitting 21 = .ok (.invokevirtual 82, 3) := by decide +kernel
theorem dX3_greatestFitting_24 : decode cX3_greatestFitting 24 = .ok (.ldc 62, 2) := by decide +kernel
theorem dX3_greatestFitting_26 : decode cX3_greatestFitting 26 = .ok (.if_icmp .ne 8, 3) := by decide +kernel
theorem dX3_greatestFitting_29 : decode cX3_greatestFitting 29 = .ok (.aload_n 0, 1) := by decide +kernel
theorem dX3_greatestFitting_30 : decode cX3_greatestFitting 30 = .ok (.getfield 45, 3) := by decide +kernel
theorem dX3_greatestFitting_33 : decode cX3_greatestFitting 33 = .ok (.istore_n 1, 1) := by decide +kernel
theorem dX3_greatestFitting_34 : decode cX3_greatestFitting 34 = .ok (.aload_n 0, 1) := by decide +kernel
theorem dX3_greatestFitting_35 : decode cX3_greatestFitting 35 = .ok (.invokevirtual 85, 3) := by decide +kernel
theorem dX3_greatestFitting_38 : decode cX3_greatestFitting 38 = .ok (.iinc 2 (-1), 3) := by decide +kernel
theorem dX3_greatestFitting_41 : decode cX3_greatestFitting 41 = .ok (.goto (-34), 3) := by decide +kernel
theorem dX3_greatestFitting_44 : decode cX3_greatestFitting 44 = .ok (.iload_n 1, 1) := by decide +kernel
theorem dX3_greatestFitting_45 : decode cX3_greatestFitting 45 = .ok (.ireturn, 1) := by decide +kernel
theorem dX4_init_0 : decode cX4_init 0 = .ok (.aload_n 0, 1) := by decide +kernel
theorem dX4_init_1 : decode cX4_init 1 = .ok (.invokespecial 1, 3) := by decide +kernel
theorem dX4_init_4 : decode cX4_init 4 = .ok (.aload_n 0, 1) := by decide +kernel
theorem dX4_init_5 : decode cX4_init 5 = .ok (.new 7, 3) := by decide +kernel
theorem dX4_init_8 : decode cX4_init 8 = .ok (.dup, 1) := by decide +kernel
theorem dX4_init_9 : decode cX4_init 9 = .ok (.invokespecial 9, 3) := by decide +kernel
theorem dX4_init_12 : decode cX4_init 12 = .ok (.putfield 10, 3) := by decide +kernel
theorem dX4_init_15 : decode cX4_init 15 = .ok (.aload_n 0, 1) := by decide +kernel
theorem dX4_init_16 : decode cX4_init 16 = .ok (.aload_n 0, 1) := by decide +kernel
theorem dX4_init_17 : decode cX4_init 17 = .ok (.getfield 10, 3) := by decide +kernel
theorem dX4_init_20 : decode cX4_init 20 = .ok (.getfield 16, 3) := by decide +kernel
theorem dX4_init_23 : decode cX4_init 23 = .ok (.putfield 20, 3) := by decide +kernel
theorem dX4_init_26 : decode cX4_init 26 = .ok (.aload_n 0, 1) := by decide +kernel
theorem dX4_init_27 : decode cX4_init 27 = .ok (.new 21, 3) := by decide +kernel
theorem dX4_init_30 : decode cX4_init 30 = .ok (.dup, 1) := by decide +kernel
theorem dX4_init_31 : decode cX4_init 31 = .ok (.invokespecial 23, 3) := by decide +kernel
theorem dX4_init_34 : decode cX4_init 34 = .ok (.putfield 24, 3) := by decide +kernel
theorem dX4_init_37 : decode cX4_init 37 = .ok (.aload_n 0, 1) := by decide +kernel
theorem dX4_init_38 : decode cX4_init 38 = .ok (.new 28, 3) := by decide +kernel
theorem dX4_init_41 : decode cX4_init 41 = .ok (.dup, 1) := by decide +kernel
theorem dX4_init_42 : decode cX4_init 42 = .ok (.invokespecial 30, 3) := by decide +kernel
theorem dX4_init_45 : decode cX4_init 45 = .ok (.putfield 31, 3) := by decide +kernel
theorem dX4_init_48 : decode cX4_init 48 = .ok (.aload_n 0, 1) := by decide +kernel
theorem dX4_init_49 : decode cX4_init 49 = .ok (.iconst 4, 1) := by decide +kernel
theorem dX4_init_50 : decode cX4_init 50 = .ok (.newarray .int, 2) := by decide +kernel
theorem dX4_init_52 : decode cX4_init 52 = .ok (.putfield 35, 3) := by decide +kernel
theorem dX4_init_55 : decode cX4_init 55 = .ok (.return_, 1) := by decide +kernel
