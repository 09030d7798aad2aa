theorem dX4_thing_0 : decode cX4_thing 0 = .ok (.iload_n 1, 1) := by decide +kernel
theorem dX4_thing_1 : decode cX4_thing 1 = .ok (.invokestatic 39, 3) := by decide +kernel
theorem dX4_thing_4 : decode cX4_thing 4 = .ok (.ifCond .eq 10, 3) := by decide +kernel
theorem dX4_thing_7 : decode cX4_thing 7 = .ok (.iload_n 2, 1) := by decide +kernel
theorem dX4_thing_8 : decode cX4_thing 8 = .ok (.invokestatic 43, 3) := by decide +kernel
theorem dX4_thing_11 : decode cX4_thing 11 = .ok (.ifCond .ne 6, 3) := by decide +kernel
theorem dX4_thing_14 : decode cX4_thing 14 = .ok (.ldc 46, 2) := by decide +kernel
theorem dX4_thing_16 : decode cX4_thing 16 = .ok (.ireturn, 1) := by decide +kernel
theorem dX4_thing_17 : decode cX4_thing 17 = .ok (.aload_n 0, 1) := by decide +kernel
theorem dX4_thing_18 : decode cX4_thing 18 = .ok (.getfield 20, 3) := by decide +kernel
theorem dX4_thing_21 : decode cX4_thing 21 = .ok (.getfield 47, 3) := by decide +kernel
theorem dX4_thing_24 : decode cX4_thing 24 = .ok (.iconst 4, 1) := by decide +kernel
theorem dX4_thing_25 : decode cX4_thing 25 = .ok (.if_icmp .lt 6, 3) := by decide +kernel
theorem dX4_thing_28 : decode cX4_thing 28 = .ok (.ldc 53, 2) := by decide +kernel
theorem dX4_thing_30 : decode cX4_thing 30 = .ok (.ireturn, 1) := by decide +kernel
theorem dX4_thing_31 : decode cX4_thing 31 = .ok (.aload_n 0, 1) := by decide +kernel
theorem dX4_thing_32 : decode cX4_thing 32 = .ok (.invokevirtual 54, 3) := by decide +kernel
theorem dX4_thing_35 : decode cX4_thing 35 = .ok (.aload_n 0, 1) := by decide +kernel
theorem dX4_thing_36 : decode cX4_thing 36 = .ok (.getfield 20, 3) := by decide +kernel
theorem dX4_thing_39 : decode cX4_thing 39 = .ok (.iload_n 1, 1) := by decide +kernel
theorem dX4_thing_40 : decode cX4_thing 40 = .ok (.iload_n 2, 1) := by decide +kernel
theorem dX4_thing_41 : decode cX4_thing 41 = .ok (.invokevirtual 57, 3) := by decide +kernel
theorem dX4_thing_44 : decode cX4_thing 44 = .ok (.ireturn, 1) := by decide +kernel
theorem dX4_rule_0 : decode cX4_rule 0 = .ok (.iload_n 1, 1) := by decide +kernel
theorem dX4_rule_1 : decode cX4_rule 1 = .ok (.ifCond .lt 18, 3) := by decide +kernel
theorem dX4_rule_4 : decode cX4_rule 4 = .ok (.iload_n 1, 1) := by decide +kernel
theorem dX4_rule_5 : decode cX4_rule 5 = .ok (.iconst 2, 1) := by decide +kernel
theorem dX4_rule_6 : decode cX4_rule 6 = .ok (.if_icmp .gt 13, 3) := by decide +kernel
theorem dX4_rule_9 : decode cX4_rule 9 = .ok (.iload_n 1, 1) := by decide +kernel
theorem dX4_rule_10 : decode cX4_rule 10 = .ok (.iload 4, 2) := by decide +kernel
theorem dX4_rule_12 : decode cX4_rule 12 = .ok (.i2l, 1) := by decide +kernel
theorem dX4_rule_13 : decode cX4_rule 13 = .ok (.invokestatic 61, 3) := by decide +kernel
theorem dX4_rule_16 : decode cX4_rule 16 = .ok (.ifCond .ne 6, 3) := by decide +kernel
theorem dX4_rule_19 : decode cX4_rule 19 = .ok (.ldc 46, 2) := by decide +kernel
theorem dX4_rule_21 : decode cX4_rule 21 = .ok (.ireturn, 1) := by decide +kernel
theorem dX4_rule_22 : decode cX4_rule 22 = .ok (.iload_n 1, 1) := by decide +kernel
theorem dX4_rule_23 : decode cX4_rule 23 = .ok (.ifCond .eq 22, 3) := by decide +kernel
theorem dX4_rule_26 : decode cX4_rule 26 = .ok (.aload_n 0, 1) := by decide +kernel
theorem dX4_rule_27 : decode cX4_rule 27 = .ok (.iload_n 2, 1) := by decide +kernel
theorem dX4_rule_28 : decode cX4_rule 28 = .ok (.invokevirtual 65, 3) := by decide +kernel
theorem dX4_rule_31 : decode cX4_rule 31 = .ok (.ifCond .eq 11, 3) := by decide +kernel
theorem dX4_rule_34 : decode cX4_rule 34 = .ok (.aload_n 0, 1) := by decide +kernel
theorem dX4_rule_35 : decode cX4_rule 35 = .ok (.iload_n 3, 1) := by decide +kernel
theorem dX4_rule_36 : decode cX4_rule 36 = .ok (.invokevirtual 65, 3) := by decide +kernel
theorem dX4_rule_39 : decode cX4_rule 39 = .ok (.ifCond .ne 6, 3) := by decide +kernel
theorem dX4_rule_42 : decode cX4_rule 42 = .ok (.ldc 46, 2) := by decide +kernel
theorem dX4_rule_44 : decode cX4_rule 44 = .ok (.ireturn, 1) := by decide +kernel
theorem dX4_rule_45 : decode cX4_rule 45 = .ok (.aload_n 0, 1) := by decide +kernel
theorem dX4_rule_46 : decode cX4_rule 46 = .ok (.getfield 20, 3) := by decide +kernel
theorem dX4_rule_49 : decode cX4_rule 49 = .ok (.getfield 68, 3) := by decide +kernel
theorem dX4_rule_52 : decode cX4_rule 52 = .ok (.bipush 6, 2) := by decide +kernel
theorem dX4_rule_54 : decode cX4_rule 54 = .ok (.if_icmp .lt 6, 3) := by decide +kernel
theorem dX4_rule_57 : decode cX4_rule 57 = .ok (.ldc 53, 2) := by decide +kernel
theorem dX4_rule_59 : decode cX4_rule 59 = .ok (.ireturn, 1) := by decide +kernel
theorem dX4_rule_60 : decode cX4_rule 60 = .ok (.aload_n 0, 1) := by decide +kernel
theorem dX4_rule_61 : decode cX4_rule 61 = .ok (.invokevirtual 54, 3) := by decide +kernel
theorem dX4_rule_64 : decode cX4_rule 64 = .ok (.aload_n 0, 1) := by decide +kernel
theorem dX4_rule_65 : decode cX4_rule 65 = .ok (.getfield 20, 3) := by decide +kernel
theorem dX4_rule_68 : decode cX4_rule 68 = .ok (.iload_n 1, 1) := by decide +kernel
theorem dX4_rule_69 : decode cX4_rule 69 = .ok (.iload 4, 2) := by decide +kernel
theorem dX4_rule_71 : decode cX4_rule 71 = .ok (.invokevirtual 71, 3) := by decide +kernel
theorem dX4_rule_74 : decode cX4_rule 74 = .ok (.istore 5, 2) := by decide +kernel
theorem dX4_rule_76 : decode cX4_rule 76 = .ok (.iload_n 1, 1) := by decide +kernel
theorem dX4_rule_77 : decode cX4_rule 77 = .ok (.ifCond .eq 14, 3) := by decide +kernel
theorem dX4_rule_80 : decode cX4_rule 80 = .ok (.aload_n 0, 1) := by decide +kernel
theorem dX4_rule_81 : decode cX4_rule 81 = .ok (.getfield 20, 3) := by decide +kernel
theorem dX4_rule_84 : decode cX4_rule 84 = .ok (.iload 5, 2) := by decide +kernel
theorem dX4_rule_86 : decode cX4_rule 86 = .ok (.iload_n 2, 1) := by decide +kernel
theorem dX4_rule_87 : decode cX4_rule 87 = .ok (.iload_n 3, 1) := by decide +kernel
theorem dX4_rule_88 : decode cX4_rule 88 = .ok (.invokevirtual 74, 3) := by decide +kernel
theorem dX4_rule_91 : decode cX4_rule 91 = .ok (.iload 5, 2) := by decide +kernel
theorem dX4_rule_93 : decode cX4_rule 93 = .ok (.ireturn, 1) := by decide +kernel
theorem dX4_amount_0 : decode cX4_amount 0 = .ok (.aload_n 0, 1) := by decide +kernel
theorem dX4_amount_1 : decode cX4_amount 1 = .ok (.iload_n 1, 1) := by decide +kernel
theorem dX4_amount_2 : decode cX4_amount 2 = .ok (.invokevirtual 78, 3) := by decide +kernel
theorem dX4_amount_5 : decode cX4_amount 5 = .ok (.ifCond .eq 23, 3) := by decide +kernel
theorem dX4_amount_8 : decode cX4_amount 8 = .ok (.aload_n 0, 1) := by decide +kernel
theorem dX4_amount_9 : decode cX4_amount 9 = .ok (.getfield 20, 3) := by decide +kernel
theorem dX4_amount_12 : decode cX4_amount 12 = .ok (.getfield 81, 3) := by decide +kernel
theorem dX4_amount_15 : decode cX4_amount 15 = .ok (.iload_n 1, 1) := by decide +kernel
theorem dX4_amount_16 : decode cX4_amount 16 = .ok (.iaload, 1) := by decide +kernel
theorem dX4_amount_17 : decode cX4_amount 17 = .ok (.ifCond .ne 11, 3) := by decide +kernel
theorem dX4_amount_20 : decode cX4_amount 20 = .ok (.aload_n 0, 1) := by decide +kernel
theorem dX4_amount_21 : decode cX4_amount 21 = .ok (.iload_n 2, 1) := by decide +kernel
theorem dX4_amount_22 : decode cX4_amount 22 = .ok (.invokevirtual 65, 3) := by decide +kernel
theorem dX4_amount_25 : decode cX4_amount 25 = .ok (.ifCond .ne 6, 3) := by decide +kernel
theorem dX4_amount_28 : decode cX4_amount 28 = .ok (.ldc 46, 2) := by decide +kernel
theorem dX4_amount_30 : decode cX4_amount 30 = .ok (.ireturn, 1) := by decide +kernel
theorem dX4_amount_31 : decode cX4_amount 31 = .ok (.iload_n 3, 1) := by decide +kernel
theorem dX4_amount_32 : decode cX4_amount 32 = .ok (.bipush (-9), 2) := by decide +kernel
theorem dX4_amount_34 : decode cX4_amount 34 = .ok (.if_icmp .lt 9, 3) := by decide +kernel
theorem dX4_amount_37 : decode cX4_amount 37 = .ok (.iload_n 3, 1) := by decide +kernel
theorem dX4_amount_38 : decode cX4_amount 38 = .ok (.bipush 9, 2) := by decide +kernel
theorem dX4_amount_40 : decode cX4_amount 40 = .ok (.if_icmp .le 6, 3) := by decide +kernel
theorem dX4_amount_43 : decode cX4_amount 43 = .ok (.ldc 46, 2) := by decide +kernel
theorem dX4_amount_45 : decode cX4_amount 45 = .ok (.ireturn, 1) := by decide +kernel
theorem dX4_amount_46 : decode cX4_amount 46 = .ok (.aload_n 0, 1) := by decide +kernel
theorem dX4_amount_47 : decode cX4_amount 47 = .ok (.aload_n 0, 1) := by decide +kernel
theorem dX4_amount_48 : decode cX4_amount 48 = .ok (.getfield 20, 3) := by decide +kernel
theorem dX4_amount_51 : decode cX4_amount 51 = .ok (.getfield 84, 3) := by decide +kernel
theorem dX4_amount_54 : decode cX4_amount 54 = .ok (.iload_n 1, 1) := by decide +kernel
theorem dX4_amount_55 : decode cX4_amount 55 = .ok (.iconst 4, 1) := by decide +kernel
theorem dX4_amount_56 : decode cX4_amount 56 = .ok (.imul, 1) := by decide +kernel
theorem dX4_amount_57 : decode cX4_amount 57 = .ok (.iload_n 2, 1) := by decide +kernel
theorem dX4_amount_58 : decode cX4_amount 58 = .ok (.iadd, 1) := by decide +kernel
theorem dX4_amount_59 : decode cX4_amount 59 = .ok (.iload_n 3, 1) := by decide +kernel
theorem dX4_amount_60 : decode cX4_amount 60 = .ok (.invokevirtual 87, 3) := by decide +kernel
theorem dX4_amount_63 : decode cX4_amount 63 = .ok (.ireturn, 1) := by decide +kernel
theorem dX4_on_0 : decode cX4_on 0 = .ok (.aload_n 0, 1) := by decide +kernel
theorem dX4_on_1 : decode cX4_on 1 = .ok (.iload_n 1, 1) := by decide +kernel
theorem dX4_on_2 : decode cX4_on 2 = .ok (.invokevirtual 78, 3) := by decide +kernel
theorem dX4_on_5 : decode cX4_on 5 = .ok (.ifCond .ne 6, 3) := by decide +kernel
theorem dX4_on_8 : decode cX4_on 8 = .ok (.ldc 46, 2) := by decide +kernel
theorem dX4_on_10 : decode cX4_on 10 = .ok (.ireturn, 1) := by decide +kernel
theorem dX4_on_11 : decode cX4_on 11 = .ok (.aload_n 0, 1) := by decide +kernel
theorem dX4_on_12 : decode cX4_on 12 = .ok (.getfield 20, 3) := by decide +kernel
theorem dX4_on_15 : decode cX4_on 15 = .ok (.getfield 91, 3) := by decide +kernel
theorem dX4_on_18 : decode cX4_on 18 = .ok (.iload_n 1, 1) := by decide +kernel
theorem dX4_on_19 : decode cX4_on 19 = .ok (.baload, 1) := by decide +kernel
theorem dX4_on_20 : decode cX4_on 20 = .ok (.istore_n 3, 1) := by decide +kernel
theorem dX4_on_21 : decode cX4_on 21 = .ok (.aload_n 0, 1) := by decide +kernel
theorem dX4_on_22 : decode cX4_on 22 = .ok (.getfield 20, 3) := by decide +kernel
theorem dX4_on_25 : decode cX4_on 25 = .ok (.getfield 91, 3) := by decide +kernel
theorem dX4_on_28 : decode cX4_on 28 = .ok (.iload_n 1, 1) := by decide +kernel
theorem dX4_on_29 : decode cX4_on 29 = .ok (.iload_n 2, 1) := by decide +kernel
theorem dX4_on_30 : decode cX4_on 30 = .ok (.bastore, 1) := by decide +kernel
theorem dX4_on_31 : decode cX4_on 31 = .ok (.aload_n 0, 1) := by decide +kernel
theorem dX4_on_32 : decode cX4_on 32 = .ok (.invokevirtual 54, 3) := by decide +kernel
theorem dX4_on_35 : decode cX4_on 35 = .ok (.iload_n 3, 1) := by decide +kernel
theorem dX4_on_36 : decode cX4_on 36 = .ok (.ifCond .eq 7, 3) := by decide +kernel
theorem dX4_on_39 : decode cX4_on 39 = .ok (.iconst 1, 1) := by decide +kernel
theorem dX4_on_40 : decode cX4_on 40 = .ok (.goto 4, 3) := by decide +kernel
theorem dX4_on_43 : decode cX4_on 43 = .ok (.iconst 0, 1) := by decide +kernel
theorem dX4_on_44 : decode cX4_on 44 = .ok (.ireturn, 1) := by decide +kernel
theorem dX4_set_0 : decode cX4_set 0 = .ok (.iload_n 1, 1) := by decide +kernel
theorem dX4_set_1 : decode cX4_set 1 = .ok (.tableswitch 139 0 2 #[27, 71, 105], 27) := by decide +kernel
theorem dX4_set_28 : decode cX4_set 28 = .ok (.aload_n 0, 1) := by decide +kernel
theorem dX4_set_29 : decode cX4_set 29 = .ok (.iload_n 2, 1) := by decide +kernel
theorem dX4_set_30 : decode cX4_set 30 = .ok (.invokevirtual 78, 3) := by decide +kernel
theorem dX4_set_33 : decode cX4_set 33 = .ok (.ifCond .eq 36, 3) := by decide +kernel
theorem dX4_set_36 : decode cX4_set 36 = .ok (.aload_n 0, 1) := by decide +kernel
theorem dX4_set_37 : decode cX4_set 37 = .ok (.getfield 20, 3) := by decide +kernel
theorem dX4_set_40 : decode cX4_set 40 = .ok (.getfield 81, 3) := by decide +kernel
theorem dX4_set_43 : decode cX4_set 43 = .ok (.iload_n 2, 1) := by decide +kernel
theorem dX4_set_44 : decode cX4_set 44 = .ok (.iaload, 1) := by decide +kernel
theorem dX4_set_45 : decode cX4_set 45 = .ok (.iload_n 3, 1) := by decide +kernel
theorem dX4_set_46 : decode cX4_set 46 = .ok (.i2l, 1) := by decide +kernel
theorem dX4_set_47 : decode cX4_set 47 = .ok (.invokestatic 61, 3) := by decide +kernel
theorem dX4_set_50 : decode cX4_set 50 = .ok (.ifCond .eq 19, 3) := by decide +kernel
theorem dX4_set_53 : decode cX4_set 53 = .ok (.aload_n 0, 1) := by decide +kernel
theorem dX4_set_54 : decode cX4_set 54 = .ok (.aload_n 0, 1) := by decide +kernel
theorem dX4_set_55 : decode cX4_set 55 = .ok (.getfield 20, 3) := by decide +kernel
theorem dX4_set_58 : decode cX4_set 58 = .ok (.getfield 95, 3) := by decide +kernel
theorem dX4_set_61 : decode cX4_set 61 = .ok (.iload_n 2, 1) := by decide +kernel
theorem dX4_set_62 : decode cX4_set 62 = .ok (.iload_n 3, 1) := by decide +kernel
theorem dX4_set_63 : decode cX4_set 63 = .ok (.invokevirtual 87, 3) := by decide +kernel
theorem dX4_set_66 : decode cX4_set 66 = .ok (.goto 5, 3) := by decide +kernel
theorem dX4_set_69 : decode cX4_set 69 = .ok (.ldc 46, 2) := by decide +kernel
theorem dX4_set_71 : decode cX4_set 71 = .ok (.ireturn, 1) := by decide +kernel
theorem dX4_set_72 : decode cX4_set 72 = .ok (.aload_n 0, 1) := by decide +kernel
theorem dX4_set_73 : decode cX4_set 73 = .ok (.iload_n 2, 1) := by decide +kernel
theorem dX4_set_74 : decode cX4_set 74 = .ok (.invokevirtual 65, 3) := by decide +kernel
theorem dX4_set_77 : decode cX4_set 77 = .ok (.ifCond .eq 26, 3) := by decide +kernel
theorem dX4_set_80 : decode cX4_set 80 = .ok (.iload_n 3, 1) := by decide +kernel
theorem dX4_set_81 : decode cX4_set 81 = .ok (.invokestatic 39, 3) := by decide +kernel
theorem dX4_set_84 : decode cX4_set 84 = .ok (.ifCond .eq 19, 3) := by decide +kernel
theorem dX4_set_87 : decode cX4_set 87 = .ok (.aload_n 0, 1) := by decide +kernel
theorem dX4_set_88 : decode cX4_set 88 = .ok (.aload_n 0, 1) := by decide +kernel
theorem dX4_set_89 : decode cX4_set 89 = .ok (.getfield 20, 3) := by decide +kernel
theorem dX4_set_92 : decode cX4_set 92 = .ok (.getfield 98, 3) := by decide +kernel
theorem dX4_set_95 : decode cX4_set 95 = .ok (.iload_n 2, 1) := by decide +kernel
theorem dX4_set_96 : decode cX4_set 96 = .ok (.iload_n 3, 1) := by decide +kernel
theorem dX4_set_97 : decode cX4_set 97 = .ok (.invokevirtual 87, 3) := by decide +kernel
theorem dX4_set_100 : decode cX4_set 100 = .ok (.goto 5, 3) := by decide +kernel
theorem dX4_set_103 : decode cX4_set 103 = .ok (.ldc 46, 2) := by decide +kernel
theorem dX4_set_105 : decode cX4_set 105 = .ok (.ireturn, 1) := by decide +kernel
theorem dX4_set_106 : decode cX4_set 106 = .ok (.aload_n 0, 1) := by decide +kernel
theorem dX4_set_107 : decode cX4_set 107 = .ok (.iload_n 2, 1) := by decide +kernel
theorem dX4_set_108 : decode cX4_set 108 = .ok (.invokevirtual 65, 3) := by decide +kernel
theorem dX4_set_111 : decode cX4_set 111 = .ok (.ifCond .eq 26, 3) := by decide +kernel
theorem dX4_set_114 : decode cX4_set 114 = .ok (.iload_n 3, 1) := by decide +kernel
theorem dX4_set_115 : decode cX4_set 115 = .ok (.invokestatic 43, 3) := by decide +kernel
theorem dX4_set_118 : decode cX4_set 118 = .ok (.ifCond .eq 19, 3) := by decide +kernel
theorem dX4_set_121 : decode cX4_set 121 = .ok (.aload_n 0, 1) := by decide +kernel
theorem dX4_set_122 : decode cX4_set 122 = .ok (.aload_n 0, 1) := by decide +kernel
theorem dX4_set_123 : decode cX4_set 123 = .ok (.getfield 20, 3) := by decide +kernel
theorem dX4_set_126 : decode cX4_set 126 = .ok (.getfield 101, 3) := by decide +kernel
theorem dX4_set_129 : decode cX4_set 129 = .ok (.iload_n 2, 1) := by decide +kernel
theorem dX4_set_130 : decode cX4_set 130 = .ok (.iload_n 3, 1) := by decide +kernel
theorem dX4_set_131 : decode cX4_set 131 = .ok (.invokevirtual 87, 3) := by decide +kernel
theorem dX4_set_134 : decode cX4_set 134 = .ok (.goto 5, 3) := by decide +kernel
theorem dX4_set_137 : decode cX4_set 137 = .ok (.ldc 46, 2) := by decide +kernel
theorem dX4_set_139 : decode cX4_set 139 = .ok (.ireturn, 1) := by decide +kernel
theorem dX4_set_140 : decode cX4_set 140 = .ok (.ldc 46, 2) := by decide +kernel
theorem dX4_set_142 : decode cX4_set 142 = .ok (.ireturn, 1) := by decide +kernel
theorem dX4_value_0 : decode cX4_value 0 = .ok (.aload_n 0, 1) := by decide +kernel
theorem dX4_value_1 : decode cX4_value 1 = .ok (.invokevirtual 104, 3) := by decide +kernel
theorem dX4_value_4 : decode cX4_value 4 = .ok (.getfield 108, 3) := by decide +kernel
theorem dX4_value_7 : decode cX4_value 7 = .ok (.ireturn, 1) := by decide +kernel
theorem dX4_counted_0 : decode cX4_counted 0 = .ok (.iload_n 1, 1) := by decide +kernel
theorem dX4_counted_1 : decode cX4_counted 1 = .ok (.tableswitch 51 0 2 #[27, 35, 43], 27) := by decide +kernel
theorem dX4_counted_28 : decode cX4_counted 28 = .ok (.aload_n 0, 1) := by decide +kernel
theorem dX4_counted_29 : decode cX4_counted 29 = .ok (.invokevirtual 104, 3) := by decide +kernel
theorem dX4_counted_32 : decode cX4_counted 32 = .ok (.getfield 111, 3) := by decide +kernel
theorem dX4_counted_35 : decode cX4_counted 35 = .ok (.ireturn, 1) := by decide +kernel
theorem dX4_counted_36 : decode cX4_counted 36 = .ok (.aload_n 0, 1) := by decide +kernel
theorem dX4_counted_37 : decode cX4_counted 37 = .ok (.invokevirtual 104, 3) := by decide +kernel
theorem dX4_counted_40 : decode cX4_counted 40 = .ok (.getfield 114, 3) := by decide +kernel
theorem dX4_counted_43 : decode cX4_counted 43 = .ok (.ireturn, 1) := by decide +kernel
theorem dX4_counted_44 : decode cX4_counted 44 = .ok (.aload_n 0, 1) := by decide +kernel
theorem dX4_counted_45 : decode cX4_counted 45 = .ok (.invokevirtual 104, 3) := by decide +kernel
theorem dX4_counted_48 : decode cX4_counted 48 = .ok (.getfield 117, 3) := by decide +kernel
theorem dX4_counted_51 : decode cX4_counted 51 = .ok (.ireturn, 1) := by decide +kernel
theorem dX4_counted_52 : decode cX4_counted 52 = .ok (.ldc 46, 2) := by decide +kernel
theorem dX4_counted_54 : decode cX4_counted 54 = .ok (.ireturn, 1) := by decide +kernel
theorem dX4_first_0 : decode cX4_first 0 = .ok (.aload_n 0, 1) := by decide +kernel
theorem dX4_first_1 : decode cX4_first 1 = .ok (.iload_n 1, 1) := by decide +kernel
theorem dX4_first_2 : decode cX4_first 2 = .ok (.invokevirtual 65, 3) := by decide +kernel
theorem dX4_first_5 : decode cX4_first 5 = .ok (.ifCond .eq 15, 3) := by decide +kernel
theorem dX4_first_8 : decode cX4_first 8 = .ok (.aload_n 0, 1) := by decide +kernel
theorem dX4_first_9 : decode cX4_first 9 = .ok (.invokevirtual 104, 3) := by decide +kernel
theorem dX4_first_12 : decode cX4_first 12 = .ok (.getfield 120, 3) := by decide +kernel
theorem dX4_first_15 : decode cX4_first 15 = .ok (.iload_n 1, 1) := by decide +kernel
theorem dX4_first_16 : decode cX4_first 16 = .ok (.iaload, 1) := by decide +kernel
theorem dX4_first_17 : decode cX4_first 17 = .ok (.goto 5, 3) := by decide +kernel
theorem dX4_first_20 : decode cX4_first 20 = .ok (.ldc 46, 2) := by decide +kernel
theorem dX4_first_22 : decode cX4_first 22 = .ok (.ireturn, 1) := by decide +kernel
theorem dX4_fast_0 : decode cX4_fast 0 = .ok (.aload_n 0, 1) := by decide +kernel
theorem dX4_fast_1 : decode cX4_fast 1 = .ok (.iload_n 1, 1) := by decide +kernel
theorem dX4_fast_2 : decode cX4_fast 2 = .ok (.invokevirtual 65, 3) := by decide +kernel
theorem dX4_fast_5 : decode cX4_fast 5 = .ok (.ifCond .ne 6, 3) := by decide +kernel
theorem dX4_fast_8 : decode cX4_fast 8 = .ok (.ldc 46, 2) := by decide +kernel
theorem dX4_fast_10 : decode cX4_fast 10 = .ok (.ireturn, 1) := by decide +kernel
theorem dX4_fast_11 : decode cX4_fast 11 = .ok (.aload_n 0, 1) := by decide +kernel
theorem dX4_fast_12 : decode cX4_fast 12 = .ok (.invokevirtual 104, 3) := by decide +kernel
theorem dX4_fast_15 : decode cX4_fast 15 = .ok (.getfield 123, 3) := by decide +kernel
theorem dX4_fast_18 : decode cX4_fast 18 = .ok (.iload_n 1, 1) := by decide +kernel
theorem dX4_fast_19 : decode cX4_fast 19 = .ok (.baload, 1) := by decide +kernel
theorem dX4_fast_20 : decode cX4_fast 20 = .ok (.ifCond .eq 7, 3) := by decide +kernel
theorem dX4_fast_23 : decode cX4_fast 23 = .ok (.iconst 1, 1) := by decide +kernel
theorem dX4_fast_24 : decode cX4_fast 24 = .ok (.goto 4, 3) := by decide +kernel
theorem dX4_fast_27 : decode cX4_fast 27 = .ok (.iconst 0, 1) := by decide +kernel
theorem dX4_fast_28 : decode cX4_fast 28 = .ok (.ireturn, 1) := by decide +kernel
theorem dX4_price_0 : decode cX4_price 0 = .ok (.aload_n 0, 1) := by decide +kernel
theorem dX4_price_1 : decode cX4_price 1 = .ok (.iload_n 1, 1) := by decide +kernel
theorem dX4_price_2 : decode cX4_price 2 = .ok (.invokevirtual 78, 3) := by decide +kernel
theorem dX4_price_5 : decode cX4_price 5 = .ok (.ifCond .eq 31, 3) := by decide +kernel
theorem dX4_price_8 : decode cX4_price 8 = .ok (.aload_n 0, 1) := by decide +kernel
theorem dX4_price_9 : decode cX4_price 9 = .ok (.getfield 20, 3) := by decide +kernel
theorem dX4_price_12 : decode cX4_price 12 = .ok (.getfield 81, 3) := by decide +kernel
theorem dX4_price_15 : decode cX4_price 15 = .ok (.iload_n 1, 1) := by decide +kernel
theorem dX4_price_16 : decode cX4_price 16 = .ok (.iaload, 1) := by decide +kernel
theorem dX4_price_17 : decode cX4_price 17 = .ok (.aload_n 0, 1) := by decide +kernel
theorem dX4_price_18 : decode cX4_price 18 = .ok (.getfield 20, 3) := by decide +kernel
theorem dX4_price_21 : decode cX4_price 21 = .ok (.getfield 95, 3) := by decide +kernel
theorem dX4_price_24 : decode cX4_price 24 = .ok (.iload_n 1, 1) := by decide +kernel
theorem dX4_price_25 : decode cX4_price 25 = .ok (.iaload, 1) := by decide +kernel
theorem dX4_price_26 : decode cX4_price 26 = .ok (.i2l, 1) := by decide +kernel
theorem dX4_price_27 : decode cX4_price 27 = .ok (.iload_n 2, 1) := by decide +kernel
theorem dX4_price_28 : decode cX4_price 28 = .ok (.i2l, 1) := by decide +kernel
theorem dX4_price_29 : decode cX4_price 29 = .ok (.ladd, 1) := by decide +kernel
theorem dX4_price_30 : decode cX4_price 30 = .ok (.invokestatic 61, 3) := by decide +kernel
theorem dX4_price_33 : decode cX4_price 33 = .ok (.ifCond .ne 6, 3) := by decide +kernel
theorem dX4_price_36 : decode cX4_price 36 = .ok (.ldc 46, 2) := by decide +kernel
theorem dX4_price_38 : decode cX4_price 38 = .ok (.ireturn, 1) := by decide +kernel
theorem dX4_price_39 : decode cX4_price 39 = .ok (.aload_n 0, 1) := by decide +kernel
theorem dX4_price_40 : decode cX4_price 40 = .ok (.getfield 20, 3) := by decide +kernel
theorem dX4_price_43 : decode cX4_price 43 = .ok (.getfield 91, 3) := by decide +kernel
theorem dX4_price_46 : decode cX4_price 46 = .ok (.iload_n 1, 1) := by decide +kernel
theorem dX4_price_47 : decode cX4_price 47 = .ok (.baload, 1) := by decide +kernel
theorem dX4_price_48 : decode cX4_price 48 = .ok (.ifCond .ne 5, 3) := by decide +kernel
theorem dX4_price_51 : decode cX4_price 51 = .ok (.iconst 0, 1) := by decide +kernel
theorem dX4_price_52 : decode cX4_price 52 = .ok (.ireturn, 1) := by decide +kernel
theorem dX4_price_53 : decode cX4_price 53 = .ok (.aload_n 0, 1) := by decide +kernel
theorem dX4_price_54 : decode cX4_price 54 = .ok (.invokevirtual 104, 3) := by decide +kernel
theorem dX4_price_57 : decode cX4_price 57 = .ok (.getfield 108, 3) := by decide +kernel
theorem dX4_price_60 : decode cX4_price 60 = .ok (.istore_n 3, 1) := by decide +kernel
theorem dX4_price_61 : decode cX4_price 61 = .ok (.aload_n 0, 1) := by decide +kernel
theorem dX4_price_62 : decode cX4_price 62 = .ok (.getfield 10, 3) := by decide +kernel
theorem dX4_price_65 : decode cX4_price 65 = .ok (.invokevirtual 126, 3) := by decide +kernel
theorem dX4_price_68 : decode cX4_price 68 = .ok (.aload_n 0, 1) := by decide +kernel
theorem dX4_price_69 : decode cX4_price 69 = .ok (.getfield 10, 3) := by decide +kernel
theorem dX4_price_72 : decode cX4_price 72 = .ok (.iload_n 1, 1) := by decide +kernel
theorem dX4_price_73 : decode cX4_price 73 = .ok (.iload_n 2, 1) := by decide +kernel
theorem dX4_price_74 : decode cX4_price 74 = .ok (.invokevirtual 129, 3) := by decide +kernel
theorem dX4_price_77 : decode cX4_price 77 = .ok (.aload_n 0, 1) := by decide +kernel
theorem dX4_price_78 : decode cX4_price 78 = .ok (.getfield 10, 3) := by decide +kernel
theorem dX4_price_81 : decode cX4_price 81 = .ok (.invokevirtual 133, 3) := by decide +kernel
theorem dX4_price_84 : decode cX4_price 84 = .ok (.iload_n 3, 1) := by decide +kernel
theorem dX4_price_85 : decode cX4_price 85 = .ok (.isub, 1) := by decide +kernel
theorem dX4_price_86 : decode cX4_price 86 = .ok (.ireturn, 1) := by decide +kernel
theorem dX4_weight_0 : decode cX4_weight 0 = .ok (.aload_n 0, 1) := by decide +kernel
theorem dX4_weight_1 : decode cX4_weight 1 = .ok (.iload_n 1, 1) := by decide +kernel
theorem dX4_weight_2 : decode cX4_weight 2 = .ok (.invokevirtual 78, 3) := by decide +kernel
theorem dX4_weight_5 : decode cX4_weight 5 = .ok (.ifCond .eq 14, 3) := by decide +kernel
theorem dX4_weight_8 : decode cX4_weight 8 = .ok (.aload_n 0, 1) := by decide +kernel
theorem dX4_weight_9 : decode cX4_weight 9 = .ok (.invokevirtual 104, 3) := by decide +kernel
theorem dX4_weight_12 : decode cX4_weight 12 = .ok (.iload_n 1, 1) := by decide +kernel
theorem dX4_weight_13 : decode cX4_weight 13 = .ok (.invokevirtual 137, 3) := by decide +kernel
theorem dX4_weight_16 : decode cX4_weight 16 = .ok (.goto 5, 3) := by decide +kernel
theorem dX4_weight_19 : decode cX4_weight 19 = .ok (.ldc 46, 2) := by decide +kernel
theorem dX4_weight_21 : decode cX4_weight 21 = .ok (.ireturn, 1) := by decide +kernel
theorem dX4_rank_0 : decode cX4_rank 0 = .ok (.aload_n 0, 1) := by decide +kernel
theorem dX4_rank_1 : decode cX4_rank 1 = .ok (.iload_n 1, 1) := by decide +kernel
theorem dX4_rank_2 : decode cX4_rank 2 = .ok (.invokevirtual 78, 3) := by decide +kernel
theorem dX4_rank_5 : decode cX4_rank 5 = .ok (.ifCond .ne 6, 3) := by decide +kernel
theorem dX4_rank_8 : decode cX4_rank 8 = .ok (.ldc 46, 2) := by decide +kernel
theorem dX4_rank_10 : decode cX4_rank 10 = .ok (.ireturn, 1) := by decide +kernel
theorem dX4_rank_11 : decode cX4_rank 11 = .ok (.aload_n 0, 1) := by decide +kernel
theorem dX4_rank_12 : decode cX4_rank 12 = .ok (.invokevirtual 104, 3) := by decide +kernel
theorem dX4_rank_15 : decode cX4_rank 15 = .ok (.astore_n 2, 1) := by decide +kernel
theorem dX4_rank_16 : decode cX4_rank 16 = .ok (.iconst 0, 1) := by decide +kernel
theorem dX4_rank_17 : decode cX4_rank 17 = .ok (.istore_n 3, 1) := by decide +kernel
theorem dX4_rank_18 : decode cX4_rank 18 = .ok (.iload_n 3, 1) := by decide +kernel
theorem dX4_rank_19 : decode cX4_rank 19 = .ok (.aload_n 0, 1) := by decide +kernel
theorem dX4_rank_20 : decode cX4_rank 20 = .ok (.getfield 20, 3) := by decide +kernel
theorem dX4_rank_23 : decode cX4_rank 23 = .ok (.getfield 68, 3) := by decide +kernel
theorem dX4_rank_26 : decode cX4_rank 26 = .ok (.if_icmp .ge 27, 3) := by decide +kernel
theorem dX4_rank_29 : decode cX4_rank 29 = .ok (.aload_n 2, 1) := by decide +kernel
theorem dX4_rank_30 : decode cX4_rank 30 = .ok (.iload_n 3, 1) := by decide +kernel
theorem dX4_rank_31 : decode cX4_rank 31 = .ok (.aload_n 0, 1) := by decide +kernel
theorem dX4_rank_32 : decode cX4_rank 32 = .ok (.getfield 20, 3) := by decide +kernel
theorem dX4_rank_35 : decode cX4_rank 35 = .ok (.getfield 68, 3) := by decide +kernel
theorem dX4_rank_38 : decode cX4_rank 38 = .ok (.invokevirtual 141, 3) := by decide +kernel
theorem dX4_rank_41 : decode cX4_rank 41 = .ok (.iload_n 1, 1) := by decide +kernel
theorem dX4_rank_42 : decode cX4_rank 42 = .ok (.if_icmp .ne 5, 3) := by decide +kernel
theorem dX4_rank_45 : decode cX4_rank 45 = .ok (.iload_n 3, 1) := by decide +kernel
theorem dX4_rank_46 : decode cX4_rank 46 = .ok (.ireturn, 1) := by decide +kernel
theorem dX4_rank_47 : decode cX4_rank 47 = .ok (.iinc 3 1, 3) := by decide +kernel
theorem dX4_rank_50 : decode cX4_rank 50 = .ok (.goto (-32), 3) := by decide +kernel
theorem dX4_rank_53 : decode cX4_rank 53 = .ok (.ldc 46, 2) := by decide +kernel
theorem dX4_rank_55 : decode cX4_rank 55 = .ok (.ireturn, 1) := by decide +kernel
theorem dX4_more_0 : decode cX4_more 0 = .ok (.aload_n 0, 1) := by decide +kernel
theorem dX4_more_1 : decode cX4_more 1 = .ok (.iload_n 1, 1) := by decide +kernel
theorem dX4_more_2 : decode cX4_more 2 = .ok (.invokevirtual 65, 3) := by decide +kernel
theorem dX4_more_5 : decode cX4_more 5 = .ok (.ifCond .eq 17, 3) := by decide +kernel
theorem dX4_more_8 : decode cX4_more 8 = .ok (.aload_n 0, 1) := by decide +kernel
theorem dX4_more_9 : decode cX4_more 9 = .ok (.getfield 20, 3) := by decide +kernel
theorem dX4_more_12 : decode cX4_more 12 = .ok (.getfield 101, 3) := by decide +kernel
theorem dX4_more_15 : decode cX4_more 15 = .ok (.iload_n 1, 1) := by decide +kernel
theorem dX4_more_16 : decode cX4_more 16 = .ok (.iaload, 1) := by decide +kernel
theorem dX4_more_17 : decode cX4_more 17 = .ok (.bipush 9, 2) := by decide +kernel
theorem dX4_more_19 : decode cX4_more 19 = .ok (.if_icmp .lt 6, 3) := by decide +kernel
theorem dX4_more_22 : decode cX4_more 22 = .ok (.ldc 46, 2) := by decide +kernel
theorem dX4_more_24 : decode cX4_more 24 = .ok (.ireturn, 1) := by decide +kernel
theorem dX4_more_25 : decode cX4_more 25 = .ok (.aload_n 0, 1) := by decide +kernel
theorem dX4_more_26 : decode cX4_more 26 = .ok (.invokevirtual 104, 3) := by decide +kernel
theorem dX4_more_29 : decode cX4_more 29 = .ok (.getfield 108, 3) := by decide +kernel
theorem dX4_more_32 : decode cX4_more 32 = .ok (.istore_n 2, 1) := by decide +kernel
theorem dX4_more_33 : decode cX4_more 33 = .ok (.aload_n 0, 1) := by decide +kernel
theorem dX4_more_34 : decode cX4_more 34 = .ok (.getfield 10, 3) := by decide +kernel
theorem dX4_more_37 : decode cX4_more 37 = .ok (.invokevirtual 126, 3) := by decide +kernel
theorem dX4_more_40 : decode cX4_more 40 = .ok (.aload_n 0, 1) := by decide +kernel
theorem dX4_more_41 : decode cX4_more 41 = .ok (.getfield 10, 3) := by decide +kernel
theorem dX4_more_44 : decode cX4_more 44 = .ok (.iload_n 1, 1) := by decide +kernel
theorem dX4_more_45 : decode cX4_more 45 = .ok (.invokevirtual 144, 3) := by decide +kernel
theorem dX4_more_48 : decode cX4_more 48 = .ok (.aload_n 0, 1) := by decide +kernel
theorem dX4_more_49 : decode cX4_more 49 = .ok (.getfield 10, 3) := by decide +kernel
theorem dX4_more_52 : decode cX4_more 52 = .ok (.invokevirtual 133, 3) := by decide +kernel
theorem dX4_more_55 : decode cX4_more 55 = .ok (.iload_n 2, 1) := by decide +kernel
theorem dX4_more_56 : decode cX4_more 56 = .ok (.isub, 1) := by decide +kernel
theorem dX4_more_57 : decode cX4_more 57 = .ok (.ireturn, 1) := by decide +kernel
theorem dX4_must_0 : decode cX4_must 0 = .ok (.aload_n 0, 1) := by decide +kernel
theorem dX4_must_1 : decode cX4_must 1 = .ok (.iload_n 1, 1) := by decide +kernel
theorem dX4_must_2 : decode cX4_must 2 = .ok (.invokevirtual 65, 3) := by decide +kernel
theorem dX4_must_5 : decode cX4_must 5 = .ok (.ifCond .eq 20, 3) := by decide +kernel
theorem dX4_must_8 : decode cX4_must 8 = .ok (.iload_n 2, 1) := by decide +kernel
theorem dX4_must_9 : decode cX4_must 9 = .ok (.ifCond .lt 16, 3) := by decide +kernel
theorem dX4_must_12 : decode cX4_must 12 = .ok (.iload_n 2, 1) := by decide +kernel
theorem dX4_must_13 : decode cX4_must 13 = .ok (.aload_n 0, 1) := by decide +kernel
theorem dX4_must_14 : decode cX4_must 14 = .ok (.getfield 20, 3) := by decide +kernel
theorem dX4_must_17 : decode cX4_must 17 = .ok (.getfield 101, 3) := by decide +kernel
theorem dX4_must_20 : decode cX4_must 20 = .ok (.iload_n 1, 1) := by decide +kernel
theorem dX4_must_21 : decode cX4_must 21 = .ok (.iaload, 1) := by decide +kernel
theorem dX4_must_22 : decode cX4_must 22 = .ok (.if_icmp .le 6, 3) := by decide +kernel
theorem dX4_must_25 : decode cX4_must 25 = .ok (.ldc 46, 2) := by decide +kernel
theorem dX4_must_27 : decode cX4_must 27 = .ok (.ireturn, 1) := by decide +kernel
theorem dX4_must_28 : decode cX4_must 28 = .ok (.aload_n 0, 1) := by decide +kernel
theorem dX4_must_29 : decode cX4_must 29 = .ok (.invokevirtual 104, 3) := by decide +kernel
theorem dX4_must_32 : decode cX4_must 32 = .ok (.iload_n 1, 1) := by decide +kernel
theorem dX4_must_33 : decode cX4_must 33 = .ok (.iload_n 2, 1) := by decide +kernel
theorem dX4_must_34 : decode cX4_must 34 = .ok (.invokevirtual 148, 3) := by decide +kernel
theorem dX4_must_37 : decode cX4_must 37 = .ok (.ireturn, 1) := by decide +kernel
theorem dX4_span_0 : decode cX4_span 0 = .ok (.aload_n 0, 1) := by decide +kernel
theorem dX4_span_1 : decode cX4_span 1 = .ok (.iload_n 1, 1) := by decide +kernel
theorem dX4_span_2 : decode cX4_span 2 = .ok (.invokevirtual 65, 3) := by decide +kernel
theorem dX4_span_5 : decode cX4_span 5 = .ok (.ifCond .ne 6, 3) := by decide +kernel
theorem dX4_span_8 : decode cX4_span 8 = .ok (.ldc 46, 2) := by decide +kernel
theorem dX4_span_10 : decode cX4_span 10 = .ok (.ireturn, 1) := by decide +kernel
theorem dX4_span_11 : decode cX4_span 11 = .ok (.aload_n 0, 1) := by decide +kernel
theorem dX4_span_12 : decode cX4_span 12 = .ok (.invokevirtual 104, 3) := by decide +kernel
theorem dX4_span_15 : decode cX4_span 15 = .ok (.astore_n 3, 1) := by decide +kernel
theorem dX4_span_16 : decode cX4_span 16 = .ok (.iload_n 2, 1) := by decide +kernel
theorem dX4_span_17 : decode cX4_span 17 = .ok (.ifCond .eq 20, 3) := by decide +kernel
theorem dX4_span_20 : decode cX4_span 20 = .ok (.aload_n 3, 1) := by decide +kernel
theorem dX4_span_21 : decode cX4_span 21 = .ok (.iload_n 1, 1) := by decide +kernel
theorem dX4_span_22 : decode cX4_span 22 = .ok (.aload_n 0, 1) := by decide +kernel
theorem dX4_span_23 : decode cX4_span 23 = .ok (.getfield 20, 3) := by decide +kernel
theorem dX4_span_26 : decode cX4_span 26 = .ok (.getfield 98, 3) := by decide +kernel
theorem dX4_span_29 : decode cX4_span 29 = .ok (.iload_n 1, 1) := by decide +kernel
theorem dX4_span_30 : decode cX4_span 30 = .ok (.iaload, 1) := by decide +kernel
theorem dX4_span_31 : decode cX4_span 31 = .ok (.invokevirtual 151, 3) := by decide +kernel
theorem dX4_span_34 : decode cX4_span 34 = .ok (.goto 17, 3) := by decide +kernel
theorem dX4_span_37 : decode cX4_span 37 = .ok (.aload_n 3, 1) := by decide +kernel
theorem dX4_span_38 : decode cX4_span 38 = .ok (.iload_n 1, 1) := by decide +kernel
theorem dX4_span_39 : decode cX4_span 39 = .ok (.aload_n 0, 1) := by decide +kernel
theorem dX4_span_40 : decode cX4_span 40 = .ok (.getfield 20, 3) := by decide +kernel
theorem dX4_span_43 : decode cX4_span 43 = .ok (.getfield 98, 3) := by decide +kernel
theorem dX4_span_46 : decode cX4_span 46 = .ok (.iload_n 1, 1) := by decide +kernel
theorem dX4_span_47 : decode cX4_span 47 = .ok (.iaload, 1) := by decide +kernel
theorem dX4_span_48 : decode cX4_span 48 = .ok (.invokevirtual 154, 3) := by decide +kernel
theorem dX4_span_51 : decode cX4_span 51 = .ok (.ireturn, 1) := by decide +kernel
theorem dX4_put_0 : decode cX4_put 0 = .ok (.aload_n 0, 1) := by decide +kernel
theorem dX4_put_1 : decode cX4_put 1 = .ok (.iload_n 1, 1) := by decide +kernel
theorem dX4_put_2 : decode cX4_put 2 = .ok (.invokevirtual 65, 3) := by decide +kernel
theorem dX4_put_5 : decode cX4_put 5 = .ok (.ifCond .eq 10, 3) := by decide +kernel
theorem dX4_put_8 : decode cX4_put 8 = .ok (.iload_n 2, 1) := by decide +kernel
theorem dX4_put_9 : decode cX4_put 9 = .ok (.invokestatic 43, 3) := by decide +kernel
theorem dX4_put_12 : decode cX4_put 12 = .ok (.ifCond .ne 6, 3) := by decide +kernel
theorem dX4_put_15 : decode cX4_put 15 = .ok (.ldc 46, 2) := by decide +kernel
theorem dX4_put_17 : decode cX4_put 17 = .ok (.ireturn, 1) := by decide +kernel
theorem dX4_put_18 : decode cX4_put 18 = .ok (.aload_n 0, 1) := by decide +kernel
theorem dX4_put_19 : decode cX4_put 19 = .ok (.getfield 35, 3) := by decide +kernel
theorem dX4_put_22 : decode cX4_put 22 = .ok (.iload_n 1, 1) := by decide +kernel
theorem dX4_put_23 : decode cX4_put 23 = .ok (.iaload, 1) := by decide +kernel
theorem dX4_put_24 : decode cX4_put 24 = .ok (.istore_n 3, 1) := by decide +kernel
theorem dX4_put_25 : decode cX4_put 25 = .ok (.aload_n 0, 1) := by decide +kernel
theorem dX4_put_26 : decode cX4_put 26 = .ok (.getfield 35, 3) := by decide +kernel
theorem dX4_put_29 : decode cX4_put 29 = .ok (.iload_n 1, 1) := by decide +kernel
theorem dX4_put_30 : decode cX4_put 30 = .ok (.iload_n 2, 1) := by decide +kernel
theorem dX4_put_31 : decode cX4_put 31 = .ok (.iastore, 1) := by decide +kernel
theorem dX4_put_32 : decode cX4_put 32 = .ok (.iload_n 3, 1) := by decide +kernel
theorem dX4_put_33 : decode cX4_put 33 = .ok (.ireturn, 1) := by decide +kernel
theorem dX4_worth_0 : decode cX4_worth 0 = .ok (.aload_n 0, 1) := by decide +kernel
theorem dX4_worth_1 : decode cX4_worth 1 = .ok (.getfield 10, 3) := by decide +kernel
theorem dX4_worth_4 : decode cX4_worth 4 = .ok (.invokevirtual 126, 3) := by decide +kernel
theorem dX4_worth_7 : decode cX4_worth 7 = .ok (.aload_n 0, 1) := by decide +kernel
theorem dX4_worth_8 : decode cX4_worth 8 = .ok (.getfield 10, 3) := by decide +kernel
theorem dX4_worth_11 : decode cX4_worth 11 = .ok (.aload_n 0, 1) := by decide +kernel
theorem dX4_worth_12 : decode cX4_worth 12 = .ok (.getfield 35, 3) := by decide +kernel
theorem dX4_worth_15 : decode cX4_worth 15 = .ok (.invokevirtual 157, 3) := by decide +kernel
theorem dX4_worth_18 : decode cX4_worth 18 = .ok (.aload_n 0, 1) := by decide +kernel
theorem dX4_worth_19 : decode cX4_worth 19 = .ok (.getfield 10, 3) := by decide +kernel
theorem dX4_worth_22 : decode cX4_worth 22 = .ok (.getfield 161, 3) := by decide +kernel
theorem dX4_worth_25 : decode cX4_worth 25 = .ok (.ireturn, 1) := by decide +kernel
theorem dX4_broken_0 : decode cX4_broken 0 = .ok (.iconst 0, 1) := by decide +kernel
theorem dX4_broken_1 : decode cX4_broken 1 = .ok (.istore_n 1, 1) := by decide +kernel
theorem dX4_broken_2 : decode cX4_broken 2 = .ok (.iload_n 1, 1) := by decide +kernel
theorem dX4_broken_3 : decode cX4_broken 3 = .ok (.aload_n 0, 1) := by decide +kernel
theorem dX4_broken_4 : decode cX4_broken 4 = .ok (.getfield 20, 3) := by decide +kernel
theorem dX4_broken_7 : decode cX4_broken 7 = .ok (.getfield 47, 3) := by decide +kernel
theorem dX4_broken_10 : decode cX4_broken 10 = .ok (.if_icmp .ge 32, 3) := by decide +kernel
theorem dX4_broken_13 : decode cX4_broken 13 = .ok (.aload_n 0, 1) := by decide +kernel
theorem dX4_broken_14 : decode cX4_broken 14 = .ok (.getfield 35, 3) := by decide +kernel
theorem dX4_broken_17 : decode cX4_broken 17 = .ok (.iload_n 1, 1) := by decide +kernel
theorem dX4_broken_18 : decode cX4_broken 18 = .ok (.iaload, 1) := by decide +kernel
theorem dX4_broken_19 : decode cX4_broken 19 = .ok (.aload_n 0, 1) := by decide +kernel
theorem dX4_broken_20 : decode cX4_broken 20 = .ok (.getfield 20, 3) := by decide +kernel
theorem dX4_broken_23 : decode cX4_broken 23 = .ok (.getfield 101, 3) := by decide +kernel
theorem dX4_broken_26 : decode cX4_broken 26 = .ok (.iload_n 1, 1) := by decide +kernel
theorem dX4_broken_27 : decode cX4_broken 27 = .ok (.iaload, 1) := by decide +kernel
theorem dX4_broken_28 : decode cX4_broken 28 = .ok (.if_icmp .le 8, 3) := by decide +kernel
theorem dX4_broken_31 : decode cX4_broken 31 = .ok (.bipush 100, 2) := by decide +kernel
theorem dX4_broken_33 : decode cX4_broken 33 = .ok (.iload_n 1, 1) := by decide +kernel
theorem dX4_broken_34 : decode cX4_broken 34 = .ok (.iadd, 1) := by decide +kernel
theorem dX4_broken_35 : decode cX4_broken 35 = .ok (.ireturn, 1) := by decide +kernel
theorem dX4_broken_36 : decode cX4_broken 36 = .ok (.iinc 1 1, 3) := by decide +kernel
theorem dX4_broken_39 : decode cX4_broken 39 = .ok (.goto (-37), 3) := by decide +kernel
theorem dX4_broken_42 : decode cX4_broken 42 = .ok (.aload_n 0, 1) := by decide +kernel
theorem dX4_broken_43 : decode cX4_broken 43 = .ok (.getfield 10, 3) := by decide +kernel
theorem dX4_broken_46 : decode cX4_broken 46 = .ok (.invokevirtual 126, 3) := by decide +kernel
theorem dX4_broken_49 : decode cX4_broken 49 = .ok (.aload_n 0, 1) := by decide +kernel
theorem dX4_broken_50 : decode cX4_broken 50 = .ok (.getfield 10, 3) := by decide +kernel
theorem dX4_broken_53 : decode cX4_broken 53 = .ok (.aload_n 0, 1) := by decide +kernel
theorem dX4_broken_54 : decode cX4_broken 54 = .ok (.getfield 35, 3) := by decide +kernel
theorem dX4_broken_57 : decode cX4_broken 57 = .ok (.invokevirtual 157, 3) := by decide +kernel
theorem dX4_broken_60 : decode cX4_broken 60 = .ok (.aload_n 0, 1) := by decide +kernel
theorem dX4_broken_61 : decode cX4_broken 61 = .ok (.getfield 10, 3) := by decide +kernel
theorem dX4_broken_64 : decode cX4_broken 64 = .ok (.iconst 0, 1) := by decide +kernel
theorem dX4_broken_65 : decode cX4_broken 65 = .ok (.invokevirtual 164, 3) := by decide +kernel
theorem dX4_broken_68 : decode cX4_broken 68 = .ok (.ireturn, 1) := by decide +kernel
theorem dX4_share_0 : decode cX4_share 0 = .ok (.aload_n 0, 1) := by decide +kernel
theorem dX4_share_1 : decode cX4_share 1 = .ok (.invokevirtual 167, 3) := by decide +kernel
theorem dX4_share_4 : decode cX4_share 4 = .ok (.astore_n 2, 1) := by decide +kernel
theorem dX4_share_5 : decode cX4_share 5 = .ok (.aload_n 2, 1) := by decide +kernel
theorem dX4_share_6 : decode cX4_share 6 = .ok (.invokevirtual 171, 3) := by decide +kernel
theorem dX4_share_9 : decode cX4_share 9 = .ok (.istore_n 3, 1) := by decide +kernel
theorem dX4_share_10 : decode cX4_share 10 = .ok (.aload_n 2, 1) := by decide +kernel
theorem dX4_share_11 : decode cX4_share 11 = .ok (.getfield 174, 3) := by decide +kernel
theorem dX4_share_14 : decode cX4_share 14 = .ok (.iload_n 3, 1) := by decide +kernel
theorem dX4_share_15 : decode cX4_share 15 = .ok (.laload, 1) := by decide +kernel
theorem dX4_share_16 : decode cX4_share 16 = .ok (.aload_n 2, 1) := by decide +kernel
theorem dX4_share_17 : decode cX4_share 17 = .ok (.getfield 178, 3) := by decide +kernel
theorem dX4_share_20 : decode cX4_share 20 = .ok (.iload_n 3, 1) := by decide +kernel
theorem dX4_share_21 : decode cX4_share 21 = .ok (.laload, 1) := by decide +kernel
theorem dX4_share_22 : decode cX4_share 22 = .ok (.iload_n 1, 1) := by decide +kernel
theorem dX4_share_23 : decode cX4_share 23 = .ok (.invokestatic 181, 3) := by decide +kernel
theorem dX4_share_26 : decode cX4_share 26 = .ok (.lreturn, 1) := by decide +kernel
theorem dX4_sharePrice_0 : decode cX4_sharePrice 0 = .ok (.aload_n 0, 1) := by decide +kernel
theorem dX4_sharePrice_1 : decode cX4_sharePrice 1 = .ok (.iload_n 1, 1) := by decide +kernel
theorem dX4_sharePrice_2 : decode cX4_sharePrice 2 = .ok (.invokevirtual 78, 3) := by decide +kernel
theorem dX4_sharePrice_5 : decode cX4_sharePrice 5 = .ok (.ifCond .eq 16, 3) := by decide +kernel
theorem dX4_sharePrice_8 : decode cX4_sharePrice 8 = .ok (.aload_n 0, 1) := by decide +kernel
theorem dX4_sharePrice_9 : decode cX4_sharePrice 9 = .ok (.getfield 20, 3) := by decide +kernel
theorem dX4_sharePrice_12 : decode cX4_sharePrice 12 = .ok (.getfield 81, 3) := by decide +kernel
theorem dX4_sharePrice_15 : decode cX4_sharePrice 15 = .ok (.iload_n 1, 1) := by decide +kernel
theorem dX4_sharePrice_16 : decode cX4_sharePrice 16 = .ok (.iaload, 1) := by decide +kernel
theorem dX4_sharePrice_17 : decode cX4_sharePrice 17 = .ok (.iconst 2, 1) := by decide +kernel
theorem dX4_sharePrice_18 : decode cX4_sharePrice 18 = .ok (.if_icmp .ne 7, 3) := by decide +kernel
theorem dX4_sharePrice_21 : decode cX4_sharePrice 21 = .ok (.ldc2_w 185, 3) := by decide +kernel
theorem dX4_sharePrice_24 : decode cX4_sharePrice 24 = .ok (.lreturn, 1) := by decide +kernel
theorem dX4_sharePrice_25 : decode cX4_sharePrice 25 = .ok (.aload_n 0, 1) := by decide +kernel
theorem dX4_sharePrice_26 : decode cX4_sharePrice 26 = .ok (.getfield 20, 3) := by decide +kernel
theorem dX4_sharePrice_29 : decode cX4_sharePrice 29 = .ok (.getfield 91, 3) := by decide +kernel
theorem dX4_sharePrice_32 : decode cX4_sharePrice 32 = .ok (.iload_n 1, 1) := by decide +kernel
theorem dX4_sharePrice_33 : decode cX4_sharePrice 33 = .ok (.baload, 1) := by decide +kernel
theorem dX4_sharePrice_34 : decode cX4_sharePrice 34 = .ok (.ifCond .ne 13, 3) := by decide +kernel
theorem dX4_sharePrice_37 : decode cX4_sharePrice 37 = .ok (.iload_n 2, 1) := by decide +kernel
theorem dX4_sharePrice_38 : decode cX4_sharePrice 38 = .ok (.ifCond .eq 7, 3) := by decide +kernel
theorem dX4_sharePrice_41 : decode cX4_sharePrice 41 = .ok (.lconst 1, 1) := by decide +kernel
theorem dX4_sharePrice_42 : decode cX4_sharePrice 42 = .ok (.goto 4, 3) := by decide +kernel
theorem dX4_sharePrice_45 : decode cX4_sharePrice 45 = .ok (.lconst 0, 1) := by decide +kernel
theorem dX4_sharePrice_46 : decode cX4_sharePrice 46 = .ok (.lreturn, 1) := by decide +kernel
theorem dX4_sharePrice_47 : decode cX4_sharePrice 47 = .ok (.aload_n 0, 1) := by decide +kernel
theorem dX4_sharePrice_48 : decode cX4_sharePrice 48 = .ok (.invokevirtual 167, 3) := by decide +kernel
theorem dX4_sharePrice_51 : decode cX4_sharePrice 51 = .ok (.astore_n 3, 1) := by decide +kernel
theorem dX4_sharePrice_52 : decode cX4_sharePrice 52 = .ok (.aload_n 3, 1) := by decide +kernel
theorem dX4_sharePrice_53 : decode cX4_sharePrice 53 = .ok (.iload_n 1, 1) := by decide +kernel
theorem dX4_sharePrice_54 : decode cX4_sharePrice 54 = .ok (.invokevirtual 187, 3) := by decide +kernel
theorem dX4_sharePrice_57 : decode cX4_sharePrice 57 = .ok (.istore 4, 2) := by decide +kernel
theorem dX4_sharePrice_59 : decode cX4_sharePrice 59 = .ok (.aload_n 3, 1) := by decide +kernel
theorem dX4_sharePrice_60 : decode cX4_sharePrice 60 = .ok (.iload 4, 2) := by decide +kernel
theorem dX4_sharePrice_62 : decode cX4_sharePrice 62 = .ok (.iload_n 1, 1) := by decide +kernel
theorem dX4_sharePrice_63 : decode cX4_sharePrice 63 = .ok (.invokevirtual 190, 3) := by decide +kernel
theorem dX4_sharePrice_66 : decode cX4_sharePrice 66 = .ok (.aload_n 3, 1) := by decide +kernel
theorem dX4_sharePrice_67 : decode cX4_sharePrice 67 = .ok (.getfield 178, 3) := by decide +kernel
theorem dX4_sharePrice_70 : decode cX4_sharePrice 70 = .ok (.iload 4, 2) := by decide +kernel
theorem dX4_sharePrice_72 : decode cX4_sharePrice 72 = .ok (.laload, 1) := by decide +kernel
theorem dX4_sharePrice_73 : decode cX4_sharePrice 73 = .ok (.iload_n 2, 1) := by decide +kernel
theorem dX4_sharePrice_74 : decode cX4_sharePrice 74 = .ok (.invokestatic 181, 3) := by decide +kernel
theorem dX4_sharePrice_77 : decode cX4_sharePrice 77 = .ok (.lreturn, 1) := by decide +kernel
theorem dX4_holds_0 : decode cX4_holds 0 = .ok (.aload_n 0, 1) := by decide +kernel
theorem dX4_holds_1 : decode cX4_holds 1 = .ok (.iload_n 1, 1) := by decide +kernel
theorem dX4_holds_2 : decode cX4_holds 2 = .ok (.invokevirtual 78, 3) := by decide +kernel
theorem dX4_holds_5 : decode cX4_holds 5 = .ok (.ifCond .eq 16, 3) := by decide +kernel
theorem dX4_holds_8 : decode cX4_holds 8 = .ok (.aload_n 0, 1) := by decide +kernel
theorem dX4_holds_9 : decode cX4_holds 9 = .ok (.getfield 20, 3) := by decide +kernel
theorem dX4_holds_12 : decode cX4_holds 12 = .ok (.getfield 81, 3) := by decide +kernel
theorem dX4_holds_15 : decode cX4_holds 15 = .ok (.iload_n 1, 1) := by decide +kernel
theorem dX4_holds_16 : decode cX4_holds 16 = .ok (.iaload, 1) := by decide +kernel
theorem dX4_holds_17 : decode cX4_holds 17 = .ok (.iconst 2, 1) := by decide +kernel
theorem dX4_holds_18 : decode cX4_holds 18 = .ok (.if_icmp .ne 6, 3) := by decide +kernel
theorem dX4_holds_21 : decode cX4_holds 21 = .ok (.ldc 46, 2) := by decide +kernel
theorem dX4_holds_23 : decode cX4_holds 23 = .ok (.ireturn, 1) := by decide +kernel
theorem dX4_holds_24 : decode cX4_holds 24 = .ok (.aload_n 0, 1) := by decide +kernel
theorem dX4_holds_25 : decode cX4_holds 25 = .ok (.getfield 20, 3) := by decide +kernel
theorem dX4_holds_28 : decode cX4_holds 28 = .ok (.getfield 91, 3) := by decide +kernel
theorem dX4_holds_31 : decode cX4_holds 31 = .ok (.iload_n 1, 1) := by decide +kernel
theorem dX4_holds_32 : decode cX4_holds 32 = .ok (.baload, 1) := by decide +kernel
theorem dX4_holds_33 : decode cX4_holds 33 = .ok (.ifCond .ne 7, 3) := by decide +kernel
theorem dX4_holds_36 : decode cX4_holds 36 = .ok (.sipush 400, 3) := by decide +kernel
theorem dX4_holds_39 : decode cX4_holds 39 = .ok (.ireturn, 1) := by decide +kernel
theorem dX4_holds_40 : decode cX4_holds 40 = .ok (.aload_n 0, 1) := by decide +kernel
theorem dX4_holds_41 : decode cX4_holds 41 = .ok (.invokevirtual 167, 3) := by decide +kernel
theorem dX4_holds_44 : decode cX4_holds 44 = .ok (.astore_n 2, 1) := by decide +kernel
theorem dX4_holds_45 : decode cX4_holds 45 = .ok (.aload_n 2, 1) := by decide +kernel
theorem dX4_holds_46 : decode cX4_holds 46 = .ok (.aload_n 2, 1) := by decide +kernel
theorem dX4_holds_47 : decode cX4_holds 47 = .ok (.iload_n 1, 1) := by decide +kernel
theorem dX4_holds_48 : decode cX4_holds 48 = .ok (.invokevirtual 187, 3) := by decide +kernel
theorem dX4_holds_51 : decode cX4_holds 51 = .ok (.iload_n 1, 1) := by decide +kernel
theorem dX4_holds_52 : decode cX4_holds 52 = .ok (.invokevirtual 194, 3) := by decide +kernel
theorem dX4_holds_55 : decode cX4_holds 55 = .ok (.ireturn, 1) := by decide +kernel
theorem dX4_gap_0 : decode cX4_gap 0 = .ok (.aload_n 0, 1) := by decide +kernel
theorem dX4_gap_1 : decode cX4_gap 1 = .ok (.invokevirtual 167, 3) := by decide +kernel
theorem dX4_gap_4 : decode cX4_gap 4 = .ok (.astore_n 2, 1) := by decide +kernel
theorem dX4_gap_5 : decode cX4_gap 5 = .ok (.aload_n 2, 1) := by decide +kernel
theorem dX4_gap_6 : decode cX4_gap 6 = .ok (.invokevirtual 171, 3) := by decide +kernel
theorem dX4_gap_9 : decode cX4_gap 9 = .ok (.istore_n 3, 1) := by decide +kernel
theorem dX4_gap_10 : decode cX4_gap 10 = .ok (.aload_n 2, 1) := by decide +kernel
theorem dX4_gap_11 : decode cX4_gap 11 = .ok (.getfield 178, 3) := by decide +kernel
theorem dX4_gap_14 : decode cX4_gap 14 = .ok (.iload_n 3, 1) := by decide +kernel
theorem dX4_gap_15 : decode cX4_gap 15 = .ok (.laload, 1) := by decide +kernel
theorem dX4_gap_16 : decode cX4_gap 16 = .ok (.lstore 4, 2) := by decide +kernel
theorem dX4_gap_18 : decode cX4_gap 18 = .ok (.aload_n 2, 1) := by decide +kernel
theorem dX4_gap_19 : decode cX4_gap 19 = .ok (.getfield 174, 3) := by decide +kernel
theorem dX4_gap_22 : decode cX4_gap 22 = .ok (.iload_n 3, 1) := by decide +kernel
theorem dX4_gap_23 : decode cX4_gap 23 = .ok (.laload, 1) := by decide +kernel
theorem dX4_gap_24 : decode cX4_gap 24 = .ok (.lload 4, 2) := by decide +kernel
theorem dX4_gap_26 : decode cX4_gap 26 = .ok (.aload_n 0, 1) := by decide +kernel
theorem dX4_gap_27 : decode cX4_gap 27 = .ok (.invokevirtual 104, 3) := by decide +kernel
theorem dX4_gap_30 : decode cX4_gap 30 = .ok (.getfield 108, 3) := by decide +kernel
theorem dX4_gap_33 : decode cX4_gap 33 = .ok (.i2l, 1) := by decide +kernel
theorem dX4_gap_34 : decode cX4_gap 34 = .ok (.lmul, 1) := by decide +kernel
theorem dX4_gap_35 : decode cX4_gap 35 = .ok (.lsub, 1) := by decide +kernel
theorem dX4_gap_36 : decode cX4_gap 36 = .ok (.lload 4, 2) := by decide +kernel
theorem dX4_gap_38 : decode cX4_gap 38 = .ok (.iload_n 1, 1) := by decide +kernel
theorem dX4_gap_39 : decode cX4_gap 39 = .ok (.invokestatic 181, 3) := by decide +kernel
theorem dX4_gap_42 : decode cX4_gap 42 = .ok (.lreturn, 1) := by decide +kernel
theorem dX4_told_0 : decode cX4_told 0 = .ok (.iload_n 1, 1) := by decide +kernel
theorem dX4_told_1 : decode cX4_told 1 = .ok (.ifCond .ge 6, 3) := by decide +kernel
theorem dX4_told_4 : decode cX4_told 4 = .ok (.ldc 46, 2) := by decide +kernel
theorem dX4_told_6 : decode cX4_told 6 = .ok (.ireturn, 1) := by decide +kernel
theorem dX4_told_7 : decode cX4_told 7 = .ok (.iload_n 1, 1) := by decide +kernel
theorem dX4_told_8 : decode cX4_told 8 = .ok (.bipush 10, 2) := by decide +kernel
theorem dX4_told_10 : decode cX4_told 10 = .ok (.irem, 1) := by decide +kernel
theorem dX4_told_11 : decode cX4_told 11 = .ok (.istore_n 2, 1) := by decide +kernel
theorem dX4_told_12 : decode cX4_told 12 = .ok (.iload_n 1, 1) := by decide +kernel
theorem dX4_told_13 : decode cX4_told 13 = .ok (.bipush 10, 2) := by decide +kernel
theorem dX4_told_15 : decode cX4_told 15 = .ok (.idiv, 1) := by decide +kernel
theorem dX4_told_16 : decode cX4_told 16 = .ok (.tableswitch 134 0 4 #[36, 42, 65, 88, 111], 36) := by decide +kernel
theorem dX4_told_52 : decode cX4_told 52 = .ok (.aload_n 0, 1) := by decide +kernel
theorem dX4_told_53 : decode cX4_told 53 = .ok (.iload_n 2, 1) := by decide +kernel
theorem dX4_told_54 : decode cX4_told 54 = .ok (.invokevirtual 197, 3) := by decide +kernel
theorem dX4_told_57 : decode cX4_told 57 = .ok (.ireturn, 1) := by decide +kernel
theorem dX4_told_58 : decode cX4_told 58 = .ok (.aload_n 0, 1) := by decide +kernel
theorem dX4_told_59 : decode cX4_told 59 = .ok (.iload_n 2, 1) := by decide +kernel
theorem dX4_told_60 : decode cX4_told 60 = .ok (.invokevirtual 78, 3) := by decide +kernel
theorem dX4_told_63 : decode cX4_told 63 = .ok (.ifCond .eq 15, 3) := by decide +kernel
theorem dX4_told_66 : decode cX4_told 66 = .ok (.aload_n 0, 1) := by decide +kernel
theorem dX4_told_67 : decode cX4_told 67 = .ok (.getfield 20, 3) := by decide +kernel
theorem dX4_told_70 : decode cX4_told 70 = .ok (.getfield 81, 3) := by decide +kernel
theorem dX4_told_73 : decode cX4_told 73 = .ok (.iload_n 2, 1) := by decide +kernel
theorem dX4_told_74 : decode cX4_told 74 = .ok (.iaload, 1) := by decide +kernel
theorem dX4_told_75 : decode cX4_told 75 = .ok (.goto 5, 3) := by decide +kernel
theorem dX4_told_78 : decode cX4_told 78 = .ok (.ldc 46, 2) := by decide +kernel
theorem dX4_told_80 : decode cX4_told 80 = .ok (.ireturn, 1) := by decide +kernel
theorem dX4_told_81 : decode cX4_told 81 = .ok (.aload_n 0, 1) := by decide +kernel
theorem dX4_told_82 : decode cX4_told 82 = .ok (.iload_n 2, 1) := by decide +kernel
theorem dX4_told_83 : decode cX4_told 83 = .ok (.invokevirtual 78, 3) := by decide +kernel
theorem dX4_told_86 : decode cX4_told 86 = .ok (.ifCond .eq 15, 3) := by decide +kernel
theorem dX4_told_89 : decode cX4_told 89 = .ok (.aload_n 0, 1) := by decide +kernel
theorem dX4_told_90 : decode cX4_told 90 = .ok (.getfield 20, 3) := by decide +kernel
theorem dX4_told_93 : decode cX4_told 93 = .ok (.getfield 95, 3) := by decide +kernel
theorem dX4_told_96 : decode cX4_told 96 = .ok (.iload_n 2, 1) := by decide +kernel
theorem dX4_told_97 : decode cX4_told 97 = .ok (.iaload, 1) := by decide +kernel
theorem dX4_told_98 : decode cX4_told 98 = .ok (.goto 5, 3) := by decide +kernel
theorem dX4_told_101 : decode cX4_told 101 = .ok (.ldc 46, 2) := by decide +kernel
theorem dX4_told_103 : decode cX4_told 103 = .ok (.ireturn, 1) := by decide +kernel
theorem dX4_told_104 : decode cX4_told 104 = .ok (.aload_n 0, 1) := by decide +kernel
theorem dX4_told_105 : decode cX4_told 105 = .ok (.iload_n 2, 1) := by decide +kernel
theorem dX4_told_106 : decode cX4_told 106 = .ok (.invokevirtual 65, 3) := by decide +kernel
theorem dX4_told_109 : decode cX4_told 109 = .ok (.ifCond .eq 15, 3) := by decide +kernel
theorem dX4_told_112 : decode cX4_told 112 = .ok (.aload_n 0, 1) := by decide +kernel
theorem dX4_told_113 : decode cX4_told 113 = .ok (.getfield 20, 3) := by decide +kernel
theorem dX4_told_116 : decode cX4_told 116 = .ok (.getfield 98, 3) := by decide +kernel
theorem dX4_told_119 : decode cX4_told 119 = .ok (.iload_n 2, 1) := by decide +kernel
theorem dX4_told_120 : decode cX4_told 120 = .ok (.iaload, 1) := by decide +kernel
theorem dX4_told_121 : decode cX4_told 121 = .ok (.goto 5, 3) := by decide +kernel
theorem dX4_told_124 : decode cX4_told 124 = .ok (.ldc 46, 2) := by decide +kernel
theorem dX4_told_126 : decode cX4_told 126 = .ok (.ireturn, 1) := by decide +kernel
theorem dX4_told_127 : decode cX4_told 127 = .ok (.aload_n 0, 1) := by decide +kernel
theorem dX4_told_128 : decode cX4_told 128 = .ok (.iload_n 2, 1) := by decide +kernel
theorem dX4_told_129 : decode cX4_told 129 = .ok (.invokevirtual 65, 3) := by decide +kernel
theorem dX4_told_132 : decode cX4_told 132 = .ok (.ifCond .eq 15, 3) := by decide +kernel
theorem dX4_told_135 : decode cX4_told 135 = .ok (.aload_n 0, 1) := by decide +kernel
theorem dX4_told_136 : decode cX4_told 136 = .ok (.getfield 20, 3) := by decide +kernel
theorem dX4_told_139 : decode cX4_told 139 = .ok (.getfield 101, 3) := by decide +kernel
theorem dX4_told_142 : decode cX4_told 142 = .ok (.iload_n 2, 1) := by decide +kernel
theorem dX4_told_143 : decode cX4_told 143 = .ok (.iaload, 1) := by decide +kernel
theorem dX4_told_144 : decode cX4_told 144 = .ok (.goto 5, 3) := by decide +kernel
theorem dX4_told_147 : decode cX4_told 147 = .ok (.ldc 46, 2) := by decide +kernel
theorem dX4_told_149 : decode cX4_told 149 = .ok (.ireturn, 1) := by decide +kernel
theorem dX4_told_150 : decode cX4_told 150 = .ok (.ldc 46, 2) := by decide +kernel
theorem dX4_told_152 : decode cX4_told 152 = .ok (.ireturn, 1) := by decide +kernel
theorem dX4_toldCount_0 : decode cX4_toldCount 0 = .ok (.iload_n 1, 1) := by decide +kernel
theorem dX4_toldCount_1 : decode cX4_toldCount 1 = .ok (.tableswitch 51 0 2 #[27, 35, 43], 27) := by decide +kernel
theorem dX4_toldCount_28 : decode cX4_toldCount 28 = .ok (.aload_n 0, 1) := by decide +kernel
theorem dX4_toldCount_29 : decode cX4_toldCount 29 = .ok (.getfield 20, 3) := by decide +kernel
theorem dX4_toldCount_32 : decode cX4_toldCount 32 = .ok (.getfield 47, 3) := by decide +kernel
theorem dX4_toldCount_35 : decode cX4_toldCount 35 = .ok (.ireturn, 1) := by decide +kernel
theorem dX4_toldCount_36 : decode cX4_toldCount 36 = .ok (.aload_n 0, 1) := by decide +kernel
theorem dX4_toldCount_37 : decode cX4_toldCount 37 = .ok (.getfield 20, 3) := by decide +kernel
theorem dX4_toldCount_40 : decode cX4_toldCount 40 = .ok (.getfield 68, 3) := by decide +kernel
theorem dX4_toldCount_43 : decode cX4_toldCount 43 = .ok (.ireturn, 1) := by decide +kernel
theorem dX4_toldCount_44 : decode cX4_toldCount 44 = .ok (.aload_n 0, 1) := by decide +kernel
theorem dX4_toldCount_45 : decode cX4_toldCount 45 = .ok (.getfield 20, 3) := by decide +kernel
theorem dX4_toldCount_48 : decode cX4_toldCount 48 = .ok (.invokevirtual 200, 3) := by decide +kernel
theorem dX4_toldCount_51 : decode cX4_toldCount 51 = .ok (.ireturn, 1) := by decide +kernel
theorem dX4_toldCount_52 : decode cX4_toldCount 52 = .ok (.ldc 46, 2) := by decide +kernel
theorem dX4_toldCount_54 : decode cX4_toldCount 54 = .ok (.ireturn, 1) := by decide +kernel
theorem dX4_isThing_0 : decode cX4_isThing 0 = .ok (.iload_n 1, 1) := by decide +kernel
theorem dX4_isThing_1 : decode cX4_isThing 1 = .ok (.ifCond .lt 18, 3) := by decide +kernel
theorem dX4_isThing_4 : decode cX4_isThing 4 = .ok (.iload_n 1, 1) := by decide +kernel
theorem dX4_isThing_5 : decode cX4_isThing 5 = .ok (.aload_n 0, 1) := by decide +kernel
theorem dX4_isThing_6 : decode cX4_isThing 6 = .ok (.getfield 20, 3) := by decide +kernel
theorem dX4_isThing_9 : decode cX4_isThing 9 = .ok (.getfield 47, 3) := by decide +kernel
theorem dX4_isThing_12 : decode cX4_isThing 12 = .ok (.if_icmp .ge 7, 3) := by decide +kernel
theorem dX4_isThing_15 : decode cX4_isThing 15 = .ok (.iconst 1, 1) := by decide +kernel
theorem dX4_isThing_16 : decode cX4_isThing 16 = .ok (.goto 4, 3) := by decide +kernel
theorem dX4_isThing_19 : decode cX4_isThing 19 = .ok (.iconst 0, 1) := by decide +kernel
theorem dX4_isThing_20 : decode cX4_isThing 20 = .ok (.ireturn, 1) := by decide +kernel
theorem dX4_isRule_0 : decode cX4_isRule 0 = .ok (.iload_n 1, 1) := by decide +kernel
theorem dX4_isRule_1 : decode cX4_isRule 1 = .ok (.ifCond .lt 18, 3) := by decide +kernel
theorem dX4_isRule_4 : decode cX4_isRule 4 = .ok (.iload_n 1, 1) := by decide +kernel
theorem dX4_isRule_5 : decode cX4_isRule 5 = .ok (.aload_n 0, 1) := by decide +kernel
theorem dX4_isRule_6 : decode cX4_isRule 6 = .ok (.getfield 20, 3) := by decide +kernel
theorem dX4_isRule_9 : decode cX4_isRule 9 = .ok (.getfield 68, 3) := by decide +kernel
theorem dX4_isRule_12 : decode cX4_isRule 12 = .ok (.if_icmp .ge 7, 3) := by decide +kernel
theorem dX4_isRule_15 : decode cX4_isRule 15 = .ok (.iconst 1, 1) := by decide +kernel
theorem dX4_isRule_16 : decode cX4_isRule 16 = .ok (.goto 4, 3) := by decide +kernel
