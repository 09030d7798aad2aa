theorem dX5_look_74 : decode cX5_look 74 = .ok (.invokevirtual 119, 3) := by decide +kernel
theorem dX5_look_77 : decode cX5_look 77 = .ok (.ifCond .eq 7, 3) := by decide +kernel
theorem dX5_look_80 : decode cX5_look 80 = .ok (.aload_n 0, 1) := by decide +kernel
theorem dX5_look_81 : decode cX5_look 81 = .ok (.invokevirtual 123, 3) := by decide +kernel
theorem dX5_look_84 : decode cX5_look 84 = .ok (.aload_n 0, 1) := by decide +kernel
theorem dX5_look_85 : decode cX5_look 85 = .ok (.getfield 66, 3) := by decide +kernel
theorem dX5_look_88 : decode cX5_look 88 = .ok (.iconst 1, 1) := by decide +kernel
theorem dX5_look_89 : decode cX5_look 89 = .ok (.isub, 1) := by decide +kernel
theorem dX5_look_90 : decode cX5_look 90 = .ok (.istore 4, 2) := by decide +kernel
theorem dX5_look_92 : decode cX5_look 92 = .ok (.iload 4, 2) := by decide +kernel
theorem dX5_look_94 : decode cX5_look 94 = .ok (.ifCond .lt 50, 3) := by decide +kernel
theorem dX5_look_97 : decode cX5_look 97 = .ok (.iload 4, 2) := by decide +kernel
theorem dX5_look_99 : decode cX5_look 99 = .ok (.iload_n 1, 1) := by decide +kernel
theorem dX5_look_100 : decode cX5_look 100 = .ok (.if_icmp .eq 20, 3) := by decide +kernel
theorem dX5_look_103 : decode cX5_look 103 = .ok (.aload_n 0, 1) := by decide +kernel
theorem dX5_look_104 : decode cX5_look 104 = .ok (.getfield 38, 3) := by decide +kernel
theorem dX5_look_107 : decode cX5_look 107 = .ok (.iload 4, 2) := by decide +kernel
theorem dX5_look_109 : decode cX5_look 109 = .ok (.iaload, 1) := by decide +kernel
theorem dX5_look_110 : decode cX5_look 110 = .ok (.aload_n 0, 1) := by decide +kernel
theorem dX5_look_111 : decode cX5_look 111 = .ok (.getfield 13, 3) := by decide +kernel
theorem dX5_look_114 : decode cX5_look 114 = .ok (.iload 4, 2) := by decide +kernel
theorem dX5_look_116 : decode cX5_look 116 = .ok (.iaload, 1) := by decide +kernel
theorem dX5_look_117 : decode cX5_look 117 = .ok (.if_icmp .ne 27, 3) := by decide +kernel
theorem dX5_look_120 : decode cX5_look 120 = .ok (.aload_n 0, 1) := by decide +kernel
theorem dX5_look_121 : decode cX5_look 121 = .ok (.getfield 38, 3) := by decide +kernel
theorem dX5_look_124 : decode cX5_look 124 = .ok (.iload 4, 2) := by decide +kernel
theorem dX5_look_126 : decode cX5_look 126 = .ok (.iload 4, 2) := by decide +kernel
theorem dX5_look_128 : decode cX5_look 128 = .ok (.iload_n 1, 1) := by decide +kernel
theorem dX5_look_129 : decode cX5_look 129 = .ok (.if_icmp .ne 7, 3) := by decide +kernel
theorem dX5_look_132 : decode cX5_look 132 = .ok (.iload_n 2, 1) := by decide +kernel
theorem dX5_look_133 : decode cX5_look 133 = .ok (.goto 4, 3) := by decide +kernel
theorem dX5_look_136 : decode cX5_look 136 = .ok (.iconst 0, 1) := by decide +kernel
theorem dX5_look_137 : decode cX5_look 137 = .ok (.iastore, 1) := by decide +kernel
theorem dX5_look_138 : decode cX5_look 138 = .ok (.iinc 4 (-1), 3) := by decide +kernel
theorem dX5_look_141 : decode cX5_look 141 = .ok (.goto (-49), 3) := by decide +kernel
theorem dX5_look_144 : decode cX5_look 144 = .ok (.iload 4, 2) := by decide +kernel
theorem dX5_look_146 : decode cX5_look 146 = .ok (.ifCond .lt 7, 3) := by decide +kernel
theorem dX5_look_149 : decode cX5_look 149 = .ok (.iconst 1, 1) := by decide +kernel
theorem dX5_look_150 : decode cX5_look 150 = .ok (.goto 4, 3) := by decide +kernel
theorem dX5_look_153 : decode cX5_look 153 = .ok (.iconst 0, 1) := by decide +kernel
theorem dX5_look_154 : decode cX5_look 154 = .ok (.istore_n 3, 1) := by decide +kernel
theorem dX5_look_155 : decode cX5_look 155 = .ok (.iload_n 3, 1) := by decide +kernel
theorem dX5_look_156 : decode cX5_look 156 = .ok (.ifCond .eq 14, 3) := by decide +kernel
theorem dX5_look_159 : decode cX5_look 159 = .ok (.aload_n 0, 1) := by decide +kernel
theorem dX5_look_160 : decode cX5_look 160 = .ok (.getfield 38, 3) := by decide +kernel
theorem dX5_look_163 : decode cX5_look 163 = .ok (.iload 4, 2) := by decide +kernel
theorem dX5_look_165 : decode cX5_look 165 = .ok (.dup2, 1) := by decide +kernel
theorem dX5_look_166 : decode cX5_look 166 = .ok (.iaload, 1) := by decide +kernel
theorem dX5_look_167 : decode cX5_look 167 = .ok (.iconst 1, 1) := by decide +kernel
theorem dX5_look_168 : decode cX5_look 168 = .ok (.iadd, 1) := by decide +kernel
theorem dX5_look_169 : decode cX5_look 169 = .ok (.iastore, 1) := by decide +kernel
theorem dX5_look_170 : decode cX5_look 170 = .ok (.goto (-115), 3) := by decide +kernel
theorem dX5_look_173 : decode cX5_look 173 = .ok (.return_, 1) := by decide +kernel
theorem dX5_take_0 : decode cX5_take 0 = .ok (.aload_n 0, 1) := by decide +kernel
theorem dX5_take_1 : decode cX5_take 1 = .ok (.dup, 1) := by decide +kernel
theorem dX5_take_2 : decode cX5_take 2 = .ok (.getfield 113, 3) := by decide +kernel
theorem dX5_take_5 : decode cX5_take 5 = .ok (.iconst 1, 1) := by decide +kernel
theorem dX5_take_6 : decode cX5_take 6 = .ok (.iadd, 1) := by decide +kernel
theorem dX5_take_7 : decode cX5_take 7 = .ok (.putfield 113, 3) := by decide +kernel
theorem dX5_take_10 : decode cX5_take 10 = .ok (.aload_n 0, 1) := by decide +kernel
theorem dX5_take_11 : decode cX5_take 11 = .ok (.aload_n 0, 1) := by decide +kernel
theorem dX5_take_12 : decode cX5_take 12 = .ok (.getfield 38, 3) := by decide +kernel
theorem dX5_take_15 : decode cX5_take 15 = .ok (.invokevirtual 126, 3) := by decide +kernel
theorem dX5_take_18 : decode cX5_take 18 = .ok (.istore_n 1, 1) := by decide +kernel
theorem dX5_take_19 : decode cX5_take 19 = .ok (.iload_n 1, 1) := by decide +kernel
theorem dX5_take_20 : decode cX5_take 20 = .ok (.aload_n 0, 1) := by decide +kernel
theorem dX5_take_21 : decode cX5_take 21 = .ok (.getfield 107, 3) := by decide +kernel
theorem dX5_take_24 : decode cX5_take 24 = .ok (.if_icmp .ge 4, 3) := by decide +kernel
theorem dX5_take_27 : decode cX5_take 27 = .ok (.return_, 1) := by decide +kernel
theorem dX5_take_28 : decode cX5_take 28 = .ok (.iload_n 1, 1) := by decide +kernel
theorem dX5_take_29 : decode cX5_take 29 = .ok (.aload_n 0, 1) := by decide +kernel
theorem dX5_take_30 : decode cX5_take 30 = .ok (.getfield 107, 3) := by decide +kernel
theorem dX5_take_33 : decode cX5_take 33 = .ok (.if_icmp .le 7, 3) := by decide +kernel
theorem dX5_take_36 : decode cX5_take 36 = .ok (.iconst 1, 1) := by decide +kernel
theorem dX5_take_37 : decode cX5_take 37 = .ok (.goto 4, 3) := by decide +kernel
theorem dX5_take_40 : decode cX5_take 40 = .ok (.iconst 0, 1) := by decide +kernel
theorem dX5_take_41 : decode cX5_take 41 = .ok (.istore_n 2, 1) := by decide +kernel
theorem dX5_take_42 : decode cX5_take 42 = .ok (.aload_n 0, 1) := by decide +kernel
theorem dX5_take_43 : decode cX5_take 43 = .ok (.iload_n 1, 1) := by decide +kernel
theorem dX5_take_44 : decode cX5_take 44 = .ok (.putfield 107, 3) := by decide +kernel
theorem dX5_take_47 : decode cX5_take 47 = .ok (.aload_n 0, 1) := by decide +kernel
theorem dX5_take_48 : decode cX5_take 48 = .ok (.iload_n 2, 1) := by decide +kernel
theorem dX5_take_49 : decode cX5_take 49 = .ok (.ifCond .eq 7, 3) := by decide +kernel
theorem dX5_take_52 : decode cX5_take 52 = .ok (.iconst 1, 1) := by decide +kernel
theorem dX5_take_53 : decode cX5_take 53 = .ok (.goto 9, 3) := by decide +kernel
theorem dX5_take_56 : decode cX5_take 56 = .ok (.aload_n 0, 1) := by decide +kernel
theorem dX5_take_57 : decode cX5_take 57 = .ok (.getfield 110, 3) := by decide +kernel
theorem dX5_take_60 : decode cX5_take 60 = .ok (.iconst 1, 1) := by decide +kernel
theorem dX5_take_61 : decode cX5_take 61 = .ok (.iadd, 1) := by decide +kernel
theorem dX5_take_62 : decode cX5_take 62 = .ok (.putfield 110, 3) := by decide +kernel
theorem dX5_take_65 : decode cX5_take 65 = .ok (.iconst 0, 1) := by decide +kernel
theorem dX5_take_66 : decode cX5_take 66 = .ok (.istore_n 3, 1) := by decide +kernel
theorem dX5_take_67 : decode cX5_take 67 = .ok (.iload_n 3, 1) := by decide +kernel
theorem dX5_take_68 : decode cX5_take 68 = .ok (.aload_n 0, 1) := by decide +kernel
theorem dX5_take_69 : decode cX5_take 69 = .ok (.getfield 66, 3) := by decide +kernel
theorem dX5_take_72 : decode cX5_take 72 = .ok (.if_icmp .ge 73, 3) := by decide +kernel
theorem dX5_take_75 : decode cX5_take 75 = .ok (.aload_n 0, 1) := by decide +kernel
theorem dX5_take_76 : decode cX5_take 76 = .ok (.getfield 41, 3) := by decide +kernel
theorem dX5_take_79 : decode cX5_take 79 = .ok (.iload_n 3, 1) := by decide +kernel
theorem dX5_take_80 : decode cX5_take 80 = .ok (.iload_n 2, 1) := by decide +kernel
theorem dX5_take_81 : decode cX5_take 81 = .ok (.ifCond .eq 12, 3) := by decide +kernel
theorem dX5_take_84 : decode cX5_take 84 = .ok (.aload_n 0, 1) := by decide +kernel
theorem dX5_take_85 : decode cX5_take 85 = .ok (.getfield 38, 3) := by decide +kernel
theorem dX5_take_88 : decode cX5_take 88 = .ok (.iload_n 3, 1) := by decide +kernel
theorem dX5_take_89 : decode cX5_take 89 = .ok (.iaload, 1) := by decide +kernel
theorem dX5_take_90 : decode cX5_take 90 = .ok (.goto 9, 3) := by decide +kernel
theorem dX5_take_93 : decode cX5_take 93 = .ok (.aload_n 0, 1) := by decide +kernel
theorem dX5_take_94 : decode cX5_take 94 = .ok (.getfield 41, 3) := by decide +kernel
theorem dX5_take_97 : decode cX5_take 97 = .ok (.iload_n 3, 1) := by decide +kernel
theorem dX5_take_98 : decode cX5_take 98 = .ok (.iaload, 1) := by decide +kernel
theorem dX5_take_99 : decode cX5_take 99 = .ok (.iastore, 1) := by decide +kernel
theorem dX5_take_100 : decode cX5_take 100 = .ok (.aload_n 0, 1) := by decide +kernel
theorem dX5_take_101 : decode cX5_take 101 = .ok (.getfield 44, 3) := by decide +kernel
theorem dX5_take_104 : decode cX5_take 104 = .ok (.iload_n 3, 1) := by decide +kernel
theorem dX5_take_105 : decode cX5_take 105 = .ok (.iload_n 2, 1) := by decide +kernel
theorem dX5_take_106 : decode cX5_take 106 = .ok (.ifCond .ne 27, 3) := by decide +kernel
theorem dX5_take_109 : decode cX5_take 109 = .ok (.aload_n 0, 1) := by decide +kernel
theorem dX5_take_110 : decode cX5_take 110 = .ok (.getfield 44, 3) := by decide +kernel
theorem dX5_take_113 : decode cX5_take 113 = .ok (.iload_n 3, 1) := by decide +kernel
theorem dX5_take_114 : decode cX5_take 114 = .ok (.baload, 1) := by decide +kernel
theorem dX5_take_115 : decode cX5_take 115 = .ok (.ifCond .eq 22, 3) := by decide +kernel
theorem dX5_take_118 : decode cX5_take 118 = .ok (.aload_n 0, 1) := by decide +kernel
theorem dX5_take_119 : decode cX5_take 119 = .ok (.getfield 38, 3) := by decide +kernel
theorem dX5_take_122 : decode cX5_take 122 = .ok (.iload_n 3, 1) := by decide +kernel
theorem dX5_take_123 : decode cX5_take 123 = .ok (.iaload, 1) := by decide +kernel
theorem dX5_take_124 : decode cX5_take 124 = .ok (.aload_n 0, 1) := by decide +kernel
theorem dX5_take_125 : decode cX5_take 125 = .ok (.getfield 41, 3) := by decide +kernel
theorem dX5_take_128 : decode cX5_take 128 = .ok (.iload_n 3, 1) := by decide +kernel
theorem dX5_take_129 : decode cX5_take 129 = .ok (.iaload, 1) := by decide +kernel
theorem dX5_take_130 : decode cX5_take 130 = .ok (.if_icmp .ne 7, 3) := by decide +kernel
theorem dX5_take_133 : decode cX5_take 133 = .ok (.iconst 1, 1) := by decide +kernel
theorem dX5_take_134 : decode cX5_take 134 = .ok (.goto 4, 3) := by decide +kernel
theorem dX5_take_137 : decode cX5_take 137 = .ok (.iconst 0, 1) := by decide +kernel
theorem dX5_take_138 : decode cX5_take 138 = .ok (.bastore, 1) := by decide +kernel
theorem dX5_take_139 : decode cX5_take 139 = .ok (.iinc 3 1, 3) := by decide +kernel
theorem dX5_take_142 : decode cX5_take 142 = .ok (.goto (-75), 3) := by decide +kernel
theorem dX5_take_145 : decode cX5_take 145 = .ok (.return_, 1) := by decide +kernel
theorem dX5_value_0 : decode cX5_value 0 = .ok (.aload_n 0, 1) := by decide +kernel
theorem dX5_value_1 : decode cX5_value 1 = .ok (.ldc 106, 2) := by decide +kernel
theorem dX5_value_3 : decode cX5_value 3 = .ok (.iconst 0, 1) := by decide +kernel
theorem dX5_value_4 : decode cX5_value 4 = .ok (.invokevirtual 130, 3) := by decide +kernel
theorem dX5_value_7 : decode cX5_value 7 = .ok (.aload_n 0, 1) := by decide +kernel
theorem dX5_value_8 : decode cX5_value 8 = .ok (.getfield 107, 3) := by decide +kernel
theorem dX5_value_11 : decode cX5_value 11 = .ok (.ireturn, 1) := by decide +kernel
theorem dX5_counted_0 : decode cX5_counted 0 = .ok (.aload_n 0, 1) := by decide +kernel
theorem dX5_counted_1 : decode cX5_counted 1 = .ok (.ldc 106, 2) := by decide +kernel
theorem dX5_counted_3 : decode cX5_counted 3 = .ok (.iconst 0, 1) := by decide +kernel
theorem dX5_counted_4 : decode cX5_counted 4 = .ok (.invokevirtual 130, 3) := by decide +kernel
theorem dX5_counted_7 : decode cX5_counted 7 = .ok (.iload_n 1, 1) := by decide +kernel
theorem dX5_counted_8 : decode cX5_counted 8 = .ok (.ifCond .ne 10, 3) := by decide +kernel
theorem dX5_counted_11 : decode cX5_counted 11 = .ok (.aload_n 0, 1) := by decide +kernel
theorem dX5_counted_12 : decode cX5_counted 12 = .ok (.getfield 110, 3) := by decide +kernel
theorem dX5_counted_15 : decode cX5_counted 15 = .ok (.goto 29, 3) := by decide +kernel
theorem dX5_counted_18 : decode cX5_counted 18 = .ok (.iload_n 1, 1) := by decide +kernel
theorem dX5_counted_19 : decode cX5_counted 19 = .ok (.iconst 1, 1) := by decide +kernel
theorem dX5_counted_20 : decode cX5_counted 20 = .ok (.if_icmp .ne 10, 3) := by decide +kernel
theorem dX5_counted_23 : decode cX5_counted 23 = .ok (.aload_n 0, 1) := by decide +kernel
theorem dX5_counted_24 : decode cX5_counted 24 = .ok (.getfield 113, 3) := by decide +kernel
theorem dX5_counted_27 : decode cX5_counted 27 = .ok (.goto 17, 3) := by decide +kernel
theorem dX5_counted_30 : decode cX5_counted 30 = .ok (.iload_n 1, 1) := by decide +kernel
theorem dX5_counted_31 : decode cX5_counted 31 = .ok (.iconst 2, 1) := by decide +kernel
theorem dX5_counted_32 : decode cX5_counted 32 = .ok (.if_icmp .ne 10, 3) := by decide +kernel
theorem dX5_counted_35 : decode cX5_counted 35 = .ok (.aload_n 0, 1) := by decide +kernel
theorem dX5_counted_36 : decode cX5_counted 36 = .ok (.getfield 116, 3) := by decide +kernel
theorem dX5_counted_39 : decode cX5_counted 39 = .ok (.goto 5, 3) := by decide +kernel
theorem dX5_counted_42 : decode cX5_counted 42 = .ok (.ldc 85, 2) := by decide +kernel
theorem dX5_counted_44 : decode cX5_counted 44 = .ok (.ireturn, 1) := by decide +kernel
theorem dX5_first_0 : decode cX5_first 0 = .ok (.aload_n 0, 1) := by decide +kernel
theorem dX5_first_1 : decode cX5_first 1 = .ok (.iload_n 1, 1) := by decide +kernel
theorem dX5_first_2 : decode cX5_first 2 = .ok (.invokevirtual 93, 3) := by decide +kernel
theorem dX5_first_5 : decode cX5_first 5 = .ok (.ifCond .ne 6, 3) := by decide +kernel
theorem dX5_first_8 : decode cX5_first 8 = .ok (.ldc 85, 2) := by decide +kernel
theorem dX5_first_10 : decode cX5_first 10 = .ok (.ireturn, 1) := by decide +kernel
theorem dX5_first_11 : decode cX5_first 11 = .ok (.aload_n 0, 1) := by decide +kernel
theorem dX5_first_12 : decode cX5_first 12 = .ok (.ldc 106, 2) := by decide +kernel
theorem dX5_first_14 : decode cX5_first 14 = .ok (.iconst 0, 1) := by decide +kernel
theorem dX5_first_15 : decode cX5_first 15 = .ok (.invokevirtual 130, 3) := by decide +kernel
theorem dX5_first_18 : decode cX5_first 18 = .ok (.aload_n 0, 1) := by decide +kernel
theorem dX5_first_19 : decode cX5_first 19 = .ok (.getfield 41, 3) := by decide +kernel
theorem dX5_first_22 : decode cX5_first 22 = .ok (.iload_n 1, 1) := by decide +kernel
theorem dX5_first_23 : decode cX5_first 23 = .ok (.iaload, 1) := by decide +kernel
theorem dX5_first_24 : decode cX5_first 24 = .ok (.ireturn, 1) := by decide +kernel
theorem dX5_fast_0 : decode cX5_fast 0 = .ok (.aload_n 0, 1) := by decide +kernel
theorem dX5_fast_1 : decode cX5_fast 1 = .ok (.iload_n 1, 1) := by decide +kernel
theorem dX5_fast_2 : decode cX5_fast 2 = .ok (.invokevirtual 93, 3) := by decide +kernel
theorem dX5_fast_5 : decode cX5_fast 5 = .ok (.ifCond .ne 6, 3) := by decide +kernel
theorem dX5_fast_8 : decode cX5_fast 8 = .ok (.ldc 85, 2) := by decide +kernel
theorem dX5_fast_10 : decode cX5_fast 10 = .ok (.ireturn, 1) := by decide +kernel
theorem dX5_fast_11 : decode cX5_fast 11 = .ok (.aload_n 0, 1) := by decide +kernel
theorem dX5_fast_12 : decode cX5_fast 12 = .ok (.ldc 106, 2) := by decide +kernel
theorem dX5_fast_14 : decode cX5_fast 14 = .ok (.iconst 0, 1) := by decide +kernel
theorem dX5_fast_15 : decode cX5_fast 15 = .ok (.invokevirtual 130, 3) := by decide +kernel
theorem dX5_fast_18 : decode cX5_fast 18 = .ok (.aload_n 0, 1) := by decide +kernel
theorem dX5_fast_19 : decode cX5_fast 19 = .ok (.getfield 44, 3) := by decide +kernel
theorem dX5_fast_22 : decode cX5_fast 22 = .ok (.iload_n 1, 1) := by decide +kernel
theorem dX5_fast_23 : decode cX5_fast 23 = .ok (.baload, 1) := by decide +kernel
theorem dX5_fast_24 : decode cX5_fast 24 = .ok (.ifCond .eq 7, 3) := by decide +kernel
theorem dX5_fast_27 : decode cX5_fast 27 = .ok (.iconst 1, 1) := by decide +kernel
theorem dX5_fast_28 : decode cX5_fast 28 = .ok (.goto 4, 3) := by decide +kernel
theorem dX5_fast_31 : decode cX5_fast 31 = .ok (.iconst 0, 1) := by decide +kernel
theorem dX5_fast_32 : decode cX5_fast 32 = .ok (.ireturn, 1) := by decide +kernel
theorem dX5_price_0 : decode cX5_price 0 = .ok (.aload_n 0, 1) := by decide +kernel
theorem dX5_price_1 : decode cX5_price 1 = .ok (.iload_n 1, 1) := by decide +kernel
theorem dX5_price_2 : decode cX5_price 2 = .ok (.invokevirtual 97, 3) := by decide +kernel
theorem dX5_price_5 : decode cX5_price 5 = .ok (.ifCond .eq 25, 3) := by decide +kernel
theorem dX5_price_8 : decode cX5_price 8 = .ok (.aload_n 0, 1) := by decide +kernel
theorem dX5_price_9 : decode cX5_price 9 = .ok (.getfield 16, 3) := by decide +kernel
theorem dX5_price_12 : decode cX5_price 12 = .ok (.iload_n 1, 1) := by decide +kernel
theorem dX5_price_13 : decode cX5_price 13 = .ok (.iaload, 1) := by decide +kernel
theorem dX5_price_14 : decode cX5_price 14 = .ok (.aload_n 0, 1) := by decide +kernel
theorem dX5_price_15 : decode cX5_price 15 = .ok (.getfield 25, 3) := by decide +kernel
theorem dX5_price_18 : decode cX5_price 18 = .ok (.iload_n 1, 1) := by decide +kernel
theorem dX5_price_19 : decode cX5_price 19 = .ok (.iaload, 1) := by decide +kernel
theorem dX5_price_20 : decode cX5_price 20 = .ok (.i2l, 1) := by decide +kernel
theorem dX5_price_21 : decode cX5_price 21 = .ok (.iload_n 2, 1) := by decide +kernel
theorem dX5_price_22 : decode cX5_price 22 = .ok (.i2l, 1) := by decide +kernel
theorem dX5_price_23 : decode cX5_price 23 = .ok (.ladd, 1) := by decide +kernel
theorem dX5_price_24 : decode cX5_price 24 = .ok (.invokestatic 89, 3) := by decide +kernel
theorem dX5_price_27 : decode cX5_price 27 = .ok (.ifCond .ne 6, 3) := by decide +kernel
theorem dX5_price_30 : decode cX5_price 30 = .ok (.ldc 85, 2) := by decide +kernel
theorem dX5_price_32 : decode cX5_price 32 = .ok (.ireturn, 1) := by decide +kernel
theorem dX5_price_33 : decode cX5_price 33 = .ok (.aload_n 0, 1) := by decide +kernel
theorem dX5_price_34 : decode cX5_price 34 = .ok (.invokevirtual 134, 3) := by decide +kernel
theorem dX5_price_37 : decode cX5_price 37 = .ok (.istore_n 3, 1) := by decide +kernel
theorem dX5_price_38 : decode cX5_price 38 = .ok (.aload_n 0, 1) := by decide +kernel
theorem dX5_price_39 : decode cX5_price 39 = .ok (.getfield 25, 3) := by decide +kernel
theorem dX5_price_42 : decode cX5_price 42 = .ok (.iload_n 1, 1) := by decide +kernel
theorem dX5_price_43 : decode cX5_price 43 = .ok (.dup2, 1) := by decide +kernel
theorem dX5_price_44 : decode cX5_price 44 = .ok (.iaload, 1) := by decide +kernel
theorem dX5_price_45 : decode cX5_price 45 = .ok (.iload_n 2, 1) := by decide +kernel
theorem dX5_price_46 : decode cX5_price 46 = .ok (.iadd, 1) := by decide +kernel
theorem dX5_price_47 : decode cX5_price 47 = .ok (.iastore, 1) := by decide +kernel
theorem dX5_price_48 : decode cX5_price 48 = .ok (.aload_n 0, 1) := by decide +kernel
theorem dX5_price_49 : decode cX5_price 49 = .ok (.invokevirtual 134, 3) := by decide +kernel
theorem dX5_price_52 : decode cX5_price 52 = .ok (.istore 4, 2) := by decide +kernel
theorem dX5_price_54 : decode cX5_price 54 = .ok (.aload_n 0, 1) := by decide +kernel
theorem dX5_price_55 : decode cX5_price 55 = .ok (.getfield 25, 3) := by decide +kernel
theorem dX5_price_58 : decode cX5_price 58 = .ok (.iload_n 1, 1) := by decide +kernel
theorem dX5_price_59 : decode cX5_price 59 = .ok (.dup2, 1) := by decide +kernel
theorem dX5_price_60 : decode cX5_price 60 = .ok (.iaload, 1) := by decide +kernel
theorem dX5_price_61 : decode cX5_price 61 = .ok (.iload_n 2, 1) := by decide +kernel
theorem dX5_price_62 : decode cX5_price 62 = .ok (.isub, 1) := by decide +kernel
theorem dX5_price_63 : decode cX5_price 63 = .ok (.iastore, 1) := by decide +kernel
theorem dX5_price_64 : decode cX5_price 64 = .ok (.iload 4, 2) := by decide +kernel
theorem dX5_price_66 : decode cX5_price 66 = .ok (.iload_n 3, 1) := by decide +kernel
theorem dX5_price_67 : decode cX5_price 67 = .ok (.isub, 1) := by decide +kernel
theorem dX5_price_68 : decode cX5_price 68 = .ok (.ireturn, 1) := by decide +kernel
theorem dX5_weight_0 : decode cX5_weight 0 = .ok (.aload_n 0, 1) := by decide +kernel
theorem dX5_weight_1 : decode cX5_weight 1 = .ok (.iload_n 1, 1) := by decide +kernel
theorem dX5_weight_2 : decode cX5_weight 2 = .ok (.invokevirtual 97, 3) := by decide +kernel
theorem dX5_weight_5 : decode cX5_weight 5 = .ok (.ifCond .ne 6, 3) := by decide +kernel
theorem dX5_weight_8 : decode cX5_weight 8 = .ok (.ldc 85, 2) := by decide +kernel
theorem dX5_weight_10 : decode cX5_weight 10 = .ok (.ireturn, 1) := by decide +kernel
theorem dX5_weight_11 : decode cX5_weight 11 = .ok (.aload_n 0, 1) := by decide +kernel
theorem dX5_weight_12 : decode cX5_weight 12 = .ok (.invokevirtual 134, 3) := by decide +kernel
theorem dX5_weight_15 : decode cX5_weight 15 = .ok (.istore_n 2, 1) := by decide +kernel
theorem dX5_weight_16 : decode cX5_weight 16 = .ok (.aload_n 0, 1) := by decide +kernel
theorem dX5_weight_17 : decode cX5_weight 17 = .ok (.getfield 28, 3) := by decide +kernel
theorem dX5_weight_20 : decode cX5_weight 20 = .ok (.iload_n 1, 1) := by decide +kernel
theorem dX5_weight_21 : decode cX5_weight 21 = .ok (.baload, 1) := by decide +kernel
theorem dX5_weight_22 : decode cX5_weight 22 = .ok (.istore_n 3, 1) := by decide +kernel
theorem dX5_weight_23 : decode cX5_weight 23 = .ok (.aload_n 0, 1) := by decide +kernel
theorem dX5_weight_24 : decode cX5_weight 24 = .ok (.getfield 28, 3) := by decide +kernel
theorem dX5_weight_27 : decode cX5_weight 27 = .ok (.iload_n 1, 1) := by decide +kernel
theorem dX5_weight_28 : decode cX5_weight 28 = .ok (.iconst 0, 1) := by decide +kernel
theorem dX5_weight_29 : decode cX5_weight 29 = .ok (.bastore, 1) := by decide +kernel
theorem dX5_weight_30 : decode cX5_weight 30 = .ok (.aload_n 0, 1) := by decide +kernel
theorem dX5_weight_31 : decode cX5_weight 31 = .ok (.invokevirtual 134, 3) := by decide +kernel
theorem dX5_weight_34 : decode cX5_weight 34 = .ok (.istore 4, 2) := by decide +kernel
theorem dX5_weight_36 : decode cX5_weight 36 = .ok (.aload_n 0, 1) := by decide +kernel
theorem dX5_weight_37 : decode cX5_weight 37 = .ok (.getfield 28, 3) := by decide +kernel
theorem dX5_weight_40 : decode cX5_weight 40 = .ok (.iload_n 1, 1) := by decide +kernel
theorem dX5_weight_41 : decode cX5_weight 41 = .ok (.iload_n 3, 1) := by decide +kernel
theorem dX5_weight_42 : decode cX5_weight 42 = .ok (.bastore, 1) := by decide +kernel
theorem dX5_weight_43 : decode cX5_weight 43 = .ok (.iload 4, 2) := by decide +kernel
theorem dX5_weight_45 : decode cX5_weight 45 = .ok (.iload_n 2, 1) := by decide +kernel
theorem dX5_weight_46 : decode cX5_weight 46 = .ok (.isub, 1) := by decide +kernel
theorem dX5_weight_47 : decode cX5_weight 47 = .ok (.ireturn, 1) := by decide +kernel
theorem dX5_rank_0 : decode cX5_rank 0 = .ok (.aload_n 0, 1) := by decide +kernel
theorem dX5_rank_1 : decode cX5_rank 1 = .ok (.iload_n 1, 1) := by decide +kernel
theorem dX5_rank_2 : decode cX5_rank 2 = .ok (.invokevirtual 97, 3) := by decide +kernel
theorem dX5_rank_5 : decode cX5_rank 5 = .ok (.ifCond .ne 6, 3) := by decide +kernel
theorem dX5_rank_8 : decode cX5_rank 8 = .ok (.ldc 85, 2) := by decide +kernel
theorem dX5_rank_10 : decode cX5_rank 10 = .ok (.ireturn, 1) := by decide +kernel
theorem dX5_rank_11 : decode cX5_rank 11 = .ok (.iconst 0, 1) := by decide +kernel
theorem dX5_rank_12 : decode cX5_rank 12 = .ok (.istore_n 2, 1) := by decide +kernel
theorem dX5_rank_13 : decode cX5_rank 13 = .ok (.iload_n 2, 1) := by decide +kernel
theorem dX5_rank_14 : decode cX5_rank 14 = .ok (.aload_n 0, 1) := by decide +kernel
theorem dX5_rank_15 : decode cX5_rank 15 = .ok (.getfield 74, 3) := by decide +kernel
theorem dX5_rank_18 : decode cX5_rank 18 = .ok (.if_icmp .ge 20, 3) := by decide +kernel
theorem dX5_rank_21 : decode cX5_rank 21 = .ok (.aload_n 0, 1) := by decide +kernel
theorem dX5_rank_22 : decode cX5_rank 22 = .ok (.getfield 47, 3) := by decide +kernel
theorem dX5_rank_25 : decode cX5_rank 25 = .ok (.iload_n 2, 1) := by decide +kernel
theorem dX5_rank_26 : decode cX5_rank 26 = .ok (.aload_n 0, 1) := by decide +kernel
theorem dX5_rank_27 : decode cX5_rank 27 = .ok (.iload_n 2, 1) := by decide +kernel
theorem dX5_rank_28 : decode cX5_rank 28 = .ok (.invokevirtual 138, 3) := by decide +kernel
theorem dX5_rank_31 : decode cX5_rank 31 = .ok (.iastore, 1) := by decide +kernel
theorem dX5_rank_32 : decode cX5_rank 32 = .ok (.iinc 2 1, 3) := by decide +kernel
theorem dX5_rank_35 : decode cX5_rank 35 = .ok (.goto (-22), 3) := by decide +kernel
theorem dX5_rank_38 : decode cX5_rank 38 = .ok (.iconst 0, 1) := by decide +kernel
theorem dX5_rank_39 : decode cX5_rank 39 = .ok (.istore_n 2, 1) := by decide +kernel
theorem dX5_rank_40 : decode cX5_rank 40 = .ok (.iload_n 2, 1) := by decide +kernel
theorem dX5_rank_41 : decode cX5_rank 41 = .ok (.aload_n 0, 1) := by decide +kernel
theorem dX5_rank_42 : decode cX5_rank 42 = .ok (.getfield 74, 3) := by decide +kernel
theorem dX5_rank_45 : decode cX5_rank 45 = .ok (.if_icmp .ge 82, 3) := by decide +kernel
theorem dX5_rank_48 : decode cX5_rank 48 = .ok (.iconst 0, 1) := by decide +kernel
theorem dX5_rank_49 : decode cX5_rank 49 = .ok (.istore_n 3, 1) := by decide +kernel
theorem dX5_rank_50 : decode cX5_rank 50 = .ok (.iconst 0, 1) := by decide +kernel
theorem dX5_rank_51 : decode cX5_rank 51 = .ok (.istore 4, 2) := by decide +kernel
theorem dX5_rank_53 : decode cX5_rank 53 = .ok (.iload 4, 2) := by decide +kernel
theorem dX5_rank_55 : decode cX5_rank 55 = .ok (.aload_n 0, 1) := by decide +kernel
theorem dX5_rank_56 : decode cX5_rank 56 = .ok (.getfield 74, 3) := by decide +kernel
theorem dX5_rank_59 : decode cX5_rank 59 = .ok (.if_icmp .ge 55, 3) := by decide +kernel
theorem dX5_rank_62 : decode cX5_rank 62 = .ok (.iload_n 3, 1) := by decide +kernel
theorem dX5_rank_63 : decode cX5_rank 63 = .ok (.aload_n 0, 1) := by decide +kernel
theorem dX5_rank_64 : decode cX5_rank 64 = .ok (.getfield 47, 3) := by decide +kernel
theorem dX5_rank_67 : decode cX5_rank 67 = .ok (.iload 4, 2) := by decide +kernel
theorem dX5_rank_69 : decode cX5_rank 69 = .ok (.iaload, 1) := by decide +kernel
theorem dX5_rank_70 : decode cX5_rank 70 = .ok (.aload_n 0, 1) := by decide +kernel
theorem dX5_rank_71 : decode cX5_rank 71 = .ok (.getfield 47, 3) := by decide +kernel
theorem dX5_rank_74 : decode cX5_rank 74 = .ok (.iload_n 2, 1) := by decide +kernel
theorem dX5_rank_75 : decode cX5_rank 75 = .ok (.iaload, 1) := by decide +kernel
theorem dX5_rank_76 : decode cX5_rank 76 = .ok (.if_icmp .gt 25, 3) := by decide +kernel
theorem dX5_rank_79 : decode cX5_rank 79 = .ok (.aload_n 0, 1) := by decide +kernel
theorem dX5_rank_80 : decode cX5_rank 80 = .ok (.getfield 47, 3) := by decide +kernel
theorem dX5_rank_83 : decode cX5_rank 83 = .ok (.iload 4, 2) := by decide +kernel
theorem dX5_rank_85 : decode cX5_rank 85 = .ok (.iaload, 1) := by decide +kernel
theorem dX5_rank_86 : decode cX5_rank 86 = .ok (.aload_n 0, 1) := by decide +kernel
theorem dX5_rank_87 : decode cX5_rank 87 = .ok (.getfield 47, 3) := by decide +kernel
theorem dX5_rank_90 : decode cX5_rank 90 = .ok (.iload_n 2, 1) := by decide +kernel
theorem dX5_rank_91 : decode cX5_rank 91 = .ok (.iaload, 1) := by decide +kernel
theorem dX5_rank_92 : decode cX5_rank 92 = .ok (.if_icmp .ne 13, 3) := by decide +kernel
theorem dX5_rank_95 : decode cX5_rank 95 = .ok (.iload 4, 2) := by decide +kernel
theorem dX5_rank_97 : decode cX5_rank 97 = .ok (.iload_n 2, 1) := by decide +kernel
theorem dX5_rank_98 : decode cX5_rank 98 = .ok (.if_icmp .ge 7, 3) := by decide +kernel
theorem dX5_rank_101 : decode cX5_rank 101 = .ok (.iconst 1, 1) := by decide +kernel
theorem dX5_rank_102 : decode cX5_rank 102 = .ok (.goto 4, 3) := by decide +kernel
theorem dX5_rank_105 : decode cX5_rank 105 = .ok (.iconst 0, 1) := by decide +kernel
theorem dX5_rank_106 : decode cX5_rank 106 = .ok (.iadd, 1) := by decide +kernel
theorem dX5_rank_107 : decode cX5_rank 107 = .ok (.istore_n 3, 1) := by decide +kernel
theorem dX5_rank_108 : decode cX5_rank 108 = .ok (.iinc 4 1, 3) := by decide +kernel
theorem dX5_rank_111 : decode cX5_rank 111 = .ok (.goto (-58), 3) := by decide +kernel
theorem dX5_rank_114 : decode cX5_rank 114 = .ok (.iload_n 3, 1) := by decide +kernel
theorem dX5_rank_115 : decode cX5_rank 115 = .ok (.iload_n 1, 1) := by decide +kernel
theorem dX5_rank_116 : decode cX5_rank 116 = .ok (.if_icmp .ne 5, 3) := by decide +kernel
theorem dX5_rank_119 : decode cX5_rank 119 = .ok (.iload_n 2, 1) := by decide +kernel
theorem dX5_rank_120 : decode cX5_rank 120 = .ok (.ireturn, 1) := by decide +kernel
theorem dX5_rank_121 : decode cX5_rank 121 = .ok (.iinc 2 1, 3) := by decide +kernel
theorem dX5_rank_124 : decode cX5_rank 124 = .ok (.goto (-84), 3) := by decide +kernel
theorem dX5_rank_127 : decode cX5_rank 127 = .ok (.ldc 85, 2) := by decide +kernel
theorem dX5_rank_129 : decode cX5_rank 129 = .ok (.ireturn, 1) := by decide +kernel
theorem dX5_more_0 : decode cX5_more 0 = .ok (.aload_n 0, 1) := by decide +kernel
theorem dX5_more_1 : decode cX5_more 1 = .ok (.iload_n 1, 1) := by decide +kernel
theorem dX5_more_2 : decode cX5_more 2 = .ok (.invokevirtual 93, 3) := by decide +kernel
theorem dX5_more_5 : decode cX5_more 5 = .ok (.ifCond .eq 14, 3) := by decide +kernel
theorem dX5_more_8 : decode cX5_more 8 = .ok (.aload_n 0, 1) := by decide +kernel
theorem dX5_more_9 : decode cX5_more 9 = .ok (.getfield 13, 3) := by decide +kernel
theorem dX5_more_12 : decode cX5_more 12 = .ok (.iload_n 1, 1) := by decide +kernel
theorem dX5_more_13 : decode cX5_more 13 = .ok (.iaload, 1) := by decide +kernel
theorem dX5_more_14 : decode cX5_more 14 = .ok (.bipush 9, 2) := by decide +kernel
theorem dX5_more_16 : decode cX5_more 16 = .ok (.if_icmp .ne 6, 3) := by decide +kernel
theorem dX5_more_19 : decode cX5_more 19 = .ok (.ldc 85, 2) := by decide +kernel
theorem dX5_more_21 : decode cX5_more 21 = .ok (.ireturn, 1) := by decide +kernel
theorem dX5_more_22 : decode cX5_more 22 = .ok (.aload_n 0, 1) := by decide +kernel
theorem dX5_more_23 : decode cX5_more 23 = .ok (.invokevirtual 134, 3) := by decide +kernel
theorem dX5_more_26 : decode cX5_more 26 = .ok (.istore_n 2, 1) := by decide +kernel
theorem dX5_more_27 : decode cX5_more 27 = .ok (.aload_n 0, 1) := by decide +kernel
theorem dX5_more_28 : decode cX5_more 28 = .ok (.getfield 13, 3) := by decide +kernel
theorem dX5_more_31 : decode cX5_more 31 = .ok (.iload_n 1, 1) := by decide +kernel
theorem dX5_more_32 : decode cX5_more 32 = .ok (.dup2, 1) := by decide +kernel
theorem dX5_more_33 : decode cX5_more 33 = .ok (.iaload, 1) := by decide +kernel
theorem dX5_more_34 : decode cX5_more 34 = .ok (.iconst 1, 1) := by decide +kernel
theorem dX5_more_35 : decode cX5_more 35 = .ok (.iadd, 1) := by decide +kernel
theorem dX5_more_36 : decode cX5_more 36 = .ok (.iastore, 1) := by decide +kernel
theorem dX5_more_37 : decode cX5_more 37 = .ok (.aload_n 0, 1) := by decide +kernel
theorem dX5_more_38 : decode cX5_more 38 = .ok (.invokevirtual 134, 3) := by decide +kernel
theorem dX5_more_41 : decode cX5_more 41 = .ok (.istore_n 3, 1) := by decide +kernel
theorem dX5_more_42 : decode cX5_more 42 = .ok (.aload_n 0, 1) := by decide +kernel
theorem dX5_more_43 : decode cX5_more 43 = .ok (.getfield 13, 3) := by decide +kernel
theorem dX5_more_46 : decode cX5_more 46 = .ok (.iload_n 1, 1) := by decide +kernel
theorem dX5_more_47 : decode cX5_more 47 = .ok (.dup2, 1) := by decide +kernel
theorem dX5_more_48 : decode cX5_more 48 = .ok (.iaload, 1) := by decide +kernel
theorem dX5_more_49 : decode cX5_more 49 = .ok (.iconst 1, 1) := by decide +kernel
theorem dX5_more_50 : decode cX5_more 50 = .ok (.isub, 1) := by decide +kernel
theorem dX5_more_51 : decode cX5_more 51 = .ok (.iastore, 1) := by decide +kernel
theorem dX5_more_52 : decode cX5_more 52 = .ok (.iload_n 3, 1) := by decide +kernel
theorem dX5_more_53 : decode cX5_more 53 = .ok (.iload_n 2, 1) := by decide +kernel
theorem dX5_more_54 : decode cX5_more 54 = .ok (.isub, 1) := by decide +kernel
theorem dX5_more_55 : decode cX5_more 55 = .ok (.ireturn, 1) := by decide +kernel
theorem dX5_must_0 : decode cX5_must 0 = .ok (.aload_n 0, 1) := by decide +kernel
theorem dX5_must_1 : decode cX5_must 1 = .ok (.iload_n 1, 1) := by decide +kernel
theorem dX5_must_2 : decode cX5_must 2 = .ok (.invokevirtual 93, 3) := by decide +kernel
theorem dX5_must_5 : decode cX5_must 5 = .ok (.ifCond .eq 19, 3) := by decide +kernel
theorem dX5_must_8 : decode cX5_must 8 = .ok (.iload_n 2, 1) := by decide +kernel
theorem dX5_must_9 : decode cX5_must 9 = .ok (.i2l, 1) := by decide +kernel
theorem dX5_must_10 : decode cX5_must 10 = .ok (.lconst 0, 1) := by decide +kernel
theorem dX5_must_11 : decode cX5_must 11 = .ok (.aload_n 0, 1) := by decide +kernel
theorem dX5_must_12 : decode cX5_must 12 = .ok (.getfield 13, 3) := by decide +kernel
theorem dX5_must_15 : decode cX5_must 15 = .ok (.iload_n 1, 1) := by decide +kernel
theorem dX5_must_16 : decode cX5_must 16 = .ok (.iaload, 1) := by decide +kernel
theorem dX5_must_17 : decode cX5_must 17 = .ok (.i2l, 1) := by decide +kernel
theorem dX5_must_18 : decode cX5_must 18 = .ok (.invokestatic 70, 3) := by decide +kernel
theorem dX5_must_21 : decode cX5_must 21 = .ok (.ifCond .ne 6, 3) := by decide +kernel
theorem dX5_must_24 : decode cX5_must 24 = .ok (.ldc 85, 2) := by decide +kernel
theorem dX5_must_26 : decode cX5_must 26 = .ok (.ireturn, 1) := by decide +kernel
theorem dX5_must_27 : decode cX5_must 27 = .ok (.aload_n 0, 1) := by decide +kernel
theorem dX5_must_28 : decode cX5_must 28 = .ok (.iload_n 1, 1) := by decide +kernel
theorem dX5_must_29 : decode cX5_must 29 = .ok (.iload_n 2, 1) := by decide +kernel
theorem dX5_must_30 : decode cX5_must 30 = .ok (.invokevirtual 130, 3) := by decide +kernel
theorem dX5_must_33 : decode cX5_must 33 = .ok (.aload_n 0, 1) := by decide +kernel
theorem dX5_must_34 : decode cX5_must 34 = .ok (.getfield 107, 3) := by decide +kernel
theorem dX5_must_37 : decode cX5_must 37 = .ok (.ireturn, 1) := by decide +kernel
theorem dX5_floor_0 : decode cX5_floor 0 = .ok (.iload_n 0, 1) := by decide +kernel
theorem dX5_floor_1 : decode cX5_floor 1 = .ok (.iload_n 1, 1) := by decide +kernel
theorem dX5_floor_2 : decode cX5_floor 2 = .ok (.irem, 1) := by decide +kernel
theorem dX5_floor_3 : decode cX5_floor 3 = .ok (.ifCond .ge 11, 3) := by decide +kernel
theorem dX5_floor_6 : decode cX5_floor 6 = .ok (.iload_n 0, 1) := by decide +kernel
theorem dX5_floor_7 : decode cX5_floor 7 = .ok (.iload_n 1, 1) := by decide +kernel
theorem dX5_floor_8 : decode cX5_floor 8 = .ok (.idiv, 1) := by decide +kernel
theorem dX5_floor_9 : decode cX5_floor 9 = .ok (.iconst 1, 1) := by decide +kernel
theorem dX5_floor_10 : decode cX5_floor 10 = .ok (.isub, 1) := by decide +kernel
theorem dX5_floor_11 : decode cX5_floor 11 = .ok (.goto 6, 3) := by decide +kernel
theorem dX5_floor_14 : decode cX5_floor 14 = .ok (.iload_n 0, 1) := by decide +kernel
theorem dX5_floor_15 : decode cX5_floor 15 = .ok (.iload_n 1, 1) := by decide +kernel
theorem dX5_floor_16 : decode cX5_floor 16 = .ok (.idiv, 1) := by decide +kernel
theorem dX5_floor_17 : decode cX5_floor 17 = .ok (.ireturn, 1) := by decide +kernel
theorem dX5_span_0 : decode cX5_span 0 = .ok (.aload_n 0, 1) := by decide +kernel
theorem dX5_span_1 : decode cX5_span 1 = .ok (.iload_n 1, 1) := by decide +kernel
theorem dX5_span_2 : decode cX5_span 2 = .ok (.invokevirtual 93, 3) := by decide +kernel
theorem dX5_span_5 : decode cX5_span 5 = .ok (.ifCond .ne 6, 3) := by decide +kernel
theorem dX5_span_8 : decode cX5_span 8 = .ok (.ldc 85, 2) := by decide +kernel
theorem dX5_span_10 : decode cX5_span 10 = .ok (.ireturn, 1) := by decide +kernel
theorem dX5_span_11 : decode cX5_span 11 = .ok (.aload_n 0, 1) := by decide +kernel
theorem dX5_span_12 : decode cX5_span 12 = .ok (.ldc 106, 2) := by decide +kernel
theorem dX5_span_14 : decode cX5_span 14 = .ok (.iconst 0, 1) := by decide +kernel
theorem dX5_span_15 : decode cX5_span 15 = .ok (.invokevirtual 130, 3) := by decide +kernel
theorem dX5_span_18 : decode cX5_span 18 = .ok (.aload_n 0, 1) := by decide +kernel
theorem dX5_span_19 : decode cX5_span 19 = .ok (.getfield 41, 3) := by decide +kernel
theorem dX5_span_22 : decode cX5_span 22 = .ok (.iload_n 1, 1) := by decide +kernel
theorem dX5_span_23 : decode cX5_span 23 = .ok (.iaload, 1) := by decide +kernel
theorem dX5_span_24 : decode cX5_span 24 = .ok (.istore_n 3, 1) := by decide +kernel
theorem dX5_span_25 : decode cX5_span 25 = .ok (.aload_n 0, 1) := by decide +kernel
theorem dX5_span_26 : decode cX5_span 26 = .ok (.getfield 107, 3) := by decide +kernel
theorem dX5_span_29 : decode cX5_span 29 = .ok (.aload_n 0, 1) := by decide +kernel
theorem dX5_span_30 : decode cX5_span 30 = .ok (.getfield 7, 3) := by decide +kernel
theorem dX5_span_33 : decode cX5_span 33 = .ok (.iload_n 1, 1) := by decide +kernel
theorem dX5_span_34 : decode cX5_span 34 = .ok (.iaload, 1) := by decide +kernel
theorem dX5_span_35 : decode cX5_span 35 = .ok (.iload_n 3, 1) := by decide +kernel
theorem dX5_span_36 : decode cX5_span 36 = .ok (.imul, 1) := by decide +kernel
theorem dX5_span_37 : decode cX5_span 37 = .ok (.isub, 1) := by decide +kernel
theorem dX5_span_38 : decode cX5_span 38 = .ok (.istore 4, 2) := by decide +kernel
theorem dX5_span_40 : decode cX5_span 40 = .ok (.ldc 106, 2) := by decide +kernel
theorem dX5_span_42 : decode cX5_span 42 = .ok (.istore 5, 2) := by decide +kernel
theorem dX5_span_44 : decode cX5_span 44 = .ok (.iconst 0, 1) := by decide +kernel
theorem dX5_span_45 : decode cX5_span 45 = .ok (.istore 6, 2) := by decide +kernel
theorem dX5_span_47 : decode cX5_span 47 = .ok (.iload 6, 2) := by decide +kernel
theorem dX5_span_49 : decode cX5_span 49 = .ok (.aload_n 0, 1) := by decide +kernel
theorem dX5_span_50 : decode cX5_span 50 = .ok (.getfield 13, 3) := by decide +kernel
theorem dX5_span_53 : decode cX5_span 53 = .ok (.iload_n 1, 1) := by decide +kernel
theorem dX5_span_54 : decode cX5_span 54 = .ok (.iaload, 1) := by decide +kernel
theorem dX5_span_55 : decode cX5_span 55 = .ok (.if_icmp .gt 136, 3) := by decide +kernel
theorem dX5_span_58 : decode cX5_span 58 = .ok (.aload_n 0, 1) := by decide +kernel
theorem dX5_span_59 : decode cX5_span 59 = .ok (.iload_n 1, 1) := by decide +kernel
theorem dX5_span_60 : decode cX5_span 60 = .ok (.iload 6, 2) := by decide +kernel
theorem dX5_span_62 : decode cX5_span 62 = .ok (.invokevirtual 130, 3) := by decide +kernel
theorem dX5_span_65 : decode cX5_span 65 = .ok (.aload_n 0, 1) := by decide +kernel
theorem dX5_span_66 : decode cX5_span 66 = .ok (.getfield 107, 3) := by decide +kernel
theorem dX5_span_69 : decode cX5_span 69 = .ok (.ldc 106, 2) := by decide +kernel
theorem dX5_span_71 : decode cX5_span 71 = .ok (.if_icmp .eq 114, 3) := by decide +kernel
theorem dX5_span_74 : decode cX5_span 74 = .ok (.iload 6, 2) := by decide +kernel
theorem dX5_span_76 : decode cX5_span 76 = .ok (.iload_n 3, 1) := by decide +kernel
theorem dX5_span_77 : decode cX5_span 77 = .ok (.if_icmp .eq 108, 3) := by decide +kernel
theorem dX5_span_80 : decode cX5_span 80 = .ok (.iload 6, 2) := by decide +kernel
theorem dX5_span_82 : decode cX5_span 82 = .ok (.iload_n 3, 1) := by decide +kernel
theorem dX5_span_83 : decode cX5_span 83 = .ok (.if_icmp .le 7, 3) := by decide +kernel
theorem dX5_span_86 : decode cX5_span 86 = .ok (.iconst 1, 1) := by decide +kernel
theorem dX5_span_87 : decode cX5_span 87 = .ok (.goto 4, 3) := by decide +kernel
theorem dX5_span_90 : decode cX5_span 90 = .ok (.iconst 0, 1) := by decide +kernel
theorem dX5_span_91 : decode cX5_span 91 = .ok (.iload_n 2, 1) := by decide +kernel
theorem dX5_span_92 : decode cX5_span 92 = .ok (.if_icmp .eq 6, 3) := by decide +kernel
theorem dX5_span_95 : decode cX5_span 95 = .ok (.goto 90, 3) := by decide +kernel
theorem dX5_span_98 : decode cX5_span 98 = .ok (.aload_n 0, 1) := by decide +kernel
theorem dX5_span_99 : decode cX5_span 99 = .ok (.getfield 107, 3) := by decide +kernel
theorem dX5_span_102 : decode cX5_span 102 = .ok (.aload_n 0, 1) := by decide +kernel
theorem dX5_span_103 : decode cX5_span 103 = .ok (.getfield 7, 3) := by decide +kernel
theorem dX5_span_106 : decode cX5_span 106 = .ok (.iload_n 1, 1) := by decide +kernel
theorem dX5_span_107 : decode cX5_span 107 = .ok (.iaload, 1) := by decide +kernel
theorem dX5_span_108 : decode cX5_span 108 = .ok (.iload 6, 2) := by decide +kernel
theorem dX5_span_110 : decode cX5_span 110 = .ok (.imul, 1) := by decide +kernel
theorem dX5_span_111 : decode cX5_span 111 = .ok (.isub, 1) := by decide +kernel
theorem dX5_span_112 : decode cX5_span 112 = .ok (.istore 7, 2) := by decide +kernel
theorem dX5_span_114 : decode cX5_span 114 = .ok (.iload_n 2, 1) := by decide +kernel
theorem dX5_span_115 : decode cX5_span 115 = .ok (.ifCond .eq 18, 3) := by decide +kernel
theorem dX5_span_118 : decode cX5_span 118 = .ok (.iload 4, 2) := by decide +kernel
theorem dX5_span_120 : decode cX5_span 120 = .ok (.iload 7, 2) := by decide +kernel
theorem dX5_span_122 : decode cX5_span 122 = .ok (.isub, 1) := by decide +kernel
theorem dX5_span_123 : decode cX5_span 123 = .ok (.iload 6, 2) := by decide +kernel
theorem dX5_span_125 : decode cX5_span 125 = .ok (.iload_n 3, 1) := by decide +kernel
theorem dX5_span_126 : decode cX5_span 126 = .ok (.isub, 1) := by decide +kernel
theorem dX5_span_127 : decode cX5_span 127 = .ok (.invokestatic 142, 3) := by decide +kernel
theorem dX5_span_130 : decode cX5_span 130 = .ok (.goto 16, 3) := by decide +kernel
theorem dX5_span_133 : decode cX5_span 133 = .ok (.iload 4, 2) := by decide +kernel
theorem dX5_span_135 : decode cX5_span 135 = .ok (.iload 7, 2) := by decide +kernel
theorem dX5_span_137 : decode cX5_span 137 = .ok (.isub, 1) := by decide +kernel
theorem dX5_span_138 : decode cX5_span 138 = .ok (.iload_n 3, 1) := by decide +kernel
theorem dX5_span_139 : decode cX5_span 139 = .ok (.iload 6, 2) := by decide +kernel
theorem dX5_span_141 : decode cX5_span 141 = .ok (.isub, 1) := by decide +kernel
theorem dX5_span_142 : decode cX5_span 142 = .ok (.invokestatic 142, 3) := by decide +kernel
theorem dX5_span_145 : decode cX5_span 145 = .ok (.ineg, 1) := by decide +kernel
theorem dX5_span_146 : decode cX5_span 146 = .ok (.istore 8, 2) := by decide +kernel
theorem dX5_span_148 : decode cX5_span 148 = .ok (.iload 5, 2) := by decide +kernel
theorem dX5_span_150 : decode cX5_span 150 = .ok (.ldc 106, 2) := by decide +kernel
theorem dX5_span_152 : decode cX5_span 152 = .ok (.if_icmp .eq 24, 3) := by decide +kernel
theorem dX5_span_155 : decode cX5_span 155 = .ok (.iload_n 2, 1) := by decide +kernel
theorem dX5_span_156 : decode cX5_span 156 = .ok (.ifCond .eq 13, 3) := by decide +kernel
theorem dX5_span_159 : decode cX5_span 159 = .ok (.iload 8, 2) := by decide +kernel
theorem dX5_span_161 : decode cX5_span 161 = .ok (.iload 5, 2) := by decide +kernel
theorem dX5_span_163 : decode cX5_span 163 = .ok (.if_icmp .ge 18, 3) := by decide +kernel
theorem dX5_span_166 : decode cX5_span 166 = .ok (.goto 10, 3) := by decide +kernel
theorem dX5_span_169 : decode cX5_span 169 = .ok (.iload 8, 2) := by decide +kernel
theorem dX5_span_171 : decode cX5_span 171 = .ok (.iload 5, 2) := by decide +kernel
theorem dX5_span_173 : decode cX5_span 173 = .ok (.if_icmp .le 8, 3) := by decide +kernel
theorem dX5_span_176 : decode cX5_span 176 = .ok (.iload 8, 2) := by decide +kernel
theorem dX5_span_178 : decode cX5_span 178 = .ok (.goto 5, 3) := by decide +kernel
theorem dX5_span_181 : decode cX5_span 181 = .ok (.iload 5, 2) := by decide +kernel
theorem dX5_span_183 : decode cX5_span 183 = .ok (.istore 5, 2) := by decide +kernel
theorem dX5_span_185 : decode cX5_span 185 = .ok (.iinc 6 1, 3) := by decide +kernel
theorem dX5_span_188 : decode cX5_span 188 = .ok (.goto (-141), 3) := by decide +kernel
theorem dX5_span_191 : decode cX5_span 191 = .ok (.iload 5, 2) := by decide +kernel
theorem dX5_span_193 : decode cX5_span 193 = .ok (.ireturn, 1) := by decide +kernel
theorem dX5_put_0 : decode cX5_put 0 = .ok (.aload_n 0, 1) := by decide +kernel
theorem dX5_put_1 : decode cX5_put 1 = .ok (.iload_n 1, 1) := by decide +kernel
theorem dX5_put_2 : decode cX5_put 2 = .ok (.invokevirtual 93, 3) := by decide +kernel
theorem dX5_put_5 : decode cX5_put 5 = .ok (.ifCond .eq 15, 3) := by decide +kernel
theorem dX5_put_8 : decode cX5_put 8 = .ok (.iload_n 2, 1) := by decide +kernel
theorem dX5_put_9 : decode cX5_put 9 = .ok (.i2l, 1) := by decide +kernel
theorem dX5_put_10 : decode cX5_put 10 = .ok (.lconst 0, 1) := by decide +kernel
theorem dX5_put_11 : decode cX5_put 11 = .ok (.ldc2_w 79, 3) := by decide +kernel
theorem dX5_put_14 : decode cX5_put 14 = .ok (.invokestatic 70, 3) := by decide +kernel
theorem dX5_put_17 : decode cX5_put 17 = .ok (.ifCond .ne 6, 3) := by decide +kernel
theorem dX5_put_20 : decode cX5_put 20 = .ok (.ldc 85, 2) := by decide +kernel
theorem dX5_put_22 : decode cX5_put 22 = .ok (.ireturn, 1) := by decide +kernel
theorem dX5_put_23 : decode cX5_put 23 = .ok (.aload_n 0, 1) := by decide +kernel
theorem dX5_put_24 : decode cX5_put 24 = .ok (.getfield 35, 3) := by decide +kernel
theorem dX5_put_27 : decode cX5_put 27 = .ok (.iload_n 1, 1) := by decide +kernel
theorem dX5_put_28 : decode cX5_put 28 = .ok (.iaload, 1) := by decide +kernel
theorem dX5_put_29 : decode cX5_put 29 = .ok (.istore_n 3, 1) := by decide +kernel
theorem dX5_put_30 : decode cX5_put 30 = .ok (.aload_n 0, 1) := by decide +kernel
theorem dX5_put_31 : decode cX5_put 31 = .ok (.getfield 35, 3) := by decide +kernel
theorem dX5_put_34 : decode cX5_put 34 = .ok (.iload_n 1, 1) := by decide +kernel
theorem dX5_put_35 : decode cX5_put 35 = .ok (.iload_n 2, 1) := by decide +kernel
theorem dX5_put_36 : decode cX5_put 36 = .ok (.iastore, 1) := by decide +kernel
theorem dX5_put_37 : decode cX5_put 37 = .ok (.iload_n 3, 1) := by decide +kernel
theorem dX5_put_38 : decode cX5_put 38 = .ok (.ireturn, 1) := by decide +kernel
theorem dX5_worth_0 : decode cX5_worth 0 = .ok (.aload_n 0, 1) := by decide +kernel
theorem dX5_worth_1 : decode cX5_worth 1 = .ok (.aload_n 0, 1) := by decide +kernel
theorem dX5_worth_2 : decode cX5_worth 2 = .ok (.getfield 35, 3) := by decide +kernel
theorem dX5_worth_5 : decode cX5_worth 5 = .ok (.invokevirtual 126, 3) := by decide +kernel
theorem dX5_worth_8 : decode cX5_worth 8 = .ok (.ireturn, 1) := by decide +kernel
theorem dX5_broken_0 : decode cX5_broken 0 = .ok (.iconst 0, 1) := by decide +kernel
theorem dX5_broken_1 : decode cX5_broken 1 = .ok (.istore_n 1, 1) := by decide +kernel
theorem dX5_broken_2 : decode cX5_broken 2 = .ok (.iload_n 1, 1) := by decide +kernel
theorem dX5_broken_3 : decode cX5_broken 3 = .ok (.aload_n 0, 1) := by decide +kernel
theorem dX5_broken_4 : decode cX5_broken 4 = .ok (.getfield 66, 3) := by decide +kernel
theorem dX5_broken_7 : decode cX5_broken 7 = .ok (.if_icmp .ge 29, 3) := by decide +kernel
theorem dX5_broken_10 : decode cX5_broken 10 = .ok (.aload_n 0, 1) := by decide +kernel
theorem dX5_broken_11 : decode cX5_broken 11 = .ok (.getfield 35, 3) := by decide +kernel
theorem dX5_broken_14 : decode cX5_broken 14 = .ok (.iload_n 1, 1) := by decide +kernel
theorem dX5_broken_15 : decode cX5_broken 15 = .ok (.iaload, 1) := by decide +kernel
theorem dX5_broken_16 : decode cX5_broken 16 = .ok (.aload_n 0, 1) := by decide +kernel
theorem dX5_broken_17 : decode cX5_broken 17 = .ok (.getfield 13, 3) := by decide +kernel
theorem dX5_broken_20 : decode cX5_broken 20 = .ok (.iload_n 1, 1) := by decide +kernel
theorem dX5_broken_21 : decode cX5_broken 21 = .ok (.iaload, 1) := by decide +kernel
theorem dX5_broken_22 : decode cX5_broken 22 = .ok (.if_icmp .le 8, 3) := by decide +kernel
theorem dX5_broken_25 : decode cX5_broken 25 = .ok (.bipush 100, 2) := by decide +kernel
theorem dX5_broken_27 : decode cX5_broken 27 = .ok (.iload_n 1, 1) := by decide +kernel
theorem dX5_broken_28 : decode cX5_broken 28 = .ok (.iadd, 1) := by decide +kernel
theorem dX5_broken_29 : decode cX5_broken 29 = .ok (.ireturn, 1) := by decide +kernel
theorem dX5_broken_30 : decode cX5_broken 30 = .ok (.iinc 1 1, 3) := by decide +kernel
theorem dX5_broken_33 : decode cX5_broken 33 = .ok (.goto (-31), 3) := by decide +kernel
theorem dX5_broken_36 : decode cX5_broken 36 = .ok (.iconst 0, 1) := by decide +kernel
theorem dX5_broken_37 : decode cX5_broken 37 = .ok (.istore_n 1, 1) := by decide +kernel
theorem dX5_broken_38 : decode cX5_broken 38 = .ok (.iload_n 1, 1) := by decide +kernel
theorem dX5_broken_39 : decode cX5_broken 39 = .ok (.aload_n 0, 1) := by decide +kernel
theorem dX5_broken_40 : decode cX5_broken 40 = .ok (.getfield 74, 3) := by decide +kernel
theorem dX5_broken_43 : decode cX5_broken 43 = .ok (.if_icmp .ge 32, 3) := by decide +kernel
theorem dX5_broken_46 : decode cX5_broken 46 = .ok (.aload_n 0, 1) := by decide +kernel
theorem dX5_broken_47 : decode cX5_broken 47 = .ok (.getfield 28, 3) := by decide +kernel
theorem dX5_broken_50 : decode cX5_broken 50 = .ok (.iload_n 1, 1) := by decide +kernel
theorem dX5_broken_51 : decode cX5_broken 51 = .ok (.baload, 1) := by decide +kernel
theorem dX5_broken_52 : decode cX5_broken 52 = .ok (.ifCond .eq 17, 3) := by decide +kernel
theorem dX5_broken_55 : decode cX5_broken 55 = .ok (.aload_n 0, 1) := by decide +kernel
theorem dX5_broken_56 : decode cX5_broken 56 = .ok (.iload_n 1, 1) := by decide +kernel
theorem dX5_broken_57 : decode cX5_broken 57 = .ok (.aload_n 0, 1) := by decide +kernel
theorem dX5_broken_58 : decode cX5_broken 58 = .ok (.getfield 35, 3) := by decide +kernel
theorem dX5_broken_61 : decode cX5_broken 61 = .ok (.invokevirtual 102, 3) := by decide +kernel
theorem dX5_broken_64 : decode cX5_broken 64 = .ok (.ifCond .ne 5, 3) := by decide +kernel
theorem dX5_broken_67 : decode cX5_broken 67 = .ok (.iload_n 1, 1) := by decide +kernel
theorem dX5_broken_68 : decode cX5_broken 68 = .ok (.ireturn, 1) := by decide +kernel
theorem dX5_broken_69 : decode cX5_broken 69 = .ok (.iinc 1 1, 3) := by decide +kernel
theorem dX5_broken_72 : decode cX5_broken 72 = .ok (.goto (-34), 3) := by decide +kernel
theorem dX5_broken_75 : decode cX5_broken 75 = .ok (.ldc 106, 2) := by decide +kernel
theorem dX5_broken_77 : decode cX5_broken 77 = .ok (.ireturn, 1) := by decide +kernel
theorem dX5_addRow_0 : decode cX5_addRow 0 = .ok (.aload_n 0, 1) := by decide +kernel
theorem dX5_addRow_1 : decode cX5_addRow 1 = .ok (.getfield 53, 3) := by decide +kernel
theorem dX5_addRow_4 : decode cX5_addRow 4 = .ok (.aload_n 0, 1) := by decide +kernel
theorem dX5_addRow_5 : decode cX5_addRow 5 = .ok (.getfield 146, 3) := by decide +kernel
theorem dX5_addRow_8 : decode cX5_addRow 8 = .ok (.iload_n 1, 1) := by decide +kernel
theorem dX5_addRow_9 : decode cX5_addRow 9 = .ok (.iastore, 1) := by decide +kernel
theorem dX5_addRow_10 : decode cX5_addRow 10 = .ok (.aload_n 0, 1) := by decide +kernel
theorem dX5_addRow_11 : decode cX5_addRow 11 = .ok (.getfield 56, 3) := by decide +kernel
theorem dX5_addRow_14 : decode cX5_addRow 14 = .ok (.aload_n 0, 1) := by decide +kernel
theorem dX5_addRow_15 : decode cX5_addRow 15 = .ok (.getfield 146, 3) := by decide +kernel
theorem dX5_addRow_18 : decode cX5_addRow 18 = .ok (.iload_n 2, 1) := by decide +kernel
theorem dX5_addRow_19 : decode cX5_addRow 19 = .ok (.iastore, 1) := by decide +kernel
theorem dX5_addRow_20 : decode cX5_addRow 20 = .ok (.iconst 0, 1) := by decide +kernel
theorem dX5_addRow_21 : decode cX5_addRow 21 = .ok (.istore_n 3, 1) := by decide +kernel
theorem dX5_addRow_22 : decode cX5_addRow 22 = .ok (.iload_n 3, 1) := by decide +kernel
theorem dX5_addRow_23 : decode cX5_addRow 23 = .ok (.iconst 4, 1) := by decide +kernel
theorem dX5_addRow_24 : decode cX5_addRow 24 = .ok (.if_icmp .ge 23, 3) := by decide +kernel
theorem dX5_addRow_27 : decode cX5_addRow 27 = .ok (.aload_n 0, 1) := by decide +kernel
theorem dX5_addRow_28 : decode cX5_addRow 28 = .ok (.getfield 50, 3) := by decide +kernel
theorem dX5_addRow_31 : decode cX5_addRow 31 = .ok (.iconst 4, 1) := by decide +kernel
theorem dX5_addRow_32 : decode cX5_addRow 32 = .ok (.aload_n 0, 1) := by decide +kernel
theorem dX5_addRow_33 : decode cX5_addRow 33 = .ok (.getfield 146, 3) := by decide +kernel
theorem dX5_addRow_36 : decode cX5_addRow 36 = .ok (.imul, 1) := by decide +kernel
theorem dX5_addRow_37 : decode cX5_addRow 37 = .ok (.iload_n 3, 1) := by decide +kernel
theorem dX5_addRow_38 : decode cX5_addRow 38 = .ok (.iadd, 1) := by decide +kernel
theorem dX5_addRow_39 : decode cX5_addRow 39 = .ok (.iconst 0, 1) := by decide +kernel
theorem dX5_addRow_40 : decode cX5_addRow 40 = .ok (.iastore, 1) := by decide +kernel
theorem dX5_addRow_41 : decode cX5_addRow 41 = .ok (.iinc 3 1, 3) := by decide +kernel
theorem dX5_addRow_44 : decode cX5_addRow 44 = .ok (.goto (-22), 3) := by decide +kernel
theorem dX5_addRow_47 : decode cX5_addRow 47 = .ok (.aload_n 0, 1) := by decide +kernel
theorem dX5_addRow_48 : decode cX5_addRow 48 = .ok (.dup, 1) := by decide +kernel
theorem dX5_addRow_49 : decode cX5_addRow 49 = .ok (.getfield 146, 3) := by decide +kernel
theorem dX5_addRow_52 : decode cX5_addRow 52 = .ok (.iconst 1, 1) := by decide +kernel
theorem dX5_addRow_53 : decode cX5_addRow 53 = .ok (.iadd, 1) := by decide +kernel
theorem dX5_addRow_54 : decode cX5_addRow 54 = .ok (.putfield 146, 3) := by decide +kernel
theorem dX5_addRow_57 : decode cX5_addRow 57 = .ok (.return_, 1) := by decide +kernel
theorem dX5_rowsNow_0 : decode cX5_rowsNow 0 = .ok (.aload_n 0, 1) := by decide +kernel
theorem dX5_rowsNow_1 : decode cX5_rowsNow 1 = .ok (.iconst 0, 1) := by decide +kernel
theorem dX5_rowsNow_2 : decode cX5_rowsNow 2 = .ok (.putfield 146, 3) := by decide +kernel
theorem dX5_rowsNow_5 : decode cX5_rowsNow 5 = .ok (.iconst 0, 1) := by decide +kernel
theorem dX5_rowsNow_6 : decode cX5_rowsNow 6 = .ok (.istore_n 1, 1) := by decide +kernel
theorem dX5_rowsNow_7 : decode cX5_rowsNow 7 = .ok (.iload_n 1, 1) := by decide +kernel
theorem dX5_rowsNow_8 : decode cX5_rowsNow 8 = .ok (.aload_n 0, 1) := by decide +kernel
theorem dX5_rowsNow_9 : decode cX5_rowsNow 9 = .ok (.getfield 66, 3) := by decide +kernel
theorem dX5_rowsNow_12 : decode cX5_rowsNow 12 = .ok (.if_icmp .ge 60, 3) := by decide +kernel
theorem dX5_rowsNow_15 : decode cX5_rowsNow 15 = .ok (.aload_n 0, 1) := by decide +kernel
theorem dX5_rowsNow_16 : decode cX5_rowsNow 16 = .ok (.aload_n 0, 1) := by decide +kernel
theorem dX5_rowsNow_17 : decode cX5_rowsNow 17 = .ok (.getfield 13, 3) := by decide +kernel
theorem dX5_rowsNow_20 : decode cX5_rowsNow 20 = .ok (.iload_n 1, 1) := by decide +kernel
theorem dX5_rowsNow_21 : decode cX5_rowsNow 21 = .ok (.iaload, 1) := by decide +kernel
theorem dX5_rowsNow_22 : decode cX5_rowsNow 22 = .ok (.ldc 106, 2) := by decide +kernel
theorem dX5_rowsNow_24 : decode cX5_rowsNow 24 = .ok (.invokevirtual 149, 3) := by decide +kernel
theorem dX5_rowsNow_27 : decode cX5_rowsNow 27 = .ok (.aload_n 0, 1) := by decide +kernel
theorem dX5_rowsNow_28 : decode cX5_rowsNow 28 = .ok (.getfield 50, 3) := by decide +kernel
theorem dX5_rowsNow_31 : decode cX5_rowsNow 31 = .ok (.iconst 4, 1) := by decide +kernel
theorem dX5_rowsNow_32 : decode cX5_rowsNow 32 = .ok (.aload_n 0, 1) := by decide +kernel
theorem dX5_rowsNow_33 : decode cX5_rowsNow 33 = .ok (.getfield 146, 3) := by decide +kernel
theorem dX5_rowsNow_36 : decode cX5_rowsNow 36 = .ok (.imul, 1) := by decide +kernel
theorem dX5_rowsNow_37 : decode cX5_rowsNow 37 = .ok (.iconst 4, 1) := by decide +kernel
theorem dX5_rowsNow_38 : decode cX5_rowsNow 38 = .ok (.isub, 1) := by decide +kernel
theorem dX5_rowsNow_39 : decode cX5_rowsNow 39 = .ok (.iload_n 1, 1) := by decide +kernel
theorem dX5_rowsNow_40 : decode cX5_rowsNow 40 = .ok (.iadd, 1) := by decide +kernel
theorem dX5_rowsNow_41 : decode cX5_rowsNow 41 = .ok (.iconst 1, 1) := by decide +kernel
theorem dX5_rowsNow_42 : decode cX5_rowsNow 42 = .ok (.iastore, 1) := by decide +kernel
theorem dX5_rowsNow_43 : decode cX5_rowsNow 43 = .ok (.aload_n 0, 1) := by decide +kernel
theorem dX5_rowsNow_44 : decode cX5_rowsNow 44 = .ok (.iconst 0, 1) := by decide +kernel
theorem dX5_rowsNow_45 : decode cX5_rowsNow 45 = .ok (.ldc 106, 2) := by decide +kernel
theorem dX5_rowsNow_47 : decode cX5_rowsNow 47 = .ok (.invokevirtual 149, 3) := by decide +kernel
theorem dX5_rowsNow_50 : decode cX5_rowsNow 50 = .ok (.aload_n 0, 1) := by decide +kernel
theorem dX5_rowsNow_51 : decode cX5_rowsNow 51 = .ok (.getfield 50, 3) := by decide +kernel
theorem dX5_rowsNow_54 : decode cX5_rowsNow 54 = .ok (.iconst 4, 1) := by decide +kernel
theorem dX5_rowsNow_55 : decode cX5_rowsNow 55 = .ok (.aload_n 0, 1) := by decide +kernel
theorem dX5_rowsNow_56 : decode cX5_rowsNow 56 = .ok (.getfield 146, 3) := by decide +kernel
theorem dX5_rowsNow_59 : decode cX5_rowsNow 59 = .ok (.imul, 1) := by decide +kernel
theorem dX5_rowsNow_60 : decode cX5_rowsNow 60 = .ok (.iconst 4, 1) := by decide +kernel
theorem dX5_rowsNow_61 : decode cX5_rowsNow 61 = .ok (.isub, 1) := by decide +kernel
theorem dX5_rowsNow_62 : decode cX5_rowsNow 62 = .ok (.iload_n 1, 1) := by decide +kernel
theorem dX5_rowsNow_63 : decode cX5_rowsNow 63 = .ok (.iadd, 1) := by decide +kernel
theorem dX5_rowsNow_64 : decode cX5_rowsNow 64 = .ok (.iconst (-1), 1) := by decide +kernel
theorem dX5_rowsNow_65 : decode cX5_rowsNow 65 = .ok (.iastore, 1) := by decide +kernel
theorem dX5_rowsNow_66 : decode cX5_rowsNow 66 = .ok (.iinc 1 1, 3) := by decide +kernel
theorem dX5_rowsNow_69 : decode cX5_rowsNow 69 = .ok (.goto (-62), 3) := by decide +kernel
theorem dX5_rowsNow_72 : decode cX5_rowsNow 72 = .ok (.iconst 0, 1) := by decide +kernel
theorem dX5_rowsNow_73 : decode cX5_rowsNow 73 = .ok (.istore_n 1, 1) := by decide +kernel
theorem dX5_rowsNow_74 : decode cX5_rowsNow 74 = .ok (.iload_n 1, 1) := by decide +kernel
theorem dX5_rowsNow_75 : decode cX5_rowsNow 75 = .ok (.aload_n 0, 1) := by decide +kernel
theorem dX5_rowsNow_76 : decode cX5_rowsNow 76 = .ok (.getfield 74, 3) := by decide +kernel
theorem dX5_rowsNow_79 : decode cX5_rowsNow 79 = .ok (.if_icmp .ge 128, 3) := by decide +kernel
theorem dX5_rowsNow_82 : decode cX5_rowsNow 82 = .ok (.aload_n 0, 1) := by decide +kernel
theorem dX5_rowsNow_83 : decode cX5_rowsNow 83 = .ok (.getfield 28, 3) := by decide +kernel
theorem dX5_rowsNow_86 : decode cX5_rowsNow 86 = .ok (.iload_n 1, 1) := by decide +kernel
theorem dX5_rowsNow_87 : decode cX5_rowsNow 87 = .ok (.baload, 1) := by decide +kernel
theorem dX5_rowsNow_88 : decode cX5_rowsNow 88 = .ok (.ifCond .eq 113, 3) := by decide +kernel
theorem dX5_rowsNow_91 : decode cX5_rowsNow 91 = .ok (.aload_n 0, 1) := by decide +kernel
theorem dX5_rowsNow_92 : decode cX5_rowsNow 92 = .ok (.getfield 16, 3) := by decide +kernel
theorem dX5_rowsNow_95 : decode cX5_rowsNow 95 = .ok (.iload_n 1, 1) := by decide +kernel
theorem dX5_rowsNow_96 : decode cX5_rowsNow 96 = .ok (.iaload, 1) := by decide +kernel
