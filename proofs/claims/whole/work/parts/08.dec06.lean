theorem dX5_rowsNow_97 : decode cX5_rowsNow 97 = .ok (.iconst 2, 1) := by decide +kernel
theorem dX5_rowsNow_98 : decode cX5_rowsNow 98 = .ok (.if_icmp .ne 6, 3) := by decide +kernel
theorem dX5_rowsNow_101 : decode cX5_rowsNow 101 = .ok (.goto 100, 3) := by decide +kernel
theorem dX5_rowsNow_104 : decode cX5_rowsNow 104 = .ok (.aload_n 0, 1) := by decide +kernel
theorem dX5_rowsNow_105 : decode cX5_rowsNow 105 = .ok (.aload_n 0, 1) := by decide +kernel
theorem dX5_rowsNow_106 : decode cX5_rowsNow 106 = .ok (.getfield 25, 3) := by decide +kernel
theorem dX5_rowsNow_109 : decode cX5_rowsNow 109 = .ok (.iload_n 1, 1) := by decide +kernel
theorem dX5_rowsNow_110 : decode cX5_rowsNow 110 = .ok (.iaload, 1) := by decide +kernel
theorem dX5_rowsNow_111 : decode cX5_rowsNow 111 = .ok (.iload_n 1, 1) := by decide +kernel
theorem dX5_rowsNow_112 : decode cX5_rowsNow 112 = .ok (.invokevirtual 149, 3) := by decide +kernel
theorem dX5_rowsNow_115 : decode cX5_rowsNow 115 = .ok (.iconst 0, 1) := by decide +kernel
theorem dX5_rowsNow_116 : decode cX5_rowsNow 116 = .ok (.istore_n 2, 1) := by decide +kernel
theorem dX5_rowsNow_117 : decode cX5_rowsNow 117 = .ok (.iload_n 2, 1) := by decide +kernel
theorem dX5_rowsNow_118 : decode cX5_rowsNow 118 = .ok (.aload_n 0, 1) := by decide +kernel
theorem dX5_rowsNow_119 : decode cX5_rowsNow 119 = .ok (.getfield 66, 3) := by decide +kernel
theorem dX5_rowsNow_122 : decode cX5_rowsNow 122 = .ok (.if_icmp .ge 79, 3) := by decide +kernel
theorem dX5_rowsNow_125 : decode cX5_rowsNow 125 = .ok (.aload_n 0, 1) := by decide +kernel
theorem dX5_rowsNow_126 : decode cX5_rowsNow 126 = .ok (.getfield 19, 3) := by decide +kernel
theorem dX5_rowsNow_129 : decode cX5_rowsNow 129 = .ok (.iload_n 1, 1) := by decide +kernel
theorem dX5_rowsNow_130 : decode cX5_rowsNow 130 = .ok (.iaload, 1) := by decide +kernel
theorem dX5_rowsNow_131 : decode cX5_rowsNow 131 = .ok (.iload_n 2, 1) := by decide +kernel
theorem dX5_rowsNow_132 : decode cX5_rowsNow 132 = .ok (.if_icmp .ne 7, 3) := by decide +kernel
theorem dX5_rowsNow_135 : decode cX5_rowsNow 135 = .ok (.iconst 1, 1) := by decide +kernel
theorem dX5_rowsNow_136 : decode cX5_rowsNow 136 = .ok (.goto 4, 3) := by decide +kernel
theorem dX5_rowsNow_139 : decode cX5_rowsNow 139 = .ok (.iconst 0, 1) := by decide +kernel
theorem dX5_rowsNow_140 : decode cX5_rowsNow 140 = .ok (.aload_n 0, 1) := by decide +kernel
theorem dX5_rowsNow_141 : decode cX5_rowsNow 141 = .ok (.getfield 22, 3) := by decide +kernel
theorem dX5_rowsNow_144 : decode cX5_rowsNow 144 = .ok (.iload_n 1, 1) := by decide +kernel
theorem dX5_rowsNow_145 : decode cX5_rowsNow 145 = .ok (.iaload, 1) := by decide +kernel
theorem dX5_rowsNow_146 : decode cX5_rowsNow 146 = .ok (.iload_n 2, 1) := by decide +kernel
theorem dX5_rowsNow_147 : decode cX5_rowsNow 147 = .ok (.if_icmp .ne 7, 3) := by decide +kernel
theorem dX5_rowsNow_150 : decode cX5_rowsNow 150 = .ok (.iconst 1, 1) := by decide +kernel
theorem dX5_rowsNow_151 : decode cX5_rowsNow 151 = .ok (.goto 4, 3) := by decide +kernel
theorem dX5_rowsNow_154 : decode cX5_rowsNow 154 = .ok (.iconst 0, 1) := by decide +kernel
theorem dX5_rowsNow_155 : decode cX5_rowsNow 155 = .ok (.isub, 1) := by decide +kernel
theorem dX5_rowsNow_156 : decode cX5_rowsNow 156 = .ok (.istore_n 3, 1) := by decide +kernel
theorem dX5_rowsNow_157 : decode cX5_rowsNow 157 = .ok (.aload_n 0, 1) := by decide +kernel
theorem dX5_rowsNow_158 : decode cX5_rowsNow 158 = .ok (.getfield 50, 3) := by decide +kernel
theorem dX5_rowsNow_161 : decode cX5_rowsNow 161 = .ok (.iconst 4, 1) := by decide +kernel
theorem dX5_rowsNow_162 : decode cX5_rowsNow 162 = .ok (.aload_n 0, 1) := by decide +kernel
theorem dX5_rowsNow_163 : decode cX5_rowsNow 163 = .ok (.getfield 146, 3) := by decide +kernel
theorem dX5_rowsNow_166 : decode cX5_rowsNow 166 = .ok (.imul, 1) := by decide +kernel
theorem dX5_rowsNow_167 : decode cX5_rowsNow 167 = .ok (.iconst 4, 1) := by decide +kernel
theorem dX5_rowsNow_168 : decode cX5_rowsNow 168 = .ok (.isub, 1) := by decide +kernel
theorem dX5_rowsNow_169 : decode cX5_rowsNow 169 = .ok (.iload_n 2, 1) := by decide +kernel
theorem dX5_rowsNow_170 : decode cX5_rowsNow 170 = .ok (.iadd, 1) := by decide +kernel
theorem dX5_rowsNow_171 : decode cX5_rowsNow 171 = .ok (.aload_n 0, 1) := by decide +kernel
theorem dX5_rowsNow_172 : decode cX5_rowsNow 172 = .ok (.getfield 16, 3) := by decide +kernel
theorem dX5_rowsNow_175 : decode cX5_rowsNow 175 = .ok (.iload_n 1, 1) := by decide +kernel
theorem dX5_rowsNow_176 : decode cX5_rowsNow 176 = .ok (.iaload, 1) := by decide +kernel
theorem dX5_rowsNow_177 : decode cX5_rowsNow 177 = .ok (.ifCond .ne 16, 3) := by decide +kernel
theorem dX5_rowsNow_180 : decode cX5_rowsNow 180 = .ok (.aload_n 0, 1) := by decide +kernel
theorem dX5_rowsNow_181 : decode cX5_rowsNow 181 = .ok (.getfield 32, 3) := by decide +kernel
theorem dX5_rowsNow_184 : decode cX5_rowsNow 184 = .ok (.iconst 4, 1) := by decide +kernel
theorem dX5_rowsNow_185 : decode cX5_rowsNow 185 = .ok (.iload_n 1, 1) := by decide +kernel
theorem dX5_rowsNow_186 : decode cX5_rowsNow 186 = .ok (.imul, 1) := by decide +kernel
theorem dX5_rowsNow_187 : decode cX5_rowsNow 187 = .ok (.iload_n 2, 1) := by decide +kernel
theorem dX5_rowsNow_188 : decode cX5_rowsNow 188 = .ok (.iadd, 1) := by decide +kernel
theorem dX5_rowsNow_189 : decode cX5_rowsNow 189 = .ok (.iaload, 1) := by decide +kernel
theorem dX5_rowsNow_190 : decode cX5_rowsNow 190 = .ok (.goto 4, 3) := by decide +kernel
theorem dX5_rowsNow_193 : decode cX5_rowsNow 193 = .ok (.iload_n 3, 1) := by decide +kernel
theorem dX5_rowsNow_194 : decode cX5_rowsNow 194 = .ok (.iastore, 1) := by decide +kernel
theorem dX5_rowsNow_195 : decode cX5_rowsNow 195 = .ok (.iinc 2 1, 3) := by decide +kernel
theorem dX5_rowsNow_198 : decode cX5_rowsNow 198 = .ok (.goto (-81), 3) := by decide +kernel
theorem dX5_rowsNow_201 : decode cX5_rowsNow 201 = .ok (.iinc 1 1, 3) := by decide +kernel
theorem dX5_rowsNow_204 : decode cX5_rowsNow 204 = .ok (.goto (-130), 3) := by decide +kernel
theorem dX5_rowsNow_207 : decode cX5_rowsNow 207 = .ok (.return_, 1) := by decide +kernel
theorem dX5_determinant_0 : decode cX5_determinant 0 = .ok (.aload_n 0, 1) := by decide +kernel
theorem dX5_determinant_1 : decode cX5_determinant 1 = .ok (.getfield 66, 3) := by decide +kernel
theorem dX5_determinant_4 : decode cX5_determinant 4 = .ok (.istore_n 2, 1) := by decide +kernel
theorem dX5_determinant_5 : decode cX5_determinant 5 = .ok (.iconst 0, 1) := by decide +kernel
theorem dX5_determinant_6 : decode cX5_determinant 6 = .ok (.istore_n 3, 1) := by decide +kernel
theorem dX5_determinant_7 : decode cX5_determinant 7 = .ok (.iload_n 3, 1) := by decide +kernel
theorem dX5_determinant_8 : decode cX5_determinant 8 = .ok (.iload_n 2, 1) := by decide +kernel
theorem dX5_determinant_9 : decode cX5_determinant 9 = .ok (.if_icmp .ge 68, 3) := by decide +kernel
theorem dX5_determinant_12 : decode cX5_determinant 12 = .ok (.iconst 0, 1) := by decide +kernel
theorem dX5_determinant_13 : decode cX5_determinant 13 = .ok (.istore 4, 2) := by decide +kernel
theorem dX5_determinant_15 : decode cX5_determinant 15 = .ok (.iload 4, 2) := by decide +kernel
theorem dX5_determinant_17 : decode cX5_determinant 17 = .ok (.iload_n 2, 1) := by decide +kernel
theorem dX5_determinant_18 : decode cX5_determinant 18 = .ok (.if_icmp .ge 53, 3) := by decide +kernel
theorem dX5_determinant_21 : decode cX5_determinant 21 = .ok (.aload_n 0, 1) := by decide +kernel
theorem dX5_determinant_22 : decode cX5_determinant 22 = .ok (.getfield 62, 3) := by decide +kernel
theorem dX5_determinant_25 : decode cX5_determinant 25 = .ok (.iconst 4, 1) := by decide +kernel
theorem dX5_determinant_26 : decode cX5_determinant 26 = .ok (.iload_n 3, 1) := by decide +kernel
theorem dX5_determinant_27 : decode cX5_determinant 27 = .ok (.imul, 1) := by decide +kernel
theorem dX5_determinant_28 : decode cX5_determinant 28 = .ok (.iload 4, 2) := by decide +kernel
theorem dX5_determinant_30 : decode cX5_determinant 30 = .ok (.iadd, 1) := by decide +kernel
theorem dX5_determinant_31 : decode cX5_determinant 31 = .ok (.iload_n 3, 1) := by decide +kernel
theorem dX5_determinant_32 : decode cX5_determinant 32 = .ok (.iload_n 1, 1) := by decide +kernel
theorem dX5_determinant_33 : decode cX5_determinant 33 = .ok (.if_icmp .ne 14, 3) := by decide +kernel
theorem dX5_determinant_36 : decode cX5_determinant 36 = .ok (.aload_n 0, 1) := by decide +kernel
theorem dX5_determinant_37 : decode cX5_determinant 37 = .ok (.getfield 7, 3) := by decide +kernel
theorem dX5_determinant_40 : decode cX5_determinant 40 = .ok (.iload 4, 2) := by decide +kernel
theorem dX5_determinant_42 : decode cX5_determinant 42 = .ok (.iaload, 1) := by decide +kernel
theorem dX5_determinant_43 : decode cX5_determinant 43 = .ok (.i2l, 1) := by decide +kernel
theorem dX5_determinant_44 : decode cX5_determinant 44 = .ok (.goto 20, 3) := by decide +kernel
theorem dX5_determinant_47 : decode cX5_determinant 47 = .ok (.aload_n 0, 1) := by decide +kernel
theorem dX5_determinant_48 : decode cX5_determinant 48 = .ok (.getfield 50, 3) := by decide +kernel
theorem dX5_determinant_51 : decode cX5_determinant 51 = .ok (.iconst 4, 1) := by decide +kernel
theorem dX5_determinant_52 : decode cX5_determinant 52 = .ok (.aload_n 0, 1) := by decide +kernel
theorem dX5_determinant_53 : decode cX5_determinant 53 = .ok (.getfield 59, 3) := by decide +kernel
theorem dX5_determinant_56 : decode cX5_determinant 56 = .ok (.iload_n 3, 1) := by decide +kernel
theorem dX5_determinant_57 : decode cX5_determinant 57 = .ok (.iaload, 1) := by decide +kernel
theorem dX5_determinant_58 : decode cX5_determinant 58 = .ok (.imul, 1) := by decide +kernel
theorem dX5_determinant_59 : decode cX5_determinant 59 = .ok (.iload 4, 2) := by decide +kernel
theorem dX5_determinant_61 : decode cX5_determinant 61 = .ok (.iadd, 1) := by decide +kernel
theorem dX5_determinant_62 : decode cX5_determinant 62 = .ok (.iaload, 1) := by decide +kernel
theorem dX5_determinant_63 : decode cX5_determinant 63 = .ok (.i2l, 1) := by decide +kernel
theorem dX5_determinant_64 : decode cX5_determinant 64 = .ok (.lastore, 1) := by decide +kernel
theorem dX5_determinant_65 : decode cX5_determinant 65 = .ok (.iinc 4 1, 3) := by decide +kernel
theorem dX5_determinant_68 : decode cX5_determinant 68 = .ok (.goto (-53), 3) := by decide +kernel
theorem dX5_determinant_71 : decode cX5_determinant 71 = .ok (.iinc 3 1, 3) := by decide +kernel
theorem dX5_determinant_74 : decode cX5_determinant 74 = .ok (.goto (-67), 3) := by decide +kernel
theorem dX5_determinant_77 : decode cX5_determinant 77 = .ok (.lconst 1, 1) := by decide +kernel
theorem dX5_determinant_78 : decode cX5_determinant 78 = .ok (.lstore_n 3, 1) := by decide +kernel
theorem dX5_determinant_79 : decode cX5_determinant 79 = .ok (.lconst 1, 1) := by decide +kernel
theorem dX5_determinant_80 : decode cX5_determinant 80 = .ok (.lstore 5, 2) := by decide +kernel
theorem dX5_determinant_82 : decode cX5_determinant 82 = .ok (.iconst 0, 1) := by decide +kernel
theorem dX5_determinant_83 : decode cX5_determinant 83 = .ok (.istore 7, 2) := by decide +kernel
theorem dX5_determinant_85 : decode cX5_determinant 85 = .ok (.iload 7, 2) := by decide +kernel
theorem dX5_determinant_87 : decode cX5_determinant 87 = .ok (.iload_n 2, 1) := by decide +kernel
theorem dX5_determinant_88 : decode cX5_determinant 88 = .ok (.if_icmp .ge 248, 3) := by decide +kernel
theorem dX5_determinant_91 : decode cX5_determinant 91 = .ok (.iload 7, 2) := by decide +kernel
theorem dX5_determinant_93 : decode cX5_determinant 93 = .ok (.istore 8, 2) := by decide +kernel
theorem dX5_determinant_95 : decode cX5_determinant 95 = .ok (.iload 8, 2) := by decide +kernel
theorem dX5_determinant_97 : decode cX5_determinant 97 = .ok (.iload_n 2, 1) := by decide +kernel
theorem dX5_determinant_98 : decode cX5_determinant 98 = .ok (.if_icmp .ge 26, 3) := by decide +kernel
theorem dX5_determinant_101 : decode cX5_determinant 101 = .ok (.aload_n 0, 1) := by decide +kernel
theorem dX5_determinant_102 : decode cX5_determinant 102 = .ok (.getfield 62, 3) := by decide +kernel
theorem dX5_determinant_105 : decode cX5_determinant 105 = .ok (.iconst 4, 1) := by decide +kernel
theorem dX5_determinant_106 : decode cX5_determinant 106 = .ok (.iload 8, 2) := by decide +kernel
theorem dX5_determinant_108 : decode cX5_determinant 108 = .ok (.imul, 1) := by decide +kernel
theorem dX5_determinant_109 : decode cX5_determinant 109 = .ok (.iload 7, 2) := by decide +kernel
theorem dX5_determinant_111 : decode cX5_determinant 111 = .ok (.iadd, 1) := by decide +kernel
theorem dX5_determinant_112 : decode cX5_determinant 112 = .ok (.laload, 1) := by decide +kernel
theorem dX5_determinant_113 : decode cX5_determinant 113 = .ok (.lconst 0, 1) := by decide +kernel
theorem dX5_determinant_114 : decode cX5_determinant 114 = .ok (.lcmp, 1) := by decide +kernel
theorem dX5_determinant_115 : decode cX5_determinant 115 = .ok (.ifCond .ne 9, 3) := by decide +kernel
theorem dX5_determinant_118 : decode cX5_determinant 118 = .ok (.iinc 8 1, 3) := by decide +kernel
theorem dX5_determinant_121 : decode cX5_determinant 121 = .ok (.goto (-26), 3) := by decide +kernel
theorem dX5_determinant_124 : decode cX5_determinant 124 = .ok (.iload 8, 2) := by decide +kernel
theorem dX5_determinant_126 : decode cX5_determinant 126 = .ok (.iload_n 2, 1) := by decide +kernel
theorem dX5_determinant_127 : decode cX5_determinant 127 = .ok (.if_icmp .ne 5, 3) := by decide +kernel
theorem dX5_determinant_130 : decode cX5_determinant 130 = .ok (.lconst 0, 1) := by decide +kernel
theorem dX5_determinant_131 : decode cX5_determinant 131 = .ok (.lreturn, 1) := by decide +kernel
theorem dX5_determinant_132 : decode cX5_determinant 132 = .ok (.iconst 0, 1) := by decide +kernel
theorem dX5_determinant_133 : decode cX5_determinant 133 = .ok (.istore 9, 2) := by decide +kernel
theorem dX5_determinant_135 : decode cX5_determinant 135 = .ok (.iload 9, 2) := by decide +kernel
theorem dX5_determinant_137 : decode cX5_determinant 137 = .ok (.iload_n 2, 1) := by decide +kernel
theorem dX5_determinant_138 : decode cX5_determinant 138 = .ok (.if_icmp .ge 68, 3) := by decide +kernel
theorem dX5_determinant_141 : decode cX5_determinant 141 = .ok (.iload 8, 2) := by decide +kernel
theorem dX5_determinant_143 : decode cX5_determinant 143 = .ok (.iload 7, 2) := by decide +kernel
theorem dX5_determinant_145 : decode cX5_determinant 145 = .ok (.if_icmp .eq 61, 3) := by decide +kernel
theorem dX5_determinant_148 : decode cX5_determinant 148 = .ok (.aload_n 0, 1) := by decide +kernel
theorem dX5_determinant_149 : decode cX5_determinant 149 = .ok (.getfield 62, 3) := by decide +kernel
theorem dX5_determinant_152 : decode cX5_determinant 152 = .ok (.iconst 4, 1) := by decide +kernel
theorem dX5_determinant_153 : decode cX5_determinant 153 = .ok (.iload 8, 2) := by decide +kernel
theorem dX5_determinant_155 : decode cX5_determinant 155 = .ok (.imul, 1) := by decide +kernel
theorem dX5_determinant_156 : decode cX5_determinant 156 = .ok (.iload 9, 2) := by decide +kernel
theorem dX5_determinant_158 : decode cX5_determinant 158 = .ok (.iadd, 1) := by decide +kernel
theorem dX5_determinant_159 : decode cX5_determinant 159 = .ok (.laload, 1) := by decide +kernel
theorem dX5_determinant_160 : decode cX5_determinant 160 = .ok (.lstore 10, 2) := by decide +kernel
theorem dX5_determinant_162 : decode cX5_determinant 162 = .ok (.aload_n 0, 1) := by decide +kernel
theorem dX5_determinant_163 : decode cX5_determinant 163 = .ok (.getfield 62, 3) := by decide +kernel
theorem dX5_determinant_166 : decode cX5_determinant 166 = .ok (.iconst 4, 1) := by decide +kernel
theorem dX5_determinant_167 : decode cX5_determinant 167 = .ok (.iload 8, 2) := by decide +kernel
theorem dX5_determinant_169 : decode cX5_determinant 169 = .ok (.imul, 1) := by decide +kernel
theorem dX5_determinant_170 : decode cX5_determinant 170 = .ok (.iload 9, 2) := by decide +kernel
theorem dX5_determinant_172 : decode cX5_determinant 172 = .ok (.iadd, 1) := by decide +kernel
theorem dX5_determinant_173 : decode cX5_determinant 173 = .ok (.aload_n 0, 1) := by decide +kernel
theorem dX5_determinant_174 : decode cX5_determinant 174 = .ok (.getfield 62, 3) := by decide +kernel
theorem dX5_determinant_177 : decode cX5_determinant 177 = .ok (.iconst 4, 1) := by decide +kernel
theorem dX5_determinant_178 : decode cX5_determinant 178 = .ok (.iload 7, 2) := by decide +kernel
theorem dX5_determinant_180 : decode cX5_determinant 180 = .ok (.imul, 1) := by decide +kernel
theorem dX5_determinant_181 : decode cX5_determinant 181 = .ok (.iload 9, 2) := by decide +kernel
theorem dX5_determinant_183 : decode cX5_determinant 183 = .ok (.iadd, 1) := by decide +kernel
theorem dX5_determinant_184 : decode cX5_determinant 184 = .ok (.laload, 1) := by decide +kernel
theorem dX5_determinant_185 : decode cX5_determinant 185 = .ok (.lastore, 1) := by decide +kernel
theorem dX5_determinant_186 : decode cX5_determinant 186 = .ok (.aload_n 0, 1) := by decide +kernel
theorem dX5_determinant_187 : decode cX5_determinant 187 = .ok (.getfield 62, 3) := by decide +kernel
theorem dX5_determinant_190 : decode cX5_determinant 190 = .ok (.iconst 4, 1) := by decide +kernel
theorem dX5_determinant_191 : decode cX5_determinant 191 = .ok (.iload 7, 2) := by decide +kernel
theorem dX5_determinant_193 : decode cX5_determinant 193 = .ok (.imul, 1) := by decide +kernel
theorem dX5_determinant_194 : decode cX5_determinant 194 = .ok (.iload 9, 2) := by decide +kernel
theorem dX5_determinant_196 : decode cX5_determinant 196 = .ok (.iadd, 1) := by decide +kernel
theorem dX5_determinant_197 : decode cX5_determinant 197 = .ok (.lload 10, 2) := by decide +kernel
theorem dX5_determinant_199 : decode cX5_determinant 199 = .ok (.lastore, 1) := by decide +kernel
theorem dX5_determinant_200 : decode cX5_determinant 200 = .ok (.iinc 9 1, 3) := by decide +kernel
theorem dX5_determinant_203 : decode cX5_determinant 203 = .ok (.goto (-68), 3) := by decide +kernel
theorem dX5_determinant_206 : decode cX5_determinant 206 = .ok (.iload 8, 2) := by decide +kernel
theorem dX5_determinant_208 : decode cX5_determinant 208 = .ok (.iload 7, 2) := by decide +kernel
theorem dX5_determinant_210 : decode cX5_determinant 210 = .ok (.if_icmp .ne 7, 3) := by decide +kernel
theorem dX5_determinant_213 : decode cX5_determinant 213 = .ok (.lload_n 3, 1) := by decide +kernel
theorem dX5_determinant_214 : decode cX5_determinant 214 = .ok (.goto 5, 3) := by decide +kernel
theorem dX5_determinant_217 : decode cX5_determinant 217 = .ok (.lload_n 3, 1) := by decide +kernel
theorem dX5_determinant_218 : decode cX5_determinant 218 = .ok (.lneg, 1) := by decide +kernel
theorem dX5_determinant_219 : decode cX5_determinant 219 = .ok (.lstore_n 3, 1) := by decide +kernel
theorem dX5_determinant_220 : decode cX5_determinant 220 = .ok (.aload_n 0, 1) := by decide +kernel
theorem dX5_determinant_221 : decode cX5_determinant 221 = .ok (.getfield 62, 3) := by decide +kernel
theorem dX5_determinant_224 : decode cX5_determinant 224 = .ok (.iconst 4, 1) := by decide +kernel
theorem dX5_determinant_225 : decode cX5_determinant 225 = .ok (.iload 7, 2) := by decide +kernel
theorem dX5_determinant_227 : decode cX5_determinant 227 = .ok (.imul, 1) := by decide +kernel
theorem dX5_determinant_228 : decode cX5_determinant 228 = .ok (.iload 7, 2) := by decide +kernel
theorem dX5_determinant_230 : decode cX5_determinant 230 = .ok (.iadd, 1) := by decide +kernel
theorem dX5_determinant_231 : decode cX5_determinant 231 = .ok (.laload, 1) := by decide +kernel
theorem dX5_determinant_232 : decode cX5_determinant 232 = .ok (.lstore 9, 2) := by decide +kernel
theorem dX5_determinant_234 : decode cX5_determinant 234 = .ok (.iload 7, 2) := by decide +kernel
theorem dX5_determinant_236 : decode cX5_determinant 236 = .ok (.iconst 1, 1) := by decide +kernel
theorem dX5_determinant_237 : decode cX5_determinant 237 = .ok (.iadd, 1) := by decide +kernel
theorem dX5_determinant_238 : decode cX5_determinant 238 = .ok (.istore 11, 2) := by decide +kernel
theorem dX5_determinant_240 : decode cX5_determinant 240 = .ok (.iload 11, 2) := by decide +kernel
theorem dX5_determinant_242 : decode cX5_determinant 242 = .ok (.iload_n 2, 1) := by decide +kernel
theorem dX5_determinant_243 : decode cX5_determinant 243 = .ok (.if_icmp .ge 83, 3) := by decide +kernel
theorem dX5_determinant_246 : decode cX5_determinant 246 = .ok (.iload_n 2, 1) := by decide +kernel
theorem dX5_determinant_247 : decode cX5_determinant 247 = .ok (.iconst 1, 1) := by decide +kernel
theorem dX5_determinant_248 : decode cX5_determinant 248 = .ok (.isub, 1) := by decide +kernel
theorem dX5_determinant_249 : decode cX5_determinant 249 = .ok (.istore 12, 2) := by decide +kernel
theorem dX5_determinant_251 : decode cX5_determinant 251 = .ok (.iload 12, 2) := by decide +kernel
theorem dX5_determinant_253 : decode cX5_determinant 253 = .ok (.iload 7, 2) := by decide +kernel
theorem dX5_determinant_255 : decode cX5_determinant 255 = .ok (.if_icmp .lt 65, 3) := by decide +kernel
theorem dX5_determinant_258 : decode cX5_determinant 258 = .ok (.aload_n 0, 1) := by decide +kernel
theorem dX5_determinant_259 : decode cX5_determinant 259 = .ok (.getfield 62, 3) := by decide +kernel
theorem dX5_determinant_262 : decode cX5_determinant 262 = .ok (.iconst 4, 1) := by decide +kernel
theorem dX5_determinant_263 : decode cX5_determinant 263 = .ok (.iload 11, 2) := by decide +kernel
theorem dX5_determinant_265 : decode cX5_determinant 265 = .ok (.imul, 1) := by decide +kernel
theorem dX5_determinant_266 : decode cX5_determinant 266 = .ok (.iload 12, 2) := by decide +kernel
theorem dX5_determinant_268 : decode cX5_determinant 268 = .ok (.iadd, 1) := by decide +kernel
theorem dX5_determinant_269 : decode cX5_determinant 269 = .ok (.aload_n 0, 1) := by decide +kernel
theorem dX5_determinant_270 : decode cX5_determinant 270 = .ok (.getfield 62, 3) := by decide +kernel
theorem dX5_determinant_273 : decode cX5_determinant 273 = .ok (.iconst 4, 1) := by decide +kernel
theorem dX5_determinant_274 : decode cX5_determinant 274 = .ok (.iload 11, 2) := by decide +kernel
theorem dX5_determinant_276 : decode cX5_determinant 276 = .ok (.imul, 1) := by decide +kernel
theorem dX5_determinant_277 : decode cX5_determinant 277 = .ok (.iload 12, 2) := by decide +kernel
theorem dX5_determinant_279 : decode cX5_determinant 279 = .ok (.iadd, 1) := by decide +kernel
theorem dX5_determinant_280 : decode cX5_determinant 280 = .ok (.laload, 1) := by decide +kernel
theorem dX5_determinant_281 : decode cX5_determinant 281 = .ok (.lload 9, 2) := by decide +kernel
theorem dX5_determinant_283 : decode cX5_determinant 283 = .ok (.lmul, 1) := by decide +kernel
theorem dX5_determinant_284 : decode cX5_determinant 284 = .ok (.aload_n 0, 1) := by decide +kernel
theorem dX5_determinant_285 : decode cX5_determinant 285 = .ok (.getfield 62, 3) := by decide +kernel
theorem dX5_determinant_288 : decode cX5_determinant 288 = .ok (.iconst 4, 1) := by decide +kernel
theorem dX5_determinant_289 : decode cX5_determinant 289 = .ok (.iload 11, 2) := by decide +kernel
theorem dX5_determinant_291 : decode cX5_determinant 291 = .ok (.imul, 1) := by decide +kernel
theorem dX5_determinant_292 : decode cX5_determinant 292 = .ok (.iload 7, 2) := by decide +kernel
theorem dX5_determinant_294 : decode cX5_determinant 294 = .ok (.iadd, 1) := by decide +kernel
theorem dX5_determinant_295 : decode cX5_determinant 295 = .ok (.laload, 1) := by decide +kernel
theorem dX5_determinant_296 : decode cX5_determinant 296 = .ok (.aload_n 0, 1) := by decide +kernel
theorem dX5_determinant_297 : decode cX5_determinant 297 = .ok (.getfield 62, 3) := by decide +kernel
theorem dX5_determinant_300 : decode cX5_determinant 300 = .ok (.iconst 4, 1) := by decide +kernel
theorem dX5_determinant_301 : decode cX5_determinant 301 = .ok (.iload 7, 2) := by decide +kernel
theorem dX5_determinant_303 : decode cX5_determinant 303 = .ok (.imul, 1) := by decide +kernel
theorem dX5_determinant_304 : decode cX5_determinant 304 = .ok (.iload 12, 2) := by decide +kernel
theorem dX5_determinant_306 : decode cX5_determinant 306 = .ok (.iadd, 1) := by decide +kernel
theorem dX5_determinant_307 : decode cX5_determinant 307 = .ok (.laload, 1) := by decide +kernel
theorem dX5_determinant_308 : decode cX5_determinant 308 = .ok (.lmul, 1) := by decide +kernel
theorem dX5_determinant_309 : decode cX5_determinant 309 = .ok (.lsub, 1) := by decide +kernel
theorem dX5_determinant_310 : decode cX5_determinant 310 = .ok (.lload 5, 2) := by decide +kernel
theorem dX5_determinant_312 : decode cX5_determinant 312 = .ok (.ldiv, 1) := by decide +kernel
theorem dX5_determinant_313 : decode cX5_determinant 313 = .ok (.lastore, 1) := by decide +kernel
theorem dX5_determinant_314 : decode cX5_determinant 314 = .ok (.iinc 12 (-1), 3) := by decide +kernel
theorem dX5_determinant_317 : decode cX5_determinant 317 = .ok (.goto (-66), 3) := by decide +kernel
theorem dX5_determinant_320 : decode cX5_determinant 320 = .ok (.iinc 11 1, 3) := by decide +kernel
theorem dX5_determinant_323 : decode cX5_determinant 323 = .ok (.goto (-83), 3) := by decide +kernel
theorem dX5_determinant_326 : decode cX5_determinant 326 = .ok (.lload 9, 2) := by decide +kernel
theorem dX5_determinant_328 : decode cX5_determinant 328 = .ok (.lstore 5, 2) := by decide +kernel
theorem dX5_determinant_330 : decode cX5_determinant 330 = .ok (.iinc 7 1, 3) := by decide +kernel
theorem dX5_determinant_333 : decode cX5_determinant 333 = .ok (.goto (-248), 3) := by decide +kernel
theorem dX5_determinant_336 : decode cX5_determinant 336 = .ok (.lload_n 3, 1) := by decide +kernel
theorem dX5_determinant_337 : decode cX5_determinant 337 = .ok (.lload 5, 2) := by decide +kernel
theorem dX5_determinant_339 : decode cX5_determinant 339 = .ok (.lmul, 1) := by decide +kernel
theorem dX5_determinant_340 : decode cX5_determinant 340 = .ok (.lreturn, 1) := by decide +kernel
theorem dX5_isPriced_0 : decode cX5_isPriced 0 = .ok (.iconst 0, 1) := by decide +kernel
theorem dX5_isPriced_1 : decode cX5_isPriced 1 = .ok (.istore_n 3, 1) := by decide +kernel
theorem dX5_isPriced_2 : decode cX5_isPriced 2 = .ok (.iconst 0, 1) := by decide +kernel
theorem dX5_isPriced_3 : decode cX5_isPriced 3 = .ok (.istore 4, 2) := by decide +kernel
theorem dX5_isPriced_5 : decode cX5_isPriced 5 = .ok (.iload 4, 2) := by decide +kernel
theorem dX5_isPriced_7 : decode cX5_isPriced 7 = .ok (.aload_n 0, 1) := by decide +kernel
theorem dX5_isPriced_8 : decode cX5_isPriced 8 = .ok (.getfield 146, 3) := by decide +kernel
theorem dX5_isPriced_11 : decode cX5_isPriced 11 = .ok (.if_icmp .ge 30, 3) := by decide +kernel
theorem dX5_isPriced_14 : decode cX5_isPriced 14 = .ok (.iload_n 1, 1) := by decide +kernel
theorem dX5_isPriced_15 : decode cX5_isPriced 15 = .ok (.iload 4, 2) := by decide +kernel
theorem dX5_isPriced_17 : decode cX5_isPriced 17 = .ok (.ishr, 1) := by decide +kernel
theorem dX5_isPriced_18 : decode cX5_isPriced 18 = .ok (.iconst 1, 1) := by decide +kernel
theorem dX5_isPriced_19 : decode cX5_isPriced 19 = .ok (.iand, 1) := by decide +kernel
theorem dX5_isPriced_20 : decode cX5_isPriced 20 = .ok (.iconst 1, 1) := by decide +kernel
theorem dX5_isPriced_21 : decode cX5_isPriced 21 = .ok (.if_icmp .ne 14, 3) := by decide +kernel
theorem dX5_isPriced_24 : decode cX5_isPriced 24 = .ok (.aload_n 0, 1) := by decide +kernel
theorem dX5_isPriced_25 : decode cX5_isPriced 25 = .ok (.getfield 59, 3) := by decide +kernel
theorem dX5_isPriced_28 : decode cX5_isPriced 28 = .ok (.iload_n 3, 1) := by decide +kernel
theorem dX5_isPriced_29 : decode cX5_isPriced 29 = .ok (.iload 4, 2) := by decide +kernel
theorem dX5_isPriced_31 : decode cX5_isPriced 31 = .ok (.iastore, 1) := by decide +kernel
theorem dX5_isPriced_32 : decode cX5_isPriced 32 = .ok (.iinc 3 1, 3) := by decide +kernel
theorem dX5_isPriced_35 : decode cX5_isPriced 35 = .ok (.iinc 4 1, 3) := by decide +kernel
theorem dX5_isPriced_38 : decode cX5_isPriced 38 = .ok (.goto (-33), 3) := by decide +kernel
theorem dX5_isPriced_41 : decode cX5_isPriced 41 = .ok (.iload_n 3, 1) := by decide +kernel
theorem dX5_isPriced_42 : decode cX5_isPriced 42 = .ok (.aload_n 0, 1) := by decide +kernel
theorem dX5_isPriced_43 : decode cX5_isPriced 43 = .ok (.getfield 66, 3) := by decide +kernel
theorem dX5_isPriced_46 : decode cX5_isPriced 46 = .ok (.if_icmp .eq 5, 3) := by decide +kernel
theorem dX5_isPriced_49 : decode cX5_isPriced 49 = .ok (.iconst 0, 1) := by decide +kernel
theorem dX5_isPriced_50 : decode cX5_isPriced 50 = .ok (.ireturn, 1) := by decide +kernel
theorem dX5_isPriced_51 : decode cX5_isPriced 51 = .ok (.aload_n 0, 1) := by decide +kernel
theorem dX5_isPriced_52 : decode cX5_isPriced 52 = .ok (.ldc 106, 2) := by decide +kernel
theorem dX5_isPriced_54 : decode cX5_isPriced 54 = .ok (.invokevirtual 152, 3) := by decide +kernel
theorem dX5_isPriced_57 : decode cX5_isPriced 57 = .ok (.lstore 4, 2) := by decide +kernel
theorem dX5_isPriced_59 : decode cX5_isPriced 59 = .ok (.lload 4, 2) := by decide +kernel
theorem dX5_isPriced_61 : decode cX5_isPriced 61 = .ok (.lconst 0, 1) := by decide +kernel
theorem dX5_isPriced_62 : decode cX5_isPriced 62 = .ok (.lcmp, 1) := by decide +kernel
theorem dX5_isPriced_63 : decode cX5_isPriced 63 = .ok (.ifCond .ne 5, 3) := by decide +kernel
theorem dX5_isPriced_66 : decode cX5_isPriced 66 = .ok (.iconst 0, 1) := by decide +kernel
theorem dX5_isPriced_67 : decode cX5_isPriced 67 = .ok (.ireturn, 1) := by decide +kernel
theorem dX5_isPriced_68 : decode cX5_isPriced 68 = .ok (.aload_n 0, 1) := by decide +kernel
theorem dX5_isPriced_69 : decode cX5_isPriced 69 = .ok (.lload 4, 2) := by decide +kernel
theorem dX5_isPriced_71 : decode cX5_isPriced 71 = .ok (.lconst 0, 1) := by decide +kernel
theorem dX5_isPriced_72 : decode cX5_isPriced 72 = .ok (.lcmp, 1) := by decide +kernel
theorem dX5_isPriced_73 : decode cX5_isPriced 73 = .ok (.ifCond .ge 9, 3) := by decide +kernel
theorem dX5_isPriced_76 : decode cX5_isPriced 76 = .ok (.lload 4, 2) := by decide +kernel
theorem dX5_isPriced_78 : decode cX5_isPriced 78 = .ok (.lneg, 1) := by decide +kernel
theorem dX5_isPriced_79 : decode cX5_isPriced 79 = .ok (.goto 5, 3) := by decide +kernel
theorem dX5_isPriced_82 : decode cX5_isPriced 82 = .ok (.lload 4, 2) := by decide +kernel
theorem dX5_isPriced_84 : decode cX5_isPriced 84 = .ok (.putfield 156, 3) := by decide +kernel
theorem dX5_isPriced_87 : decode cX5_isPriced 87 = .ok (.aload_n 0, 1) := by decide +kernel
theorem dX5_isPriced_88 : decode cX5_isPriced 88 = .ok (.lconst 0, 1) := by decide +kernel
theorem dX5_isPriced_89 : decode cX5_isPriced 89 = .ok (.putfield 160, 3) := by decide +kernel
theorem dX5_isPriced_92 : decode cX5_isPriced 92 = .ok (.aload_n 0, 1) := by decide +kernel
theorem dX5_isPriced_93 : decode cX5_isPriced 93 = .ok (.lconst 0, 1) := by decide +kernel
theorem dX5_isPriced_94 : decode cX5_isPriced 94 = .ok (.putfield 163, 3) := by decide +kernel
theorem dX5_isPriced_97 : decode cX5_isPriced 97 = .ok (.iconst 0, 1) := by decide +kernel
theorem dX5_isPriced_98 : decode cX5_isPriced 98 = .ok (.istore 6, 2) := by decide +kernel
theorem dX5_isPriced_100 : decode cX5_isPriced 100 = .ok (.iload 6, 2) := by decide +kernel
theorem dX5_isPriced_102 : decode cX5_isPriced 102 = .ok (.iload_n 3, 1) := by decide +kernel
theorem dX5_isPriced_103 : decode cX5_isPriced 103 = .ok (.if_icmp .ge 97, 3) := by decide +kernel
theorem dX5_isPriced_106 : decode cX5_isPriced 106 = .ok (.aload_n 0, 1) := by decide +kernel
theorem dX5_isPriced_107 : decode cX5_isPriced 107 = .ok (.iload 6, 2) := by decide +kernel
theorem dX5_isPriced_109 : decode cX5_isPriced 109 = .ok (.invokevirtual 152, 3) := by decide +kernel
theorem dX5_isPriced_112 : decode cX5_isPriced 112 = .ok (.lstore 7, 2) := by decide +kernel
theorem dX5_isPriced_114 : decode cX5_isPriced 114 = .ok (.lload 4, 2) := by decide +kernel
theorem dX5_isPriced_116 : decode cX5_isPriced 116 = .ok (.lconst 0, 1) := by decide +kernel
theorem dX5_isPriced_117 : decode cX5_isPriced 117 = .ok (.lcmp, 1) := by decide +kernel
theorem dX5_isPriced_118 : decode cX5_isPriced 118 = .ok (.ifCond .ge 9, 3) := by decide +kernel
theorem dX5_isPriced_121 : decode cX5_isPriced 121 = .ok (.lload 7, 2) := by decide +kernel
theorem dX5_isPriced_123 : decode cX5_isPriced 123 = .ok (.lneg, 1) := by decide +kernel
theorem dX5_isPriced_124 : decode cX5_isPriced 124 = .ok (.goto 5, 3) := by decide +kernel
theorem dX5_isPriced_127 : decode cX5_isPriced 127 = .ok (.lload 7, 2) := by decide +kernel
theorem dX5_isPriced_129 : decode cX5_isPriced 129 = .ok (.lstore 7, 2) := by decide +kernel
theorem dX5_isPriced_131 : decode cX5_isPriced 131 = .ok (.lload 7, 2) := by decide +kernel
theorem dX5_isPriced_133 : decode cX5_isPriced 133 = .ok (.lconst 0, 1) := by decide +kernel
theorem dX5_isPriced_134 : decode cX5_isPriced 134 = .ok (.lcmp, 1) := by decide +kernel
theorem dX5_isPriced_135 : decode cX5_isPriced 135 = .ok (.ifCond .ge 5, 3) := by decide +kernel
theorem dX5_isPriced_138 : decode cX5_isPriced 138 = .ok (.iconst 0, 1) := by decide +kernel
theorem dX5_isPriced_139 : decode cX5_isPriced 139 = .ok (.ireturn, 1) := by decide +kernel
theorem dX5_isPriced_140 : decode cX5_isPriced 140 = .ok (.aload_n 0, 1) := by decide +kernel
theorem dX5_isPriced_141 : decode cX5_isPriced 141 = .ok (.dup, 1) := by decide +kernel
theorem dX5_isPriced_142 : decode cX5_isPriced 142 = .ok (.getfield 160, 3) := by decide +kernel
theorem dX5_isPriced_145 : decode cX5_isPriced 145 = .ok (.lload 7, 2) := by decide +kernel
theorem dX5_isPriced_147 : decode cX5_isPriced 147 = .ok (.aload_n 0, 1) := by decide +kernel
theorem dX5_isPriced_148 : decode cX5_isPriced 148 = .ok (.getfield 53, 3) := by decide +kernel
theorem dX5_isPriced_151 : decode cX5_isPriced 151 = .ok (.aload_n 0, 1) := by decide +kernel
theorem dX5_isPriced_152 : decode cX5_isPriced 152 = .ok (.getfield 59, 3) := by decide +kernel
theorem dX5_isPriced_155 : decode cX5_isPriced 155 = .ok (.iload 6, 2) := by decide +kernel
theorem dX5_isPriced_157 : decode cX5_isPriced 157 = .ok (.iaload, 1) := by decide +kernel
theorem dX5_isPriced_158 : decode cX5_isPriced 158 = .ok (.iaload, 1) := by decide +kernel
theorem dX5_isPriced_159 : decode cX5_isPriced 159 = .ok (.i2l, 1) := by decide +kernel
theorem dX5_isPriced_160 : decode cX5_isPriced 160 = .ok (.lmul, 1) := by decide +kernel
theorem dX5_isPriced_161 : decode cX5_isPriced 161 = .ok (.ladd, 1) := by decide +kernel
theorem dX5_isPriced_162 : decode cX5_isPriced 162 = .ok (.putfield 160, 3) := by decide +kernel
theorem dX5_isPriced_165 : decode cX5_isPriced 165 = .ok (.aload_n 0, 1) := by decide +kernel
theorem dX5_isPriced_166 : decode cX5_isPriced 166 = .ok (.aload_n 0, 1) := by decide +kernel
theorem dX5_isPriced_167 : decode cX5_isPriced 167 = .ok (.getfield 56, 3) := by decide +kernel
theorem dX5_isPriced_170 : decode cX5_isPriced 170 = .ok (.aload_n 0, 1) := by decide +kernel
theorem dX5_isPriced_171 : decode cX5_isPriced 171 = .ok (.getfield 59, 3) := by decide +kernel
theorem dX5_isPriced_174 : decode cX5_isPriced 174 = .ok (.iload 6, 2) := by decide +kernel
theorem dX5_isPriced_176 : decode cX5_isPriced 176 = .ok (.iaload, 1) := by decide +kernel
theorem dX5_isPriced_177 : decode cX5_isPriced 177 = .ok (.iaload, 1) := by decide +kernel
theorem dX5_isPriced_178 : decode cX5_isPriced 178 = .ok (.iload_n 2, 1) := by decide +kernel
theorem dX5_isPriced_179 : decode cX5_isPriced 179 = .ok (.if_icmp .ne 8, 3) := by decide +kernel
theorem dX5_isPriced_182 : decode cX5_isPriced 182 = .ok (.lload 7, 2) := by decide +kernel
theorem dX5_isPriced_184 : decode cX5_isPriced 184 = .ok (.goto 7, 3) := by decide +kernel
theorem dX5_isPriced_187 : decode cX5_isPriced 187 = .ok (.aload_n 0, 1) := by decide +kernel
theorem dX5_isPriced_188 : decode cX5_isPriced 188 = .ok (.getfield 163, 3) := by decide +kernel
theorem dX5_isPriced_191 : decode cX5_isPriced 191 = .ok (.putfield 163, 3) := by decide +kernel
theorem dX5_isPriced_194 : decode cX5_isPriced 194 = .ok (.iinc 6 1, 3) := by decide +kernel
theorem dX5_isPriced_197 : decode cX5_isPriced 197 = .ok (.goto (-97), 3) := by decide +kernel
theorem dX5_isPriced_200 : decode cX5_isPriced 200 = .ok (.iconst 1, 1) := by decide +kernel
theorem dX5_isPriced_201 : decode cX5_isPriced 201 = .ok (.ireturn, 1) := by decide +kernel
theorem dX5_shares_0 : decode cX5_shares 0 = .ok (.aload_n 0, 1) := by decide +kernel
theorem dX5_shares_1 : decode cX5_shares 1 = .ok (.invokevirtual 166, 3) := by decide +kernel
theorem dX5_shares_4 : decode cX5_shares 4 = .ok (.aload_n 0, 1) := by decide +kernel
theorem dX5_shares_5 : decode cX5_shares 5 = .ok (.lconst 0, 1) := by decide +kernel
theorem dX5_shares_6 : decode cX5_shares 6 = .ok (.putfield 169, 3) := by decide +kernel
theorem dX5_shares_9 : decode cX5_shares 9 = .ok (.iconst 0, 1) := by decide +kernel
theorem dX5_shares_10 : decode cX5_shares 10 = .ok (.istore_n 2, 1) := by decide +kernel
theorem dX5_shares_11 : decode cX5_shares 11 = .ok (.iload_n 2, 1) := by decide +kernel
theorem dX5_shares_12 : decode cX5_shares 12 = .ok (.iconst 1, 1) := by decide +kernel
theorem dX5_shares_13 : decode cX5_shares 13 = .ok (.aload_n 0, 1) := by decide +kernel
theorem dX5_shares_14 : decode cX5_shares 14 = .ok (.getfield 146, 3) := by decide +kernel
theorem dX5_shares_17 : decode cX5_shares 17 = .ok (.ishl, 1) := by decide +kernel
theorem dX5_shares_18 : decode cX5_shares 18 = .ok (.if_icmp .ge 108, 3) := by decide +kernel
theorem dX5_shares_21 : decode cX5_shares 21 = .ok (.aload_n 0, 1) := by decide +kernel
theorem dX5_shares_22 : decode cX5_shares 22 = .ok (.iload_n 2, 1) := by decide +kernel
theorem dX5_shares_23 : decode cX5_shares 23 = .ok (.iload_n 1, 1) := by decide +kernel
theorem dX5_shares_24 : decode cX5_shares 24 = .ok (.invokevirtual 172, 3) := by decide +kernel
theorem dX5_shares_27 : decode cX5_shares 27 = .ok (.ifCond .ne 6, 3) := by decide +kernel
theorem dX5_shares_30 : decode cX5_shares 30 = .ok (.goto 90, 3) := by decide +kernel
theorem dX5_shares_33 : decode cX5_shares 33 = .ok (.aload_n 0, 1) := by decide +kernel
theorem dX5_shares_34 : decode cX5_shares 34 = .ok (.getfield 160, 3) := by decide +kernel
theorem dX5_shares_37 : decode cX5_shares 37 = .ok (.aload_n 0, 1) := by decide +kernel
theorem dX5_shares_38 : decode cX5_shares 38 = .ok (.getfield 169, 3) := by decide +kernel
theorem dX5_shares_41 : decode cX5_shares 41 = .ok (.lmul, 1) := by decide +kernel
theorem dX5_shares_42 : decode cX5_shares 42 = .ok (.aload_n 0, 1) := by decide +kernel
theorem dX5_shares_43 : decode cX5_shares 43 = .ok (.getfield 176, 3) := by decide +kernel
theorem dX5_shares_46 : decode cX5_shares 46 = .ok (.aload_n 0, 1) := by decide +kernel
theorem dX5_shares_47 : decode cX5_shares 47 = .ok (.getfield 156, 3) := by decide +kernel
theorem dX5_shares_50 : decode cX5_shares 50 = .ok (.lmul, 1) := by decide +kernel
theorem dX5_shares_51 : decode cX5_shares 51 = .ok (.lsub, 1) := by decide +kernel
theorem dX5_shares_52 : decode cX5_shares 52 = .ok (.lstore_n 3, 1) := by decide +kernel
theorem dX5_shares_53 : decode cX5_shares 53 = .ok (.aload_n 0, 1) := by decide +kernel
theorem dX5_shares_54 : decode cX5_shares 54 = .ok (.getfield 169, 3) := by decide +kernel
theorem dX5_shares_57 : decode cX5_shares 57 = .ok (.lconst 0, 1) := by decide +kernel
theorem dX5_shares_58 : decode cX5_shares 58 = .ok (.lcmp, 1) := by decide +kernel
theorem dX5_shares_59 : decode cX5_shares 59 = .ok (.ifCond .eq 37, 3) := by decide +kernel
theorem dX5_shares_62 : decode cX5_shares 62 = .ok (.lload_n 3, 1) := by decide +kernel
theorem dX5_shares_63 : decode cX5_shares 63 = .ok (.lconst 0, 1) := by decide +kernel
theorem dX5_shares_64 : decode cX5_shares 64 = .ok (.lcmp, 1) := by decide +kernel
theorem dX5_shares_65 : decode cX5_shares 65 = .ok (.ifCond .lt 31, 3) := by decide +kernel
theorem dX5_shares_68 : decode cX5_shares 68 = .ok (.lload_n 3, 1) := by decide +kernel
theorem dX5_shares_69 : decode cX5_shares 69 = .ok (.lconst 0, 1) := by decide +kernel
theorem dX5_shares_70 : decode cX5_shares 70 = .ok (.lcmp, 1) := by decide +kernel
theorem dX5_shares_71 : decode cX5_shares 71 = .ok (.ifCond .ne 49, 3) := by decide +kernel
theorem dX5_shares_74 : decode cX5_shares 74 = .ok (.aload_n 0, 1) := by decide +kernel
theorem dX5_shares_75 : decode cX5_shares 75 = .ok (.getfield 163, 3) := by decide +kernel
theorem dX5_shares_78 : decode cX5_shares 78 = .ok (.aload_n 0, 1) := by decide +kernel
theorem dX5_shares_79 : decode cX5_shares 79 = .ok (.getfield 169, 3) := by decide +kernel
theorem dX5_shares_82 : decode cX5_shares 82 = .ok (.lmul, 1) := by decide +kernel
theorem dX5_shares_83 : decode cX5_shares 83 = .ok (.aload_n 0, 1) := by decide +kernel
theorem dX5_shares_84 : decode cX5_shares 84 = .ok (.getfield 179, 3) := by decide +kernel
theorem dX5_shares_87 : decode cX5_shares 87 = .ok (.aload_n 0, 1) := by decide +kernel
theorem dX5_shares_88 : decode cX5_shares 88 = .ok (.getfield 156, 3) := by decide +kernel
theorem dX5_shares_91 : decode cX5_shares 91 = .ok (.lmul, 1) := by decide +kernel
theorem dX5_shares_92 : decode cX5_shares 92 = .ok (.lcmp, 1) := by decide +kernel
theorem dX5_shares_93 : decode cX5_shares 93 = .ok (.ifCond .ge 27, 3) := by decide +kernel
theorem dX5_shares_96 : decode cX5_shares 96 = .ok (.aload_n 0, 1) := by decide +kernel
theorem dX5_shares_97 : decode cX5_shares 97 = .ok (.aload_n 0, 1) := by decide +kernel
theorem dX5_shares_98 : decode cX5_shares 98 = .ok (.getfield 160, 3) := by decide +kernel
theorem dX5_shares_101 : decode cX5_shares 101 = .ok (.putfield 176, 3) := by decide +kernel
theorem dX5_shares_104 : decode cX5_shares 104 = .ok (.aload_n 0, 1) := by decide +kernel
theorem dX5_shares_105 : decode cX5_shares 105 = .ok (.aload_n 0, 1) := by decide +kernel
theorem dX5_shares_106 : decode cX5_shares 106 = .ok (.getfield 163, 3) := by decide +kernel
theorem dX5_shares_109 : decode cX5_shares 109 = .ok (.putfield 179, 3) := by decide +kernel
theorem dX5_shares_112 : decode cX5_shares 112 = .ok (.aload_n 0, 1) := by decide +kernel
theorem dX5_shares_113 : decode cX5_shares 113 = .ok (.aload_n 0, 1) := by decide +kernel
theorem dX5_shares_114 : decode cX5_shares 114 = .ok (.getfield 156, 3) := by decide +kernel
theorem dX5_shares_117 : decode cX5_shares 117 = .ok (.putfield 169, 3) := by decide +kernel
theorem dX5_shares_120 : decode cX5_shares 120 = .ok (.iinc 2 1, 3) := by decide +kernel
theorem dX5_shares_123 : decode cX5_shares 123 = .ok (.goto (-112), 3) := by decide +kernel
theorem dX5_shares_126 : decode cX5_shares 126 = .ok (.return_, 1) := by decide +kernel
theorem dX5_part_0 : decode cX5_part 0 = .ok (.lload_n 0, 1) := by decide +kernel
theorem dX5_part_1 : decode cX5_part 1 = .ok (.lstore 5, 2) := by decide +kernel
theorem dX5_part_3 : decode cX5_part 3 = .ok (.lload_n 2, 1) := by decide +kernel
theorem dX5_part_4 : decode cX5_part 4 = .ok (.lstore 7, 2) := by decide +kernel
theorem dX5_part_6 : decode cX5_part 6 = .ok (.lload 7, 2) := by decide +kernel
theorem dX5_part_8 : decode cX5_part 8 = .ok (.lconst 0, 1) := by decide +kernel
theorem dX5_part_9 : decode cX5_part 9 = .ok (.lcmp, 1) := by decide +kernel
theorem dX5_part_10 : decode cX5_part 10 = .ok (.ifCond .eq 21, 3) := by decide +kernel
theorem dX5_part_13 : decode cX5_part 13 = .ok (.lload 5, 2) := by decide +kernel
theorem dX5_part_15 : decode cX5_part 15 = .ok (.lload 7, 2) := by decide +kernel
theorem dX5_part_17 : decode cX5_part 17 = .ok (.lrem, 1) := by decide +kernel
theorem dX5_part_18 : decode cX5_part 18 = .ok (.lstore 9, 2) := by decide +kernel
theorem dX5_part_20 : decode cX5_part 20 = .ok (.lload 7, 2) := by decide +kernel
theorem dX5_part_22 : decode cX5_part 22 = .ok (.lstore 5, 2) := by decide +kernel
theorem dX5_part_24 : decode cX5_part 24 = .ok (.lload 9, 2) := by decide +kernel
theorem dX5_part_26 : decode cX5_part 26 = .ok (.lstore 7, 2) := by decide +kernel
theorem dX5_part_28 : decode cX5_part 28 = .ok (.goto (-22), 3) := by decide +kernel
theorem dX5_part_31 : decode cX5_part 31 = .ok (.iload 4, 2) := by decide +kernel
theorem dX5_part_33 : decode cX5_part 33 = .ok (.ifCond .eq 10, 3) := by decide +kernel
theorem dX5_part_36 : decode cX5_part 36 = .ok (.lload_n 2, 1) := by decide +kernel
theorem dX5_part_37 : decode cX5_part 37 = .ok (.lload 5, 2) := by decide +kernel
theorem dX5_part_39 : decode cX5_part 39 = .ok (.ldiv, 1) := by decide +kernel
theorem dX5_part_40 : decode cX5_part 40 = .ok (.goto 7, 3) := by decide +kernel
theorem dX5_part_43 : decode cX5_part 43 = .ok (.lload_n 0, 1) := by decide +kernel
theorem dX5_part_44 : decode cX5_part 44 = .ok (.lload 5, 2) := by decide +kernel
theorem dX5_part_46 : decode cX5_part 46 = .ok (.ldiv, 1) := by decide +kernel
theorem dX5_part_47 : decode cX5_part 47 = .ok (.lreturn, 1) := by decide +kernel
theorem dX5_share_0 : decode cX5_share 0 = .ok (.aload_n 0, 1) := by decide +kernel
theorem dX5_share_1 : decode cX5_share 1 = .ok (.ldc 106, 2) := by decide +kernel
theorem dX5_share_3 : decode cX5_share 3 = .ok (.invokevirtual 182, 3) := by decide +kernel
theorem dX5_share_6 : decode cX5_share 6 = .ok (.aload_n 0, 1) := by decide +kernel
theorem dX5_share_7 : decode cX5_share 7 = .ok (.getfield 176, 3) := by decide +kernel
theorem dX5_share_10 : decode cX5_share 10 = .ok (.aload_n 0, 1) := by decide +kernel
theorem dX5_share_11 : decode cX5_share 11 = .ok (.getfield 169, 3) := by decide +kernel
theorem dX5_share_14 : decode cX5_share 14 = .ok (.iload_n 1, 1) := by decide +kernel
theorem dX5_share_15 : decode cX5_share 15 = .ok (.invokestatic 186, 3) := by decide +kernel
theorem dX5_share_18 : decode cX5_share 18 = .ok (.lreturn, 1) := by decide +kernel
theorem dX5_isPrice_0 : decode cX5_isPrice 0 = .ok (.aload_n 0, 1) := by decide +kernel
theorem dX5_isPrice_1 : decode cX5_isPrice 1 = .ok (.iload_n 1, 1) := by decide +kernel
theorem dX5_isPrice_2 : decode cX5_isPrice 2 = .ok (.invokevirtual 97, 3) := by decide +kernel
theorem dX5_isPrice_5 : decode cX5_isPrice 5 = .ok (.ifCond .eq 17, 3) := by decide +kernel
theorem dX5_isPrice_8 : decode cX5_isPrice 8 = .ok (.aload_n 0, 1) := by decide +kernel
theorem dX5_isPrice_9 : decode cX5_isPrice 9 = .ok (.getfield 16, 3) := by decide +kernel
theorem dX5_isPrice_12 : decode cX5_isPrice 12 = .ok (.iload_n 1, 1) := by decide +kernel
theorem dX5_isPrice_13 : decode cX5_isPrice 13 = .ok (.iaload, 1) := by decide +kernel
theorem dX5_isPrice_14 : decode cX5_isPrice 14 = .ok (.iconst 2, 1) := by decide +kernel
theorem dX5_isPrice_15 : decode cX5_isPrice 15 = .ok (.if_icmp .eq 7, 3) := by decide +kernel
theorem dX5_isPrice_18 : decode cX5_isPrice 18 = .ok (.iconst 1, 1) := by decide +kernel
theorem dX5_isPrice_19 : decode cX5_isPrice 19 = .ok (.goto 4, 3) := by decide +kernel
theorem dX5_isPrice_22 : decode cX5_isPrice 22 = .ok (.iconst 0, 1) := by decide +kernel
theorem dX5_isPrice_23 : decode cX5_isPrice 23 = .ok (.ireturn, 1) := by decide +kernel
theorem dX5_sharePrice_0 : decode cX5_sharePrice 0 = .ok (.aload_n 0, 1) := by decide +kernel
theorem dX5_sharePrice_1 : decode cX5_sharePrice 1 = .ok (.iload_n 1, 1) := by decide +kernel
theorem dX5_sharePrice_2 : decode cX5_sharePrice 2 = .ok (.invokevirtual 190, 3) := by decide +kernel
theorem dX5_sharePrice_5 : decode cX5_sharePrice 5 = .ok (.ifCond .ne 7, 3) := by decide +kernel
theorem dX5_sharePrice_8 : decode cX5_sharePrice 8 = .ok (.ldc2_w 193, 3) := by decide +kernel
theorem dX5_sharePrice_11 : decode cX5_sharePrice 11 = .ok (.lreturn, 1) := by decide +kernel
theorem dX5_sharePrice_12 : decode cX5_sharePrice 12 = .ok (.aload_n 0, 1) := by decide +kernel
theorem dX5_sharePrice_13 : decode cX5_sharePrice 13 = .ok (.iload_n 1, 1) := by decide +kernel
theorem dX5_sharePrice_14 : decode cX5_sharePrice 14 = .ok (.invokevirtual 182, 3) := by decide +kernel
theorem dX5_sharePrice_17 : decode cX5_sharePrice 17 = .ok (.aload_n 0, 1) := by decide +kernel
theorem dX5_sharePrice_18 : decode cX5_sharePrice 18 = .ok (.getfield 179, 3) := by decide +kernel
theorem dX5_sharePrice_21 : decode cX5_sharePrice 21 = .ok (.aload_n 0, 1) := by decide +kernel
theorem dX5_sharePrice_22 : decode cX5_sharePrice 22 = .ok (.getfield 169, 3) := by decide +kernel
theorem dX5_sharePrice_25 : decode cX5_sharePrice 25 = .ok (.iload_n 2, 1) := by decide +kernel
theorem dX5_sharePrice_26 : decode cX5_sharePrice 26 = .ok (.invokestatic 186, 3) := by decide +kernel
theorem dX5_sharePrice_29 : decode cX5_sharePrice 29 = .ok (.lreturn, 1) := by decide +kernel
theorem dX5_holds_0 : decode cX5_holds 0 = .ok (.aload_n 0, 1) := by decide +kernel
theorem dX5_holds_1 : decode cX5_holds 1 = .ok (.iload_n 1, 1) := by decide +kernel
theorem dX5_holds_2 : decode cX5_holds 2 = .ok (.invokevirtual 190, 3) := by decide +kernel
theorem dX5_holds_5 : decode cX5_holds 5 = .ok (.ifCond .ne 6, 3) := by decide +kernel
theorem dX5_holds_8 : decode cX5_holds 8 = .ok (.ldc 85, 2) := by decide +kernel
theorem dX5_holds_10 : decode cX5_holds 10 = .ok (.ireturn, 1) := by decide +kernel
theorem dX5_holds_11 : decode cX5_holds 11 = .ok (.aload_n 0, 1) := by decide +kernel
theorem dX5_holds_12 : decode cX5_holds 12 = .ok (.iload_n 1, 1) := by decide +kernel
theorem dX5_holds_13 : decode cX5_holds 13 = .ok (.invokevirtual 182, 3) := by decide +kernel
theorem dX5_holds_16 : decode cX5_holds 16 = .ok (.ldc2_w 195, 3) := by decide +kernel
theorem dX5_holds_19 : decode cX5_holds 19 = .ok (.lstore_n 2, 1) := by decide +kernel
theorem dX5_holds_20 : decode cX5_holds 20 = .ok (.iconst 0, 1) := by decide +kernel
theorem dX5_holds_21 : decode cX5_holds 21 = .ok (.istore 4, 2) := by decide +kernel
theorem dX5_holds_23 : decode cX5_holds 23 = .ok (.iload 4, 2) := by decide +kernel
theorem dX5_holds_25 : decode cX5_holds 25 = .ok (.iconst 1, 1) := by decide +kernel
theorem dX5_holds_26 : decode cX5_holds 26 = .ok (.aload_n 0, 1) := by decide +kernel
theorem dX5_holds_27 : decode cX5_holds 27 = .ok (.getfield 146, 3) := by decide +kernel
theorem dX5_holds_30 : decode cX5_holds 30 = .ok (.ishl, 1) := by decide +kernel
theorem dX5_holds_31 : decode cX5_holds 31 = .ok (.if_icmp .ge 96, 3) := by decide +kernel
theorem dX5_holds_34 : decode cX5_holds 34 = .ok (.aload_n 0, 1) := by decide +kernel
theorem dX5_holds_35 : decode cX5_holds 35 = .ok (.iload 4, 2) := by decide +kernel
theorem dX5_holds_37 : decode cX5_holds 37 = .ok (.iload_n 1, 1) := by decide +kernel
theorem dX5_holds_38 : decode cX5_holds 38 = .ok (.invokevirtual 172, 3) := by decide +kernel
theorem dX5_holds_41 : decode cX5_holds 41 = .ok (.ifCond .eq 80, 3) := by decide +kernel
theorem dX5_holds_44 : decode cX5_holds 44 = .ok (.aload_n 0, 1) := by decide +kernel
theorem dX5_holds_45 : decode cX5_holds 45 = .ok (.getfield 163, 3) := by decide +kernel
theorem dX5_holds_48 : decode cX5_holds 48 = .ok (.aload_n 0, 1) := by decide +kernel
theorem dX5_holds_49 : decode cX5_holds 49 = .ok (.getfield 169, 3) := by decide +kernel
theorem dX5_holds_52 : decode cX5_holds 52 = .ok (.lmul, 1) := by decide +kernel
theorem dX5_holds_53 : decode cX5_holds 53 = .ok (.aload_n 0, 1) := by decide +kernel
theorem dX5_holds_54 : decode cX5_holds 54 = .ok (.getfield 179, 3) := by decide +kernel
theorem dX5_holds_57 : decode cX5_holds 57 = .ok (.aload_n 0, 1) := by decide +kernel
theorem dX5_holds_58 : decode cX5_holds 58 = .ok (.getfield 156, 3) := by decide +kernel
theorem dX5_holds_61 : decode cX5_holds 61 = .ok (.lmul, 1) := by decide +kernel
theorem dX5_holds_62 : decode cX5_holds 62 = .ok (.lcmp, 1) := by decide +kernel
theorem dX5_holds_63 : decode cX5_holds 63 = .ok (.ifCond .ge 58, 3) := by decide +kernel
theorem dX5_holds_66 : decode cX5_holds 66 = .ok (.aload_n 0, 1) := by decide +kernel
theorem dX5_holds_67 : decode cX5_holds 67 = .ok (.getfield 160, 3) := by decide +kernel
theorem dX5_holds_70 : decode cX5_holds 70 = .ok (.aload_n 0, 1) := by decide +kernel
theorem dX5_holds_71 : decode cX5_holds 71 = .ok (.getfield 169, 3) := by decide +kernel
theorem dX5_holds_74 : decode cX5_holds 74 = .ok (.lmul, 1) := by decide +kernel
theorem dX5_holds_75 : decode cX5_holds 75 = .ok (.aload_n 0, 1) := by decide +kernel
theorem dX5_holds_76 : decode cX5_holds 76 = .ok (.getfield 176, 3) := by decide +kernel
theorem dX5_holds_79 : decode cX5_holds 79 = .ok (.aload_n 0, 1) := by decide +kernel
theorem dX5_holds_80 : decode cX5_holds 80 = .ok (.getfield 156, 3) := by decide +kernel
theorem dX5_holds_83 : decode cX5_holds 83 = .ok (.lmul, 1) := by decide +kernel
theorem dX5_holds_84 : decode cX5_holds 84 = .ok (.lsub, 1) := by decide +kernel
theorem dX5_holds_85 : decode cX5_holds 85 = .ok (.aload_n 0, 1) := by decide +kernel
theorem dX5_holds_86 : decode cX5_holds 86 = .ok (.getfield 179, 3) := by decide +kernel
theorem dX5_holds_89 : decode cX5_holds 89 = .ok (.aload_n 0, 1) := by decide +kernel
theorem dX5_holds_90 : decode cX5_holds 90 = .ok (.getfield 156, 3) := by decide +kernel
theorem dX5_holds_93 : decode cX5_holds 93 = .ok (.lmul, 1) := by decide +kernel
theorem dX5_holds_94 : decode cX5_holds 94 = .ok (.aload_n 0, 1) := by decide +kernel
theorem dX5_holds_95 : decode cX5_holds 95 = .ok (.getfield 163, 3) := by decide +kernel
theorem dX5_holds_98 : decode cX5_holds 98 = .ok (.aload_n 0, 1) := by decide +kernel
theorem dX5_holds_99 : decode cX5_holds 99 = .ok (.getfield 169, 3) := by decide +kernel
theorem dX5_holds_102 : decode cX5_holds 102 = .ok (.lmul, 1) := by decide +kernel
theorem dX5_holds_103 : decode cX5_holds 103 = .ok (.lsub, 1) := by decide +kernel
theorem dX5_holds_104 : decode cX5_holds 104 = .ok (.ldiv, 1) := by decide +kernel
theorem dX5_holds_105 : decode cX5_holds 105 = .ok (.lstore 5, 2) := by decide +kernel
theorem dX5_holds_107 : decode cX5_holds 107 = .ok (.lload 5, 2) := by decide +kernel
theorem dX5_holds_109 : decode cX5_holds 109 = .ok (.lload_n 2, 1) := by decide +kernel
theorem dX5_holds_110 : decode cX5_holds 110 = .ok (.lcmp, 1) := by decide +kernel
theorem dX5_holds_111 : decode cX5_holds 111 = .ok (.ifCond .ge 8, 3) := by decide +kernel
theorem dX5_holds_114 : decode cX5_holds 114 = .ok (.lload 5, 2) := by decide +kernel
theorem dX5_holds_116 : decode cX5_holds 116 = .ok (.goto 4, 3) := by decide +kernel
theorem dX5_holds_119 : decode cX5_holds 119 = .ok (.lload_n 2, 1) := by decide +kernel
theorem dX5_holds_120 : decode cX5_holds 120 = .ok (.lstore_n 2, 1) := by decide +kernel
theorem dX5_holds_121 : decode cX5_holds 121 = .ok (.iinc 4 1, 3) := by decide +kernel
theorem dX5_holds_124 : decode cX5_holds 124 = .ok (.goto (-101), 3) := by decide +kernel
theorem dX5_holds_127 : decode cX5_holds 127 = .ok (.lload_n 2, 1) := by decide +kernel
theorem dX5_holds_128 : decode cX5_holds 128 = .ok (.l2i, 1) := by decide +kernel
theorem dX5_holds_129 : decode cX5_holds 129 = .ok (.ireturn, 1) := by decide +kernel
theorem dX5_gap_0 : decode cX5_gap 0 = .ok (.aload_n 0, 1) := by decide +kernel
theorem dX5_gap_1 : decode cX5_gap 1 = .ok (.ldc 106, 2) := by decide +kernel
theorem dX5_gap_3 : decode cX5_gap 3 = .ok (.invokevirtual 182, 3) := by decide +kernel
theorem dX5_gap_6 : decode cX5_gap 6 = .ok (.aload_n 0, 1) := by decide +kernel
theorem dX5_gap_7 : decode cX5_gap 7 = .ok (.getfield 176, 3) := by decide +kernel
theorem dX5_gap_10 : decode cX5_gap 10 = .ok (.aload_n 0, 1) := by decide +kernel
theorem dX5_gap_11 : decode cX5_gap 11 = .ok (.invokevirtual 134, 3) := by decide +kernel
theorem dX5_gap_14 : decode cX5_gap 14 = .ok (.i2l, 1) := by decide +kernel
theorem dX5_gap_15 : decode cX5_gap 15 = .ok (.aload_n 0, 1) := by decide +kernel
theorem dX5_gap_16 : decode cX5_gap 16 = .ok (.getfield 169, 3) := by decide +kernel
theorem dX5_gap_19 : decode cX5_gap 19 = .ok (.lmul, 1) := by decide +kernel
theorem dX5_gap_20 : decode cX5_gap 20 = .ok (.lsub, 1) := by decide +kernel
theorem dX5_gap_21 : decode cX5_gap 21 = .ok (.aload_n 0, 1) := by decide +kernel
theorem dX5_gap_22 : decode cX5_gap 22 = .ok (.getfield 169, 3) := by decide +kernel
theorem dX5_gap_25 : decode cX5_gap 25 = .ok (.iload_n 1, 1) := by decide +kernel
theorem dX5_gap_26 : decode cX5_gap 26 = .ok (.invokestatic 186, 3) := by decide +kernel
theorem dX5_gap_29 : decode cX5_gap 29 = .ok (.lreturn, 1) := by decide +kernel
theorem dX5_told_0 : decode cX5_told 0 = .ok (.iconst 0, 1) := by decide +kernel
theorem dX5_told_1 : decode cX5_told 1 = .ok (.istore_n 2, 1) := by decide +kernel
theorem dX5_told_2 : decode cX5_told 2 = .ok (.iconst 0, 1) := by decide +kernel
theorem dX5_told_3 : decode cX5_told 3 = .ok (.istore_n 3, 1) := by decide +kernel
theorem dX5_told_4 : decode cX5_told 4 = .ok (.iload_n 3, 1) := by decide +kernel
theorem dX5_told_5 : decode cX5_told 5 = .ok (.aload_n 0, 1) := by decide +kernel
theorem dX5_told_6 : decode cX5_told 6 = .ok (.getfield 74, 3) := by decide +kernel
theorem dX5_told_9 : decode cX5_told 9 = .ok (.if_icmp .ge 26, 3) := by decide +kernel
theorem dX5_told_12 : decode cX5_told 12 = .ok (.iload_n 2, 1) := by decide +kernel
theorem dX5_told_13 : decode cX5_told 13 = .ok (.aload_n 0, 1) := by decide +kernel
theorem dX5_told_14 : decode cX5_told 14 = .ok (.getfield 28, 3) := by decide +kernel
theorem dX5_told_17 : decode cX5_told 17 = .ok (.iload_n 3, 1) := by decide +kernel
theorem dX5_told_18 : decode cX5_told 18 = .ok (.baload, 1) := by decide +kernel
theorem dX5_told_19 : decode cX5_told 19 = .ok (.ifCond .eq 7, 3) := by decide +kernel
theorem dX5_told_22 : decode cX5_told 22 = .ok (.iconst 1, 1) := by decide +kernel
theorem dX5_told_23 : decode cX5_told 23 = .ok (.goto 4, 3) := by decide +kernel
theorem dX5_told_26 : decode cX5_told 26 = .ok (.iconst 0, 1) := by decide +kernel
theorem dX5_told_27 : decode cX5_told 27 = .ok (.iadd, 1) := by decide +kernel
theorem dX5_told_28 : decode cX5_told 28 = .ok (.istore_n 2, 1) := by decide +kernel
theorem dX5_told_29 : decode cX5_told 29 = .ok (.iinc 3 1, 3) := by decide +kernel
theorem dX5_told_32 : decode cX5_told 32 = .ok (.goto (-28), 3) := by decide +kernel
theorem dX5_told_35 : decode cX5_told 35 = .ok (.iload_n 1, 1) := by decide +kernel
theorem dX5_told_36 : decode cX5_told 36 = .ok (.i2l, 1) := by decide +kernel
theorem dX5_told_37 : decode cX5_told 37 = .ok (.lconst 0, 1) := by decide +kernel
theorem dX5_told_38 : decode cX5_told 38 = .ok (.ldc2_w 87, 3) := by decide +kernel
theorem dX5_told_41 : decode cX5_told 41 = .ok (.invokestatic 70, 3) := by decide +kernel
theorem dX5_told_44 : decode cX5_told 44 = .ok (.ifCond .eq 28, 3) := by decide +kernel
theorem dX5_told_47 : decode cX5_told 47 = .ok (.iload_n 1, 1) := by decide +kernel
theorem dX5_told_48 : decode cX5_told 48 = .ok (.ifCond .ne 10, 3) := by decide +kernel
theorem dX5_told_51 : decode cX5_told 51 = .ok (.aload_n 0, 1) := by decide +kernel
theorem dX5_told_52 : decode cX5_told 52 = .ok (.getfield 66, 3) := by decide +kernel
theorem dX5_told_55 : decode cX5_told 55 = .ok (.goto 16, 3) := by decide +kernel
theorem dX5_told_58 : decode cX5_told 58 = .ok (.iload_n 1, 1) := by decide +kernel
theorem dX5_told_59 : decode cX5_told 59 = .ok (.iconst 1, 1) := by decide +kernel
theorem dX5_told_60 : decode cX5_told 60 = .ok (.if_icmp .ne 10, 3) := by decide +kernel
theorem dX5_told_63 : decode cX5_told 63 = .ok (.aload_n 0, 1) := by decide +kernel
theorem dX5_told_64 : decode cX5_told 64 = .ok (.getfield 74, 3) := by decide +kernel
theorem dX5_told_67 : decode cX5_told 67 = .ok (.goto 4, 3) := by decide +kernel
theorem dX5_told_70 : decode cX5_told 70 = .ok (.iload_n 2, 1) := by decide +kernel
theorem dX5_told_71 : decode cX5_told 71 = .ok (.ireturn, 1) := by decide +kernel
theorem dX5_told_72 : decode cX5_told 72 = .ok (.iload_n 1, 1) := by decide +kernel
theorem dX5_told_73 : decode cX5_told 73 = .ok (.bipush 10, 2) := by decide +kernel
theorem dX5_told_75 : decode cX5_told 75 = .ok (.irem, 1) := by decide +kernel
theorem dX5_told_76 : decode cX5_told 76 = .ok (.istore_n 3, 1) := by decide +kernel
theorem dX5_told_77 : decode cX5_told 77 = .ok (.iload_n 1, 1) := by decide +kernel
theorem dX5_told_78 : decode cX5_told 78 = .ok (.i2l, 1) := by decide +kernel
theorem dX5_told_79 : decode cX5_told 79 = .ok (.ldc2_w 197, 3) := by decide +kernel
theorem dX5_told_82 : decode cX5_told 82 = .ok (.ldc2_w 199, 3) := by decide +kernel
theorem dX5_told_85 : decode cX5_told 85 = .ok (.invokestatic 70, 3) := by decide +kernel
theorem dX5_told_88 : decode cX5_told 88 = .ok (.ifCond .eq 33, 3) := by decide +kernel
theorem dX5_told_91 : decode cX5_told 91 = .ok (.aload_n 0, 1) := by decide +kernel
theorem dX5_told_92 : decode cX5_told 92 = .ok (.iload_n 3, 1) := by decide +kernel
theorem dX5_told_93 : decode cX5_told 93 = .ok (.invokevirtual 97, 3) := by decide +kernel
theorem dX5_told_96 : decode cX5_told 96 = .ok (.ifCond .eq 25, 3) := by decide +kernel
theorem dX5_told_99 : decode cX5_told 99 = .ok (.iload_n 1, 1) := by decide +kernel
theorem dX5_told_100 : decode cX5_told 100 = .ok (.bipush 20, 2) := by decide +kernel
theorem dX5_told_102 : decode cX5_told 102 = .ok (.if_icmp .ge 12, 3) := by decide +kernel
theorem dX5_told_105 : decode cX5_told 105 = .ok (.aload_n 0, 1) := by decide +kernel
theorem dX5_told_106 : decode cX5_told 106 = .ok (.getfield 16, 3) := by decide +kernel
theorem dX5_told_109 : decode cX5_told 109 = .ok (.iload_n 3, 1) := by decide +kernel
theorem dX5_told_110 : decode cX5_told 110 = .ok (.iaload, 1) := by decide +kernel
theorem dX5_told_111 : decode cX5_told 111 = .ok (.goto 9, 3) := by decide +kernel
theorem dX5_told_114 : decode cX5_told 114 = .ok (.aload_n 0, 1) := by decide +kernel
theorem dX5_told_115 : decode cX5_told 115 = .ok (.getfield 25, 3) := by decide +kernel
theorem dX5_told_118 : decode cX5_told 118 = .ok (.iload_n 3, 1) := by decide +kernel
theorem dX5_told_119 : decode cX5_told 119 = .ok (.iaload, 1) := by decide +kernel
theorem dX5_told_120 : decode cX5_told 120 = .ok (.ireturn, 1) := by decide +kernel
theorem dX5_told_121 : decode cX5_told 121 = .ok (.iload_n 1, 1) := by decide +kernel
theorem dX5_told_122 : decode cX5_told 122 = .ok (.i2l, 1) := by decide +kernel
theorem dX5_told_123 : decode cX5_told 123 = .ok (.ldc2_w 201, 3) := by decide +kernel
theorem dX5_told_126 : decode cX5_told 126 = .ok (.ldc2_w 203, 3) := by decide +kernel
theorem dX5_told_129 : decode cX5_told 129 = .ok (.invokestatic 70, 3) := by decide +kernel
theorem dX5_told_132 : decode cX5_told 132 = .ok (.ifCond .eq 35, 3) := by decide +kernel
theorem dX5_told_135 : decode cX5_told 135 = .ok (.aload_n 0, 1) := by decide +kernel
theorem dX5_told_136 : decode cX5_told 136 = .ok (.iload_n 3, 1) := by decide +kernel
theorem dX5_told_137 : decode cX5_told 137 = .ok (.invokevirtual 93, 3) := by decide +kernel
theorem dX5_told_140 : decode cX5_told 140 = .ok (.ifCond .eq 27, 3) := by decide +kernel
theorem dX5_told_143 : decode cX5_told 143 = .ok (.iload_n 1, 1) := by decide +kernel
theorem dX5_told_144 : decode cX5_told 144 = .ok (.bipush 40, 2) := by decide +kernel
theorem dX5_told_146 : decode cX5_told 146 = .ok (.if_icmp .ge 12, 3) := by decide +kernel
theorem dX5_told_149 : decode cX5_told 149 = .ok (.aload_n 0, 1) := by decide +kernel
theorem dX5_told_150 : decode cX5_told 150 = .ok (.getfield 7, 3) := by decide +kernel
theorem dX5_told_153 : decode cX5_told 153 = .ok (.iload_n 3, 1) := by decide +kernel
theorem dX5_told_154 : decode cX5_told 154 = .ok (.iaload, 1) := by decide +kernel
theorem dX5_told_155 : decode cX5_told 155 = .ok (.goto 14, 3) := by decide +kernel
theorem dX5_told_158 : decode cX5_told 158 = .ok (.aload_n 0, 1) := by decide +kernel
theorem dX5_told_159 : decode cX5_told 159 = .ok (.getfield 13, 3) := by decide +kernel
theorem dX5_told_162 : decode cX5_told 162 = .ok (.iload_n 3, 1) := by decide +kernel
theorem dX5_told_163 : decode cX5_told 163 = .ok (.iaload, 1) := by decide +kernel
