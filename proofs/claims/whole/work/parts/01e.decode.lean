theorem dX5_fits_149 : decode cX5_fits 149 = .ok (.if_icmp .ge 63, 3) := by decide +kernel
theorem dX5_fits_152 : decode cX5_fits 152 = .ok (.iload 5, 2) := by decide +kernel
theorem dX5_fits_154 : decode cX5_fits 154 = .ok (.ifCond .eq 58, 3) := by decide +kernel
theorem dX5_fits_157 : decode cX5_fits 157 = .ok (.aload_n 0, 1) := by decide +kernel
theorem dX5_fits_158 : decode cX5_fits 158 = .ok (.getfield 59, 3) := by decide +kernel
theorem dX5_fits_161 : decode cX5_fits 161 = .ok (.iload 6, 2) := by decide +kernel
theorem dX5_fits_163 : decode cX5_fits 163 = .ok (.iaload, 1) := by decide +kernel
theorem dX5_fits_164 : decode cX5_fits 164 = .ok (.iload_n 2, 1) := by decide +kernel
theorem dX5_fits_165 : decode cX5_fits 165 = .ok (.if_icmp .ne 34, 3) := by decide +kernel
theorem dX5_fits_168 : decode cX5_fits 168 = .ok (.iload 4, 2) := by decide +kernel
theorem dX5_fits_170 : decode cX5_fits 170 = .ok (.aload_n 0, 1) := by decide +kernel
theorem dX5_fits_171 : decode cX5_fits 171 = .ok (.getfield 62, 3) := by decide +kernel
theorem dX5_fits_174 : decode cX5_fits 174 = .ok (.iload 6, 2) := by decide +kernel
theorem dX5_fits_176 : decode cX5_fits 176 = .ok (.iaload, 1) := by decide +kernel
theorem dX5_fits_177 : decode cX5_fits 177 = .ok (.if_icmp .le 22, 3) := by decide +kernel
theorem dX5_fits_180 : decode cX5_fits 180 = .ok (.iload_n 3, 1) := by decide +kernel
theorem dX5_fits_181 : decode cX5_fits 181 = .ok (.aload_n 0, 1) := by decide +kernel
theorem dX5_fits_182 : decode cX5_fits 182 = .ok (.getfield 62, 3) := by decide +kernel
theorem dX5_fits_185 : decode cX5_fits 185 = .ok (.iload 6, 2) := by decide +kernel
theorem dX5_fits_187 : decode cX5_fits 187 = .ok (.iaload, 1) := by decide +kernel
theorem dX5_fits_188 : decode cX5_fits 188 = .ok (.aload_n 0, 1) := by decide +kernel
theorem dX5_fits_189 : decode cX5_fits 189 = .ok (.getfield 7, 3) := by decide +kernel
theorem dX5_fits_192 : decode cX5_fits 192 = .ok (.iload 6, 2) := by decide +kernel
theorem dX5_fits_194 : decode cX5_fits 194 = .ok (.iaload, 1) := by decide +kernel
theorem dX5_fits_195 : decode cX5_fits 195 = .ok (.iadd, 1) := by decide +kernel
theorem dX5_fits_196 : decode cX5_fits 196 = .ok (.if_icmp .lt 7, 3) := by decide +kernel
theorem dX5_fits_199 : decode cX5_fits 199 = .ok (.iconst 1, 1) := by decide +kernel
theorem dX5_fits_200 : decode cX5_fits 200 = .ok (.goto 4, 3) := by decide +kernel
theorem dX5_fits_203 : decode cX5_fits 203 = .ok (.iconst 0, 1) := by decide +kernel
theorem dX5_fits_204 : decode cX5_fits 204 = .ok (.istore 5, 2) := by decide +kernel
theorem dX5_fits_206 : decode cX5_fits 206 = .ok (.iinc 6 1, 3) := by decide +kernel
theorem dX5_fits_209 : decode cX5_fits 209 = .ok (.goto (-63), 3) := by decide +kernel
theorem dX5_fits_212 : decode cX5_fits 212 = .ok (.iconst 0, 1) := by decide +kernel
theorem dX5_fits_213 : decode cX5_fits 213 = .ok (.istore 6, 2) := by decide +kernel
theorem dX5_fits_215 : decode cX5_fits 215 = .ok (.iload 6, 2) := by decide +kernel
theorem dX5_fits_217 : decode cX5_fits 217 = .ok (.aload_n 0, 1) := by decide +kernel
theorem dX5_fits_218 : decode cX5_fits 218 = .ok (.getfield 88, 3) := by decide +kernel
theorem dX5_fits_221 : decode cX5_fits 221 = .ok (.if_icmp .ge 40, 3) := by decide +kernel
theorem dX5_fits_224 : decode cX5_fits 224 = .ok (.iload 5, 2) := by decide +kernel
theorem dX5_fits_226 : decode cX5_fits 226 = .ok (.ifCond .eq 35, 3) := by decide +kernel
theorem dX5_fits_229 : decode cX5_fits 229 = .ok (.iload 6, 2) := by decide +kernel
theorem dX5_fits_231 : decode cX5_fits 231 = .ok (.aload_n 0, 1) := by decide +kernel
theorem dX5_fits_232 : decode cX5_fits 232 = .ok (.getfield 94, 3) := by decide +kernel
theorem dX5_fits_235 : decode cX5_fits 235 = .ok (.if_icmp .eq 13, 3) := by decide +kernel
theorem dX5_fits_238 : decode cX5_fits 238 = .ok (.aload_n 0, 1) := by decide +kernel
theorem dX5_fits_239 : decode cX5_fits 239 = .ok (.iload 6, 2) := by decide +kernel
theorem dX5_fits_241 : decode cX5_fits 241 = .ok (.iload_n 1, 1) := by decide +kernel
theorem dX5_fits_242 : decode cX5_fits 242 = .ok (.invokevirtual 97, 3) := by decide +kernel
theorem dX5_fits_245 : decode cX5_fits 245 = .ok (.ifCond .eq 7, 3) := by decide +kernel
theorem dX5_fits_248 : decode cX5_fits 248 = .ok (.iconst 1, 1) := by decide +kernel
theorem dX5_fits_249 : decode cX5_fits 249 = .ok (.goto 4, 3) := by decide +kernel
theorem dX5_fits_252 : decode cX5_fits 252 = .ok (.iconst 0, 1) := by decide +kernel
theorem dX5_fits_253 : decode cX5_fits 253 = .ok (.istore 5, 2) := by decide +kernel
theorem dX5_fits_255 : decode cX5_fits 255 = .ok (.iinc 6 1, 3) := by decide +kernel
theorem dX5_fits_258 : decode cX5_fits 258 = .ok (.goto (-43), 3) := by decide +kernel
theorem dX5_fits_261 : decode cX5_fits 261 = .ok (.iload 5, 2) := by decide +kernel
theorem dX5_fits_263 : decode cX5_fits 263 = .ok (.ireturn, 1) := by decide +kernel
theorem dX5_keeps_0 : decode cX5_keeps 0 = .ok (.aload_n 0, 1) := by decide +kernel
theorem dX5_keeps_1 : decode cX5_keeps 1 = .ok (.getfield 29, 3) := by decide +kernel
theorem dX5_keeps_4 : decode cX5_keeps 4 = .ok (.iload_n 1, 1) := by decide +kernel
theorem dX5_keeps_5 : decode cX5_keeps 5 = .ok (.iaload, 1) := by decide +kernel
theorem dX5_keeps_6 : decode cX5_keeps 6 = .ok (.istore_n 3, 1) := by decide +kernel
theorem dX5_keeps_7 : decode cX5_keeps 7 = .ok (.aload_n 0, 1) := by decide +kernel
theorem dX5_keeps_8 : decode cX5_keeps 8 = .ok (.getfield 32, 3) := by decide +kernel
theorem dX5_keeps_11 : decode cX5_keeps 11 = .ok (.iload_n 1, 1) := by decide +kernel
theorem dX5_keeps_12 : decode cX5_keeps 12 = .ok (.iaload, 1) := by decide +kernel
theorem dX5_keeps_13 : decode cX5_keeps 13 = .ok (.istore 4, 2) := by decide +kernel
theorem dX5_keeps_15 : decode cX5_keeps 15 = .ok (.aload_n 0, 1) := by decide +kernel
theorem dX5_keeps_16 : decode cX5_keeps 16 = .ok (.getfield 26, 3) := by decide +kernel
theorem dX5_keeps_19 : decode cX5_keeps 19 = .ok (.iload_n 1, 1) := by decide +kernel
theorem dX5_keeps_20 : decode cX5_keeps 20 = .ok (.iaload, 1) := by decide +kernel
theorem dX5_keeps_21 : decode cX5_keeps 21 = .ok (.iconst 2, 1) := by decide +kernel
theorem dX5_keeps_22 : decode cX5_keeps 22 = .ok (.if_icmp .ne 36, 3) := by decide +kernel
theorem dX5_keeps_25 : decode cX5_keeps 25 = .ok (.iload_n 3, 1) := by decide +kernel
theorem dX5_keeps_26 : decode cX5_keeps 26 = .ok (.iload_n 2, 1) := by decide +kernel
theorem dX5_keeps_27 : decode cX5_keeps 27 = .ok (.if_icmp .ne 25, 3) := by decide +kernel
theorem dX5_keeps_30 : decode cX5_keeps 30 = .ok (.aload_n 0, 1) := by decide +kernel
theorem dX5_keeps_31 : decode cX5_keeps 31 = .ok (.getfield 62, 3) := by decide +kernel
theorem dX5_keeps_34 : decode cX5_keeps 34 = .ok (.iload_n 3, 1) := by decide +kernel
theorem dX5_keeps_35 : decode cX5_keeps 35 = .ok (.iaload, 1) := by decide +kernel
theorem dX5_keeps_36 : decode cX5_keeps 36 = .ok (.aload_n 0, 1) := by decide +kernel
theorem dX5_keeps_37 : decode cX5_keeps 37 = .ok (.getfield 7, 3) := by decide +kernel
theorem dX5_keeps_40 : decode cX5_keeps 40 = .ok (.iload_n 3, 1) := by decide +kernel
theorem dX5_keeps_41 : decode cX5_keeps 41 = .ok (.iaload, 1) := by decide +kernel
theorem dX5_keeps_42 : decode cX5_keeps 42 = .ok (.iadd, 1) := by decide +kernel
theorem dX5_keeps_43 : decode cX5_keeps 43 = .ok (.aload_n 0, 1) := by decide +kernel
theorem dX5_keeps_44 : decode cX5_keeps 44 = .ok (.getfield 35, 3) := by decide +kernel
theorem dX5_keeps_47 : decode cX5_keeps 47 = .ok (.iload_n 1, 1) := by decide +kernel
theorem dX5_keeps_48 : decode cX5_keeps 48 = .ok (.iaload, 1) := by decide +kernel
theorem dX5_keeps_49 : decode cX5_keeps 49 = .ok (.if_icmp .gt 7, 3) := by decide +kernel
theorem dX5_keeps_52 : decode cX5_keeps 52 = .ok (.iconst 1, 1) := by decide +kernel
theorem dX5_keeps_53 : decode cX5_keeps 53 = .ok (.goto 4, 3) := by decide +kernel
theorem dX5_keeps_56 : decode cX5_keeps 56 = .ok (.iconst 0, 1) := by decide +kernel
theorem dX5_keeps_57 : decode cX5_keeps 57 = .ok (.ireturn, 1) := by decide +kernel
theorem dX5_keeps_58 : decode cX5_keeps 58 = .ok (.aload_n 0, 1) := by decide +kernel
theorem dX5_keeps_59 : decode cX5_keeps 59 = .ok (.getfield 26, 3) := by decide +kernel
theorem dX5_keeps_62 : decode cX5_keeps 62 = .ok (.iload_n 1, 1) := by decide +kernel
theorem dX5_keeps_63 : decode cX5_keeps 63 = .ok (.iaload, 1) := by decide +kernel
theorem dX5_keeps_64 : decode cX5_keeps 64 = .ok (.iconst 3, 1) := by decide +kernel
theorem dX5_keeps_65 : decode cX5_keeps 65 = .ok (.if_icmp .ne 29, 3) := by decide +kernel
theorem dX5_keeps_68 : decode cX5_keeps 68 = .ok (.iload_n 3, 1) := by decide +kernel
theorem dX5_keeps_69 : decode cX5_keeps 69 = .ok (.iload_n 2, 1) := by decide +kernel
theorem dX5_keeps_70 : decode cX5_keeps 70 = .ok (.if_icmp .ne 18, 3) := by decide +kernel
theorem dX5_keeps_73 : decode cX5_keeps 73 = .ok (.aload_n 0, 1) := by decide +kernel
theorem dX5_keeps_74 : decode cX5_keeps 74 = .ok (.getfield 62, 3) := by decide +kernel
theorem dX5_keeps_77 : decode cX5_keeps 77 = .ok (.iload_n 3, 1) := by decide +kernel
theorem dX5_keeps_78 : decode cX5_keeps 78 = .ok (.iaload, 1) := by decide +kernel
theorem dX5_keeps_79 : decode cX5_keeps 79 = .ok (.aload_n 0, 1) := by decide +kernel
theorem dX5_keeps_80 : decode cX5_keeps 80 = .ok (.getfield 35, 3) := by decide +kernel
theorem dX5_keeps_83 : decode cX5_keeps 83 = .ok (.iload_n 1, 1) := by decide +kernel
theorem dX5_keeps_84 : decode cX5_keeps 84 = .ok (.iaload, 1) := by decide +kernel
theorem dX5_keeps_85 : decode cX5_keeps 85 = .ok (.if_icmp .lt 7, 3) := by decide +kernel
theorem dX5_keeps_88 : decode cX5_keeps 88 = .ok (.iconst 1, 1) := by decide +kernel
theorem dX5_keeps_89 : decode cX5_keeps 89 = .ok (.goto 4, 3) := by decide +kernel
theorem dX5_keeps_92 : decode cX5_keeps 92 = .ok (.iconst 0, 1) := by decide +kernel
theorem dX5_keeps_93 : decode cX5_keeps 93 = .ok (.ireturn, 1) := by decide +kernel
theorem dX5_keeps_94 : decode cX5_keeps 94 = .ok (.iload_n 3, 1) := by decide +kernel
theorem dX5_keeps_95 : decode cX5_keeps 95 = .ok (.iload_n 2, 1) := by decide +kernel
theorem dX5_keeps_96 : decode cX5_keeps 96 = .ok (.if_icmp .gt 20, 3) := by decide +kernel
theorem dX5_keeps_99 : decode cX5_keeps 99 = .ok (.iload 4, 2) := by decide +kernel
theorem dX5_keeps_101 : decode cX5_keeps 101 = .ok (.iload_n 2, 1) := by decide +kernel
theorem dX5_keeps_102 : decode cX5_keeps 102 = .ok (.if_icmp .gt 14, 3) := by decide +kernel
theorem dX5_keeps_105 : decode cX5_keeps 105 = .ok (.iload_n 3, 1) := by decide +kernel
theorem dX5_keeps_106 : decode cX5_keeps 106 = .ok (.iload_n 2, 1) := by decide +kernel
theorem dX5_keeps_107 : decode cX5_keeps 107 = .ok (.if_icmp .eq 11, 3) := by decide +kernel
theorem dX5_keeps_110 : decode cX5_keeps 110 = .ok (.iload 4, 2) := by decide +kernel
theorem dX5_keeps_112 : decode cX5_keeps 112 = .ok (.iload_n 2, 1) := by decide +kernel
theorem dX5_keeps_113 : decode cX5_keeps 113 = .ok (.if_icmp .eq 5, 3) := by decide +kernel
theorem dX5_keeps_116 : decode cX5_keeps 116 = .ok (.iconst 1, 1) := by decide +kernel
theorem dX5_keeps_117 : decode cX5_keeps 117 = .ok (.ireturn, 1) := by decide +kernel
theorem dX5_keeps_118 : decode cX5_keeps 118 = .ok (.aload_n 0, 1) := by decide +kernel
theorem dX5_keeps_119 : decode cX5_keeps 119 = .ok (.getfield 26, 3) := by decide +kernel
theorem dX5_keeps_122 : decode cX5_keeps 122 = .ok (.iload_n 1, 1) := by decide +kernel
theorem dX5_keeps_123 : decode cX5_keeps 123 = .ok (.iaload, 1) := by decide +kernel
theorem dX5_keeps_124 : decode cX5_keeps 124 = .ok (.iconst 1, 1) := by decide +kernel
theorem dX5_keeps_125 : decode cX5_keeps 125 = .ok (.if_icmp .ne 27, 3) := by decide +kernel
theorem dX5_keeps_128 : decode cX5_keeps 128 = .ok (.aload_n 0, 1) := by decide +kernel
theorem dX5_keeps_129 : decode cX5_keeps 129 = .ok (.getfield 59, 3) := by decide +kernel
theorem dX5_keeps_132 : decode cX5_keeps 132 = .ok (.iload_n 3, 1) := by decide +kernel
theorem dX5_keeps_133 : decode cX5_keeps 133 = .ok (.iaload, 1) := by decide +kernel
theorem dX5_keeps_134 : decode cX5_keeps 134 = .ok (.aload_n 0, 1) := by decide +kernel
theorem dX5_keeps_135 : decode cX5_keeps 135 = .ok (.getfield 59, 3) := by decide +kernel
theorem dX5_keeps_138 : decode cX5_keeps 138 = .ok (.iload 4, 2) := by decide +kernel
theorem dX5_keeps_140 : decode cX5_keeps 140 = .ok (.iaload, 1) := by decide +kernel
theorem dX5_keeps_141 : decode cX5_keeps 141 = .ok (.if_icmp .eq 7, 3) := by decide +kernel
theorem dX5_keeps_144 : decode cX5_keeps 144 = .ok (.iconst 1, 1) := by decide +kernel
theorem dX5_keeps_145 : decode cX5_keeps 145 = .ok (.goto 43, 3) := by decide +kernel
theorem dX5_keeps_148 : decode cX5_keeps 148 = .ok (.iconst 0, 1) := by decide +kernel
theorem dX5_keeps_149 : decode cX5_keeps 149 = .ok (.goto 39, 3) := by decide +kernel
theorem dX5_keeps_152 : decode cX5_keeps 152 = .ok (.aload_n 0, 1) := by decide +kernel
theorem dX5_keeps_153 : decode cX5_keeps 153 = .ok (.getfield 62, 3) := by decide +kernel
theorem dX5_keeps_156 : decode cX5_keeps 156 = .ok (.iload_n 3, 1) := by decide +kernel
theorem dX5_keeps_157 : decode cX5_keeps 157 = .ok (.iaload, 1) := by decide +kernel
theorem dX5_keeps_158 : decode cX5_keeps 158 = .ok (.aload_n 0, 1) := by decide +kernel
theorem dX5_keeps_159 : decode cX5_keeps 159 = .ok (.getfield 62, 3) := by decide +kernel
theorem dX5_keeps_162 : decode cX5_keeps 162 = .ok (.iload 4, 2) := by decide +kernel
theorem dX5_keeps_164 : decode cX5_keeps 164 = .ok (.iaload, 1) := by decide +kernel
theorem dX5_keeps_165 : decode cX5_keeps 165 = .ok (.aload_n 0, 1) := by decide +kernel
theorem dX5_keeps_166 : decode cX5_keeps 166 = .ok (.getfield 7, 3) := by decide +kernel
theorem dX5_keeps_169 : decode cX5_keeps 169 = .ok (.iload 4, 2) := by decide +kernel
theorem dX5_keeps_171 : decode cX5_keeps 171 = .ok (.iaload, 1) := by decide +kernel
theorem dX5_keeps_172 : decode cX5_keeps 172 = .ok (.iadd, 1) := by decide +kernel
theorem dX5_keeps_173 : decode cX5_keeps 173 = .ok (.aload_n 0, 1) := by decide +kernel
theorem dX5_keeps_174 : decode cX5_keeps 174 = .ok (.getfield 35, 3) := by decide +kernel
theorem dX5_keeps_177 : decode cX5_keeps 177 = .ok (.iload_n 1, 1) := by decide +kernel
theorem dX5_keeps_178 : decode cX5_keeps 178 = .ok (.iaload, 1) := by decide +kernel
theorem dX5_keeps_179 : decode cX5_keeps 179 = .ok (.iadd, 1) := by decide +kernel
theorem dX5_keeps_180 : decode cX5_keeps 180 = .ok (.if_icmp .lt 7, 3) := by decide +kernel
theorem dX5_keeps_183 : decode cX5_keeps 183 = .ok (.iconst 1, 1) := by decide +kernel
theorem dX5_keeps_184 : decode cX5_keeps 184 = .ok (.goto 4, 3) := by decide +kernel
theorem dX5_keeps_187 : decode cX5_keeps 187 = .ok (.iconst 0, 1) := by decide +kernel
theorem dX5_keeps_188 : decode cX5_keeps 188 = .ok (.ireturn, 1) := by decide +kernel
theorem dX5_keep_0 : decode cX5_keep 0 = .ok (.aload_n 0, 1) := by decide +kernel
theorem dX5_keep_1 : decode cX5_keep 1 = .ok (.getfield 136, 3) := by decide +kernel
theorem dX5_keep_4 : decode cX5_keep 4 = .ok (.bipush 16, 2) := by decide +kernel
theorem dX5_keep_6 : decode cX5_keep 6 = .ok (.if_icmp .ne 70, 3) := by decide +kernel
theorem dX5_keep_9 : decode cX5_keep 9 = .ok (.iconst 0, 1) := by decide +kernel
theorem dX5_keep_10 : decode cX5_keep 10 = .ok (.istore_n 1, 1) := by decide +kernel
theorem dX5_keep_11 : decode cX5_keep 11 = .ok (.iload_n 1, 1) := by decide +kernel
theorem dX5_keep_12 : decode cX5_keep 12 = .ok (.bipush 120, 2) := by decide +kernel
theorem dX5_keep_14 : decode cX5_keep 14 = .ok (.if_icmp .ge 24, 3) := by decide +kernel
theorem dX5_keep_17 : decode cX5_keep 17 = .ok (.aload_n 0, 1) := by decide +kernel
theorem dX5_keep_18 : decode cX5_keep 18 = .ok (.getfield 50, 3) := by decide +kernel
theorem dX5_keep_21 : decode cX5_keep 21 = .ok (.iload_n 1, 1) := by decide +kernel
theorem dX5_keep_22 : decode cX5_keep 22 = .ok (.aload_n 0, 1) := by decide +kernel
theorem dX5_keep_23 : decode cX5_keep 23 = .ok (.getfield 50, 3) := by decide +kernel
theorem dX5_keep_26 : decode cX5_keep 26 = .ok (.iload_n 1, 1) := by decide +kernel
theorem dX5_keep_27 : decode cX5_keep 27 = .ok (.bipush 8, 2) := by decide +kernel
theorem dX5_keep_29 : decode cX5_keep 29 = .ok (.iadd, 1) := by decide +kernel
theorem dX5_keep_30 : decode cX5_keep 30 = .ok (.iaload, 1) := by decide +kernel
theorem dX5_keep_31 : decode cX5_keep 31 = .ok (.iastore, 1) := by decide +kernel
theorem dX5_keep_32 : decode cX5_keep 32 = .ok (.iinc 1 1, 3) := by decide +kernel
theorem dX5_keep_35 : decode cX5_keep 35 = .ok (.goto (-24), 3) := by decide +kernel
theorem dX5_keep_38 : decode cX5_keep 38 = .ok (.iconst 0, 1) := by decide +kernel
theorem dX5_keep_39 : decode cX5_keep 39 = .ok (.istore_n 1, 1) := by decide +kernel
theorem dX5_keep_40 : decode cX5_keep 40 = .ok (.iload_n 1, 1) := by decide +kernel
theorem dX5_keep_41 : decode cX5_keep 41 = .ok (.bipush 15, 2) := by decide +kernel
theorem dX5_keep_43 : decode cX5_keep 43 = .ok (.if_icmp .ge 23, 3) := by decide +kernel
theorem dX5_keep_46 : decode cX5_keep 46 = .ok (.aload_n 0, 1) := by decide +kernel
theorem dX5_keep_47 : decode cX5_keep 47 = .ok (.getfield 47, 3) := by decide +kernel
theorem dX5_keep_50 : decode cX5_keep 50 = .ok (.iload_n 1, 1) := by decide +kernel
theorem dX5_keep_51 : decode cX5_keep 51 = .ok (.aload_n 0, 1) := by decide +kernel
theorem dX5_keep_52 : decode cX5_keep 52 = .ok (.getfield 47, 3) := by decide +kernel
theorem dX5_keep_55 : decode cX5_keep 55 = .ok (.iload_n 1, 1) := by decide +kernel
theorem dX5_keep_56 : decode cX5_keep 56 = .ok (.iconst 1, 1) := by decide +kernel
theorem dX5_keep_57 : decode cX5_keep 57 = .ok (.iadd, 1) := by decide +kernel
theorem dX5_keep_58 : decode cX5_keep 58 = .ok (.iaload, 1) := by decide +kernel
theorem dX5_keep_59 : decode cX5_keep 59 = .ok (.iastore, 1) := by decide +kernel
theorem dX5_keep_60 : decode cX5_keep 60 = .ok (.iinc 1 1, 3) := by decide +kernel
theorem dX5_keep_63 : decode cX5_keep 63 = .ok (.goto (-23), 3) := by decide +kernel
theorem dX5_keep_66 : decode cX5_keep 66 = .ok (.aload_n 0, 1) := by decide +kernel
theorem dX5_keep_67 : decode cX5_keep 67 = .ok (.dup, 1) := by decide +kernel
theorem dX5_keep_68 : decode cX5_keep 68 = .ok (.getfield 136, 3) := by decide +kernel
theorem dX5_keep_71 : decode cX5_keep 71 = .ok (.iconst 1, 1) := by decide +kernel
theorem dX5_keep_72 : decode cX5_keep 72 = .ok (.isub, 1) := by decide +kernel
theorem dX5_keep_73 : decode cX5_keep 73 = .ok (.putfield 136, 3) := by decide +kernel
theorem dX5_keep_76 : decode cX5_keep 76 = .ok (.aload_n 0, 1) := by decide +kernel
theorem dX5_keep_77 : decode cX5_keep 77 = .ok (.getfield 47, 3) := by decide +kernel
theorem dX5_keep_80 : decode cX5_keep 80 = .ok (.aload_n 0, 1) := by decide +kernel
theorem dX5_keep_81 : decode cX5_keep 81 = .ok (.getfield 136, 3) := by decide +kernel
theorem dX5_keep_84 : decode cX5_keep 84 = .ok (.aload_n 0, 1) := by decide +kernel
theorem dX5_keep_85 : decode cX5_keep 85 = .ok (.getfield 81, 3) := by decide +kernel
theorem dX5_keep_88 : decode cX5_keep 88 = .ok (.iastore, 1) := by decide +kernel
theorem dX5_keep_89 : decode cX5_keep 89 = .ok (.iconst 0, 1) := by decide +kernel
theorem dX5_keep_90 : decode cX5_keep 90 = .ok (.istore_n 1, 1) := by decide +kernel
theorem dX5_keep_91 : decode cX5_keep 91 = .ok (.iload_n 1, 1) := by decide +kernel
theorem dX5_keep_92 : decode cX5_keep 92 = .ok (.aload_n 0, 1) := by decide +kernel
theorem dX5_keep_93 : decode cX5_keep 93 = .ok (.getfield 81, 3) := by decide +kernel
theorem dX5_keep_96 : decode cX5_keep 96 = .ok (.if_icmp .ge 55, 3) := by decide +kernel
theorem dX5_keep_99 : decode cX5_keep 99 = .ok (.aload_n 0, 1) := by decide +kernel
theorem dX5_keep_100 : decode cX5_keep 100 = .ok (.getfield 50, 3) := by decide +kernel
theorem dX5_keep_103 : decode cX5_keep 103 = .ok (.bipush 8, 2) := by decide +kernel
theorem dX5_keep_105 : decode cX5_keep 105 = .ok (.aload_n 0, 1) := by decide +kernel
theorem dX5_keep_106 : decode cX5_keep 106 = .ok (.getfield 136, 3) := by decide +kernel
theorem dX5_keep_109 : decode cX5_keep 109 = .ok (.imul, 1) := by decide +kernel
theorem dX5_keep_110 : decode cX5_keep 110 = .ok (.iconst 2, 1) := by decide +kernel
theorem dX5_keep_111 : decode cX5_keep 111 = .ok (.iload_n 1, 1) := by decide +kernel
theorem dX5_keep_112 : decode cX5_keep 112 = .ok (.imul, 1) := by decide +kernel
theorem dX5_keep_113 : decode cX5_keep 113 = .ok (.iadd, 1) := by decide +kernel
theorem dX5_keep_114 : decode cX5_keep 114 = .ok (.aload_n 0, 1) := by decide +kernel
theorem dX5_keep_115 : decode cX5_keep 115 = .ok (.getfield 13, 3) := by decide +kernel
theorem dX5_keep_118 : decode cX5_keep 118 = .ok (.iload_n 1, 1) := by decide +kernel
theorem dX5_keep_119 : decode cX5_keep 119 = .ok (.iaload, 1) := by decide +kernel
theorem dX5_keep_120 : decode cX5_keep 120 = .ok (.iastore, 1) := by decide +kernel
theorem dX5_keep_121 : decode cX5_keep 121 = .ok (.aload_n 0, 1) := by decide +kernel
theorem dX5_keep_122 : decode cX5_keep 122 = .ok (.getfield 50, 3) := by decide +kernel
theorem dX5_keep_125 : decode cX5_keep 125 = .ok (.bipush 8, 2) := by decide +kernel
theorem dX5_keep_127 : decode cX5_keep 127 = .ok (.aload_n 0, 1) := by decide +kernel
theorem dX5_keep_128 : decode cX5_keep 128 = .ok (.getfield 136, 3) := by decide +kernel
theorem dX5_keep_131 : decode cX5_keep 131 = .ok (.imul, 1) := by decide +kernel
theorem dX5_keep_132 : decode cX5_keep 132 = .ok (.iconst 2, 1) := by decide +kernel
theorem dX5_keep_133 : decode cX5_keep 133 = .ok (.iload_n 1, 1) := by decide +kernel
theorem dX5_keep_134 : decode cX5_keep 134 = .ok (.imul, 1) := by decide +kernel
theorem dX5_keep_135 : decode cX5_keep 135 = .ok (.iadd, 1) := by decide +kernel
theorem dX5_keep_136 : decode cX5_keep 136 = .ok (.iconst 1, 1) := by decide +kernel
theorem dX5_keep_137 : decode cX5_keep 137 = .ok (.iadd, 1) := by decide +kernel
theorem dX5_keep_138 : decode cX5_keep 138 = .ok (.aload_n 0, 1) := by decide +kernel
theorem dX5_keep_139 : decode cX5_keep 139 = .ok (.getfield 16, 3) := by decide +kernel
theorem dX5_keep_142 : decode cX5_keep 142 = .ok (.iload_n 1, 1) := by decide +kernel
theorem dX5_keep_143 : decode cX5_keep 143 = .ok (.iaload, 1) := by decide +kernel
theorem dX5_keep_144 : decode cX5_keep 144 = .ok (.iastore, 1) := by decide +kernel
theorem dX5_keep_145 : decode cX5_keep 145 = .ok (.iinc 1 1, 3) := by decide +kernel
theorem dX5_keep_148 : decode cX5_keep 148 = .ok (.goto (-57), 3) := by decide +kernel
theorem dX5_keep_151 : decode cX5_keep 151 = .ok (.aload_n 0, 1) := by decide +kernel
theorem dX5_keep_152 : decode cX5_keep 152 = .ok (.dup, 1) := by decide +kernel
theorem dX5_keep_153 : decode cX5_keep 153 = .ok (.getfield 136, 3) := by decide +kernel
theorem dX5_keep_156 : decode cX5_keep 156 = .ok (.iconst 1, 1) := by decide +kernel
theorem dX5_keep_157 : decode cX5_keep 157 = .ok (.iadd, 1) := by decide +kernel
theorem dX5_keep_158 : decode cX5_keep 158 = .ok (.putfield 136, 3) := by decide +kernel
theorem dX5_keep_161 : decode cX5_keep 161 = .ok (.return_, 1) := by decide +kernel
theorem dX5_tankOf_0 : decode cX5_tankOf 0 = .ok (.aload_n 0, 1) := by decide +kernel
theorem dX5_tankOf_1 : decode cX5_tankOf 1 = .ok (.iload_n 1, 1) := by decide +kernel
theorem dX5_tankOf_2 : decode cX5_tankOf 2 = .ok (.invokevirtual 84, 3) := by decide +kernel
theorem dX5_tankOf_5 : decode cX5_tankOf 5 = .ok (.ifCond .eq 12, 3) := by decide +kernel
theorem dX5_tankOf_8 : decode cX5_tankOf 8 = .ok (.aload_n 0, 1) := by decide +kernel
theorem dX5_tankOf_9 : decode cX5_tankOf 9 = .ok (.getfield 13, 3) := by decide +kernel
theorem dX5_tankOf_12 : decode cX5_tankOf 12 = .ok (.iload_n 1, 1) := by decide +kernel
theorem dX5_tankOf_13 : decode cX5_tankOf 13 = .ok (.iaload, 1) := by decide +kernel
theorem dX5_tankOf_14 : decode cX5_tankOf 14 = .ok (.goto 4, 3) := by decide +kernel
theorem dX5_tankOf_17 : decode cX5_tankOf 17 = .ok (.iconst (-1), 1) := by decide +kernel
theorem dX5_tankOf_18 : decode cX5_tankOf 18 = .ok (.ireturn, 1) := by decide +kernel
theorem dX5_start_0 : decode cX5_start 0 = .ok (.aload_n 0, 1) := by decide +kernel
theorem dX5_start_1 : decode cX5_start 1 = .ok (.iload_n 1, 1) := by decide +kernel
theorem dX5_start_2 : decode cX5_start 2 = .ok (.invokevirtual 84, 3) := by decide +kernel
theorem dX5_start_5 : decode cX5_start 5 = .ok (.ifCond .eq 12, 3) := by decide +kernel
theorem dX5_start_8 : decode cX5_start 8 = .ok (.aload_n 0, 1) := by decide +kernel
theorem dX5_start_9 : decode cX5_start 9 = .ok (.getfield 16, 3) := by decide +kernel
theorem dX5_start_12 : decode cX5_start 12 = .ok (.iload_n 1, 1) := by decide +kernel
theorem dX5_start_13 : decode cX5_start 13 = .ok (.iaload, 1) := by decide +kernel
theorem dX5_start_14 : decode cX5_start 14 = .ok (.goto 4, 3) := by decide +kernel
theorem dX5_start_17 : decode cX5_start 17 = .ok (.iconst (-1), 1) := by decide +kernel
theorem dX5_start_18 : decode cX5_start 18 = .ok (.ireturn, 1) := by decide +kernel
theorem dX5_changed_0 : decode cX5_changed 0 = .ok (.iconst 0, 1) := by decide +kernel
theorem dX5_changed_1 : decode cX5_changed 1 = .ok (.istore_n 2, 1) := by decide +kernel
theorem dX5_changed_2 : decode cX5_changed 2 = .ok (.iconst 0, 1) := by decide +kernel
theorem dX5_changed_3 : decode cX5_changed 3 = .ok (.istore_n 3, 1) := by decide +kernel
theorem dX5_changed_4 : decode cX5_changed 4 = .ok (.iload_n 3, 1) := by decide +kernel
theorem dX5_changed_5 : decode cX5_changed 5 = .ok (.iconst 4, 1) := by decide +kernel
theorem dX5_changed_6 : decode cX5_changed 6 = .ok (.if_icmp .ge 28, 3) := by decide +kernel
theorem dX5_changed_9 : decode cX5_changed 9 = .ok (.aload_n 0, 1) := by decide +kernel
theorem dX5_changed_10 : decode cX5_changed 10 = .ok (.getfield 71, 3) := by decide +kernel
theorem dX5_changed_13 : decode cX5_changed 13 = .ok (.iload_n 3, 1) := by decide +kernel
theorem dX5_changed_14 : decode cX5_changed 14 = .ok (.baload, 1) := by decide +kernel
theorem dX5_changed_15 : decode cX5_changed 15 = .ok (.ifCond .eq 13, 3) := by decide +kernel
theorem dX5_changed_18 : decode cX5_changed 18 = .ok (.iload_n 2, 1) := by decide +kernel
theorem dX5_changed_19 : decode cX5_changed 19 = .ok (.iload_n 1, 1) := by decide +kernel
theorem dX5_changed_20 : decode cX5_changed 20 = .ok (.if_icmp .ne 5, 3) := by decide +kernel
theorem dX5_changed_23 : decode cX5_changed 23 = .ok (.iload_n 3, 1) := by decide +kernel
theorem dX5_changed_24 : decode cX5_changed 24 = .ok (.ireturn, 1) := by decide +kernel
theorem dX5_changed_25 : decode cX5_changed 25 = .ok (.iinc 2 1, 3) := by decide +kernel
theorem dX5_changed_28 : decode cX5_changed 28 = .ok (.iinc 3 1, 3) := by decide +kernel
theorem dX5_changed_31 : decode cX5_changed 31 = .ok (.goto (-27), 3) := by decide +kernel
theorem dX5_changed_34 : decode cX5_changed 34 = .ok (.iconst (-1), 1) := by decide +kernel
theorem dX5_changed_35 : decode cX5_changed 35 = .ok (.ireturn, 1) := by decide +kernel
theorem dX5_bound_0 : decode cX5_bound 0 = .ok (.aload_n 0, 1) := by decide +kernel
theorem dX5_bound_1 : decode cX5_bound 1 = .ok (.getfield 126, 3) := by decide +kernel
theorem dX5_bound_4 : decode cX5_bound 4 = .ok (.ireturn, 1) := by decide +kernel
theorem dX5_cost_0 : decode cX5_cost 0 = .ok (.aload_n 0, 1) := by decide +kernel
theorem dX5_cost_1 : decode cX5_cost 1 = .ok (.getfield 132, 3) := by decide +kernel
theorem dX5_cost_4 : decode cX5_cost 4 = .ok (.lreturn, 1) := by decide +kernel
theorem dX5_undo_0 : decode cX5_undo 0 = .ok (.aload_n 0, 1) := by decide +kernel
theorem dX5_undo_1 : decode cX5_undo 1 = .ok (.getfield 136, 3) := by decide +kernel
theorem dX5_undo_4 : decode cX5_undo 4 = .ok (.ifCond .ne 5, 3) := by decide +kernel
theorem dX5_undo_7 : decode cX5_undo 7 = .ok (.iconst 0, 1) := by decide +kernel
theorem dX5_undo_8 : decode cX5_undo 8 = .ok (.ireturn, 1) := by decide +kernel
theorem dX5_undo_9 : decode cX5_undo 9 = .ok (.aload_n 0, 1) := by decide +kernel
theorem dX5_undo_10 : decode cX5_undo 10 = .ok (.dup, 1) := by decide +kernel
theorem dX5_undo_11 : decode cX5_undo 11 = .ok (.getfield 136, 3) := by decide +kernel
theorem dX5_undo_14 : decode cX5_undo 14 = .ok (.iconst 1, 1) := by decide +kernel
theorem dX5_undo_15 : decode cX5_undo 15 = .ok (.isub, 1) := by decide +kernel
theorem dX5_undo_16 : decode cX5_undo 16 = .ok (.putfield 136, 3) := by decide +kernel
theorem dX5_undo_19 : decode cX5_undo 19 = .ok (.iconst 0, 1) := by decide +kernel
theorem dX5_undo_20 : decode cX5_undo 20 = .ok (.istore_n 1, 1) := by decide +kernel
theorem dX5_undo_21 : decode cX5_undo 21 = .ok (.iload_n 1, 1) := by decide +kernel
theorem dX5_undo_22 : decode cX5_undo 22 = .ok (.aload_n 0, 1) := by decide +kernel
theorem dX5_undo_23 : decode cX5_undo 23 = .ok (.getfield 47, 3) := by decide +kernel
theorem dX5_undo_26 : decode cX5_undo 26 = .ok (.aload_n 0, 1) := by decide +kernel
theorem dX5_undo_27 : decode cX5_undo 27 = .ok (.getfield 136, 3) := by decide +kernel
theorem dX5_undo_30 : decode cX5_undo 30 = .ok (.iaload, 1) := by decide +kernel
theorem dX5_undo_31 : decode cX5_undo 31 = .ok (.if_icmp .ge 55, 3) := by decide +kernel
theorem dX5_undo_34 : decode cX5_undo 34 = .ok (.aload_n 0, 1) := by decide +kernel
theorem dX5_undo_35 : decode cX5_undo 35 = .ok (.getfield 13, 3) := by decide +kernel
theorem dX5_undo_38 : decode cX5_undo 38 = .ok (.iload_n 1, 1) := by decide +kernel
theorem dX5_undo_39 : decode cX5_undo 39 = .ok (.aload_n 0, 1) := by decide +kernel
theorem dX5_undo_40 : decode cX5_undo 40 = .ok (.getfield 50, 3) := by decide +kernel
theorem dX5_undo_43 : decode cX5_undo 43 = .ok (.bipush 8, 2) := by decide +kernel
theorem dX5_undo_45 : decode cX5_undo 45 = .ok (.aload_n 0, 1) := by decide +kernel
theorem dX5_undo_46 : decode cX5_undo 46 = .ok (.getfield 136, 3) := by decide +kernel
theorem dX5_undo_49 : decode cX5_undo 49 = .ok (.imul, 1) := by decide +kernel
theorem dX5_undo_50 : decode cX5_undo 50 = .ok (.iconst 2, 1) := by decide +kernel
theorem dX5_undo_51 : decode cX5_undo 51 = .ok (.iload_n 1, 1) := by decide +kernel
theorem dX5_undo_52 : decode cX5_undo 52 = .ok (.imul, 1) := by decide +kernel
theorem dX5_undo_53 : decode cX5_undo 53 = .ok (.iadd, 1) := by decide +kernel
theorem dX5_undo_54 : decode cX5_undo 54 = .ok (.iaload, 1) := by decide +kernel
theorem dX5_undo_55 : decode cX5_undo 55 = .ok (.iastore, 1) := by decide +kernel
theorem dX5_undo_56 : decode cX5_undo 56 = .ok (.aload_n 0, 1) := by decide +kernel
theorem dX5_undo_57 : decode cX5_undo 57 = .ok (.getfield 16, 3) := by decide +kernel
theorem dX5_undo_60 : decode cX5_undo 60 = .ok (.iload_n 1, 1) := by decide +kernel
theorem dX5_undo_61 : decode cX5_undo 61 = .ok (.aload_n 0, 1) := by decide +kernel
theorem dX5_undo_62 : decode cX5_undo 62 = .ok (.getfield 50, 3) := by decide +kernel
theorem dX5_undo_65 : decode cX5_undo 65 = .ok (.bipush 8, 2) := by decide +kernel
theorem dX5_undo_67 : decode cX5_undo 67 = .ok (.aload_n 0, 1) := by decide +kernel
theorem dX5_undo_68 : decode cX5_undo 68 = .ok (.getfield 136, 3) := by decide +kernel
theorem dX5_undo_71 : decode cX5_undo 71 = .ok (.imul, 1) := by decide +kernel
theorem dX5_undo_72 : decode cX5_undo 72 = .ok (.iconst 2, 1) := by decide +kernel
theorem dX5_undo_73 : decode cX5_undo 73 = .ok (.iload_n 1, 1) := by decide +kernel
theorem dX5_undo_74 : decode cX5_undo 74 = .ok (.imul, 1) := by decide +kernel
theorem dX5_undo_75 : decode cX5_undo 75 = .ok (.iadd, 1) := by decide +kernel
theorem dX5_undo_76 : decode cX5_undo 76 = .ok (.iconst 1, 1) := by decide +kernel
theorem dX5_undo_77 : decode cX5_undo 77 = .ok (.iadd, 1) := by decide +kernel
theorem dX5_undo_78 : decode cX5_undo 78 = .ok (.iaload, 1) := by decide +kernel
theorem dX5_undo_79 : decode cX5_undo 79 = .ok (.iastore, 1) := by decide +kernel
theorem dX5_undo_80 : decode cX5_undo 80 = .ok (.iinc 1 1, 3) := by decide +kernel
theorem dX5_undo_83 : decode cX5_undo 83 = .ok (.goto (-62), 3) := by decide +kernel
theorem dX5_undo_86 : decode cX5_undo 86 = .ok (.iconst 1, 1) := by decide +kernel
theorem dX5_undo_87 : decode cX5_undo 87 = .ok (.ireturn, 1) := by decide +kernel
theorem dX5_copy_0 : decode cX5_copy 0 = .ok (.aload_n 0, 1) := by decide +kernel
theorem dX5_copy_1 : decode cX5_copy 1 = .ok (.getfield 139, 3) := by decide +kernel
theorem dX5_copy_4 : decode cX5_copy 4 = .ok (.bipush 8, 2) := by decide +kernel
theorem dX5_copy_6 : decode cX5_copy 6 = .ok (.if_icmp .ne 6, 3) := by decide +kernel
theorem dX5_copy_9 : decode cX5_copy 9 = .ok (.bipush (-2), 2) := by decide +kernel
theorem dX5_copy_11 : decode cX5_copy 11 = .ok (.ireturn, 1) := by decide +kernel
theorem dX5_copy_12 : decode cX5_copy 12 = .ok (.aload_n 0, 1) := by decide +kernel
theorem dX5_copy_13 : decode cX5_copy 13 = .ok (.getfield 53, 3) := by decide +kernel
theorem dX5_copy_16 : decode cX5_copy 16 = .ok (.aload_n 0, 1) := by decide +kernel
theorem dX5_copy_17 : decode cX5_copy 17 = .ok (.getfield 139, 3) := by decide +kernel
theorem dX5_copy_20 : decode cX5_copy 20 = .ok (.aload_n 0, 1) := by decide +kernel
theorem dX5_copy_21 : decode cX5_copy 21 = .ok (.getfield 81, 3) := by decide +kernel
theorem dX5_copy_24 : decode cX5_copy 24 = .ok (.iastore, 1) := by decide +kernel
theorem dX5_copy_25 : decode cX5_copy 25 = .ok (.iconst 0, 1) := by decide +kernel
theorem dX5_copy_26 : decode cX5_copy 26 = .ok (.istore_n 1, 1) := by decide +kernel
theorem dX5_copy_27 : decode cX5_copy 27 = .ok (.iload_n 1, 1) := by decide +kernel
theorem dX5_copy_28 : decode cX5_copy 28 = .ok (.aload_n 0, 1) := by decide +kernel
theorem dX5_copy_29 : decode cX5_copy 29 = .ok (.getfield 81, 3) := by decide +kernel
theorem dX5_copy_32 : decode cX5_copy 32 = .ok (.if_icmp .ge 55, 3) := by decide +kernel
theorem dX5_copy_35 : decode cX5_copy 35 = .ok (.aload_n 0, 1) := by decide +kernel
theorem dX5_copy_36 : decode cX5_copy 36 = .ok (.getfield 56, 3) := by decide +kernel
theorem dX5_copy_39 : decode cX5_copy 39 = .ok (.bipush 8, 2) := by decide +kernel
theorem dX5_copy_41 : decode cX5_copy 41 = .ok (.aload_n 0, 1) := by decide +kernel
theorem dX5_copy_42 : decode cX5_copy 42 = .ok (.getfield 139, 3) := by decide +kernel
theorem dX5_copy_45 : decode cX5_copy 45 = .ok (.imul, 1) := by decide +kernel
theorem dX5_copy_46 : decode cX5_copy 46 = .ok (.iconst 2, 1) := by decide +kernel
theorem dX5_copy_47 : decode cX5_copy 47 = .ok (.iload_n 1, 1) := by decide +kernel
theorem dX5_copy_48 : decode cX5_copy 48 = .ok (.imul, 1) := by decide +kernel
theorem dX5_copy_49 : decode cX5_copy 49 = .ok (.iadd, 1) := by decide +kernel
theorem dX5_copy_50 : decode cX5_copy 50 = .ok (.aload_n 0, 1) := by decide +kernel
theorem dX5_copy_51 : decode cX5_copy 51 = .ok (.getfield 13, 3) := by decide +kernel
theorem dX5_copy_54 : decode cX5_copy 54 = .ok (.iload_n 1, 1) := by decide +kernel
theorem dX5_copy_55 : decode cX5_copy 55 = .ok (.iaload, 1) := by decide +kernel
theorem dX5_copy_56 : decode cX5_copy 56 = .ok (.iastore, 1) := by decide +kernel
theorem dX5_copy_57 : decode cX5_copy 57 = .ok (.aload_n 0, 1) := by decide +kernel
theorem dX5_copy_58 : decode cX5_copy 58 = .ok (.getfield 56, 3) := by decide +kernel
theorem dX5_copy_61 : decode cX5_copy 61 = .ok (.bipush 8, 2) := by decide +kernel
theorem dX5_copy_63 : decode cX5_copy 63 = .ok (.aload_n 0, 1) := by decide +kernel
theorem dX5_copy_64 : decode cX5_copy 64 = .ok (.getfield 139, 3) := by decide +kernel
theorem dX5_copy_67 : decode cX5_copy 67 = .ok (.imul, 1) := by decide +kernel
theorem dX5_copy_68 : decode cX5_copy 68 = .ok (.iconst 2, 1) := by decide +kernel
theorem dX5_copy_69 : decode cX5_copy 69 = .ok (.iload_n 1, 1) := by decide +kernel
theorem dX5_copy_70 : decode cX5_copy 70 = .ok (.imul, 1) := by decide +kernel
theorem dX5_copy_71 : decode cX5_copy 71 = .ok (.iadd, 1) := by decide +kernel
theorem dX5_copy_72 : decode cX5_copy 72 = .ok (.iconst 1, 1) := by decide +kernel
theorem dX5_copy_73 : decode cX5_copy 73 = .ok (.iadd, 1) := by decide +kernel
theorem dX5_copy_74 : decode cX5_copy 74 = .ok (.aload_n 0, 1) := by decide +kernel
theorem dX5_copy_75 : decode cX5_copy 75 = .ok (.getfield 16, 3) := by decide +kernel
theorem dX5_copy_78 : decode cX5_copy 78 = .ok (.iload_n 1, 1) := by decide +kernel
theorem dX5_copy_79 : decode cX5_copy 79 = .ok (.iaload, 1) := by decide +kernel
theorem dX5_copy_80 : decode cX5_copy 80 = .ok (.iastore, 1) := by decide +kernel
theorem dX5_copy_81 : decode cX5_copy 81 = .ok (.iinc 1 1, 3) := by decide +kernel
theorem dX5_copy_84 : decode cX5_copy 84 = .ok (.goto (-57), 3) := by decide +kernel
theorem dX5_copy_87 : decode cX5_copy 87 = .ok (.aload_n 0, 1) := by decide +kernel
theorem dX5_copy_88 : decode cX5_copy 88 = .ok (.dup, 1) := by decide +kernel
theorem dX5_copy_89 : decode cX5_copy 89 = .ok (.getfield 139, 3) := by decide +kernel
theorem dX5_copy_92 : decode cX5_copy 92 = .ok (.iconst 1, 1) := by decide +kernel
theorem dX5_copy_93 : decode cX5_copy 93 = .ok (.iadd, 1) := by decide +kernel
theorem dX5_copy_94 : decode cX5_copy 94 = .ok (.putfield 139, 3) := by decide +kernel
theorem dX5_copy_97 : decode cX5_copy 97 = .ok (.aload_n 0, 1) := by decide +kernel
theorem dX5_copy_98 : decode cX5_copy 98 = .ok (.getfield 139, 3) := by decide +kernel
theorem dX5_copy_101 : decode cX5_copy 101 = .ok (.iconst 1, 1) := by decide +kernel
theorem dX5_copy_102 : decode cX5_copy 102 = .ok (.isub, 1) := by decide +kernel
theorem dX5_copy_103 : decode cX5_copy 103 = .ok (.ireturn, 1) := by decide +kernel
theorem dX5_compare_0 : decode cX5_compare 0 = .ok (.iload_n 1, 1) := by decide +kernel
theorem dX5_compare_1 : decode cX5_compare 1 = .ok (.ifCond .lt 11, 3) := by decide +kernel
theorem dX5_compare_4 : decode cX5_compare 4 = .ok (.iload_n 1, 1) := by decide +kernel
theorem dX5_compare_5 : decode cX5_compare 5 = .ok (.aload_n 0, 1) := by decide +kernel
theorem dX5_compare_6 : decode cX5_compare 6 = .ok (.getfield 139, 3) := by decide +kernel
theorem dX5_compare_9 : decode cX5_compare 9 = .ok (.if_icmp .lt 5, 3) := by decide +kernel
theorem dX5_compare_12 : decode cX5_compare 12 = .ok (.iconst (-1), 1) := by decide +kernel
theorem dX5_compare_13 : decode cX5_compare 13 = .ok (.ireturn, 1) := by decide +kernel
theorem dX5_compare_14 : decode cX5_compare 14 = .ok (.iconst 0, 1) := by decide +kernel
theorem dX5_compare_15 : decode cX5_compare 15 = .ok (.istore_n 3, 1) := by decide +kernel
theorem dX5_compare_16 : decode cX5_compare 16 = .ok (.iconst 0, 1) := by decide +kernel
theorem dX5_compare_17 : decode cX5_compare 17 = .ok (.istore 4, 2) := by decide +kernel
theorem dX5_compare_19 : decode cX5_compare 19 = .ok (.iload 4, 2) := by decide +kernel
theorem dX5_compare_21 : decode cX5_compare 21 = .ok (.aload_n 0, 1) := by decide +kernel
theorem dX5_compare_22 : decode cX5_compare 22 = .ok (.getfield 81, 3) := by decide +kernel
theorem dX5_compare_25 : decode cX5_compare 25 = .ok (.if_icmp .ge 93, 3) := by decide +kernel
theorem dX5_compare_28 : decode cX5_compare 28 = .ok (.iload 4, 2) := by decide +kernel
theorem dX5_compare_30 : decode cX5_compare 30 = .ok (.aload_n 0, 1) := by decide +kernel
theorem dX5_compare_31 : decode cX5_compare 31 = .ok (.getfield 53, 3) := by decide +kernel
theorem dX5_compare_34 : decode cX5_compare 34 = .ok (.iload_n 1, 1) := by decide +kernel
theorem dX5_compare_35 : decode cX5_compare 35 = .ok (.iaload, 1) := by decide +kernel
theorem dX5_compare_36 : decode cX5_compare 36 = .ok (.if_icmp .ge 53, 3) := by decide +kernel
theorem dX5_compare_39 : decode cX5_compare 39 = .ok (.aload_n 0, 1) := by decide +kernel
theorem dX5_compare_40 : decode cX5_compare 40 = .ok (.getfield 56, 3) := by decide +kernel
theorem dX5_compare_43 : decode cX5_compare 43 = .ok (.bipush 8, 2) := by decide +kernel
theorem dX5_compare_45 : decode cX5_compare 45 = .ok (.iload_n 1, 1) := by decide +kernel
theorem dX5_compare_46 : decode cX5_compare 46 = .ok (.imul, 1) := by decide +kernel
theorem dX5_compare_47 : decode cX5_compare 47 = .ok (.iconst 2, 1) := by decide +kernel
theorem dX5_compare_48 : decode cX5_compare 48 = .ok (.iload 4, 2) := by decide +kernel
theorem dX5_compare_50 : decode cX5_compare 50 = .ok (.imul, 1) := by decide +kernel
theorem dX5_compare_51 : decode cX5_compare 51 = .ok (.iadd, 1) := by decide +kernel
theorem dX5_compare_52 : decode cX5_compare 52 = .ok (.iaload, 1) := by decide +kernel
theorem dX5_compare_53 : decode cX5_compare 53 = .ok (.aload_n 0, 1) := by decide +kernel
theorem dX5_compare_54 : decode cX5_compare 54 = .ok (.getfield 13, 3) := by decide +kernel
theorem dX5_compare_57 : decode cX5_compare 57 = .ok (.iload 4, 2) := by decide +kernel
theorem dX5_compare_59 : decode cX5_compare 59 = .ok (.iaload, 1) := by decide +kernel
theorem dX5_compare_60 : decode cX5_compare 60 = .ok (.if_icmp .ne 29, 3) := by decide +kernel
theorem dX5_compare_63 : decode cX5_compare 63 = .ok (.aload_n 0, 1) := by decide +kernel
theorem dX5_compare_64 : decode cX5_compare 64 = .ok (.getfield 56, 3) := by decide +kernel
theorem dX5_compare_67 : decode cX5_compare 67 = .ok (.bipush 8, 2) := by decide +kernel
theorem dX5_compare_69 : decode cX5_compare 69 = .ok (.iload_n 1, 1) := by decide +kernel
theorem dX5_compare_70 : decode cX5_compare 70 = .ok (.imul, 1) := by decide +kernel
theorem dX5_compare_71 : decode cX5_compare 71 = .ok (.iconst 2, 1) := by decide +kernel
theorem dX5_compare_72 : decode cX5_compare 72 = .ok (.iload 4, 2) := by decide +kernel
theorem dX5_compare_74 : decode cX5_compare 74 = .ok (.imul, 1) := by decide +kernel
theorem dX5_compare_75 : decode cX5_compare 75 = .ok (.iadd, 1) := by decide +kernel
theorem dX5_compare_76 : decode cX5_compare 76 = .ok (.iconst 1, 1) := by decide +kernel
theorem dX5_compare_77 : decode cX5_compare 77 = .ok (.iadd, 1) := by decide +kernel
theorem dX5_compare_78 : decode cX5_compare 78 = .ok (.iaload, 1) := by decide +kernel
theorem dX5_compare_79 : decode cX5_compare 79 = .ok (.aload_n 0, 1) := by decide +kernel
theorem dX5_compare_80 : decode cX5_compare 80 = .ok (.getfield 16, 3) := by decide +kernel
theorem dX5_compare_83 : decode cX5_compare 83 = .ok (.iload 4, 2) := by decide +kernel
theorem dX5_compare_85 : decode cX5_compare 85 = .ok (.iaload, 1) := by decide +kernel
theorem dX5_compare_86 : decode cX5_compare 86 = .ok (.if_icmp .eq 7, 3) := by decide +kernel
theorem dX5_compare_89 : decode cX5_compare 89 = .ok (.iconst 1, 1) := by decide +kernel
theorem dX5_compare_90 : decode cX5_compare 90 = .ok (.goto 4, 3) := by decide +kernel
theorem dX5_compare_93 : decode cX5_compare 93 = .ok (.iconst 0, 1) := by decide +kernel
theorem dX5_compare_94 : decode cX5_compare 94 = .ok (.istore 5, 2) := by decide +kernel
theorem dX5_compare_96 : decode cX5_compare 96 = .ok (.iload 5, 2) := by decide +kernel
theorem dX5_compare_98 : decode cX5_compare 98 = .ok (.ifCond .eq 14, 3) := by decide +kernel
theorem dX5_compare_101 : decode cX5_compare 101 = .ok (.iload_n 3, 1) := by decide +kernel
theorem dX5_compare_102 : decode cX5_compare 102 = .ok (.iload_n 2, 1) := by decide +kernel
theorem dX5_compare_103 : decode cX5_compare 103 = .ok (.if_icmp .ne 6, 3) := by decide +kernel
theorem dX5_compare_106 : decode cX5_compare 106 = .ok (.iload 4, 2) := by decide +kernel
theorem dX5_compare_108 : decode cX5_compare 108 = .ok (.ireturn, 1) := by decide +kernel
theorem dX5_compare_109 : decode cX5_compare 109 = .ok (.iinc 3 1, 3) := by decide +kernel
theorem dX5_compare_112 : decode cX5_compare 112 = .ok (.iinc 4 1, 3) := by decide +kernel
theorem dX5_compare_115 : decode cX5_compare 115 = .ok (.goto (-96), 3) := by decide +kernel
theorem dX5_compare_118 : decode cX5_compare 118 = .ok (.iconst (-1), 1) := by decide +kernel
theorem dX5_compare_119 : decode cX5_compare 119 = .ok (.ireturn, 1) := by decide +kernel
theorem dL_law_0 : decode cL_law 0 = .ok (.new 7, 3) := by decide +kernel
theorem dL_law_3 : decode cL_law 3 = .ok (.dup, 1) := by decide +kernel
theorem dL_law_4 : decode cL_law 4 = .ok (.aload_n 0, 1) := by decide +kernel
theorem dL_law_5 : decode cL_law 5 = .ok (.iconst 0, 1) := by decide +kernel
theorem dL_law_6 : decode cL_law 6 = .ok (.invokestatic 9, 3) := by decide +kernel
theorem dL_law_9 : decode cL_law 9 = .ok (.aload_n 0, 1) := by decide +kernel
theorem dL_law_10 : decode cL_law 10 = .ok (.iconst 1, 1) := by decide +kernel
theorem dL_law_11 : decode cL_law 11 = .ok (.invokestatic 9, 3) := by decide +kernel
theorem dL_law_14 : decode cL_law 14 = .ok (.invokespecial 15, 3) := by decide +kernel
theorem dL_law_17 : decode cL_law 17 = .ok (.astore_n 1, 1) := by decide +kernel
theorem dL_law_18 : decode cL_law 18 = .ok (.new 18, 3) := by decide +kernel
theorem dL_law_21 : decode cL_law 21 = .ok (.dup, 1) := by decide +kernel
theorem dL_law_22 : decode cL_law 22 = .ok (.aload_n 0, 1) := by decide +kernel
theorem dL_law_23 : decode cL_law 23 = .ok (.iconst 0, 1) := by decide +kernel
theorem dL_law_24 : decode cL_law 24 = .ok (.invokestatic 9, 3) := by decide +kernel
theorem dL_law_27 : decode cL_law 27 = .ok (.aload_n 0, 1) := by decide +kernel
theorem dL_law_28 : decode cL_law 28 = .ok (.iconst 1, 1) := by decide +kernel
theorem dL_law_29 : decode cL_law 29 = .ok (.invokestatic 9, 3) := by decide +kernel
theorem dL_law_32 : decode cL_law 32 = .ok (.invokespecial 20, 3) := by decide +kernel
theorem dL_law_35 : decode cL_law 35 = .ok (.astore_n 2, 1) := by decide +kernel
theorem dL_law_36 : decode cL_law 36 = .ok (.iconst 2, 1) := by decide +kernel
theorem dL_law_37 : decode cL_law 37 = .ok (.istore_n 3, 1) := by decide +kernel
theorem dL_law_38 : decode cL_law 38 = .ok (.iload_n 3, 1) := by decide +kernel
theorem dL_law_39 : decode cL_law 39 = .ok (.aload_n 0, 1) := by decide +kernel
theorem dL_law_40 : decode cL_law 40 = .ok (.arraylength, 1) := by decide +kernel
theorem dL_law_41 : decode cL_law 41 = .ok (.iconst 5, 1) := by decide +kernel
theorem dL_law_42 : decode cL_law 42 = .ok (.isub, 1) := by decide +kernel
theorem dL_law_43 : decode cL_law 43 = .ok (.if_icmp .gt 490, 3) := by decide +kernel
theorem dL_law_46 : decode cL_law 46 = .ok (.aload_n 0, 1) := by decide +kernel
theorem dL_law_47 : decode cL_law 47 = .ok (.iload_n 3, 1) := by decide +kernel
theorem dL_law_48 : decode cL_law 48 = .ok (.iaload, 1) := by decide +kernel
theorem dL_law_49 : decode cL_law 49 = .ok (.bipush 15, 2) := by decide +kernel
theorem dL_law_51 : decode cL_law 51 = .ok (.iand, 1) := by decide +kernel
theorem dL_law_52 : decode cL_law 52 = .ok (.tableswitch 475 0 13 #[72, 115, 168, 191, 234, 267, 320, 343, 366, 389, 402, 415, 428, 461], 72) := by decide +kernel
theorem dL_law_124 : decode cL_law 124 = .ok (.aload_n 1, 1) := by decide +kernel
theorem dL_law_125 : decode cL_law 125 = .ok (.aload_n 0, 1) := by decide +kernel
theorem dL_law_126 : decode cL_law 126 = .ok (.iload_n 3, 1) := by decide +kernel
theorem dL_law_127 : decode cL_law 127 = .ok (.iconst 1, 1) := by decide +kernel
theorem dL_law_128 : decode cL_law 128 = .ok (.iadd, 1) := by decide +kernel
theorem dL_law_129 : decode cL_law 129 = .ok (.iaload, 1) := by decide +kernel
theorem dL_law_130 : decode cL_law 130 = .ok (.aload_n 0, 1) := by decide +kernel
theorem dL_law_131 : decode cL_law 131 = .ok (.iload_n 3, 1) := by decide +kernel
theorem dL_law_132 : decode cL_law 132 = .ok (.iconst 2, 1) := by decide +kernel
theorem dL_law_133 : decode cL_law 133 = .ok (.iadd, 1) := by decide +kernel
theorem dL_law_134 : decode cL_law 134 = .ok (.iaload, 1) := by decide +kernel
theorem dL_law_135 : decode cL_law 135 = .ok (.aload_n 0, 1) := by decide +kernel
theorem dL_law_136 : decode cL_law 136 = .ok (.iload_n 3, 1) := by decide +kernel
theorem dL_law_137 : decode cL_law 137 = .ok (.iconst 3, 1) := by decide +kernel
theorem dL_law_138 : decode cL_law 138 = .ok (.iadd, 1) := by decide +kernel
theorem dL_law_139 : decode cL_law 139 = .ok (.iaload, 1) := by decide +kernel
theorem dL_law_140 : decode cL_law 140 = .ok (.invokevirtual 21, 3) := by decide +kernel
theorem dL_law_143 : decode cL_law 143 = .ok (.aload_n 2, 1) := by decide +kernel
theorem dL_law_144 : decode cL_law 144 = .ok (.aload_n 0, 1) := by decide +kernel
theorem dL_law_145 : decode cL_law 145 = .ok (.iload_n 3, 1) := by decide +kernel
theorem dL_law_146 : decode cL_law 146 = .ok (.iconst 1, 1) := by decide +kernel
theorem dL_law_147 : decode cL_law 147 = .ok (.iadd, 1) := by decide +kernel
theorem dL_law_148 : decode cL_law 148 = .ok (.iaload, 1) := by decide +kernel
theorem dL_law_149 : decode cL_law 149 = .ok (.aload_n 0, 1) := by decide +kernel
theorem dL_law_150 : decode cL_law 150 = .ok (.iload_n 3, 1) := by decide +kernel
theorem dL_law_151 : decode cL_law 151 = .ok (.iconst 2, 1) := by decide +kernel
theorem dL_law_152 : decode cL_law 152 = .ok (.iadd, 1) := by decide +kernel
theorem dL_law_153 : decode cL_law 153 = .ok (.iaload, 1) := by decide +kernel
theorem dL_law_154 : decode cL_law 154 = .ok (.aload_n 0, 1) := by decide +kernel
theorem dL_law_155 : decode cL_law 155 = .ok (.iload_n 3, 1) := by decide +kernel
theorem dL_law_156 : decode cL_law 156 = .ok (.iconst 3, 1) := by decide +kernel
theorem dL_law_157 : decode cL_law 157 = .ok (.iadd, 1) := by decide +kernel
theorem dL_law_158 : decode cL_law 158 = .ok (.iaload, 1) := by decide +kernel
theorem dL_law_159 : decode cL_law 159 = .ok (.invokevirtual 25, 3) := by decide +kernel
theorem dL_law_162 : decode cL_law 162 = .ok (.if_icmp .eq 365, 3) := by decide +kernel
theorem dL_law_165 : decode cL_law 165 = .ok (.iconst 0, 1) := by decide +kernel
theorem dL_law_166 : decode cL_law 166 = .ok (.ireturn, 1) := by decide +kernel
theorem dL_law_167 : decode cL_law 167 = .ok (.aload_n 1, 1) := by decide +kernel
theorem dL_law_168 : decode cL_law 168 = .ok (.aload_n 0, 1) := by decide +kernel
theorem dL_law_169 : decode cL_law 169 = .ok (.iload_n 3, 1) := by decide +kernel
theorem dL_law_170 : decode cL_law 170 = .ok (.iconst 1, 1) := by decide +kernel
theorem dL_law_171 : decode cL_law 171 = .ok (.iadd, 1) := by decide +kernel
theorem dL_law_172 : decode cL_law 172 = .ok (.iaload, 1) := by decide +kernel
theorem dL_law_173 : decode cL_law 173 = .ok (.aload_n 0, 1) := by decide +kernel
theorem dL_law_174 : decode cL_law 174 = .ok (.iload_n 3, 1) := by decide +kernel
theorem dL_law_175 : decode cL_law 175 = .ok (.iconst 2, 1) := by decide +kernel
theorem dL_law_176 : decode cL_law 176 = .ok (.iadd, 1) := by decide +kernel
theorem dL_law_177 : decode cL_law 177 = .ok (.iaload, 1) := by decide +kernel
theorem dL_law_178 : decode cL_law 178 = .ok (.aload_n 0, 1) := by decide +kernel
theorem dL_law_179 : decode cL_law 179 = .ok (.iload_n 3, 1) := by decide +kernel
theorem dL_law_180 : decode cL_law 180 = .ok (.iconst 3, 1) := by decide +kernel
theorem dL_law_181 : decode cL_law 181 = .ok (.iadd, 1) := by decide +kernel
theorem dL_law_182 : decode cL_law 182 = .ok (.iaload, 1) := by decide +kernel
theorem dL_law_183 : decode cL_law 183 = .ok (.aload_n 0, 1) := by decide +kernel
theorem dL_law_184 : decode cL_law 184 = .ok (.iload_n 3, 1) := by decide +kernel
theorem dL_law_185 : decode cL_law 185 = .ok (.iconst 4, 1) := by decide +kernel
theorem dL_law_186 : decode cL_law 186 = .ok (.iadd, 1) := by decide +kernel
theorem dL_law_187 : decode cL_law 187 = .ok (.iaload, 1) := by decide +kernel
theorem dL_law_188 : decode cL_law 188 = .ok (.invokevirtual 26, 3) := by decide +kernel
theorem dL_law_191 : decode cL_law 191 = .ok (.aload_n 2, 1) := by decide +kernel
theorem dL_law_192 : decode cL_law 192 = .ok (.aload_n 0, 1) := by decide +kernel
theorem dL_law_193 : decode cL_law 193 = .ok (.iload_n 3, 1) := by decide +kernel
theorem dL_law_194 : decode cL_law 194 = .ok (.iconst 1, 1) := by decide +kernel
theorem dL_law_195 : decode cL_law 195 = .ok (.iadd, 1) := by decide +kernel
theorem dL_law_196 : decode cL_law 196 = .ok (.iaload, 1) := by decide +kernel
theorem dL_law_197 : decode cL_law 197 = .ok (.aload_n 0, 1) := by decide +kernel
theorem dL_law_198 : decode cL_law 198 = .ok (.iload_n 3, 1) := by decide +kernel
theorem dL_law_199 : decode cL_law 199 = .ok (.iconst 2, 1) := by decide +kernel
theorem dL_law_200 : decode cL_law 200 = .ok (.iadd, 1) := by decide +kernel
theorem dL_law_201 : decode cL_law 201 = .ok (.iaload, 1) := by decide +kernel
theorem dL_law_202 : decode cL_law 202 = .ok (.aload_n 0, 1) := by decide +kernel
theorem dL_law_203 : decode cL_law 203 = .ok (.iload_n 3, 1) := by decide +kernel
theorem dL_law_204 : decode cL_law 204 = .ok (.iconst 3, 1) := by decide +kernel
theorem dL_law_205 : decode cL_law 205 = .ok (.iadd, 1) := by decide +kernel
theorem dL_law_206 : decode cL_law 206 = .ok (.iaload, 1) := by decide +kernel
theorem dL_law_207 : decode cL_law 207 = .ok (.aload_n 0, 1) := by decide +kernel
theorem dL_law_208 : decode cL_law 208 = .ok (.iload_n 3, 1) := by decide +kernel
theorem dL_law_209 : decode cL_law 209 = .ok (.iconst 4, 1) := by decide +kernel
theorem dL_law_210 : decode cL_law 210 = .ok (.iadd, 1) := by decide +kernel
theorem dL_law_211 : decode cL_law 211 = .ok (.iaload, 1) := by decide +kernel
theorem dL_law_212 : decode cL_law 212 = .ok (.invokevirtual 30, 3) := by decide +kernel
theorem dL_law_215 : decode cL_law 215 = .ok (.if_icmp .eq 312, 3) := by decide +kernel
theorem dL_law_218 : decode cL_law 218 = .ok (.iconst 0, 1) := by decide +kernel
theorem dL_law_219 : decode cL_law 219 = .ok (.ireturn, 1) := by decide +kernel
theorem dL_law_220 : decode cL_law 220 = .ok (.aload_n 1, 1) := by decide +kernel
theorem dL_law_221 : decode cL_law 221 = .ok (.aload_n 0, 1) := by decide +kernel
theorem dL_law_222 : decode cL_law 222 = .ok (.iload_n 3, 1) := by decide +kernel
theorem dL_law_223 : decode cL_law 223 = .ok (.iconst 1, 1) := by decide +kernel
theorem dL_law_224 : decode cL_law 224 = .ok (.iadd, 1) := by decide +kernel
theorem dL_law_225 : decode cL_law 225 = .ok (.iaload, 1) := by decide +kernel
theorem dL_law_226 : decode cL_law 226 = .ok (.invokevirtual 31, 3) := by decide +kernel
theorem dL_law_229 : decode cL_law 229 = .ok (.aload_n 2, 1) := by decide +kernel
theorem dL_law_230 : decode cL_law 230 = .ok (.aload_n 0, 1) := by decide +kernel
theorem dL_law_231 : decode cL_law 231 = .ok (.iload_n 3, 1) := by decide +kernel
theorem dL_law_232 : decode cL_law 232 = .ok (.iconst 1, 1) := by decide +kernel
theorem dL_law_233 : decode cL_law 233 = .ok (.iadd, 1) := by decide +kernel
theorem dL_law_234 : decode cL_law 234 = .ok (.iaload, 1) := by decide +kernel
theorem dL_law_235 : decode cL_law 235 = .ok (.invokevirtual 35, 3) := by decide +kernel
theorem dL_law_238 : decode cL_law 238 = .ok (.if_icmp .eq 289, 3) := by decide +kernel
theorem dL_law_241 : decode cL_law 241 = .ok (.iconst 0, 1) := by decide +kernel
theorem dL_law_242 : decode cL_law 242 = .ok (.ireturn, 1) := by decide +kernel
theorem dL_law_243 : decode cL_law 243 = .ok (.aload_n 1, 1) := by decide +kernel
theorem dL_law_244 : decode cL_law 244 = .ok (.aload_n 0, 1) := by decide +kernel
theorem dL_law_245 : decode cL_law 245 = .ok (.iload_n 3, 1) := by decide +kernel
theorem dL_law_246 : decode cL_law 246 = .ok (.iconst 1, 1) := by decide +kernel
theorem dL_law_247 : decode cL_law 247 = .ok (.iadd, 1) := by decide +kernel
theorem dL_law_248 : decode cL_law 248 = .ok (.iaload, 1) := by decide +kernel
theorem dL_law_249 : decode cL_law 249 = .ok (.aload_n 0, 1) := by decide +kernel
theorem dL_law_250 : decode cL_law 250 = .ok (.iload_n 3, 1) := by decide +kernel
theorem dL_law_251 : decode cL_law 251 = .ok (.iconst 2, 1) := by decide +kernel
theorem dL_law_252 : decode cL_law 252 = .ok (.iadd, 1) := by decide +kernel
theorem dL_law_253 : decode cL_law 253 = .ok (.iaload, 1) := by decide +kernel
theorem dL_law_254 : decode cL_law 254 = .ok (.aload_n 0, 1) := by decide +kernel
theorem dL_law_255 : decode cL_law 255 = .ok (.iload_n 3, 1) := by decide +kernel
theorem dL_law_256 : decode cL_law 256 = .ok (.iconst 3, 1) := by decide +kernel
theorem dL_law_257 : decode cL_law 257 = .ok (.iadd, 1) := by decide +kernel
theorem dL_law_258 : decode cL_law 258 = .ok (.iaload, 1) := by decide +kernel
theorem dL_law_259 : decode cL_law 259 = .ok (.invokevirtual 36, 3) := by decide +kernel
theorem dL_law_262 : decode cL_law 262 = .ok (.aload_n 2, 1) := by decide +kernel
theorem dL_law_263 : decode cL_law 263 = .ok (.aload_n 0, 1) := by decide +kernel
theorem dL_law_264 : decode cL_law 264 = .ok (.iload_n 3, 1) := by decide +kernel
theorem dL_law_265 : decode cL_law 265 = .ok (.iconst 1, 1) := by decide +kernel
theorem dL_law_266 : decode cL_law 266 = .ok (.iadd, 1) := by decide +kernel
theorem dL_law_267 : decode cL_law 267 = .ok (.iaload, 1) := by decide +kernel
theorem dL_law_268 : decode cL_law 268 = .ok (.aload_n 0, 1) := by decide +kernel
theorem dL_law_269 : decode cL_law 269 = .ok (.iload_n 3, 1) := by decide +kernel
theorem dL_law_270 : decode cL_law 270 = .ok (.iconst 2, 1) := by decide +kernel
theorem dL_law_271 : decode cL_law 271 = .ok (.iadd, 1) := by decide +kernel
theorem dL_law_272 : decode cL_law 272 = .ok (.iaload, 1) := by decide +kernel
theorem dL_law_273 : decode cL_law 273 = .ok (.aload_n 0, 1) := by decide +kernel
theorem dL_law_274 : decode cL_law 274 = .ok (.iload_n 3, 1) := by decide +kernel
theorem dL_law_275 : decode cL_law 275 = .ok (.iconst 3, 1) := by decide +kernel
theorem dL_law_276 : decode cL_law 276 = .ok (.iadd, 1) := by decide +kernel
theorem dL_law_277 : decode cL_law 277 = .ok (.iaload, 1) := by decide +kernel
theorem dL_law_278 : decode cL_law 278 = .ok (.invokevirtual 40, 3) := by decide +kernel
theorem dL_law_281 : decode cL_law 281 = .ok (.if_icmp .eq 246, 3) := by decide +kernel
theorem dL_law_284 : decode cL_law 284 = .ok (.iconst 0, 1) := by decide +kernel
theorem dL_law_285 : decode cL_law 285 = .ok (.ireturn, 1) := by decide +kernel
theorem dL_law_286 : decode cL_law 286 = .ok (.aload_n 1, 1) := by decide +kernel
theorem dL_law_287 : decode cL_law 287 = .ok (.aload_n 0, 1) := by decide +kernel
theorem dL_law_288 : decode cL_law 288 = .ok (.iload_n 3, 1) := by decide +kernel
theorem dL_law_289 : decode cL_law 289 = .ok (.iconst 1, 1) := by decide +kernel
theorem dL_law_290 : decode cL_law 290 = .ok (.iadd, 1) := by decide +kernel
theorem dL_law_291 : decode cL_law 291 = .ok (.iaload, 1) := by decide +kernel
theorem dL_law_292 : decode cL_law 292 = .ok (.aload_n 0, 1) := by decide +kernel
theorem dL_law_293 : decode cL_law 293 = .ok (.iload_n 3, 1) := by decide +kernel
theorem dL_law_294 : decode cL_law 294 = .ok (.iconst 2, 1) := by decide +kernel
theorem dL_law_295 : decode cL_law 295 = .ok (.iadd, 1) := by decide +kernel
theorem dL_law_296 : decode cL_law 296 = .ok (.iaload, 1) := by decide +kernel
theorem dL_law_297 : decode cL_law 297 = .ok (.invokevirtual 41, 3) := by decide +kernel
theorem dL_law_300 : decode cL_law 300 = .ok (.aload_n 2, 1) := by decide +kernel
theorem dL_law_301 : decode cL_law 301 = .ok (.aload_n 0, 1) := by decide +kernel
theorem dL_law_302 : decode cL_law 302 = .ok (.iload_n 3, 1) := by decide +kernel
theorem dL_law_303 : decode cL_law 303 = .ok (.iconst 1, 1) := by decide +kernel
theorem dL_law_304 : decode cL_law 304 = .ok (.iadd, 1) := by decide +kernel
theorem dL_law_305 : decode cL_law 305 = .ok (.iaload, 1) := by decide +kernel
theorem dL_law_306 : decode cL_law 306 = .ok (.aload_n 0, 1) := by decide +kernel
theorem dL_law_307 : decode cL_law 307 = .ok (.iload_n 3, 1) := by decide +kernel
theorem dL_law_308 : decode cL_law 308 = .ok (.iconst 2, 1) := by decide +kernel
theorem dL_law_309 : decode cL_law 309 = .ok (.iadd, 1) := by decide +kernel
theorem dL_law_310 : decode cL_law 310 = .ok (.iaload, 1) := by decide +kernel
theorem dL_law_311 : decode cL_law 311 = .ok (.invokevirtual 45, 3) := by decide +kernel
theorem dL_law_314 : decode cL_law 314 = .ok (.if_icmp .eq 213, 3) := by decide +kernel
theorem dL_law_317 : decode cL_law 317 = .ok (.iconst 0, 1) := by decide +kernel
theorem dL_law_318 : decode cL_law 318 = .ok (.ireturn, 1) := by decide +kernel
theorem dL_law_319 : decode cL_law 319 = .ok (.aload_n 1, 1) := by decide +kernel
theorem dL_law_320 : decode cL_law 320 = .ok (.aload_n 0, 1) := by decide +kernel
theorem dL_law_321 : decode cL_law 321 = .ok (.iload_n 3, 1) := by decide +kernel
theorem dL_law_322 : decode cL_law 322 = .ok (.iconst 1, 1) := by decide +kernel
theorem dL_law_323 : decode cL_law 323 = .ok (.iadd, 1) := by decide +kernel
theorem dL_law_324 : decode cL_law 324 = .ok (.iaload, 1) := by decide +kernel
theorem dL_law_325 : decode cL_law 325 = .ok (.i2l, 1) := by decide +kernel
theorem dL_law_326 : decode cL_law 326 = .ok (.bipush 32, 2) := by decide +kernel
theorem dL_law_328 : decode cL_law 328 = .ok (.lshl, 1) := by decide +kernel
theorem dL_law_329 : decode cL_law 329 = .ok (.aload_n 0, 1) := by decide +kernel
theorem dL_law_330 : decode cL_law 330 = .ok (.iload_n 3, 1) := by decide +kernel
theorem dL_law_331 : decode cL_law 331 = .ok (.iconst 2, 1) := by decide +kernel
theorem dL_law_332 : decode cL_law 332 = .ok (.iadd, 1) := by decide +kernel
theorem dL_law_333 : decode cL_law 333 = .ok (.iaload, 1) := by decide +kernel
theorem dL_law_334 : decode cL_law 334 = .ok (.i2l, 1) := by decide +kernel
theorem dL_law_335 : decode cL_law 335 = .ok (.ldc2_w 46, 3) := by decide +kernel
theorem dL_law_338 : decode cL_law 338 = .ok (.land, 1) := by decide +kernel
theorem dL_law_339 : decode cL_law 339 = .ok (.lor, 1) := by decide +kernel
theorem dL_law_340 : decode cL_law 340 = .ok (.invokevirtual 48, 3) := by decide +kernel
theorem dL_law_343 : decode cL_law 343 = .ok (.aload_n 2, 1) := by decide +kernel
theorem dL_law_344 : decode cL_law 344 = .ok (.aload_n 0, 1) := by decide +kernel
theorem dL_law_345 : decode cL_law 345 = .ok (.iload_n 3, 1) := by decide +kernel
theorem dL_law_346 : decode cL_law 346 = .ok (.iconst 1, 1) := by decide +kernel
theorem dL_law_347 : decode cL_law 347 = .ok (.iadd, 1) := by decide +kernel
theorem dL_law_348 : decode cL_law 348 = .ok (.iaload, 1) := by decide +kernel
theorem dL_law_349 : decode cL_law 349 = .ok (.i2l, 1) := by decide +kernel
theorem dL_law_350 : decode cL_law 350 = .ok (.bipush 32, 2) := by decide +kernel
theorem dL_law_352 : decode cL_law 352 = .ok (.lshl, 1) := by decide +kernel
theorem dL_law_353 : decode cL_law 353 = .ok (.aload_n 0, 1) := by decide +kernel
theorem dL_law_354 : decode cL_law 354 = .ok (.iload_n 3, 1) := by decide +kernel
theorem dL_law_355 : decode cL_law 355 = .ok (.iconst 2, 1) := by decide +kernel
theorem dL_law_356 : decode cL_law 356 = .ok (.iadd, 1) := by decide +kernel
theorem dL_law_357 : decode cL_law 357 = .ok (.iaload, 1) := by decide +kernel
theorem dL_law_358 : decode cL_law 358 = .ok (.i2l, 1) := by decide +kernel
theorem dL_law_359 : decode cL_law 359 = .ok (.ldc2_w 46, 3) := by decide +kernel
theorem dL_law_362 : decode cL_law 362 = .ok (.land, 1) := by decide +kernel
theorem dL_law_363 : decode cL_law 363 = .ok (.lor, 1) := by decide +kernel
theorem dL_law_364 : decode cL_law 364 = .ok (.invokevirtual 52, 3) := by decide +kernel
theorem dL_law_367 : decode cL_law 367 = .ok (.if_icmp .eq 160, 3) := by decide +kernel
theorem dL_law_370 : decode cL_law 370 = .ok (.iconst 0, 1) := by decide +kernel
theorem dL_law_371 : decode cL_law 371 = .ok (.ireturn, 1) := by decide +kernel
theorem dL_law_372 : decode cL_law 372 = .ok (.aload_n 1, 1) := by decide +kernel
theorem dL_law_373 : decode cL_law 373 = .ok (.aload_n 0, 1) := by decide +kernel
theorem dL_law_374 : decode cL_law 374 = .ok (.iload_n 3, 1) := by decide +kernel
theorem dL_law_375 : decode cL_law 375 = .ok (.iconst 1, 1) := by decide +kernel
theorem dL_law_376 : decode cL_law 376 = .ok (.iadd, 1) := by decide +kernel
theorem dL_law_377 : decode cL_law 377 = .ok (.iaload, 1) := by decide +kernel
theorem dL_law_378 : decode cL_law 378 = .ok (.invokevirtual 53, 3) := by decide +kernel
theorem dL_law_381 : decode cL_law 381 = .ok (.aload_n 2, 1) := by decide +kernel
theorem dL_law_382 : decode cL_law 382 = .ok (.aload_n 0, 1) := by decide +kernel
theorem dL_law_383 : decode cL_law 383 = .ok (.iload_n 3, 1) := by decide +kernel
theorem dL_law_384 : decode cL_law 384 = .ok (.iconst 1, 1) := by decide +kernel
theorem dL_law_385 : decode cL_law 385 = .ok (.iadd, 1) := by decide +kernel
theorem dL_law_386 : decode cL_law 386 = .ok (.iaload, 1) := by decide +kernel
theorem dL_law_387 : decode cL_law 387 = .ok (.invokevirtual 57, 3) := by decide +kernel
theorem dL_law_390 : decode cL_law 390 = .ok (.if_icmp .eq 137, 3) := by decide +kernel
theorem dL_law_393 : decode cL_law 393 = .ok (.iconst 0, 1) := by decide +kernel
theorem dL_law_394 : decode cL_law 394 = .ok (.ireturn, 1) := by decide +kernel
theorem dL_law_395 : decode cL_law 395 = .ok (.aload_n 1, 1) := by decide +kernel
theorem dL_law_396 : decode cL_law 396 = .ok (.aload_n 0, 1) := by decide +kernel
theorem dL_law_397 : decode cL_law 397 = .ok (.iload_n 3, 1) := by decide +kernel
theorem dL_law_398 : decode cL_law 398 = .ok (.iconst 1, 1) := by decide +kernel
theorem dL_law_399 : decode cL_law 399 = .ok (.iadd, 1) := by decide +kernel
theorem dL_law_400 : decode cL_law 400 = .ok (.iaload, 1) := by decide +kernel
theorem dL_law_401 : decode cL_law 401 = .ok (.invokevirtual 58, 3) := by decide +kernel
theorem dL_law_404 : decode cL_law 404 = .ok (.aload_n 2, 1) := by decide +kernel
theorem dL_law_405 : decode cL_law 405 = .ok (.aload_n 0, 1) := by decide +kernel
theorem dL_law_406 : decode cL_law 406 = .ok (.iload_n 3, 1) := by decide +kernel
theorem dL_law_407 : decode cL_law 407 = .ok (.iconst 1, 1) := by decide +kernel
theorem dL_law_408 : decode cL_law 408 = .ok (.iadd, 1) := by decide +kernel
theorem dL_law_409 : decode cL_law 409 = .ok (.iaload, 1) := by decide +kernel
theorem dL_law_410 : decode cL_law 410 = .ok (.invokevirtual 61, 3) := by decide +kernel
theorem dL_law_413 : decode cL_law 413 = .ok (.if_icmp .eq 114, 3) := by decide +kernel
theorem dL_law_416 : decode cL_law 416 = .ok (.iconst 0, 1) := by decide +kernel
theorem dL_law_417 : decode cL_law 417 = .ok (.ireturn, 1) := by decide +kernel
theorem dL_law_418 : decode cL_law 418 = .ok (.aload_n 1, 1) := by decide +kernel
theorem dL_law_419 : decode cL_law 419 = .ok (.aload_n 0, 1) := by decide +kernel
theorem dL_law_420 : decode cL_law 420 = .ok (.iload_n 3, 1) := by decide +kernel
theorem dL_law_421 : decode cL_law 421 = .ok (.iconst 1, 1) := by decide +kernel
theorem dL_law_422 : decode cL_law 422 = .ok (.iadd, 1) := by decide +kernel
theorem dL_law_423 : decode cL_law 423 = .ok (.iaload, 1) := by decide +kernel
theorem dL_law_424 : decode cL_law 424 = .ok (.invokevirtual 62, 3) := by decide +kernel
theorem dL_law_427 : decode cL_law 427 = .ok (.aload_n 2, 1) := by decide +kernel
theorem dL_law_428 : decode cL_law 428 = .ok (.aload_n 0, 1) := by decide +kernel
theorem dL_law_429 : decode cL_law 429 = .ok (.iload_n 3, 1) := by decide +kernel
theorem dL_law_430 : decode cL_law 430 = .ok (.iconst 1, 1) := by decide +kernel
theorem dL_law_431 : decode cL_law 431 = .ok (.iadd, 1) := by decide +kernel
theorem dL_law_432 : decode cL_law 432 = .ok (.iaload, 1) := by decide +kernel
theorem dL_law_433 : decode cL_law 433 = .ok (.invokevirtual 65, 3) := by decide +kernel
theorem dL_law_436 : decode cL_law 436 = .ok (.if_icmp .eq 91, 3) := by decide +kernel
theorem dL_law_439 : decode cL_law 439 = .ok (.iconst 0, 1) := by decide +kernel
