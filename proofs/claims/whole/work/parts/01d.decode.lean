theorem dX3_takeNewestInto_19 : decode cX3_takeNewestInto 19 = .ok (.imul, 1) := by decide +kernel
theorem dX3_takeNewestInto_20 : decode cX3_takeNewestInto 20 = .ok (.aload_n 1, 1) := by decide +kernel
theorem dX3_takeNewestInto_21 : decode cX3_takeNewestInto 21 = .ok (.getfield 34, 3) := by decide +kernel
theorem dX3_takeNewestInto_24 : decode cX3_takeNewestInto 24 = .ok (.iconst 0, 1) := by decide +kernel
theorem dX3_takeNewestInto_25 : decode cX3_takeNewestInto 25 = .ok (.aload_n 0, 1) := by decide +kernel
theorem dX3_takeNewestInto_26 : decode cX3_takeNewestInto 26 = .ok (.getfield 21, 3) := by decide +kernel
theorem dX3_takeNewestInto_29 : decode cX3_takeNewestInto 29 = .ok (.aload_n 0, 1) := by decide +kernel
theorem dX3_takeNewestInto_30 : decode cX3_takeNewestInto 30 = .ok (.getfield 28, 3) := by decide +kernel
theorem dX3_takeNewestInto_33 : decode cX3_takeNewestInto 33 = .ok (.iaload, 1) := by decide +kernel
theorem dX3_takeNewestInto_34 : decode cX3_takeNewestInto 34 = .ok (.invokestatic 35, 3) := by decide +kernel
theorem dX3_takeNewestInto_37 : decode cX3_takeNewestInto 37 = .ok (.return_, 1) := by decide +kernel
theorem dX4_copy_0 : decode cX4_copy 0 = .ok (.aload_n 0, 1) := by decide +kernel
theorem dX4_copy_1 : decode cX4_copy 1 = .ok (.getfield 39, 3) := by decide +kernel
theorem dX4_copy_4 : decode cX4_copy 4 = .ok (.invokevirtual 153, 3) := by decide +kernel
theorem dX4_copy_7 : decode cX4_copy 7 = .ok (.ifCond .eq 8, 3) := by decide +kernel
theorem dX4_copy_10 : decode cX4_copy 10 = .ok (.bipush (-2), 2) := by decide +kernel
theorem dX4_copy_12 : decode cX4_copy 12 = .ok (.goto 14, 3) := by decide +kernel
theorem dX4_copy_15 : decode cX4_copy 15 = .ok (.aload_n 0, 1) := by decide +kernel
theorem dX4_copy_16 : decode cX4_copy 16 = .ok (.getfield 39, 3) := by decide +kernel
theorem dX4_copy_19 : decode cX4_copy 19 = .ok (.aload_n 0, 1) := by decide +kernel
theorem dX4_copy_20 : decode cX4_copy 20 = .ok (.getfield 12, 3) := by decide +kernel
theorem dX4_copy_23 : decode cX4_copy 23 = .ok (.invokevirtual 154, 3) := by decide +kernel
theorem dX4_copy_26 : decode cX4_copy 26 = .ok (.ireturn, 1) := by decide +kernel
theorem dX4_compare_0 : decode cX4_compare 0 = .ok (.aload_n 0, 1) := by decide +kernel
theorem dX4_compare_1 : decode cX4_compare 1 = .ok (.getfield 39, 3) := by decide +kernel
theorem dX4_compare_4 : decode cX4_compare 4 = .ok (.iload_n 1, 1) := by decide +kernel
theorem dX4_compare_5 : decode cX4_compare 5 = .ok (.invokevirtual 158, 3) := by decide +kernel
theorem dX4_compare_8 : decode cX4_compare 8 = .ok (.ifCond .eq 22, 3) := by decide +kernel
theorem dX4_compare_11 : decode cX4_compare 11 = .ok (.aload_n 0, 1) := by decide +kernel
theorem dX4_compare_12 : decode cX4_compare 12 = .ok (.getfield 39, 3) := by decide +kernel
theorem dX4_compare_15 : decode cX4_compare 15 = .ok (.iload_n 1, 1) := by decide +kernel
theorem dX4_compare_16 : decode cX4_compare 16 = .ok (.aload_n 0, 1) := by decide +kernel
theorem dX4_compare_17 : decode cX4_compare 17 = .ok (.getfield 12, 3) := by decide +kernel
theorem dX4_compare_20 : decode cX4_compare 20 = .ok (.invokevirtual 159, 3) := by decide +kernel
theorem dX4_compare_23 : decode cX4_compare 23 = .ok (.iload_n 2, 1) := by decide +kernel
theorem dX4_compare_24 : decode cX4_compare 24 = .ok (.invokestatic 143, 3) := by decide +kernel
theorem dX4_compare_27 : decode cX4_compare 27 = .ok (.goto 4, 3) := by decide +kernel
theorem dX4_compare_30 : decode cX4_compare 30 = .ok (.iconst (-1), 1) := by decide +kernel
theorem dX4_compare_31 : decode cX4_compare 31 = .ok (.ireturn, 1) := by decide +kernel
theorem dX3_has_0 : decode cX3_has 0 = .ok (.iload_n 1, 1) := by decide +kernel
theorem dX3_has_1 : decode cX3_has 1 = .ok (.ifCond .lt 15, 3) := by decide +kernel
theorem dX3_has_4 : decode cX3_has 4 = .ok (.iload_n 1, 1) := by decide +kernel
theorem dX3_has_5 : decode cX3_has 5 = .ok (.aload_n 0, 1) := by decide +kernel
theorem dX3_has_6 : decode cX3_has 6 = .ok (.getfield 28, 3) := by decide +kernel
theorem dX3_has_9 : decode cX3_has 9 = .ok (.if_icmp .ge 7, 3) := by decide +kernel
theorem dX3_has_12 : decode cX3_has 12 = .ok (.iconst 1, 1) := by decide +kernel
theorem dX3_has_13 : decode cX3_has 13 = .ok (.goto 4, 3) := by decide +kernel
theorem dX3_has_16 : decode cX3_has 16 = .ok (.iconst 0, 1) := by decide +kernel
theorem dX3_has_17 : decode cX3_has 17 = .ok (.ireturn, 1) := by decide +kernel
theorem dX4_cost_0 : decode cX4_cost 0 = .ok (.aload_n 0, 1) := by decide +kernel
theorem dX4_cost_1 : decode cX4_cost 1 = .ok (.getfield 163, 3) := by decide +kernel
theorem dX4_cost_4 : decode cX4_cost 4 = .ok (.lreturn, 1) := by decide +kernel
theorem dL_cell_0 : decode cL_cell 0 = .ok (.iload_n 1, 1) := by decide +kernel
theorem dL_cell_1 : decode cL_cell 1 = .ok (.aload_n 0, 1) := by decide +kernel
theorem dL_cell_2 : decode cL_cell 2 = .ok (.arraylength, 1) := by decide +kernel
theorem dL_cell_3 : decode cL_cell 3 = .ok (.if_icmp .ge 9, 3) := by decide +kernel
theorem dL_cell_6 : decode cL_cell 6 = .ok (.aload_n 0, 1) := by decide +kernel
theorem dL_cell_7 : decode cL_cell 7 = .ok (.iload_n 1, 1) := by decide +kernel
theorem dL_cell_8 : decode cL_cell 8 = .ok (.iaload, 1) := by decide +kernel
theorem dL_cell_9 : decode cL_cell 9 = .ok (.goto 4, 3) := by decide +kernel
theorem dL_cell_12 : decode cL_cell 12 = .ok (.iconst 0, 1) := by decide +kernel
theorem dL_cell_13 : decode cL_cell 13 = .ok (.ireturn, 1) := by decide +kernel
theorem dX5_init_0 : decode cX5_init 0 = .ok (.aload_n 0, 1) := by decide +kernel
theorem dX5_init_1 : decode cX5_init 1 = .ok (.invokespecial 1, 3) := by decide +kernel
theorem dX5_init_4 : decode cX5_init 4 = .ok (.aload_n 0, 1) := by decide +kernel
theorem dX5_init_5 : decode cX5_init 5 = .ok (.iconst 4, 1) := by decide +kernel
theorem dX5_init_6 : decode cX5_init 6 = .ok (.newarray .int, 2) := by decide +kernel
theorem dX5_init_8 : decode cX5_init 8 = .ok (.putfield 7, 3) := by decide +kernel
theorem dX5_init_11 : decode cX5_init 11 = .ok (.aload_n 0, 1) := by decide +kernel
theorem dX5_init_12 : decode cX5_init 12 = .ok (.iconst 4, 1) := by decide +kernel
theorem dX5_init_13 : decode cX5_init 13 = .ok (.newarray .int, 2) := by decide +kernel
theorem dX5_init_15 : decode cX5_init 15 = .ok (.putfield 13, 3) := by decide +kernel
theorem dX5_init_18 : decode cX5_init 18 = .ok (.aload_n 0, 1) := by decide +kernel
theorem dX5_init_19 : decode cX5_init 19 = .ok (.iconst 4, 1) := by decide +kernel
theorem dX5_init_20 : decode cX5_init 20 = .ok (.newarray .int, 2) := by decide +kernel
theorem dX5_init_22 : decode cX5_init 22 = .ok (.putfield 16, 3) := by decide +kernel
theorem dX5_init_25 : decode cX5_init 25 = .ok (.aload_n 0, 1) := by decide +kernel
theorem dX5_init_26 : decode cX5_init 26 = .ok (.iconst 4, 1) := by decide +kernel
theorem dX5_init_27 : decode cX5_init 27 = .ok (.newarray .int, 2) := by decide +kernel
theorem dX5_init_29 : decode cX5_init 29 = .ok (.putfield 19, 3) := by decide +kernel
theorem dX5_init_32 : decode cX5_init 32 = .ok (.aload_n 0, 1) := by decide +kernel
theorem dX5_init_33 : decode cX5_init 33 = .ok (.iconst 4, 1) := by decide +kernel
theorem dX5_init_34 : decode cX5_init 34 = .ok (.newarray .boolean, 2) := by decide +kernel
theorem dX5_init_36 : decode cX5_init 36 = .ok (.putfield 22, 3) := by decide +kernel
theorem dX5_init_39 : decode cX5_init 39 = .ok (.aload_n 0, 1) := by decide +kernel
theorem dX5_init_40 : decode cX5_init 40 = .ok (.bipush 8, 2) := by decide +kernel
theorem dX5_init_42 : decode cX5_init 42 = .ok (.newarray .int, 2) := by decide +kernel
theorem dX5_init_44 : decode cX5_init 44 = .ok (.putfield 26, 3) := by decide +kernel
theorem dX5_init_47 : decode cX5_init 47 = .ok (.aload_n 0, 1) := by decide +kernel
theorem dX5_init_48 : decode cX5_init 48 = .ok (.bipush 8, 2) := by decide +kernel
theorem dX5_init_50 : decode cX5_init 50 = .ok (.newarray .int, 2) := by decide +kernel
theorem dX5_init_52 : decode cX5_init 52 = .ok (.putfield 29, 3) := by decide +kernel
theorem dX5_init_55 : decode cX5_init 55 = .ok (.aload_n 0, 1) := by decide +kernel
theorem dX5_init_56 : decode cX5_init 56 = .ok (.bipush 8, 2) := by decide +kernel
theorem dX5_init_58 : decode cX5_init 58 = .ok (.newarray .int, 2) := by decide +kernel
theorem dX5_init_60 : decode cX5_init 60 = .ok (.putfield 32, 3) := by decide +kernel
theorem dX5_init_63 : decode cX5_init 63 = .ok (.aload_n 0, 1) := by decide +kernel
theorem dX5_init_64 : decode cX5_init 64 = .ok (.bipush 8, 2) := by decide +kernel
theorem dX5_init_66 : decode cX5_init 66 = .ok (.newarray .int, 2) := by decide +kernel
theorem dX5_init_68 : decode cX5_init 68 = .ok (.putfield 35, 3) := by decide +kernel
theorem dX5_init_71 : decode cX5_init 71 = .ok (.aload_n 0, 1) := by decide +kernel
theorem dX5_init_72 : decode cX5_init 72 = .ok (.bipush 12, 2) := by decide +kernel
theorem dX5_init_74 : decode cX5_init 74 = .ok (.newarray .int, 2) := by decide +kernel
theorem dX5_init_76 : decode cX5_init 76 = .ok (.putfield 38, 3) := by decide +kernel
theorem dX5_init_79 : decode cX5_init 79 = .ok (.aload_n 0, 1) := by decide +kernel
theorem dX5_init_80 : decode cX5_init 80 = .ok (.bipush 12, 2) := by decide +kernel
theorem dX5_init_82 : decode cX5_init 82 = .ok (.newarray .int, 2) := by decide +kernel
theorem dX5_init_84 : decode cX5_init 84 = .ok (.putfield 41, 3) := by decide +kernel
theorem dX5_init_87 : decode cX5_init 87 = .ok (.aload_n 0, 1) := by decide +kernel
theorem dX5_init_88 : decode cX5_init 88 = .ok (.bipush 12, 2) := by decide +kernel
theorem dX5_init_90 : decode cX5_init 90 = .ok (.newarray .int, 2) := by decide +kernel
theorem dX5_init_92 : decode cX5_init 92 = .ok (.putfield 44, 3) := by decide +kernel
theorem dX5_init_95 : decode cX5_init 95 = .ok (.aload_n 0, 1) := by decide +kernel
theorem dX5_init_96 : decode cX5_init 96 = .ok (.bipush 16, 2) := by decide +kernel
theorem dX5_init_98 : decode cX5_init 98 = .ok (.newarray .int, 2) := by decide +kernel
theorem dX5_init_100 : decode cX5_init 100 = .ok (.putfield 47, 3) := by decide +kernel
theorem dX5_init_103 : decode cX5_init 103 = .ok (.aload_n 0, 1) := by decide +kernel
theorem dX5_init_104 : decode cX5_init 104 = .ok (.sipush 128, 3) := by decide +kernel
theorem dX5_init_107 : decode cX5_init 107 = .ok (.newarray .int, 2) := by decide +kernel
theorem dX5_init_109 : decode cX5_init 109 = .ok (.putfield 50, 3) := by decide +kernel
theorem dX5_init_112 : decode cX5_init 112 = .ok (.aload_n 0, 1) := by decide +kernel
theorem dX5_init_113 : decode cX5_init 113 = .ok (.bipush 8, 2) := by decide +kernel
theorem dX5_init_115 : decode cX5_init 115 = .ok (.newarray .int, 2) := by decide +kernel
theorem dX5_init_117 : decode cX5_init 117 = .ok (.putfield 53, 3) := by decide +kernel
theorem dX5_init_120 : decode cX5_init 120 = .ok (.aload_n 0, 1) := by decide +kernel
theorem dX5_init_121 : decode cX5_init 121 = .ok (.bipush 64, 2) := by decide +kernel
theorem dX5_init_123 : decode cX5_init 123 = .ok (.newarray .int, 2) := by decide +kernel
theorem dX5_init_125 : decode cX5_init 125 = .ok (.putfield 56, 3) := by decide +kernel
theorem dX5_init_128 : decode cX5_init 128 = .ok (.aload_n 0, 1) := by decide +kernel
theorem dX5_init_129 : decode cX5_init 129 = .ok (.iconst 4, 1) := by decide +kernel
theorem dX5_init_130 : decode cX5_init 130 = .ok (.newarray .int, 2) := by decide +kernel
theorem dX5_init_132 : decode cX5_init 132 = .ok (.putfield 59, 3) := by decide +kernel
theorem dX5_init_135 : decode cX5_init 135 = .ok (.aload_n 0, 1) := by decide +kernel
theorem dX5_init_136 : decode cX5_init 136 = .ok (.iconst 4, 1) := by decide +kernel
theorem dX5_init_137 : decode cX5_init 137 = .ok (.newarray .int, 2) := by decide +kernel
theorem dX5_init_139 : decode cX5_init 139 = .ok (.putfield 62, 3) := by decide +kernel
theorem dX5_init_142 : decode cX5_init 142 = .ok (.aload_n 0, 1) := by decide +kernel
theorem dX5_init_143 : decode cX5_init 143 = .ok (.iconst 4, 1) := by decide +kernel
theorem dX5_init_144 : decode cX5_init 144 = .ok (.newarray .int, 2) := by decide +kernel
theorem dX5_init_146 : decode cX5_init 146 = .ok (.putfield 65, 3) := by decide +kernel
theorem dX5_init_149 : decode cX5_init 149 = .ok (.aload_n 0, 1) := by decide +kernel
theorem dX5_init_150 : decode cX5_init 150 = .ok (.iconst 4, 1) := by decide +kernel
theorem dX5_init_151 : decode cX5_init 151 = .ok (.newarray .int, 2) := by decide +kernel
theorem dX5_init_153 : decode cX5_init 153 = .ok (.putfield 68, 3) := by decide +kernel
theorem dX5_init_156 : decode cX5_init 156 = .ok (.aload_n 0, 1) := by decide +kernel
theorem dX5_init_157 : decode cX5_init 157 = .ok (.iconst 4, 1) := by decide +kernel
theorem dX5_init_158 : decode cX5_init 158 = .ok (.newarray .boolean, 2) := by decide +kernel
theorem dX5_init_160 : decode cX5_init 160 = .ok (.putfield 71, 3) := by decide +kernel
theorem dX5_init_163 : decode cX5_init 163 = .ok (.aload_n 0, 1) := by decide +kernel
theorem dX5_init_164 : decode cX5_init 164 = .ok (.iload_n 1, 1) := by decide +kernel
theorem dX5_init_165 : decode cX5_init 165 = .ok (.iconst 1, 1) := by decide +kernel
theorem dX5_init_166 : decode cX5_init 166 = .ok (.if_icmp .ge 7, 3) := by decide +kernel
theorem dX5_init_169 : decode cX5_init 169 = .ok (.iconst 1, 1) := by decide +kernel
theorem dX5_init_170 : decode cX5_init 170 = .ok (.goto 13, 3) := by decide +kernel
theorem dX5_init_173 : decode cX5_init 173 = .ok (.iload_n 1, 1) := by decide +kernel
theorem dX5_init_174 : decode cX5_init 174 = .ok (.iconst 3, 1) := by decide +kernel
theorem dX5_init_175 : decode cX5_init 175 = .ok (.if_icmp .le 7, 3) := by decide +kernel
theorem dX5_init_178 : decode cX5_init 178 = .ok (.iconst 3, 1) := by decide +kernel
theorem dX5_init_179 : decode cX5_init 179 = .ok (.goto 4, 3) := by decide +kernel
theorem dX5_init_182 : decode cX5_init 182 = .ok (.iload_n 1, 1) := by decide +kernel
theorem dX5_init_183 : decode cX5_init 183 = .ok (.putfield 74, 3) := by decide +kernel
theorem dX5_init_186 : decode cX5_init 186 = .ok (.aload_n 0, 1) := by decide +kernel
theorem dX5_init_187 : decode cX5_init 187 = .ok (.iload_n 2, 1) := by decide +kernel
theorem dX5_init_188 : decode cX5_init 188 = .ok (.iconst 1, 1) := by decide +kernel
theorem dX5_init_189 : decode cX5_init 189 = .ok (.if_icmp .ge 7, 3) := by decide +kernel
theorem dX5_init_192 : decode cX5_init 192 = .ok (.iconst 1, 1) := by decide +kernel
theorem dX5_init_193 : decode cX5_init 193 = .ok (.goto 15, 3) := by decide +kernel
theorem dX5_init_196 : decode cX5_init 196 = .ok (.iload_n 2, 1) := by decide +kernel
theorem dX5_init_197 : decode cX5_init 197 = .ok (.bipush 10, 2) := by decide +kernel
theorem dX5_init_199 : decode cX5_init 199 = .ok (.if_icmp .le 8, 3) := by decide +kernel
theorem dX5_init_202 : decode cX5_init 202 = .ok (.bipush 10, 2) := by decide +kernel
theorem dX5_init_204 : decode cX5_init 204 = .ok (.goto 4, 3) := by decide +kernel
theorem dX5_init_207 : decode cX5_init 207 = .ok (.iload_n 2, 1) := by decide +kernel
theorem dX5_init_208 : decode cX5_init 208 = .ok (.putfield 78, 3) := by decide +kernel
theorem dX5_init_211 : decode cX5_init 211 = .ok (.return_, 1) := by decide +kernel
theorem dX5_batch_0 : decode cX5_batch 0 = .ok (.iload_n 1, 1) := by decide +kernel
theorem dX5_batch_1 : decode cX5_batch 1 = .ok (.ifCond .lt 38, 3) := by decide +kernel
theorem dX5_batch_4 : decode cX5_batch 4 = .ok (.iload_n 1, 1) := by decide +kernel
theorem dX5_batch_5 : decode cX5_batch 5 = .ok (.aload_n 0, 1) := by decide +kernel
theorem dX5_batch_6 : decode cX5_batch 6 = .ok (.getfield 74, 3) := by decide +kernel
theorem dX5_batch_9 : decode cX5_batch 9 = .ok (.if_icmp .ge 30, 3) := by decide +kernel
theorem dX5_batch_12 : decode cX5_batch 12 = .ok (.iload_n 3, 1) := by decide +kernel
theorem dX5_batch_13 : decode cX5_batch 13 = .ok (.iconst 1, 1) := by decide +kernel
theorem dX5_batch_14 : decode cX5_batch 14 = .ok (.if_icmp .lt 25, 3) := by decide +kernel
theorem dX5_batch_17 : decode cX5_batch 17 = .ok (.iload_n 2, 1) := by decide +kernel
theorem dX5_batch_18 : decode cX5_batch 18 = .ok (.ifCond .lt 21, 3) := by decide +kernel
theorem dX5_batch_21 : decode cX5_batch 21 = .ok (.iload_n 3, 1) := by decide +kernel
theorem dX5_batch_22 : decode cX5_batch 22 = .ok (.aload_n 0, 1) := by decide +kernel
theorem dX5_batch_23 : decode cX5_batch 23 = .ok (.getfield 78, 3) := by decide +kernel
theorem dX5_batch_26 : decode cX5_batch 26 = .ok (.if_icmp .gt 13, 3) := by decide +kernel
theorem dX5_batch_29 : decode cX5_batch 29 = .ok (.iload_n 2, 1) := by decide +kernel
theorem dX5_batch_30 : decode cX5_batch 30 = .ok (.aload_n 0, 1) := by decide +kernel
theorem dX5_batch_31 : decode cX5_batch 31 = .ok (.getfield 78, 3) := by decide +kernel
theorem dX5_batch_34 : decode cX5_batch 34 = .ok (.iload_n 3, 1) := by decide +kernel
theorem dX5_batch_35 : decode cX5_batch 35 = .ok (.isub, 1) := by decide +kernel
theorem dX5_batch_36 : decode cX5_batch 36 = .ok (.if_icmp .le 5, 3) := by decide +kernel
theorem dX5_batch_39 : decode cX5_batch 39 = .ok (.iconst (-1), 1) := by decide +kernel
theorem dX5_batch_40 : decode cX5_batch 40 = .ok (.ireturn, 1) := by decide +kernel
theorem dX5_batch_41 : decode cX5_batch 41 = .ok (.aload_n 0, 1) := by decide +kernel
theorem dX5_batch_42 : decode cX5_batch 42 = .ok (.getfield 81, 3) := by decide +kernel
theorem dX5_batch_45 : decode cX5_batch 45 = .ok (.iconst 4, 1) := by decide +kernel
theorem dX5_batch_46 : decode cX5_batch 46 = .ok (.if_icmp .ne 6, 3) := by decide +kernel
theorem dX5_batch_49 : decode cX5_batch 49 = .ok (.bipush (-2), 2) := by decide +kernel
theorem dX5_batch_51 : decode cX5_batch 51 = .ok (.ireturn, 1) := by decide +kernel
theorem dX5_batch_52 : decode cX5_batch 52 = .ok (.aload_n 0, 1) := by decide +kernel
theorem dX5_batch_53 : decode cX5_batch 53 = .ok (.getfield 13, 3) := by decide +kernel
theorem dX5_batch_56 : decode cX5_batch 56 = .ok (.aload_n 0, 1) := by decide +kernel
theorem dX5_batch_57 : decode cX5_batch 57 = .ok (.getfield 81, 3) := by decide +kernel
theorem dX5_batch_60 : decode cX5_batch 60 = .ok (.iload_n 1, 1) := by decide +kernel
theorem dX5_batch_61 : decode cX5_batch 61 = .ok (.iastore, 1) := by decide +kernel
theorem dX5_batch_62 : decode cX5_batch 62 = .ok (.aload_n 0, 1) := by decide +kernel
theorem dX5_batch_63 : decode cX5_batch 63 = .ok (.getfield 16, 3) := by decide +kernel
theorem dX5_batch_66 : decode cX5_batch 66 = .ok (.aload_n 0, 1) := by decide +kernel
theorem dX5_batch_67 : decode cX5_batch 67 = .ok (.getfield 81, 3) := by decide +kernel
theorem dX5_batch_70 : decode cX5_batch 70 = .ok (.iload_n 2, 1) := by decide +kernel
theorem dX5_batch_71 : decode cX5_batch 71 = .ok (.iastore, 1) := by decide +kernel
theorem dX5_batch_72 : decode cX5_batch 72 = .ok (.aload_n 0, 1) := by decide +kernel
theorem dX5_batch_73 : decode cX5_batch 73 = .ok (.getfield 7, 3) := by decide +kernel
theorem dX5_batch_76 : decode cX5_batch 76 = .ok (.aload_n 0, 1) := by decide +kernel
theorem dX5_batch_77 : decode cX5_batch 77 = .ok (.getfield 81, 3) := by decide +kernel
theorem dX5_batch_80 : decode cX5_batch 80 = .ok (.iload_n 3, 1) := by decide +kernel
theorem dX5_batch_81 : decode cX5_batch 81 = .ok (.iastore, 1) := by decide +kernel
theorem dX5_batch_82 : decode cX5_batch 82 = .ok (.aload_n 0, 1) := by decide +kernel
theorem dX5_batch_83 : decode cX5_batch 83 = .ok (.dup, 1) := by decide +kernel
theorem dX5_batch_84 : decode cX5_batch 84 = .ok (.getfield 81, 3) := by decide +kernel
theorem dX5_batch_87 : decode cX5_batch 87 = .ok (.iconst 1, 1) := by decide +kernel
theorem dX5_batch_88 : decode cX5_batch 88 = .ok (.iadd, 1) := by decide +kernel
theorem dX5_batch_89 : decode cX5_batch 89 = .ok (.putfield 81, 3) := by decide +kernel
theorem dX5_batch_92 : decode cX5_batch 92 = .ok (.aload_n 0, 1) := by decide +kernel
theorem dX5_batch_93 : decode cX5_batch 93 = .ok (.getfield 81, 3) := by decide +kernel
theorem dX5_batch_96 : decode cX5_batch 96 = .ok (.iconst 1, 1) := by decide +kernel
theorem dX5_batch_97 : decode cX5_batch 97 = .ok (.isub, 1) := by decide +kernel
theorem dX5_batch_98 : decode cX5_batch 98 = .ok (.ireturn, 1) := by decide +kernel
theorem dX5_rule_0 : decode cX5_rule 0 = .ok (.iload_n 1, 1) := by decide +kernel
theorem dX5_rule_1 : decode cX5_rule 1 = .ok (.ifCond .eq 8, 3) := by decide +kernel
theorem dX5_rule_4 : decode cX5_rule 4 = .ok (.iload_n 1, 1) := by decide +kernel
theorem dX5_rule_5 : decode cX5_rule 5 = .ok (.iconst 1, 1) := by decide +kernel
theorem dX5_rule_6 : decode cX5_rule 6 = .ok (.if_icmp .ne 7, 3) := by decide +kernel
theorem dX5_rule_9 : decode cX5_rule 9 = .ok (.iconst 1, 1) := by decide +kernel
theorem dX5_rule_10 : decode cX5_rule 10 = .ok (.goto 4, 3) := by decide +kernel
theorem dX5_rule_13 : decode cX5_rule 13 = .ok (.iconst 0, 1) := by decide +kernel
theorem dX5_rule_14 : decode cX5_rule 14 = .ok (.istore 5, 2) := by decide +kernel
theorem dX5_rule_16 : decode cX5_rule 16 = .ok (.iload_n 1, 1) := by decide +kernel
theorem dX5_rule_17 : decode cX5_rule 17 = .ok (.ifCond .lt 60, 3) := by decide +kernel
theorem dX5_rule_20 : decode cX5_rule 20 = .ok (.iload_n 1, 1) := by decide +kernel
theorem dX5_rule_21 : decode cX5_rule 21 = .ok (.iconst 3, 1) := by decide +kernel
theorem dX5_rule_22 : decode cX5_rule 22 = .ok (.if_icmp .gt 55, 3) := by decide +kernel
theorem dX5_rule_25 : decode cX5_rule 25 = .ok (.aload_n 0, 1) := by decide +kernel
theorem dX5_rule_26 : decode cX5_rule 26 = .ok (.iload_n 2, 1) := by decide +kernel
theorem dX5_rule_27 : decode cX5_rule 27 = .ok (.invokevirtual 84, 3) := by decide +kernel
theorem dX5_rule_30 : decode cX5_rule 30 = .ok (.ifCond .eq 47, 3) := by decide +kernel
theorem dX5_rule_33 : decode cX5_rule 33 = .ok (.iload 5, 2) := by decide +kernel
theorem dX5_rule_35 : decode cX5_rule 35 = .ok (.ifCond .eq 16, 3) := by decide +kernel
theorem dX5_rule_38 : decode cX5_rule 38 = .ok (.aload_n 0, 1) := by decide +kernel
theorem dX5_rule_39 : decode cX5_rule 39 = .ok (.iload_n 3, 1) := by decide +kernel
theorem dX5_rule_40 : decode cX5_rule 40 = .ok (.invokevirtual 84, 3) := by decide +kernel
theorem dX5_rule_43 : decode cX5_rule 43 = .ok (.ifCond .eq 34, 3) := by decide +kernel
theorem dX5_rule_46 : decode cX5_rule 46 = .ok (.iload_n 2, 1) := by decide +kernel
theorem dX5_rule_47 : decode cX5_rule 47 = .ok (.iload_n 3, 1) := by decide +kernel
theorem dX5_rule_48 : decode cX5_rule 48 = .ok (.if_icmp .eq 29, 3) := by decide +kernel
theorem dX5_rule_51 : decode cX5_rule 51 = .ok (.iload_n 1, 1) := by decide +kernel
theorem dX5_rule_52 : decode cX5_rule 52 = .ok (.iconst 1, 1) := by decide +kernel
theorem dX5_rule_53 : decode cX5_rule 53 = .ok (.if_icmp .eq 15, 3) := by decide +kernel
theorem dX5_rule_56 : decode cX5_rule 56 = .ok (.iload 4, 2) := by decide +kernel
theorem dX5_rule_58 : decode cX5_rule 58 = .ok (.ifCond .lt 19, 3) := by decide +kernel
theorem dX5_rule_61 : decode cX5_rule 61 = .ok (.iload 4, 2) := by decide +kernel
theorem dX5_rule_63 : decode cX5_rule 63 = .ok (.bipush 10, 2) := by decide +kernel
theorem dX5_rule_65 : decode cX5_rule 65 = .ok (.if_icmp .gt 12, 3) := by decide +kernel
theorem dX5_rule_68 : decode cX5_rule 68 = .ok (.aload_n 0, 1) := by decide +kernel
theorem dX5_rule_69 : decode cX5_rule 69 = .ok (.getfield 88, 3) := by decide +kernel
theorem dX5_rule_72 : decode cX5_rule 72 = .ok (.bipush 8, 2) := by decide +kernel
theorem dX5_rule_74 : decode cX5_rule 74 = .ok (.if_icmp .ne 5, 3) := by decide +kernel
theorem dX5_rule_77 : decode cX5_rule 77 = .ok (.iconst 0, 1) := by decide +kernel
theorem dX5_rule_78 : decode cX5_rule 78 = .ok (.ireturn, 1) := by decide +kernel
theorem dX5_rule_79 : decode cX5_rule 79 = .ok (.aload_n 0, 1) := by decide +kernel
theorem dX5_rule_80 : decode cX5_rule 80 = .ok (.getfield 26, 3) := by decide +kernel
theorem dX5_rule_83 : decode cX5_rule 83 = .ok (.aload_n 0, 1) := by decide +kernel
theorem dX5_rule_84 : decode cX5_rule 84 = .ok (.getfield 88, 3) := by decide +kernel
theorem dX5_rule_87 : decode cX5_rule 87 = .ok (.iload_n 1, 1) := by decide +kernel
theorem dX5_rule_88 : decode cX5_rule 88 = .ok (.iastore, 1) := by decide +kernel
theorem dX5_rule_89 : decode cX5_rule 89 = .ok (.aload_n 0, 1) := by decide +kernel
theorem dX5_rule_90 : decode cX5_rule 90 = .ok (.getfield 29, 3) := by decide +kernel
theorem dX5_rule_93 : decode cX5_rule 93 = .ok (.aload_n 0, 1) := by decide +kernel
theorem dX5_rule_94 : decode cX5_rule 94 = .ok (.getfield 88, 3) := by decide +kernel
theorem dX5_rule_97 : decode cX5_rule 97 = .ok (.iload_n 2, 1) := by decide +kernel
theorem dX5_rule_98 : decode cX5_rule 98 = .ok (.iastore, 1) := by decide +kernel
theorem dX5_rule_99 : decode cX5_rule 99 = .ok (.aload_n 0, 1) := by decide +kernel
theorem dX5_rule_100 : decode cX5_rule 100 = .ok (.getfield 32, 3) := by decide +kernel
theorem dX5_rule_103 : decode cX5_rule 103 = .ok (.aload_n 0, 1) := by decide +kernel
theorem dX5_rule_104 : decode cX5_rule 104 = .ok (.getfield 88, 3) := by decide +kernel
theorem dX5_rule_107 : decode cX5_rule 107 = .ok (.iload_n 3, 1) := by decide +kernel
theorem dX5_rule_108 : decode cX5_rule 108 = .ok (.iastore, 1) := by decide +kernel
theorem dX5_rule_109 : decode cX5_rule 109 = .ok (.aload_n 0, 1) := by decide +kernel
theorem dX5_rule_110 : decode cX5_rule 110 = .ok (.getfield 35, 3) := by decide +kernel
theorem dX5_rule_113 : decode cX5_rule 113 = .ok (.aload_n 0, 1) := by decide +kernel
theorem dX5_rule_114 : decode cX5_rule 114 = .ok (.getfield 88, 3) := by decide +kernel
theorem dX5_rule_117 : decode cX5_rule 117 = .ok (.iload 4, 2) := by decide +kernel
theorem dX5_rule_119 : decode cX5_rule 119 = .ok (.iastore, 1) := by decide +kernel
theorem dX5_rule_120 : decode cX5_rule 120 = .ok (.aload_n 0, 1) := by decide +kernel
theorem dX5_rule_121 : decode cX5_rule 121 = .ok (.dup, 1) := by decide +kernel
theorem dX5_rule_122 : decode cX5_rule 122 = .ok (.getfield 88, 3) := by decide +kernel
theorem dX5_rule_125 : decode cX5_rule 125 = .ok (.iconst 1, 1) := by decide +kernel
theorem dX5_rule_126 : decode cX5_rule 126 = .ok (.iadd, 1) := by decide +kernel
theorem dX5_rule_127 : decode cX5_rule 127 = .ok (.putfield 88, 3) := by decide +kernel
theorem dX5_rule_130 : decode cX5_rule 130 = .ok (.iconst 1, 1) := by decide +kernel
theorem dX5_rule_131 : decode cX5_rule 131 = .ok (.ireturn, 1) := by decide +kernel
theorem dX5_isBatch_0 : decode cX5_isBatch 0 = .ok (.iload_n 1, 1) := by decide +kernel
theorem dX5_isBatch_1 : decode cX5_isBatch 1 = .ok (.ifCond .lt 15, 3) := by decide +kernel
theorem dX5_isBatch_4 : decode cX5_isBatch 4 = .ok (.iload_n 1, 1) := by decide +kernel
theorem dX5_isBatch_5 : decode cX5_isBatch 5 = .ok (.aload_n 0, 1) := by decide +kernel
theorem dX5_isBatch_6 : decode cX5_isBatch 6 = .ok (.getfield 81, 3) := by decide +kernel
theorem dX5_isBatch_9 : decode cX5_isBatch 9 = .ok (.if_icmp .ge 7, 3) := by decide +kernel
theorem dX5_isBatch_12 : decode cX5_isBatch 12 = .ok (.iconst 1, 1) := by decide +kernel
theorem dX5_isBatch_13 : decode cX5_isBatch 13 = .ok (.goto 4, 3) := by decide +kernel
theorem dX5_isBatch_16 : decode cX5_isBatch 16 = .ok (.iconst 0, 1) := by decide +kernel
theorem dX5_isBatch_17 : decode cX5_isBatch 17 = .ok (.ireturn, 1) := by decide +kernel
theorem dX5_freeze_0 : decode cX5_freeze 0 = .ok (.aload_n 0, 1) := by decide +kernel
theorem dX5_freeze_1 : decode cX5_freeze 1 = .ok (.iload_n 1, 1) := by decide +kernel
theorem dX5_freeze_2 : decode cX5_freeze 2 = .ok (.invokevirtual 84, 3) := by decide +kernel
theorem dX5_freeze_5 : decode cX5_freeze 5 = .ok (.ifCond .eq 12, 3) := by decide +kernel
theorem dX5_freeze_8 : decode cX5_freeze 8 = .ok (.aload_n 0, 1) := by decide +kernel
theorem dX5_freeze_9 : decode cX5_freeze 9 = .ok (.getfield 22, 3) := by decide +kernel
theorem dX5_freeze_12 : decode cX5_freeze 12 = .ok (.iload_n 1, 1) := by decide +kernel
theorem dX5_freeze_13 : decode cX5_freeze 13 = .ok (.baload, 1) := by decide +kernel
theorem dX5_freeze_14 : decode cX5_freeze 14 = .ok (.ifCond .eq 5, 3) := by decide +kernel
theorem dX5_freeze_17 : decode cX5_freeze 17 = .ok (.iconst 0, 1) := by decide +kernel
theorem dX5_freeze_18 : decode cX5_freeze 18 = .ok (.ireturn, 1) := by decide +kernel
theorem dX5_freeze_19 : decode cX5_freeze 19 = .ok (.aload_n 0, 1) := by decide +kernel
theorem dX5_freeze_20 : decode cX5_freeze 20 = .ok (.getfield 22, 3) := by decide +kernel
theorem dX5_freeze_23 : decode cX5_freeze 23 = .ok (.iload_n 1, 1) := by decide +kernel
theorem dX5_freeze_24 : decode cX5_freeze 24 = .ok (.iconst 1, 1) := by decide +kernel
theorem dX5_freeze_25 : decode cX5_freeze 25 = .ok (.bastore, 1) := by decide +kernel
theorem dX5_freeze_26 : decode cX5_freeze 26 = .ok (.iconst 1, 1) := by decide +kernel
theorem dX5_freeze_27 : decode cX5_freeze 27 = .ok (.ireturn, 1) := by decide +kernel
theorem dX5_out_0 : decode cX5_out 0 = .ok (.iload_n 1, 1) := by decide +kernel
theorem dX5_out_1 : decode cX5_out 1 = .ok (.ifCond .lt 37, 3) := by decide +kernel
theorem dX5_out_4 : decode cX5_out 4 = .ok (.iload_n 1, 1) := by decide +kernel
theorem dX5_out_5 : decode cX5_out 5 = .ok (.aload_n 0, 1) := by decide +kernel
theorem dX5_out_6 : decode cX5_out 6 = .ok (.getfield 74, 3) := by decide +kernel
theorem dX5_out_9 : decode cX5_out 9 = .ok (.if_icmp .ge 29, 3) := by decide +kernel
theorem dX5_out_12 : decode cX5_out 12 = .ok (.iload_n 2, 1) := by decide +kernel
theorem dX5_out_13 : decode cX5_out 13 = .ok (.ifCond .lt 25, 3) := by decide +kernel
theorem dX5_out_16 : decode cX5_out 16 = .ok (.iload_n 2, 1) := by decide +kernel
theorem dX5_out_17 : decode cX5_out 17 = .ok (.iload_n 3, 1) := by decide +kernel
theorem dX5_out_18 : decode cX5_out 18 = .ok (.if_icmp .ge 20, 3) := by decide +kernel
theorem dX5_out_21 : decode cX5_out 21 = .ok (.iload_n 3, 1) := by decide +kernel
theorem dX5_out_22 : decode cX5_out 22 = .ok (.aload_n 0, 1) := by decide +kernel
theorem dX5_out_23 : decode cX5_out 23 = .ok (.getfield 78, 3) := by decide +kernel
theorem dX5_out_26 : decode cX5_out 26 = .ok (.if_icmp .gt 12, 3) := by decide +kernel
theorem dX5_out_29 : decode cX5_out 29 = .ok (.aload_n 0, 1) := by decide +kernel
theorem dX5_out_30 : decode cX5_out 30 = .ok (.getfield 91, 3) := by decide +kernel
theorem dX5_out_33 : decode cX5_out 33 = .ok (.bipush 12, 2) := by decide +kernel
theorem dX5_out_35 : decode cX5_out 35 = .ok (.if_icmp .ne 5, 3) := by decide +kernel
theorem dX5_out_38 : decode cX5_out 38 = .ok (.iconst 0, 1) := by decide +kernel
theorem dX5_out_39 : decode cX5_out 39 = .ok (.ireturn, 1) := by decide +kernel
theorem dX5_out_40 : decode cX5_out 40 = .ok (.aload_n 0, 1) := by decide +kernel
theorem dX5_out_41 : decode cX5_out 41 = .ok (.getfield 38, 3) := by decide +kernel
theorem dX5_out_44 : decode cX5_out 44 = .ok (.aload_n 0, 1) := by decide +kernel
theorem dX5_out_45 : decode cX5_out 45 = .ok (.getfield 91, 3) := by decide +kernel
theorem dX5_out_48 : decode cX5_out 48 = .ok (.iload_n 1, 1) := by decide +kernel
theorem dX5_out_49 : decode cX5_out 49 = .ok (.iastore, 1) := by decide +kernel
theorem dX5_out_50 : decode cX5_out 50 = .ok (.aload_n 0, 1) := by decide +kernel
theorem dX5_out_51 : decode cX5_out 51 = .ok (.getfield 41, 3) := by decide +kernel
theorem dX5_out_54 : decode cX5_out 54 = .ok (.aload_n 0, 1) := by decide +kernel
theorem dX5_out_55 : decode cX5_out 55 = .ok (.getfield 91, 3) := by decide +kernel
theorem dX5_out_58 : decode cX5_out 58 = .ok (.iload_n 2, 1) := by decide +kernel
theorem dX5_out_59 : decode cX5_out 59 = .ok (.iastore, 1) := by decide +kernel
theorem dX5_out_60 : decode cX5_out 60 = .ok (.aload_n 0, 1) := by decide +kernel
theorem dX5_out_61 : decode cX5_out 61 = .ok (.getfield 44, 3) := by decide +kernel
theorem dX5_out_64 : decode cX5_out 64 = .ok (.aload_n 0, 1) := by decide +kernel
theorem dX5_out_65 : decode cX5_out 65 = .ok (.getfield 91, 3) := by decide +kernel
theorem dX5_out_68 : decode cX5_out 68 = .ok (.iload_n 3, 1) := by decide +kernel
theorem dX5_out_69 : decode cX5_out 69 = .ok (.iastore, 1) := by decide +kernel
theorem dX5_out_70 : decode cX5_out 70 = .ok (.aload_n 0, 1) := by decide +kernel
theorem dX5_out_71 : decode cX5_out 71 = .ok (.dup, 1) := by decide +kernel
theorem dX5_out_72 : decode cX5_out 72 = .ok (.getfield 91, 3) := by decide +kernel
theorem dX5_out_75 : decode cX5_out 75 = .ok (.iconst 1, 1) := by decide +kernel
theorem dX5_out_76 : decode cX5_out 76 = .ok (.iadd, 1) := by decide +kernel
theorem dX5_out_77 : decode cX5_out 77 = .ok (.putfield 91, 3) := by decide +kernel
theorem dX5_out_80 : decode cX5_out 80 = .ok (.iconst 1, 1) := by decide +kernel
theorem dX5_out_81 : decode cX5_out 81 = .ok (.ireturn, 1) := by decide +kernel
theorem dX5_late_0 : decode cX5_late 0 = .ok (.aload_n 0, 1) := by decide +kernel
theorem dX5_late_1 : decode cX5_late 1 = .ok (.iload_n 1, 1) := by decide +kernel
theorem dX5_late_2 : decode cX5_late 2 = .ok (.invokevirtual 84, 3) := by decide +kernel
theorem dX5_late_5 : decode cX5_late 5 = .ok (.ifCond .eq 13, 3) := by decide +kernel
theorem dX5_late_8 : decode cX5_late 8 = .ok (.iload_n 2, 1) := by decide +kernel
theorem dX5_late_9 : decode cX5_late 9 = .ok (.ifCond .lt 9, 3) := by decide +kernel
theorem dX5_late_12 : decode cX5_late 12 = .ok (.iload_n 2, 1) := by decide +kernel
theorem dX5_late_13 : decode cX5_late 13 = .ok (.bipush 10, 2) := by decide +kernel
theorem dX5_late_15 : decode cX5_late 15 = .ok (.if_icmp .le 5, 3) := by decide +kernel
theorem dX5_late_18 : decode cX5_late 18 = .ok (.iconst 0, 1) := by decide +kernel
theorem dX5_late_19 : decode cX5_late 19 = .ok (.ireturn, 1) := by decide +kernel
theorem dX5_late_20 : decode cX5_late 20 = .ok (.aload_n 0, 1) := by decide +kernel
theorem dX5_late_21 : decode cX5_late 21 = .ok (.getfield 19, 3) := by decide +kernel
theorem dX5_late_24 : decode cX5_late 24 = .ok (.iload_n 1, 1) := by decide +kernel
theorem dX5_late_25 : decode cX5_late 25 = .ok (.aload_n 0, 1) := by decide +kernel
theorem dX5_late_26 : decode cX5_late 26 = .ok (.getfield 16, 3) := by decide +kernel
theorem dX5_late_29 : decode cX5_late 29 = .ok (.iload_n 1, 1) := by decide +kernel
theorem dX5_late_30 : decode cX5_late 30 = .ok (.iaload, 1) := by decide +kernel
theorem dX5_late_31 : decode cX5_late 31 = .ok (.iload_n 2, 1) := by decide +kernel
theorem dX5_late_32 : decode cX5_late 32 = .ok (.iadd, 1) := by decide +kernel
theorem dX5_late_33 : decode cX5_late 33 = .ok (.iastore, 1) := by decide +kernel
theorem dX5_late_34 : decode cX5_late 34 = .ok (.iconst 1, 1) := by decide +kernel
theorem dX5_late_35 : decode cX5_late 35 = .ok (.ireturn, 1) := by decide +kernel
theorem dX5_run_0 : decode cX5_run 0 = .ok (.lload_n 1, 1) := by decide +kernel
theorem dX5_run_1 : decode cX5_run 1 = .ok (.lconst 0, 1) := by decide +kernel
theorem dX5_run_2 : decode cX5_run 2 = .ok (.lcmp, 1) := by decide +kernel
theorem dX5_run_3 : decode cX5_run 3 = .ok (.ifCond .lt 11, 3) := by decide +kernel
theorem dX5_run_6 : decode cX5_run 6 = .ok (.lload_n 1, 1) := by decide +kernel
theorem dX5_run_7 : decode cX5_run 7 = .ok (.ldc2_w 121, 3) := by decide +kernel
theorem dX5_run_10 : decode cX5_run 10 = .ok (.lcmp, 1) := by decide +kernel
theorem dX5_run_11 : decode cX5_run 11 = .ok (.ifCond .le 7, 3) := by decide +kernel
theorem dX5_run_14 : decode cX5_run 14 = .ok (.sipush (-200), 3) := by decide +kernel
theorem dX5_run_17 : decode cX5_run 17 = .ok (.ireturn, 1) := by decide +kernel
theorem dX5_run_18 : decode cX5_run 18 = .ok (.aload_n 0, 1) := by decide +kernel
theorem dX5_run_19 : decode cX5_run 19 = .ok (.iconst (-1), 1) := by decide +kernel
theorem dX5_run_20 : decode cX5_run 20 = .ok (.invokevirtual 123, 3) := by decide +kernel
theorem dX5_run_23 : decode cX5_run 23 = .ok (.ifCond .ne 43, 3) := by decide +kernel
theorem dX5_run_26 : decode cX5_run 26 = .ok (.aload_n 0, 1) := by decide +kernel
theorem dX5_run_27 : decode cX5_run 27 = .ok (.iconst 5, 1) := by decide +kernel
theorem dX5_run_28 : decode cX5_run 28 = .ok (.putfield 126, 3) := by decide +kernel
theorem dX5_run_31 : decode cX5_run 31 = .ok (.iconst 0, 1) := by decide +kernel
theorem dX5_run_32 : decode cX5_run 32 = .ok (.istore_n 3, 1) := by decide +kernel
theorem dX5_run_33 : decode cX5_run 33 = .ok (.iload_n 3, 1) := by decide +kernel
theorem dX5_run_34 : decode cX5_run 34 = .ok (.aload_n 0, 1) := by decide +kernel
theorem dX5_run_35 : decode cX5_run 35 = .ok (.getfield 88, 3) := by decide +kernel
theorem dX5_run_38 : decode cX5_run 38 = .ok (.if_icmp .ge 21, 3) := by decide +kernel
theorem dX5_run_41 : decode cX5_run 41 = .ok (.aload_n 0, 1) := by decide +kernel
theorem dX5_run_42 : decode cX5_run 42 = .ok (.iload_n 3, 1) := by decide +kernel
theorem dX5_run_43 : decode cX5_run 43 = .ok (.invokevirtual 123, 3) := by decide +kernel
theorem dX5_run_46 : decode cX5_run 46 = .ok (.ifCond .eq 7, 3) := by decide +kernel
theorem dX5_run_49 : decode cX5_run 49 = .ok (.iconst (-1), 1) := by decide +kernel
theorem dX5_run_50 : decode cX5_run 50 = .ok (.iload_n 3, 1) := by decide +kernel
theorem dX5_run_51 : decode cX5_run 51 = .ok (.isub, 1) := by decide +kernel
theorem dX5_run_52 : decode cX5_run 52 = .ok (.ireturn, 1) := by decide +kernel
theorem dX5_run_53 : decode cX5_run 53 = .ok (.iinc 3 1, 3) := by decide +kernel
theorem dX5_run_56 : decode cX5_run 56 = .ok (.goto (-23), 3) := by decide +kernel
theorem dX5_run_59 : decode cX5_run 59 = .ok (.iconst (-1), 1) := by decide +kernel
theorem dX5_run_60 : decode cX5_run 60 = .ok (.aload_n 0, 1) := by decide +kernel
theorem dX5_run_61 : decode cX5_run 61 = .ok (.getfield 88, 3) := by decide +kernel
theorem dX5_run_64 : decode cX5_run 64 = .ok (.isub, 1) := by decide +kernel
theorem dX5_run_65 : decode cX5_run 65 = .ok (.ireturn, 1) := by decide +kernel
theorem dX5_run_66 : decode cX5_run 66 = .ok (.aload_n 0, 1) := by decide +kernel
theorem dX5_run_67 : decode cX5_run 67 = .ok (.getfield 105, 3) := by decide +kernel
theorem dX5_run_70 : decode cX5_run 70 = .ok (.i2l, 1) := by decide +kernel
theorem dX5_run_71 : decode cX5_run 71 = .ok (.lload_n 1, 1) := by decide +kernel
theorem dX5_run_72 : decode cX5_run 72 = .ok (.lcmp, 1) := by decide +kernel
theorem dX5_run_73 : decode cX5_run 73 = .ok (.ifCond .le 14, 3) := by decide +kernel
theorem dX5_run_76 : decode cX5_run 76 = .ok (.aload_n 0, 1) := by decide +kernel
theorem dX5_run_77 : decode cX5_run 77 = .ok (.lload_n 1, 1) := by decide +kernel
theorem dX5_run_78 : decode cX5_run 78 = .ok (.l2i, 1) := by decide +kernel
theorem dX5_run_79 : decode cX5_run 79 = .ok (.iconst 1, 1) := by decide +kernel
theorem dX5_run_80 : decode cX5_run 80 = .ok (.iadd, 1) := by decide +kernel
theorem dX5_run_81 : decode cX5_run 81 = .ok (.putfield 126, 3) := by decide +kernel
theorem dX5_run_84 : decode cX5_run 84 = .ok (.bipush (-100), 2) := by decide +kernel
theorem dX5_run_86 : decode cX5_run 86 = .ok (.ireturn, 1) := by decide +kernel
theorem dX5_run_87 : decode cX5_run 87 = .ok (.aload_n 0, 1) := by decide +kernel
theorem dX5_run_88 : decode cX5_run 88 = .ok (.invokevirtual 129, 3) := by decide +kernel
theorem dX5_run_91 : decode cX5_run 91 = .ok (.iconst 0, 1) := by decide +kernel
theorem dX5_run_92 : decode cX5_run 92 = .ok (.istore_n 3, 1) := by decide +kernel
theorem dX5_run_93 : decode cX5_run 93 = .ok (.iload_n 3, 1) := by decide +kernel
theorem dX5_run_94 : decode cX5_run 94 = .ok (.aload_n 0, 1) := by decide +kernel
theorem dX5_run_95 : decode cX5_run 95 = .ok (.getfield 81, 3) := by decide +kernel
theorem dX5_run_98 : decode cX5_run 98 = .ok (.if_icmp .ge 74, 3) := by decide +kernel
theorem dX5_run_101 : decode cX5_run 101 = .ok (.aload_n 0, 1) := by decide +kernel
theorem dX5_run_102 : decode cX5_run 102 = .ok (.getfield 71, 3) := by decide +kernel
theorem dX5_run_105 : decode cX5_run 105 = .ok (.iload_n 3, 1) := by decide +kernel
theorem dX5_run_106 : decode cX5_run 106 = .ok (.aload_n 0, 1) := by decide +kernel
theorem dX5_run_107 : decode cX5_run 107 = .ok (.getfield 65, 3) := by decide +kernel
theorem dX5_run_110 : decode cX5_run 110 = .ok (.iload_n 3, 1) := by decide +kernel
theorem dX5_run_111 : decode cX5_run 111 = .ok (.iaload, 1) := by decide +kernel
theorem dX5_run_112 : decode cX5_run 112 = .ok (.aload_n 0, 1) := by decide +kernel
theorem dX5_run_113 : decode cX5_run 113 = .ok (.getfield 13, 3) := by decide +kernel
theorem dX5_run_116 : decode cX5_run 116 = .ok (.iload_n 3, 1) := by decide +kernel
theorem dX5_run_117 : decode cX5_run 117 = .ok (.iaload, 1) := by decide +kernel
theorem dX5_run_118 : decode cX5_run 118 = .ok (.if_icmp .ne 18, 3) := by decide +kernel
theorem dX5_run_121 : decode cX5_run 121 = .ok (.aload_n 0, 1) := by decide +kernel
theorem dX5_run_122 : decode cX5_run 122 = .ok (.getfield 68, 3) := by decide +kernel
theorem dX5_run_125 : decode cX5_run 125 = .ok (.iload_n 3, 1) := by decide +kernel
theorem dX5_run_126 : decode cX5_run 126 = .ok (.iaload, 1) := by decide +kernel
theorem dX5_run_127 : decode cX5_run 127 = .ok (.aload_n 0, 1) := by decide +kernel
theorem dX5_run_128 : decode cX5_run 128 = .ok (.getfield 16, 3) := by decide +kernel
theorem dX5_run_131 : decode cX5_run 131 = .ok (.iload_n 3, 1) := by decide +kernel
theorem dX5_run_132 : decode cX5_run 132 = .ok (.iaload, 1) := by decide +kernel
theorem dX5_run_133 : decode cX5_run 133 = .ok (.if_icmp .eq 7, 3) := by decide +kernel
theorem dX5_run_136 : decode cX5_run 136 = .ok (.iconst 1, 1) := by decide +kernel
theorem dX5_run_137 : decode cX5_run 137 = .ok (.goto 4, 3) := by decide +kernel
theorem dX5_run_140 : decode cX5_run 140 = .ok (.iconst 0, 1) := by decide +kernel
theorem dX5_run_141 : decode cX5_run 141 = .ok (.bastore, 1) := by decide +kernel
theorem dX5_run_142 : decode cX5_run 142 = .ok (.aload_n 0, 1) := by decide +kernel
theorem dX5_run_143 : decode cX5_run 143 = .ok (.getfield 13, 3) := by decide +kernel
theorem dX5_run_146 : decode cX5_run 146 = .ok (.iload_n 3, 1) := by decide +kernel
theorem dX5_run_147 : decode cX5_run 147 = .ok (.aload_n 0, 1) := by decide +kernel
theorem dX5_run_148 : decode cX5_run 148 = .ok (.getfield 65, 3) := by decide +kernel
theorem dX5_run_151 : decode cX5_run 151 = .ok (.iload_n 3, 1) := by decide +kernel
theorem dX5_run_152 : decode cX5_run 152 = .ok (.iaload, 1) := by decide +kernel
theorem dX5_run_153 : decode cX5_run 153 = .ok (.iastore, 1) := by decide +kernel
theorem dX5_run_154 : decode cX5_run 154 = .ok (.aload_n 0, 1) := by decide +kernel
theorem dX5_run_155 : decode cX5_run 155 = .ok (.getfield 16, 3) := by decide +kernel
theorem dX5_run_158 : decode cX5_run 158 = .ok (.iload_n 3, 1) := by decide +kernel
theorem dX5_run_159 : decode cX5_run 159 = .ok (.aload_n 0, 1) := by decide +kernel
theorem dX5_run_160 : decode cX5_run 160 = .ok (.getfield 68, 3) := by decide +kernel
theorem dX5_run_163 : decode cX5_run 163 = .ok (.iload_n 3, 1) := by decide +kernel
theorem dX5_run_164 : decode cX5_run 164 = .ok (.iaload, 1) := by decide +kernel
theorem dX5_run_165 : decode cX5_run 165 = .ok (.iastore, 1) := by decide +kernel
theorem dX5_run_166 : decode cX5_run 166 = .ok (.iinc 3 1, 3) := by decide +kernel
theorem dX5_run_169 : decode cX5_run 169 = .ok (.goto (-76), 3) := by decide +kernel
theorem dX5_run_172 : decode cX5_run 172 = .ok (.aload_n 0, 1) := by decide +kernel
theorem dX5_run_173 : decode cX5_run 173 = .ok (.getfield 81, 3) := by decide +kernel
theorem dX5_run_176 : decode cX5_run 176 = .ok (.istore_n 3, 1) := by decide +kernel
theorem dX5_run_177 : decode cX5_run 177 = .ok (.iload_n 3, 1) := by decide +kernel
theorem dX5_run_178 : decode cX5_run 178 = .ok (.iconst 4, 1) := by decide +kernel
theorem dX5_run_179 : decode cX5_run 179 = .ok (.if_icmp .ge 16, 3) := by decide +kernel
theorem dX5_run_182 : decode cX5_run 182 = .ok (.aload_n 0, 1) := by decide +kernel
theorem dX5_run_183 : decode cX5_run 183 = .ok (.getfield 71, 3) := by decide +kernel
theorem dX5_run_186 : decode cX5_run 186 = .ok (.iload_n 3, 1) := by decide +kernel
theorem dX5_run_187 : decode cX5_run 187 = .ok (.iconst 0, 1) := by decide +kernel
theorem dX5_run_188 : decode cX5_run 188 = .ok (.bastore, 1) := by decide +kernel
theorem dX5_run_189 : decode cX5_run 189 = .ok (.iinc 3 1, 3) := by decide +kernel
theorem dX5_run_192 : decode cX5_run 192 = .ok (.goto (-15), 3) := by decide +kernel
theorem dX5_run_195 : decode cX5_run 195 = .ok (.aload_n 0, 1) := by decide +kernel
theorem dX5_run_196 : decode cX5_run 196 = .ok (.aload_n 0, 1) := by decide +kernel
theorem dX5_run_197 : decode cX5_run 197 = .ok (.getfield 105, 3) := by decide +kernel
theorem dX5_run_200 : decode cX5_run 200 = .ok (.putfield 126, 3) := by decide +kernel
theorem dX5_run_203 : decode cX5_run 203 = .ok (.aload_n 0, 1) := by decide +kernel
theorem dX5_run_204 : decode cX5_run 204 = .ok (.aload_n 0, 1) := by decide +kernel
theorem dX5_run_205 : decode cX5_run 205 = .ok (.getfield 108, 3) := by decide +kernel
theorem dX5_run_208 : decode cX5_run 208 = .ok (.i2l, 1) := by decide +kernel
theorem dX5_run_209 : decode cX5_run 209 = .ok (.putfield 132, 3) := by decide +kernel
theorem dX5_run_212 : decode cX5_run 212 = .ok (.aload_n 0, 1) := by decide +kernel
theorem dX5_run_213 : decode cX5_run 213 = .ok (.getfield 105, 3) := by decide +kernel
theorem dX5_run_216 : decode cX5_run 216 = .ok (.ireturn, 1) := by decide +kernel
theorem dX5_search_0 : decode cX5_search 0 = .ok (.aload_n 0, 1) := by decide +kernel
theorem dX5_search_1 : decode cX5_search 1 = .ok (.iload_n 1, 1) := by decide +kernel
theorem dX5_search_2 : decode cX5_search 2 = .ok (.putfield 94, 3) := by decide +kernel
theorem dX5_search_5 : decode cX5_search 5 = .ok (.aload_n 0, 1) := by decide +kernel
theorem dX5_search_6 : decode cX5_search 6 = .ok (.iconst 0, 1) := by decide +kernel
theorem dX5_search_7 : decode cX5_search 7 = .ok (.putfield 101, 3) := by decide +kernel
theorem dX5_search_10 : decode cX5_search 10 = .ok (.aload_n 0, 1) := by decide +kernel
theorem dX5_search_11 : decode cX5_search 11 = .ok (.iconst 0, 1) := by decide +kernel
theorem dX5_search_12 : decode cX5_search 12 = .ok (.invokevirtual 117, 3) := by decide +kernel
theorem dX5_search_15 : decode cX5_search 15 = .ok (.aload_n 0, 1) := by decide +kernel
theorem dX5_search_16 : decode cX5_search 16 = .ok (.getfield 101, 3) := by decide +kernel
theorem dX5_search_19 : decode cX5_search 19 = .ok (.ireturn, 1) := by decide +kernel
theorem dX5_place_0 : decode cX5_place 0 = .ok (.iload_n 1, 1) := by decide +kernel
theorem dX5_place_1 : decode cX5_place 1 = .ok (.aload_n 0, 1) := by decide +kernel
theorem dX5_place_2 : decode cX5_place 2 = .ok (.getfield 81, 3) := by decide +kernel
theorem dX5_place_5 : decode cX5_place 5 = .ok (.if_icmp .ne 8, 3) := by decide +kernel
theorem dX5_place_8 : decode cX5_place 8 = .ok (.aload_n 0, 1) := by decide +kernel
theorem dX5_place_9 : decode cX5_place 9 = .ok (.invokevirtual 111, 3) := by decide +kernel
theorem dX5_place_12 : decode cX5_place 12 = .ok (.return_, 1) := by decide +kernel
theorem dX5_place_13 : decode cX5_place 13 = .ok (.iconst 0, 1) := by decide +kernel
theorem dX5_place_14 : decode cX5_place 14 = .ok (.istore_n 2, 1) := by decide +kernel
theorem dX5_place_15 : decode cX5_place 15 = .ok (.iload_n 2, 1) := by decide +kernel
theorem dX5_place_16 : decode cX5_place 16 = .ok (.aload_n 0, 1) := by decide +kernel
theorem dX5_place_17 : decode cX5_place 17 = .ok (.getfield 74, 3) := by decide +kernel
theorem dX5_place_20 : decode cX5_place 20 = .ok (.if_icmp .ge 54, 3) := by decide +kernel
theorem dX5_place_23 : decode cX5_place 23 = .ok (.iconst 0, 1) := by decide +kernel
theorem dX5_place_24 : decode cX5_place 24 = .ok (.istore_n 3, 1) := by decide +kernel
theorem dX5_place_25 : decode cX5_place 25 = .ok (.iload_n 3, 1) := by decide +kernel
theorem dX5_place_26 : decode cX5_place 26 = .ok (.aload_n 0, 1) := by decide +kernel
theorem dX5_place_27 : decode cX5_place 27 = .ok (.getfield 78, 3) := by decide +kernel
theorem dX5_place_30 : decode cX5_place 30 = .ok (.if_icmp .ge 38, 3) := by decide +kernel
theorem dX5_place_33 : decode cX5_place 33 = .ok (.aload_n 0, 1) := by decide +kernel
theorem dX5_place_34 : decode cX5_place 34 = .ok (.getfield 59, 3) := by decide +kernel
theorem dX5_place_37 : decode cX5_place 37 = .ok (.iload_n 1, 1) := by decide +kernel
theorem dX5_place_38 : decode cX5_place 38 = .ok (.iload_n 2, 1) := by decide +kernel
theorem dX5_place_39 : decode cX5_place 39 = .ok (.iastore, 1) := by decide +kernel
theorem dX5_place_40 : decode cX5_place 40 = .ok (.aload_n 0, 1) := by decide +kernel
theorem dX5_place_41 : decode cX5_place 41 = .ok (.getfield 62, 3) := by decide +kernel
theorem dX5_place_44 : decode cX5_place 44 = .ok (.iload_n 1, 1) := by decide +kernel
theorem dX5_place_45 : decode cX5_place 45 = .ok (.iload_n 3, 1) := by decide +kernel
theorem dX5_place_46 : decode cX5_place 46 = .ok (.iastore, 1) := by decide +kernel
theorem dX5_place_47 : decode cX5_place 47 = .ok (.aload_n 0, 1) := by decide +kernel
theorem dX5_place_48 : decode cX5_place 48 = .ok (.iload_n 1, 1) := by decide +kernel
theorem dX5_place_49 : decode cX5_place 49 = .ok (.invokevirtual 114, 3) := by decide +kernel
theorem dX5_place_52 : decode cX5_place 52 = .ok (.ifCond .eq 10, 3) := by decide +kernel
theorem dX5_place_55 : decode cX5_place 55 = .ok (.aload_n 0, 1) := by decide +kernel
theorem dX5_place_56 : decode cX5_place 56 = .ok (.iload_n 1, 1) := by decide +kernel
theorem dX5_place_57 : decode cX5_place 57 = .ok (.iconst 1, 1) := by decide +kernel
theorem dX5_place_58 : decode cX5_place 58 = .ok (.iadd, 1) := by decide +kernel
theorem dX5_place_59 : decode cX5_place 59 = .ok (.invokevirtual 117, 3) := by decide +kernel
theorem dX5_place_62 : decode cX5_place 62 = .ok (.iinc 3 1, 3) := by decide +kernel
theorem dX5_place_65 : decode cX5_place 65 = .ok (.goto (-40), 3) := by decide +kernel
theorem dX5_place_68 : decode cX5_place 68 = .ok (.iinc 2 1, 3) := by decide +kernel
theorem dX5_place_71 : decode cX5_place 71 = .ok (.goto (-56), 3) := by decide +kernel
theorem dX5_place_74 : decode cX5_place 74 = .ok (.return_, 1) := by decide +kernel
theorem dX5_judge_0 : decode cX5_judge 0 = .ok (.iconst 0, 1) := by decide +kernel
theorem dX5_judge_1 : decode cX5_judge 1 = .ok (.istore_n 1, 1) := by decide +kernel
theorem dX5_judge_2 : decode cX5_judge 2 = .ok (.iconst 0, 1) := by decide +kernel
theorem dX5_judge_3 : decode cX5_judge 3 = .ok (.istore_n 2, 1) := by decide +kernel
theorem dX5_judge_4 : decode cX5_judge 4 = .ok (.iconst 0, 1) := by decide +kernel
theorem dX5_judge_5 : decode cX5_judge 5 = .ok (.istore_n 3, 1) := by decide +kernel
theorem dX5_judge_6 : decode cX5_judge 6 = .ok (.iload_n 3, 1) := by decide +kernel
theorem dX5_judge_7 : decode cX5_judge 7 = .ok (.aload_n 0, 1) := by decide +kernel
theorem dX5_judge_8 : decode cX5_judge 8 = .ok (.getfield 81, 3) := by decide +kernel
theorem dX5_judge_11 : decode cX5_judge 11 = .ok (.if_icmp .ge 117, 3) := by decide +kernel
theorem dX5_judge_14 : decode cX5_judge 14 = .ok (.aload_n 0, 1) := by decide +kernel
theorem dX5_judge_15 : decode cX5_judge 15 = .ok (.getfield 59, 3) := by decide +kernel
theorem dX5_judge_18 : decode cX5_judge 18 = .ok (.iload_n 3, 1) := by decide +kernel
theorem dX5_judge_19 : decode cX5_judge 19 = .ok (.iaload, 1) := by decide +kernel
theorem dX5_judge_20 : decode cX5_judge 20 = .ok (.aload_n 0, 1) := by decide +kernel
theorem dX5_judge_21 : decode cX5_judge 21 = .ok (.getfield 13, 3) := by decide +kernel
theorem dX5_judge_24 : decode cX5_judge 24 = .ok (.iload_n 3, 1) := by decide +kernel
theorem dX5_judge_25 : decode cX5_judge 25 = .ok (.iaload, 1) := by decide +kernel
theorem dX5_judge_26 : decode cX5_judge 26 = .ok (.if_icmp .eq 7, 3) := by decide +kernel
theorem dX5_judge_29 : decode cX5_judge 29 = .ok (.iconst 1, 1) := by decide +kernel
theorem dX5_judge_30 : decode cX5_judge 30 = .ok (.goto 4, 3) := by decide +kernel
theorem dX5_judge_33 : decode cX5_judge 33 = .ok (.iconst 0, 1) := by decide +kernel
theorem dX5_judge_34 : decode cX5_judge 34 = .ok (.istore 4, 2) := by decide +kernel
theorem dX5_judge_36 : decode cX5_judge 36 = .ok (.iload_n 1, 1) := by decide +kernel
theorem dX5_judge_37 : decode cX5_judge 37 = .ok (.iload 4, 2) := by decide +kernel
theorem dX5_judge_39 : decode cX5_judge 39 = .ok (.ifCond .ne 18, 3) := by decide +kernel
theorem dX5_judge_42 : decode cX5_judge 42 = .ok (.aload_n 0, 1) := by decide +kernel
theorem dX5_judge_43 : decode cX5_judge 43 = .ok (.getfield 62, 3) := by decide +kernel
theorem dX5_judge_46 : decode cX5_judge 46 = .ok (.iload_n 3, 1) := by decide +kernel
theorem dX5_judge_47 : decode cX5_judge 47 = .ok (.iaload, 1) := by decide +kernel
theorem dX5_judge_48 : decode cX5_judge 48 = .ok (.aload_n 0, 1) := by decide +kernel
theorem dX5_judge_49 : decode cX5_judge 49 = .ok (.getfield 16, 3) := by decide +kernel
theorem dX5_judge_52 : decode cX5_judge 52 = .ok (.iload_n 3, 1) := by decide +kernel
theorem dX5_judge_53 : decode cX5_judge 53 = .ok (.iaload, 1) := by decide +kernel
theorem dX5_judge_54 : decode cX5_judge 54 = .ok (.if_icmp .eq 7, 3) := by decide +kernel
theorem dX5_judge_57 : decode cX5_judge 57 = .ok (.iconst 1, 1) := by decide +kernel
theorem dX5_judge_58 : decode cX5_judge 58 = .ok (.goto 4, 3) := by decide +kernel
theorem dX5_judge_61 : decode cX5_judge 61 = .ok (.iconst 0, 1) := by decide +kernel
theorem dX5_judge_62 : decode cX5_judge 62 = .ok (.iadd, 1) := by decide +kernel
theorem dX5_judge_63 : decode cX5_judge 63 = .ok (.istore_n 1, 1) := by decide +kernel
theorem dX5_judge_64 : decode cX5_judge 64 = .ok (.iload_n 2, 1) := by decide +kernel
theorem dX5_judge_65 : decode cX5_judge 65 = .ok (.iload 4, 2) := by decide +kernel
theorem dX5_judge_67 : decode cX5_judge 67 = .ok (.ifCond .eq 7, 3) := by decide +kernel
theorem dX5_judge_70 : decode cX5_judge 70 = .ok (.iconst 3, 1) := by decide +kernel
theorem dX5_judge_71 : decode cX5_judge 71 = .ok (.goto 4, 3) := by decide +kernel
theorem dX5_judge_74 : decode cX5_judge 74 = .ok (.iconst 0, 1) := by decide +kernel
theorem dX5_judge_75 : decode cX5_judge 75 = .ok (.aload_n 0, 1) := by decide +kernel
theorem dX5_judge_76 : decode cX5_judge 76 = .ok (.getfield 62, 3) := by decide +kernel
theorem dX5_judge_79 : decode cX5_judge 79 = .ok (.iload_n 3, 1) := by decide +kernel
theorem dX5_judge_80 : decode cX5_judge 80 = .ok (.iaload, 1) := by decide +kernel
theorem dX5_judge_81 : decode cX5_judge 81 = .ok (.aload_n 0, 1) := by decide +kernel
theorem dX5_judge_82 : decode cX5_judge 82 = .ok (.getfield 16, 3) := by decide +kernel
theorem dX5_judge_85 : decode cX5_judge 85 = .ok (.iload_n 3, 1) := by decide +kernel
theorem dX5_judge_86 : decode cX5_judge 86 = .ok (.iaload, 1) := by decide +kernel
theorem dX5_judge_87 : decode cX5_judge 87 = .ok (.if_icmp .le 19, 3) := by decide +kernel
theorem dX5_judge_90 : decode cX5_judge 90 = .ok (.aload_n 0, 1) := by decide +kernel
theorem dX5_judge_91 : decode cX5_judge 91 = .ok (.getfield 62, 3) := by decide +kernel
theorem dX5_judge_94 : decode cX5_judge 94 = .ok (.iload_n 3, 1) := by decide +kernel
theorem dX5_judge_95 : decode cX5_judge 95 = .ok (.iaload, 1) := by decide +kernel
theorem dX5_judge_96 : decode cX5_judge 96 = .ok (.aload_n 0, 1) := by decide +kernel
theorem dX5_judge_97 : decode cX5_judge 97 = .ok (.getfield 16, 3) := by decide +kernel
theorem dX5_judge_100 : decode cX5_judge 100 = .ok (.iload_n 3, 1) := by decide +kernel
theorem dX5_judge_101 : decode cX5_judge 101 = .ok (.iaload, 1) := by decide +kernel
theorem dX5_judge_102 : decode cX5_judge 102 = .ok (.isub, 1) := by decide +kernel
theorem dX5_judge_103 : decode cX5_judge 103 = .ok (.goto 16, 3) := by decide +kernel
theorem dX5_judge_106 : decode cX5_judge 106 = .ok (.aload_n 0, 1) := by decide +kernel
theorem dX5_judge_107 : decode cX5_judge 107 = .ok (.getfield 16, 3) := by decide +kernel
theorem dX5_judge_110 : decode cX5_judge 110 = .ok (.iload_n 3, 1) := by decide +kernel
theorem dX5_judge_111 : decode cX5_judge 111 = .ok (.iaload, 1) := by decide +kernel
theorem dX5_judge_112 : decode cX5_judge 112 = .ok (.aload_n 0, 1) := by decide +kernel
theorem dX5_judge_113 : decode cX5_judge 113 = .ok (.getfield 62, 3) := by decide +kernel
theorem dX5_judge_116 : decode cX5_judge 116 = .ok (.iload_n 3, 1) := by decide +kernel
theorem dX5_judge_117 : decode cX5_judge 117 = .ok (.iaload, 1) := by decide +kernel
theorem dX5_judge_118 : decode cX5_judge 118 = .ok (.isub, 1) := by decide +kernel
theorem dX5_judge_119 : decode cX5_judge 119 = .ok (.iadd, 1) := by decide +kernel
theorem dX5_judge_120 : decode cX5_judge 120 = .ok (.iadd, 1) := by decide +kernel
theorem dX5_judge_121 : decode cX5_judge 121 = .ok (.istore_n 2, 1) := by decide +kernel
theorem dX5_judge_122 : decode cX5_judge 122 = .ok (.iinc 3 1, 3) := by decide +kernel
theorem dX5_judge_125 : decode cX5_judge 125 = .ok (.goto (-119), 3) := by decide +kernel
theorem dX5_judge_128 : decode cX5_judge 128 = .ok (.aload_n 0, 1) := by decide +kernel
theorem dX5_judge_129 : decode cX5_judge 129 = .ok (.getfield 101, 3) := by decide +kernel
theorem dX5_judge_132 : decode cX5_judge 132 = .ok (.ifCond .eq 28, 3) := by decide +kernel
theorem dX5_judge_135 : decode cX5_judge 135 = .ok (.iload_n 1, 1) := by decide +kernel
theorem dX5_judge_136 : decode cX5_judge 136 = .ok (.aload_n 0, 1) := by decide +kernel
theorem dX5_judge_137 : decode cX5_judge 137 = .ok (.getfield 105, 3) := by decide +kernel
theorem dX5_judge_140 : decode cX5_judge 140 = .ok (.if_icmp .gt 19, 3) := by decide +kernel
theorem dX5_judge_143 : decode cX5_judge 143 = .ok (.iload_n 1, 1) := by decide +kernel
theorem dX5_judge_144 : decode cX5_judge 144 = .ok (.aload_n 0, 1) := by decide +kernel
theorem dX5_judge_145 : decode cX5_judge 145 = .ok (.getfield 105, 3) := by decide +kernel
theorem dX5_judge_148 : decode cX5_judge 148 = .ok (.if_icmp .ne 12, 3) := by decide +kernel
theorem dX5_judge_151 : decode cX5_judge 151 = .ok (.iload_n 2, 1) := by decide +kernel
theorem dX5_judge_152 : decode cX5_judge 152 = .ok (.aload_n 0, 1) := by decide +kernel
theorem dX5_judge_153 : decode cX5_judge 153 = .ok (.getfield 108, 3) := by decide +kernel
theorem dX5_judge_156 : decode cX5_judge 156 = .ok (.if_icmp .lt 4, 3) := by decide +kernel
theorem dX5_judge_159 : decode cX5_judge 159 = .ok (.return_, 1) := by decide +kernel
theorem dX5_judge_160 : decode cX5_judge 160 = .ok (.aload_n 0, 1) := by decide +kernel
theorem dX5_judge_161 : decode cX5_judge 161 = .ok (.iconst 1, 1) := by decide +kernel
theorem dX5_judge_162 : decode cX5_judge 162 = .ok (.putfield 101, 3) := by decide +kernel
theorem dX5_judge_165 : decode cX5_judge 165 = .ok (.aload_n 0, 1) := by decide +kernel
theorem dX5_judge_166 : decode cX5_judge 166 = .ok (.iload_n 1, 1) := by decide +kernel
theorem dX5_judge_167 : decode cX5_judge 167 = .ok (.putfield 105, 3) := by decide +kernel
theorem dX5_judge_170 : decode cX5_judge 170 = .ok (.aload_n 0, 1) := by decide +kernel
theorem dX5_judge_171 : decode cX5_judge 171 = .ok (.iload_n 2, 1) := by decide +kernel
theorem dX5_judge_172 : decode cX5_judge 172 = .ok (.putfield 108, 3) := by decide +kernel
theorem dX5_judge_175 : decode cX5_judge 175 = .ok (.iconst 0, 1) := by decide +kernel
theorem dX5_judge_176 : decode cX5_judge 176 = .ok (.istore_n 3, 1) := by decide +kernel
theorem dX5_judge_177 : decode cX5_judge 177 = .ok (.iload_n 3, 1) := by decide +kernel
theorem dX5_judge_178 : decode cX5_judge 178 = .ok (.aload_n 0, 1) := by decide +kernel
theorem dX5_judge_179 : decode cX5_judge 179 = .ok (.getfield 81, 3) := by decide +kernel
theorem dX5_judge_182 : decode cX5_judge 182 = .ok (.if_icmp .ge 33, 3) := by decide +kernel
theorem dX5_judge_185 : decode cX5_judge 185 = .ok (.aload_n 0, 1) := by decide +kernel
theorem dX5_judge_186 : decode cX5_judge 186 = .ok (.getfield 65, 3) := by decide +kernel
theorem dX5_judge_189 : decode cX5_judge 189 = .ok (.iload_n 3, 1) := by decide +kernel
theorem dX5_judge_190 : decode cX5_judge 190 = .ok (.aload_n 0, 1) := by decide +kernel
theorem dX5_judge_191 : decode cX5_judge 191 = .ok (.getfield 59, 3) := by decide +kernel
theorem dX5_judge_194 : decode cX5_judge 194 = .ok (.iload_n 3, 1) := by decide +kernel
theorem dX5_judge_195 : decode cX5_judge 195 = .ok (.iaload, 1) := by decide +kernel
theorem dX5_judge_196 : decode cX5_judge 196 = .ok (.iastore, 1) := by decide +kernel
theorem dX5_judge_197 : decode cX5_judge 197 = .ok (.aload_n 0, 1) := by decide +kernel
theorem dX5_judge_198 : decode cX5_judge 198 = .ok (.getfield 68, 3) := by decide +kernel
theorem dX5_judge_201 : decode cX5_judge 201 = .ok (.iload_n 3, 1) := by decide +kernel
theorem dX5_judge_202 : decode cX5_judge 202 = .ok (.aload_n 0, 1) := by decide +kernel
theorem dX5_judge_203 : decode cX5_judge 203 = .ok (.getfield 62, 3) := by decide +kernel
theorem dX5_judge_206 : decode cX5_judge 206 = .ok (.iload_n 3, 1) := by decide +kernel
theorem dX5_judge_207 : decode cX5_judge 207 = .ok (.iaload, 1) := by decide +kernel
theorem dX5_judge_208 : decode cX5_judge 208 = .ok (.iastore, 1) := by decide +kernel
theorem dX5_judge_209 : decode cX5_judge 209 = .ok (.iinc 3 1, 3) := by decide +kernel
theorem dX5_judge_212 : decode cX5_judge 212 = .ok (.goto (-35), 3) := by decide +kernel
theorem dX5_judge_215 : decode cX5_judge 215 = .ok (.return_, 1) := by decide +kernel
theorem dX5_fits_0 : decode cX5_fits 0 = .ok (.aload_n 0, 1) := by decide +kernel
theorem dX5_fits_1 : decode cX5_fits 1 = .ok (.getfield 59, 3) := by decide +kernel
theorem dX5_fits_4 : decode cX5_fits 4 = .ok (.iload_n 1, 1) := by decide +kernel
theorem dX5_fits_5 : decode cX5_fits 5 = .ok (.iaload, 1) := by decide +kernel
theorem dX5_fits_6 : decode cX5_fits 6 = .ok (.istore_n 2, 1) := by decide +kernel
theorem dX5_fits_7 : decode cX5_fits 7 = .ok (.aload_n 0, 1) := by decide +kernel
theorem dX5_fits_8 : decode cX5_fits 8 = .ok (.getfield 62, 3) := by decide +kernel
theorem dX5_fits_11 : decode cX5_fits 11 = .ok (.iload_n 1, 1) := by decide +kernel
theorem dX5_fits_12 : decode cX5_fits 12 = .ok (.iaload, 1) := by decide +kernel
theorem dX5_fits_13 : decode cX5_fits 13 = .ok (.istore_n 3, 1) := by decide +kernel
theorem dX5_fits_14 : decode cX5_fits 14 = .ok (.iload_n 3, 1) := by decide +kernel
theorem dX5_fits_15 : decode cX5_fits 15 = .ok (.aload_n 0, 1) := by decide +kernel
theorem dX5_fits_16 : decode cX5_fits 16 = .ok (.getfield 7, 3) := by decide +kernel
theorem dX5_fits_19 : decode cX5_fits 19 = .ok (.iload_n 1, 1) := by decide +kernel
theorem dX5_fits_20 : decode cX5_fits 20 = .ok (.iaload, 1) := by decide +kernel
theorem dX5_fits_21 : decode cX5_fits 21 = .ok (.iadd, 1) := by decide +kernel
theorem dX5_fits_22 : decode cX5_fits 22 = .ok (.istore 4, 2) := by decide +kernel
theorem dX5_fits_24 : decode cX5_fits 24 = .ok (.iload 4, 2) := by decide +kernel
theorem dX5_fits_26 : decode cX5_fits 26 = .ok (.aload_n 0, 1) := by decide +kernel
theorem dX5_fits_27 : decode cX5_fits 27 = .ok (.getfield 78, 3) := by decide +kernel
theorem dX5_fits_30 : decode cX5_fits 30 = .ok (.if_icmp .gt 46, 3) := by decide +kernel
theorem dX5_fits_33 : decode cX5_fits 33 = .ok (.iload_n 3, 1) := by decide +kernel
theorem dX5_fits_34 : decode cX5_fits 34 = .ok (.aload_n 0, 1) := by decide +kernel
theorem dX5_fits_35 : decode cX5_fits 35 = .ok (.getfield 19, 3) := by decide +kernel
theorem dX5_fits_38 : decode cX5_fits 38 = .ok (.iload_n 1, 1) := by decide +kernel
theorem dX5_fits_39 : decode cX5_fits 39 = .ok (.iaload, 1) := by decide +kernel
theorem dX5_fits_40 : decode cX5_fits 40 = .ok (.if_icmp .lt 36, 3) := by decide +kernel
theorem dX5_fits_43 : decode cX5_fits 43 = .ok (.aload_n 0, 1) := by decide +kernel
theorem dX5_fits_44 : decode cX5_fits 44 = .ok (.getfield 22, 3) := by decide +kernel
theorem dX5_fits_47 : decode cX5_fits 47 = .ok (.iload_n 1, 1) := by decide +kernel
theorem dX5_fits_48 : decode cX5_fits 48 = .ok (.baload, 1) := by decide +kernel
theorem dX5_fits_49 : decode cX5_fits 49 = .ok (.ifCond .eq 23, 3) := by decide +kernel
theorem dX5_fits_52 : decode cX5_fits 52 = .ok (.iload_n 2, 1) := by decide +kernel
theorem dX5_fits_53 : decode cX5_fits 53 = .ok (.aload_n 0, 1) := by decide +kernel
theorem dX5_fits_54 : decode cX5_fits 54 = .ok (.getfield 13, 3) := by decide +kernel
theorem dX5_fits_57 : decode cX5_fits 57 = .ok (.iload_n 1, 1) := by decide +kernel
theorem dX5_fits_58 : decode cX5_fits 58 = .ok (.iaload, 1) := by decide +kernel
theorem dX5_fits_59 : decode cX5_fits 59 = .ok (.if_icmp .ne 17, 3) := by decide +kernel
theorem dX5_fits_62 : decode cX5_fits 62 = .ok (.iload_n 3, 1) := by decide +kernel
theorem dX5_fits_63 : decode cX5_fits 63 = .ok (.aload_n 0, 1) := by decide +kernel
theorem dX5_fits_64 : decode cX5_fits 64 = .ok (.getfield 16, 3) := by decide +kernel
theorem dX5_fits_67 : decode cX5_fits 67 = .ok (.iload_n 1, 1) := by decide +kernel
theorem dX5_fits_68 : decode cX5_fits 68 = .ok (.iaload, 1) := by decide +kernel
theorem dX5_fits_69 : decode cX5_fits 69 = .ok (.if_icmp .ne 7, 3) := by decide +kernel
theorem dX5_fits_72 : decode cX5_fits 72 = .ok (.iconst 1, 1) := by decide +kernel
theorem dX5_fits_73 : decode cX5_fits 73 = .ok (.goto 4, 3) := by decide +kernel
theorem dX5_fits_76 : decode cX5_fits 76 = .ok (.iconst 0, 1) := by decide +kernel
theorem dX5_fits_77 : decode cX5_fits 77 = .ok (.istore 5, 2) := by decide +kernel
theorem dX5_fits_79 : decode cX5_fits 79 = .ok (.iconst 0, 1) := by decide +kernel
theorem dX5_fits_80 : decode cX5_fits 80 = .ok (.istore 6, 2) := by decide +kernel
theorem dX5_fits_82 : decode cX5_fits 82 = .ok (.iload 6, 2) := by decide +kernel
theorem dX5_fits_84 : decode cX5_fits 84 = .ok (.aload_n 0, 1) := by decide +kernel
theorem dX5_fits_85 : decode cX5_fits 85 = .ok (.getfield 91, 3) := by decide +kernel
theorem dX5_fits_88 : decode cX5_fits 88 = .ok (.if_icmp .ge 55, 3) := by decide +kernel
theorem dX5_fits_91 : decode cX5_fits 91 = .ok (.iload 5, 2) := by decide +kernel
theorem dX5_fits_93 : decode cX5_fits 93 = .ok (.ifCond .eq 50, 3) := by decide +kernel
theorem dX5_fits_96 : decode cX5_fits 96 = .ok (.aload_n 0, 1) := by decide +kernel
theorem dX5_fits_97 : decode cX5_fits 97 = .ok (.getfield 38, 3) := by decide +kernel
theorem dX5_fits_100 : decode cX5_fits 100 = .ok (.iload 6, 2) := by decide +kernel
theorem dX5_fits_102 : decode cX5_fits 102 = .ok (.iaload, 1) := by decide +kernel
theorem dX5_fits_103 : decode cX5_fits 103 = .ok (.iload_n 2, 1) := by decide +kernel
theorem dX5_fits_104 : decode cX5_fits 104 = .ok (.if_icmp .ne 26, 3) := by decide +kernel
theorem dX5_fits_107 : decode cX5_fits 107 = .ok (.iload 4, 2) := by decide +kernel
theorem dX5_fits_109 : decode cX5_fits 109 = .ok (.aload_n 0, 1) := by decide +kernel
theorem dX5_fits_110 : decode cX5_fits 110 = .ok (.getfield 41, 3) := by decide +kernel
theorem dX5_fits_113 : decode cX5_fits 113 = .ok (.iload 6, 2) := by decide +kernel
theorem dX5_fits_115 : decode cX5_fits 115 = .ok (.iaload, 1) := by decide +kernel
theorem dX5_fits_116 : decode cX5_fits 116 = .ok (.if_icmp .le 14, 3) := by decide +kernel
theorem dX5_fits_119 : decode cX5_fits 119 = .ok (.iload_n 3, 1) := by decide +kernel
theorem dX5_fits_120 : decode cX5_fits 120 = .ok (.aload_n 0, 1) := by decide +kernel
theorem dX5_fits_121 : decode cX5_fits 121 = .ok (.getfield 44, 3) := by decide +kernel
theorem dX5_fits_124 : decode cX5_fits 124 = .ok (.iload 6, 2) := by decide +kernel
theorem dX5_fits_126 : decode cX5_fits 126 = .ok (.iaload, 1) := by decide +kernel
theorem dX5_fits_127 : decode cX5_fits 127 = .ok (.if_icmp .lt 7, 3) := by decide +kernel
theorem dX5_fits_130 : decode cX5_fits 130 = .ok (.iconst 1, 1) := by decide +kernel
theorem dX5_fits_131 : decode cX5_fits 131 = .ok (.goto 4, 3) := by decide +kernel
theorem dX5_fits_134 : decode cX5_fits 134 = .ok (.iconst 0, 1) := by decide +kernel
theorem dX5_fits_135 : decode cX5_fits 135 = .ok (.istore 5, 2) := by decide +kernel
theorem dX5_fits_137 : decode cX5_fits 137 = .ok (.iinc 6 1, 3) := by decide +kernel
theorem dX5_fits_140 : decode cX5_fits 140 = .ok (.goto (-58), 3) := by decide +kernel
theorem dX5_fits_143 : decode cX5_fits 143 = .ok (.iconst 0, 1) := by decide +kernel
theorem dX5_fits_144 : decode cX5_fits 144 = .ok (.istore 6, 2) := by decide +kernel
theorem dX5_fits_146 : decode cX5_fits 146 = .ok (.iload 6, 2) := by decide +kernel
theorem dX5_fits_148 : decode cX5_fits 148 = .ok (.iload_n 1, 1) := by decide +kernel
