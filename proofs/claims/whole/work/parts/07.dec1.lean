theorem dX9_add_123 : decode cX9_add 123 = .ok (.iload 8, 2) := by decide +kernel
theorem dX9_add_125 : decode cX9_add 125 = .ok (.iconst 2, 1) := by decide +kernel
theorem dX9_add_126 : decode cX9_add 126 = .ok (.iadd, 1) := by decide +kernel
theorem dX9_add_127 : decode cX9_add 127 = .ok (.iload 6, 2) := by decide +kernel
theorem dX9_add_129 : decode cX9_add 129 = .ok (.iastore, 1) := by decide +kernel
theorem dX9_add_130 : decode cX9_add 130 = .ok (.aload_n 0, 1) := by decide +kernel
theorem dX9_add_131 : decode cX9_add 131 = .ok (.getfield 15, 3) := by decide +kernel
theorem dX9_add_134 : decode cX9_add 134 = .ok (.aload_n 0, 1) := by decide +kernel
theorem dX9_add_135 : decode cX9_add 135 = .ok (.getfield 26, 3) := by decide +kernel
theorem dX9_add_138 : decode cX9_add 138 = .ok (.iload_n 1, 1) := by decide +kernel
theorem dX9_add_139 : decode cX9_add 139 = .ok (.iastore, 1) := by decide +kernel
theorem dX9_add_140 : decode cX9_add 140 = .ok (.aload_n 0, 1) := by decide +kernel
theorem dX9_add_141 : decode cX9_add 141 = .ok (.getfield 18, 3) := by decide +kernel
theorem dX9_add_144 : decode cX9_add 144 = .ok (.aload_n 0, 1) := by decide +kernel
theorem dX9_add_145 : decode cX9_add 145 = .ok (.getfield 26, 3) := by decide +kernel
theorem dX9_add_148 : decode cX9_add 148 = .ok (.iconst 1, 1) := by decide +kernel
theorem dX9_add_149 : decode cX9_add 149 = .ok (.bastore, 1) := by decide +kernel
theorem dX9_add_150 : decode cX9_add 150 = .ok (.aload_n 0, 1) := by decide +kernel
theorem dX9_add_151 : decode cX9_add 151 = .ok (.dup, 1) := by decide +kernel
theorem dX9_add_152 : decode cX9_add 152 = .ok (.getfield 26, 3) := by decide +kernel
theorem dX9_add_155 : decode cX9_add 155 = .ok (.iconst 1, 1) := by decide +kernel
theorem dX9_add_156 : decode cX9_add 156 = .ok (.iadd, 1) := by decide +kernel
theorem dX9_add_157 : decode cX9_add 157 = .ok (.putfield 26, 3) := by decide +kernel
theorem dX9_add_160 : decode cX9_add 160 = .ok (.aload_n 0, 1) := by decide +kernel
theorem dX9_add_161 : decode cX9_add 161 = .ok (.dup, 1) := by decide +kernel
theorem dX9_add_162 : decode cX9_add 162 = .ok (.getfield 29, 3) := by decide +kernel
theorem dX9_add_165 : decode cX9_add 165 = .ok (.iconst 1, 1) := by decide +kernel
theorem dX9_add_166 : decode cX9_add 166 = .ok (.iadd, 1) := by decide +kernel
theorem dX9_add_167 : decode cX9_add 167 = .ok (.putfield 29, 3) := by decide +kernel
theorem dX9_add_170 : decode cX9_add 170 = .ok (.aload_n 0, 1) := by decide +kernel
theorem dX9_add_171 : decode cX9_add 171 = .ok (.getfield 26, 3) := by decide +kernel
theorem dX9_add_174 : decode cX9_add 174 = .ok (.iconst 1, 1) := by decide +kernel
theorem dX9_add_175 : decode cX9_add 175 = .ok (.isub, 1) := by decide +kernel
theorem dX9_add_176 : decode cX9_add 176 = .ok (.ireturn, 1) := by decide +kernel
theorem dX9_isWithin_0 : decode cX9_isWithin 0 = .ok (.iload_n 0, 1) := by decide +kernel
theorem dX9_isWithin_1 : decode cX9_isWithin 1 = .ok (.iload_n 1, 1) := by decide +kernel
theorem dX9_isWithin_2 : decode cX9_isWithin 2 = .ok (.ineg, 1) := by decide +kernel
theorem dX9_isWithin_3 : decode cX9_isWithin 3 = .ok (.if_icmp .lt 12, 3) := by decide +kernel
theorem dX9_isWithin_6 : decode cX9_isWithin 6 = .ok (.iload_n 0, 1) := by decide +kernel
theorem dX9_isWithin_7 : decode cX9_isWithin 7 = .ok (.iload_n 1, 1) := by decide +kernel
theorem dX9_isWithin_8 : decode cX9_isWithin 8 = .ok (.if_icmp .gt 7, 3) := by decide +kernel
theorem dX9_isWithin_11 : decode cX9_isWithin 11 = .ok (.iconst 1, 1) := by decide +kernel
theorem dX9_isWithin_12 : decode cX9_isWithin 12 = .ok (.goto 4, 3) := by decide +kernel
theorem dX9_isWithin_15 : decode cX9_isWithin 15 = .ok (.iconst 0, 1) := by decide +kernel
theorem dX9_isWithin_16 : decode cX9_isWithin 16 = .ok (.ireturn, 1) := by decide +kernel
theorem dX10_init_0 : decode cX10_init 0 = .ok (.aload_n 0, 1) := by decide +kernel
theorem dX10_init_1 : decode cX10_init 1 = .ok (.invokespecial 1, 3) := by decide +kernel
theorem dX10_init_4 : decode cX10_init 4 = .ok (.aload_n 0, 1) := by decide +kernel
theorem dX10_init_5 : decode cX10_init 5 = .ok (.new 7, 3) := by decide +kernel
theorem dX10_init_8 : decode cX10_init 8 = .ok (.dup, 1) := by decide +kernel
theorem dX10_init_9 : decode cX10_init 9 = .ok (.invokespecial 9, 3) := by decide +kernel
theorem dX10_init_12 : decode cX10_init 12 = .ok (.putfield 10, 3) := by decide +kernel
theorem dX10_init_15 : decode cX10_init 15 = .ok (.aload_n 0, 1) := by decide +kernel
theorem dX10_init_16 : decode cX10_init 16 = .ok (.new 16, 3) := by decide +kernel
theorem dX10_init_19 : decode cX10_init 19 = .ok (.dup, 1) := by decide +kernel
theorem dX10_init_20 : decode cX10_init 20 = .ok (.invokespecial 18, 3) := by decide +kernel
theorem dX10_init_23 : decode cX10_init 23 = .ok (.putfield 19, 3) := by decide +kernel
theorem dX10_init_26 : decode cX10_init 26 = .ok (.aload_n 0, 1) := by decide +kernel
theorem dX10_init_27 : decode cX10_init 27 = .ok (.new 23, 3) := by decide +kernel
theorem dX10_init_30 : decode cX10_init 30 = .ok (.dup, 1) := by decide +kernel
theorem dX10_init_31 : decode cX10_init 31 = .ok (.invokespecial 25, 3) := by decide +kernel
theorem dX10_init_34 : decode cX10_init 34 = .ok (.putfield 26, 3) := by decide +kernel
theorem dX10_init_37 : decode cX10_init 37 = .ok (.aload_n 0, 1) := by decide +kernel
theorem dX10_init_38 : decode cX10_init 38 = .ok (.new 30, 3) := by decide +kernel
theorem dX10_init_41 : decode cX10_init 41 = .ok (.dup, 1) := by decide +kernel
theorem dX10_init_42 : decode cX10_init 42 = .ok (.invokespecial 32, 3) := by decide +kernel
theorem dX10_init_45 : decode cX10_init 45 = .ok (.putfield 33, 3) := by decide +kernel
theorem dX10_init_48 : decode cX10_init 48 = .ok (.aload_n 0, 1) := by decide +kernel
theorem dX10_init_49 : decode cX10_init 49 = .ok (.new 30, 3) := by decide +kernel
theorem dX10_init_52 : decode cX10_init 52 = .ok (.dup, 1) := by decide +kernel
theorem dX10_init_53 : decode cX10_init 53 = .ok (.invokespecial 32, 3) := by decide +kernel
theorem dX10_init_56 : decode cX10_init 56 = .ok (.putfield 37, 3) := by decide +kernel
theorem dX10_init_59 : decode cX10_init 59 = .ok (.aload_n 0, 1) := by decide +kernel
theorem dX10_init_60 : decode cX10_init 60 = .ok (.iconst 3, 1) := by decide +kernel
theorem dX10_init_61 : decode cX10_init 61 = .ok (.newarray .long, 2) := by decide +kernel
theorem dX10_init_63 : decode cX10_init 63 = .ok (.putfield 40, 3) := by decide +kernel
theorem dX10_init_66 : decode cX10_init 66 = .ok (.aload_n 0, 1) := by decide +kernel
theorem dX10_init_67 : decode cX10_init 67 = .ok (.iconst 3, 1) := by decide +kernel
theorem dX10_init_68 : decode cX10_init 68 = .ok (.newarray .long, 2) := by decide +kernel
theorem dX10_init_70 : decode cX10_init 70 = .ok (.putfield 44, 3) := by decide +kernel
theorem dX10_init_73 : decode cX10_init 73 = .ok (.aload_n 0, 1) := by decide +kernel
theorem dX10_init_74 : decode cX10_init 74 = .ok (.new 47, 3) := by decide +kernel
theorem dX10_init_77 : decode cX10_init 77 = .ok (.dup, 1) := by decide +kernel
theorem dX10_init_78 : decode cX10_init 78 = .ok (.invokespecial 49, 3) := by decide +kernel
theorem dX10_init_81 : decode cX10_init 81 = .ok (.putfield 50, 3) := by decide +kernel
theorem dX10_init_84 : decode cX10_init 84 = .ok (.aload_n 0, 1) := by decide +kernel
theorem dX10_init_85 : decode cX10_init 85 = .ok (.new 54, 3) := by decide +kernel
theorem dX10_init_88 : decode cX10_init 88 = .ok (.dup, 1) := by decide +kernel
theorem dX10_init_89 : decode cX10_init 89 = .ok (.invokespecial 56, 3) := by decide +kernel
theorem dX10_init_92 : decode cX10_init 92 = .ok (.putfield 57, 3) := by decide +kernel
theorem dX10_init_95 : decode cX10_init 95 = .ok (.aload_n 0, 1) := by decide +kernel
theorem dX10_init_96 : decode cX10_init 96 = .ok (.new 61, 3) := by decide +kernel
theorem dX10_init_99 : decode cX10_init 99 = .ok (.dup, 1) := by decide +kernel
theorem dX10_init_100 : decode cX10_init 100 = .ok (.invokespecial 63, 3) := by decide +kernel
theorem dX10_init_103 : decode cX10_init 103 = .ok (.putfield 64, 3) := by decide +kernel
theorem dX10_init_106 : decode cX10_init 106 = .ok (.aload_n 0, 1) := by decide +kernel
theorem dX10_init_107 : decode cX10_init 107 = .ok (.new 68, 3) := by decide +kernel
theorem dX10_init_110 : decode cX10_init 110 = .ok (.dup, 1) := by decide +kernel
theorem dX10_init_111 : decode cX10_init 111 = .ok (.invokespecial 70, 3) := by decide +kernel
theorem dX10_init_114 : decode cX10_init 114 = .ok (.putfield 71, 3) := by decide +kernel
theorem dX10_init_117 : decode cX10_init 117 = .ok (.aload_n 0, 1) := by decide +kernel
theorem dX10_init_118 : decode cX10_init 118 = .ok (.new 75, 3) := by decide +kernel
theorem dX10_init_121 : decode cX10_init 121 = .ok (.dup, 1) := by decide +kernel
theorem dX10_init_122 : decode cX10_init 122 = .ok (.invokespecial 77, 3) := by decide +kernel
theorem dX10_init_125 : decode cX10_init 125 = .ok (.putfield 78, 3) := by decide +kernel
theorem dX10_init_128 : decode cX10_init 128 = .ok (.aload_n 0, 1) := by decide +kernel
theorem dX10_init_129 : decode cX10_init 129 = .ok (.new 75, 3) := by decide +kernel
theorem dX10_init_132 : decode cX10_init 132 = .ok (.dup, 1) := by decide +kernel
theorem dX10_init_133 : decode cX10_init 133 = .ok (.invokespecial 77, 3) := by decide +kernel
theorem dX10_init_136 : decode cX10_init 136 = .ok (.putfield 82, 3) := by decide +kernel
theorem dX10_init_139 : decode cX10_init 139 = .ok (.aload_n 0, 1) := by decide +kernel
theorem dX10_init_140 : decode cX10_init 140 = .ok (.iconst (-1), 1) := by decide +kernel
theorem dX10_init_141 : decode cX10_init 141 = .ok (.putfield 85, 3) := by decide +kernel
theorem dX10_init_144 : decode cX10_init 144 = .ok (.return_, 1) := by decide +kernel
theorem dX10_start_0 : decode cX10_start 0 = .ok (.iload_n 1, 1) := by decide +kernel
theorem dX10_start_1 : decode cX10_start 1 = .ok (.iconst 1, 1) := by decide +kernel
theorem dX10_start_2 : decode cX10_start 2 = .ok (.if_icmp .lt 8, 3) := by decide +kernel
theorem dX10_start_5 : decode cX10_start 5 = .ok (.iload_n 1, 1) := by decide +kernel
theorem dX10_start_6 : decode cX10_start 6 = .ok (.iconst 3, 1) := by decide +kernel
theorem dX10_start_7 : decode cX10_start 7 = .ok (.if_icmp .le 5, 3) := by decide +kernel
theorem dX10_start_10 : decode cX10_start 10 = .ok (.iconst 0, 1) := by decide +kernel
theorem dX10_start_11 : decode cX10_start 11 = .ok (.ireturn, 1) := by decide +kernel
theorem dX10_start_12 : decode cX10_start 12 = .ok (.aload_n 0, 1) := by decide +kernel
theorem dX10_start_13 : decode cX10_start 13 = .ok (.getfield 10, 3) := by decide +kernel
theorem dX10_start_16 : decode cX10_start 16 = .ok (.iload_n 1, 1) := by decide +kernel
theorem dX10_start_17 : decode cX10_start 17 = .ok (.invokevirtual 89, 3) := by decide +kernel
theorem dX10_start_20 : decode cX10_start 20 = .ok (.aload_n 0, 1) := by decide +kernel
theorem dX10_start_21 : decode cX10_start 21 = .ok (.invokevirtual 93, 3) := by decide +kernel
theorem dX10_start_24 : decode cX10_start 24 = .ok (.iconst 1, 1) := by decide +kernel
theorem dX10_start_25 : decode cX10_start 25 = .ok (.ireturn, 1) := by decide +kernel
theorem dX10_row_0 : decode cX10_row 0 = .ok (.aload_n 0, 1) := by decide +kernel
theorem dX10_row_1 : decode cX10_row 1 = .ok (.getfield 10, 3) := by decide +kernel
theorem dX10_row_4 : decode cX10_row 4 = .ok (.iload_n 1, 1) := by decide +kernel
theorem dX10_row_5 : decode cX10_row 5 = .ok (.iload_n 2, 1) := by decide +kernel
theorem dX10_row_6 : decode cX10_row 6 = .ok (.iload_n 3, 1) := by decide +kernel
theorem dX10_row_7 : decode cX10_row 7 = .ok (.iload 4, 2) := by decide +kernel
theorem dX10_row_9 : decode cX10_row 9 = .ok (.invokevirtual 96, 3) := by decide +kernel
theorem dX10_row_12 : decode cX10_row 12 = .ok (.istore 5, 2) := by decide +kernel
theorem dX10_row_14 : decode cX10_row 14 = .ok (.iload 5, 2) := by decide +kernel
theorem dX10_row_16 : decode cX10_row 16 = .ok (.iconst (-1), 1) := by decide +kernel
theorem dX10_row_17 : decode cX10_row 17 = .ok (.if_icmp .eq 7, 3) := by decide +kernel
theorem dX10_row_20 : decode cX10_row 20 = .ok (.aload_n 0, 1) := by decide +kernel
theorem dX10_row_21 : decode cX10_row 21 = .ok (.invokevirtual 93, 3) := by decide +kernel
theorem dX10_row_24 : decode cX10_row 24 = .ok (.iload 5, 2) := by decide +kernel
theorem dX10_row_26 : decode cX10_row 26 = .ok (.ireturn, 1) := by decide +kernel
theorem dX10_set_0 : decode cX10_set 0 = .ok (.aload_n 0, 1) := by decide +kernel
theorem dX10_set_1 : decode cX10_set 1 = .ok (.getfield 10, 3) := by decide +kernel
theorem dX10_set_4 : decode cX10_set 4 = .ok (.iload_n 1, 1) := by decide +kernel
theorem dX10_set_5 : decode cX10_set 5 = .ok (.invokevirtual 100, 3) := by decide +kernel
theorem dX10_set_8 : decode cX10_set 8 = .ok (.ifCond .eq 15, 3) := by decide +kernel
theorem dX10_set_11 : decode cX10_set 11 = .ok (.aload_n 0, 1) := by decide +kernel
theorem dX10_set_12 : decode cX10_set 12 = .ok (.getfield 10, 3) := by decide +kernel
theorem dX10_set_15 : decode cX10_set 15 = .ok (.iload_n 1, 1) := by decide +kernel
theorem dX10_set_16 : decode cX10_set 16 = .ok (.invokevirtual 104, 3) := by decide +kernel
theorem dX10_set_19 : decode cX10_set 19 = .ok (.iload_n 2, 1) := by decide +kernel
theorem dX10_set_20 : decode cX10_set 20 = .ok (.if_icmp .ne 5, 3) := by decide +kernel
theorem dX10_set_23 : decode cX10_set 23 = .ok (.iconst 0, 1) := by decide +kernel
theorem dX10_set_24 : decode cX10_set 24 = .ok (.ireturn, 1) := by decide +kernel
theorem dX10_set_25 : decode cX10_set 25 = .ok (.aload_n 0, 1) := by decide +kernel
theorem dX10_set_26 : decode cX10_set 26 = .ok (.getfield 10, 3) := by decide +kernel
theorem dX10_set_29 : decode cX10_set 29 = .ok (.iload_n 1, 1) := by decide +kernel
theorem dX10_set_30 : decode cX10_set 30 = .ok (.iload_n 2, 1) := by decide +kernel
theorem dX10_set_31 : decode cX10_set 31 = .ok (.invokevirtual 107, 3) := by decide +kernel
theorem dX10_set_34 : decode cX10_set 34 = .ok (.aload_n 0, 1) := by decide +kernel
theorem dX10_set_35 : decode cX10_set 35 = .ok (.invokevirtual 93, 3) := by decide +kernel
theorem dX10_set_38 : decode cX10_set 38 = .ok (.iconst 1, 1) := by decide +kernel
theorem dX10_set_39 : decode cX10_set 39 = .ok (.ireturn, 1) := by decide +kernel
theorem dX10_at_0 : decode cX10_at 0 = .ok (.aload_n 0, 1) := by decide +kernel
theorem dX10_at_1 : decode cX10_at 1 = .ok (.getfield 10, 3) := by decide +kernel
theorem dX10_at_4 : decode cX10_at 4 = .ok (.iload_n 1, 1) := by decide +kernel
theorem dX10_at_5 : decode cX10_at 5 = .ok (.invokevirtual 100, 3) := by decide +kernel
theorem dX10_at_8 : decode cX10_at 8 = .ok (.ifCond .ne 5, 3) := by decide +kernel
theorem dX10_at_11 : decode cX10_at 11 = .ok (.iconst 0, 1) := by decide +kernel
theorem dX10_at_12 : decode cX10_at 12 = .ok (.ireturn, 1) := by decide +kernel
theorem dX10_at_13 : decode cX10_at 13 = .ok (.iload_n 2, 1) := by decide +kernel
theorem dX10_at_14 : decode cX10_at 14 = .ok (.iconst (-1), 1) := by decide +kernel
theorem dX10_at_15 : decode cX10_at 15 = .ok (.if_icmp .ne 13, 3) := by decide +kernel
theorem dX10_at_18 : decode cX10_at 18 = .ok (.aload_n 0, 1) := by decide +kernel
theorem dX10_at_19 : decode cX10_at 19 = .ok (.getfield 10, 3) := by decide +kernel
theorem dX10_at_22 : decode cX10_at 22 = .ok (.getfield 111, 3) := by decide +kernel
theorem dX10_at_25 : decode cX10_at 25 = .ok (.iload_n 1, 1) := by decide +kernel
theorem dX10_at_26 : decode cX10_at 26 = .ok (.iaload, 1) := by decide +kernel
theorem dX10_at_27 : decode cX10_at 27 = .ok (.ireturn, 1) := by decide +kernel
theorem dX10_at_28 : decode cX10_at 28 = .ok (.aload_n 0, 1) := by decide +kernel
theorem dX10_at_29 : decode cX10_at 29 = .ok (.getfield 10, 3) := by decide +kernel
theorem dX10_at_32 : decode cX10_at 32 = .ok (.iload_n 2, 1) := by decide +kernel
theorem dX10_at_33 : decode cX10_at 33 = .ok (.invokevirtual 115, 3) := by decide +kernel
theorem dX10_at_36 : decode cX10_at 36 = .ok (.ifCond .eq 15, 3) := by decide +kernel
theorem dX10_at_39 : decode cX10_at 39 = .ok (.aload_n 0, 1) := by decide +kernel
theorem dX10_at_40 : decode cX10_at 40 = .ok (.getfield 10, 3) := by decide +kernel
theorem dX10_at_43 : decode cX10_at 43 = .ok (.iload_n 1, 1) := by decide +kernel
theorem dX10_at_44 : decode cX10_at 44 = .ok (.iload_n 2, 1) := by decide +kernel
theorem dX10_at_45 : decode cX10_at 45 = .ok (.invokevirtual 118, 3) := by decide +kernel
theorem dX10_at_48 : decode cX10_at 48 = .ok (.goto 4, 3) := by decide +kernel
theorem dX10_at_51 : decode cX10_at 51 = .ok (.iconst 0, 1) := by decide +kernel
theorem dX10_at_52 : decode cX10_at 52 = .ok (.ireturn, 1) := by decide +kernel
theorem dX10_there_0 : decode cX10_there 0 = .ok (.aload_n 0, 1) := by decide +kernel
theorem dX10_there_1 : decode cX10_there 1 = .ok (.getfield 10, 3) := by decide +kernel
theorem dX10_there_4 : decode cX10_there 4 = .ok (.iload_n 1, 1) := by decide +kernel
theorem dX10_there_5 : decode cX10_there 5 = .ok (.invokevirtual 104, 3) := by decide +kernel
theorem dX10_there_8 : decode cX10_there 8 = .ok (.ireturn, 1) := by decide +kernel
theorem dX10_free_0 : decode cX10_free 0 = .ok (.aload_n 0, 1) := by decide +kernel
theorem dX10_free_1 : decode cX10_free 1 = .ok (.invokevirtual 122, 3) := by decide +kernel
theorem dX10_free_4 : decode cX10_free 4 = .ok (.getfield 126, 3) := by decide +kernel
theorem dX10_free_7 : decode cX10_free 7 = .ok (.ireturn, 1) := by decide +kernel
theorem dX10_weight_0 : decode cX10_weight 0 = .ok (.aload_n 0, 1) := by decide +kernel
theorem dX10_weight_1 : decode cX10_weight 1 = .ok (.getfield 10, 3) := by decide +kernel
theorem dX10_weight_4 : decode cX10_weight 4 = .ok (.iload_n 1, 1) := by decide +kernel
theorem dX10_weight_5 : decode cX10_weight 5 = .ok (.invokevirtual 115, 3) := by decide +kernel
theorem dX10_weight_8 : decode cX10_weight 8 = .ok (.ifCond .ne 7, 3) := by decide +kernel
theorem dX10_weight_11 : decode cX10_weight 11 = .ok (.ldc2_w 129, 3) := by decide +kernel
theorem dX10_weight_14 : decode cX10_weight 14 = .ok (.lreturn, 1) := by decide +kernel
theorem dX10_weight_15 : decode cX10_weight 15 = .ok (.aload_n 0, 1) := by decide +kernel
theorem dX10_weight_16 : decode cX10_weight 16 = .ok (.invokevirtual 122, 3) := by decide +kernel
theorem dX10_weight_19 : decode cX10_weight 19 = .ok (.astore_n 3, 1) := by decide +kernel
theorem dX10_weight_20 : decode cX10_weight 20 = .ok (.aload_n 3, 1) := by decide +kernel
theorem dX10_weight_21 : decode cX10_weight 21 = .ok (.getfield 131, 3) := by decide +kernel
theorem dX10_weight_24 : decode cX10_weight 24 = .ok (.iload_n 1, 1) := by decide +kernel
theorem dX10_weight_25 : decode cX10_weight 25 = .ok (.laload, 1) := by decide +kernel
theorem dX10_weight_26 : decode cX10_weight 26 = .ok (.aload_n 3, 1) := by decide +kernel
theorem dX10_weight_27 : decode cX10_weight 27 = .ok (.invokevirtual 134, 3) := by decide +kernel
theorem dX10_weight_30 : decode cX10_weight 30 = .ok (.iload_n 2, 1) := by decide +kernel
theorem dX10_weight_31 : decode cX10_weight 31 = .ok (.invokestatic 138, 3) := by decide +kernel
theorem dX10_weight_34 : decode cX10_weight 34 = .ok (.lreturn, 1) := by decide +kernel
theorem dX10_miss_0 : decode cX10_miss 0 = .ok (.aload_n 0, 1) := by decide +kernel
theorem dX10_miss_1 : decode cX10_miss 1 = .ok (.getfield 10, 3) := by decide +kernel
theorem dX10_miss_4 : decode cX10_miss 4 = .ok (.iload_n 1, 1) := by decide +kernel
theorem dX10_miss_5 : decode cX10_miss 5 = .ok (.invokevirtual 100, 3) := by decide +kernel
theorem dX10_miss_8 : decode cX10_miss 8 = .ok (.ifCond .ne 7, 3) := by decide +kernel
theorem dX10_miss_11 : decode cX10_miss 11 = .ok (.ldc2_w 129, 3) := by decide +kernel
theorem dX10_miss_14 : decode cX10_miss 14 = .ok (.lreturn, 1) := by decide +kernel
theorem dX10_miss_15 : decode cX10_miss 15 = .ok (.aload_n 0, 1) := by decide +kernel
theorem dX10_miss_16 : decode cX10_miss 16 = .ok (.invokevirtual 122, 3) := by decide +kernel
theorem dX10_miss_19 : decode cX10_miss 19 = .ok (.astore_n 3, 1) := by decide +kernel
theorem dX10_miss_20 : decode cX10_miss 20 = .ok (.aload_n 0, 1) := by decide +kernel
theorem dX10_miss_21 : decode cX10_miss 21 = .ok (.getfield 10, 3) := by decide +kernel
theorem dX10_miss_24 : decode cX10_miss 24 = .ok (.iload_n 1, 1) := by decide +kernel
theorem dX10_miss_25 : decode cX10_miss 25 = .ok (.aload_n 0, 1) := by decide +kernel
theorem dX10_miss_26 : decode cX10_miss 26 = .ok (.getfield 40, 3) := by decide +kernel
theorem dX10_miss_29 : decode cX10_miss 29 = .ok (.invokevirtual 144, 3) := by decide +kernel
theorem dX10_miss_32 : decode cX10_miss 32 = .ok (.aload_n 0, 1) := by decide +kernel
theorem dX10_miss_33 : decode cX10_miss 33 = .ok (.getfield 10, 3) := by decide +kernel
theorem dX10_miss_36 : decode cX10_miss 36 = .ok (.getfield 111, 3) := by decide +kernel
theorem dX10_miss_39 : decode cX10_miss 39 = .ok (.iload_n 1, 1) := by decide +kernel
theorem dX10_miss_40 : decode cX10_miss 40 = .ok (.iaload, 1) := by decide +kernel
theorem dX10_miss_41 : decode cX10_miss 41 = .ok (.i2l, 1) := by decide +kernel
theorem dX10_miss_42 : decode cX10_miss 42 = .ok (.aload_n 3, 1) := by decide +kernel
theorem dX10_miss_43 : decode cX10_miss 43 = .ok (.invokevirtual 134, 3) := by decide +kernel
theorem dX10_miss_46 : decode cX10_miss 46 = .ok (.lmul, 1) := by decide +kernel
theorem dX10_miss_47 : decode cX10_miss 47 = .ok (.aload_n 0, 1) := by decide +kernel
theorem dX10_miss_48 : decode cX10_miss 48 = .ok (.getfield 40, 3) := by decide +kernel
theorem dX10_miss_51 : decode cX10_miss 51 = .ok (.aload_n 3, 1) := by decide +kernel
theorem dX10_miss_52 : decode cX10_miss 52 = .ok (.getfield 131, 3) := by decide +kernel
theorem dX10_miss_55 : decode cX10_miss 55 = .ok (.invokestatic 148, 3) := by decide +kernel
theorem dX10_miss_58 : decode cX10_miss 58 = .ok (.lsub, 1) := by decide +kernel
theorem dX10_miss_59 : decode cX10_miss 59 = .ok (.lstore 4, 2) := by decide +kernel
theorem dX10_miss_61 : decode cX10_miss 61 = .ok (.lload 4, 2) := by decide +kernel
theorem dX10_miss_63 : decode cX10_miss 63 = .ok (.aload_n 3, 1) := by decide +kernel
theorem dX10_miss_64 : decode cX10_miss 64 = .ok (.invokevirtual 134, 3) := by decide +kernel
theorem dX10_miss_67 : decode cX10_miss 67 = .ok (.iload_n 2, 1) := by decide +kernel
theorem dX10_miss_68 : decode cX10_miss 68 = .ok (.invokestatic 138, 3) := by decide +kernel
theorem dX10_miss_71 : decode cX10_miss 71 = .ok (.lreturn, 1) := by decide +kernel
theorem dX10_sum_0 : decode cX10_sum 0 = .ok (.aload_n 0, 1) := by decide +kernel
theorem dX10_sum_1 : decode cX10_sum 1 = .ok (.invokevirtual 122, 3) := by decide +kernel
theorem dX10_sum_4 : decode cX10_sum 4 = .ok (.astore_n 2, 1) := by decide +kernel
theorem dX10_sum_5 : decode cX10_sum 5 = .ok (.aload_n 2, 1) := by decide +kernel
theorem dX10_sum_6 : decode cX10_sum 6 = .ok (.invokevirtual 152, 3) := by decide +kernel
theorem dX10_sum_9 : decode cX10_sum 9 = .ok (.aload_n 2, 1) := by decide +kernel
theorem dX10_sum_10 : decode cX10_sum 10 = .ok (.invokevirtual 134, 3) := by decide +kernel
theorem dX10_sum_13 : decode cX10_sum 13 = .ok (.iload_n 1, 1) := by decide +kernel
theorem dX10_sum_14 : decode cX10_sum 14 = .ok (.invokestatic 138, 3) := by decide +kernel
theorem dX10_sum_17 : decode cX10_sum 17 = .ok (.lreturn, 1) := by decide +kernel
theorem dX10_pull_0 : decode cX10_pull 0 = .ok (.aload_n 0, 1) := by decide +kernel
theorem dX10_pull_1 : decode cX10_pull 1 = .ok (.getfield 10, 3) := by decide +kernel
theorem dX10_pull_4 : decode cX10_pull 4 = .ok (.iload_n 1, 1) := by decide +kernel
theorem dX10_pull_5 : decode cX10_pull 5 = .ok (.invokevirtual 104, 3) := by decide +kernel
theorem dX10_pull_8 : decode cX10_pull 8 = .ok (.ifCond .ne 7, 3) := by decide +kernel
theorem dX10_pull_11 : decode cX10_pull 11 = .ok (.ldc2_w 129, 3) := by decide +kernel
theorem dX10_pull_14 : decode cX10_pull 14 = .ok (.lreturn, 1) := by decide +kernel
theorem dX10_pull_15 : decode cX10_pull 15 = .ok (.aload_n 0, 1) := by decide +kernel
theorem dX10_pull_16 : decode cX10_pull 16 = .ok (.invokevirtual 122, 3) := by decide +kernel
theorem dX10_pull_19 : decode cX10_pull 19 = .ok (.astore_n 3, 1) := by decide +kernel
theorem dX10_pull_20 : decode cX10_pull 20 = .ok (.aload_n 0, 1) := by decide +kernel
theorem dX10_pull_21 : decode cX10_pull 21 = .ok (.getfield 10, 3) := by decide +kernel
theorem dX10_pull_24 : decode cX10_pull 24 = .ok (.iload_n 1, 1) := by decide +kernel
theorem dX10_pull_25 : decode cX10_pull 25 = .ok (.aload_n 0, 1) := by decide +kernel
theorem dX10_pull_26 : decode cX10_pull 26 = .ok (.getfield 40, 3) := by decide +kernel
theorem dX10_pull_29 : decode cX10_pull 29 = .ok (.invokevirtual 144, 3) := by decide +kernel
theorem dX10_pull_32 : decode cX10_pull 32 = .ok (.aload_n 3, 1) := by decide +kernel
theorem dX10_pull_33 : decode cX10_pull 33 = .ok (.aload_n 0, 1) := by decide +kernel
theorem dX10_pull_34 : decode cX10_pull 34 = .ok (.getfield 40, 3) := by decide +kernel
theorem dX10_pull_37 : decode cX10_pull 37 = .ok (.aload_n 0, 1) := by decide +kernel
theorem dX10_pull_38 : decode cX10_pull 38 = .ok (.getfield 44, 3) := by decide +kernel
theorem dX10_pull_41 : decode cX10_pull 41 = .ok (.invokevirtual 155, 3) := by decide +kernel
theorem dX10_pull_44 : decode cX10_pull 44 = .ok (.aload_n 0, 1) := by decide +kernel
theorem dX10_pull_45 : decode cX10_pull 45 = .ok (.getfield 40, 3) := by decide +kernel
theorem dX10_pull_48 : decode cX10_pull 48 = .ok (.aload_n 0, 1) := by decide +kernel
theorem dX10_pull_49 : decode cX10_pull 49 = .ok (.getfield 44, 3) := by decide +kernel
theorem dX10_pull_52 : decode cX10_pull 52 = .ok (.invokestatic 148, 3) := by decide +kernel
theorem dX10_pull_55 : decode cX10_pull 55 = .ok (.aload_n 3, 1) := by decide +kernel
theorem dX10_pull_56 : decode cX10_pull 56 = .ok (.invokevirtual 134, 3) := by decide +kernel
theorem dX10_pull_59 : decode cX10_pull 59 = .ok (.iload_n 2, 1) := by decide +kernel
theorem dX10_pull_60 : decode cX10_pull 60 = .ok (.invokestatic 138, 3) := by decide +kernel
theorem dX10_pull_63 : decode cX10_pull 63 = .ok (.lreturn, 1) := by decide +kernel
theorem dX10_without_0 : decode cX10_without 0 = .ok (.aload_n 0, 1) := by decide +kernel
theorem dX10_without_1 : decode cX10_without 1 = .ok (.getfield 10, 3) := by decide +kernel
theorem dX10_without_4 : decode cX10_without 4 = .ok (.iload_n 1, 1) := by decide +kernel
theorem dX10_without_5 : decode cX10_without 5 = .ok (.invokevirtual 104, 3) := by decide +kernel
theorem dX10_without_8 : decode cX10_without 8 = .ok (.ifCond .eq 14, 3) := by decide +kernel
theorem dX10_without_11 : decode cX10_without 11 = .ok (.aload_n 0, 1) := by decide +kernel
theorem dX10_without_12 : decode cX10_without 12 = .ok (.getfield 10, 3) := by decide +kernel
theorem dX10_without_15 : decode cX10_without 15 = .ok (.iload_n 2, 1) := by decide +kernel
theorem dX10_without_16 : decode cX10_without 16 = .ok (.invokevirtual 115, 3) := by decide +kernel
theorem dX10_without_19 : decode cX10_without 19 = .ok (.ifCond .ne 7, 3) := by decide +kernel
theorem dX10_without_22 : decode cX10_without 22 = .ok (.ldc2_w 129, 3) := by decide +kernel
theorem dX10_without_25 : decode cX10_without 25 = .ok (.lreturn, 1) := by decide +kernel
theorem dX10_without_26 : decode cX10_without 26 = .ok (.aload_n 0, 1) := by decide +kernel
theorem dX10_without_27 : decode cX10_without 27 = .ok (.getfield 37, 3) := by decide +kernel
theorem dX10_without_30 : decode cX10_without 30 = .ok (.invokevirtual 159, 3) := by decide +kernel
theorem dX10_without_33 : decode cX10_without 33 = .ok (.iconst 0, 1) := by decide +kernel
theorem dX10_without_34 : decode cX10_without 34 = .ok (.istore 4, 2) := by decide +kernel
theorem dX10_without_36 : decode cX10_without 36 = .ok (.iload 4, 2) := by decide +kernel
theorem dX10_without_38 : decode cX10_without 38 = .ok (.aload_n 0, 1) := by decide +kernel
theorem dX10_without_39 : decode cX10_without 39 = .ok (.getfield 10, 3) := by decide +kernel
theorem dX10_without_42 : decode cX10_without 42 = .ok (.getfield 161, 3) := by decide +kernel
theorem dX10_without_45 : decode cX10_without 45 = .ok (.if_icmp .ge 41, 3) := by decide +kernel
theorem dX10_without_48 : decode cX10_without 48 = .ok (.iload 4, 2) := by decide +kernel
theorem dX10_without_50 : decode cX10_without 50 = .ok (.iload_n 1, 1) := by decide +kernel
theorem dX10_without_51 : decode cX10_without 51 = .ok (.if_icmp .eq 29, 3) := by decide +kernel
theorem dX10_without_54 : decode cX10_without 54 = .ok (.aload_n 0, 1) := by decide +kernel
theorem dX10_without_55 : decode cX10_without 55 = .ok (.getfield 10, 3) := by decide +kernel
theorem dX10_without_58 : decode cX10_without 58 = .ok (.getfield 164, 3) := by decide +kernel
theorem dX10_without_61 : decode cX10_without 61 = .ok (.iload 4, 2) := by decide +kernel
theorem dX10_without_63 : decode cX10_without 63 = .ok (.baload, 1) := by decide +kernel
theorem dX10_without_64 : decode cX10_without 64 = .ok (.ifCond .eq 16, 3) := by decide +kernel
theorem dX10_without_67 : decode cX10_without 67 = .ok (.aload_n 0, 1) := by decide +kernel
theorem dX10_without_68 : decode cX10_without 68 = .ok (.getfield 37, 3) := by decide +kernel
theorem dX10_without_71 : decode cX10_without 71 = .ok (.aload_n 0, 1) := by decide +kernel
theorem dX10_without_72 : decode cX10_without 72 = .ok (.getfield 10, 3) := by decide +kernel
theorem dX10_without_75 : decode cX10_without 75 = .ok (.iload 4, 2) := by decide +kernel
theorem dX10_without_77 : decode cX10_without 77 = .ok (.invokevirtual 168, 3) := by decide +kernel
theorem dX10_without_80 : decode cX10_without 80 = .ok (.iinc 4 1, 3) := by decide +kernel
theorem dX10_without_83 : decode cX10_without 83 = .ok (.goto (-47), 3) := by decide +kernel
theorem dX10_without_86 : decode cX10_without 86 = .ok (.aload_n 0, 1) := by decide +kernel
theorem dX10_without_87 : decode cX10_without 87 = .ok (.getfield 37, 3) := by decide +kernel
theorem dX10_without_90 : decode cX10_without 90 = .ok (.invokevirtual 171, 3) := by decide +kernel
theorem dX10_without_93 : decode cX10_without 93 = .ok (.aload_n 0, 1) := by decide +kernel
theorem dX10_without_94 : decode cX10_without 94 = .ok (.getfield 37, 3) := by decide +kernel
theorem dX10_without_97 : decode cX10_without 97 = .ok (.getfield 131, 3) := by decide +kernel
theorem dX10_without_100 : decode cX10_without 100 = .ok (.iload_n 2, 1) := by decide +kernel
theorem dX10_without_101 : decode cX10_without 101 = .ok (.laload, 1) := by decide +kernel
theorem dX10_without_102 : decode cX10_without 102 = .ok (.aload_n 0, 1) := by decide +kernel
theorem dX10_without_103 : decode cX10_without 103 = .ok (.getfield 37, 3) := by decide +kernel
theorem dX10_without_106 : decode cX10_without 106 = .ok (.invokevirtual 134, 3) := by decide +kernel
theorem dX10_without_109 : decode cX10_without 109 = .ok (.iload_n 3, 1) := by decide +kernel
theorem dX10_without_110 : decode cX10_without 110 = .ok (.invokestatic 138, 3) := by decide +kernel
theorem dX10_without_113 : decode cX10_without 113 = .ok (.lreturn, 1) := by decide +kernel
theorem dX10_far_0 : decode cX10_far 0 = .ok (.aload_n 0, 1) := by decide +kernel
theorem dX10_far_1 : decode cX10_far 1 = .ok (.getfield 10, 3) := by decide +kernel
theorem dX10_far_4 : decode cX10_far 4 = .ok (.iload_n 1, 1) := by decide +kernel
theorem dX10_far_5 : decode cX10_far 5 = .ok (.invokevirtual 104, 3) := by decide +kernel
theorem dX10_far_8 : decode cX10_far 8 = .ok (.ifCond .eq 21, 3) := by decide +kernel
theorem dX10_far_11 : decode cX10_far 11 = .ok (.aload_n 0, 1) := by decide +kernel
theorem dX10_far_12 : decode cX10_far 12 = .ok (.getfield 10, 3) := by decide +kernel
theorem dX10_far_15 : decode cX10_far 15 = .ok (.iload_n 2, 1) := by decide +kernel
theorem dX10_far_16 : decode cX10_far 16 = .ok (.invokevirtual 115, 3) := by decide +kernel
theorem dX10_far_19 : decode cX10_far 19 = .ok (.ifCond .eq 10, 3) := by decide +kernel
theorem dX10_far_22 : decode cX10_far 22 = .ok (.aload_n 0, 1) := by decide +kernel
theorem dX10_far_23 : decode cX10_far 23 = .ok (.invokevirtual 174, 3) := by decide +kernel
theorem dX10_far_26 : decode cX10_far 26 = .ok (.ifCond .ne 7, 3) := by decide +kernel
theorem dX10_far_29 : decode cX10_far 29 = .ok (.ldc2_w 129, 3) := by decide +kernel
theorem dX10_far_32 : decode cX10_far 32 = .ok (.lreturn, 1) := by decide +kernel
theorem dX10_far_33 : decode cX10_far 33 = .ok (.aload_n 0, 1) := by decide +kernel
theorem dX10_far_34 : decode cX10_far 34 = .ok (.invokevirtual 122, 3) := by decide +kernel
theorem dX10_far_37 : decode cX10_far 37 = .ok (.astore 4, 2) := by decide +kernel
theorem dX10_far_39 : decode cX10_far 39 = .ok (.aload_n 0, 1) := by decide +kernel
theorem dX10_far_40 : decode cX10_far 40 = .ok (.getfield 10, 3) := by decide +kernel
theorem dX10_far_43 : decode cX10_far 43 = .ok (.iload_n 1, 1) := by decide +kernel
theorem dX10_far_44 : decode cX10_far 44 = .ok (.aload_n 0, 1) := by decide +kernel
theorem dX10_far_45 : decode cX10_far 45 = .ok (.getfield 40, 3) := by decide +kernel
theorem dX10_far_48 : decode cX10_far 48 = .ok (.invokevirtual 144, 3) := by decide +kernel
theorem dX10_far_51 : decode cX10_far 51 = .ok (.aload 4, 2) := by decide +kernel
theorem dX10_far_53 : decode cX10_far 53 = .ok (.aload_n 0, 1) := by decide +kernel
theorem dX10_far_54 : decode cX10_far 54 = .ok (.getfield 40, 3) := by decide +kernel
theorem dX10_far_57 : decode cX10_far 57 = .ok (.aload_n 0, 1) := by decide +kernel
theorem dX10_far_58 : decode cX10_far 58 = .ok (.getfield 44, 3) := by decide +kernel
theorem dX10_far_61 : decode cX10_far 61 = .ok (.invokevirtual 155, 3) := by decide +kernel
theorem dX10_far_64 : decode cX10_far 64 = .ok (.aload 4, 2) := by decide +kernel
theorem dX10_far_66 : decode cX10_far 66 = .ok (.getfield 131, 3) := by decide +kernel
theorem dX10_far_69 : decode cX10_far 69 = .ok (.iload_n 2, 1) := by decide +kernel
theorem dX10_far_70 : decode cX10_far 70 = .ok (.laload, 1) := by decide +kernel
theorem dX10_far_71 : decode cX10_far 71 = .ok (.lneg, 1) := by decide +kernel
theorem dX10_far_72 : decode cX10_far 72 = .ok (.aload_n 0, 1) := by decide +kernel
theorem dX10_far_73 : decode cX10_far 73 = .ok (.getfield 44, 3) := by decide +kernel
theorem dX10_far_76 : decode cX10_far 76 = .ok (.iload_n 2, 1) := by decide +kernel
theorem dX10_far_77 : decode cX10_far 77 = .ok (.laload, 1) := by decide +kernel
theorem dX10_far_78 : decode cX10_far 78 = .ok (.iload_n 3, 1) := by decide +kernel
theorem dX10_far_79 : decode cX10_far 79 = .ok (.invokestatic 138, 3) := by decide +kernel
theorem dX10_far_82 : decode cX10_far 82 = .ok (.lreturn, 1) := by decide +kernel
theorem dX10_few_0 : decode cX10_few 0 = .ok (.iload_n 1, 1) := by decide +kernel
theorem dX10_few_1 : decode cX10_few 1 = .ok (.ifCond .lt 14, 3) := by decide +kernel
theorem dX10_few_4 : decode cX10_few 4 = .ok (.iload_n 1, 1) := by decide +kernel
theorem dX10_few_5 : decode cX10_few 5 = .ok (.aload_n 0, 1) := by decide +kernel
theorem dX10_few_6 : decode cX10_few 6 = .ok (.getfield 10, 3) := by decide +kernel
theorem dX10_few_9 : decode cX10_few 9 = .ok (.getfield 178, 3) := by decide +kernel
theorem dX10_few_12 : decode cX10_few 12 = .ok (.if_icmp .le 7, 3) := by decide +kernel
theorem dX10_few_15 : decode cX10_few 15 = .ok (.ldc2_w 129, 3) := by decide +kernel
theorem dX10_few_18 : decode cX10_few 18 = .ok (.lreturn, 1) := by decide +kernel
theorem dX10_few_19 : decode cX10_few 19 = .ok (.aload_n 0, 1) := by decide +kernel
theorem dX10_few_20 : decode cX10_few 20 = .ok (.invokevirtual 122, 3) := by decide +kernel
theorem dX10_few_23 : decode cX10_few 23 = .ok (.astore_n 3, 1) := by decide +kernel
theorem dX10_few_24 : decode cX10_few 24 = .ok (.aload_n 0, 1) := by decide +kernel
theorem dX10_few_25 : decode cX10_few 25 = .ok (.getfield 78, 3) := by decide +kernel
theorem dX10_few_28 : decode cX10_few 28 = .ok (.invokevirtual 181, 3) := by decide +kernel
theorem dX10_few_31 : decode cX10_few 31 = .ok (.iconst 0, 1) := by decide +kernel
theorem dX10_few_32 : decode cX10_few 32 = .ok (.istore 4, 2) := by decide +kernel
theorem dX10_few_34 : decode cX10_few 34 = .ok (.iload 4, 2) := by decide +kernel
theorem dX10_few_36 : decode cX10_few 36 = .ok (.iconst 1, 1) := by decide +kernel
theorem dX10_few_37 : decode cX10_few 37 = .ok (.aload_n 0, 1) := by decide +kernel
theorem dX10_few_38 : decode cX10_few 38 = .ok (.getfield 10, 3) := by decide +kernel
theorem dX10_few_41 : decode cX10_few 41 = .ok (.getfield 178, 3) := by decide +kernel
theorem dX10_few_44 : decode cX10_few 44 = .ok (.ishl, 1) := by decide +kernel
theorem dX10_few_45 : decode cX10_few 45 = .ok (.if_icmp .ge 59, 3) := by decide +kernel
theorem dX10_few_48 : decode cX10_few 48 = .ok (.iload 4, 2) := by decide +kernel
theorem dX10_few_50 : decode cX10_few 50 = .ok (.invokestatic 182, 3) := by decide +kernel
theorem dX10_few_53 : decode cX10_few 53 = .ok (.iload_n 1, 1) := by decide +kernel
theorem dX10_few_54 : decode cX10_few 54 = .ok (.if_icmp .ne 44, 3) := by decide +kernel
theorem dX10_few_57 : decode cX10_few 57 = .ok (.aload_n 0, 1) := by decide +kernel
theorem dX10_few_58 : decode cX10_few 58 = .ok (.getfield 37, 3) := by decide +kernel
theorem dX10_few_61 : decode cX10_few 61 = .ok (.aload_n 3, 1) := by decide +kernel
theorem dX10_few_62 : decode cX10_few 62 = .ok (.iload 4, 2) := by decide +kernel
theorem dX10_few_64 : decode cX10_few 64 = .ok (.invokevirtual 188, 3) := by decide +kernel
theorem dX10_few_67 : decode cX10_few 67 = .ok (.aload_n 0, 1) := by decide +kernel
theorem dX10_few_68 : decode cX10_few 68 = .ok (.getfield 37, 3) := by decide +kernel
theorem dX10_few_71 : decode cX10_few 71 = .ok (.invokevirtual 171, 3) := by decide +kernel
theorem dX10_few_74 : decode cX10_few 74 = .ok (.aload_n 0, 1) := by decide +kernel
theorem dX10_few_75 : decode cX10_few 75 = .ok (.getfield 78, 3) := by decide +kernel
theorem dX10_few_78 : decode cX10_few 78 = .ok (.aload_n 0, 1) := by decide +kernel
theorem dX10_few_79 : decode cX10_few 79 = .ok (.getfield 37, 3) := by decide +kernel
theorem dX10_few_82 : decode cX10_few 82 = .ok (.invokevirtual 152, 3) := by decide +kernel
theorem dX10_few_85 : decode cX10_few 85 = .ok (.aload_n 0, 1) := by decide +kernel
theorem dX10_few_86 : decode cX10_few 86 = .ok (.getfield 37, 3) := by decide +kernel
theorem dX10_few_89 : decode cX10_few 89 = .ok (.invokevirtual 134, 3) := by decide +kernel
theorem dX10_few_92 : decode cX10_few 92 = .ok (.iload 4, 2) := by decide +kernel
theorem dX10_few_94 : decode cX10_few 94 = .ok (.i2l, 1) := by decide +kernel
theorem dX10_few_95 : decode cX10_few 95 = .ok (.invokevirtual 192, 3) := by decide +kernel
theorem dX10_few_98 : decode cX10_few 98 = .ok (.iinc 4 1, 3) := by decide +kernel
theorem dX10_few_101 : decode cX10_few 101 = .ok (.goto (-67), 3) := by decide +kernel
theorem dX10_few_104 : decode cX10_few 104 = .ok (.aload_n 0, 1) := by decide +kernel
theorem dX10_few_105 : decode cX10_few 105 = .ok (.getfield 78, 3) := by decide +kernel
theorem dX10_few_108 : decode cX10_few 108 = .ok (.iload_n 2, 1) := by decide +kernel
theorem dX10_few_109 : decode cX10_few 109 = .ok (.invokevirtual 196, 3) := by decide +kernel
theorem dX10_few_112 : decode cX10_few 112 = .ok (.lreturn, 1) := by decide +kernel
theorem dX10_half_0 : decode cX10_half 0 = .ok (.aload_n 0, 1) := by decide +kernel
theorem dX10_half_1 : decode cX10_half 1 = .ok (.getfield 10, 3) := by decide +kernel
theorem dX10_half_4 : decode cX10_half 4 = .ok (.getfield 199, 3) := by decide +kernel
theorem dX10_half_7 : decode cX10_half 7 = .ok (.bipush 10, 2) := by decide +kernel
theorem dX10_half_9 : decode cX10_half 9 = .ok (.if_icmp .gt 18, 3) := by decide +kernel
theorem dX10_half_12 : decode cX10_half 12 = .ok (.iload_n 1, 1) := by decide +kernel
theorem dX10_half_13 : decode cX10_half 13 = .ok (.ifCond .lt 14, 3) := by decide +kernel
theorem dX10_half_16 : decode cX10_half 16 = .ok (.iload_n 1, 1) := by decide +kernel
theorem dX10_half_17 : decode cX10_half 17 = .ok (.aload_n 0, 1) := by decide +kernel
theorem dX10_half_18 : decode cX10_half 18 = .ok (.getfield 10, 3) := by decide +kernel
theorem dX10_half_21 : decode cX10_half 21 = .ok (.getfield 199, 3) := by decide +kernel
theorem dX10_half_24 : decode cX10_half 24 = .ok (.if_icmp .le 7, 3) := by decide +kernel
theorem dX10_half_27 : decode cX10_half 27 = .ok (.ldc2_w 129, 3) := by decide +kernel
theorem dX10_half_30 : decode cX10_half 30 = .ok (.lreturn, 1) := by decide +kernel
theorem dX10_half_31 : decode cX10_half 31 = .ok (.aload_n 0, 1) := by decide +kernel
theorem dX10_half_32 : decode cX10_half 32 = .ok (.getfield 85, 3) := by decide +kernel
theorem dX10_half_35 : decode cX10_half 35 = .ok (.iload_n 1, 1) := by decide +kernel
theorem dX10_half_36 : decode cX10_half 36 = .ok (.if_icmp .eq 13, 3) := by decide +kernel
theorem dX10_half_39 : decode cX10_half 39 = .ok (.aload_n 0, 1) := by decide +kernel
theorem dX10_half_40 : decode cX10_half 40 = .ok (.iload_n 1, 1) := by decide +kernel
theorem dX10_half_41 : decode cX10_half 41 = .ok (.invokevirtual 202, 3) := by decide +kernel
theorem dX10_half_44 : decode cX10_half 44 = .ok (.aload_n 0, 1) := by decide +kernel
theorem dX10_half_45 : decode cX10_half 45 = .ok (.iload_n 1, 1) := by decide +kernel
theorem dX10_half_46 : decode cX10_half 46 = .ok (.putfield 85, 3) := by decide +kernel
theorem dX10_half_49 : decode cX10_half 49 = .ok (.aload_n 0, 1) := by decide +kernel
theorem dX10_half_50 : decode cX10_half 50 = .ok (.getfield 82, 3) := by decide +kernel
theorem dX10_half_53 : decode cX10_half 53 = .ok (.iload_n 2, 1) := by decide +kernel
theorem dX10_half_54 : decode cX10_half 54 = .ok (.invokevirtual 196, 3) := by decide +kernel
theorem dX10_half_57 : decode cX10_half 57 = .ok (.lreturn, 1) := by decide +kernel
theorem dX10_sizes_0 : decode cX10_sizes 0 = .ok (.aload_n 0, 1) := by decide +kernel
theorem dX10_sizes_1 : decode cX10_sizes 1 = .ok (.invokevirtual 174, 3) := by decide +kernel
theorem dX10_sizes_4 : decode cX10_sizes 4 = .ok (.ifCond .ne 7, 3) := by decide +kernel
theorem dX10_sizes_7 : decode cX10_sizes 7 = .ok (.ldc2_w 129, 3) := by decide +kernel
theorem dX10_sizes_10 : decode cX10_sizes 10 = .ok (.lreturn, 1) := by decide +kernel
theorem dX10_sizes_11 : decode cX10_sizes 11 = .ok (.aload_n 0, 1) := by decide +kernel
theorem dX10_sizes_12 : decode cX10_sizes 12 = .ok (.invokevirtual 205, 3) := by decide +kernel
theorem dX10_sizes_15 : decode cX10_sizes 15 = .ok (.astore_n 2, 1) := by decide +kernel
theorem dX10_sizes_16 : decode cX10_sizes 16 = .ok (.aload_n 2, 1) := by decide +kernel
theorem dX10_sizes_17 : decode cX10_sizes 17 = .ok (.getfield 209, 3) := by decide +kernel
theorem dX10_sizes_20 : decode cX10_sizes 20 = .ok (.aload_n 2, 1) := by decide +kernel
theorem dX10_sizes_21 : decode cX10_sizes 21 = .ok (.getfield 213, 3) := by decide +kernel
theorem dX10_sizes_24 : decode cX10_sizes 24 = .ok (.iload_n 1, 1) := by decide +kernel
theorem dX10_sizes_25 : decode cX10_sizes 25 = .ok (.invokestatic 138, 3) := by decide +kernel
theorem dX10_sizes_28 : decode cX10_sizes 28 = .ok (.lreturn, 1) := by decide +kernel
theorem dX10_sized_0 : decode cX10_sized 0 = .ok (.aload_n 0, 1) := by decide +kernel
theorem dX10_sized_1 : decode cX10_sized 1 = .ok (.getfield 10, 3) := by decide +kernel
theorem dX10_sized_4 : decode cX10_sized 4 = .ok (.iload_n 1, 1) := by decide +kernel
theorem dX10_sized_5 : decode cX10_sized 5 = .ok (.invokevirtual 115, 3) := by decide +kernel
theorem dX10_sized_8 : decode cX10_sized 8 = .ok (.ifCond .eq 10, 3) := by decide +kernel
theorem dX10_sized_11 : decode cX10_sized 11 = .ok (.aload_n 0, 1) := by decide +kernel
theorem dX10_sized_12 : decode cX10_sized 12 = .ok (.invokevirtual 174, 3) := by decide +kernel
theorem dX10_sized_15 : decode cX10_sized 15 = .ok (.ifCond .ne 7, 3) := by decide +kernel
theorem dX10_sized_18 : decode cX10_sized 18 = .ok (.ldc2_w 129, 3) := by decide +kernel
theorem dX10_sized_21 : decode cX10_sized 21 = .ok (.lreturn, 1) := by decide +kernel
theorem dX10_sized_22 : decode cX10_sized 22 = .ok (.aload_n 0, 1) := by decide +kernel
theorem dX10_sized_23 : decode cX10_sized 23 = .ok (.invokevirtual 205, 3) := by decide +kernel
theorem dX10_sized_26 : decode cX10_sized 26 = .ok (.astore_n 3, 1) := by decide +kernel
theorem dX10_sized_27 : decode cX10_sized 27 = .ok (.aload_n 3, 1) := by decide +kernel
theorem dX10_sized_28 : decode cX10_sized 28 = .ok (.getfield 215, 3) := by decide +kernel
theorem dX10_sized_31 : decode cX10_sized 31 = .ok (.iload_n 1, 1) := by decide +kernel
theorem dX10_sized_32 : decode cX10_sized 32 = .ok (.laload, 1) := by decide +kernel
theorem dX10_sized_33 : decode cX10_sized 33 = .ok (.aload_n 3, 1) := by decide +kernel
theorem dX10_sized_34 : decode cX10_sized 34 = .ok (.getfield 213, 3) := by decide +kernel
theorem dX10_sized_37 : decode cX10_sized 37 = .ok (.iload_n 2, 1) := by decide +kernel
theorem dX10_sized_38 : decode cX10_sized 38 = .ok (.invokestatic 138, 3) := by decide +kernel
theorem dX10_sized_41 : decode cX10_sized 41 = .ok (.lreturn, 1) := by decide +kernel
theorem dX10_level_0 : decode cX10_level 0 = .ok (.aload_n 0, 1) := by decide +kernel
theorem dX10_level_1 : decode cX10_level 1 = .ok (.invokevirtual 174, 3) := by decide +kernel
theorem dX10_level_4 : decode cX10_level 4 = .ok (.ifCond .ne 7, 3) := by decide +kernel
theorem dX10_level_7 : decode cX10_level 7 = .ok (.ldc2_w 129, 3) := by decide +kernel
theorem dX10_level_10 : decode cX10_level 10 = .ok (.lreturn, 1) := by decide +kernel
theorem dX10_level_11 : decode cX10_level 11 = .ok (.aload_n 0, 1) := by decide +kernel
theorem dX10_level_12 : decode cX10_level 12 = .ok (.getfield 216, 3) := by decide +kernel
theorem dX10_level_15 : decode cX10_level 15 = .ok (.ifCond .ne 26, 3) := by decide +kernel
theorem dX10_level_18 : decode cX10_level 18 = .ok (.aload_n 0, 1) := by decide +kernel
theorem dX10_level_19 : decode cX10_level 19 = .ok (.getfield 57, 3) := by decide +kernel
theorem dX10_level_22 : decode cX10_level 22 = .ok (.aload_n 0, 1) := by decide +kernel
theorem dX10_level_23 : decode cX10_level 23 = .ok (.invokevirtual 220, 3) := by decide +kernel
theorem dX10_level_26 : decode cX10_level 26 = .ok (.aload_n 0, 1) := by decide +kernel
theorem dX10_level_27 : decode cX10_level 27 = .ok (.getfield 10, 3) := by decide +kernel
theorem dX10_level_30 : decode cX10_level 30 = .ok (.getfield 178, 3) := by decide +kernel
theorem dX10_level_33 : decode cX10_level 33 = .ok (.invokevirtual 224, 3) := by decide +kernel
theorem dX10_level_36 : decode cX10_level 36 = .ok (.aload_n 0, 1) := by decide +kernel
theorem dX10_level_37 : decode cX10_level 37 = .ok (.iconst 1, 1) := by decide +kernel
theorem dX10_level_38 : decode cX10_level 38 = .ok (.putfield 216, 3) := by decide +kernel
theorem dX10_level_41 : decode cX10_level 41 = .ok (.aload_n 0, 1) := by decide +kernel
theorem dX10_level_42 : decode cX10_level 42 = .ok (.getfield 57, 3) := by decide +kernel
theorem dX10_level_45 : decode cX10_level 45 = .ok (.getfield 228, 3) := by decide +kernel
theorem dX10_level_48 : decode cX10_level 48 = .ok (.aload_n 0, 1) := by decide +kernel
theorem dX10_level_49 : decode cX10_level 49 = .ok (.getfield 57, 3) := by decide +kernel
theorem dX10_level_52 : decode cX10_level 52 = .ok (.getfield 229, 3) := by decide +kernel
theorem dX10_level_55 : decode cX10_level 55 = .ok (.iload_n 1, 1) := by decide +kernel
theorem dX10_level_56 : decode cX10_level 56 = .ok (.invokestatic 138, 3) := by decide +kernel
theorem dX10_level_59 : decode cX10_level 59 = .ok (.lreturn, 1) := by decide +kernel
theorem dX10_barred_0 : decode cX10_barred 0 = .ok (.iload_n 1, 1) := by decide +kernel
theorem dX10_barred_1 : decode cX10_barred 1 = .ok (.invokestatic 230, 3) := by decide +kernel
theorem dX10_barred_4 : decode cX10_barred 4 = .ok (.ifCond .eq 21, 3) := by decide +kernel
theorem dX10_barred_7 : decode cX10_barred 7 = .ok (.aload_n 0, 1) := by decide +kernel
theorem dX10_barred_8 : decode cX10_barred 8 = .ok (.getfield 10, 3) := by decide +kernel
theorem dX10_barred_11 : decode cX10_barred 11 = .ok (.iload_n 2, 1) := by decide +kernel
theorem dX10_barred_12 : decode cX10_barred 12 = .ok (.invokevirtual 115, 3) := by decide +kernel
theorem dX10_barred_15 : decode cX10_barred 15 = .ok (.ifCond .eq 10, 3) := by decide +kernel
theorem dX10_barred_18 : decode cX10_barred 18 = .ok (.aload_n 0, 1) := by decide +kernel
theorem dX10_barred_19 : decode cX10_barred 19 = .ok (.invokevirtual 174, 3) := by decide +kernel
theorem dX10_barred_22 : decode cX10_barred 22 = .ok (.ifCond .ne 7, 3) := by decide +kernel
theorem dX10_barred_25 : decode cX10_barred 25 = .ok (.ldc2_w 129, 3) := by decide +kernel
theorem dX10_barred_28 : decode cX10_barred 28 = .ok (.lreturn, 1) := by decide +kernel
theorem dX10_barred_29 : decode cX10_barred 29 = .ok (.aload_n 0, 1) := by decide +kernel
theorem dX10_barred_30 : decode cX10_barred 30 = .ok (.getfield 64, 3) := by decide +kernel
theorem dX10_barred_33 : decode cX10_barred 33 = .ok (.aload_n 0, 1) := by decide +kernel
theorem dX10_barred_34 : decode cX10_barred 34 = .ok (.invokevirtual 122, 3) := by decide +kernel
theorem dX10_barred_37 : decode cX10_barred 37 = .ok (.aload_n 0, 1) := by decide +kernel
theorem dX10_barred_38 : decode cX10_barred 38 = .ok (.getfield 10, 3) := by decide +kernel
theorem dX10_barred_41 : decode cX10_barred 41 = .ok (.getfield 178, 3) := by decide +kernel
theorem dX10_barred_44 : decode cX10_barred 44 = .ok (.iload_n 1, 1) := by decide +kernel
theorem dX10_barred_45 : decode cX10_barred 45 = .ok (.invokevirtual 233, 3) := by decide +kernel
theorem dX10_barred_48 : decode cX10_barred 48 = .ok (.ifCond .ne 7, 3) := by decide +kernel
theorem dX10_barred_51 : decode cX10_barred 51 = .ok (.ldc2_w 129, 3) := by decide +kernel
theorem dX10_barred_54 : decode cX10_barred 54 = .ok (.lreturn, 1) := by decide +kernel
theorem dX10_barred_55 : decode cX10_barred 55 = .ok (.aload_n 0, 1) := by decide +kernel
theorem dX10_barred_56 : decode cX10_barred 56 = .ok (.getfield 64, 3) := by decide +kernel
theorem dX10_barred_59 : decode cX10_barred 59 = .ok (.iload_n 2, 1) := by decide +kernel
theorem dX10_barred_60 : decode cX10_barred 60 = .ok (.iload_n 1, 1) := by decide +kernel
theorem dX10_barred_61 : decode cX10_barred 61 = .ok (.invokevirtual 236, 3) := by decide +kernel
theorem dX10_barred_64 : decode cX10_barred 64 = .ok (.aload_n 0, 1) := by decide +kernel
theorem dX10_barred_65 : decode cX10_barred 65 = .ok (.getfield 64, 3) := by decide +kernel
theorem dX10_barred_68 : decode cX10_barred 68 = .ok (.invokevirtual 240, 3) := by decide +kernel
theorem dX10_barred_71 : decode cX10_barred 71 = .ok (.iload_n 3, 1) := by decide +kernel
theorem dX10_barred_72 : decode cX10_barred 72 = .ok (.invokestatic 138, 3) := by decide +kernel
theorem dX10_barred_75 : decode cX10_barred 75 = .ok (.lreturn, 1) := by decide +kernel
theorem dX10_cost_0 : decode cX10_cost 0 = .ok (.iload_n 1, 1) := by decide +kernel
theorem dX10_cost_1 : decode cX10_cost 1 = .ok (.invokestatic 230, 3) := by decide +kernel
theorem dX10_cost_4 : decode cX10_cost 4 = .ok (.ifCond .eq 10, 3) := by decide +kernel
theorem dX10_cost_7 : decode cX10_cost 7 = .ok (.aload_n 0, 1) := by decide +kernel
theorem dX10_cost_8 : decode cX10_cost 8 = .ok (.invokevirtual 174, 3) := by decide +kernel
theorem dX10_cost_11 : decode cX10_cost 11 = .ok (.ifCond .ne 7, 3) := by decide +kernel
theorem dX10_cost_14 : decode cX10_cost 14 = .ok (.ldc2_w 129, 3) := by decide +kernel
theorem dX10_cost_17 : decode cX10_cost 17 = .ok (.lreturn, 1) := by decide +kernel
theorem dX10_cost_18 : decode cX10_cost 18 = .ok (.aload_n 0, 1) := by decide +kernel
theorem dX10_cost_19 : decode cX10_cost 19 = .ok (.getfield 64, 3) := by decide +kernel
theorem dX10_cost_22 : decode cX10_cost 22 = .ok (.aload_n 0, 1) := by decide +kernel
theorem dX10_cost_23 : decode cX10_cost 23 = .ok (.invokevirtual 122, 3) := by decide +kernel
theorem dX10_cost_26 : decode cX10_cost 26 = .ok (.aload_n 0, 1) := by decide +kernel
theorem dX10_cost_27 : decode cX10_cost 27 = .ok (.getfield 10, 3) := by decide +kernel
theorem dX10_cost_30 : decode cX10_cost 30 = .ok (.getfield 178, 3) := by decide +kernel
theorem dX10_cost_33 : decode cX10_cost 33 = .ok (.iload_n 1, 1) := by decide +kernel
theorem dX10_cost_34 : decode cX10_cost 34 = .ok (.invokevirtual 233, 3) := by decide +kernel
theorem dX10_cost_37 : decode cX10_cost 37 = .ok (.ifCond .ne 7, 3) := by decide +kernel
theorem dX10_cost_40 : decode cX10_cost 40 = .ok (.ldc2_w 129, 3) := by decide +kernel
theorem dX10_cost_43 : decode cX10_cost 43 = .ok (.lreturn, 1) := by decide +kernel
theorem dX10_cost_44 : decode cX10_cost 44 = .ok (.aload_n 0, 1) := by decide +kernel
theorem dX10_cost_45 : decode cX10_cost 45 = .ok (.getfield 64, 3) := by decide +kernel
theorem dX10_cost_48 : decode cX10_cost 48 = .ok (.iload_n 1, 1) := by decide +kernel
theorem dX10_cost_49 : decode cX10_cost 49 = .ok (.invokevirtual 243, 3) := by decide +kernel
theorem dX10_cost_52 : decode cX10_cost 52 = .ok (.aload_n 0, 1) := by decide +kernel
theorem dX10_cost_53 : decode cX10_cost 53 = .ok (.getfield 64, 3) := by decide +kernel
theorem dX10_cost_56 : decode cX10_cost 56 = .ok (.invokevirtual 246, 3) := by decide +kernel
theorem dX10_cost_59 : decode cX10_cost 59 = .ok (.iload_n 2, 1) := by decide +kernel
theorem dX10_cost_60 : decode cX10_cost 60 = .ok (.invokestatic 138, 3) := by decide +kernel
theorem dX10_cost_63 : decode cX10_cost 63 = .ok (.lreturn, 1) := by decide +kernel
theorem dX10_corners_0 : decode cX10_corners 0 = .ok (.aload_n 0, 1) := by decide +kernel
theorem dX10_corners_1 : decode cX10_corners 1 = .ok (.invokevirtual 174, 3) := by decide +kernel
theorem dX10_corners_4 : decode cX10_corners 4 = .ok (.ifCond .eq 13, 3) := by decide +kernel
theorem dX10_corners_7 : decode cX10_corners 7 = .ok (.aload_n 0, 1) := by decide +kernel
theorem dX10_corners_8 : decode cX10_corners 8 = .ok (.invokevirtual 249, 3) := by decide +kernel
theorem dX10_corners_11 : decode cX10_corners 11 = .ok (.getfield 253, 3) := by decide +kernel
theorem dX10_corners_14 : decode cX10_corners 14 = .ok (.goto 4, 3) := by decide +kernel
theorem dX10_corners_17 : decode cX10_corners 17 = .ok (.iconst (-1), 1) := by decide +kernel
theorem dX10_corners_18 : decode cX10_corners 18 = .ok (.ireturn, 1) := by decide +kernel
theorem dX10_corner_0 : decode cX10_corner 0 = .ok (.aload_n 0, 1) := by decide +kernel
theorem dX10_corner_1 : decode cX10_corner 1 = .ok (.invokevirtual 174, 3) := by decide +kernel
theorem dX10_corner_4 : decode cX10_corner 4 = .ok (.ifCond .ne 7, 3) := by decide +kernel
theorem dX10_corner_7 : decode cX10_corner 7 = .ok (.ldc2_w 129, 3) := by decide +kernel
theorem dX10_corner_10 : decode cX10_corner 10 = .ok (.lreturn, 1) := by decide +kernel
theorem dX10_corner_11 : decode cX10_corner 11 = .ok (.aload_n 0, 1) := by decide +kernel
theorem dX10_corner_12 : decode cX10_corner 12 = .ok (.invokevirtual 249, 3) := by decide +kernel
theorem dX10_corner_15 : decode cX10_corner 15 = .ok (.astore_n 3, 1) := by decide +kernel
theorem dX10_corner_16 : decode cX10_corner 16 = .ok (.iload_n 1, 1) := by decide +kernel
theorem dX10_corner_17 : decode cX10_corner 17 = .ok (.ifCond .lt 11, 3) := by decide +kernel
theorem dX10_corner_20 : decode cX10_corner 20 = .ok (.iload_n 1, 1) := by decide +kernel
theorem dX10_corner_21 : decode cX10_corner 21 = .ok (.aload_n 3, 1) := by decide +kernel
theorem dX10_corner_22 : decode cX10_corner 22 = .ok (.getfield 253, 3) := by decide +kernel
theorem dX10_corner_25 : decode cX10_corner 25 = .ok (.if_icmp .lt 7, 3) := by decide +kernel
theorem dX10_corner_28 : decode cX10_corner 28 = .ok (.ldc2_w 129, 3) := by decide +kernel
theorem dX10_corner_31 : decode cX10_corner 31 = .ok (.lreturn, 1) := by decide +kernel
theorem dX10_corner_32 : decode cX10_corner 32 = .ok (.aload_n 3, 1) := by decide +kernel
theorem dX10_corner_33 : decode cX10_corner 33 = .ok (.getfield 256, 3) := by decide +kernel
theorem dX10_corner_36 : decode cX10_corner 36 = .ok (.iload_n 1, 1) := by decide +kernel
theorem dX10_corner_37 : decode cX10_corner 37 = .ok (.laload, 1) := by decide +kernel
theorem dX10_corner_38 : decode cX10_corner 38 = .ok (.aload_n 3, 1) := by decide +kernel
theorem dX10_corner_39 : decode cX10_corner 39 = .ok (.getfield 257, 3) := by decide +kernel
theorem dX10_corner_42 : decode cX10_corner 42 = .ok (.iload_n 1, 1) := by decide +kernel
theorem dX10_corner_43 : decode cX10_corner 43 = .ok (.laload, 1) := by decide +kernel
theorem dX10_corner_44 : decode cX10_corner 44 = .ok (.iload_n 2, 1) := by decide +kernel
theorem dX10_corner_45 : decode cX10_corner 45 = .ok (.invokestatic 138, 3) := by decide +kernel
theorem dX10_corner_48 : decode cX10_corner 48 = .ok (.lreturn, 1) := by decide +kernel
theorem dX10_count_0 : decode cX10_count 0 = .ok (.iload_n 1, 1) := by decide +kernel
theorem dX10_count_1 : decode cX10_count 1 = .ok (.tableswitch 51 0 2 #[27, 35, 43], 27) := by decide +kernel
theorem dX10_count_28 : decode cX10_count 28 = .ok (.aload_n 0, 1) := by decide +kernel
theorem dX10_count_29 : decode cX10_count 29 = .ok (.getfield 10, 3) := by decide +kernel
theorem dX10_count_32 : decode cX10_count 32 = .ok (.getfield 178, 3) := by decide +kernel
theorem dX10_count_35 : decode cX10_count 35 = .ok (.ireturn, 1) := by decide +kernel
theorem dX10_count_36 : decode cX10_count 36 = .ok (.aload_n 0, 1) := by decide +kernel
theorem dX10_count_37 : decode cX10_count 37 = .ok (.getfield 10, 3) := by decide +kernel
theorem dX10_count_40 : decode cX10_count 40 = .ok (.getfield 161, 3) := by decide +kernel
theorem dX10_count_43 : decode cX10_count 43 = .ok (.ireturn, 1) := by decide +kernel
theorem dX10_count_44 : decode cX10_count 44 = .ok (.aload_n 0, 1) := by decide +kernel
theorem dX10_count_45 : decode cX10_count 45 = .ok (.getfield 10, 3) := by decide +kernel
theorem dX10_count_48 : decode cX10_count 48 = .ok (.getfield 199, 3) := by decide +kernel
theorem dX10_count_51 : decode cX10_count 51 = .ok (.ireturn, 1) := by decide +kernel
theorem dX10_count_52 : decode cX10_count 52 = .ok (.iconst (-1), 1) := by decide +kernel
theorem dX10_count_53 : decode cX10_count 53 = .ok (.ireturn, 1) := by decide +kernel
theorem dX10_isBar_0 : decode cX10_isBar 0 = .ok (.iload_n 0, 1) := by decide +kernel
theorem dX10_isBar_1 : decode cX10_isBar 1 = .ok (.ifCond .lt 14, 3) := by decide +kernel
theorem dX10_isBar_4 : decode cX10_isBar 4 = .ok (.iload_n 0, 1) := by decide +kernel
theorem dX10_isBar_5 : decode cX10_isBar 5 = .ok (.ldc_w 260, 3) := by decide +kernel
theorem dX10_isBar_8 : decode cX10_isBar 8 = .ok (.if_icmp .gt 7, 3) := by decide +kernel
theorem dX10_isBar_11 : decode cX10_isBar 11 = .ok (.iconst 1, 1) := by decide +kernel
theorem dX10_isBar_12 : decode cX10_isBar 12 = .ok (.goto 4, 3) := by decide +kernel
theorem dX10_isBar_15 : decode cX10_isBar 15 = .ok (.iconst 0, 1) := by decide +kernel
theorem dX10_isBar_16 : decode cX10_isBar 16 = .ok (.ireturn, 1) := by decide +kernel
theorem dX10_isWhole_0 : decode cX10_isWhole 0 = .ok (.aload_n 0, 1) := by decide +kernel
theorem dX10_isWhole_1 : decode cX10_isWhole 1 = .ok (.invokevirtual 122, 3) := by decide +kernel
theorem dX10_isWhole_4 : decode cX10_isWhole 4 = .ok (.getfield 126, 3) := by decide +kernel
theorem dX10_isWhole_7 : decode cX10_isWhole 7 = .ok (.aload_n 0, 1) := by decide +kernel
theorem dX10_isWhole_8 : decode cX10_isWhole 8 = .ok (.getfield 10, 3) := by decide +kernel
theorem dX10_isWhole_11 : decode cX10_isWhole 11 = .ok (.getfield 178, 3) := by decide +kernel
theorem dX10_isWhole_14 : decode cX10_isWhole 14 = .ok (.if_icmp .ne 7, 3) := by decide +kernel
theorem dX10_isWhole_17 : decode cX10_isWhole 17 = .ok (.iconst 1, 1) := by decide +kernel
theorem dX10_isWhole_18 : decode cX10_isWhole 18 = .ok (.goto 4, 3) := by decide +kernel
theorem dX10_isWhole_21 : decode cX10_isWhole 21 = .ok (.iconst 0, 1) := by decide +kernel
theorem dX10_isWhole_22 : decode cX10_isWhole 22 = .ok (.ireturn, 1) := by decide +kernel
theorem dX10_forget_0 : decode cX10_forget 0 = .ok (.aload_n 0, 1) := by decide +kernel
theorem dX10_forget_1 : decode cX10_forget 1 = .ok (.iconst 0, 1) := by decide +kernel
theorem dX10_forget_2 : decode cX10_forget 2 = .ok (.putfield 261, 3) := by decide +kernel
theorem dX10_forget_5 : decode cX10_forget 5 = .ok (.aload_n 0, 1) := by decide +kernel
theorem dX10_forget_6 : decode cX10_forget 6 = .ok (.iconst 0, 1) := by decide +kernel
theorem dX10_forget_7 : decode cX10_forget 7 = .ok (.putfield 264, 3) := by decide +kernel
theorem dX10_forget_10 : decode cX10_forget 10 = .ok (.aload_n 0, 1) := by decide +kernel
theorem dX10_forget_11 : decode cX10_forget 11 = .ok (.iconst 0, 1) := by decide +kernel
theorem dX10_forget_12 : decode cX10_forget 12 = .ok (.putfield 267, 3) := by decide +kernel
theorem dX10_forget_15 : decode cX10_forget 15 = .ok (.aload_n 0, 1) := by decide +kernel
theorem dX10_forget_16 : decode cX10_forget 16 = .ok (.iconst 0, 1) := by decide +kernel
theorem dX10_forget_17 : decode cX10_forget 17 = .ok (.putfield 216, 3) := by decide +kernel
theorem dX10_forget_20 : decode cX10_forget 20 = .ok (.aload_n 0, 1) := by decide +kernel
theorem dX10_forget_21 : decode cX10_forget 21 = .ok (.iconst 0, 1) := by decide +kernel
theorem dX10_forget_22 : decode cX10_forget 22 = .ok (.putfield 270, 3) := by decide +kernel
theorem dX10_forget_25 : decode cX10_forget 25 = .ok (.aload_n 0, 1) := by decide +kernel
theorem dX10_forget_26 : decode cX10_forget 26 = .ok (.iconst (-1), 1) := by decide +kernel
theorem dX10_forget_27 : decode cX10_forget 27 = .ok (.putfield 85, 3) := by decide +kernel
theorem dX10_forget_30 : decode cX10_forget 30 = .ok (.return_, 1) := by decide +kernel
theorem dX10_squaresNow_0 : decode cX10_squaresNow 0 = .ok (.aload_n 0, 1) := by decide +kernel
theorem dX10_squaresNow_1 : decode cX10_squaresNow 1 = .ok (.getfield 261, 3) := by decide +kernel
theorem dX10_squaresNow_4 : decode cX10_squaresNow 4 = .ok (.ifCond .ne 65, 3) := by decide +kernel
theorem dX10_squaresNow_7 : decode cX10_squaresNow 7 = .ok (.aload_n 0, 1) := by decide +kernel
theorem dX10_squaresNow_8 : decode cX10_squaresNow 8 = .ok (.getfield 33, 3) := by decide +kernel
theorem dX10_squaresNow_11 : decode cX10_squaresNow 11 = .ok (.invokevirtual 159, 3) := by decide +kernel
theorem dX10_squaresNow_14 : decode cX10_squaresNow 14 = .ok (.iconst 0, 1) := by decide +kernel
theorem dX10_squaresNow_15 : decode cX10_squaresNow 15 = .ok (.istore_n 1, 1) := by decide +kernel
theorem dX10_squaresNow_16 : decode cX10_squaresNow 16 = .ok (.iload_n 1, 1) := by decide +kernel
theorem dX10_squaresNow_17 : decode cX10_squaresNow 17 = .ok (.aload_n 0, 1) := by decide +kernel
theorem dX10_squaresNow_18 : decode cX10_squaresNow 18 = .ok (.getfield 10, 3) := by decide +kernel
theorem dX10_squaresNow_21 : decode cX10_squaresNow 21 = .ok (.getfield 161, 3) := by decide +kernel
theorem dX10_squaresNow_24 : decode cX10_squaresNow 24 = .ok (.if_icmp .ge 33, 3) := by decide +kernel
theorem dX10_squaresNow_27 : decode cX10_squaresNow 27 = .ok (.aload_n 0, 1) := by decide +kernel
theorem dX10_squaresNow_28 : decode cX10_squaresNow 28 = .ok (.getfield 10, 3) := by decide +kernel
theorem dX10_squaresNow_31 : decode cX10_squaresNow 31 = .ok (.getfield 164, 3) := by decide +kernel
theorem dX10_squaresNow_34 : decode cX10_squaresNow 34 = .ok (.iload_n 1, 1) := by decide +kernel
theorem dX10_squaresNow_35 : decode cX10_squaresNow 35 = .ok (.baload, 1) := by decide +kernel
theorem dX10_squaresNow_36 : decode cX10_squaresNow 36 = .ok (.ifCond .eq 15, 3) := by decide +kernel
theorem dX10_squaresNow_39 : decode cX10_squaresNow 39 = .ok (.aload_n 0, 1) := by decide +kernel
theorem dX10_squaresNow_40 : decode cX10_squaresNow 40 = .ok (.getfield 33, 3) := by decide +kernel
theorem dX10_squaresNow_43 : decode cX10_squaresNow 43 = .ok (.aload_n 0, 1) := by decide +kernel
theorem dX10_squaresNow_44 : decode cX10_squaresNow 44 = .ok (.getfield 10, 3) := by decide +kernel
theorem dX10_squaresNow_47 : decode cX10_squaresNow 47 = .ok (.iload_n 1, 1) := by decide +kernel
theorem dX10_squaresNow_48 : decode cX10_squaresNow 48 = .ok (.invokevirtual 168, 3) := by decide +kernel
theorem dX10_squaresNow_51 : decode cX10_squaresNow 51 = .ok (.iinc 1 1, 3) := by decide +kernel
theorem dX10_squaresNow_54 : decode cX10_squaresNow 54 = .ok (.goto (-38), 3) := by decide +kernel
theorem dX10_squaresNow_57 : decode cX10_squaresNow 57 = .ok (.aload_n 0, 1) := by decide +kernel
theorem dX10_squaresNow_58 : decode cX10_squaresNow 58 = .ok (.getfield 33, 3) := by decide +kernel
theorem dX10_squaresNow_61 : decode cX10_squaresNow 61 = .ok (.invokevirtual 171, 3) := by decide +kernel
theorem dX10_squaresNow_64 : decode cX10_squaresNow 64 = .ok (.aload_n 0, 1) := by decide +kernel
theorem dX10_squaresNow_65 : decode cX10_squaresNow 65 = .ok (.iconst 1, 1) := by decide +kernel
theorem dX10_squaresNow_66 : decode cX10_squaresNow 66 = .ok (.putfield 261, 3) := by decide +kernel
theorem dX10_squaresNow_69 : decode cX10_squaresNow 69 = .ok (.aload_n 0, 1) := by decide +kernel
theorem dX10_squaresNow_70 : decode cX10_squaresNow 70 = .ok (.getfield 33, 3) := by decide +kernel
theorem dX10_squaresNow_73 : decode cX10_squaresNow 73 = .ok (.areturn, 1) := by decide +kernel
theorem dX10_poolNow_0 : decode cX10_poolNow 0 = .ok (.aload_n 0, 1) := by decide +kernel
theorem dX10_poolNow_1 : decode cX10_poolNow 1 = .ok (.getfield 264, 3) := by decide +kernel
theorem dX10_poolNow_4 : decode cX10_poolNow 4 = .ok (.ifCond .ne 19, 3) := by decide +kernel
theorem dX10_poolNow_7 : decode cX10_poolNow 7 = .ok (.aload_n 0, 1) := by decide +kernel
theorem dX10_poolNow_8 : decode cX10_poolNow 8 = .ok (.getfield 19, 3) := by decide +kernel
theorem dX10_poolNow_11 : decode cX10_poolNow 11 = .ok (.aload_n 0, 1) := by decide +kernel
theorem dX10_poolNow_12 : decode cX10_poolNow 12 = .ok (.getfield 10, 3) := by decide +kernel
theorem dX10_poolNow_15 : decode cX10_poolNow 15 = .ok (.invokevirtual 273, 3) := by decide +kernel
theorem dX10_poolNow_18 : decode cX10_poolNow 18 = .ok (.aload_n 0, 1) := by decide +kernel
theorem dX10_poolNow_19 : decode cX10_poolNow 19 = .ok (.iconst 1, 1) := by decide +kernel
theorem dX10_poolNow_20 : decode cX10_poolNow 20 = .ok (.putfield 264, 3) := by decide +kernel
theorem dX10_poolNow_23 : decode cX10_poolNow 23 = .ok (.aload_n 0, 1) := by decide +kernel
theorem dX10_poolNow_24 : decode cX10_poolNow 24 = .ok (.getfield 19, 3) := by decide +kernel
theorem dX10_poolNow_27 : decode cX10_poolNow 27 = .ok (.areturn, 1) := by decide +kernel
theorem dX10_sizesNow_0 : decode cX10_sizesNow 0 = .ok (.aload_n 0, 1) := by decide +kernel
theorem dX10_sizesNow_1 : decode cX10_sizesNow 1 = .ok (.getfield 267, 3) := by decide +kernel
theorem dX10_sizesNow_4 : decode cX10_sizesNow 4 = .ok (.ifCond .ne 30, 3) := by decide +kernel
theorem dX10_sizesNow_7 : decode cX10_sizesNow 7 = .ok (.aload_n 0, 1) := by decide +kernel
theorem dX10_sizesNow_8 : decode cX10_sizesNow 8 = .ok (.getfield 50, 3) := by decide +kernel
theorem dX10_sizesNow_11 : decode cX10_sizesNow 11 = .ok (.aload_n 0, 1) := by decide +kernel
theorem dX10_sizesNow_12 : decode cX10_sizesNow 12 = .ok (.invokevirtual 220, 3) := by decide +kernel
theorem dX10_sizesNow_15 : decode cX10_sizesNow 15 = .ok (.aload_n 0, 1) := by decide +kernel
theorem dX10_sizesNow_16 : decode cX10_sizesNow 16 = .ok (.getfield 26, 3) := by decide +kernel
theorem dX10_sizesNow_19 : decode cX10_sizesNow 19 = .ok (.aload_n 0, 1) := by decide +kernel
theorem dX10_sizesNow_20 : decode cX10_sizesNow 20 = .ok (.getfield 10, 3) := by decide +kernel
theorem dX10_sizesNow_23 : decode cX10_sizesNow 23 = .ok (.getfield 178, 3) := by decide +kernel
theorem dX10_sizesNow_26 : decode cX10_sizesNow 26 = .ok (.invokevirtual 277, 3) := by decide +kernel
theorem dX10_sizesNow_29 : decode cX10_sizesNow 29 = .ok (.aload_n 0, 1) := by decide +kernel
theorem dX10_sizesNow_30 : decode cX10_sizesNow 30 = .ok (.iconst 1, 1) := by decide +kernel
theorem dX10_sizesNow_31 : decode cX10_sizesNow 31 = .ok (.putfield 267, 3) := by decide +kernel
theorem dX10_sizesNow_34 : decode cX10_sizesNow 34 = .ok (.aload_n 0, 1) := by decide +kernel
theorem dX10_sizesNow_35 : decode cX10_sizesNow 35 = .ok (.getfield 50, 3) := by decide +kernel
theorem dX10_sizesNow_38 : decode cX10_sizesNow 38 = .ok (.areturn, 1) := by decide +kernel
theorem dX10_turnsNow_0 : decode cX10_turnsNow 0 = .ok (.aload_n 0, 1) := by decide +kernel
theorem dX10_turnsNow_1 : decode cX10_turnsNow 1 = .ok (.getfield 270, 3) := by decide +kernel
theorem dX10_turnsNow_4 : decode cX10_turnsNow 4 = .ok (.ifCond .ne 38, 3) := by decide +kernel
theorem dX10_turnsNow_7 : decode cX10_turnsNow 7 = .ok (.aload_n 0, 1) := by decide +kernel
theorem dX10_turnsNow_8 : decode cX10_turnsNow 8 = .ok (.getfield 71, 3) := by decide +kernel
theorem dX10_turnsNow_11 : decode cX10_turnsNow 11 = .ok (.iconst 0, 1) := by decide +kernel
theorem dX10_turnsNow_12 : decode cX10_turnsNow 12 = .ok (.putfield 253, 3) := by decide +kernel
theorem dX10_turnsNow_15 : decode cX10_turnsNow 15 = .ok (.aload_n 0, 1) := by decide +kernel
theorem dX10_turnsNow_16 : decode cX10_turnsNow 16 = .ok (.getfield 64, 3) := by decide +kernel
theorem dX10_turnsNow_19 : decode cX10_turnsNow 19 = .ok (.aload_n 0, 1) := by decide +kernel
theorem dX10_turnsNow_20 : decode cX10_turnsNow 20 = .ok (.invokevirtual 122, 3) := by decide +kernel
theorem dX10_turnsNow_23 : decode cX10_turnsNow 23 = .ok (.aload_n 0, 1) := by decide +kernel
theorem dX10_turnsNow_24 : decode cX10_turnsNow 24 = .ok (.getfield 10, 3) := by decide +kernel
theorem dX10_turnsNow_27 : decode cX10_turnsNow 27 = .ok (.getfield 178, 3) := by decide +kernel
theorem dX10_turnsNow_30 : decode cX10_turnsNow 30 = .ok (.aload_n 0, 1) := by decide +kernel
theorem dX10_turnsNow_31 : decode cX10_turnsNow 31 = .ok (.getfield 71, 3) := by decide +kernel
theorem dX10_turnsNow_34 : decode cX10_turnsNow 34 = .ok (.invokevirtual 280, 3) := by decide +kernel
theorem dX10_turnsNow_37 : decode cX10_turnsNow 37 = .ok (.aload_n 0, 1) := by decide +kernel
theorem dX10_turnsNow_38 : decode cX10_turnsNow 38 = .ok (.iconst 1, 1) := by decide +kernel
theorem dX10_turnsNow_39 : decode cX10_turnsNow 39 = .ok (.putfield 270, 3) := by decide +kernel
theorem dX10_turnsNow_42 : decode cX10_turnsNow 42 = .ok (.aload_n 0, 1) := by decide +kernel
theorem dX10_turnsNow_43 : decode cX10_turnsNow 43 = .ok (.getfield 71, 3) := by decide +kernel
theorem dX10_turnsNow_46 : decode cX10_turnsNow 46 = .ok (.areturn, 1) := by decide +kernel
theorem dX10_findHalf_0 : decode cX10_findHalf 0 = .ok (.aload_n 0, 1) := by decide +kernel
theorem dX10_findHalf_1 : decode cX10_findHalf 1 = .ok (.invokevirtual 220, 3) := by decide +kernel
theorem dX10_findHalf_4 : decode cX10_findHalf 4 = .ok (.astore_n 2, 1) := by decide +kernel
theorem dX10_findHalf_5 : decode cX10_findHalf 5 = .ok (.aload_n 0, 1) := by decide +kernel
theorem dX10_findHalf_6 : decode cX10_findHalf 6 = .ok (.getfield 82, 3) := by decide +kernel
theorem dX10_findHalf_9 : decode cX10_findHalf 9 = .ok (.invokevirtual 181, 3) := by decide +kernel
theorem dX10_findHalf_12 : decode cX10_findHalf 12 = .ok (.aload_n 0, 1) := by decide +kernel
theorem dX10_findHalf_13 : decode cX10_findHalf 13 = .ok (.getfield 26, 3) := by decide +kernel
theorem dX10_findHalf_16 : decode cX10_findHalf 16 = .ok (.iload_n 1, 1) := by decide +kernel
theorem dX10_findHalf_17 : decode cX10_findHalf 17 = .ok (.aload_n 2, 1) := by decide +kernel
theorem dX10_findHalf_18 : decode cX10_findHalf 18 = .ok (.getfield 284, 3) := by decide +kernel
theorem dX10_findHalf_21 : decode cX10_findHalf 21 = .ok (.invokevirtual 285, 3) := by decide +kernel
theorem dX10_findHalf_24 : decode cX10_findHalf 24 = .ok (.istore_n 3, 1) := by decide +kernel
theorem dX10_findHalf_25 : decode cX10_findHalf 25 = .ok (.iconst 0, 1) := by decide +kernel
theorem dX10_findHalf_26 : decode cX10_findHalf 26 = .ok (.istore 4, 2) := by decide +kernel
theorem dX10_findHalf_28 : decode cX10_findHalf 28 = .ok (.iload_n 3, 1) := by decide +kernel
theorem dX10_findHalf_29 : decode cX10_findHalf 29 = .ok (.ifCond .eq 119, 3) := by decide +kernel
theorem dX10_findHalf_32 : decode cX10_findHalf 32 = .ok (.iload 4, 2) := by decide +kernel
theorem dX10_findHalf_34 : decode cX10_findHalf 34 = .ok (.sipush 10000, 3) := by decide +kernel
theorem dX10_findHalf_37 : decode cX10_findHalf 37 = .ok (.if_icmp .ge 111, 3) := by decide +kernel
theorem dX10_findHalf_40 : decode cX10_findHalf 40 = .ok (.iconst 0, 1) := by decide +kernel
theorem dX10_findHalf_41 : decode cX10_findHalf 41 = .ok (.istore 5, 2) := by decide +kernel
theorem dX10_findHalf_43 : decode cX10_findHalf 43 = .ok (.aload_n 0, 1) := by decide +kernel
theorem dX10_findHalf_44 : decode cX10_findHalf 44 = .ok (.getfield 37, 3) := by decide +kernel
theorem dX10_findHalf_47 : decode cX10_findHalf 47 = .ok (.invokevirtual 159, 3) := by decide +kernel
theorem dX10_findHalf_50 : decode cX10_findHalf 50 = .ok (.iconst 0, 1) := by decide +kernel
theorem dX10_findHalf_51 : decode cX10_findHalf 51 = .ok (.istore 6, 2) := by decide +kernel
theorem dX10_findHalf_53 : decode cX10_findHalf 53 = .ok (.iload 6, 2) := by decide +kernel
theorem dX10_findHalf_55 : decode cX10_findHalf 55 = .ok (.iload_n 1, 1) := by decide +kernel
theorem dX10_findHalf_56 : decode cX10_findHalf 56 = .ok (.if_icmp .ge 47, 3) := by decide +kernel
theorem dX10_findHalf_59 : decode cX10_findHalf 59 = .ok (.aload_n 2, 1) := by decide +kernel
theorem dX10_findHalf_60 : decode cX10_findHalf 60 = .ok (.getfield 289, 3) := by decide +kernel
theorem dX10_findHalf_63 : decode cX10_findHalf 63 = .ok (.aload_n 0, 1) := by decide +kernel
theorem dX10_findHalf_64 : decode cX10_findHalf 64 = .ok (.getfield 26, 3) := by decide +kernel
theorem dX10_findHalf_67 : decode cX10_findHalf 67 = .ok (.iload 6, 2) := by decide +kernel
theorem dX10_findHalf_69 : decode cX10_findHalf 69 = .ok (.invokevirtual 292, 3) := by decide +kernel
theorem dX10_findHalf_72 : decode cX10_findHalf 72 = .ok (.iaload, 1) := by decide +kernel
theorem dX10_findHalf_73 : decode cX10_findHalf 73 = .ok (.istore 7, 2) := by decide +kernel
theorem dX10_findHalf_75 : decode cX10_findHalf 75 = .ok (.iload 5, 2) := by decide +kernel
theorem dX10_findHalf_77 : decode cX10_findHalf 77 = .ok (.iconst 1, 1) := by decide +kernel
theorem dX10_findHalf_78 : decode cX10_findHalf 78 = .ok (.iload 7, 2) := by decide +kernel
theorem dX10_findHalf_80 : decode cX10_findHalf 80 = .ok (.ishl, 1) := by decide +kernel
theorem dX10_findHalf_81 : decode cX10_findHalf 81 = .ok (.ior, 1) := by decide +kernel
theorem dX10_findHalf_82 : decode cX10_findHalf 82 = .ok (.istore 5, 2) := by decide +kernel
theorem dX10_findHalf_84 : decode cX10_findHalf 84 = .ok (.aload_n 0, 1) := by decide +kernel
theorem dX10_findHalf_85 : decode cX10_findHalf 85 = .ok (.getfield 37, 3) := by decide +kernel
theorem dX10_findHalf_88 : decode cX10_findHalf 88 = .ok (.aload_n 0, 1) := by decide +kernel
theorem dX10_findHalf_89 : decode cX10_findHalf 89 = .ok (.getfield 10, 3) := by decide +kernel
theorem dX10_findHalf_92 : decode cX10_findHalf 92 = .ok (.iload 7, 2) := by decide +kernel
theorem dX10_findHalf_94 : decode cX10_findHalf 94 = .ok (.invokevirtual 168, 3) := by decide +kernel
theorem dX10_findHalf_97 : decode cX10_findHalf 97 = .ok (.iinc 6 1, 3) := by decide +kernel
theorem dX10_findHalf_100 : decode cX10_findHalf 100 = .ok (.goto (-47), 3) := by decide +kernel
theorem dX10_findHalf_103 : decode cX10_findHalf 103 = .ok (.aload_n 0, 1) := by decide +kernel
theorem dX10_findHalf_104 : decode cX10_findHalf 104 = .ok (.getfield 37, 3) := by decide +kernel
theorem dX10_findHalf_107 : decode cX10_findHalf 107 = .ok (.invokevirtual 171, 3) := by decide +kernel
theorem dX10_findHalf_110 : decode cX10_findHalf 110 = .ok (.aload_n 0, 1) := by decide +kernel
theorem dX10_findHalf_111 : decode cX10_findHalf 111 = .ok (.getfield 82, 3) := by decide +kernel
theorem dX10_findHalf_114 : decode cX10_findHalf 114 = .ok (.aload_n 0, 1) := by decide +kernel
theorem dX10_findHalf_115 : decode cX10_findHalf 115 = .ok (.getfield 37, 3) := by decide +kernel
theorem dX10_findHalf_118 : decode cX10_findHalf 118 = .ok (.invokevirtual 152, 3) := by decide +kernel
theorem dX10_findHalf_121 : decode cX10_findHalf 121 = .ok (.aload_n 0, 1) := by decide +kernel
theorem dX10_findHalf_122 : decode cX10_findHalf 122 = .ok (.getfield 37, 3) := by decide +kernel
theorem dX10_findHalf_125 : decode cX10_findHalf 125 = .ok (.invokevirtual 134, 3) := by decide +kernel
theorem dX10_findHalf_128 : decode cX10_findHalf 128 = .ok (.iload 5, 2) := by decide +kernel
theorem dX10_findHalf_130 : decode cX10_findHalf 130 = .ok (.i2l, 1) := by decide +kernel
theorem dX10_findHalf_131 : decode cX10_findHalf 131 = .ok (.invokevirtual 192, 3) := by decide +kernel
theorem dX10_findHalf_134 : decode cX10_findHalf 134 = .ok (.aload_n 0, 1) := by decide +kernel
theorem dX10_findHalf_135 : decode cX10_findHalf 135 = .ok (.getfield 26, 3) := by decide +kernel
theorem dX10_findHalf_138 : decode cX10_findHalf 138 = .ok (.invokevirtual 295, 3) := by decide +kernel
theorem dX10_findHalf_141 : decode cX10_findHalf 141 = .ok (.istore_n 3, 1) := by decide +kernel
theorem dX10_findHalf_142 : decode cX10_findHalf 142 = .ok (.iinc 4 1, 3) := by decide +kernel
theorem dX10_findHalf_145 : decode cX10_findHalf 145 = .ok (.goto (-117), 3) := by decide +kernel
theorem dX10_findHalf_148 : decode cX10_findHalf 148 = .ok (.return_, 1) := by decide +kernel
theorem dX11_init_0 : decode cX11_init 0 = .ok (.aload_n 0, 1) := by decide +kernel
theorem dX11_init_1 : decode cX11_init 1 = .ok (.invokespecial 1, 3) := by decide +kernel
theorem dX11_init_4 : decode cX11_init 4 = .ok (.aload_n 0, 1) := by decide +kernel
theorem dX11_init_5 : decode cX11_init 5 = .ok (.iconst 1, 1) := by decide +kernel
theorem dX11_init_6 : decode cX11_init 6 = .ok (.putfield 7, 3) := by decide +kernel
theorem dX11_init_9 : decode cX11_init 9 = .ok (.aload_n 0, 1) := by decide +kernel
theorem dX11_init_10 : decode cX11_init 10 = .ok (.bipush 24, 2) := by decide +kernel
theorem dX11_init_12 : decode cX11_init 12 = .ok (.iconst 3, 1) := by decide +kernel
theorem dX11_init_13 : decode cX11_init 13 = .ok (.multianewarray 13 2, 4) := by decide +kernel
theorem dX11_init_17 : decode cX11_init 17 = .ok (.putfield 15, 3) := by decide +kernel
theorem dX11_init_20 : decode cX11_init 20 = .ok (.aload_n 0, 1) := by decide +kernel
theorem dX11_init_21 : decode cX11_init 21 = .ok (.bipush 24, 2) := by decide +kernel
theorem dX11_init_23 : decode cX11_init 23 = .ok (.newarray .int, 2) := by decide +kernel
theorem dX11_init_25 : decode cX11_init 25 = .ok (.putfield 18, 3) := by decide +kernel
theorem dX11_init_28 : decode cX11_init 28 = .ok (.aload_n 0, 1) := by decide +kernel
theorem dX11_init_29 : decode cX11_init 29 = .ok (.bipush 24, 2) := by decide +kernel
theorem dX11_init_31 : decode cX11_init 31 = .ok (.newarray .boolean, 2) := by decide +kernel
theorem dX11_init_33 : decode cX11_init 33 = .ok (.putfield 22, 3) := by decide +kernel
theorem dX11_init_36 : decode cX11_init 36 = .ok (.aload_n 0, 1) := by decide +kernel
theorem dX11_init_37 : decode cX11_init 37 = .ok (.bipush 24, 2) := by decide +kernel
theorem dX11_init_39 : decode cX11_init 39 = .ok (.newarray .boolean, 2) := by decide +kernel
theorem dX11_init_41 : decode cX11_init 41 = .ok (.putfield 26, 3) := by decide +kernel
theorem dX11_init_44 : decode cX11_init 44 = .ok (.aload_n 0, 1) := by decide +kernel
theorem dX11_init_45 : decode cX11_init 45 = .ok (.iconst 3, 1) := by decide +kernel
theorem dX11_init_46 : decode cX11_init 46 = .ok (.iconst 3, 1) := by decide +kernel
theorem dX11_init_47 : decode cX11_init 47 = .ok (.multianewarray 29 2, 4) := by decide +kernel
theorem dX11_init_51 : decode cX11_init 51 = .ok (.putfield 31, 3) := by decide +kernel
theorem dX11_init_54 : decode cX11_init 54 = .ok (.aload_n 0, 1) := by decide +kernel
theorem dX11_init_55 : decode cX11_init 55 = .ok (.iconst 3, 1) := by decide +kernel
theorem dX11_init_56 : decode cX11_init 56 = .ok (.newarray .long, 2) := by decide +kernel
theorem dX11_init_58 : decode cX11_init 58 = .ok (.putfield 34, 3) := by decide +kernel
theorem dX11_init_61 : decode cX11_init 61 = .ok (.aload_n 0, 1) := by decide +kernel
theorem dX11_init_62 : decode cX11_init 62 = .ok (.iconst 3, 1) := by decide +kernel
theorem dX11_init_63 : decode cX11_init 63 = .ok (.newarray .int, 2) := by decide +kernel
theorem dX11_init_65 : decode cX11_init 65 = .ok (.putfield 38, 3) := by decide +kernel
theorem dX11_init_68 : decode cX11_init 68 = .ok (.aload_n 0, 1) := by decide +kernel
theorem dX11_init_69 : decode cX11_init 69 = .ok (.iconst 3, 1) := by decide +kernel
theorem dX11_init_70 : decode cX11_init 70 = .ok (.iconst 3, 1) := by decide +kernel
theorem dX11_init_71 : decode cX11_init 71 = .ok (.multianewarray 29 2, 4) := by decide +kernel
theorem dX11_init_75 : decode cX11_init 75 = .ok (.putfield 41, 3) := by decide +kernel
theorem dX11_init_78 : decode cX11_init 78 = .ok (.aload_n 0, 1) := by decide +kernel
theorem dX11_init_79 : decode cX11_init 79 = .ok (.iconst 3, 1) := by decide +kernel
theorem dX11_init_80 : decode cX11_init 80 = .ok (.newarray .long, 2) := by decide +kernel
theorem dX11_init_82 : decode cX11_init 82 = .ok (.putfield 44, 3) := by decide +kernel
theorem dX11_init_85 : decode cX11_init 85 = .ok (.aload_n 0, 1) := by decide +kernel
theorem dX11_init_86 : decode cX11_init 86 = .ok (.iconst 3, 1) := by decide +kernel
theorem dX11_init_87 : decode cX11_init 87 = .ok (.newarray .long, 2) := by decide +kernel
theorem dX11_init_89 : decode cX11_init 89 = .ok (.putfield 47, 3) := by decide +kernel
theorem dX11_init_92 : decode cX11_init 92 = .ok (.aload_n 0, 1) := by decide +kernel
theorem dX11_init_93 : decode cX11_init 93 = .ok (.iconst 3, 1) := by decide +kernel
theorem dX11_init_94 : decode cX11_init 94 = .ok (.newarray .long, 2) := by decide +kernel
theorem dX11_init_96 : decode cX11_init 96 = .ok (.putfield 50, 3) := by decide +kernel
theorem dX11_init_99 : decode cX11_init 99 = .ok (.aload_n 0, 1) := by decide +kernel
theorem dX11_init_100 : decode cX11_init 100 = .ok (.iconst 3, 1) := by decide +kernel
theorem dX11_init_101 : decode cX11_init 101 = .ok (.newarray .long, 2) := by decide +kernel
theorem dX11_init_103 : decode cX11_init 103 = .ok (.putfield 53, 3) := by decide +kernel
theorem dX11_init_106 : decode cX11_init 106 = .ok (.aload_n 0, 1) := by decide +kernel
theorem dX11_init_107 : decode cX11_init 107 = .ok (.bipush 24, 2) := by decide +kernel
theorem dX11_init_109 : decode cX11_init 109 = .ok (.newarray .int, 2) := by decide +kernel
theorem dX11_init_111 : decode cX11_init 111 = .ok (.putfield 56, 3) := by decide +kernel
theorem dX11_init_114 : decode cX11_init 114 = .ok (.aload_n 0, 1) := by decide +kernel
theorem dX11_init_115 : decode cX11_init 115 = .ok (.bipush 24, 2) := by decide +kernel
theorem dX11_init_117 : decode cX11_init 117 = .ok (.newarray .int, 2) := by decide +kernel
theorem dX11_init_119 : decode cX11_init 119 = .ok (.putfield 59, 3) := by decide +kernel
theorem dX11_init_122 : decode cX11_init 122 = .ok (.aload_n 0, 1) := by decide +kernel
theorem dX11_init_123 : decode cX11_init 123 = .ok (.iconst 3, 1) := by decide +kernel
theorem dX11_init_124 : decode cX11_init 124 = .ok (.newarray .long, 2) := by decide +kernel
theorem dX11_init_126 : decode cX11_init 126 = .ok (.putfield 62, 3) := by decide +kernel
theorem dX11_init_129 : decode cX11_init 129 = .ok (.aload_n 0, 1) := by decide +kernel
theorem dX11_init_130 : decode cX11_init 130 = .ok (.iconst 3, 1) := by decide +kernel
theorem dX11_init_131 : decode cX11_init 131 = .ok (.newarray .int, 2) := by decide +kernel
theorem dX11_init_133 : decode cX11_init 133 = .ok (.putfield 65, 3) := by decide +kernel
theorem dX11_init_136 : decode cX11_init 136 = .ok (.aload_n 0, 1) := by decide +kernel
theorem dX11_init_137 : decode cX11_init 137 = .ok (.iconst 3, 1) := by decide +kernel
theorem dX11_init_138 : decode cX11_init 138 = .ok (.newarray .int, 2) := by decide +kernel
theorem dX11_init_140 : decode cX11_init 140 = .ok (.putfield 68, 3) := by decide +kernel
theorem dX11_init_143 : decode cX11_init 143 = .ok (.aload_n 0, 1) := by decide +kernel
theorem dX11_init_144 : decode cX11_init 144 = .ok (.iconst 3, 1) := by decide +kernel
theorem dX11_init_145 : decode cX11_init 145 = .ok (.newarray .long, 2) := by decide +kernel
theorem dX11_init_147 : decode cX11_init 147 = .ok (.putfield 71, 3) := by decide +kernel
theorem dX11_init_150 : decode cX11_init 150 = .ok (.aload_n 0, 1) := by decide +kernel
theorem dX11_init_151 : decode cX11_init 151 = .ok (.iconst 3, 1) := by decide +kernel
theorem dX11_init_152 : decode cX11_init 152 = .ok (.newarray .long, 2) := by decide +kernel
theorem dX11_init_154 : decode cX11_init 154 = .ok (.putfield 74, 3) := by decide +kernel
theorem dX11_init_157 : decode cX11_init 157 = .ok (.aload_n 0, 1) := by decide +kernel
theorem dX11_init_158 : decode cX11_init 158 = .ok (.bipush 64, 2) := by decide +kernel
theorem dX11_init_160 : decode cX11_init 160 = .ok (.newarray .long, 2) := by decide +kernel
theorem dX11_init_162 : decode cX11_init 162 = .ok (.putfield 77, 3) := by decide +kernel
theorem dX11_init_165 : decode cX11_init 165 = .ok (.aload_n 0, 1) := by decide +kernel
theorem dX11_init_166 : decode cX11_init 166 = .ok (.bipush 64, 2) := by decide +kernel
theorem dX11_init_168 : decode cX11_init 168 = .ok (.newarray .long, 2) := by decide +kernel
theorem dX11_init_170 : decode cX11_init 170 = .ok (.putfield 80, 3) := by decide +kernel
theorem dX11_init_173 : decode cX11_init 173 = .ok (.return_, 1) := by decide +kernel
theorem dX11_divisor_0 : decode cX11_divisor 0 = .ok (.lload_n 0, 1) := by decide +kernel
theorem dX11_divisor_1 : decode cX11_divisor 1 = .ok (.lconst 0, 1) := by decide +kernel
theorem dX11_divisor_2 : decode cX11_divisor 2 = .ok (.lcmp, 1) := by decide +kernel
theorem dX11_divisor_3 : decode cX11_divisor 3 = .ok (.ifCond .ge 8, 3) := by decide +kernel
theorem dX11_divisor_6 : decode cX11_divisor 6 = .ok (.lload_n 0, 1) := by decide +kernel
theorem dX11_divisor_7 : decode cX11_divisor 7 = .ok (.lneg, 1) := by decide +kernel
theorem dX11_divisor_8 : decode cX11_divisor 8 = .ok (.goto 4, 3) := by decide +kernel
theorem dX11_divisor_11 : decode cX11_divisor 11 = .ok (.lload_n 0, 1) := by decide +kernel
theorem dX11_divisor_12 : decode cX11_divisor 12 = .ok (.lstore 4, 2) := by decide +kernel
theorem dX11_divisor_14 : decode cX11_divisor 14 = .ok (.lload_n 2, 1) := by decide +kernel
theorem dX11_divisor_15 : decode cX11_divisor 15 = .ok (.lconst 0, 1) := by decide +kernel
theorem dX11_divisor_16 : decode cX11_divisor 16 = .ok (.lcmp, 1) := by decide +kernel
theorem dX11_divisor_17 : decode cX11_divisor 17 = .ok (.ifCond .ge 8, 3) := by decide +kernel
theorem dX11_divisor_20 : decode cX11_divisor 20 = .ok (.lload_n 2, 1) := by decide +kernel
theorem dX11_divisor_21 : decode cX11_divisor 21 = .ok (.lneg, 1) := by decide +kernel
theorem dX11_divisor_22 : decode cX11_divisor 22 = .ok (.goto 4, 3) := by decide +kernel
theorem dX11_divisor_25 : decode cX11_divisor 25 = .ok (.lload_n 2, 1) := by decide +kernel
theorem dX11_divisor_26 : decode cX11_divisor 26 = .ok (.lstore 6, 2) := by decide +kernel
theorem dX11_divisor_28 : decode cX11_divisor 28 = .ok (.lload 6, 2) := by decide +kernel
theorem dX11_divisor_30 : decode cX11_divisor 30 = .ok (.lconst 0, 1) := by decide +kernel
theorem dX11_divisor_31 : decode cX11_divisor 31 = .ok (.lcmp, 1) := by decide +kernel
theorem dX11_divisor_32 : decode cX11_divisor 32 = .ok (.ifCond .eq 21, 3) := by decide +kernel
theorem dX11_divisor_35 : decode cX11_divisor 35 = .ok (.lload 4, 2) := by decide +kernel
theorem dX11_divisor_37 : decode cX11_divisor 37 = .ok (.lload 6, 2) := by decide +kernel
theorem dX11_divisor_39 : decode cX11_divisor 39 = .ok (.lrem, 1) := by decide +kernel
theorem dX11_divisor_40 : decode cX11_divisor 40 = .ok (.lstore 8, 2) := by decide +kernel
theorem dX11_divisor_42 : decode cX11_divisor 42 = .ok (.lload 6, 2) := by decide +kernel
theorem dX11_divisor_44 : decode cX11_divisor 44 = .ok (.lstore 4, 2) := by decide +kernel
theorem dX11_divisor_46 : decode cX11_divisor 46 = .ok (.lload 8, 2) := by decide +kernel
theorem dX11_divisor_48 : decode cX11_divisor 48 = .ok (.lstore 6, 2) := by decide +kernel
theorem dX11_divisor_50 : decode cX11_divisor 50 = .ok (.goto (-22), 3) := by decide +kernel
theorem dX11_divisor_53 : decode cX11_divisor 53 = .ok (.lload 4, 2) := by decide +kernel
theorem dX11_divisor_55 : decode cX11_divisor 55 = .ok (.lreturn, 1) := by decide +kernel
theorem dX11_told_0 : decode cX11_told 0 = .ok (.iload 4, 2) := by decide +kernel
theorem dX11_told_2 : decode cX11_told 2 = .ok (.ifCond .lt 9, 3) := by decide +kernel
theorem dX11_told_5 : decode cX11_told 5 = .ok (.iload 4, 2) := by decide +kernel
theorem dX11_told_7 : decode cX11_told 7 = .ok (.iconst 1, 1) := by decide +kernel
theorem dX11_told_8 : decode cX11_told 8 = .ok (.if_icmp .le 7, 3) := by decide +kernel
theorem dX11_told_11 : decode cX11_told 11 = .ok (.ldc2_w 83, 3) := by decide +kernel
theorem dX11_told_14 : decode cX11_told 14 = .ok (.lreturn, 1) := by decide +kernel
theorem dX11_told_15 : decode cX11_told 15 = .ok (.lload_n 0, 1) := by decide +kernel
theorem dX11_told_16 : decode cX11_told 16 = .ok (.lconst 0, 1) := by decide +kernel
theorem dX11_told_17 : decode cX11_told 17 = .ok (.lcmp, 1) := by decide +kernel
theorem dX11_told_18 : decode cX11_told 18 = .ok (.ifCond .ne 7, 3) := by decide +kernel
theorem dX11_told_21 : decode cX11_told 21 = .ok (.iload 4, 2) := by decide +kernel
theorem dX11_told_23 : decode cX11_told 23 = .ok (.i2l, 1) := by decide +kernel
theorem dX11_told_24 : decode cX11_told 24 = .ok (.lreturn, 1) := by decide +kernel
theorem dX11_told_25 : decode cX11_told 25 = .ok (.lload_n 0, 1) := by decide +kernel
theorem dX11_told_26 : decode cX11_told 26 = .ok (.lload_n 2, 1) := by decide +kernel
theorem dX11_told_27 : decode cX11_told 27 = .ok (.invokestatic 85, 3) := by decide +kernel
theorem dX11_told_30 : decode cX11_told 30 = .ok (.lstore 5, 2) := by decide +kernel
theorem dX11_told_32 : decode cX11_told 32 = .ok (.lload_n 2, 1) := by decide +kernel
theorem dX11_told_33 : decode cX11_told 33 = .ok (.lconst 0, 1) := by decide +kernel
theorem dX11_told_34 : decode cX11_told 34 = .ok (.lcmp, 1) := by decide +kernel
theorem dX11_told_35 : decode cX11_told 35 = .ok (.ifCond .ge 9, 3) := by decide +kernel
theorem dX11_told_38 : decode cX11_told 38 = .ok (.ldc2_w 83, 3) := by decide +kernel
theorem dX11_told_41 : decode cX11_told 41 = .ok (.goto 4, 3) := by decide +kernel
theorem dX11_told_44 : decode cX11_told 44 = .ok (.lconst 1, 1) := by decide +kernel
theorem dX11_told_45 : decode cX11_told 45 = .ok (.lstore 7, 2) := by decide +kernel
theorem dX11_told_47 : decode cX11_told 47 = .ok (.iload 4, 2) := by decide +kernel
theorem dX11_told_49 : decode cX11_told 49 = .ok (.ifCond .ne 13, 3) := by decide +kernel
theorem dX11_told_52 : decode cX11_told 52 = .ok (.lload 7, 2) := by decide +kernel
theorem dX11_told_54 : decode cX11_told 54 = .ok (.lload_n 0, 1) := by decide +kernel
theorem dX11_told_55 : decode cX11_told 55 = .ok (.lload 5, 2) := by decide +kernel
theorem dX11_told_57 : decode cX11_told 57 = .ok (.ldiv, 1) := by decide +kernel
theorem dX11_told_58 : decode cX11_told 58 = .ok (.lmul, 1) := by decide +kernel
theorem dX11_told_59 : decode cX11_told 59 = .ok (.goto 10, 3) := by decide +kernel
theorem dX11_told_62 : decode cX11_told 62 = .ok (.lload 7, 2) := by decide +kernel
theorem dX11_told_64 : decode cX11_told 64 = .ok (.lload_n 2, 1) := by decide +kernel
theorem dX11_told_65 : decode cX11_told 65 = .ok (.lload 5, 2) := by decide +kernel
theorem dX11_told_67 : decode cX11_told 67 = .ok (.ldiv, 1) := by decide +kernel
theorem dX11_told_68 : decode cX11_told 68 = .ok (.lmul, 1) := by decide +kernel
theorem dX11_told_69 : decode cX11_told 69 = .ok (.lreturn, 1) := by decide +kernel
theorem dX11_compare_0 : decode cX11_compare 0 = .ok (.lload_n 0, 1) := by decide +kernel
theorem dX11_compare_1 : decode cX11_compare 1 = .ok (.lload_n 2, 1) := by decide +kernel
theorem dX11_compare_2 : decode cX11_compare 2 = .ok (.invokestatic 89, 3) := by decide +kernel
theorem dX11_compare_5 : decode cX11_compare 5 = .ok (.lstore 8, 2) := by decide +kernel
theorem dX11_compare_7 : decode cX11_compare 7 = .ok (.lload 4, 2) := by decide +kernel
theorem dX11_compare_9 : decode cX11_compare 9 = .ok (.lload 6, 2) := by decide +kernel
theorem dX11_compare_11 : decode cX11_compare 11 = .ok (.invokestatic 89, 3) := by decide +kernel
theorem dX11_compare_14 : decode cX11_compare 14 = .ok (.lstore 10, 2) := by decide +kernel
theorem dX11_compare_16 : decode cX11_compare 16 = .ok (.lload_n 0, 1) := by decide +kernel
theorem dX11_compare_17 : decode cX11_compare 17 = .ok (.lload 8, 2) := by decide +kernel
theorem dX11_compare_19 : decode cX11_compare 19 = .ok (.lload_n 2, 1) := by decide +kernel
theorem dX11_compare_20 : decode cX11_compare 20 = .ok (.lmul, 1) := by decide +kernel
theorem dX11_compare_21 : decode cX11_compare 21 = .ok (.lsub, 1) := by decide +kernel
theorem dX11_compare_22 : decode cX11_compare 22 = .ok (.lstore 12, 2) := by decide +kernel
theorem dX11_compare_24 : decode cX11_compare 24 = .ok (.lload 4, 2) := by decide +kernel
theorem dX11_compare_26 : decode cX11_compare 26 = .ok (.lload 10, 2) := by decide +kernel
theorem dX11_compare_28 : decode cX11_compare 28 = .ok (.lload 6, 2) := by decide +kernel
theorem dX11_compare_30 : decode cX11_compare 30 = .ok (.lmul, 1) := by decide +kernel
theorem dX11_compare_31 : decode cX11_compare 31 = .ok (.lsub, 1) := by decide +kernel
theorem dX11_compare_32 : decode cX11_compare 32 = .ok (.lstore 14, 2) := by decide +kernel
theorem dX11_compare_34 : decode cX11_compare 34 = .ok (.iconst 1, 1) := by decide +kernel
theorem dX11_compare_35 : decode cX11_compare 35 = .ok (.istore 16, 2) := by decide +kernel
theorem dX11_compare_37 : decode cX11_compare 37 = .ok (.lload_n 2, 1) := by decide +kernel
theorem dX11_compare_38 : decode cX11_compare 38 = .ok (.lstore 17, 2) := by decide +kernel
theorem dX11_compare_40 : decode cX11_compare 40 = .ok (.lload 6, 2) := by decide +kernel
theorem dX11_compare_42 : decode cX11_compare 42 = .ok (.lstore 19, 2) := by decide +kernel
theorem dX11_compare_44 : decode cX11_compare 44 = .ok (.lload 8, 2) := by decide +kernel
theorem dX11_compare_46 : decode cX11_compare 46 = .ok (.lload 10, 2) := by decide +kernel
theorem dX11_compare_48 : decode cX11_compare 48 = .ok (.lcmp, 1) := by decide +kernel
theorem dX11_compare_49 : decode cX11_compare 49 = .ok (.ifCond .ne 75, 3) := by decide +kernel
theorem dX11_compare_52 : decode cX11_compare 52 = .ok (.lload 12, 2) := by decide +kernel
theorem dX11_compare_54 : decode cX11_compare 54 = .ok (.lconst 0, 1) := by decide +kernel
theorem dX11_compare_55 : decode cX11_compare 55 = .ok (.lcmp, 1) := by decide +kernel
theorem dX11_compare_56 : decode cX11_compare 56 = .ok (.ifCond .eq 68, 3) := by decide +kernel
theorem dX11_compare_59 : decode cX11_compare 59 = .ok (.lload 14, 2) := by decide +kernel
theorem dX11_compare_61 : decode cX11_compare 61 = .ok (.lconst 0, 1) := by decide +kernel
theorem dX11_compare_62 : decode cX11_compare 62 = .ok (.lcmp, 1) := by decide +kernel
theorem dX11_compare_63 : decode cX11_compare 63 = .ok (.ifCond .eq 61, 3) := by decide +kernel
theorem dX11_compare_66 : decode cX11_compare 66 = .ok (.iload 16, 2) := by decide +kernel
theorem dX11_compare_68 : decode cX11_compare 68 = .ok (.ineg, 1) := by decide +kernel
theorem dX11_compare_69 : decode cX11_compare 69 = .ok (.istore 16, 2) := by decide +kernel
theorem dX11_compare_71 : decode cX11_compare 71 = .ok (.lload 17, 2) := by decide +kernel
theorem dX11_compare_73 : decode cX11_compare 73 = .ok (.lload 12, 2) := by decide +kernel
theorem dX11_compare_75 : decode cX11_compare 75 = .ok (.ldiv, 1) := by decide +kernel
theorem dX11_compare_76 : decode cX11_compare 76 = .ok (.lstore 8, 2) := by decide +kernel
theorem dX11_compare_78 : decode cX11_compare 78 = .ok (.lload 19, 2) := by decide +kernel
theorem dX11_compare_80 : decode cX11_compare 80 = .ok (.lload 14, 2) := by decide +kernel
theorem dX11_compare_82 : decode cX11_compare 82 = .ok (.ldiv, 1) := by decide +kernel
theorem dX11_compare_83 : decode cX11_compare 83 = .ok (.lstore 10, 2) := by decide +kernel
theorem dX11_compare_85 : decode cX11_compare 85 = .ok (.lload 17, 2) := by decide +kernel
theorem dX11_compare_87 : decode cX11_compare 87 = .ok (.lload 8, 2) := by decide +kernel
theorem dX11_compare_89 : decode cX11_compare 89 = .ok (.lload 12, 2) := by decide +kernel
theorem dX11_compare_91 : decode cX11_compare 91 = .ok (.lmul, 1) := by decide +kernel
theorem dX11_compare_92 : decode cX11_compare 92 = .ok (.lsub, 1) := by decide +kernel
theorem dX11_compare_93 : decode cX11_compare 93 = .ok (.lstore 21, 2) := by decide +kernel
theorem dX11_compare_95 : decode cX11_compare 95 = .ok (.lload 12, 2) := by decide +kernel
theorem dX11_compare_97 : decode cX11_compare 97 = .ok (.lstore 17, 2) := by decide +kernel
theorem dX11_compare_99 : decode cX11_compare 99 = .ok (.lload 21, 2) := by decide +kernel
theorem dX11_compare_101 : decode cX11_compare 101 = .ok (.lstore 12, 2) := by decide +kernel
theorem dX11_compare_103 : decode cX11_compare 103 = .ok (.lload 19, 2) := by decide +kernel
theorem dX11_compare_105 : decode cX11_compare 105 = .ok (.lload 10, 2) := by decide +kernel
theorem dX11_compare_107 : decode cX11_compare 107 = .ok (.lload 14, 2) := by decide +kernel
theorem dX11_compare_109 : decode cX11_compare 109 = .ok (.lmul, 1) := by decide +kernel
theorem dX11_compare_110 : decode cX11_compare 110 = .ok (.lsub, 1) := by decide +kernel
theorem dX11_compare_111 : decode cX11_compare 111 = .ok (.lstore 21, 2) := by decide +kernel
theorem dX11_compare_113 : decode cX11_compare 113 = .ok (.lload 14, 2) := by decide +kernel
theorem dX11_compare_115 : decode cX11_compare 115 = .ok (.lstore 19, 2) := by decide +kernel
theorem dX11_compare_117 : decode cX11_compare 117 = .ok (.lload 21, 2) := by decide +kernel
theorem dX11_compare_119 : decode cX11_compare 119 = .ok (.lstore 14, 2) := by decide +kernel
theorem dX11_compare_121 : decode cX11_compare 121 = .ok (.goto (-77), 3) := by decide +kernel
theorem dX11_compare_124 : decode cX11_compare 124 = .ok (.lload 8, 2) := by decide +kernel
theorem dX11_compare_126 : decode cX11_compare 126 = .ok (.lload 10, 2) := by decide +kernel
theorem dX11_compare_128 : decode cX11_compare 128 = .ok (.lcmp, 1) := by decide +kernel
theorem dX11_compare_129 : decode cX11_compare 129 = .ok (.ifCond .eq 20, 3) := by decide +kernel
theorem dX11_compare_132 : decode cX11_compare 132 = .ok (.lload 8, 2) := by decide +kernel
theorem dX11_compare_134 : decode cX11_compare 134 = .ok (.lload 10, 2) := by decide +kernel
theorem dX11_compare_136 : decode cX11_compare 136 = .ok (.lcmp, 1) := by decide +kernel
theorem dX11_compare_137 : decode cX11_compare 137 = .ok (.ifCond .ge 9, 3) := by decide +kernel
theorem dX11_compare_140 : decode cX11_compare 140 = .ok (.iload 16, 2) := by decide +kernel
theorem dX11_compare_142 : decode cX11_compare 142 = .ok (.ineg, 1) := by decide +kernel
theorem dX11_compare_143 : decode cX11_compare 143 = .ok (.goto 5, 3) := by decide +kernel
theorem dX11_compare_146 : decode cX11_compare 146 = .ok (.iload 16, 2) := by decide +kernel
theorem dX11_compare_148 : decode cX11_compare 148 = .ok (.ireturn, 1) := by decide +kernel
theorem dX11_compare_149 : decode cX11_compare 149 = .ok (.lload 12, 2) := by decide +kernel
theorem dX11_compare_151 : decode cX11_compare 151 = .ok (.lconst 0, 1) := by decide +kernel
theorem dX11_compare_152 : decode cX11_compare 152 = .ok (.lcmp, 1) := by decide +kernel
theorem dX11_compare_153 : decode cX11_compare 153 = .ok (.ifCond .ne 14, 3) := by decide +kernel
theorem dX11_compare_156 : decode cX11_compare 156 = .ok (.lload 14, 2) := by decide +kernel
theorem dX11_compare_158 : decode cX11_compare 158 = .ok (.lconst 0, 1) := by decide +kernel
theorem dX11_compare_159 : decode cX11_compare 159 = .ok (.lcmp, 1) := by decide +kernel
theorem dX11_compare_160 : decode cX11_compare 160 = .ok (.ifCond .ne 7, 3) := by decide +kernel
theorem dX11_compare_163 : decode cX11_compare 163 = .ok (.iconst 0, 1) := by decide +kernel
theorem dX11_compare_164 : decode cX11_compare 164 = .ok (.goto 26, 3) := by decide +kernel
theorem dX11_compare_167 : decode cX11_compare 167 = .ok (.lload 12, 2) := by decide +kernel
theorem dX11_compare_169 : decode cX11_compare 169 = .ok (.lconst 0, 1) := by decide +kernel
theorem dX11_compare_170 : decode cX11_compare 170 = .ok (.lcmp, 1) := by decide +kernel
theorem dX11_compare_171 : decode cX11_compare 171 = .ok (.ifCond .ne 7, 3) := by decide +kernel
theorem dX11_compare_174 : decode cX11_compare 174 = .ok (.iconst (-1), 1) := by decide +kernel
theorem dX11_compare_175 : decode cX11_compare 175 = .ok (.goto 15, 3) := by decide +kernel
theorem dX11_compare_178 : decode cX11_compare 178 = .ok (.lload 14, 2) := by decide +kernel
theorem dX11_compare_180 : decode cX11_compare 180 = .ok (.lconst 0, 1) := by decide +kernel
theorem dX11_compare_181 : decode cX11_compare 181 = .ok (.lcmp, 1) := by decide +kernel
theorem dX11_compare_182 : decode cX11_compare 182 = .ok (.ifCond .ne 7, 3) := by decide +kernel
theorem dX11_compare_185 : decode cX11_compare 185 = .ok (.iconst 1, 1) := by decide +kernel
theorem dX11_compare_186 : decode cX11_compare 186 = .ok (.goto 4, 3) := by decide +kernel
theorem dX11_compare_189 : decode cX11_compare 189 = .ok (.iconst 0, 1) := by decide +kernel
theorem dX11_compare_190 : decode cX11_compare 190 = .ok (.istore 21, 2) := by decide +kernel
theorem dX11_compare_192 : decode cX11_compare 192 = .ok (.iload 21, 2) := by decide +kernel
theorem dX11_compare_194 : decode cX11_compare 194 = .ok (.iload 16, 2) := by decide +kernel
theorem dX11_compare_196 : decode cX11_compare 196 = .ok (.imul, 1) := by decide +kernel
theorem dX11_compare_197 : decode cX11_compare 197 = .ok (.ireturn, 1) := by decide +kernel
theorem dX11_all_0 : decode cX11_all 0 = .ok (.iconst 0, 1) := by decide +kernel
theorem dX11_all_1 : decode cX11_all 1 = .ok (.istore_n 1, 1) := by decide +kernel
theorem dX11_all_2 : decode cX11_all 2 = .ok (.iload_n 1, 1) := by decide +kernel
theorem dX11_all_3 : decode cX11_all 3 = .ok (.aload_n 0, 1) := by decide +kernel
theorem dX11_all_4 : decode cX11_all 4 = .ok (.getfield 94, 3) := by decide +kernel
theorem dX11_all_7 : decode cX11_all 7 = .ok (.if_icmp .ge 21, 3) := by decide +kernel
theorem dX11_all_10 : decode cX11_all 10 = .ok (.aload_n 0, 1) := by decide +kernel
theorem dX11_all_11 : decode cX11_all 11 = .ok (.getfield 26, 3) := by decide +kernel
theorem dX11_all_14 : decode cX11_all 14 = .ok (.iload_n 1, 1) := by decide +kernel
theorem dX11_all_15 : decode cX11_all 15 = .ok (.aload_n 0, 1) := by decide +kernel
theorem dX11_all_16 : decode cX11_all 16 = .ok (.getfield 22, 3) := by decide +kernel
theorem dX11_all_19 : decode cX11_all 19 = .ok (.iload_n 1, 1) := by decide +kernel
theorem dX11_all_20 : decode cX11_all 20 = .ok (.baload, 1) := by decide +kernel
theorem dX11_all_21 : decode cX11_all 21 = .ok (.bastore, 1) := by decide +kernel
theorem dX11_all_22 : decode cX11_all 22 = .ok (.iinc 1 1, 3) := by decide +kernel
theorem dX11_all_25 : decode cX11_all 25 = .ok (.goto (-23), 3) := by decide +kernel
theorem dX11_all_28 : decode cX11_all 28 = .ok (.aload_n 0, 1) := by decide +kernel
theorem dX11_all_29 : decode cX11_all 29 = .ok (.iconst 1, 1) := by decide +kernel
theorem dX11_all_30 : decode cX11_all 30 = .ok (.aload_n 0, 1) := by decide +kernel
theorem dX11_all_31 : decode cX11_all 31 = .ok (.getfield 7, 3) := by decide +kernel
theorem dX11_all_34 : decode cX11_all 34 = .ok (.ishl, 1) := by decide +kernel
theorem dX11_all_35 : decode cX11_all 35 = .ok (.iconst 1, 1) := by decide +kernel
theorem dX11_all_36 : decode cX11_all 36 = .ok (.isub, 1) := by decide +kernel
theorem dX11_all_37 : decode cX11_all 37 = .ok (.invokevirtual 97, 3) := by decide +kernel
theorem dX11_all_40 : decode cX11_all 40 = .ok (.return_, 1) := by decide +kernel
theorem dX11_take_0 : decode cX11_take 0 = .ok (.aload_n 0, 1) := by decide +kernel
theorem dX11_take_1 : decode cX11_take 1 = .ok (.iconst 0, 1) := by decide +kernel
theorem dX11_take_2 : decode cX11_take 2 = .ok (.putfield 101, 3) := by decide +kernel
theorem dX11_take_5 : decode cX11_take 5 = .ok (.iconst 0, 1) := by decide +kernel
theorem dX11_take_6 : decode cX11_take 6 = .ok (.istore_n 2, 1) := by decide +kernel
theorem dX11_take_7 : decode cX11_take 7 = .ok (.iload_n 2, 1) := by decide +kernel
theorem dX11_take_8 : decode cX11_take 8 = .ok (.aload_n 0, 1) := by decide +kernel
theorem dX11_take_9 : decode cX11_take 9 = .ok (.getfield 7, 3) := by decide +kernel
theorem dX11_take_12 : decode cX11_take 12 = .ok (.if_icmp .ge 38, 3) := by decide +kernel
theorem dX11_take_15 : decode cX11_take 15 = .ok (.iload_n 1, 1) := by decide +kernel
theorem dX11_take_16 : decode cX11_take 16 = .ok (.iload_n 2, 1) := by decide +kernel
theorem dX11_take_17 : decode cX11_take 17 = .ok (.ishr, 1) := by decide +kernel
theorem dX11_take_18 : decode cX11_take 18 = .ok (.iconst 1, 1) := by decide +kernel
theorem dX11_take_19 : decode cX11_take 19 = .ok (.iand, 1) := by decide +kernel
theorem dX11_take_20 : decode cX11_take 20 = .ok (.iconst 1, 1) := by decide +kernel
theorem dX11_take_21 : decode cX11_take 21 = .ok (.if_icmp .ne 23, 3) := by decide +kernel
theorem dX11_take_24 : decode cX11_take 24 = .ok (.aload_n 0, 1) := by decide +kernel
theorem dX11_take_25 : decode cX11_take 25 = .ok (.getfield 38, 3) := by decide +kernel
theorem dX11_take_28 : decode cX11_take 28 = .ok (.aload_n 0, 1) := by decide +kernel
theorem dX11_take_29 : decode cX11_take 29 = .ok (.getfield 101, 3) := by decide +kernel
theorem dX11_take_32 : decode cX11_take 32 = .ok (.iload_n 2, 1) := by decide +kernel
theorem dX11_take_33 : decode cX11_take 33 = .ok (.iastore, 1) := by decide +kernel
theorem dX11_take_34 : decode cX11_take 34 = .ok (.aload_n 0, 1) := by decide +kernel
theorem dX11_take_35 : decode cX11_take 35 = .ok (.dup, 1) := by decide +kernel
theorem dX11_take_36 : decode cX11_take 36 = .ok (.getfield 101, 3) := by decide +kernel
theorem dX11_take_39 : decode cX11_take 39 = .ok (.iconst 1, 1) := by decide +kernel
theorem dX11_take_40 : decode cX11_take 40 = .ok (.iadd, 1) := by decide +kernel
theorem dX11_take_41 : decode cX11_take 41 = .ok (.putfield 101, 3) := by decide +kernel
theorem dX11_take_44 : decode cX11_take 44 = .ok (.iinc 2 1, 3) := by decide +kernel
theorem dX11_take_47 : decode cX11_take 47 = .ok (.goto (-40), 3) := by decide +kernel
theorem dX11_take_50 : decode cX11_take 50 = .ok (.aload_n 0, 1) := by decide +kernel
theorem dX11_take_51 : decode cX11_take 51 = .ok (.lconst 0, 1) := by decide +kernel
theorem dX11_take_52 : decode cX11_take 52 = .ok (.putfield 104, 3) := by decide +kernel
theorem dX11_take_55 : decode cX11_take 55 = .ok (.iconst 0, 1) := by decide +kernel
theorem dX11_take_56 : decode cX11_take 56 = .ok (.istore_n 2, 1) := by decide +kernel
theorem dX11_take_57 : decode cX11_take 57 = .ok (.iload_n 2, 1) := by decide +kernel
theorem dX11_take_58 : decode cX11_take 58 = .ok (.aload_n 0, 1) := by decide +kernel
theorem dX11_take_59 : decode cX11_take 59 = .ok (.getfield 101, 3) := by decide +kernel
theorem dX11_take_62 : decode cX11_take 62 = .ok (.if_icmp .ge 41, 3) := by decide +kernel
theorem dX11_take_65 : decode cX11_take 65 = .ok (.aload_n 0, 1) := by decide +kernel
theorem dX11_take_66 : decode cX11_take 66 = .ok (.getfield 34, 3) := by decide +kernel
theorem dX11_take_69 : decode cX11_take 69 = .ok (.iload_n 2, 1) := by decide +kernel
theorem dX11_take_70 : decode cX11_take 70 = .ok (.lconst 0, 1) := by decide +kernel
theorem dX11_take_71 : decode cX11_take 71 = .ok (.lastore, 1) := by decide +kernel
theorem dX11_take_72 : decode cX11_take 72 = .ok (.iconst 0, 1) := by decide +kernel
theorem dX11_take_73 : decode cX11_take 73 = .ok (.istore_n 3, 1) := by decide +kernel
theorem dX11_take_74 : decode cX11_take 74 = .ok (.iload_n 3, 1) := by decide +kernel
theorem dX11_take_75 : decode cX11_take 75 = .ok (.aload_n 0, 1) := by decide +kernel
theorem dX11_take_76 : decode cX11_take 76 = .ok (.getfield 101, 3) := by decide +kernel
theorem dX11_take_79 : decode cX11_take 79 = .ok (.if_icmp .ge 18, 3) := by decide +kernel
theorem dX11_take_82 : decode cX11_take 82 = .ok (.aload_n 0, 1) := by decide +kernel
theorem dX11_take_83 : decode cX11_take 83 = .ok (.getfield 31, 3) := by decide +kernel
theorem dX11_take_86 : decode cX11_take 86 = .ok (.iload_n 2, 1) := by decide +kernel
theorem dX11_take_87 : decode cX11_take 87 = .ok (.aaload, 1) := by decide +kernel
theorem dX11_take_88 : decode cX11_take 88 = .ok (.iload_n 3, 1) := by decide +kernel
theorem dX11_take_89 : decode cX11_take 89 = .ok (.lconst 0, 1) := by decide +kernel
theorem dX11_take_90 : decode cX11_take 90 = .ok (.lastore, 1) := by decide +kernel
theorem dX11_take_91 : decode cX11_take 91 = .ok (.iinc 3 1, 3) := by decide +kernel
theorem dX11_take_94 : decode cX11_take 94 = .ok (.goto (-20), 3) := by decide +kernel
theorem dX11_take_97 : decode cX11_take 97 = .ok (.iinc 2 1, 3) := by decide +kernel
theorem dX11_take_100 : decode cX11_take 100 = .ok (.goto (-43), 3) := by decide +kernel
theorem dX11_take_103 : decode cX11_take 103 = .ok (.iconst 0, 1) := by decide +kernel
theorem dX11_take_104 : decode cX11_take 104 = .ok (.istore_n 2, 1) := by decide +kernel
theorem dX11_take_105 : decode cX11_take 105 = .ok (.iload_n 2, 1) := by decide +kernel
theorem dX11_take_106 : decode cX11_take 106 = .ok (.aload_n 0, 1) := by decide +kernel
theorem dX11_take_107 : decode cX11_take 107 = .ok (.getfield 94, 3) := by decide +kernel
theorem dX11_take_110 : decode cX11_take 110 = .ok (.if_icmp .ge 149, 3) := by decide +kernel
theorem dX11_take_113 : decode cX11_take 113 = .ok (.aload_n 0, 1) := by decide +kernel
theorem dX11_take_114 : decode cX11_take 114 = .ok (.getfield 26, 3) := by decide +kernel
theorem dX11_take_117 : decode cX11_take 117 = .ok (.iload_n 2, 1) := by decide +kernel
theorem dX11_take_118 : decode cX11_take 118 = .ok (.baload, 1) := by decide +kernel
theorem dX11_take_119 : decode cX11_take 119 = .ok (.ifCond .ne 6, 3) := by decide +kernel
theorem dX11_take_122 : decode cX11_take 122 = .ok (.goto 131, 3) := by decide +kernel
theorem dX11_take_125 : decode cX11_take 125 = .ok (.aload_n 0, 1) := by decide +kernel
theorem dX11_take_126 : decode cX11_take 126 = .ok (.dup, 1) := by decide +kernel
theorem dX11_take_127 : decode cX11_take 127 = .ok (.getfield 104, 3) := by decide +kernel
theorem dX11_take_130 : decode cX11_take 130 = .ok (.aload_n 0, 1) := by decide +kernel
theorem dX11_take_131 : decode cX11_take 131 = .ok (.getfield 18, 3) := by decide +kernel
theorem dX11_take_134 : decode cX11_take 134 = .ok (.iload_n 2, 1) := by decide +kernel
theorem dX11_take_135 : decode cX11_take 135 = .ok (.iaload, 1) := by decide +kernel
theorem dX11_take_136 : decode cX11_take 136 = .ok (.aload_n 0, 1) := by decide +kernel
theorem dX11_take_137 : decode cX11_take 137 = .ok (.getfield 18, 3) := by decide +kernel
theorem dX11_take_140 : decode cX11_take 140 = .ok (.iload_n 2, 1) := by decide +kernel
theorem dX11_take_141 : decode cX11_take 141 = .ok (.iaload, 1) := by decide +kernel
theorem dX11_take_142 : decode cX11_take 142 = .ok (.imul, 1) := by decide +kernel
theorem dX11_take_143 : decode cX11_take 143 = .ok (.i2l, 1) := by decide +kernel
theorem dX11_take_144 : decode cX11_take 144 = .ok (.ladd, 1) := by decide +kernel
theorem dX11_take_145 : decode cX11_take 145 = .ok (.putfield 104, 3) := by decide +kernel
theorem dX11_take_148 : decode cX11_take 148 = .ok (.iconst 0, 1) := by decide +kernel
theorem dX11_take_149 : decode cX11_take 149 = .ok (.istore_n 3, 1) := by decide +kernel
theorem dX11_take_150 : decode cX11_take 150 = .ok (.iload_n 3, 1) := by decide +kernel
theorem dX11_take_151 : decode cX11_take 151 = .ok (.aload_n 0, 1) := by decide +kernel
theorem dX11_take_152 : decode cX11_take 152 = .ok (.getfield 101, 3) := by decide +kernel
theorem dX11_take_155 : decode cX11_take 155 = .ok (.if_icmp .ge 98, 3) := by decide +kernel
theorem dX11_take_158 : decode cX11_take 158 = .ok (.aload_n 0, 1) := by decide +kernel
theorem dX11_take_159 : decode cX11_take 159 = .ok (.getfield 34, 3) := by decide +kernel
theorem dX11_take_162 : decode cX11_take 162 = .ok (.iload_n 3, 1) := by decide +kernel
theorem dX11_take_163 : decode cX11_take 163 = .ok (.dup2, 1) := by decide +kernel
theorem dX11_take_164 : decode cX11_take 164 = .ok (.laload, 1) := by decide +kernel
theorem dX11_take_165 : decode cX11_take 165 = .ok (.aload_n 0, 1) := by decide +kernel
theorem dX11_take_166 : decode cX11_take 166 = .ok (.getfield 15, 3) := by decide +kernel
theorem dX11_take_169 : decode cX11_take 169 = .ok (.iload_n 2, 1) := by decide +kernel
theorem dX11_take_170 : decode cX11_take 170 = .ok (.aaload, 1) := by decide +kernel
theorem dX11_take_171 : decode cX11_take 171 = .ok (.aload_n 0, 1) := by decide +kernel
theorem dX11_take_172 : decode cX11_take 172 = .ok (.getfield 38, 3) := by decide +kernel
theorem dX11_take_175 : decode cX11_take 175 = .ok (.iload_n 3, 1) := by decide +kernel
theorem dX11_take_176 : decode cX11_take 176 = .ok (.iaload, 1) := by decide +kernel
theorem dX11_take_177 : decode cX11_take 177 = .ok (.iaload, 1) := by decide +kernel
theorem dX11_take_178 : decode cX11_take 178 = .ok (.aload_n 0, 1) := by decide +kernel
theorem dX11_take_179 : decode cX11_take 179 = .ok (.getfield 18, 3) := by decide +kernel
theorem dX11_take_182 : decode cX11_take 182 = .ok (.iload_n 2, 1) := by decide +kernel
theorem dX11_take_183 : decode cX11_take 183 = .ok (.iaload, 1) := by decide +kernel
theorem dX11_take_184 : decode cX11_take 184 = .ok (.imul, 1) := by decide +kernel
theorem dX11_take_185 : decode cX11_take 185 = .ok (.i2l, 1) := by decide +kernel
theorem dX11_take_186 : decode cX11_take 186 = .ok (.ladd, 1) := by decide +kernel
theorem dX11_take_187 : decode cX11_take 187 = .ok (.lastore, 1) := by decide +kernel
theorem dX11_take_188 : decode cX11_take 188 = .ok (.iconst 0, 1) := by decide +kernel
theorem dX11_take_189 : decode cX11_take 189 = .ok (.istore 4, 2) := by decide +kernel
theorem dX11_take_191 : decode cX11_take 191 = .ok (.iload 4, 2) := by decide +kernel
theorem dX11_take_193 : decode cX11_take 193 = .ok (.aload_n 0, 1) := by decide +kernel
theorem dX11_take_194 : decode cX11_take 194 = .ok (.getfield 101, 3) := by decide +kernel
theorem dX11_take_197 : decode cX11_take 197 = .ok (.if_icmp .ge 50, 3) := by decide +kernel
theorem dX11_take_200 : decode cX11_take 200 = .ok (.aload_n 0, 1) := by decide +kernel
theorem dX11_take_201 : decode cX11_take 201 = .ok (.getfield 31, 3) := by decide +kernel
theorem dX11_take_204 : decode cX11_take 204 = .ok (.iload_n 3, 1) := by decide +kernel
theorem dX11_take_205 : decode cX11_take 205 = .ok (.aaload, 1) := by decide +kernel
theorem dX11_take_206 : decode cX11_take 206 = .ok (.iload 4, 2) := by decide +kernel
theorem dX11_take_208 : decode cX11_take 208 = .ok (.dup2, 1) := by decide +kernel
theorem dX11_take_209 : decode cX11_take 209 = .ok (.laload, 1) := by decide +kernel
theorem dX11_take_210 : decode cX11_take 210 = .ok (.aload_n 0, 1) := by decide +kernel
theorem dX11_take_211 : decode cX11_take 211 = .ok (.getfield 15, 3) := by decide +kernel
theorem dX11_take_214 : decode cX11_take 214 = .ok (.iload_n 2, 1) := by decide +kernel
theorem dX11_take_215 : decode cX11_take 215 = .ok (.aaload, 1) := by decide +kernel
theorem dX11_take_216 : decode cX11_take 216 = .ok (.aload_n 0, 1) := by decide +kernel
theorem dX11_take_217 : decode cX11_take 217 = .ok (.getfield 38, 3) := by decide +kernel
theorem dX11_take_220 : decode cX11_take 220 = .ok (.iload_n 3, 1) := by decide +kernel
theorem dX11_take_221 : decode cX11_take 221 = .ok (.iaload, 1) := by decide +kernel
theorem dX11_take_222 : decode cX11_take 222 = .ok (.iaload, 1) := by decide +kernel
theorem dX11_take_223 : decode cX11_take 223 = .ok (.aload_n 0, 1) := by decide +kernel
theorem dX11_take_224 : decode cX11_take 224 = .ok (.getfield 15, 3) := by decide +kernel
theorem dX11_take_227 : decode cX11_take 227 = .ok (.iload_n 2, 1) := by decide +kernel
theorem dX11_take_228 : decode cX11_take 228 = .ok (.aaload, 1) := by decide +kernel
theorem dX11_take_229 : decode cX11_take 229 = .ok (.aload_n 0, 1) := by decide +kernel
theorem dX11_take_230 : decode cX11_take 230 = .ok (.getfield 38, 3) := by decide +kernel
theorem dX11_take_233 : decode cX11_take 233 = .ok (.iload 4, 2) := by decide +kernel
theorem dX11_take_235 : decode cX11_take 235 = .ok (.iaload, 1) := by decide +kernel
theorem dX11_take_236 : decode cX11_take 236 = .ok (.iaload, 1) := by decide +kernel
theorem dX11_take_237 : decode cX11_take 237 = .ok (.imul, 1) := by decide +kernel
theorem dX11_take_238 : decode cX11_take 238 = .ok (.i2l, 1) := by decide +kernel
theorem dX11_take_239 : decode cX11_take 239 = .ok (.ladd, 1) := by decide +kernel
theorem dX11_take_240 : decode cX11_take 240 = .ok (.lastore, 1) := by decide +kernel
theorem dX11_take_241 : decode cX11_take 241 = .ok (.iinc 4 1, 3) := by decide +kernel
theorem dX11_take_244 : decode cX11_take 244 = .ok (.goto (-53), 3) := by decide +kernel
theorem dX11_take_247 : decode cX11_take 247 = .ok (.iinc 3 1, 3) := by decide +kernel
theorem dX11_take_250 : decode cX11_take 250 = .ok (.goto (-100), 3) := by decide +kernel
theorem dX11_take_253 : decode cX11_take 253 = .ok (.iinc 2 1, 3) := by decide +kernel
theorem dX11_take_256 : decode cX11_take 256 = .ok (.goto (-151), 3) := by decide +kernel
theorem dX11_take_259 : decode cX11_take 259 = .ok (.return_, 1) := by decide +kernel
theorem dX11_minor_0 : decode cX11_minor 0 = .ok (.iload_n 1, 1) := by decide +kernel
theorem dX11_minor_1 : decode cX11_minor 1 = .ok (.ifCond .ne 7, 3) := by decide +kernel
theorem dX11_minor_4 : decode cX11_minor 4 = .ok (.iconst 1, 1) := by decide +kernel
theorem dX11_minor_5 : decode cX11_minor 5 = .ok (.goto 4, 3) := by decide +kernel
theorem dX11_minor_8 : decode cX11_minor 8 = .ok (.iconst 0, 1) := by decide +kernel
theorem dX11_minor_9 : decode cX11_minor 9 = .ok (.istore_n 3, 1) := by decide +kernel
theorem dX11_minor_10 : decode cX11_minor 10 = .ok (.iload_n 1, 1) := by decide +kernel
theorem dX11_minor_11 : decode cX11_minor 11 = .ok (.iconst 2, 1) := by decide +kernel
theorem dX11_minor_12 : decode cX11_minor 12 = .ok (.if_icmp .ne 7, 3) := by decide +kernel
theorem dX11_minor_15 : decode cX11_minor 15 = .ok (.iconst 1, 1) := by decide +kernel
theorem dX11_minor_16 : decode cX11_minor 16 = .ok (.goto 4, 3) := by decide +kernel
theorem dX11_minor_19 : decode cX11_minor 19 = .ok (.iconst 2, 1) := by decide +kernel
theorem dX11_minor_20 : decode cX11_minor 20 = .ok (.istore 4, 2) := by decide +kernel
theorem dX11_minor_22 : decode cX11_minor 22 = .ok (.iload_n 2, 1) := by decide +kernel
theorem dX11_minor_23 : decode cX11_minor 23 = .ok (.ifCond .ne 7, 3) := by decide +kernel
theorem dX11_minor_26 : decode cX11_minor 26 = .ok (.iconst 1, 1) := by decide +kernel
theorem dX11_minor_27 : decode cX11_minor 27 = .ok (.goto 4, 3) := by decide +kernel
theorem dX11_minor_30 : decode cX11_minor 30 = .ok (.iconst 0, 1) := by decide +kernel
theorem dX11_minor_31 : decode cX11_minor 31 = .ok (.istore 5, 2) := by decide +kernel
theorem dX11_minor_33 : decode cX11_minor 33 = .ok (.iload_n 2, 1) := by decide +kernel
theorem dX11_minor_34 : decode cX11_minor 34 = .ok (.iconst 2, 1) := by decide +kernel
theorem dX11_minor_35 : decode cX11_minor 35 = .ok (.if_icmp .ne 7, 3) := by decide +kernel
theorem dX11_minor_38 : decode cX11_minor 38 = .ok (.iconst 1, 1) := by decide +kernel
theorem dX11_minor_39 : decode cX11_minor 39 = .ok (.goto 4, 3) := by decide +kernel
theorem dX11_minor_42 : decode cX11_minor 42 = .ok (.iconst 2, 1) := by decide +kernel
theorem dX11_minor_43 : decode cX11_minor 43 = .ok (.istore 6, 2) := by decide +kernel
theorem dX11_minor_45 : decode cX11_minor 45 = .ok (.aload_n 0, 1) := by decide +kernel
theorem dX11_minor_46 : decode cX11_minor 46 = .ok (.getfield 41, 3) := by decide +kernel
theorem dX11_minor_49 : decode cX11_minor 49 = .ok (.iload_n 3, 1) := by decide +kernel
theorem dX11_minor_50 : decode cX11_minor 50 = .ok (.aaload, 1) := by decide +kernel
theorem dX11_minor_51 : decode cX11_minor 51 = .ok (.iload 5, 2) := by decide +kernel
theorem dX11_minor_53 : decode cX11_minor 53 = .ok (.laload, 1) := by decide +kernel
theorem dX11_minor_54 : decode cX11_minor 54 = .ok (.aload_n 0, 1) := by decide +kernel
theorem dX11_minor_55 : decode cX11_minor 55 = .ok (.getfield 41, 3) := by decide +kernel
theorem dX11_minor_58 : decode cX11_minor 58 = .ok (.iload 4, 2) := by decide +kernel
theorem dX11_minor_60 : decode cX11_minor 60 = .ok (.aaload, 1) := by decide +kernel
theorem dX11_minor_61 : decode cX11_minor 61 = .ok (.iload 6, 2) := by decide +kernel
theorem dX11_minor_63 : decode cX11_minor 63 = .ok (.laload, 1) := by decide +kernel
theorem dX11_minor_64 : decode cX11_minor 64 = .ok (.lmul, 1) := by decide +kernel
theorem dX11_minor_65 : decode cX11_minor 65 = .ok (.aload_n 0, 1) := by decide +kernel
theorem dX11_minor_66 : decode cX11_minor 66 = .ok (.getfield 41, 3) := by decide +kernel
theorem dX11_minor_69 : decode cX11_minor 69 = .ok (.iload_n 3, 1) := by decide +kernel
theorem dX11_minor_70 : decode cX11_minor 70 = .ok (.aaload, 1) := by decide +kernel
theorem dX11_minor_71 : decode cX11_minor 71 = .ok (.iload 6, 2) := by decide +kernel
theorem dX11_minor_73 : decode cX11_minor 73 = .ok (.laload, 1) := by decide +kernel
theorem dX11_minor_74 : decode cX11_minor 74 = .ok (.aload_n 0, 1) := by decide +kernel
theorem dX11_minor_75 : decode cX11_minor 75 = .ok (.getfield 41, 3) := by decide +kernel
theorem dX11_minor_78 : decode cX11_minor 78 = .ok (.iload 4, 2) := by decide +kernel
theorem dX11_minor_80 : decode cX11_minor 80 = .ok (.aaload, 1) := by decide +kernel
theorem dX11_minor_81 : decode cX11_minor 81 = .ok (.iload 5, 2) := by decide +kernel
theorem dX11_minor_83 : decode cX11_minor 83 = .ok (.laload, 1) := by decide +kernel
theorem dX11_minor_84 : decode cX11_minor 84 = .ok (.lmul, 1) := by decide +kernel
theorem dX11_minor_85 : decode cX11_minor 85 = .ok (.lsub, 1) := by decide +kernel
theorem dX11_minor_86 : decode cX11_minor 86 = .ok (.lreturn, 1) := by decide +kernel
theorem dX11_determinant_0 : decode cX11_determinant 0 = .ok (.iload_n 1, 1) := by decide +kernel
theorem dX11_determinant_1 : decode cX11_determinant 1 = .ok (.ifCond .ne 5, 3) := by decide +kernel
theorem dX11_determinant_4 : decode cX11_determinant 4 = .ok (.lconst 1, 1) := by decide +kernel
theorem dX11_determinant_5 : decode cX11_determinant 5 = .ok (.lreturn, 1) := by decide +kernel
theorem dX11_determinant_6 : decode cX11_determinant 6 = .ok (.iload_n 1, 1) := by decide +kernel
theorem dX11_determinant_7 : decode cX11_determinant 7 = .ok (.iconst 1, 1) := by decide +kernel
theorem dX11_determinant_8 : decode cX11_determinant 8 = .ok (.if_icmp .ne 12, 3) := by decide +kernel
theorem dX11_determinant_11 : decode cX11_determinant 11 = .ok (.aload_n 0, 1) := by decide +kernel
theorem dX11_determinant_12 : decode cX11_determinant 12 = .ok (.getfield 41, 3) := by decide +kernel
theorem dX11_determinant_15 : decode cX11_determinant 15 = .ok (.iconst 0, 1) := by decide +kernel
theorem dX11_determinant_16 : decode cX11_determinant 16 = .ok (.aaload, 1) := by decide +kernel
theorem dX11_determinant_17 : decode cX11_determinant 17 = .ok (.iconst 0, 1) := by decide +kernel
theorem dX11_determinant_18 : decode cX11_determinant 18 = .ok (.laload, 1) := by decide +kernel
theorem dX11_determinant_19 : decode cX11_determinant 19 = .ok (.lreturn, 1) := by decide +kernel
theorem dX11_determinant_20 : decode cX11_determinant 20 = .ok (.iload_n 1, 1) := by decide +kernel
theorem dX11_determinant_21 : decode cX11_determinant 21 = .ok (.iconst 2, 1) := by decide +kernel
theorem dX11_determinant_22 : decode cX11_determinant 22 = .ok (.if_icmp .ne 39, 3) := by decide +kernel
theorem dX11_determinant_25 : decode cX11_determinant 25 = .ok (.aload_n 0, 1) := by decide +kernel
theorem dX11_determinant_26 : decode cX11_determinant 26 = .ok (.getfield 41, 3) := by decide +kernel
theorem dX11_determinant_29 : decode cX11_determinant 29 = .ok (.iconst 0, 1) := by decide +kernel
theorem dX11_determinant_30 : decode cX11_determinant 30 = .ok (.aaload, 1) := by decide +kernel
theorem dX11_determinant_31 : decode cX11_determinant 31 = .ok (.iconst 0, 1) := by decide +kernel
theorem dX11_determinant_32 : decode cX11_determinant 32 = .ok (.laload, 1) := by decide +kernel
theorem dX11_determinant_33 : decode cX11_determinant 33 = .ok (.aload_n 0, 1) := by decide +kernel
theorem dX11_determinant_34 : decode cX11_determinant 34 = .ok (.getfield 41, 3) := by decide +kernel
theorem dX11_determinant_37 : decode cX11_determinant 37 = .ok (.iconst 1, 1) := by decide +kernel
theorem dX11_determinant_38 : decode cX11_determinant 38 = .ok (.aaload, 1) := by decide +kernel
theorem dX11_determinant_39 : decode cX11_determinant 39 = .ok (.iconst 1, 1) := by decide +kernel
theorem dX11_determinant_40 : decode cX11_determinant 40 = .ok (.laload, 1) := by decide +kernel
theorem dX11_determinant_41 : decode cX11_determinant 41 = .ok (.lmul, 1) := by decide +kernel
theorem dX11_determinant_42 : decode cX11_determinant 42 = .ok (.aload_n 0, 1) := by decide +kernel
theorem dX11_determinant_43 : decode cX11_determinant 43 = .ok (.getfield 41, 3) := by decide +kernel
theorem dX11_determinant_46 : decode cX11_determinant 46 = .ok (.iconst 0, 1) := by decide +kernel
theorem dX11_determinant_47 : decode cX11_determinant 47 = .ok (.aaload, 1) := by decide +kernel
theorem dX11_determinant_48 : decode cX11_determinant 48 = .ok (.iconst 1, 1) := by decide +kernel
theorem dX11_determinant_49 : decode cX11_determinant 49 = .ok (.laload, 1) := by decide +kernel
theorem dX11_determinant_50 : decode cX11_determinant 50 = .ok (.aload_n 0, 1) := by decide +kernel
theorem dX11_determinant_51 : decode cX11_determinant 51 = .ok (.getfield 41, 3) := by decide +kernel
theorem dX11_determinant_54 : decode cX11_determinant 54 = .ok (.iconst 1, 1) := by decide +kernel
theorem dX11_determinant_55 : decode cX11_determinant 55 = .ok (.aaload, 1) := by decide +kernel
theorem dX11_determinant_56 : decode cX11_determinant 56 = .ok (.iconst 0, 1) := by decide +kernel
theorem dX11_determinant_57 : decode cX11_determinant 57 = .ok (.laload, 1) := by decide +kernel
theorem dX11_determinant_58 : decode cX11_determinant 58 = .ok (.lmul, 1) := by decide +kernel
theorem dX11_determinant_59 : decode cX11_determinant 59 = .ok (.lsub, 1) := by decide +kernel
theorem dX11_determinant_60 : decode cX11_determinant 60 = .ok (.lreturn, 1) := by decide +kernel
theorem dX11_determinant_61 : decode cX11_determinant 61 = .ok (.aload_n 0, 1) := by decide +kernel
theorem dX11_determinant_62 : decode cX11_determinant 62 = .ok (.getfield 41, 3) := by decide +kernel
theorem dX11_determinant_65 : decode cX11_determinant 65 = .ok (.iconst 0, 1) := by decide +kernel
theorem dX11_determinant_66 : decode cX11_determinant 66 = .ok (.aaload, 1) := by decide +kernel
theorem dX11_determinant_67 : decode cX11_determinant 67 = .ok (.iconst 0, 1) := by decide +kernel
theorem dX11_determinant_68 : decode cX11_determinant 68 = .ok (.laload, 1) := by decide +kernel
theorem dX11_determinant_69 : decode cX11_determinant 69 = .ok (.aload_n 0, 1) := by decide +kernel
theorem dX11_determinant_70 : decode cX11_determinant 70 = .ok (.iconst 0, 1) := by decide +kernel
theorem dX11_determinant_71 : decode cX11_determinant 71 = .ok (.iconst 0, 1) := by decide +kernel
theorem dX11_determinant_72 : decode cX11_determinant 72 = .ok (.invokevirtual 108, 3) := by decide +kernel
theorem dX11_determinant_75 : decode cX11_determinant 75 = .ok (.lmul, 1) := by decide +kernel
theorem dX11_determinant_76 : decode cX11_determinant 76 = .ok (.aload_n 0, 1) := by decide +kernel
theorem dX11_determinant_77 : decode cX11_determinant 77 = .ok (.getfield 41, 3) := by decide +kernel
theorem dX11_determinant_80 : decode cX11_determinant 80 = .ok (.iconst 0, 1) := by decide +kernel
theorem dX11_determinant_81 : decode cX11_determinant 81 = .ok (.aaload, 1) := by decide +kernel
theorem dX11_determinant_82 : decode cX11_determinant 82 = .ok (.iconst 1, 1) := by decide +kernel
theorem dX11_determinant_83 : decode cX11_determinant 83 = .ok (.laload, 1) := by decide +kernel
theorem dX11_determinant_84 : decode cX11_determinant 84 = .ok (.aload_n 0, 1) := by decide +kernel
theorem dX11_determinant_85 : decode cX11_determinant 85 = .ok (.iconst 0, 1) := by decide +kernel
theorem dX11_determinant_86 : decode cX11_determinant 86 = .ok (.iconst 1, 1) := by decide +kernel
theorem dX11_determinant_87 : decode cX11_determinant 87 = .ok (.invokevirtual 108, 3) := by decide +kernel
theorem dX11_determinant_90 : decode cX11_determinant 90 = .ok (.lmul, 1) := by decide +kernel
theorem dX11_determinant_91 : decode cX11_determinant 91 = .ok (.lsub, 1) := by decide +kernel
theorem dX11_determinant_92 : decode cX11_determinant 92 = .ok (.aload_n 0, 1) := by decide +kernel
theorem dX11_determinant_93 : decode cX11_determinant 93 = .ok (.getfield 41, 3) := by decide +kernel
theorem dX11_determinant_96 : decode cX11_determinant 96 = .ok (.iconst 0, 1) := by decide +kernel
theorem dX11_determinant_97 : decode cX11_determinant 97 = .ok (.aaload, 1) := by decide +kernel
theorem dX11_determinant_98 : decode cX11_determinant 98 = .ok (.iconst 2, 1) := by decide +kernel
theorem dX11_determinant_99 : decode cX11_determinant 99 = .ok (.laload, 1) := by decide +kernel
theorem dX11_determinant_100 : decode cX11_determinant 100 = .ok (.aload_n 0, 1) := by decide +kernel
theorem dX11_determinant_101 : decode cX11_determinant 101 = .ok (.iconst 0, 1) := by decide +kernel
theorem dX11_determinant_102 : decode cX11_determinant 102 = .ok (.iconst 2, 1) := by decide +kernel
theorem dX11_determinant_103 : decode cX11_determinant 103 = .ok (.invokevirtual 108, 3) := by decide +kernel
theorem dX11_determinant_106 : decode cX11_determinant 106 = .ok (.lmul, 1) := by decide +kernel
theorem dX11_determinant_107 : decode cX11_determinant 107 = .ok (.ladd, 1) := by decide +kernel
theorem dX11_determinant_108 : decode cX11_determinant 108 = .ok (.lreturn, 1) := by decide +kernel
theorem dX11_solve_0 : decode cX11_solve 0 = .ok (.aload_n 0, 1) := by decide +kernel
theorem dX11_solve_1 : decode cX11_solve 1 = .ok (.aload_n 0, 1) := by decide +kernel
theorem dX11_solve_2 : decode cX11_solve 2 = .ok (.iload_n 1, 1) := by decide +kernel
theorem dX11_solve_3 : decode cX11_solve 3 = .ok (.invokevirtual 112, 3) := by decide +kernel
theorem dX11_solve_6 : decode cX11_solve 6 = .ok (.putfield 116, 3) := by decide +kernel
theorem dX11_solve_9 : decode cX11_solve 9 = .ok (.iconst 0, 1) := by decide +kernel
theorem dX11_solve_10 : decode cX11_solve 10 = .ok (.istore_n 2, 1) := by decide +kernel
theorem dX11_solve_11 : decode cX11_solve 11 = .ok (.iload_n 2, 1) := by decide +kernel
theorem dX11_solve_12 : decode cX11_solve 12 = .ok (.iload_n 1, 1) := by decide +kernel
theorem dX11_solve_13 : decode cX11_solve 13 = .ok (.if_icmp .ge 131, 3) := by decide +kernel
theorem dX11_solve_16 : decode cX11_solve 16 = .ok (.lconst 0, 1) := by decide +kernel
theorem dX11_solve_17 : decode cX11_solve 17 = .ok (.lstore_n 3, 1) := by decide +kernel
theorem dX11_solve_18 : decode cX11_solve 18 = .ok (.iconst 0, 1) := by decide +kernel
theorem dX11_solve_19 : decode cX11_solve 19 = .ok (.istore 5, 2) := by decide +kernel
theorem dX11_solve_21 : decode cX11_solve 21 = .ok (.iload 5, 2) := by decide +kernel
theorem dX11_solve_23 : decode cX11_solve 23 = .ok (.iload_n 1, 1) := by decide +kernel
theorem dX11_solve_24 : decode cX11_solve 24 = .ok (.if_icmp .ge 107, 3) := by decide +kernel
theorem dX11_solve_27 : decode cX11_solve 27 = .ok (.iload_n 1, 1) := by decide +kernel
theorem dX11_solve_28 : decode cX11_solve 28 = .ok (.iconst 1, 1) := by decide +kernel
theorem dX11_solve_29 : decode cX11_solve 29 = .ok (.if_icmp .ne 7, 3) := by decide +kernel
theorem dX11_solve_32 : decode cX11_solve 32 = .ok (.lconst 1, 1) := by decide +kernel
theorem dX11_solve_33 : decode cX11_solve 33 = .ok (.goto 77, 3) := by decide +kernel
theorem dX11_solve_36 : decode cX11_solve 36 = .ok (.iload_n 1, 1) := by decide +kernel
theorem dX11_solve_37 : decode cX11_solve 37 = .ok (.iconst 2, 1) := by decide +kernel
theorem dX11_solve_38 : decode cX11_solve 38 = .ok (.if_icmp .ne 45, 3) := by decide +kernel
theorem dX11_solve_41 : decode cX11_solve 41 = .ok (.iload 5, 2) := by decide +kernel
theorem dX11_solve_43 : decode cX11_solve 43 = .ok (.iload_n 2, 1) := by decide +kernel
theorem dX11_solve_44 : decode cX11_solve 44 = .ok (.iadd, 1) := by decide +kernel
theorem dX11_solve_45 : decode cX11_solve 45 = .ok (.iconst 1, 1) := by decide +kernel
theorem dX11_solve_46 : decode cX11_solve 46 = .ok (.iand, 1) := by decide +kernel
theorem dX11_solve_47 : decode cX11_solve 47 = .ok (.ifCond .ne 19, 3) := by decide +kernel
theorem dX11_solve_50 : decode cX11_solve 50 = .ok (.aload_n 0, 1) := by decide +kernel
theorem dX11_solve_51 : decode cX11_solve 51 = .ok (.getfield 41, 3) := by decide +kernel
theorem dX11_solve_54 : decode cX11_solve 54 = .ok (.iconst 1, 1) := by decide +kernel
theorem dX11_solve_55 : decode cX11_solve 55 = .ok (.iload 5, 2) := by decide +kernel
theorem dX11_solve_57 : decode cX11_solve 57 = .ok (.isub, 1) := by decide +kernel
theorem dX11_solve_58 : decode cX11_solve 58 = .ok (.aaload, 1) := by decide +kernel
theorem dX11_solve_59 : decode cX11_solve 59 = .ok (.iconst 1, 1) := by decide +kernel
theorem dX11_solve_60 : decode cX11_solve 60 = .ok (.iload_n 2, 1) := by decide +kernel
theorem dX11_solve_61 : decode cX11_solve 61 = .ok (.isub, 1) := by decide +kernel
theorem dX11_solve_62 : decode cX11_solve 62 = .ok (.laload, 1) := by decide +kernel
theorem dX11_solve_63 : decode cX11_solve 63 = .ok (.goto 47, 3) := by decide +kernel
theorem dX11_solve_66 : decode cX11_solve 66 = .ok (.aload_n 0, 1) := by decide +kernel
theorem dX11_solve_67 : decode cX11_solve 67 = .ok (.getfield 41, 3) := by decide +kernel
theorem dX11_solve_70 : decode cX11_solve 70 = .ok (.iconst 1, 1) := by decide +kernel
theorem dX11_solve_71 : decode cX11_solve 71 = .ok (.iload 5, 2) := by decide +kernel
theorem dX11_solve_73 : decode cX11_solve 73 = .ok (.isub, 1) := by decide +kernel
theorem dX11_solve_74 : decode cX11_solve 74 = .ok (.aaload, 1) := by decide +kernel
theorem dX11_solve_75 : decode cX11_solve 75 = .ok (.iconst 1, 1) := by decide +kernel
theorem dX11_solve_76 : decode cX11_solve 76 = .ok (.iload_n 2, 1) := by decide +kernel
theorem dX11_solve_77 : decode cX11_solve 77 = .ok (.isub, 1) := by decide +kernel
theorem dX11_solve_78 : decode cX11_solve 78 = .ok (.laload, 1) := by decide +kernel
theorem dX11_solve_79 : decode cX11_solve 79 = .ok (.lneg, 1) := by decide +kernel
theorem dX11_solve_80 : decode cX11_solve 80 = .ok (.goto 30, 3) := by decide +kernel
theorem dX11_solve_83 : decode cX11_solve 83 = .ok (.iload 5, 2) := by decide +kernel
theorem dX11_solve_85 : decode cX11_solve 85 = .ok (.iload_n 2, 1) := by decide +kernel
theorem dX11_solve_86 : decode cX11_solve 86 = .ok (.iadd, 1) := by decide +kernel
theorem dX11_solve_87 : decode cX11_solve 87 = .ok (.iconst 1, 1) := by decide +kernel
theorem dX11_solve_88 : decode cX11_solve 88 = .ok (.iand, 1) := by decide +kernel
theorem dX11_solve_89 : decode cX11_solve 89 = .ok (.ifCond .ne 13, 3) := by decide +kernel
theorem dX11_solve_92 : decode cX11_solve 92 = .ok (.aload_n 0, 1) := by decide +kernel
theorem dX11_solve_93 : decode cX11_solve 93 = .ok (.iload 5, 2) := by decide +kernel
theorem dX11_solve_95 : decode cX11_solve 95 = .ok (.iload_n 2, 1) := by decide +kernel
theorem dX11_solve_96 : decode cX11_solve 96 = .ok (.invokevirtual 108, 3) := by decide +kernel
theorem dX11_solve_99 : decode cX11_solve 99 = .ok (.goto 11, 3) := by decide +kernel
theorem dX11_solve_102 : decode cX11_solve 102 = .ok (.aload_n 0, 1) := by decide +kernel
theorem dX11_solve_103 : decode cX11_solve 103 = .ok (.iload 5, 2) := by decide +kernel
theorem dX11_solve_105 : decode cX11_solve 105 = .ok (.iload_n 2, 1) := by decide +kernel
theorem dX11_solve_106 : decode cX11_solve 106 = .ok (.invokevirtual 108, 3) := by decide +kernel
theorem dX11_solve_109 : decode cX11_solve 109 = .ok (.lneg, 1) := by decide +kernel
theorem dX11_solve_110 : decode cX11_solve 110 = .ok (.lstore 6, 2) := by decide +kernel
theorem dX11_solve_112 : decode cX11_solve 112 = .ok (.lload_n 3, 1) := by decide +kernel
theorem dX11_solve_113 : decode cX11_solve 113 = .ok (.lload 6, 2) := by decide +kernel
theorem dX11_solve_115 : decode cX11_solve 115 = .ok (.aload_n 0, 1) := by decide +kernel
theorem dX11_solve_116 : decode cX11_solve 116 = .ok (.getfield 44, 3) := by decide +kernel
theorem dX11_solve_119 : decode cX11_solve 119 = .ok (.iload 5, 2) := by decide +kernel
theorem dX11_solve_121 : decode cX11_solve 121 = .ok (.laload, 1) := by decide +kernel
theorem dX11_solve_122 : decode cX11_solve 122 = .ok (.lmul, 1) := by decide +kernel
theorem dX11_solve_123 : decode cX11_solve 123 = .ok (.ladd, 1) := by decide +kernel
theorem dX11_solve_124 : decode cX11_solve 124 = .ok (.lstore_n 3, 1) := by decide +kernel
theorem dX11_solve_125 : decode cX11_solve 125 = .ok (.iinc 5 1, 3) := by decide +kernel
theorem dX11_solve_128 : decode cX11_solve 128 = .ok (.goto (-107), 3) := by decide +kernel
theorem dX11_solve_131 : decode cX11_solve 131 = .ok (.aload_n 0, 1) := by decide +kernel
theorem dX11_solve_132 : decode cX11_solve 132 = .ok (.getfield 47, 3) := by decide +kernel
theorem dX11_solve_135 : decode cX11_solve 135 = .ok (.iload_n 2, 1) := by decide +kernel
theorem dX11_solve_136 : decode cX11_solve 136 = .ok (.lload_n 3, 1) := by decide +kernel
theorem dX11_solve_137 : decode cX11_solve 137 = .ok (.lastore, 1) := by decide +kernel
theorem dX11_solve_138 : decode cX11_solve 138 = .ok (.iinc 2 1, 3) := by decide +kernel
theorem dX11_solve_141 : decode cX11_solve 141 = .ok (.goto (-130), 3) := by decide +kernel
theorem dX11_solve_144 : decode cX11_solve 144 = .ok (.aload_n 0, 1) := by decide +kernel
theorem dX11_solve_145 : decode cX11_solve 145 = .ok (.getfield 116, 3) := by decide +kernel
theorem dX11_solve_148 : decode cX11_solve 148 = .ok (.lconst 0, 1) := by decide +kernel
theorem dX11_solve_149 : decode cX11_solve 149 = .ok (.lcmp, 1) := by decide +kernel
theorem dX11_solve_150 : decode cX11_solve 150 = .ok (.ifCond .ge 11, 3) := by decide +kernel
theorem dX11_solve_153 : decode cX11_solve 153 = .ok (.aload_n 0, 1) := by decide +kernel
theorem dX11_solve_154 : decode cX11_solve 154 = .ok (.getfield 116, 3) := by decide +kernel
theorem dX11_solve_157 : decode cX11_solve 157 = .ok (.lneg, 1) := by decide +kernel
theorem dX11_solve_158 : decode cX11_solve 158 = .ok (.goto 7, 3) := by decide +kernel
theorem dX11_solve_161 : decode cX11_solve 161 = .ok (.aload_n 0, 1) := by decide +kernel
theorem dX11_solve_162 : decode cX11_solve 162 = .ok (.getfield 116, 3) := by decide +kernel
theorem dX11_solve_165 : decode cX11_solve 165 = .ok (.lstore_n 2, 1) := by decide +kernel
theorem dX11_solve_166 : decode cX11_solve 166 = .ok (.lload_n 2, 1) := by decide +kernel
theorem dX11_solve_167 : decode cX11_solve 167 = .ok (.lstore 4, 2) := by decide +kernel
theorem dX11_solve_169 : decode cX11_solve 169 = .ok (.iconst 0, 1) := by decide +kernel
theorem dX11_solve_170 : decode cX11_solve 170 = .ok (.istore 6, 2) := by decide +kernel
theorem dX11_solve_172 : decode cX11_solve 172 = .ok (.iload 6, 2) := by decide +kernel
theorem dX11_solve_174 : decode cX11_solve 174 = .ok (.iload_n 1, 1) := by decide +kernel
theorem dX11_solve_175 : decode cX11_solve 175 = .ok (.if_icmp .ge 23, 3) := by decide +kernel
theorem dX11_solve_178 : decode cX11_solve 178 = .ok (.lload 4, 2) := by decide +kernel
theorem dX11_solve_180 : decode cX11_solve 180 = .ok (.aload_n 0, 1) := by decide +kernel
theorem dX11_solve_181 : decode cX11_solve 181 = .ok (.getfield 47, 3) := by decide +kernel
theorem dX11_solve_184 : decode cX11_solve 184 = .ok (.iload 6, 2) := by decide +kernel
theorem dX11_solve_186 : decode cX11_solve 186 = .ok (.laload, 1) := by decide +kernel
theorem dX11_solve_187 : decode cX11_solve 187 = .ok (.invokestatic 85, 3) := by decide +kernel
theorem dX11_solve_190 : decode cX11_solve 190 = .ok (.lstore 4, 2) := by decide +kernel
theorem dX11_solve_192 : decode cX11_solve 192 = .ok (.iinc 6 1, 3) := by decide +kernel
theorem dX11_solve_195 : decode cX11_solve 195 = .ok (.goto (-23), 3) := by decide +kernel
theorem dX11_solve_198 : decode cX11_solve 198 = .ok (.aload_n 0, 1) := by decide +kernel
theorem dX11_solve_199 : decode cX11_solve 199 = .ok (.getfield 116, 3) := by decide +kernel
theorem dX11_solve_202 : decode cX11_solve 202 = .ok (.lconst 0, 1) := by decide +kernel
theorem dX11_solve_203 : decode cX11_solve 203 = .ok (.lcmp, 1) := by decide +kernel
theorem dX11_solve_204 : decode cX11_solve 204 = .ok (.ifCond .ge 9, 3) := by decide +kernel
theorem dX11_solve_207 : decode cX11_solve 207 = .ok (.lload 4, 2) := by decide +kernel
theorem dX11_solve_209 : decode cX11_solve 209 = .ok (.lneg, 1) := by decide +kernel
theorem dX11_solve_210 : decode cX11_solve 210 = .ok (.goto 5, 3) := by decide +kernel
theorem dX11_solve_213 : decode cX11_solve 213 = .ok (.lload 4, 2) := by decide +kernel
theorem dX11_solve_215 : decode cX11_solve 215 = .ok (.lstore 6, 2) := by decide +kernel
theorem dX11_solve_217 : decode cX11_solve 217 = .ok (.iconst 0, 1) := by decide +kernel
theorem dX11_solve_218 : decode cX11_solve 218 = .ok (.istore 8, 2) := by decide +kernel
theorem dX11_solve_220 : decode cX11_solve 220 = .ok (.iload 8, 2) := by decide +kernel
theorem dX11_solve_222 : decode cX11_solve 222 = .ok (.iload_n 1, 1) := by decide +kernel
theorem dX11_solve_223 : decode cX11_solve 223 = .ok (.if_icmp .ge 21, 3) := by decide +kernel
theorem dX11_solve_226 : decode cX11_solve 226 = .ok (.aload_n 0, 1) := by decide +kernel
theorem dX11_solve_227 : decode cX11_solve 227 = .ok (.getfield 47, 3) := by decide +kernel
theorem dX11_solve_230 : decode cX11_solve 230 = .ok (.iload 8, 2) := by decide +kernel
theorem dX11_solve_232 : decode cX11_solve 232 = .ok (.dup2, 1) := by decide +kernel
theorem dX11_solve_233 : decode cX11_solve 233 = .ok (.laload, 1) := by decide +kernel
theorem dX11_solve_234 : decode cX11_solve 234 = .ok (.lload 6, 2) := by decide +kernel
theorem dX11_solve_236 : decode cX11_solve 236 = .ok (.ldiv, 1) := by decide +kernel
theorem dX11_solve_237 : decode cX11_solve 237 = .ok (.lastore, 1) := by decide +kernel
theorem dX11_solve_238 : decode cX11_solve 238 = .ok (.iinc 8 1, 3) := by decide +kernel
theorem dX11_solve_241 : decode cX11_solve 241 = .ok (.goto (-21), 3) := by decide +kernel
theorem dX11_solve_244 : decode cX11_solve 244 = .ok (.aload_n 0, 1) := by decide +kernel
theorem dX11_solve_245 : decode cX11_solve 245 = .ok (.lload_n 2, 1) := by decide +kernel
theorem dX11_solve_246 : decode cX11_solve 246 = .ok (.lload 4, 2) := by decide +kernel
theorem dX11_solve_248 : decode cX11_solve 248 = .ok (.ldiv, 1) := by decide +kernel
theorem dX11_solve_249 : decode cX11_solve 249 = .ok (.putfield 116, 3) := by decide +kernel
theorem dX11_solve_252 : decode cX11_solve 252 = .ok (.return_, 1) := by decide +kernel
theorem dX11_copy_0 : decode cX11_copy 0 = .ok (.iconst 0, 1) := by decide +kernel
theorem dX11_copy_1 : decode cX11_copy 1 = .ok (.istore_n 2, 1) := by decide +kernel
theorem dX11_copy_2 : decode cX11_copy 2 = .ok (.iload_n 2, 1) := by decide +kernel
theorem dX11_copy_3 : decode cX11_copy 3 = .ok (.iload_n 1, 1) := by decide +kernel
theorem dX11_copy_4 : decode cX11_copy 4 = .ok (.if_icmp .ge 38, 3) := by decide +kernel
theorem dX11_copy_7 : decode cX11_copy 7 = .ok (.iconst 0, 1) := by decide +kernel
theorem dX11_copy_8 : decode cX11_copy 8 = .ok (.istore_n 3, 1) := by decide +kernel
theorem dX11_copy_9 : decode cX11_copy 9 = .ok (.iload_n 3, 1) := by decide +kernel
theorem dX11_copy_10 : decode cX11_copy 10 = .ok (.iload_n 1, 1) := by decide +kernel
theorem dX11_copy_11 : decode cX11_copy 11 = .ok (.if_icmp .ge 25, 3) := by decide +kernel
theorem dX11_copy_14 : decode cX11_copy 14 = .ok (.aload_n 0, 1) := by decide +kernel
theorem dX11_copy_15 : decode cX11_copy 15 = .ok (.getfield 41, 3) := by decide +kernel
theorem dX11_copy_18 : decode cX11_copy 18 = .ok (.iload_n 2, 1) := by decide +kernel
theorem dX11_copy_19 : decode cX11_copy 19 = .ok (.aaload, 1) := by decide +kernel
theorem dX11_copy_20 : decode cX11_copy 20 = .ok (.iload_n 3, 1) := by decide +kernel
theorem dX11_copy_21 : decode cX11_copy 21 = .ok (.aload_n 0, 1) := by decide +kernel
theorem dX11_copy_22 : decode cX11_copy 22 = .ok (.getfield 31, 3) := by decide +kernel
theorem dX11_copy_25 : decode cX11_copy 25 = .ok (.iload_n 2, 1) := by decide +kernel
theorem dX11_copy_26 : decode cX11_copy 26 = .ok (.aaload, 1) := by decide +kernel
theorem dX11_copy_27 : decode cX11_copy 27 = .ok (.iload_n 3, 1) := by decide +kernel
theorem dX11_copy_28 : decode cX11_copy 28 = .ok (.laload, 1) := by decide +kernel
theorem dX11_copy_29 : decode cX11_copy 29 = .ok (.lastore, 1) := by decide +kernel
theorem dX11_copy_30 : decode cX11_copy 30 = .ok (.iinc 3 1, 3) := by decide +kernel
theorem dX11_copy_33 : decode cX11_copy 33 = .ok (.goto (-24), 3) := by decide +kernel
theorem dX11_copy_36 : decode cX11_copy 36 = .ok (.iinc 2 1, 3) := by decide +kernel
theorem dX11_copy_39 : decode cX11_copy 39 = .ok (.goto (-37), 3) := by decide +kernel
theorem dX11_copy_42 : decode cX11_copy 42 = .ok (.return_, 1) := by decide +kernel
theorem dX11_rank_0 : decode cX11_rank 0 = .ok (.aload_n 0, 1) := by decide +kernel
theorem dX11_rank_1 : decode cX11_rank 1 = .ok (.aload_n 0, 1) := by decide +kernel
theorem dX11_rank_2 : decode cX11_rank 2 = .ok (.getfield 101, 3) := by decide +kernel
theorem dX11_rank_5 : decode cX11_rank 5 = .ok (.invokevirtual 119, 3) := by decide +kernel
theorem dX11_rank_8 : decode cX11_rank 8 = .ok (.aload_n 0, 1) := by decide +kernel
theorem dX11_rank_9 : decode cX11_rank 9 = .ok (.aload_n 0, 1) := by decide +kernel
theorem dX11_rank_10 : decode cX11_rank 10 = .ok (.getfield 101, 3) := by decide +kernel
theorem dX11_rank_13 : decode cX11_rank 13 = .ok (.invokevirtual 112, 3) := by decide +kernel
theorem dX11_rank_16 : decode cX11_rank 16 = .ok (.lconst 0, 1) := by decide +kernel
theorem dX11_rank_17 : decode cX11_rank 17 = .ok (.lcmp, 1) := by decide +kernel
theorem dX11_rank_18 : decode cX11_rank 18 = .ok (.ifCond .eq 8, 3) := by decide +kernel
theorem dX11_rank_21 : decode cX11_rank 21 = .ok (.aload_n 0, 1) := by decide +kernel
theorem dX11_rank_22 : decode cX11_rank 22 = .ok (.getfield 101, 3) := by decide +kernel
theorem dX11_rank_25 : decode cX11_rank 25 = .ok (.ireturn, 1) := by decide +kernel
theorem dX11_rank_26 : decode cX11_rank 26 = .ok (.iconst 0, 1) := by decide +kernel
theorem dX11_rank_27 : decode cX11_rank 27 = .ok (.istore_n 1, 1) := by decide +kernel
theorem dX11_rank_28 : decode cX11_rank 28 = .ok (.iconst 0, 1) := by decide +kernel
theorem dX11_rank_29 : decode cX11_rank 29 = .ok (.istore_n 2, 1) := by decide +kernel
theorem dX11_rank_30 : decode cX11_rank 30 = .ok (.iload_n 2, 1) := by decide +kernel
theorem dX11_rank_31 : decode cX11_rank 31 = .ok (.aload_n 0, 1) := by decide +kernel
theorem dX11_rank_32 : decode cX11_rank 32 = .ok (.getfield 101, 3) := by decide +kernel
theorem dX11_rank_35 : decode cX11_rank 35 = .ok (.if_icmp .ge 44, 3) := by decide +kernel
theorem dX11_rank_38 : decode cX11_rank 38 = .ok (.iconst 0, 1) := by decide +kernel
theorem dX11_rank_39 : decode cX11_rank 39 = .ok (.istore_n 3, 1) := by decide +kernel
theorem dX11_rank_40 : decode cX11_rank 40 = .ok (.iload_n 3, 1) := by decide +kernel
theorem dX11_rank_41 : decode cX11_rank 41 = .ok (.aload_n 0, 1) := by decide +kernel
theorem dX11_rank_42 : decode cX11_rank 42 = .ok (.getfield 101, 3) := by decide +kernel
theorem dX11_rank_45 : decode cX11_rank 45 = .ok (.if_icmp .ge 28, 3) := by decide +kernel
theorem dX11_rank_48 : decode cX11_rank 48 = .ok (.aload_n 0, 1) := by decide +kernel
theorem dX11_rank_49 : decode cX11_rank 49 = .ok (.getfield 31, 3) := by decide +kernel
theorem dX11_rank_52 : decode cX11_rank 52 = .ok (.iload_n 2, 1) := by decide +kernel
theorem dX11_rank_53 : decode cX11_rank 53 = .ok (.aaload, 1) := by decide +kernel
theorem dX11_rank_54 : decode cX11_rank 54 = .ok (.iload_n 3, 1) := by decide +kernel
theorem dX11_rank_55 : decode cX11_rank 55 = .ok (.laload, 1) := by decide +kernel
theorem dX11_rank_56 : decode cX11_rank 56 = .ok (.lconst 0, 1) := by decide +kernel
theorem dX11_rank_57 : decode cX11_rank 57 = .ok (.lcmp, 1) := by decide +kernel
theorem dX11_rank_58 : decode cX11_rank 58 = .ok (.ifCond .eq 7, 3) := by decide +kernel
theorem dX11_rank_61 : decode cX11_rank 61 = .ok (.iconst 1, 1) := by decide +kernel
theorem dX11_rank_62 : decode cX11_rank 62 = .ok (.goto 4, 3) := by decide +kernel
theorem dX11_rank_65 : decode cX11_rank 65 = .ok (.iload_n 1, 1) := by decide +kernel
theorem dX11_rank_66 : decode cX11_rank 66 = .ok (.istore_n 1, 1) := by decide +kernel
theorem dX11_rank_67 : decode cX11_rank 67 = .ok (.iinc 3 1, 3) := by decide +kernel
theorem dX11_rank_70 : decode cX11_rank 70 = .ok (.goto (-30), 3) := by decide +kernel
theorem dX11_rank_73 : decode cX11_rank 73 = .ok (.iinc 2 1, 3) := by decide +kernel
theorem dX11_rank_76 : decode cX11_rank 76 = .ok (.goto (-46), 3) := by decide +kernel
theorem dX11_rank_79 : decode cX11_rank 79 = .ok (.iconst 0, 1) := by decide +kernel
theorem dX11_rank_80 : decode cX11_rank 80 = .ok (.istore_n 2, 1) := by decide +kernel
theorem dX11_rank_81 : decode cX11_rank 81 = .ok (.iload_n 2, 1) := by decide +kernel
theorem dX11_rank_82 : decode cX11_rank 82 = .ok (.iconst 3, 1) := by decide +kernel
theorem dX11_rank_83 : decode cX11_rank 83 = .ok (.if_icmp .ge 81, 3) := by decide +kernel
theorem dX11_rank_86 : decode cX11_rank 86 = .ok (.aload_n 0, 1) := by decide +kernel
theorem dX11_rank_87 : decode cX11_rank 87 = .ok (.getfield 101, 3) := by decide +kernel
theorem dX11_rank_90 : decode cX11_rank 90 = .ok (.iconst 3, 1) := by decide +kernel
theorem dX11_rank_91 : decode cX11_rank 91 = .ok (.if_icmp .ne 73, 3) := by decide +kernel
theorem dX11_rank_94 : decode cX11_rank 94 = .ok (.iload_n 2, 1) := by decide +kernel
theorem dX11_rank_95 : decode cX11_rank 95 = .ok (.ifCond .ne 7, 3) := by decide +kernel
theorem dX11_rank_98 : decode cX11_rank 98 = .ok (.iconst 1, 1) := by decide +kernel
theorem dX11_rank_99 : decode cX11_rank 99 = .ok (.goto 4, 3) := by decide +kernel
theorem dX11_rank_102 : decode cX11_rank 102 = .ok (.iconst 0, 1) := by decide +kernel
theorem dX11_rank_103 : decode cX11_rank 103 = .ok (.istore_n 3, 1) := by decide +kernel
theorem dX11_rank_104 : decode cX11_rank 104 = .ok (.iload_n 2, 1) := by decide +kernel
theorem dX11_rank_105 : decode cX11_rank 105 = .ok (.iconst 2, 1) := by decide +kernel
theorem dX11_rank_106 : decode cX11_rank 106 = .ok (.if_icmp .ne 7, 3) := by decide +kernel
theorem dX11_rank_109 : decode cX11_rank 109 = .ok (.iconst 1, 1) := by decide +kernel
theorem dX11_rank_110 : decode cX11_rank 110 = .ok (.goto 4, 3) := by decide +kernel
theorem dX11_rank_113 : decode cX11_rank 113 = .ok (.iconst 2, 1) := by decide +kernel
theorem dX11_rank_114 : decode cX11_rank 114 = .ok (.istore 4, 2) := by decide +kernel
theorem dX11_rank_116 : decode cX11_rank 116 = .ok (.aload_n 0, 1) := by decide +kernel
theorem dX11_rank_117 : decode cX11_rank 117 = .ok (.iload_n 3, 1) := by decide +kernel
theorem dX11_rank_118 : decode cX11_rank 118 = .ok (.iload 4, 2) := by decide +kernel
theorem dX11_rank_120 : decode cX11_rank 120 = .ok (.invokevirtual 122, 3) := by decide +kernel
theorem dX11_rank_123 : decode cX11_rank 123 = .ok (.aload_n 0, 1) := by decide +kernel
theorem dX11_rank_124 : decode cX11_rank 124 = .ok (.getfield 50, 3) := by decide +kernel
theorem dX11_rank_127 : decode cX11_rank 127 = .ok (.iconst 0, 1) := by decide +kernel
theorem dX11_rank_128 : decode cX11_rank 128 = .ok (.laload, 1) := by decide +kernel
theorem dX11_rank_129 : decode cX11_rank 129 = .ok (.lconst 0, 1) := by decide +kernel
theorem dX11_rank_130 : decode cX11_rank 130 = .ok (.lcmp, 1) := by decide +kernel
theorem dX11_rank_131 : decode cX11_rank 131 = .ok (.ifCond .ne 25, 3) := by decide +kernel
theorem dX11_rank_134 : decode cX11_rank 134 = .ok (.aload_n 0, 1) := by decide +kernel
theorem dX11_rank_135 : decode cX11_rank 135 = .ok (.getfield 50, 3) := by decide +kernel
theorem dX11_rank_138 : decode cX11_rank 138 = .ok (.iconst 1, 1) := by decide +kernel
theorem dX11_rank_139 : decode cX11_rank 139 = .ok (.laload, 1) := by decide +kernel
theorem dX11_rank_140 : decode cX11_rank 140 = .ok (.lconst 0, 1) := by decide +kernel
theorem dX11_rank_141 : decode cX11_rank 141 = .ok (.lcmp, 1) := by decide +kernel
theorem dX11_rank_142 : decode cX11_rank 142 = .ok (.ifCond .ne 14, 3) := by decide +kernel
theorem dX11_rank_145 : decode cX11_rank 145 = .ok (.aload_n 0, 1) := by decide +kernel
theorem dX11_rank_146 : decode cX11_rank 146 = .ok (.getfield 50, 3) := by decide +kernel
theorem dX11_rank_149 : decode cX11_rank 149 = .ok (.iconst 2, 1) := by decide +kernel
theorem dX11_rank_150 : decode cX11_rank 150 = .ok (.laload, 1) := by decide +kernel
theorem dX11_rank_151 : decode cX11_rank 151 = .ok (.lconst 0, 1) := by decide +kernel
theorem dX11_rank_152 : decode cX11_rank 152 = .ok (.lcmp, 1) := by decide +kernel
theorem dX11_rank_153 : decode cX11_rank 153 = .ok (.ifCond .eq 5, 3) := by decide +kernel
theorem dX11_rank_156 : decode cX11_rank 156 = .ok (.iconst 2, 1) := by decide +kernel
theorem dX11_rank_157 : decode cX11_rank 157 = .ok (.ireturn, 1) := by decide +kernel
theorem dX11_rank_158 : decode cX11_rank 158 = .ok (.iinc 2 1, 3) := by decide +kernel
theorem dX11_rank_161 : decode cX11_rank 161 = .ok (.goto (-80), 3) := by decide +kernel
theorem dX11_rank_164 : decode cX11_rank 164 = .ok (.iload_n 1, 1) := by decide +kernel
theorem dX11_rank_165 : decode cX11_rank 165 = .ok (.ireturn, 1) := by decide +kernel
theorem dX11_cross_0 : decode cX11_cross 0 = .ok (.aload_n 0, 1) := by decide +kernel
theorem dX11_cross_1 : decode cX11_cross 1 = .ok (.iload_n 1, 1) := by decide +kernel
theorem dX11_cross_2 : decode cX11_cross 2 = .ok (.putfield 126, 3) := by decide +kernel
theorem dX11_cross_5 : decode cX11_cross 5 = .ok (.aload_n 0, 1) := by decide +kernel
theorem dX11_cross_6 : decode cX11_cross 6 = .ok (.iload_n 2, 1) := by decide +kernel
theorem dX11_cross_7 : decode cX11_cross 7 = .ok (.putfield 129, 3) := by decide +kernel
theorem dX11_cross_10 : decode cX11_cross 10 = .ok (.aload_n 0, 1) := by decide +kernel
theorem dX11_cross_11 : decode cX11_cross 11 = .ok (.getfield 50, 3) := by decide +kernel
theorem dX11_cross_14 : decode cX11_cross 14 = .ok (.iconst 0, 1) := by decide +kernel
theorem dX11_cross_15 : decode cX11_cross 15 = .ok (.aload_n 0, 1) := by decide +kernel
theorem dX11_cross_16 : decode cX11_cross 16 = .ok (.getfield 31, 3) := by decide +kernel
theorem dX11_cross_19 : decode cX11_cross 19 = .ok (.iload_n 1, 1) := by decide +kernel
theorem dX11_cross_20 : decode cX11_cross 20 = .ok (.aaload, 1) := by decide +kernel
theorem dX11_cross_21 : decode cX11_cross 21 = .ok (.iconst 1, 1) := by decide +kernel
theorem dX11_cross_22 : decode cX11_cross 22 = .ok (.laload, 1) := by decide +kernel
theorem dX11_cross_23 : decode cX11_cross 23 = .ok (.aload_n 0, 1) := by decide +kernel
theorem dX11_cross_24 : decode cX11_cross 24 = .ok (.getfield 31, 3) := by decide +kernel
theorem dX11_cross_27 : decode cX11_cross 27 = .ok (.iload_n 2, 1) := by decide +kernel
theorem dX11_cross_28 : decode cX11_cross 28 = .ok (.aaload, 1) := by decide +kernel
theorem dX11_cross_29 : decode cX11_cross 29 = .ok (.iconst 2, 1) := by decide +kernel
theorem dX11_cross_30 : decode cX11_cross 30 = .ok (.laload, 1) := by decide +kernel
theorem dX11_cross_31 : decode cX11_cross 31 = .ok (.lmul, 1) := by decide +kernel
theorem dX11_cross_32 : decode cX11_cross 32 = .ok (.aload_n 0, 1) := by decide +kernel
theorem dX11_cross_33 : decode cX11_cross 33 = .ok (.getfield 31, 3) := by decide +kernel
theorem dX11_cross_36 : decode cX11_cross 36 = .ok (.iload_n 1, 1) := by decide +kernel
theorem dX11_cross_37 : decode cX11_cross 37 = .ok (.aaload, 1) := by decide +kernel
theorem dX11_cross_38 : decode cX11_cross 38 = .ok (.iconst 2, 1) := by decide +kernel
theorem dX11_cross_39 : decode cX11_cross 39 = .ok (.laload, 1) := by decide +kernel
theorem dX11_cross_40 : decode cX11_cross 40 = .ok (.aload_n 0, 1) := by decide +kernel
theorem dX11_cross_41 : decode cX11_cross 41 = .ok (.getfield 31, 3) := by decide +kernel
theorem dX11_cross_44 : decode cX11_cross 44 = .ok (.iload_n 2, 1) := by decide +kernel
theorem dX11_cross_45 : decode cX11_cross 45 = .ok (.aaload, 1) := by decide +kernel
theorem dX11_cross_46 : decode cX11_cross 46 = .ok (.iconst 1, 1) := by decide +kernel
theorem dX11_cross_47 : decode cX11_cross 47 = .ok (.laload, 1) := by decide +kernel
theorem dX11_cross_48 : decode cX11_cross 48 = .ok (.lmul, 1) := by decide +kernel
theorem dX11_cross_49 : decode cX11_cross 49 = .ok (.lsub, 1) := by decide +kernel
theorem dX11_cross_50 : decode cX11_cross 50 = .ok (.lastore, 1) := by decide +kernel
theorem dX11_cross_51 : decode cX11_cross 51 = .ok (.aload_n 0, 1) := by decide +kernel
theorem dX11_cross_52 : decode cX11_cross 52 = .ok (.getfield 50, 3) := by decide +kernel
theorem dX11_cross_55 : decode cX11_cross 55 = .ok (.iconst 1, 1) := by decide +kernel
theorem dX11_cross_56 : decode cX11_cross 56 = .ok (.aload_n 0, 1) := by decide +kernel
theorem dX11_cross_57 : decode cX11_cross 57 = .ok (.getfield 31, 3) := by decide +kernel
theorem dX11_cross_60 : decode cX11_cross 60 = .ok (.iload_n 1, 1) := by decide +kernel
theorem dX11_cross_61 : decode cX11_cross 61 = .ok (.aaload, 1) := by decide +kernel
theorem dX11_cross_62 : decode cX11_cross 62 = .ok (.iconst 2, 1) := by decide +kernel
theorem dX11_cross_63 : decode cX11_cross 63 = .ok (.laload, 1) := by decide +kernel
theorem dX11_cross_64 : decode cX11_cross 64 = .ok (.aload_n 0, 1) := by decide +kernel
theorem dX11_cross_65 : decode cX11_cross 65 = .ok (.getfield 31, 3) := by decide +kernel
theorem dX11_cross_68 : decode cX11_cross 68 = .ok (.iload_n 2, 1) := by decide +kernel
theorem dX11_cross_69 : decode cX11_cross 69 = .ok (.aaload, 1) := by decide +kernel
theorem dX11_cross_70 : decode cX11_cross 70 = .ok (.iconst 0, 1) := by decide +kernel
theorem dX11_cross_71 : decode cX11_cross 71 = .ok (.laload, 1) := by decide +kernel
theorem dX11_cross_72 : decode cX11_cross 72 = .ok (.lmul, 1) := by decide +kernel
theorem dX11_cross_73 : decode cX11_cross 73 = .ok (.aload_n 0, 1) := by decide +kernel
theorem dX11_cross_74 : decode cX11_cross 74 = .ok (.getfield 31, 3) := by decide +kernel
theorem dX11_cross_77 : decode cX11_cross 77 = .ok (.iload_n 1, 1) := by decide +kernel
theorem dX11_cross_78 : decode cX11_cross 78 = .ok (.aaload, 1) := by decide +kernel
theorem dX11_cross_79 : decode cX11_cross 79 = .ok (.iconst 0, 1) := by decide +kernel
theorem dX11_cross_80 : decode cX11_cross 80 = .ok (.laload, 1) := by decide +kernel
theorem dX11_cross_81 : decode cX11_cross 81 = .ok (.aload_n 0, 1) := by decide +kernel
theorem dX11_cross_82 : decode cX11_cross 82 = .ok (.getfield 31, 3) := by decide +kernel
theorem dX11_cross_85 : decode cX11_cross 85 = .ok (.iload_n 2, 1) := by decide +kernel
theorem dX11_cross_86 : decode cX11_cross 86 = .ok (.aaload, 1) := by decide +kernel
theorem dX11_cross_87 : decode cX11_cross 87 = .ok (.iconst 2, 1) := by decide +kernel
theorem dX11_cross_88 : decode cX11_cross 88 = .ok (.laload, 1) := by decide +kernel
theorem dX11_cross_89 : decode cX11_cross 89 = .ok (.lmul, 1) := by decide +kernel
theorem dX11_cross_90 : decode cX11_cross 90 = .ok (.lsub, 1) := by decide +kernel
theorem dX11_cross_91 : decode cX11_cross 91 = .ok (.lastore, 1) := by decide +kernel
theorem dX11_cross_92 : decode cX11_cross 92 = .ok (.aload_n 0, 1) := by decide +kernel
theorem dX11_cross_93 : decode cX11_cross 93 = .ok (.getfield 50, 3) := by decide +kernel
theorem dX11_cross_96 : decode cX11_cross 96 = .ok (.iconst 2, 1) := by decide +kernel
theorem dX11_cross_97 : decode cX11_cross 97 = .ok (.aload_n 0, 1) := by decide +kernel
theorem dX11_cross_98 : decode cX11_cross 98 = .ok (.getfield 31, 3) := by decide +kernel
theorem dX11_cross_101 : decode cX11_cross 101 = .ok (.iload_n 1, 1) := by decide +kernel
theorem dX11_cross_102 : decode cX11_cross 102 = .ok (.aaload, 1) := by decide +kernel
theorem dX11_cross_103 : decode cX11_cross 103 = .ok (.iconst 0, 1) := by decide +kernel
theorem dX11_cross_104 : decode cX11_cross 104 = .ok (.laload, 1) := by decide +kernel
theorem dX11_cross_105 : decode cX11_cross 105 = .ok (.aload_n 0, 1) := by decide +kernel
theorem dX11_cross_106 : decode cX11_cross 106 = .ok (.getfield 31, 3) := by decide +kernel
theorem dX11_cross_109 : decode cX11_cross 109 = .ok (.iload_n 2, 1) := by decide +kernel
theorem dX11_cross_110 : decode cX11_cross 110 = .ok (.aaload, 1) := by decide +kernel
theorem dX11_cross_111 : decode cX11_cross 111 = .ok (.iconst 1, 1) := by decide +kernel
theorem dX11_cross_112 : decode cX11_cross 112 = .ok (.laload, 1) := by decide +kernel
theorem dX11_cross_113 : decode cX11_cross 113 = .ok (.lmul, 1) := by decide +kernel
theorem dX11_cross_114 : decode cX11_cross 114 = .ok (.aload_n 0, 1) := by decide +kernel
theorem dX11_cross_115 : decode cX11_cross 115 = .ok (.getfield 31, 3) := by decide +kernel
theorem dX11_cross_118 : decode cX11_cross 118 = .ok (.iload_n 1, 1) := by decide +kernel
theorem dX11_cross_119 : decode cX11_cross 119 = .ok (.aaload, 1) := by decide +kernel
theorem dX11_cross_120 : decode cX11_cross 120 = .ok (.iconst 1, 1) := by decide +kernel
theorem dX11_cross_121 : decode cX11_cross 121 = .ok (.laload, 1) := by decide +kernel
theorem dX11_cross_122 : decode cX11_cross 122 = .ok (.aload_n 0, 1) := by decide +kernel
theorem dX11_cross_123 : decode cX11_cross 123 = .ok (.getfield 31, 3) := by decide +kernel
theorem dX11_cross_126 : decode cX11_cross 126 = .ok (.iload_n 2, 1) := by decide +kernel
theorem dX11_cross_127 : decode cX11_cross 127 = .ok (.aaload, 1) := by decide +kernel
theorem dX11_cross_128 : decode cX11_cross 128 = .ok (.iconst 0, 1) := by decide +kernel
theorem dX11_cross_129 : decode cX11_cross 129 = .ok (.laload, 1) := by decide +kernel
theorem dX11_cross_130 : decode cX11_cross 130 = .ok (.lmul, 1) := by decide +kernel
theorem dX11_cross_131 : decode cX11_cross 131 = .ok (.lsub, 1) := by decide +kernel
theorem dX11_cross_132 : decode cX11_cross 132 = .ok (.lastore, 1) := by decide +kernel
theorem dX11_cross_133 : decode cX11_cross 133 = .ok (.aload_n 0, 1) := by decide +kernel
theorem dX11_cross_134 : decode cX11_cross 134 = .ok (.getfield 50, 3) := by decide +kernel
theorem dX11_cross_137 : decode cX11_cross 137 = .ok (.iconst 0, 1) := by decide +kernel
theorem dX11_cross_138 : decode cX11_cross 138 = .ok (.laload, 1) := by decide +kernel
theorem dX11_cross_139 : decode cX11_cross 139 = .ok (.aload_n 0, 1) := by decide +kernel
theorem dX11_cross_140 : decode cX11_cross 140 = .ok (.getfield 50, 3) := by decide +kernel
theorem dX11_cross_143 : decode cX11_cross 143 = .ok (.iconst 1, 1) := by decide +kernel
theorem dX11_cross_144 : decode cX11_cross 144 = .ok (.laload, 1) := by decide +kernel
theorem dX11_cross_145 : decode cX11_cross 145 = .ok (.invokestatic 85, 3) := by decide +kernel
theorem dX11_cross_148 : decode cX11_cross 148 = .ok (.aload_n 0, 1) := by decide +kernel
theorem dX11_cross_149 : decode cX11_cross 149 = .ok (.getfield 50, 3) := by decide +kernel
theorem dX11_cross_152 : decode cX11_cross 152 = .ok (.iconst 2, 1) := by decide +kernel
theorem dX11_cross_153 : decode cX11_cross 153 = .ok (.laload, 1) := by decide +kernel
theorem dX11_cross_154 : decode cX11_cross 154 = .ok (.invokestatic 85, 3) := by decide +kernel
theorem dX11_cross_157 : decode cX11_cross 157 = .ok (.lstore_n 3, 1) := by decide +kernel
theorem dX11_cross_158 : decode cX11_cross 158 = .ok (.iconst 0, 1) := by decide +kernel
theorem dX11_cross_159 : decode cX11_cross 159 = .ok (.istore 5, 2) := by decide +kernel
theorem dX11_cross_161 : decode cX11_cross 161 = .ok (.iload 5, 2) := by decide +kernel
theorem dX11_cross_163 : decode cX11_cross 163 = .ok (.iconst 3, 1) := by decide +kernel
theorem dX11_cross_164 : decode cX11_cross 164 = .ok (.if_icmp .ge 26, 3) := by decide +kernel
theorem dX11_cross_167 : decode cX11_cross 167 = .ok (.lload_n 3, 1) := by decide +kernel
theorem dX11_cross_168 : decode cX11_cross 168 = .ok (.lconst 1, 1) := by decide +kernel
theorem dX11_cross_169 : decode cX11_cross 169 = .ok (.lcmp, 1) := by decide +kernel
theorem dX11_cross_170 : decode cX11_cross 170 = .ok (.ifCond .le 20, 3) := by decide +kernel
theorem dX11_cross_173 : decode cX11_cross 173 = .ok (.aload_n 0, 1) := by decide +kernel
theorem dX11_cross_174 : decode cX11_cross 174 = .ok (.getfield 50, 3) := by decide +kernel
theorem dX11_cross_177 : decode cX11_cross 177 = .ok (.iload 5, 2) := by decide +kernel
theorem dX11_cross_179 : decode cX11_cross 179 = .ok (.dup2, 1) := by decide +kernel
theorem dX11_cross_180 : decode cX11_cross 180 = .ok (.laload, 1) := by decide +kernel
theorem dX11_cross_181 : decode cX11_cross 181 = .ok (.lload_n 3, 1) := by decide +kernel
theorem dX11_cross_182 : decode cX11_cross 182 = .ok (.ldiv, 1) := by decide +kernel
theorem dX11_cross_183 : decode cX11_cross 183 = .ok (.lastore, 1) := by decide +kernel
theorem dX11_cross_184 : decode cX11_cross 184 = .ok (.iinc 5 1, 3) := by decide +kernel
theorem dX11_cross_187 : decode cX11_cross 187 = .ok (.goto (-26), 3) := by decide +kernel
theorem dX11_cross_190 : decode cX11_cross 190 = .ok (.return_, 1) := by decide +kernel
theorem dX11_fit_0 : decode cX11_fit 0 = .ok (.aload_n 0, 1) := by decide +kernel
theorem dX11_fit_1 : decode cX11_fit 1 = .ok (.invokevirtual 132, 3) := by decide +kernel
theorem dX11_fit_4 : decode cX11_fit 4 = .ok (.istore_n 2, 1) := by decide +kernel
theorem dX11_fit_5 : decode cX11_fit 5 = .ok (.iload_n 2, 1) := by decide +kernel
theorem dX11_fit_6 : decode cX11_fit 6 = .ok (.aload_n 0, 1) := by decide +kernel
theorem dX11_fit_7 : decode cX11_fit 7 = .ok (.getfield 101, 3) := by decide +kernel
theorem dX11_fit_10 : decode cX11_fit 10 = .ok (.if_icmp .ne 47, 3) := by decide +kernel
theorem dX11_fit_13 : decode cX11_fit 13 = .ok (.iconst 0, 1) := by decide +kernel
theorem dX11_fit_14 : decode cX11_fit 14 = .ok (.istore_n 3, 1) := by decide +kernel
theorem dX11_fit_15 : decode cX11_fit 15 = .ok (.iload_n 3, 1) := by decide +kernel
theorem dX11_fit_16 : decode cX11_fit 16 = .ok (.aload_n 0, 1) := by decide +kernel
theorem dX11_fit_17 : decode cX11_fit 17 = .ok (.getfield 101, 3) := by decide +kernel
theorem dX11_fit_20 : decode cX11_fit 20 = .ok (.if_icmp .ge 18, 3) := by decide +kernel
theorem dX11_fit_23 : decode cX11_fit 23 = .ok (.aload_n 0, 1) := by decide +kernel
theorem dX11_fit_24 : decode cX11_fit 24 = .ok (.getfield 44, 3) := by decide +kernel
theorem dX11_fit_27 : decode cX11_fit 27 = .ok (.iload_n 3, 1) := by decide +kernel
theorem dX11_fit_28 : decode cX11_fit 28 = .ok (.aload_n 1, 1) := by decide +kernel
theorem dX11_fit_29 : decode cX11_fit 29 = .ok (.iload_n 3, 1) := by decide +kernel
theorem dX11_fit_30 : decode cX11_fit 30 = .ok (.laload, 1) := by decide +kernel
theorem dX11_fit_31 : decode cX11_fit 31 = .ok (.lastore, 1) := by decide +kernel
theorem dX11_fit_32 : decode cX11_fit 32 = .ok (.iinc 3 1, 3) := by decide +kernel
theorem dX11_fit_35 : decode cX11_fit 35 = .ok (.goto (-20), 3) := by decide +kernel
theorem dX11_fit_38 : decode cX11_fit 38 = .ok (.aload_n 0, 1) := by decide +kernel
theorem dX11_fit_39 : decode cX11_fit 39 = .ok (.aload_n 0, 1) := by decide +kernel
theorem dX11_fit_40 : decode cX11_fit 40 = .ok (.getfield 101, 3) := by decide +kernel
theorem dX11_fit_43 : decode cX11_fit 43 = .ok (.invokevirtual 119, 3) := by decide +kernel
theorem dX11_fit_46 : decode cX11_fit 46 = .ok (.aload_n 0, 1) := by decide +kernel
theorem dX11_fit_47 : decode cX11_fit 47 = .ok (.aload_n 0, 1) := by decide +kernel
theorem dX11_fit_48 : decode cX11_fit 48 = .ok (.getfield 101, 3) := by decide +kernel
theorem dX11_fit_51 : decode cX11_fit 51 = .ok (.invokevirtual 136, 3) := by decide +kernel
theorem dX11_fit_54 : decode cX11_fit 54 = .ok (.goto 118, 3) := by decide +kernel
theorem dX11_fit_57 : decode cX11_fit 57 = .ok (.iload_n 2, 1) := by decide +kernel
theorem dX11_fit_58 : decode cX11_fit 58 = .ok (.iconst 2, 1) := by decide +kernel
theorem dX11_fit_59 : decode cX11_fit 59 = .ok (.if_icmp .ne 107, 3) := by decide +kernel
theorem dX11_fit_62 : decode cX11_fit 62 = .ok (.iconst 0, 1) := by decide +kernel
theorem dX11_fit_63 : decode cX11_fit 63 = .ok (.istore_n 3, 1) := by decide +kernel
theorem dX11_fit_64 : decode cX11_fit 64 = .ok (.iload_n 3, 1) := by decide +kernel
theorem dX11_fit_65 : decode cX11_fit 65 = .ok (.iconst 3, 1) := by decide +kernel
theorem dX11_fit_66 : decode cX11_fit 66 = .ok (.if_icmp .ge 61, 3) := by decide +kernel
theorem dX11_fit_69 : decode cX11_fit 69 = .ok (.aload_n 0, 1) := by decide +kernel
theorem dX11_fit_70 : decode cX11_fit 70 = .ok (.getfield 41, 3) := by decide +kernel
theorem dX11_fit_73 : decode cX11_fit 73 = .ok (.iconst 0, 1) := by decide +kernel
theorem dX11_fit_74 : decode cX11_fit 74 = .ok (.aaload, 1) := by decide +kernel
theorem dX11_fit_75 : decode cX11_fit 75 = .ok (.iload_n 3, 1) := by decide +kernel
theorem dX11_fit_76 : decode cX11_fit 76 = .ok (.aload_n 0, 1) := by decide +kernel
theorem dX11_fit_77 : decode cX11_fit 77 = .ok (.getfield 31, 3) := by decide +kernel
theorem dX11_fit_80 : decode cX11_fit 80 = .ok (.aload_n 0, 1) := by decide +kernel
theorem dX11_fit_81 : decode cX11_fit 81 = .ok (.getfield 126, 3) := by decide +kernel
theorem dX11_fit_84 : decode cX11_fit 84 = .ok (.aaload, 1) := by decide +kernel
theorem dX11_fit_85 : decode cX11_fit 85 = .ok (.iload_n 3, 1) := by decide +kernel
theorem dX11_fit_86 : decode cX11_fit 86 = .ok (.laload, 1) := by decide +kernel
theorem dX11_fit_87 : decode cX11_fit 87 = .ok (.lastore, 1) := by decide +kernel
theorem dX11_fit_88 : decode cX11_fit 88 = .ok (.aload_n 0, 1) := by decide +kernel
theorem dX11_fit_89 : decode cX11_fit 89 = .ok (.getfield 41, 3) := by decide +kernel
theorem dX11_fit_92 : decode cX11_fit 92 = .ok (.iconst 1, 1) := by decide +kernel
theorem dX11_fit_93 : decode cX11_fit 93 = .ok (.aaload, 1) := by decide +kernel
theorem dX11_fit_94 : decode cX11_fit 94 = .ok (.iload_n 3, 1) := by decide +kernel
theorem dX11_fit_95 : decode cX11_fit 95 = .ok (.aload_n 0, 1) := by decide +kernel
theorem dX11_fit_96 : decode cX11_fit 96 = .ok (.getfield 31, 3) := by decide +kernel
theorem dX11_fit_99 : decode cX11_fit 99 = .ok (.aload_n 0, 1) := by decide +kernel
theorem dX11_fit_100 : decode cX11_fit 100 = .ok (.getfield 129, 3) := by decide +kernel
theorem dX11_fit_103 : decode cX11_fit 103 = .ok (.aaload, 1) := by decide +kernel
theorem dX11_fit_104 : decode cX11_fit 104 = .ok (.iload_n 3, 1) := by decide +kernel
theorem dX11_fit_105 : decode cX11_fit 105 = .ok (.laload, 1) := by decide +kernel
theorem dX11_fit_106 : decode cX11_fit 106 = .ok (.lastore, 1) := by decide +kernel
theorem dX11_fit_107 : decode cX11_fit 107 = .ok (.aload_n 0, 1) := by decide +kernel
theorem dX11_fit_108 : decode cX11_fit 108 = .ok (.getfield 41, 3) := by decide +kernel
theorem dX11_fit_111 : decode cX11_fit 111 = .ok (.iconst 2, 1) := by decide +kernel
theorem dX11_fit_112 : decode cX11_fit 112 = .ok (.aaload, 1) := by decide +kernel
theorem dX11_fit_113 : decode cX11_fit 113 = .ok (.iload_n 3, 1) := by decide +kernel
theorem dX11_fit_114 : decode cX11_fit 114 = .ok (.aload_n 0, 1) := by decide +kernel
theorem dX11_fit_115 : decode cX11_fit 115 = .ok (.getfield 50, 3) := by decide +kernel
theorem dX11_fit_118 : decode cX11_fit 118 = .ok (.iload_n 3, 1) := by decide +kernel
theorem dX11_fit_119 : decode cX11_fit 119 = .ok (.laload, 1) := by decide +kernel
theorem dX11_fit_120 : decode cX11_fit 120 = .ok (.lastore, 1) := by decide +kernel
theorem dX11_fit_121 : decode cX11_fit 121 = .ok (.iinc 3 1, 3) := by decide +kernel
theorem dX11_fit_124 : decode cX11_fit 124 = .ok (.goto (-60), 3) := by decide +kernel
theorem dX11_fit_127 : decode cX11_fit 127 = .ok (.aload_n 0, 1) := by decide +kernel
theorem dX11_fit_128 : decode cX11_fit 128 = .ok (.getfield 44, 3) := by decide +kernel
theorem dX11_fit_131 : decode cX11_fit 131 = .ok (.iconst 0, 1) := by decide +kernel
theorem dX11_fit_132 : decode cX11_fit 132 = .ok (.aload_n 1, 1) := by decide +kernel
theorem dX11_fit_133 : decode cX11_fit 133 = .ok (.aload_n 0, 1) := by decide +kernel
theorem dX11_fit_134 : decode cX11_fit 134 = .ok (.getfield 126, 3) := by decide +kernel
theorem dX11_fit_137 : decode cX11_fit 137 = .ok (.laload, 1) := by decide +kernel
theorem dX11_fit_138 : decode cX11_fit 138 = .ok (.lastore, 1) := by decide +kernel
theorem dX11_fit_139 : decode cX11_fit 139 = .ok (.aload_n 0, 1) := by decide +kernel
theorem dX11_fit_140 : decode cX11_fit 140 = .ok (.getfield 44, 3) := by decide +kernel
theorem dX11_fit_143 : decode cX11_fit 143 = .ok (.iconst 1, 1) := by decide +kernel
theorem dX11_fit_144 : decode cX11_fit 144 = .ok (.aload_n 1, 1) := by decide +kernel
theorem dX11_fit_145 : decode cX11_fit 145 = .ok (.aload_n 0, 1) := by decide +kernel
theorem dX11_fit_146 : decode cX11_fit 146 = .ok (.getfield 129, 3) := by decide +kernel
theorem dX11_fit_149 : decode cX11_fit 149 = .ok (.laload, 1) := by decide +kernel
theorem dX11_fit_150 : decode cX11_fit 150 = .ok (.lastore, 1) := by decide +kernel
theorem dX11_fit_151 : decode cX11_fit 151 = .ok (.aload_n 0, 1) := by decide +kernel
theorem dX11_fit_152 : decode cX11_fit 152 = .ok (.getfield 44, 3) := by decide +kernel
theorem dX11_fit_155 : decode cX11_fit 155 = .ok (.iconst 2, 1) := by decide +kernel
theorem dX11_fit_156 : decode cX11_fit 156 = .ok (.lconst 0, 1) := by decide +kernel
theorem dX11_fit_157 : decode cX11_fit 157 = .ok (.lastore, 1) := by decide +kernel
theorem dX11_fit_158 : decode cX11_fit 158 = .ok (.aload_n 0, 1) := by decide +kernel
theorem dX11_fit_159 : decode cX11_fit 159 = .ok (.iconst 3, 1) := by decide +kernel
theorem dX11_fit_160 : decode cX11_fit 160 = .ok (.invokevirtual 136, 3) := by decide +kernel
theorem dX11_fit_163 : decode cX11_fit 163 = .ok (.goto 9, 3) := by decide +kernel
theorem dX11_fit_166 : decode cX11_fit 166 = .ok (.aload_n 0, 1) := by decide +kernel
theorem dX11_fit_167 : decode cX11_fit 167 = .ok (.aload_n 1, 1) := by decide +kernel
theorem dX11_fit_168 : decode cX11_fit 168 = .ok (.iload_n 2, 1) := by decide +kernel
theorem dX11_fit_169 : decode cX11_fit 169 = .ok (.invokevirtual 139, 3) := by decide +kernel
theorem dX11_fit_172 : decode cX11_fit 172 = .ok (.return_, 1) := by decide +kernel
theorem dX11_alongOne_0 : decode cX11_alongOne 0 = .ok (.aload_n 0, 1) := by decide +kernel
theorem dX11_alongOne_1 : decode cX11_alongOne 1 = .ok (.lconst 1, 1) := by decide +kernel
theorem dX11_alongOne_2 : decode cX11_alongOne 2 = .ok (.putfield 116, 3) := by decide +kernel
theorem dX11_alongOne_5 : decode cX11_alongOne 5 = .ok (.iconst 0, 1) := by decide +kernel
theorem dX11_alongOne_6 : decode cX11_alongOne 6 = .ok (.istore_n 3, 1) := by decide +kernel
theorem dX11_alongOne_7 : decode cX11_alongOne 7 = .ok (.iload_n 3, 1) := by decide +kernel
theorem dX11_alongOne_8 : decode cX11_alongOne 8 = .ok (.aload_n 0, 1) := by decide +kernel
theorem dX11_alongOne_9 : decode cX11_alongOne 9 = .ok (.getfield 101, 3) := by decide +kernel
theorem dX11_alongOne_12 : decode cX11_alongOne 12 = .ok (.if_icmp .ge 16, 3) := by decide +kernel
theorem dX11_alongOne_15 : decode cX11_alongOne 15 = .ok (.aload_n 0, 1) := by decide +kernel
theorem dX11_alongOne_16 : decode cX11_alongOne 16 = .ok (.getfield 47, 3) := by decide +kernel
theorem dX11_alongOne_19 : decode cX11_alongOne 19 = .ok (.iload_n 3, 1) := by decide +kernel
theorem dX11_alongOne_20 : decode cX11_alongOne 20 = .ok (.lconst 0, 1) := by decide +kernel
theorem dX11_alongOne_21 : decode cX11_alongOne 21 = .ok (.lastore, 1) := by decide +kernel
theorem dX11_alongOne_22 : decode cX11_alongOne 22 = .ok (.iinc 3 1, 3) := by decide +kernel
theorem dX11_alongOne_25 : decode cX11_alongOne 25 = .ok (.goto (-18), 3) := by decide +kernel
theorem dX11_alongOne_28 : decode cX11_alongOne 28 = .ok (.iconst 0, 1) := by decide +kernel
theorem dX11_alongOne_29 : decode cX11_alongOne 29 = .ok (.istore_n 3, 1) := by decide +kernel
theorem dX11_alongOne_30 : decode cX11_alongOne 30 = .ok (.iload_n 2, 1) := by decide +kernel
theorem dX11_alongOne_31 : decode cX11_alongOne 31 = .ok (.iconst 1, 1) := by decide +kernel
theorem dX11_alongOne_32 : decode cX11_alongOne 32 = .ok (.if_icmp .ne 22, 3) := by decide +kernel
theorem dX11_alongOne_35 : decode cX11_alongOne 35 = .ok (.aload_n 0, 1) := by decide +kernel
theorem dX11_alongOne_36 : decode cX11_alongOne 36 = .ok (.getfield 31, 3) := by decide +kernel
theorem dX11_alongOne_39 : decode cX11_alongOne 39 = .ok (.iload_n 3, 1) := by decide +kernel
theorem dX11_alongOne_40 : decode cX11_alongOne 40 = .ok (.aaload, 1) := by decide +kernel
theorem dX11_alongOne_41 : decode cX11_alongOne 41 = .ok (.iload_n 3, 1) := by decide +kernel
theorem dX11_alongOne_42 : decode cX11_alongOne 42 = .ok (.laload, 1) := by decide +kernel
theorem dX11_alongOne_43 : decode cX11_alongOne 43 = .ok (.lconst 0, 1) := by decide +kernel
theorem dX11_alongOne_44 : decode cX11_alongOne 44 = .ok (.lcmp, 1) := by decide +kernel
theorem dX11_alongOne_45 : decode cX11_alongOne 45 = .ok (.ifCond .ne 9, 3) := by decide +kernel
theorem dX11_alongOne_48 : decode cX11_alongOne 48 = .ok (.iinc 3 1, 3) := by decide +kernel
theorem dX11_alongOne_51 : decode cX11_alongOne 51 = .ok (.goto (-21), 3) := by decide +kernel
theorem dX11_alongOne_54 : decode cX11_alongOne 54 = .ok (.iload_n 2, 1) := by decide +kernel
theorem dX11_alongOne_55 : decode cX11_alongOne 55 = .ok (.ifCond .ne 4, 3) := by decide +kernel
theorem dX11_alongOne_58 : decode cX11_alongOne 58 = .ok (.return_, 1) := by decide +kernel
theorem dX11_alongOne_59 : decode cX11_alongOne 59 = .ok (.lconst 0, 1) := by decide +kernel
theorem dX11_alongOne_60 : decode cX11_alongOne 60 = .ok (.lstore 4, 2) := by decide +kernel
theorem dX11_alongOne_62 : decode cX11_alongOne 62 = .ok (.iconst 0, 1) := by decide +kernel
theorem dX11_alongOne_63 : decode cX11_alongOne 63 = .ok (.istore 6, 2) := by decide +kernel
theorem dX11_alongOne_65 : decode cX11_alongOne 65 = .ok (.iload 6, 2) := by decide +kernel
theorem dX11_alongOne_67 : decode cX11_alongOne 67 = .ok (.aload_n 0, 1) := by decide +kernel
theorem dX11_alongOne_68 : decode cX11_alongOne 68 = .ok (.getfield 101, 3) := by decide +kernel
theorem dX11_alongOne_71 : decode cX11_alongOne 71 = .ok (.if_icmp .ge 25, 3) := by decide +kernel
theorem dX11_alongOne_74 : decode cX11_alongOne 74 = .ok (.lload 4, 2) := by decide +kernel
theorem dX11_alongOne_76 : decode cX11_alongOne 76 = .ok (.aload_n 0, 1) := by decide +kernel
theorem dX11_alongOne_77 : decode cX11_alongOne 77 = .ok (.getfield 31, 3) := by decide +kernel
theorem dX11_alongOne_80 : decode cX11_alongOne 80 = .ok (.iload_n 3, 1) := by decide +kernel
theorem dX11_alongOne_81 : decode cX11_alongOne 81 = .ok (.aaload, 1) := by decide +kernel
theorem dX11_alongOne_82 : decode cX11_alongOne 82 = .ok (.iload 6, 2) := by decide +kernel
theorem dX11_alongOne_84 : decode cX11_alongOne 84 = .ok (.laload, 1) := by decide +kernel
theorem dX11_alongOne_85 : decode cX11_alongOne 85 = .ok (.invokestatic 85, 3) := by decide +kernel
theorem dX11_alongOne_88 : decode cX11_alongOne 88 = .ok (.lstore 4, 2) := by decide +kernel
theorem dX11_alongOne_90 : decode cX11_alongOne 90 = .ok (.iinc 6 1, 3) := by decide +kernel
theorem dX11_alongOne_93 : decode cX11_alongOne 93 = .ok (.goto (-28), 3) := by decide +kernel
theorem dX11_alongOne_96 : decode cX11_alongOne 96 = .ok (.lconst 0, 1) := by decide +kernel
theorem dX11_alongOne_97 : decode cX11_alongOne 97 = .ok (.lstore 6, 2) := by decide +kernel
theorem dX11_alongOne_99 : decode cX11_alongOne 99 = .ok (.lconst 0, 1) := by decide +kernel
theorem dX11_alongOne_100 : decode cX11_alongOne 100 = .ok (.lstore 8, 2) := by decide +kernel
theorem dX11_alongOne_102 : decode cX11_alongOne 102 = .ok (.iconst 0, 1) := by decide +kernel
theorem dX11_alongOne_103 : decode cX11_alongOne 103 = .ok (.istore 10, 2) := by decide +kernel
theorem dX11_alongOne_105 : decode cX11_alongOne 105 = .ok (.iload 10, 2) := by decide +kernel
theorem dX11_alongOne_107 : decode cX11_alongOne 107 = .ok (.aload_n 0, 1) := by decide +kernel
theorem dX11_alongOne_108 : decode cX11_alongOne 108 = .ok (.getfield 101, 3) := by decide +kernel
theorem dX11_alongOne_111 : decode cX11_alongOne 111 = .ok (.if_icmp .ge 84, 3) := by decide +kernel
theorem dX11_alongOne_114 : decode cX11_alongOne 114 = .ok (.aload_n 0, 1) := by decide +kernel
theorem dX11_alongOne_115 : decode cX11_alongOne 115 = .ok (.getfield 31, 3) := by decide +kernel
theorem dX11_alongOne_118 : decode cX11_alongOne 118 = .ok (.iload_n 3, 1) := by decide +kernel
theorem dX11_alongOne_119 : decode cX11_alongOne 119 = .ok (.aaload, 1) := by decide +kernel
theorem dX11_alongOne_120 : decode cX11_alongOne 120 = .ok (.iload 10, 2) := by decide +kernel
theorem dX11_alongOne_122 : decode cX11_alongOne 122 = .ok (.laload, 1) := by decide +kernel
theorem dX11_alongOne_123 : decode cX11_alongOne 123 = .ok (.lload 4, 2) := by decide +kernel
theorem dX11_alongOne_125 : decode cX11_alongOne 125 = .ok (.ldiv, 1) := by decide +kernel
theorem dX11_alongOne_126 : decode cX11_alongOne 126 = .ok (.lstore 11, 2) := by decide +kernel
theorem dX11_alongOne_128 : decode cX11_alongOne 128 = .ok (.lload 6, 2) := by decide +kernel
theorem dX11_alongOne_130 : decode cX11_alongOne 130 = .ok (.lload 11, 2) := by decide +kernel
theorem dX11_alongOne_132 : decode cX11_alongOne 132 = .ok (.aload_n 1, 1) := by decide +kernel
theorem dX11_alongOne_133 : decode cX11_alongOne 133 = .ok (.iload 10, 2) := by decide +kernel
theorem dX11_alongOne_135 : decode cX11_alongOne 135 = .ok (.laload, 1) := by decide +kernel
theorem dX11_alongOne_136 : decode cX11_alongOne 136 = .ok (.lmul, 1) := by decide +kernel
theorem dX11_alongOne_137 : decode cX11_alongOne 137 = .ok (.ladd, 1) := by decide +kernel
theorem dX11_alongOne_138 : decode cX11_alongOne 138 = .ok (.lstore 6, 2) := by decide +kernel
theorem dX11_alongOne_140 : decode cX11_alongOne 140 = .ok (.iconst 0, 1) := by decide +kernel
theorem dX11_alongOne_141 : decode cX11_alongOne 141 = .ok (.istore 13, 2) := by decide +kernel
theorem dX11_alongOne_143 : decode cX11_alongOne 143 = .ok (.iload 13, 2) := by decide +kernel
theorem dX11_alongOne_145 : decode cX11_alongOne 145 = .ok (.aload_n 0, 1) := by decide +kernel
theorem dX11_alongOne_146 : decode cX11_alongOne 146 = .ok (.getfield 101, 3) := by decide +kernel
theorem dX11_alongOne_149 : decode cX11_alongOne 149 = .ok (.if_icmp .ge 40, 3) := by decide +kernel
theorem dX11_alongOne_152 : decode cX11_alongOne 152 = .ok (.lload 8, 2) := by decide +kernel
theorem dX11_alongOne_154 : decode cX11_alongOne 154 = .ok (.lload 11, 2) := by decide +kernel
theorem dX11_alongOne_156 : decode cX11_alongOne 156 = .ok (.aload_n 0, 1) := by decide +kernel
theorem dX11_alongOne_157 : decode cX11_alongOne 157 = .ok (.getfield 31, 3) := by decide +kernel
theorem dX11_alongOne_160 : decode cX11_alongOne 160 = .ok (.iload 10, 2) := by decide +kernel
theorem dX11_alongOne_162 : decode cX11_alongOne 162 = .ok (.aaload, 1) := by decide +kernel
theorem dX11_alongOne_163 : decode cX11_alongOne 163 = .ok (.iload 13, 2) := by decide +kernel
theorem dX11_alongOne_165 : decode cX11_alongOne 165 = .ok (.laload, 1) := by decide +kernel
theorem dX11_alongOne_166 : decode cX11_alongOne 166 = .ok (.lmul, 1) := by decide +kernel
theorem dX11_alongOne_167 : decode cX11_alongOne 167 = .ok (.aload_n 0, 1) := by decide +kernel
theorem dX11_alongOne_168 : decode cX11_alongOne 168 = .ok (.getfield 31, 3) := by decide +kernel
theorem dX11_alongOne_171 : decode cX11_alongOne 171 = .ok (.iload_n 3, 1) := by decide +kernel
theorem dX11_alongOne_172 : decode cX11_alongOne 172 = .ok (.aaload, 1) := by decide +kernel
theorem dX11_alongOne_173 : decode cX11_alongOne 173 = .ok (.iload 13, 2) := by decide +kernel
theorem dX11_alongOne_175 : decode cX11_alongOne 175 = .ok (.laload, 1) := by decide +kernel
theorem dX11_alongOne_176 : decode cX11_alongOne 176 = .ok (.lload 4, 2) := by decide +kernel
theorem dX11_alongOne_178 : decode cX11_alongOne 178 = .ok (.ldiv, 1) := by decide +kernel
theorem dX11_alongOne_179 : decode cX11_alongOne 179 = .ok (.lmul, 1) := by decide +kernel
theorem dX11_alongOne_180 : decode cX11_alongOne 180 = .ok (.ladd, 1) := by decide +kernel
theorem dX11_alongOne_181 : decode cX11_alongOne 181 = .ok (.lstore 8, 2) := by decide +kernel
theorem dX11_alongOne_183 : decode cX11_alongOne 183 = .ok (.iinc 13 1, 3) := by decide +kernel
theorem dX11_alongOne_186 : decode cX11_alongOne 186 = .ok (.goto (-43), 3) := by decide +kernel
theorem dX11_alongOne_189 : decode cX11_alongOne 189 = .ok (.iinc 10 1, 3) := by decide +kernel
theorem dX11_alongOne_192 : decode cX11_alongOne 192 = .ok (.goto (-87), 3) := by decide +kernel
theorem dX11_alongOne_195 : decode cX11_alongOne 195 = .ok (.iconst 0, 1) := by decide +kernel
theorem dX11_alongOne_196 : decode cX11_alongOne 196 = .ok (.istore 10, 2) := by decide +kernel
theorem dX11_alongOne_198 : decode cX11_alongOne 198 = .ok (.iload 10, 2) := by decide +kernel
theorem dX11_alongOne_200 : decode cX11_alongOne 200 = .ok (.aload_n 0, 1) := by decide +kernel
theorem dX11_alongOne_201 : decode cX11_alongOne 201 = .ok (.getfield 101, 3) := by decide +kernel
theorem dX11_alongOne_204 : decode cX11_alongOne 204 = .ok (.if_icmp .ge 31, 3) := by decide +kernel
theorem dX11_alongOne_207 : decode cX11_alongOne 207 = .ok (.aload_n 0, 1) := by decide +kernel
theorem dX11_alongOne_208 : decode cX11_alongOne 208 = .ok (.getfield 47, 3) := by decide +kernel
theorem dX11_alongOne_211 : decode cX11_alongOne 211 = .ok (.iload 10, 2) := by decide +kernel
theorem dX11_alongOne_213 : decode cX11_alongOne 213 = .ok (.lload 6, 2) := by decide +kernel
theorem dX11_alongOne_215 : decode cX11_alongOne 215 = .ok (.aload_n 0, 1) := by decide +kernel
theorem dX11_alongOne_216 : decode cX11_alongOne 216 = .ok (.getfield 31, 3) := by decide +kernel
theorem dX11_alongOne_219 : decode cX11_alongOne 219 = .ok (.iload_n 3, 1) := by decide +kernel
theorem dX11_alongOne_220 : decode cX11_alongOne 220 = .ok (.aaload, 1) := by decide +kernel
theorem dX11_alongOne_221 : decode cX11_alongOne 221 = .ok (.iload 10, 2) := by decide +kernel
theorem dX11_alongOne_223 : decode cX11_alongOne 223 = .ok (.laload, 1) := by decide +kernel
theorem dX11_alongOne_224 : decode cX11_alongOne 224 = .ok (.lload 4, 2) := by decide +kernel
theorem dX11_alongOne_226 : decode cX11_alongOne 226 = .ok (.ldiv, 1) := by decide +kernel
theorem dX11_alongOne_227 : decode cX11_alongOne 227 = .ok (.lmul, 1) := by decide +kernel
theorem dX11_alongOne_228 : decode cX11_alongOne 228 = .ok (.lastore, 1) := by decide +kernel
theorem dX11_alongOne_229 : decode cX11_alongOne 229 = .ok (.iinc 10 1, 3) := by decide +kernel
theorem dX11_alongOne_232 : decode cX11_alongOne 232 = .ok (.goto (-34), 3) := by decide +kernel
theorem dX11_alongOne_235 : decode cX11_alongOne 235 = .ok (.aload_n 0, 1) := by decide +kernel
theorem dX11_alongOne_236 : decode cX11_alongOne 236 = .ok (.lload 8, 2) := by decide +kernel
theorem dX11_alongOne_238 : decode cX11_alongOne 238 = .ok (.putfield 116, 3) := by decide +kernel
theorem dX11_alongOne_241 : decode cX11_alongOne 241 = .ok (.return_, 1) := by decide +kernel
theorem dX11_missed_0 : decode cX11_missed 0 = .ok (.aload_n 0, 1) := by decide +kernel
theorem dX11_missed_1 : decode cX11_missed 1 = .ok (.getfield 104, 3) := by decide +kernel
theorem dX11_missed_4 : decode cX11_missed 4 = .ok (.aload_n 0, 1) := by decide +kernel
theorem dX11_missed_5 : decode cX11_missed 5 = .ok (.getfield 116, 3) := by decide +kernel
theorem dX11_missed_8 : decode cX11_missed 8 = .ok (.lmul, 1) := by decide +kernel
theorem dX11_missed_9 : decode cX11_missed 9 = .ok (.lstore_n 1, 1) := by decide +kernel
theorem dX11_missed_10 : decode cX11_missed 10 = .ok (.iconst 0, 1) := by decide +kernel
theorem dX11_missed_11 : decode cX11_missed 11 = .ok (.istore_n 3, 1) := by decide +kernel
theorem dX11_missed_12 : decode cX11_missed 12 = .ok (.iload_n 3, 1) := by decide +kernel
theorem dX11_missed_13 : decode cX11_missed 13 = .ok (.aload_n 0, 1) := by decide +kernel
theorem dX11_missed_14 : decode cX11_missed 14 = .ok (.getfield 101, 3) := by decide +kernel
theorem dX11_missed_17 : decode cX11_missed 17 = .ok (.if_icmp .ge 25, 3) := by decide +kernel
theorem dX11_missed_20 : decode cX11_missed 20 = .ok (.lload_n 1, 1) := by decide +kernel
theorem dX11_missed_21 : decode cX11_missed 21 = .ok (.aload_n 0, 1) := by decide +kernel
theorem dX11_missed_22 : decode cX11_missed 22 = .ok (.getfield 34, 3) := by decide +kernel
theorem dX11_missed_25 : decode cX11_missed 25 = .ok (.iload_n 3, 1) := by decide +kernel
theorem dX11_missed_26 : decode cX11_missed 26 = .ok (.laload, 1) := by decide +kernel
theorem dX11_missed_27 : decode cX11_missed 27 = .ok (.aload_n 0, 1) := by decide +kernel
theorem dX11_missed_28 : decode cX11_missed 28 = .ok (.getfield 47, 3) := by decide +kernel
theorem dX11_missed_31 : decode cX11_missed 31 = .ok (.iload_n 3, 1) := by decide +kernel
theorem dX11_missed_32 : decode cX11_missed 32 = .ok (.laload, 1) := by decide +kernel
theorem dX11_missed_33 : decode cX11_missed 33 = .ok (.lmul, 1) := by decide +kernel
theorem dX11_missed_34 : decode cX11_missed 34 = .ok (.lsub, 1) := by decide +kernel
theorem dX11_missed_35 : decode cX11_missed 35 = .ok (.lstore_n 1, 1) := by decide +kernel
theorem dX11_missed_36 : decode cX11_missed 36 = .ok (.iinc 3 1, 3) := by decide +kernel
theorem dX11_missed_39 : decode cX11_missed 39 = .ok (.goto (-27), 3) := by decide +kernel
theorem dX11_missed_42 : decode cX11_missed 42 = .ok (.lload_n 1, 1) := by decide +kernel
theorem dX11_missed_43 : decode cX11_missed 43 = .ok (.lreturn, 1) := by decide +kernel
theorem dX11_squares_0 : decode cX11_squares 0 = .ok (.aload_n 0, 1) := by decide +kernel
theorem dX11_squares_1 : decode cX11_squares 1 = .ok (.invokevirtual 143, 3) := by decide +kernel
theorem dX11_squares_4 : decode cX11_squares 4 = .ok (.aload_n 0, 1) := by decide +kernel
theorem dX11_squares_5 : decode cX11_squares 5 = .ok (.aload_n 0, 1) := by decide +kernel
theorem dX11_squares_6 : decode cX11_squares 6 = .ok (.getfield 34, 3) := by decide +kernel
theorem dX11_squares_9 : decode cX11_squares 9 = .ok (.invokevirtual 146, 3) := by decide +kernel
theorem dX11_squares_12 : decode cX11_squares 12 = .ok (.return_, 1) := by decide +kernel
theorem dX11_start_0 : decode cX11_start 0 = .ok (.iload_n 1, 1) := by decide +kernel
theorem dX11_start_1 : decode cX11_start 1 = .ok (.iconst 1, 1) := by decide +kernel
theorem dX11_start_2 : decode cX11_start 2 = .ok (.if_icmp .lt 8, 3) := by decide +kernel
theorem dX11_start_5 : decode cX11_start 5 = .ok (.iload_n 1, 1) := by decide +kernel
theorem dX11_start_6 : decode cX11_start 6 = .ok (.iconst 3, 1) := by decide +kernel
theorem dX11_start_7 : decode cX11_start 7 = .ok (.if_icmp .le 5, 3) := by decide +kernel
theorem dX11_start_10 : decode cX11_start 10 = .ok (.iconst 0, 1) := by decide +kernel
theorem dX11_start_11 : decode cX11_start 11 = .ok (.ireturn, 1) := by decide +kernel
theorem dX11_start_12 : decode cX11_start 12 = .ok (.aload_n 0, 1) := by decide +kernel
theorem dX11_start_13 : decode cX11_start 13 = .ok (.iload_n 1, 1) := by decide +kernel
theorem dX11_start_14 : decode cX11_start 14 = .ok (.putfield 7, 3) := by decide +kernel
theorem dX11_start_17 : decode cX11_start 17 = .ok (.aload_n 0, 1) := by decide +kernel
theorem dX11_start_18 : decode cX11_start 18 = .ok (.iconst 0, 1) := by decide +kernel
theorem dX11_start_19 : decode cX11_start 19 = .ok (.putfield 94, 3) := by decide +kernel
theorem dX11_start_22 : decode cX11_start 22 = .ok (.iconst 1, 1) := by decide +kernel
theorem dX11_start_23 : decode cX11_start 23 = .ok (.ireturn, 1) := by decide +kernel
theorem dX11_isNumber_0 : decode cX11_isNumber 0 = .ok (.iload_n 0, 1) := by decide +kernel
theorem dX11_isNumber_1 : decode cX11_isNumber 1 = .ok (.bipush (-9), 2) := by decide +kernel
theorem dX11_isNumber_3 : decode cX11_isNumber 3 = .ok (.if_icmp .lt 13, 3) := by decide +kernel
theorem dX11_isNumber_6 : decode cX11_isNumber 6 = .ok (.iload_n 0, 1) := by decide +kernel
theorem dX11_isNumber_7 : decode cX11_isNumber 7 = .ok (.bipush 9, 2) := by decide +kernel
theorem dX11_isNumber_9 : decode cX11_isNumber 9 = .ok (.if_icmp .gt 7, 3) := by decide +kernel
theorem dX11_isNumber_12 : decode cX11_isNumber 12 = .ok (.iconst 1, 1) := by decide +kernel
theorem dX11_isNumber_13 : decode cX11_isNumber 13 = .ok (.goto 4, 3) := by decide +kernel
theorem dX11_isNumber_16 : decode cX11_isNumber 16 = .ok (.iconst 0, 1) := by decide +kernel
theorem dX11_isNumber_17 : decode cX11_isNumber 17 = .ok (.ireturn, 1) := by decide +kernel
theorem dX11_row_0 : decode cX11_row 0 = .ok (.iload_n 1, 1) := by decide +kernel
theorem dX11_row_1 : decode cX11_row 1 = .ok (.bipush (-99), 2) := by decide +kernel
theorem dX11_row_3 : decode cX11_row 3 = .ok (.if_icmp .lt 51, 3) := by decide +kernel
theorem dX11_row_6 : decode cX11_row 6 = .ok (.iload_n 1, 1) := by decide +kernel
theorem dX11_row_7 : decode cX11_row 7 = .ok (.bipush 99, 2) := by decide +kernel
theorem dX11_row_9 : decode cX11_row 9 = .ok (.if_icmp .gt 45, 3) := by decide +kernel
theorem dX11_row_12 : decode cX11_row 12 = .ok (.iload_n 2, 1) := by decide +kernel
theorem dX11_row_13 : decode cX11_row 13 = .ok (.invokestatic 150, 3) := by decide +kernel
theorem dX11_row_16 : decode cX11_row 16 = .ok (.ifCond .eq 38, 3) := by decide +kernel
theorem dX11_row_19 : decode cX11_row 19 = .ok (.aload_n 0, 1) := by decide +kernel
theorem dX11_row_20 : decode cX11_row 20 = .ok (.getfield 7, 3) := by decide +kernel
theorem dX11_row_23 : decode cX11_row 23 = .ok (.iconst 2, 1) := by decide +kernel
theorem dX11_row_24 : decode cX11_row 24 = .ok (.if_icmp .lt 10, 3) := by decide +kernel
theorem dX11_row_27 : decode cX11_row 27 = .ok (.iload_n 3, 1) := by decide +kernel
theorem dX11_row_28 : decode cX11_row 28 = .ok (.invokestatic 150, 3) := by decide +kernel
theorem dX11_row_31 : decode cX11_row 31 = .ok (.ifCond .eq 23, 3) := by decide +kernel
theorem dX11_row_34 : decode cX11_row 34 = .ok (.aload_n 0, 1) := by decide +kernel
theorem dX11_row_35 : decode cX11_row 35 = .ok (.getfield 7, 3) := by decide +kernel
theorem dX11_row_38 : decode cX11_row 38 = .ok (.iconst 3, 1) := by decide +kernel
theorem dX11_row_39 : decode cX11_row 39 = .ok (.if_icmp .lt 11, 3) := by decide +kernel
theorem dX11_row_42 : decode cX11_row 42 = .ok (.iload 4, 2) := by decide +kernel
theorem dX11_row_44 : decode cX11_row 44 = .ok (.invokestatic 150, 3) := by decide +kernel
theorem dX11_row_47 : decode cX11_row 47 = .ok (.ifCond .eq 7, 3) := by decide +kernel
theorem dX11_row_50 : decode cX11_row 50 = .ok (.iconst 1, 1) := by decide +kernel
theorem dX11_row_51 : decode cX11_row 51 = .ok (.goto 4, 3) := by decide +kernel
theorem dX11_row_54 : decode cX11_row 54 = .ok (.iconst 0, 1) := by decide +kernel
theorem dX11_row_55 : decode cX11_row 55 = .ok (.istore 5, 2) := by decide +kernel
theorem dX11_row_57 : decode cX11_row 57 = .ok (.aload_n 0, 1) := by decide +kernel
theorem dX11_row_58 : decode cX11_row 58 = .ok (.getfield 94, 3) := by decide +kernel
theorem dX11_row_61 : decode cX11_row 61 = .ok (.bipush 24, 2) := by decide +kernel
theorem dX11_row_63 : decode cX11_row 63 = .ok (.if_icmp .eq 8, 3) := by decide +kernel
theorem dX11_row_66 : decode cX11_row 66 = .ok (.iload 5, 2) := by decide +kernel
theorem dX11_row_68 : decode cX11_row 68 = .ok (.ifCond .ne 5, 3) := by decide +kernel
theorem dX11_row_71 : decode cX11_row 71 = .ok (.iconst (-1), 1) := by decide +kernel
theorem dX11_row_72 : decode cX11_row 72 = .ok (.ireturn, 1) := by decide +kernel
theorem dX11_row_73 : decode cX11_row 73 = .ok (.aload_n 0, 1) := by decide +kernel
theorem dX11_row_74 : decode cX11_row 74 = .ok (.getfield 15, 3) := by decide +kernel
theorem dX11_row_77 : decode cX11_row 77 = .ok (.aload_n 0, 1) := by decide +kernel
theorem dX11_row_78 : decode cX11_row 78 = .ok (.getfield 94, 3) := by decide +kernel
theorem dX11_row_81 : decode cX11_row 81 = .ok (.aaload, 1) := by decide +kernel
theorem dX11_row_82 : decode cX11_row 82 = .ok (.iconst 0, 1) := by decide +kernel
theorem dX11_row_83 : decode cX11_row 83 = .ok (.iload_n 2, 1) := by decide +kernel
theorem dX11_row_84 : decode cX11_row 84 = .ok (.iastore, 1) := by decide +kernel
theorem dX11_row_85 : decode cX11_row 85 = .ok (.aload_n 0, 1) := by decide +kernel
theorem dX11_row_86 : decode cX11_row 86 = .ok (.getfield 15, 3) := by decide +kernel
theorem dX11_row_89 : decode cX11_row 89 = .ok (.aload_n 0, 1) := by decide +kernel
theorem dX11_row_90 : decode cX11_row 90 = .ok (.getfield 94, 3) := by decide +kernel
theorem dX11_row_93 : decode cX11_row 93 = .ok (.aaload, 1) := by decide +kernel
theorem dX11_row_94 : decode cX11_row 94 = .ok (.iconst 1, 1) := by decide +kernel
theorem dX11_row_95 : decode cX11_row 95 = .ok (.aload_n 0, 1) := by decide +kernel
theorem dX11_row_96 : decode cX11_row 96 = .ok (.getfield 7, 3) := by decide +kernel
theorem dX11_row_99 : decode cX11_row 99 = .ok (.iconst 2, 1) := by decide +kernel
theorem dX11_row_100 : decode cX11_row 100 = .ok (.if_icmp .ge 7, 3) := by decide +kernel
theorem dX11_row_103 : decode cX11_row 103 = .ok (.iconst 0, 1) := by decide +kernel
theorem dX11_row_104 : decode cX11_row 104 = .ok (.goto 4, 3) := by decide +kernel
theorem dX11_row_107 : decode cX11_row 107 = .ok (.iload_n 3, 1) := by decide +kernel
theorem dX11_row_108 : decode cX11_row 108 = .ok (.iastore, 1) := by decide +kernel
theorem dX11_row_109 : decode cX11_row 109 = .ok (.aload_n 0, 1) := by decide +kernel
theorem dX11_row_110 : decode cX11_row 110 = .ok (.getfield 15, 3) := by decide +kernel
theorem dX11_row_113 : decode cX11_row 113 = .ok (.aload_n 0, 1) := by decide +kernel
theorem dX11_row_114 : decode cX11_row 114 = .ok (.getfield 94, 3) := by decide +kernel
theorem dX11_row_117 : decode cX11_row 117 = .ok (.aaload, 1) := by decide +kernel
theorem dX11_row_118 : decode cX11_row 118 = .ok (.iconst 2, 1) := by decide +kernel
theorem dX11_row_119 : decode cX11_row 119 = .ok (.aload_n 0, 1) := by decide +kernel
theorem dX11_row_120 : decode cX11_row 120 = .ok (.getfield 7, 3) := by decide +kernel
theorem dX11_row_123 : decode cX11_row 123 = .ok (.iconst 3, 1) := by decide +kernel
theorem dX11_row_124 : decode cX11_row 124 = .ok (.if_icmp .ge 7, 3) := by decide +kernel
theorem dX11_row_127 : decode cX11_row 127 = .ok (.iconst 0, 1) := by decide +kernel
theorem dX11_row_128 : decode cX11_row 128 = .ok (.goto 5, 3) := by decide +kernel
theorem dX11_row_131 : decode cX11_row 131 = .ok (.iload 4, 2) := by decide +kernel
theorem dX11_row_133 : decode cX11_row 133 = .ok (.iastore, 1) := by decide +kernel
theorem dX11_row_134 : decode cX11_row 134 = .ok (.aload_n 0, 1) := by decide +kernel
theorem dX11_row_135 : decode cX11_row 135 = .ok (.getfield 18, 3) := by decide +kernel
theorem dX11_row_138 : decode cX11_row 138 = .ok (.aload_n 0, 1) := by decide +kernel
theorem dX11_row_139 : decode cX11_row 139 = .ok (.getfield 94, 3) := by decide +kernel
theorem dX11_row_142 : decode cX11_row 142 = .ok (.iload_n 1, 1) := by decide +kernel
theorem dX11_row_143 : decode cX11_row 143 = .ok (.iastore, 1) := by decide +kernel
theorem dX11_row_144 : decode cX11_row 144 = .ok (.aload_n 0, 1) := by decide +kernel
theorem dX11_row_145 : decode cX11_row 145 = .ok (.getfield 22, 3) := by decide +kernel
theorem dX11_row_148 : decode cX11_row 148 = .ok (.aload_n 0, 1) := by decide +kernel
theorem dX11_row_149 : decode cX11_row 149 = .ok (.getfield 94, 3) := by decide +kernel
theorem dX11_row_152 : decode cX11_row 152 = .ok (.iconst 1, 1) := by decide +kernel
theorem dX11_row_153 : decode cX11_row 153 = .ok (.bastore, 1) := by decide +kernel
theorem dX11_row_154 : decode cX11_row 154 = .ok (.aload_n 0, 1) := by decide +kernel
theorem dX11_row_155 : decode cX11_row 155 = .ok (.dup, 1) := by decide +kernel
theorem dX11_row_156 : decode cX11_row 156 = .ok (.getfield 94, 3) := by decide +kernel
theorem dX11_row_159 : decode cX11_row 159 = .ok (.iconst 1, 1) := by decide +kernel
theorem dX11_row_160 : decode cX11_row 160 = .ok (.iadd, 1) := by decide +kernel
theorem dX11_row_161 : decode cX11_row 161 = .ok (.putfield 94, 3) := by decide +kernel
theorem dX11_row_164 : decode cX11_row 164 = .ok (.aload_n 0, 1) := by decide +kernel
theorem dX11_row_165 : decode cX11_row 165 = .ok (.getfield 94, 3) := by decide +kernel
theorem dX11_row_168 : decode cX11_row 168 = .ok (.iconst 1, 1) := by decide +kernel
theorem dX11_row_169 : decode cX11_row 169 = .ok (.isub, 1) := by decide +kernel
theorem dX11_row_170 : decode cX11_row 170 = .ok (.ireturn, 1) := by decide +kernel
theorem dX11_isRow_0 : decode cX11_isRow 0 = .ok (.iload_n 1, 1) := by decide +kernel
theorem dX11_isRow_1 : decode cX11_isRow 1 = .ok (.ifCond .lt 15, 3) := by decide +kernel
theorem dX11_isRow_4 : decode cX11_isRow 4 = .ok (.iload_n 1, 1) := by decide +kernel
theorem dX11_isRow_5 : decode cX11_isRow 5 = .ok (.aload_n 0, 1) := by decide +kernel
theorem dX11_isRow_6 : decode cX11_isRow 6 = .ok (.getfield 94, 3) := by decide +kernel
theorem dX11_isRow_9 : decode cX11_isRow 9 = .ok (.if_icmp .ge 7, 3) := by decide +kernel
theorem dX11_isRow_12 : decode cX11_isRow 12 = .ok (.iconst 1, 1) := by decide +kernel
theorem dX11_isRow_13 : decode cX11_isRow 13 = .ok (.goto 4, 3) := by decide +kernel
theorem dX11_isRow_16 : decode cX11_isRow 16 = .ok (.iconst 0, 1) := by decide +kernel
theorem dX11_isRow_17 : decode cX11_isRow 17 = .ok (.ireturn, 1) := by decide +kernel
theorem dX11_isColumn_0 : decode cX11_isColumn 0 = .ok (.iload_n 1, 1) := by decide +kernel
theorem dX11_isColumn_1 : decode cX11_isColumn 1 = .ok (.ifCond .lt 15, 3) := by decide +kernel
theorem dX11_isColumn_4 : decode cX11_isColumn 4 = .ok (.iload_n 1, 1) := by decide +kernel
theorem dX11_isColumn_5 : decode cX11_isColumn 5 = .ok (.aload_n 0, 1) := by decide +kernel
theorem dX11_isColumn_6 : decode cX11_isColumn 6 = .ok (.getfield 7, 3) := by decide +kernel
theorem dX11_isColumn_9 : decode cX11_isColumn 9 = .ok (.if_icmp .ge 7, 3) := by decide +kernel
theorem dX11_isColumn_12 : decode cX11_isColumn 12 = .ok (.iconst 1, 1) := by decide +kernel
theorem dX11_isColumn_13 : decode cX11_isColumn 13 = .ok (.goto 4, 3) := by decide +kernel
theorem dX11_isColumn_16 : decode cX11_isColumn 16 = .ok (.iconst 0, 1) := by decide +kernel
theorem dX11_isColumn_17 : decode cX11_isColumn 17 = .ok (.ireturn, 1) := by decide +kernel
theorem dX11_set_0 : decode cX11_set 0 = .ok (.aload_n 0, 1) := by decide +kernel
theorem dX11_set_1 : decode cX11_set 1 = .ok (.iload_n 1, 1) := by decide +kernel
theorem dX11_set_2 : decode cX11_set 2 = .ok (.invokevirtual 154, 3) := by decide +kernel
theorem dX11_set_5 : decode cX11_set 5 = .ok (.ifCond .eq 13, 3) := by decide +kernel
theorem dX11_set_8 : decode cX11_set 8 = .ok (.aload_n 0, 1) := by decide +kernel
theorem dX11_set_9 : decode cX11_set 9 = .ok (.getfield 22, 3) := by decide +kernel
theorem dX11_set_12 : decode cX11_set 12 = .ok (.iload_n 1, 1) := by decide +kernel
theorem dX11_set_13 : decode cX11_set 13 = .ok (.baload, 1) := by decide +kernel
theorem dX11_set_14 : decode cX11_set 14 = .ok (.iload_n 2, 1) := by decide +kernel
theorem dX11_set_15 : decode cX11_set 15 = .ok (.if_icmp .ne 5, 3) := by decide +kernel
theorem dX11_set_18 : decode cX11_set 18 = .ok (.iconst 0, 1) := by decide +kernel
theorem dX11_set_19 : decode cX11_set 19 = .ok (.ireturn, 1) := by decide +kernel
theorem dX11_set_20 : decode cX11_set 20 = .ok (.aload_n 0, 1) := by decide +kernel
theorem dX11_set_21 : decode cX11_set 21 = .ok (.getfield 22, 3) := by decide +kernel
theorem dX11_set_24 : decode cX11_set 24 = .ok (.iload_n 1, 1) := by decide +kernel
theorem dX11_set_25 : decode cX11_set 25 = .ok (.iload_n 2, 1) := by decide +kernel
theorem dX11_set_26 : decode cX11_set 26 = .ok (.bastore, 1) := by decide +kernel
theorem dX11_set_27 : decode cX11_set 27 = .ok (.iconst 1, 1) := by decide +kernel
theorem dX11_set_28 : decode cX11_set 28 = .ok (.ireturn, 1) := by decide +kernel
theorem dX11_at_0 : decode cX11_at 0 = .ok (.aload_n 0, 1) := by decide +kernel
theorem dX11_at_1 : decode cX11_at 1 = .ok (.iload_n 1, 1) := by decide +kernel
theorem dX11_at_2 : decode cX11_at 2 = .ok (.invokevirtual 154, 3) := by decide +kernel
theorem dX11_at_5 : decode cX11_at 5 = .ok (.ifCond .ne 7, 3) := by decide +kernel
theorem dX11_at_8 : decode cX11_at 8 = .ok (.iconst 0, 1) := by decide +kernel
theorem dX11_at_9 : decode cX11_at 9 = .ok (.goto 37, 3) := by decide +kernel
theorem dX11_at_12 : decode cX11_at 12 = .ok (.iload_n 2, 1) := by decide +kernel
theorem dX11_at_13 : decode cX11_at 13 = .ok (.iconst (-1), 1) := by decide +kernel
theorem dX11_at_14 : decode cX11_at 14 = .ok (.if_icmp .ne 12, 3) := by decide +kernel
theorem dX11_at_17 : decode cX11_at 17 = .ok (.aload_n 0, 1) := by decide +kernel
theorem dX11_at_18 : decode cX11_at 18 = .ok (.getfield 18, 3) := by decide +kernel
theorem dX11_at_21 : decode cX11_at 21 = .ok (.iload_n 1, 1) := by decide +kernel
theorem dX11_at_22 : decode cX11_at 22 = .ok (.iaload, 1) := by decide +kernel
theorem dX11_at_23 : decode cX11_at 23 = .ok (.goto 23, 3) := by decide +kernel
theorem dX11_at_26 : decode cX11_at 26 = .ok (.aload_n 0, 1) := by decide +kernel
theorem dX11_at_27 : decode cX11_at 27 = .ok (.iload_n 2, 1) := by decide +kernel
theorem dX11_at_28 : decode cX11_at 28 = .ok (.invokevirtual 157, 3) := by decide +kernel
theorem dX11_at_31 : decode cX11_at 31 = .ok (.ifCond .eq 14, 3) := by decide +kernel
theorem dX11_at_34 : decode cX11_at 34 = .ok (.aload_n 0, 1) := by decide +kernel
theorem dX11_at_35 : decode cX11_at 35 = .ok (.getfield 15, 3) := by decide +kernel
theorem dX11_at_38 : decode cX11_at 38 = .ok (.iload_n 1, 1) := by decide +kernel
theorem dX11_at_39 : decode cX11_at 39 = .ok (.aaload, 1) := by decide +kernel
theorem dX11_at_40 : decode cX11_at 40 = .ok (.iload_n 2, 1) := by decide +kernel
theorem dX11_at_41 : decode cX11_at 41 = .ok (.iaload, 1) := by decide +kernel
theorem dX11_at_42 : decode cX11_at 42 = .ok (.goto 4, 3) := by decide +kernel
theorem dX11_at_45 : decode cX11_at 45 = .ok (.iconst 0, 1) := by decide +kernel
theorem dX11_at_46 : decode cX11_at 46 = .ok (.ireturn, 1) := by decide +kernel
theorem dX11_there_0 : decode cX11_there 0 = .ok (.aload_n 0, 1) := by decide +kernel
theorem dX11_there_1 : decode cX11_there 1 = .ok (.iload_n 1, 1) := by decide +kernel
theorem dX11_there_2 : decode cX11_there 2 = .ok (.invokevirtual 154, 3) := by decide +kernel
theorem dX11_there_5 : decode cX11_there 5 = .ok (.ifCond .eq 16, 3) := by decide +kernel
theorem dX11_there_8 : decode cX11_there 8 = .ok (.aload_n 0, 1) := by decide +kernel
theorem dX11_there_9 : decode cX11_there 9 = .ok (.getfield 22, 3) := by decide +kernel
theorem dX11_there_12 : decode cX11_there 12 = .ok (.iload_n 1, 1) := by decide +kernel
theorem dX11_there_13 : decode cX11_there 13 = .ok (.baload, 1) := by decide +kernel
theorem dX11_there_14 : decode cX11_there 14 = .ok (.ifCond .eq 7, 3) := by decide +kernel
theorem dX11_there_17 : decode cX11_there 17 = .ok (.iconst 1, 1) := by decide +kernel
theorem dX11_there_18 : decode cX11_there 18 = .ok (.goto 4, 3) := by decide +kernel
theorem dX11_there_21 : decode cX11_there 21 = .ok (.iconst 0, 1) := by decide +kernel
theorem dX11_there_22 : decode cX11_there 22 = .ok (.ireturn, 1) := by decide +kernel
theorem dX11_free_0 : decode cX11_free 0 = .ok (.aload_n 0, 1) := by decide +kernel
theorem dX11_free_1 : decode cX11_free 1 = .ok (.invokevirtual 143, 3) := by decide +kernel
theorem dX11_free_4 : decode cX11_free 4 = .ok (.aload_n 0, 1) := by decide +kernel
theorem dX11_free_5 : decode cX11_free 5 = .ok (.invokevirtual 132, 3) := by decide +kernel
theorem dX11_free_8 : decode cX11_free 8 = .ok (.ireturn, 1) := by decide +kernel
theorem dX11_weight_0 : decode cX11_weight 0 = .ok (.aload_n 0, 1) := by decide +kernel
theorem dX11_weight_1 : decode cX11_weight 1 = .ok (.iload_n 1, 1) := by decide +kernel
theorem dX11_weight_2 : decode cX11_weight 2 = .ok (.invokevirtual 157, 3) := by decide +kernel
theorem dX11_weight_5 : decode cX11_weight 5 = .ok (.ifCond .ne 7, 3) := by decide +kernel
theorem dX11_weight_8 : decode cX11_weight 8 = .ok (.ldc2_w 83, 3) := by decide +kernel
theorem dX11_weight_11 : decode cX11_weight 11 = .ok (.lreturn, 1) := by decide +kernel
theorem dX11_weight_12 : decode cX11_weight 12 = .ok (.aload_n 0, 1) := by decide +kernel
theorem dX11_weight_13 : decode cX11_weight 13 = .ok (.invokevirtual 160, 3) := by decide +kernel
theorem dX11_weight_16 : decode cX11_weight 16 = .ok (.aload_n 0, 1) := by decide +kernel
theorem dX11_weight_17 : decode cX11_weight 17 = .ok (.getfield 47, 3) := by decide +kernel
theorem dX11_weight_20 : decode cX11_weight 20 = .ok (.iload_n 1, 1) := by decide +kernel
theorem dX11_weight_21 : decode cX11_weight 21 = .ok (.laload, 1) := by decide +kernel
theorem dX11_weight_22 : decode cX11_weight 22 = .ok (.aload_n 0, 1) := by decide +kernel
theorem dX11_weight_23 : decode cX11_weight 23 = .ok (.getfield 116, 3) := by decide +kernel
theorem dX11_weight_26 : decode cX11_weight 26 = .ok (.iload_n 2, 1) := by decide +kernel
theorem dX11_weight_27 : decode cX11_weight 27 = .ok (.invokestatic 163, 3) := by decide +kernel
theorem dX11_weight_30 : decode cX11_weight 30 = .ok (.lreturn, 1) := by decide +kernel
theorem dX11_miss_0 : decode cX11_miss 0 = .ok (.aload_n 0, 1) := by decide +kernel
theorem dX11_miss_1 : decode cX11_miss 1 = .ok (.iload_n 1, 1) := by decide +kernel
theorem dX11_miss_2 : decode cX11_miss 2 = .ok (.invokevirtual 154, 3) := by decide +kernel
theorem dX11_miss_5 : decode cX11_miss 5 = .ok (.ifCond .ne 7, 3) := by decide +kernel
theorem dX11_miss_8 : decode cX11_miss 8 = .ok (.ldc2_w 83, 3) := by decide +kernel
theorem dX11_miss_11 : decode cX11_miss 11 = .ok (.lreturn, 1) := by decide +kernel
theorem dX11_miss_12 : decode cX11_miss 12 = .ok (.aload_n 0, 1) := by decide +kernel
theorem dX11_miss_13 : decode cX11_miss 13 = .ok (.invokevirtual 160, 3) := by decide +kernel
theorem dX11_miss_16 : decode cX11_miss 16 = .ok (.aload_n 0, 1) := by decide +kernel
theorem dX11_miss_17 : decode cX11_miss 17 = .ok (.getfield 18, 3) := by decide +kernel
theorem dX11_miss_20 : decode cX11_miss 20 = .ok (.iload_n 1, 1) := by decide +kernel
theorem dX11_miss_21 : decode cX11_miss 21 = .ok (.iaload, 1) := by decide +kernel
theorem dX11_miss_22 : decode cX11_miss 22 = .ok (.i2l, 1) := by decide +kernel
theorem dX11_miss_23 : decode cX11_miss 23 = .ok (.aload_n 0, 1) := by decide +kernel
theorem dX11_miss_24 : decode cX11_miss 24 = .ok (.getfield 116, 3) := by decide +kernel
theorem dX11_miss_27 : decode cX11_miss 27 = .ok (.lmul, 1) := by decide +kernel
theorem dX11_miss_28 : decode cX11_miss 28 = .ok (.lstore_n 3, 1) := by decide +kernel
theorem dX11_miss_29 : decode cX11_miss 29 = .ok (.iconst 0, 1) := by decide +kernel
theorem dX11_miss_30 : decode cX11_miss 30 = .ok (.istore 5, 2) := by decide +kernel
theorem dX11_miss_32 : decode cX11_miss 32 = .ok (.iload 5, 2) := by decide +kernel
theorem dX11_miss_34 : decode cX11_miss 34 = .ok (.aload_n 0, 1) := by decide +kernel
theorem dX11_miss_35 : decode cX11_miss 35 = .ok (.getfield 7, 3) := by decide +kernel
theorem dX11_miss_38 : decode cX11_miss 38 = .ok (.if_icmp .ge 30, 3) := by decide +kernel
theorem dX11_miss_41 : decode cX11_miss 41 = .ok (.lload_n 3, 1) := by decide +kernel
theorem dX11_miss_42 : decode cX11_miss 42 = .ok (.aload_n 0, 1) := by decide +kernel
theorem dX11_miss_43 : decode cX11_miss 43 = .ok (.getfield 15, 3) := by decide +kernel
theorem dX11_miss_46 : decode cX11_miss 46 = .ok (.iload_n 1, 1) := by decide +kernel
theorem dX11_miss_47 : decode cX11_miss 47 = .ok (.aaload, 1) := by decide +kernel
theorem dX11_miss_48 : decode cX11_miss 48 = .ok (.iload 5, 2) := by decide +kernel
theorem dX11_miss_50 : decode cX11_miss 50 = .ok (.iaload, 1) := by decide +kernel
theorem dX11_miss_51 : decode cX11_miss 51 = .ok (.i2l, 1) := by decide +kernel
theorem dX11_miss_52 : decode cX11_miss 52 = .ok (.aload_n 0, 1) := by decide +kernel
theorem dX11_miss_53 : decode cX11_miss 53 = .ok (.getfield 47, 3) := by decide +kernel
theorem dX11_miss_56 : decode cX11_miss 56 = .ok (.iload 5, 2) := by decide +kernel
theorem dX11_miss_58 : decode cX11_miss 58 = .ok (.laload, 1) := by decide +kernel
theorem dX11_miss_59 : decode cX11_miss 59 = .ok (.lmul, 1) := by decide +kernel
theorem dX11_miss_60 : decode cX11_miss 60 = .ok (.lsub, 1) := by decide +kernel
theorem dX11_miss_61 : decode cX11_miss 61 = .ok (.lstore_n 3, 1) := by decide +kernel
theorem dX11_miss_62 : decode cX11_miss 62 = .ok (.iinc 5 1, 3) := by decide +kernel
theorem dX11_miss_65 : decode cX11_miss 65 = .ok (.goto (-33), 3) := by decide +kernel
theorem dX11_miss_68 : decode cX11_miss 68 = .ok (.lload_n 3, 1) := by decide +kernel
theorem dX11_miss_69 : decode cX11_miss 69 = .ok (.aload_n 0, 1) := by decide +kernel
theorem dX11_miss_70 : decode cX11_miss 70 = .ok (.getfield 116, 3) := by decide +kernel
theorem dX11_miss_73 : decode cX11_miss 73 = .ok (.iload_n 2, 1) := by decide +kernel
theorem dX11_miss_74 : decode cX11_miss 74 = .ok (.invokestatic 163, 3) := by decide +kernel
theorem dX11_miss_77 : decode cX11_miss 77 = .ok (.lreturn, 1) := by decide +kernel
theorem dX11_sum_0 : decode cX11_sum 0 = .ok (.aload_n 0, 1) := by decide +kernel
theorem dX11_sum_1 : decode cX11_sum 1 = .ok (.invokevirtual 160, 3) := by decide +kernel
theorem dX11_sum_4 : decode cX11_sum 4 = .ok (.aload_n 0, 1) := by decide +kernel
theorem dX11_sum_5 : decode cX11_sum 5 = .ok (.invokevirtual 167, 3) := by decide +kernel
theorem dX11_sum_8 : decode cX11_sum 8 = .ok (.aload_n 0, 1) := by decide +kernel
theorem dX11_sum_9 : decode cX11_sum 9 = .ok (.getfield 116, 3) := by decide +kernel
theorem dX11_sum_12 : decode cX11_sum 12 = .ok (.iload_n 1, 1) := by decide +kernel
theorem dX11_sum_13 : decode cX11_sum 13 = .ok (.invokestatic 163, 3) := by decide +kernel
theorem dX11_sum_16 : decode cX11_sum 16 = .ok (.lreturn, 1) := by decide +kernel
theorem dX11_pull_0 : decode cX11_pull 0 = .ok (.aload_n 0, 1) := by decide +kernel
theorem dX11_pull_1 : decode cX11_pull 1 = .ok (.iload_n 1, 1) := by decide +kernel
theorem dX11_pull_2 : decode cX11_pull 2 = .ok (.invokevirtual 171, 3) := by decide +kernel
theorem dX11_pull_5 : decode cX11_pull 5 = .ok (.ifCond .ne 7, 3) := by decide +kernel
theorem dX11_pull_8 : decode cX11_pull 8 = .ok (.ldc2_w 83, 3) := by decide +kernel
theorem dX11_pull_11 : decode cX11_pull 11 = .ok (.lreturn, 1) := by decide +kernel
theorem dX11_pull_12 : decode cX11_pull 12 = .ok (.aload_n 0, 1) := by decide +kernel
theorem dX11_pull_13 : decode cX11_pull 13 = .ok (.invokevirtual 143, 3) := by decide +kernel
theorem dX11_pull_16 : decode cX11_pull 16 = .ok (.aload_n 0, 1) := by decide +kernel
theorem dX11_pull_17 : decode cX11_pull 17 = .ok (.iload_n 1, 1) := by decide +kernel
theorem dX11_pull_18 : decode cX11_pull 18 = .ok (.invokevirtual 173, 3) := by decide +kernel
theorem dX11_pull_21 : decode cX11_pull 21 = .ok (.lconst 0, 1) := by decide +kernel
theorem dX11_pull_22 : decode cX11_pull 22 = .ok (.lstore_n 3, 1) := by decide +kernel
theorem dX11_pull_23 : decode cX11_pull 23 = .ok (.iconst 0, 1) := by decide +kernel
theorem dX11_pull_24 : decode cX11_pull 24 = .ok (.istore 5, 2) := by decide +kernel
theorem dX11_pull_26 : decode cX11_pull 26 = .ok (.iload 5, 2) := by decide +kernel
theorem dX11_pull_28 : decode cX11_pull 28 = .ok (.aload_n 0, 1) := by decide +kernel
theorem dX11_pull_29 : decode cX11_pull 29 = .ok (.getfield 7, 3) := by decide +kernel
theorem dX11_pull_32 : decode cX11_pull 32 = .ok (.if_icmp .ge 30, 3) := by decide +kernel
theorem dX11_pull_35 : decode cX11_pull 35 = .ok (.lload_n 3, 1) := by decide +kernel
theorem dX11_pull_36 : decode cX11_pull 36 = .ok (.aload_n 0, 1) := by decide +kernel
theorem dX11_pull_37 : decode cX11_pull 37 = .ok (.getfield 15, 3) := by decide +kernel
theorem dX11_pull_40 : decode cX11_pull 40 = .ok (.iload_n 1, 1) := by decide +kernel
theorem dX11_pull_41 : decode cX11_pull 41 = .ok (.aaload, 1) := by decide +kernel
theorem dX11_pull_42 : decode cX11_pull 42 = .ok (.iload 5, 2) := by decide +kernel
theorem dX11_pull_44 : decode cX11_pull 44 = .ok (.iaload, 1) := by decide +kernel
theorem dX11_pull_45 : decode cX11_pull 45 = .ok (.i2l, 1) := by decide +kernel
theorem dX11_pull_46 : decode cX11_pull 46 = .ok (.aload_n 0, 1) := by decide +kernel
theorem dX11_pull_47 : decode cX11_pull 47 = .ok (.getfield 47, 3) := by decide +kernel
theorem dX11_pull_50 : decode cX11_pull 50 = .ok (.iload 5, 2) := by decide +kernel
theorem dX11_pull_52 : decode cX11_pull 52 = .ok (.laload, 1) := by decide +kernel
theorem dX11_pull_53 : decode cX11_pull 53 = .ok (.lmul, 1) := by decide +kernel
theorem dX11_pull_54 : decode cX11_pull 54 = .ok (.ladd, 1) := by decide +kernel
theorem dX11_pull_55 : decode cX11_pull 55 = .ok (.lstore_n 3, 1) := by decide +kernel
theorem dX11_pull_56 : decode cX11_pull 56 = .ok (.iinc 5 1, 3) := by decide +kernel
theorem dX11_pull_59 : decode cX11_pull 59 = .ok (.goto (-33), 3) := by decide +kernel
theorem dX11_pull_62 : decode cX11_pull 62 = .ok (.lload_n 3, 1) := by decide +kernel
theorem dX11_pull_63 : decode cX11_pull 63 = .ok (.aload_n 0, 1) := by decide +kernel
theorem dX11_pull_64 : decode cX11_pull 64 = .ok (.getfield 116, 3) := by decide +kernel
theorem dX11_pull_67 : decode cX11_pull 67 = .ok (.iload_n 2, 1) := by decide +kernel
theorem dX11_pull_68 : decode cX11_pull 68 = .ok (.invokestatic 163, 3) := by decide +kernel
theorem dX11_pull_71 : decode cX11_pull 71 = .ok (.lreturn, 1) := by decide +kernel
theorem dX11_fitRow_0 : decode cX11_fitRow 0 = .ok (.iconst 0, 1) := by decide +kernel
theorem dX11_fitRow_1 : decode cX11_fitRow 1 = .ok (.istore_n 2, 1) := by decide +kernel
theorem dX11_fitRow_2 : decode cX11_fitRow 2 = .ok (.iload_n 2, 1) := by decide +kernel
theorem dX11_fitRow_3 : decode cX11_fitRow 3 = .ok (.iconst 3, 1) := by decide +kernel
theorem dX11_fitRow_4 : decode cX11_fitRow 4 = .ok (.if_icmp .ge 24, 3) := by decide +kernel
theorem dX11_fitRow_7 : decode cX11_fitRow 7 = .ok (.aload_n 0, 1) := by decide +kernel
theorem dX11_fitRow_8 : decode cX11_fitRow 8 = .ok (.getfield 53, 3) := by decide +kernel
theorem dX11_fitRow_11 : decode cX11_fitRow 11 = .ok (.iload_n 2, 1) := by decide +kernel
theorem dX11_fitRow_12 : decode cX11_fitRow 12 = .ok (.aload_n 0, 1) := by decide +kernel
theorem dX11_fitRow_13 : decode cX11_fitRow 13 = .ok (.getfield 15, 3) := by decide +kernel
theorem dX11_fitRow_16 : decode cX11_fitRow 16 = .ok (.iload_n 1, 1) := by decide +kernel
theorem dX11_fitRow_17 : decode cX11_fitRow 17 = .ok (.aaload, 1) := by decide +kernel
theorem dX11_fitRow_18 : decode cX11_fitRow 18 = .ok (.iload_n 2, 1) := by decide +kernel
theorem dX11_fitRow_19 : decode cX11_fitRow 19 = .ok (.iaload, 1) := by decide +kernel
theorem dX11_fitRow_20 : decode cX11_fitRow 20 = .ok (.i2l, 1) := by decide +kernel
theorem dX11_fitRow_21 : decode cX11_fitRow 21 = .ok (.lastore, 1) := by decide +kernel
theorem dX11_fitRow_22 : decode cX11_fitRow 22 = .ok (.iinc 2 1, 3) := by decide +kernel
theorem dX11_fitRow_25 : decode cX11_fitRow 25 = .ok (.goto (-23), 3) := by decide +kernel
theorem dX11_fitRow_28 : decode cX11_fitRow 28 = .ok (.aload_n 0, 1) := by decide +kernel
theorem dX11_fitRow_29 : decode cX11_fitRow 29 = .ok (.aload_n 0, 1) := by decide +kernel
theorem dX11_fitRow_30 : decode cX11_fitRow 30 = .ok (.getfield 53, 3) := by decide +kernel
theorem dX11_fitRow_33 : decode cX11_fitRow 33 = .ok (.invokevirtual 146, 3) := by decide +kernel
theorem dX11_fitRow_36 : decode cX11_fitRow 36 = .ok (.return_, 1) := by decide +kernel
theorem dX11_without_0 : decode cX11_without 0 = .ok (.aload_n 0, 1) := by decide +kernel
theorem dX11_without_1 : decode cX11_without 1 = .ok (.iload_n 1, 1) := by decide +kernel
theorem dX11_without_2 : decode cX11_without 2 = .ok (.invokevirtual 171, 3) := by decide +kernel
theorem dX11_without_5 : decode cX11_without 5 = .ok (.ifCond .eq 11, 3) := by decide +kernel
theorem dX11_without_8 : decode cX11_without 8 = .ok (.aload_n 0, 1) := by decide +kernel
theorem dX11_without_9 : decode cX11_without 9 = .ok (.iload_n 2, 1) := by decide +kernel
theorem dX11_without_10 : decode cX11_without 10 = .ok (.invokevirtual 157, 3) := by decide +kernel
theorem dX11_without_13 : decode cX11_without 13 = .ok (.ifCond .ne 7, 3) := by decide +kernel
theorem dX11_without_16 : decode cX11_without 16 = .ok (.ldc2_w 83, 3) := by decide +kernel
