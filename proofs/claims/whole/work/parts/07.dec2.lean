theorem dX11_without_19 : decode cX11_without 19 = .ok (.lreturn, 1) := by decide +kernel
theorem dX11_without_20 : decode cX11_without 20 = .ok (.aload_n 0, 1) := by decide +kernel
theorem dX11_without_21 : decode cX11_without 21 = .ok (.invokevirtual 143, 3) := by decide +kernel
theorem dX11_without_24 : decode cX11_without 24 = .ok (.aload_n 0, 1) := by decide +kernel
theorem dX11_without_25 : decode cX11_without 25 = .ok (.getfield 26, 3) := by decide +kernel
theorem dX11_without_28 : decode cX11_without 28 = .ok (.iload_n 1, 1) := by decide +kernel
theorem dX11_without_29 : decode cX11_without 29 = .ok (.iconst 0, 1) := by decide +kernel
theorem dX11_without_30 : decode cX11_without 30 = .ok (.bastore, 1) := by decide +kernel
theorem dX11_without_31 : decode cX11_without 31 = .ok (.aload_n 0, 1) := by decide +kernel
theorem dX11_without_32 : decode cX11_without 32 = .ok (.iconst 1, 1) := by decide +kernel
theorem dX11_without_33 : decode cX11_without 33 = .ok (.aload_n 0, 1) := by decide +kernel
theorem dX11_without_34 : decode cX11_without 34 = .ok (.getfield 7, 3) := by decide +kernel
theorem dX11_without_37 : decode cX11_without 37 = .ok (.ishl, 1) := by decide +kernel
theorem dX11_without_38 : decode cX11_without 38 = .ok (.iconst 1, 1) := by decide +kernel
theorem dX11_without_39 : decode cX11_without 39 = .ok (.isub, 1) := by decide +kernel
theorem dX11_without_40 : decode cX11_without 40 = .ok (.invokevirtual 97, 3) := by decide +kernel
theorem dX11_without_43 : decode cX11_without 43 = .ok (.aload_n 0, 1) := by decide +kernel
theorem dX11_without_44 : decode cX11_without 44 = .ok (.aload_n 0, 1) := by decide +kernel
theorem dX11_without_45 : decode cX11_without 45 = .ok (.getfield 34, 3) := by decide +kernel
theorem dX11_without_48 : decode cX11_without 48 = .ok (.invokevirtual 146, 3) := by decide +kernel
theorem dX11_without_51 : decode cX11_without 51 = .ok (.aload_n 0, 1) := by decide +kernel
theorem dX11_without_52 : decode cX11_without 52 = .ok (.getfield 47, 3) := by decide +kernel
theorem dX11_without_55 : decode cX11_without 55 = .ok (.iload_n 2, 1) := by decide +kernel
theorem dX11_without_56 : decode cX11_without 56 = .ok (.laload, 1) := by decide +kernel
theorem dX11_without_57 : decode cX11_without 57 = .ok (.aload_n 0, 1) := by decide +kernel
theorem dX11_without_58 : decode cX11_without 58 = .ok (.getfield 116, 3) := by decide +kernel
theorem dX11_without_61 : decode cX11_without 61 = .ok (.iload_n 3, 1) := by decide +kernel
theorem dX11_without_62 : decode cX11_without 62 = .ok (.invokestatic 163, 3) := by decide +kernel
theorem dX11_without_65 : decode cX11_without 65 = .ok (.lreturn, 1) := by decide +kernel
theorem dX11_far_0 : decode cX11_far 0 = .ok (.aload_n 0, 1) := by decide +kernel
theorem dX11_far_1 : decode cX11_far 1 = .ok (.iload_n 1, 1) := by decide +kernel
theorem dX11_far_2 : decode cX11_far 2 = .ok (.invokevirtual 171, 3) := by decide +kernel
theorem dX11_far_5 : decode cX11_far 5 = .ok (.ifCond .eq 11, 3) := by decide +kernel
theorem dX11_far_8 : decode cX11_far 8 = .ok (.aload_n 0, 1) := by decide +kernel
theorem dX11_far_9 : decode cX11_far 9 = .ok (.iload_n 2, 1) := by decide +kernel
theorem dX11_far_10 : decode cX11_far 10 = .ok (.invokevirtual 157, 3) := by decide +kernel
theorem dX11_far_13 : decode cX11_far 13 = .ok (.ifCond .ne 7, 3) := by decide +kernel
theorem dX11_far_16 : decode cX11_far 16 = .ok (.ldc2_w 83, 3) := by decide +kernel
theorem dX11_far_19 : decode cX11_far 19 = .ok (.lreturn, 1) := by decide +kernel
theorem dX11_far_20 : decode cX11_far 20 = .ok (.aload_n 0, 1) := by decide +kernel
theorem dX11_far_21 : decode cX11_far 21 = .ok (.invokevirtual 160, 3) := by decide +kernel
theorem dX11_far_24 : decode cX11_far 24 = .ok (.aload_n 0, 1) := by decide +kernel
theorem dX11_far_25 : decode cX11_far 25 = .ok (.invokevirtual 132, 3) := by decide +kernel
theorem dX11_far_28 : decode cX11_far 28 = .ok (.aload_n 0, 1) := by decide +kernel
theorem dX11_far_29 : decode cX11_far 29 = .ok (.getfield 7, 3) := by decide +kernel
theorem dX11_far_32 : decode cX11_far 32 = .ok (.if_icmp .eq 7, 3) := by decide +kernel
theorem dX11_far_35 : decode cX11_far 35 = .ok (.ldc2_w 83, 3) := by decide +kernel
theorem dX11_far_38 : decode cX11_far 38 = .ok (.lreturn, 1) := by decide +kernel
theorem dX11_far_39 : decode cX11_far 39 = .ok (.aload_n 0, 1) := by decide +kernel
theorem dX11_far_40 : decode cX11_far 40 = .ok (.getfield 47, 3) := by decide +kernel
theorem dX11_far_43 : decode cX11_far 43 = .ok (.iload_n 2, 1) := by decide +kernel
theorem dX11_far_44 : decode cX11_far 44 = .ok (.laload, 1) := by decide +kernel
theorem dX11_far_45 : decode cX11_far 45 = .ok (.lstore 4, 2) := by decide +kernel
theorem dX11_far_47 : decode cX11_far 47 = .ok (.aload_n 0, 1) := by decide +kernel
theorem dX11_far_48 : decode cX11_far 48 = .ok (.getfield 116, 3) := by decide +kernel
theorem dX11_far_51 : decode cX11_far 51 = .ok (.lstore 6, 2) := by decide +kernel
theorem dX11_far_53 : decode cX11_far 53 = .ok (.aload_n 0, 1) := by decide +kernel
theorem dX11_far_54 : decode cX11_far 54 = .ok (.iload_n 1, 1) := by decide +kernel
theorem dX11_far_55 : decode cX11_far 55 = .ok (.invokevirtual 173, 3) := by decide +kernel
theorem dX11_far_58 : decode cX11_far 58 = .ok (.aload_n 0, 1) := by decide +kernel
theorem dX11_far_59 : decode cX11_far 59 = .ok (.getfield 47, 3) := by decide +kernel
theorem dX11_far_62 : decode cX11_far 62 = .ok (.iload_n 2, 1) := by decide +kernel
theorem dX11_far_63 : decode cX11_far 63 = .ok (.laload, 1) := by decide +kernel
theorem dX11_far_64 : decode cX11_far 64 = .ok (.lconst 0, 1) := by decide +kernel
theorem dX11_far_65 : decode cX11_far 65 = .ok (.lcmp, 1) := by decide +kernel
theorem dX11_far_66 : decode cX11_far 66 = .ok (.ifCond .ne 7, 3) := by decide +kernel
theorem dX11_far_69 : decode cX11_far 69 = .ok (.ldc2_w 83, 3) := by decide +kernel
theorem dX11_far_72 : decode cX11_far 72 = .ok (.lreturn, 1) := by decide +kernel
theorem dX11_far_73 : decode cX11_far 73 = .ok (.lload 4, 2) := by decide +kernel
theorem dX11_far_75 : decode cX11_far 75 = .ok (.aload_n 0, 1) := by decide +kernel
theorem dX11_far_76 : decode cX11_far 76 = .ok (.getfield 47, 3) := by decide +kernel
theorem dX11_far_79 : decode cX11_far 79 = .ok (.iload_n 2, 1) := by decide +kernel
theorem dX11_far_80 : decode cX11_far 80 = .ok (.laload, 1) := by decide +kernel
theorem dX11_far_81 : decode cX11_far 81 = .ok (.invokestatic 85, 3) := by decide +kernel
theorem dX11_far_84 : decode cX11_far 84 = .ok (.lstore 8, 2) := by decide +kernel
theorem dX11_far_86 : decode cX11_far 86 = .ok (.lload 6, 2) := by decide +kernel
theorem dX11_far_88 : decode cX11_far 88 = .ok (.aload_n 0, 1) := by decide +kernel
theorem dX11_far_89 : decode cX11_far 89 = .ok (.getfield 116, 3) := by decide +kernel
theorem dX11_far_92 : decode cX11_far 92 = .ok (.invokestatic 85, 3) := by decide +kernel
theorem dX11_far_95 : decode cX11_far 95 = .ok (.lstore 10, 2) := by decide +kernel
theorem dX11_far_97 : decode cX11_far 97 = .ok (.lload 4, 2) := by decide +kernel
theorem dX11_far_99 : decode cX11_far 99 = .ok (.lload 8, 2) := by decide +kernel
theorem dX11_far_101 : decode cX11_far 101 = .ok (.ldiv, 1) := by decide +kernel
theorem dX11_far_102 : decode cX11_far 102 = .ok (.lneg, 1) := by decide +kernel
theorem dX11_far_103 : decode cX11_far 103 = .ok (.aload_n 0, 1) := by decide +kernel
theorem dX11_far_104 : decode cX11_far 104 = .ok (.getfield 116, 3) := by decide +kernel
theorem dX11_far_107 : decode cX11_far 107 = .ok (.lload 10, 2) := by decide +kernel
theorem dX11_far_109 : decode cX11_far 109 = .ok (.ldiv, 1) := by decide +kernel
theorem dX11_far_110 : decode cX11_far 110 = .ok (.lmul, 1) := by decide +kernel
theorem dX11_far_111 : decode cX11_far 111 = .ok (.lstore 12, 2) := by decide +kernel
theorem dX11_far_113 : decode cX11_far 113 = .ok (.aload_n 0, 1) := by decide +kernel
theorem dX11_far_114 : decode cX11_far 114 = .ok (.getfield 47, 3) := by decide +kernel
theorem dX11_far_117 : decode cX11_far 117 = .ok (.iload_n 2, 1) := by decide +kernel
theorem dX11_far_118 : decode cX11_far 118 = .ok (.laload, 1) := by decide +kernel
theorem dX11_far_119 : decode cX11_far 119 = .ok (.lload 8, 2) := by decide +kernel
theorem dX11_far_121 : decode cX11_far 121 = .ok (.ldiv, 1) := by decide +kernel
theorem dX11_far_122 : decode cX11_far 122 = .ok (.lload 6, 2) := by decide +kernel
theorem dX11_far_124 : decode cX11_far 124 = .ok (.lload 10, 2) := by decide +kernel
theorem dX11_far_126 : decode cX11_far 126 = .ok (.ldiv, 1) := by decide +kernel
theorem dX11_far_127 : decode cX11_far 127 = .ok (.lmul, 1) := by decide +kernel
theorem dX11_far_128 : decode cX11_far 128 = .ok (.lstore 14, 2) := by decide +kernel
theorem dX11_far_130 : decode cX11_far 130 = .ok (.lload 12, 2) := by decide +kernel
theorem dX11_far_132 : decode cX11_far 132 = .ok (.lload 14, 2) := by decide +kernel
theorem dX11_far_134 : decode cX11_far 134 = .ok (.iload_n 3, 1) := by decide +kernel
theorem dX11_far_135 : decode cX11_far 135 = .ok (.invokestatic 163, 3) := by decide +kernel
theorem dX11_far_138 : decode cX11_far 138 = .ok (.lreturn, 1) := by decide +kernel
theorem dX11_few_0 : decode cX11_few 0 = .ok (.iload_n 1, 1) := by decide +kernel
theorem dX11_few_1 : decode cX11_few 1 = .ok (.ifCond .lt 20, 3) := by decide +kernel
theorem dX11_few_4 : decode cX11_few 4 = .ok (.iload_n 1, 1) := by decide +kernel
theorem dX11_few_5 : decode cX11_few 5 = .ok (.aload_n 0, 1) := by decide +kernel
theorem dX11_few_6 : decode cX11_few 6 = .ok (.getfield 7, 3) := by decide +kernel
theorem dX11_few_9 : decode cX11_few 9 = .ok (.if_icmp .gt 12, 3) := by decide +kernel
theorem dX11_few_12 : decode cX11_few 12 = .ok (.iload_n 2, 1) := by decide +kernel
theorem dX11_few_13 : decode cX11_few 13 = .ok (.ifCond .lt 8, 3) := by decide +kernel
theorem dX11_few_16 : decode cX11_few 16 = .ok (.iload_n 2, 1) := by decide +kernel
theorem dX11_few_17 : decode cX11_few 17 = .ok (.iconst 2, 1) := by decide +kernel
theorem dX11_few_18 : decode cX11_few 18 = .ok (.if_icmp .le 7, 3) := by decide +kernel
theorem dX11_few_21 : decode cX11_few 21 = .ok (.ldc2_w 83, 3) := by decide +kernel
theorem dX11_few_24 : decode cX11_few 24 = .ok (.lreturn, 1) := by decide +kernel
theorem dX11_few_25 : decode cX11_few 25 = .ok (.aload_n 0, 1) := by decide +kernel
theorem dX11_few_26 : decode cX11_few 26 = .ok (.invokevirtual 143, 3) := by decide +kernel
theorem dX11_few_29 : decode cX11_few 29 = .ok (.lconst 0, 1) := by decide +kernel
theorem dX11_few_30 : decode cX11_few 30 = .ok (.lstore_n 3, 1) := by decide +kernel
theorem dX11_few_31 : decode cX11_few 31 = .ok (.lconst 0, 1) := by decide +kernel
theorem dX11_few_32 : decode cX11_few 32 = .ok (.lstore 5, 2) := by decide +kernel
theorem dX11_few_34 : decode cX11_few 34 = .ok (.iconst 0, 1) := by decide +kernel
theorem dX11_few_35 : decode cX11_few 35 = .ok (.istore 7, 2) := by decide +kernel
theorem dX11_few_37 : decode cX11_few 37 = .ok (.iconst 0, 1) := by decide +kernel
theorem dX11_few_38 : decode cX11_few 38 = .ok (.istore 8, 2) := by decide +kernel
theorem dX11_few_40 : decode cX11_few 40 = .ok (.iload 8, 2) := by decide +kernel
theorem dX11_few_42 : decode cX11_few 42 = .ok (.iconst 1, 1) := by decide +kernel
theorem dX11_few_43 : decode cX11_few 43 = .ok (.aload_n 0, 1) := by decide +kernel
theorem dX11_few_44 : decode cX11_few 44 = .ok (.getfield 7, 3) := by decide +kernel
theorem dX11_few_47 : decode cX11_few 47 = .ok (.ishl, 1) := by decide +kernel
theorem dX11_few_48 : decode cX11_few 48 = .ok (.if_icmp .ge 76, 3) := by decide +kernel
theorem dX11_few_51 : decode cX11_few 51 = .ok (.iload 8, 2) := by decide +kernel
theorem dX11_few_53 : decode cX11_few 53 = .ok (.invokestatic 176, 3) := by decide +kernel
theorem dX11_few_56 : decode cX11_few 56 = .ok (.iload_n 1, 1) := by decide +kernel
theorem dX11_few_57 : decode cX11_few 57 = .ok (.if_icmp .eq 6, 3) := by decide +kernel
theorem dX11_few_60 : decode cX11_few 60 = .ok (.goto 58, 3) := by decide +kernel
theorem dX11_few_63 : decode cX11_few 63 = .ok (.aload_n 0, 1) := by decide +kernel
theorem dX11_few_64 : decode cX11_few 64 = .ok (.iload 8, 2) := by decide +kernel
theorem dX11_few_66 : decode cX11_few 66 = .ok (.invokevirtual 97, 3) := by decide +kernel
theorem dX11_few_69 : decode cX11_few 69 = .ok (.aload_n 0, 1) := by decide +kernel
theorem dX11_few_70 : decode cX11_few 70 = .ok (.aload_n 0, 1) := by decide +kernel
theorem dX11_few_71 : decode cX11_few 71 = .ok (.getfield 34, 3) := by decide +kernel
theorem dX11_few_74 : decode cX11_few 74 = .ok (.invokevirtual 146, 3) := by decide +kernel
theorem dX11_few_77 : decode cX11_few 77 = .ok (.aload_n 0, 1) := by decide +kernel
theorem dX11_few_78 : decode cX11_few 78 = .ok (.invokevirtual 167, 3) := by decide +kernel
theorem dX11_few_81 : decode cX11_few 81 = .ok (.lstore 9, 2) := by decide +kernel
theorem dX11_few_83 : decode cX11_few 83 = .ok (.lload 5, 2) := by decide +kernel
theorem dX11_few_85 : decode cX11_few 85 = .ok (.lconst 0, 1) := by decide +kernel
theorem dX11_few_86 : decode cX11_few 86 = .ok (.lcmp, 1) := by decide +kernel
theorem dX11_few_87 : decode cX11_few 87 = .ok (.ifCond .eq 18, 3) := by decide +kernel
theorem dX11_few_90 : decode cX11_few 90 = .ok (.lload 9, 2) := by decide +kernel
theorem dX11_few_92 : decode cX11_few 92 = .ok (.aload_n 0, 1) := by decide +kernel
theorem dX11_few_93 : decode cX11_few 93 = .ok (.getfield 116, 3) := by decide +kernel
theorem dX11_few_96 : decode cX11_few 96 = .ok (.lload_n 3, 1) := by decide +kernel
theorem dX11_few_97 : decode cX11_few 97 = .ok (.lload 5, 2) := by decide +kernel
theorem dX11_few_99 : decode cX11_few 99 = .ok (.invokestatic 182, 3) := by decide +kernel
theorem dX11_few_102 : decode cX11_few 102 = .ok (.ifCond .ge 16, 3) := by decide +kernel
theorem dX11_few_105 : decode cX11_few 105 = .ok (.lload 9, 2) := by decide +kernel
theorem dX11_few_107 : decode cX11_few 107 = .ok (.lstore_n 3, 1) := by decide +kernel
theorem dX11_few_108 : decode cX11_few 108 = .ok (.aload_n 0, 1) := by decide +kernel
theorem dX11_few_109 : decode cX11_few 109 = .ok (.getfield 116, 3) := by decide +kernel
theorem dX11_few_112 : decode cX11_few 112 = .ok (.lstore 5, 2) := by decide +kernel
theorem dX11_few_114 : decode cX11_few 114 = .ok (.iload 8, 2) := by decide +kernel
theorem dX11_few_116 : decode cX11_few 116 = .ok (.istore 7, 2) := by decide +kernel
theorem dX11_few_118 : decode cX11_few 118 = .ok (.iinc 8 1, 3) := by decide +kernel
theorem dX11_few_121 : decode cX11_few 121 = .ok (.goto (-81), 3) := by decide +kernel
theorem dX11_few_124 : decode cX11_few 124 = .ok (.iload_n 2, 1) := by decide +kernel
theorem dX11_few_125 : decode cX11_few 125 = .ok (.iconst 2, 1) := by decide +kernel
theorem dX11_few_126 : decode cX11_few 126 = .ok (.if_icmp .ne 9, 3) := by decide +kernel
theorem dX11_few_129 : decode cX11_few 129 = .ok (.iload 7, 2) := by decide +kernel
theorem dX11_few_131 : decode cX11_few 131 = .ok (.i2l, 1) := by decide +kernel
theorem dX11_few_132 : decode cX11_few 132 = .ok (.goto 10, 3) := by decide +kernel
theorem dX11_few_135 : decode cX11_few 135 = .ok (.lload_n 3, 1) := by decide +kernel
theorem dX11_few_136 : decode cX11_few 136 = .ok (.lload 5, 2) := by decide +kernel
theorem dX11_few_138 : decode cX11_few 138 = .ok (.iload_n 2, 1) := by decide +kernel
theorem dX11_few_139 : decode cX11_few 139 = .ok (.invokestatic 163, 3) := by decide +kernel
theorem dX11_few_142 : decode cX11_few 142 = .ok (.lreturn, 1) := by decide +kernel
theorem dX11_begins_0 : decode cX11_begins 0 = .ok (.iconst 0, 1) := by decide +kernel
theorem dX11_begins_1 : decode cX11_begins 1 = .ok (.istore_n 2, 1) := by decide +kernel
theorem dX11_begins_2 : decode cX11_begins 2 = .ok (.iconst 0, 1) := by decide +kernel
theorem dX11_begins_3 : decode cX11_begins 3 = .ok (.istore_n 3, 1) := by decide +kernel
theorem dX11_begins_4 : decode cX11_begins 4 = .ok (.iload_n 3, 1) := by decide +kernel
theorem dX11_begins_5 : decode cX11_begins 5 = .ok (.aload_n 0, 1) := by decide +kernel
theorem dX11_begins_6 : decode cX11_begins 6 = .ok (.getfield 94, 3) := by decide +kernel
theorem dX11_begins_9 : decode cX11_begins 9 = .ok (.if_icmp .ge 33, 3) := by decide +kernel
theorem dX11_begins_12 : decode cX11_begins 12 = .ok (.iload_n 2, 1) := by decide +kernel
theorem dX11_begins_13 : decode cX11_begins 13 = .ok (.iload_n 1, 1) := by decide +kernel
theorem dX11_begins_14 : decode cX11_begins 14 = .ok (.if_icmp .ge 28, 3) := by decide +kernel
theorem dX11_begins_17 : decode cX11_begins 17 = .ok (.aload_n 0, 1) := by decide +kernel
theorem dX11_begins_18 : decode cX11_begins 18 = .ok (.getfield 22, 3) := by decide +kernel
theorem dX11_begins_21 : decode cX11_begins 21 = .ok (.iload_n 3, 1) := by decide +kernel
theorem dX11_begins_22 : decode cX11_begins 22 = .ok (.baload, 1) := by decide +kernel
theorem dX11_begins_23 : decode cX11_begins 23 = .ok (.ifCond .eq 13, 3) := by decide +kernel
theorem dX11_begins_26 : decode cX11_begins 26 = .ok (.aload_n 0, 1) := by decide +kernel
theorem dX11_begins_27 : decode cX11_begins 27 = .ok (.getfield 56, 3) := by decide +kernel
theorem dX11_begins_30 : decode cX11_begins 30 = .ok (.iload_n 2, 1) := by decide +kernel
theorem dX11_begins_31 : decode cX11_begins 31 = .ok (.iload_n 3, 1) := by decide +kernel
theorem dX11_begins_32 : decode cX11_begins 32 = .ok (.iastore, 1) := by decide +kernel
theorem dX11_begins_33 : decode cX11_begins 33 = .ok (.iinc 2 1, 3) := by decide +kernel
theorem dX11_begins_36 : decode cX11_begins 36 = .ok (.iinc 3 1, 3) := by decide +kernel
theorem dX11_begins_39 : decode cX11_begins 39 = .ok (.goto (-35), 3) := by decide +kernel
theorem dX11_begins_42 : decode cX11_begins 42 = .ok (.iload_n 2, 1) := by decide +kernel
theorem dX11_begins_43 : decode cX11_begins 43 = .ok (.iload_n 1, 1) := by decide +kernel
theorem dX11_begins_44 : decode cX11_begins 44 = .ok (.if_icmp .ne 7, 3) := by decide +kernel
theorem dX11_begins_47 : decode cX11_begins 47 = .ok (.iconst 1, 1) := by decide +kernel
theorem dX11_begins_48 : decode cX11_begins 48 = .ok (.goto 4, 3) := by decide +kernel
theorem dX11_begins_51 : decode cX11_begins 51 = .ok (.iconst 0, 1) := by decide +kernel
theorem dX11_begins_52 : decode cX11_begins 52 = .ok (.ireturn, 1) := by decide +kernel
theorem dX11_behind_0 : decode cX11_behind 0 = .ok (.iload_n 1, 1) := by decide +kernel
theorem dX11_behind_1 : decode cX11_behind 1 = .ok (.iconst 1, 1) := by decide +kernel
theorem dX11_behind_2 : decode cX11_behind 2 = .ok (.iadd, 1) := by decide +kernel
theorem dX11_behind_3 : decode cX11_behind 3 = .ok (.istore_n 2, 1) := by decide +kernel
theorem dX11_behind_4 : decode cX11_behind 4 = .ok (.iload_n 2, 1) := by decide +kernel
theorem dX11_behind_5 : decode cX11_behind 5 = .ok (.aload_n 0, 1) := by decide +kernel
theorem dX11_behind_6 : decode cX11_behind 6 = .ok (.getfield 94, 3) := by decide +kernel
theorem dX11_behind_9 : decode cX11_behind 9 = .ok (.if_icmp .ge 18, 3) := by decide +kernel
theorem dX11_behind_12 : decode cX11_behind 12 = .ok (.aload_n 0, 1) := by decide +kernel
theorem dX11_behind_13 : decode cX11_behind 13 = .ok (.getfield 22, 3) := by decide +kernel
theorem dX11_behind_16 : decode cX11_behind 16 = .ok (.iload_n 2, 1) := by decide +kernel
theorem dX11_behind_17 : decode cX11_behind 17 = .ok (.baload, 1) := by decide +kernel
theorem dX11_behind_18 : decode cX11_behind 18 = .ok (.ifCond .ne 9, 3) := by decide +kernel
theorem dX11_behind_21 : decode cX11_behind 21 = .ok (.iinc 2 1, 3) := by decide +kernel
theorem dX11_behind_24 : decode cX11_behind 24 = .ok (.goto (-20), 3) := by decide +kernel
theorem dX11_behind_27 : decode cX11_behind 27 = .ok (.iload_n 2, 1) := by decide +kernel
theorem dX11_behind_28 : decode cX11_behind 28 = .ok (.ireturn, 1) := by decide +kernel
theorem dX11_next_0 : decode cX11_next 0 = .ok (.iload_n 1, 1) := by decide +kernel
theorem dX11_next_1 : decode cX11_next 1 = .ok (.iconst 1, 1) := by decide +kernel
theorem dX11_next_2 : decode cX11_next 2 = .ok (.isub, 1) := by decide +kernel
theorem dX11_next_3 : decode cX11_next 3 = .ok (.istore_n 2, 1) := by decide +kernel
theorem dX11_next_4 : decode cX11_next 4 = .ok (.iload_n 2, 1) := by decide +kernel
theorem dX11_next_5 : decode cX11_next 5 = .ok (.ifCond .lt 94, 3) := by decide +kernel
theorem dX11_next_8 : decode cX11_next 8 = .ok (.aload_n 0, 1) := by decide +kernel
theorem dX11_next_9 : decode cX11_next 9 = .ok (.aload_n 0, 1) := by decide +kernel
theorem dX11_next_10 : decode cX11_next 10 = .ok (.getfield 56, 3) := by decide +kernel
theorem dX11_next_13 : decode cX11_next 13 = .ok (.iload_n 2, 1) := by decide +kernel
theorem dX11_next_14 : decode cX11_next 14 = .ok (.iaload, 1) := by decide +kernel
theorem dX11_next_15 : decode cX11_next 15 = .ok (.invokevirtual 186, 3) := by decide +kernel
theorem dX11_next_18 : decode cX11_next 18 = .ok (.istore_n 3, 1) := by decide +kernel
theorem dX11_next_19 : decode cX11_next 19 = .ok (.iload_n 2, 1) := by decide +kernel
theorem dX11_next_20 : decode cX11_next 20 = .ok (.istore 4, 2) := by decide +kernel
theorem dX11_next_22 : decode cX11_next 22 = .ok (.iload_n 3, 1) := by decide +kernel
theorem dX11_next_23 : decode cX11_next 23 = .ok (.aload_n 0, 1) := by decide +kernel
theorem dX11_next_24 : decode cX11_next 24 = .ok (.getfield 94, 3) := by decide +kernel
theorem dX11_next_27 : decode cX11_next 27 = .ok (.if_icmp .ge 29, 3) := by decide +kernel
theorem dX11_next_30 : decode cX11_next 30 = .ok (.iload 4, 2) := by decide +kernel
theorem dX11_next_32 : decode cX11_next 32 = .ok (.iload_n 1, 1) := by decide +kernel
theorem dX11_next_33 : decode cX11_next 33 = .ok (.if_icmp .ge 23, 3) := by decide +kernel
theorem dX11_next_36 : decode cX11_next 36 = .ok (.aload_n 0, 1) := by decide +kernel
theorem dX11_next_37 : decode cX11_next 37 = .ok (.getfield 59, 3) := by decide +kernel
theorem dX11_next_40 : decode cX11_next 40 = .ok (.iload 4, 2) := by decide +kernel
theorem dX11_next_42 : decode cX11_next 42 = .ok (.iload_n 3, 1) := by decide +kernel
theorem dX11_next_43 : decode cX11_next 43 = .ok (.iastore, 1) := by decide +kernel
theorem dX11_next_44 : decode cX11_next 44 = .ok (.iinc 4 1, 3) := by decide +kernel
theorem dX11_next_47 : decode cX11_next 47 = .ok (.aload_n 0, 1) := by decide +kernel
theorem dX11_next_48 : decode cX11_next 48 = .ok (.iload_n 3, 1) := by decide +kernel
theorem dX11_next_49 : decode cX11_next 49 = .ok (.invokevirtual 186, 3) := by decide +kernel
theorem dX11_next_52 : decode cX11_next 52 = .ok (.istore_n 3, 1) := by decide +kernel
theorem dX11_next_53 : decode cX11_next 53 = .ok (.goto (-31), 3) := by decide +kernel
theorem dX11_next_56 : decode cX11_next 56 = .ok (.iload 4, 2) := by decide +kernel
theorem dX11_next_58 : decode cX11_next 58 = .ok (.iload_n 1, 1) := by decide +kernel
theorem dX11_next_59 : decode cX11_next 59 = .ok (.if_icmp .ne 34, 3) := by decide +kernel
theorem dX11_next_62 : decode cX11_next 62 = .ok (.iload_n 2, 1) := by decide +kernel
theorem dX11_next_63 : decode cX11_next 63 = .ok (.istore 5, 2) := by decide +kernel
theorem dX11_next_65 : decode cX11_next 65 = .ok (.iload 5, 2) := by decide +kernel
theorem dX11_next_67 : decode cX11_next 67 = .ok (.iload_n 1, 1) := by decide +kernel
theorem dX11_next_68 : decode cX11_next 68 = .ok (.if_icmp .ge 23, 3) := by decide +kernel
theorem dX11_next_71 : decode cX11_next 71 = .ok (.aload_n 0, 1) := by decide +kernel
theorem dX11_next_72 : decode cX11_next 72 = .ok (.getfield 56, 3) := by decide +kernel
theorem dX11_next_75 : decode cX11_next 75 = .ok (.iload 5, 2) := by decide +kernel
theorem dX11_next_77 : decode cX11_next 77 = .ok (.aload_n 0, 1) := by decide +kernel
theorem dX11_next_78 : decode cX11_next 78 = .ok (.getfield 59, 3) := by decide +kernel
theorem dX11_next_81 : decode cX11_next 81 = .ok (.iload 5, 2) := by decide +kernel
theorem dX11_next_83 : decode cX11_next 83 = .ok (.iaload, 1) := by decide +kernel
theorem dX11_next_84 : decode cX11_next 84 = .ok (.iastore, 1) := by decide +kernel
theorem dX11_next_85 : decode cX11_next 85 = .ok (.iinc 5 1, 3) := by decide +kernel
theorem dX11_next_88 : decode cX11_next 88 = .ok (.goto (-23), 3) := by decide +kernel
theorem dX11_next_91 : decode cX11_next 91 = .ok (.iconst 1, 1) := by decide +kernel
theorem dX11_next_92 : decode cX11_next 92 = .ok (.ireturn, 1) := by decide +kernel
theorem dX11_next_93 : decode cX11_next 93 = .ok (.iinc 2 (-1), 3) := by decide +kernel
theorem dX11_next_96 : decode cX11_next 96 = .ok (.goto (-92), 3) := by decide +kernel
theorem dX11_next_99 : decode cX11_next 99 = .ok (.iconst 0, 1) := by decide +kernel
theorem dX11_next_100 : decode cX11_next 100 = .ok (.ireturn, 1) := by decide +kernel
theorem dX11_manyThere_0 : decode cX11_manyThere 0 = .ok (.iconst 0, 1) := by decide +kernel
theorem dX11_manyThere_1 : decode cX11_manyThere 1 = .ok (.istore_n 1, 1) := by decide +kernel
theorem dX11_manyThere_2 : decode cX11_manyThere 2 = .ok (.iconst 0, 1) := by decide +kernel
theorem dX11_manyThere_3 : decode cX11_manyThere 3 = .ok (.istore_n 2, 1) := by decide +kernel
theorem dX11_manyThere_4 : decode cX11_manyThere 4 = .ok (.iload_n 2, 1) := by decide +kernel
theorem dX11_manyThere_5 : decode cX11_manyThere 5 = .ok (.aload_n 0, 1) := by decide +kernel
theorem dX11_manyThere_6 : decode cX11_manyThere 6 = .ok (.getfield 94, 3) := by decide +kernel
theorem dX11_manyThere_9 : decode cX11_manyThere 9 = .ok (.if_icmp .ge 26, 3) := by decide +kernel
theorem dX11_manyThere_12 : decode cX11_manyThere 12 = .ok (.iload_n 1, 1) := by decide +kernel
theorem dX11_manyThere_13 : decode cX11_manyThere 13 = .ok (.aload_n 0, 1) := by decide +kernel
theorem dX11_manyThere_14 : decode cX11_manyThere 14 = .ok (.getfield 22, 3) := by decide +kernel
theorem dX11_manyThere_17 : decode cX11_manyThere 17 = .ok (.iload_n 2, 1) := by decide +kernel
theorem dX11_manyThere_18 : decode cX11_manyThere 18 = .ok (.baload, 1) := by decide +kernel
theorem dX11_manyThere_19 : decode cX11_manyThere 19 = .ok (.ifCond .eq 7, 3) := by decide +kernel
theorem dX11_manyThere_22 : decode cX11_manyThere 22 = .ok (.iconst 1, 1) := by decide +kernel
theorem dX11_manyThere_23 : decode cX11_manyThere 23 = .ok (.goto 4, 3) := by decide +kernel
theorem dX11_manyThere_26 : decode cX11_manyThere 26 = .ok (.iconst 0, 1) := by decide +kernel
theorem dX11_manyThere_27 : decode cX11_manyThere 27 = .ok (.iadd, 1) := by decide +kernel
theorem dX11_manyThere_28 : decode cX11_manyThere 28 = .ok (.istore_n 1, 1) := by decide +kernel
theorem dX11_manyThere_29 : decode cX11_manyThere 29 = .ok (.iinc 2 1, 3) := by decide +kernel
theorem dX11_manyThere_32 : decode cX11_manyThere 32 = .ok (.goto (-28), 3) := by decide +kernel
theorem dX11_manyThere_35 : decode cX11_manyThere 35 = .ok (.iload_n 1, 1) := by decide +kernel
theorem dX11_manyThere_36 : decode cX11_manyThere 36 = .ok (.ireturn, 1) := by decide +kernel
theorem dX11_half_0 : decode cX11_half 0 = .ok (.aload_n 0, 1) := by decide +kernel
theorem dX11_half_1 : decode cX11_half 1 = .ok (.invokevirtual 189, 3) := by decide +kernel
theorem dX11_half_4 : decode cX11_half 4 = .ok (.bipush 10, 2) := by decide +kernel
theorem dX11_half_6 : decode cX11_half 6 = .ok (.if_icmp .gt 24, 3) := by decide +kernel
theorem dX11_half_9 : decode cX11_half 9 = .ok (.iload_n 1, 1) := by decide +kernel
theorem dX11_half_10 : decode cX11_half 10 = .ok (.ifCond .lt 20, 3) := by decide +kernel
theorem dX11_half_13 : decode cX11_half 13 = .ok (.iload_n 1, 1) := by decide +kernel
theorem dX11_half_14 : decode cX11_half 14 = .ok (.aload_n 0, 1) := by decide +kernel
theorem dX11_half_15 : decode cX11_half 15 = .ok (.invokevirtual 189, 3) := by decide +kernel
theorem dX11_half_18 : decode cX11_half 18 = .ok (.if_icmp .gt 12, 3) := by decide +kernel
theorem dX11_half_21 : decode cX11_half 21 = .ok (.iload_n 2, 1) := by decide +kernel
theorem dX11_half_22 : decode cX11_half 22 = .ok (.ifCond .lt 8, 3) := by decide +kernel
theorem dX11_half_25 : decode cX11_half 25 = .ok (.iload_n 2, 1) := by decide +kernel
theorem dX11_half_26 : decode cX11_half 26 = .ok (.iconst 2, 1) := by decide +kernel
theorem dX11_half_27 : decode cX11_half 27 = .ok (.if_icmp .le 7, 3) := by decide +kernel
theorem dX11_half_30 : decode cX11_half 30 = .ok (.ldc2_w 83, 3) := by decide +kernel
theorem dX11_half_33 : decode cX11_half 33 = .ok (.lreturn, 1) := by decide +kernel
theorem dX11_half_34 : decode cX11_half 34 = .ok (.lconst 0, 1) := by decide +kernel
theorem dX11_half_35 : decode cX11_half 35 = .ok (.lstore_n 3, 1) := by decide +kernel
theorem dX11_half_36 : decode cX11_half 36 = .ok (.lconst 0, 1) := by decide +kernel
theorem dX11_half_37 : decode cX11_half 37 = .ok (.lstore 5, 2) := by decide +kernel
theorem dX11_half_39 : decode cX11_half 39 = .ok (.iconst 0, 1) := by decide +kernel
theorem dX11_half_40 : decode cX11_half 40 = .ok (.istore 7, 2) := by decide +kernel
theorem dX11_half_42 : decode cX11_half 42 = .ok (.aload_n 0, 1) := by decide +kernel
theorem dX11_half_43 : decode cX11_half 43 = .ok (.iload_n 1, 1) := by decide +kernel
theorem dX11_half_44 : decode cX11_half 44 = .ok (.invokevirtual 192, 3) := by decide +kernel
theorem dX11_half_47 : decode cX11_half 47 = .ok (.istore 8, 2) := by decide +kernel
theorem dX11_half_49 : decode cX11_half 49 = .ok (.iload 8, 2) := by decide +kernel
theorem dX11_half_51 : decode cX11_half 51 = .ok (.ifCond .eq 157, 3) := by decide +kernel
theorem dX11_half_54 : decode cX11_half 54 = .ok (.iconst 0, 1) := by decide +kernel
theorem dX11_half_55 : decode cX11_half 55 = .ok (.istore 9, 2) := by decide +kernel
theorem dX11_half_57 : decode cX11_half 57 = .ok (.iconst 0, 1) := by decide +kernel
theorem dX11_half_58 : decode cX11_half 58 = .ok (.istore 10, 2) := by decide +kernel
theorem dX11_half_60 : decode cX11_half 60 = .ok (.iload 10, 2) := by decide +kernel
theorem dX11_half_62 : decode cX11_half 62 = .ok (.aload_n 0, 1) := by decide +kernel
theorem dX11_half_63 : decode cX11_half 63 = .ok (.getfield 94, 3) := by decide +kernel
theorem dX11_half_66 : decode cX11_half 66 = .ok (.if_icmp .ge 17, 3) := by decide +kernel
theorem dX11_half_69 : decode cX11_half 69 = .ok (.aload_n 0, 1) := by decide +kernel
theorem dX11_half_70 : decode cX11_half 70 = .ok (.getfield 26, 3) := by decide +kernel
theorem dX11_half_73 : decode cX11_half 73 = .ok (.iload 10, 2) := by decide +kernel
theorem dX11_half_75 : decode cX11_half 75 = .ok (.iconst 0, 1) := by decide +kernel
theorem dX11_half_76 : decode cX11_half 76 = .ok (.bastore, 1) := by decide +kernel
theorem dX11_half_77 : decode cX11_half 77 = .ok (.iinc 10 1, 3) := by decide +kernel
theorem dX11_half_80 : decode cX11_half 80 = .ok (.goto (-20), 3) := by decide +kernel
theorem dX11_half_83 : decode cX11_half 83 = .ok (.iconst 0, 1) := by decide +kernel
theorem dX11_half_84 : decode cX11_half 84 = .ok (.istore 10, 2) := by decide +kernel
theorem dX11_half_86 : decode cX11_half 86 = .ok (.iload 10, 2) := by decide +kernel
theorem dX11_half_88 : decode cX11_half 88 = .ok (.iload_n 1, 1) := by decide +kernel
theorem dX11_half_89 : decode cX11_half 89 = .ok (.if_icmp .ge 36, 3) := by decide +kernel
theorem dX11_half_92 : decode cX11_half 92 = .ok (.aload_n 0, 1) := by decide +kernel
theorem dX11_half_93 : decode cX11_half 93 = .ok (.getfield 26, 3) := by decide +kernel
theorem dX11_half_96 : decode cX11_half 96 = .ok (.aload_n 0, 1) := by decide +kernel
theorem dX11_half_97 : decode cX11_half 97 = .ok (.getfield 56, 3) := by decide +kernel
theorem dX11_half_100 : decode cX11_half 100 = .ok (.iload 10, 2) := by decide +kernel
theorem dX11_half_102 : decode cX11_half 102 = .ok (.iaload, 1) := by decide +kernel
theorem dX11_half_103 : decode cX11_half 103 = .ok (.iconst 1, 1) := by decide +kernel
theorem dX11_half_104 : decode cX11_half 104 = .ok (.bastore, 1) := by decide +kernel
theorem dX11_half_105 : decode cX11_half 105 = .ok (.iload 9, 2) := by decide +kernel
theorem dX11_half_107 : decode cX11_half 107 = .ok (.iconst 1, 1) := by decide +kernel
theorem dX11_half_108 : decode cX11_half 108 = .ok (.aload_n 0, 1) := by decide +kernel
theorem dX11_half_109 : decode cX11_half 109 = .ok (.getfield 56, 3) := by decide +kernel
theorem dX11_half_112 : decode cX11_half 112 = .ok (.iload 10, 2) := by decide +kernel
theorem dX11_half_114 : decode cX11_half 114 = .ok (.iaload, 1) := by decide +kernel
theorem dX11_half_115 : decode cX11_half 115 = .ok (.ishl, 1) := by decide +kernel
theorem dX11_half_116 : decode cX11_half 116 = .ok (.ior, 1) := by decide +kernel
theorem dX11_half_117 : decode cX11_half 117 = .ok (.istore 9, 2) := by decide +kernel
theorem dX11_half_119 : decode cX11_half 119 = .ok (.iinc 10 1, 3) := by decide +kernel
theorem dX11_half_122 : decode cX11_half 122 = .ok (.goto (-36), 3) := by decide +kernel
theorem dX11_half_125 : decode cX11_half 125 = .ok (.aload_n 0, 1) := by decide +kernel
theorem dX11_half_126 : decode cX11_half 126 = .ok (.iconst 1, 1) := by decide +kernel
theorem dX11_half_127 : decode cX11_half 127 = .ok (.aload_n 0, 1) := by decide +kernel
theorem dX11_half_128 : decode cX11_half 128 = .ok (.getfield 7, 3) := by decide +kernel
theorem dX11_half_131 : decode cX11_half 131 = .ok (.ishl, 1) := by decide +kernel
theorem dX11_half_132 : decode cX11_half 132 = .ok (.iconst 1, 1) := by decide +kernel
theorem dX11_half_133 : decode cX11_half 133 = .ok (.isub, 1) := by decide +kernel
theorem dX11_half_134 : decode cX11_half 134 = .ok (.invokevirtual 97, 3) := by decide +kernel
theorem dX11_half_137 : decode cX11_half 137 = .ok (.aload_n 0, 1) := by decide +kernel
theorem dX11_half_138 : decode cX11_half 138 = .ok (.aload_n 0, 1) := by decide +kernel
theorem dX11_half_139 : decode cX11_half 139 = .ok (.getfield 34, 3) := by decide +kernel
theorem dX11_half_142 : decode cX11_half 142 = .ok (.invokevirtual 146, 3) := by decide +kernel
theorem dX11_half_145 : decode cX11_half 145 = .ok (.aload_n 0, 1) := by decide +kernel
theorem dX11_half_146 : decode cX11_half 146 = .ok (.invokevirtual 167, 3) := by decide +kernel
theorem dX11_half_149 : decode cX11_half 149 = .ok (.lstore 10, 2) := by decide +kernel
theorem dX11_half_151 : decode cX11_half 151 = .ok (.lload 5, 2) := by decide +kernel
theorem dX11_half_153 : decode cX11_half 153 = .ok (.lconst 0, 1) := by decide +kernel
theorem dX11_half_154 : decode cX11_half 154 = .ok (.lcmp, 1) := by decide +kernel
theorem dX11_half_155 : decode cX11_half 155 = .ok (.ifCond .eq 18, 3) := by decide +kernel
theorem dX11_half_158 : decode cX11_half 158 = .ok (.lload 10, 2) := by decide +kernel
theorem dX11_half_160 : decode cX11_half 160 = .ok (.aload_n 0, 1) := by decide +kernel
theorem dX11_half_161 : decode cX11_half 161 = .ok (.getfield 116, 3) := by decide +kernel
theorem dX11_half_164 : decode cX11_half 164 = .ok (.lload_n 3, 1) := by decide +kernel
theorem dX11_half_165 : decode cX11_half 165 = .ok (.lload 5, 2) := by decide +kernel
theorem dX11_half_167 : decode cX11_half 167 = .ok (.invokestatic 182, 3) := by decide +kernel
theorem dX11_half_170 : decode cX11_half 170 = .ok (.ifCond .ge 16, 3) := by decide +kernel
theorem dX11_half_173 : decode cX11_half 173 = .ok (.lload 10, 2) := by decide +kernel
theorem dX11_half_175 : decode cX11_half 175 = .ok (.lstore_n 3, 1) := by decide +kernel
theorem dX11_half_176 : decode cX11_half 176 = .ok (.aload_n 0, 1) := by decide +kernel
theorem dX11_half_177 : decode cX11_half 177 = .ok (.getfield 116, 3) := by decide +kernel
theorem dX11_half_180 : decode cX11_half 180 = .ok (.lstore 5, 2) := by decide +kernel
theorem dX11_half_182 : decode cX11_half 182 = .ok (.iload 9, 2) := by decide +kernel
theorem dX11_half_184 : decode cX11_half 184 = .ok (.istore 7, 2) := by decide +kernel
theorem dX11_half_186 : decode cX11_half 186 = .ok (.iload_n 1, 1) := by decide +kernel
theorem dX11_half_187 : decode cX11_half 187 = .ok (.ifCond .le 15, 3) := by decide +kernel
theorem dX11_half_190 : decode cX11_half 190 = .ok (.aload_n 0, 1) := by decide +kernel
theorem dX11_half_191 : decode cX11_half 191 = .ok (.iload_n 1, 1) := by decide +kernel
theorem dX11_half_192 : decode cX11_half 192 = .ok (.invokevirtual 195, 3) := by decide +kernel
theorem dX11_half_195 : decode cX11_half 195 = .ok (.ifCond .eq 7, 3) := by decide +kernel
theorem dX11_half_198 : decode cX11_half 198 = .ok (.iconst 1, 1) := by decide +kernel
theorem dX11_half_199 : decode cX11_half 199 = .ok (.goto 4, 3) := by decide +kernel
theorem dX11_half_202 : decode cX11_half 202 = .ok (.iconst 0, 1) := by decide +kernel
theorem dX11_half_203 : decode cX11_half 203 = .ok (.istore 8, 2) := by decide +kernel
theorem dX11_half_205 : decode cX11_half 205 = .ok (.goto (-156), 3) := by decide +kernel
theorem dX11_half_208 : decode cX11_half 208 = .ok (.iload_n 2, 1) := by decide +kernel
theorem dX11_half_209 : decode cX11_half 209 = .ok (.iconst 2, 1) := by decide +kernel
theorem dX11_half_210 : decode cX11_half 210 = .ok (.if_icmp .ne 9, 3) := by decide +kernel
theorem dX11_half_213 : decode cX11_half 213 = .ok (.iload 7, 2) := by decide +kernel
theorem dX11_half_215 : decode cX11_half 215 = .ok (.i2l, 1) := by decide +kernel
theorem dX11_half_216 : decode cX11_half 216 = .ok (.goto 10, 3) := by decide +kernel
theorem dX11_half_219 : decode cX11_half 219 = .ok (.lload_n 3, 1) := by decide +kernel
theorem dX11_half_220 : decode cX11_half 220 = .ok (.lload 5, 2) := by decide +kernel
theorem dX11_half_222 : decode cX11_half 222 = .ok (.iload_n 2, 1) := by decide +kernel
theorem dX11_half_223 : decode cX11_half 223 = .ok (.invokestatic 163, 3) := by decide +kernel
theorem dX11_half_226 : decode cX11_half 226 = .ok (.lreturn, 1) := by decide +kernel
theorem dX11_isWhole_0 : decode cX11_isWhole 0 = .ok (.aload_n 0, 1) := by decide +kernel
theorem dX11_isWhole_1 : decode cX11_isWhole 1 = .ok (.invokevirtual 198, 3) := by decide +kernel
theorem dX11_isWhole_4 : decode cX11_isWhole 4 = .ok (.aload_n 0, 1) := by decide +kernel
theorem dX11_isWhole_5 : decode cX11_isWhole 5 = .ok (.getfield 7, 3) := by decide +kernel
theorem dX11_isWhole_8 : decode cX11_isWhole 8 = .ok (.if_icmp .ne 7, 3) := by decide +kernel
theorem dX11_isWhole_11 : decode cX11_isWhole 11 = .ok (.iconst 1, 1) := by decide +kernel
theorem dX11_isWhole_12 : decode cX11_isWhole 12 = .ok (.goto 4, 3) := by decide +kernel
theorem dX11_isWhole_15 : decode cX11_isWhole 15 = .ok (.iconst 0, 1) := by decide +kernel
theorem dX11_isWhole_16 : decode cX11_isWhole 16 = .ok (.ireturn, 1) := by decide +kernel
theorem dX11_fitsSet_0 : decode cX11_fitsSet 0 = .ok (.iconst 0, 1) := by decide +kernel
theorem dX11_fitsSet_1 : decode cX11_fitsSet 1 = .ok (.istore_n 1, 1) := by decide +kernel
theorem dX11_fitsSet_2 : decode cX11_fitsSet 2 = .ok (.iload_n 1, 1) := by decide +kernel
theorem dX11_fitsSet_3 : decode cX11_fitsSet 3 = .ok (.aload_n 0, 1) := by decide +kernel
theorem dX11_fitsSet_4 : decode cX11_fitsSet 4 = .ok (.getfield 7, 3) := by decide +kernel
theorem dX11_fitsSet_7 : decode cX11_fitsSet 7 = .ok (.if_icmp .ge 65, 3) := by decide +kernel
theorem dX11_fitsSet_10 : decode cX11_fitsSet 10 = .ok (.iconst 0, 1) := by decide +kernel
theorem dX11_fitsSet_11 : decode cX11_fitsSet 11 = .ok (.istore_n 2, 1) := by decide +kernel
theorem dX11_fitsSet_12 : decode cX11_fitsSet 12 = .ok (.iload_n 2, 1) := by decide +kernel
theorem dX11_fitsSet_13 : decode cX11_fitsSet 13 = .ok (.aload_n 0, 1) := by decide +kernel
theorem dX11_fitsSet_14 : decode cX11_fitsSet 14 = .ok (.getfield 7, 3) := by decide +kernel
theorem dX11_fitsSet_17 : decode cX11_fitsSet 17 = .ok (.if_icmp .ge 31, 3) := by decide +kernel
theorem dX11_fitsSet_20 : decode cX11_fitsSet 20 = .ok (.aload_n 0, 1) := by decide +kernel
theorem dX11_fitsSet_21 : decode cX11_fitsSet 21 = .ok (.getfield 41, 3) := by decide +kernel
theorem dX11_fitsSet_24 : decode cX11_fitsSet 24 = .ok (.iload_n 1, 1) := by decide +kernel
theorem dX11_fitsSet_25 : decode cX11_fitsSet 25 = .ok (.aaload, 1) := by decide +kernel
theorem dX11_fitsSet_26 : decode cX11_fitsSet 26 = .ok (.iload_n 2, 1) := by decide +kernel
theorem dX11_fitsSet_27 : decode cX11_fitsSet 27 = .ok (.aload_n 0, 1) := by decide +kernel
theorem dX11_fitsSet_28 : decode cX11_fitsSet 28 = .ok (.getfield 15, 3) := by decide +kernel
theorem dX11_fitsSet_31 : decode cX11_fitsSet 31 = .ok (.aload_n 0, 1) := by decide +kernel
theorem dX11_fitsSet_32 : decode cX11_fitsSet 32 = .ok (.getfield 56, 3) := by decide +kernel
theorem dX11_fitsSet_35 : decode cX11_fitsSet 35 = .ok (.iload_n 1, 1) := by decide +kernel
theorem dX11_fitsSet_36 : decode cX11_fitsSet 36 = .ok (.iaload, 1) := by decide +kernel
theorem dX11_fitsSet_37 : decode cX11_fitsSet 37 = .ok (.aaload, 1) := by decide +kernel
theorem dX11_fitsSet_38 : decode cX11_fitsSet 38 = .ok (.iload_n 2, 1) := by decide +kernel
theorem dX11_fitsSet_39 : decode cX11_fitsSet 39 = .ok (.iaload, 1) := by decide +kernel
theorem dX11_fitsSet_40 : decode cX11_fitsSet 40 = .ok (.i2l, 1) := by decide +kernel
theorem dX11_fitsSet_41 : decode cX11_fitsSet 41 = .ok (.lastore, 1) := by decide +kernel
theorem dX11_fitsSet_42 : decode cX11_fitsSet 42 = .ok (.iinc 2 1, 3) := by decide +kernel
theorem dX11_fitsSet_45 : decode cX11_fitsSet 45 = .ok (.goto (-33), 3) := by decide +kernel
theorem dX11_fitsSet_48 : decode cX11_fitsSet 48 = .ok (.aload_n 0, 1) := by decide +kernel
theorem dX11_fitsSet_49 : decode cX11_fitsSet 49 = .ok (.getfield 44, 3) := by decide +kernel
theorem dX11_fitsSet_52 : decode cX11_fitsSet 52 = .ok (.iload_n 1, 1) := by decide +kernel
theorem dX11_fitsSet_53 : decode cX11_fitsSet 53 = .ok (.aload_n 0, 1) := by decide +kernel
theorem dX11_fitsSet_54 : decode cX11_fitsSet 54 = .ok (.getfield 18, 3) := by decide +kernel
theorem dX11_fitsSet_57 : decode cX11_fitsSet 57 = .ok (.aload_n 0, 1) := by decide +kernel
theorem dX11_fitsSet_58 : decode cX11_fitsSet 58 = .ok (.getfield 56, 3) := by decide +kernel
theorem dX11_fitsSet_61 : decode cX11_fitsSet 61 = .ok (.iload_n 1, 1) := by decide +kernel
theorem dX11_fitsSet_62 : decode cX11_fitsSet 62 = .ok (.iaload, 1) := by decide +kernel
theorem dX11_fitsSet_63 : decode cX11_fitsSet 63 = .ok (.iaload, 1) := by decide +kernel
theorem dX11_fitsSet_64 : decode cX11_fitsSet 64 = .ok (.i2l, 1) := by decide +kernel
theorem dX11_fitsSet_65 : decode cX11_fitsSet 65 = .ok (.lastore, 1) := by decide +kernel
theorem dX11_fitsSet_66 : decode cX11_fitsSet 66 = .ok (.iinc 1 1, 3) := by decide +kernel
theorem dX11_fitsSet_69 : decode cX11_fitsSet 69 = .ok (.goto (-67), 3) := by decide +kernel
theorem dX11_fitsSet_72 : decode cX11_fitsSet 72 = .ok (.aload_n 0, 1) := by decide +kernel
theorem dX11_fitsSet_73 : decode cX11_fitsSet 73 = .ok (.aload_n 0, 1) := by decide +kernel
theorem dX11_fitsSet_74 : decode cX11_fitsSet 74 = .ok (.getfield 7, 3) := by decide +kernel
theorem dX11_fitsSet_77 : decode cX11_fitsSet 77 = .ok (.invokevirtual 112, 3) := by decide +kernel
theorem dX11_fitsSet_80 : decode cX11_fitsSet 80 = .ok (.lconst 0, 1) := by decide +kernel
theorem dX11_fitsSet_81 : decode cX11_fitsSet 81 = .ok (.lcmp, 1) := by decide +kernel
theorem dX11_fitsSet_82 : decode cX11_fitsSet 82 = .ok (.ifCond .ne 5, 3) := by decide +kernel
theorem dX11_fitsSet_85 : decode cX11_fitsSet 85 = .ok (.iconst 0, 1) := by decide +kernel
theorem dX11_fitsSet_86 : decode cX11_fitsSet 86 = .ok (.ireturn, 1) := by decide +kernel
theorem dX11_fitsSet_87 : decode cX11_fitsSet 87 = .ok (.aload_n 0, 1) := by decide +kernel
theorem dX11_fitsSet_88 : decode cX11_fitsSet 88 = .ok (.aload_n 0, 1) := by decide +kernel
theorem dX11_fitsSet_89 : decode cX11_fitsSet 89 = .ok (.getfield 7, 3) := by decide +kernel
theorem dX11_fitsSet_92 : decode cX11_fitsSet 92 = .ok (.invokevirtual 136, 3) := by decide +kernel
theorem dX11_fitsSet_95 : decode cX11_fitsSet 95 = .ok (.iconst 1, 1) := by decide +kernel
theorem dX11_fitsSet_96 : decode cX11_fitsSet 96 = .ok (.ireturn, 1) := by decide +kernel
theorem dX11_findSizes_0 : decode cX11_findSizes 0 = .ok (.aload_n 0, 1) := by decide +kernel
theorem dX11_findSizes_1 : decode cX11_findSizes 1 = .ok (.lconst 0, 1) := by decide +kernel
theorem dX11_findSizes_2 : decode cX11_findSizes 2 = .ok (.putfield 201, 3) := by decide +kernel
theorem dX11_findSizes_5 : decode cX11_findSizes 5 = .ok (.aload_n 0, 1) := by decide +kernel
theorem dX11_findSizes_6 : decode cX11_findSizes 6 = .ok (.aload_n 0, 1) := by decide +kernel
theorem dX11_findSizes_7 : decode cX11_findSizes 7 = .ok (.getfield 7, 3) := by decide +kernel
theorem dX11_findSizes_10 : decode cX11_findSizes 10 = .ok (.invokevirtual 192, 3) := by decide +kernel
theorem dX11_findSizes_13 : decode cX11_findSizes 13 = .ok (.istore_n 1, 1) := by decide +kernel
theorem dX11_findSizes_14 : decode cX11_findSizes 14 = .ok (.iload_n 1, 1) := by decide +kernel
theorem dX11_findSizes_15 : decode cX11_findSizes 15 = .ok (.ifCond .eq 208, 3) := by decide +kernel
theorem dX11_findSizes_18 : decode cX11_findSizes 18 = .ok (.aload_n 0, 1) := by decide +kernel
theorem dX11_findSizes_19 : decode cX11_findSizes 19 = .ok (.invokevirtual 204, 3) := by decide +kernel
theorem dX11_findSizes_22 : decode cX11_findSizes 22 = .ok (.ifCond .eq 189, 3) := by decide +kernel
theorem dX11_findSizes_25 : decode cX11_findSizes 25 = .ok (.lconst 0, 1) := by decide +kernel
theorem dX11_findSizes_26 : decode cX11_findSizes 26 = .ok (.lstore_n 2, 1) := by decide +kernel
theorem dX11_findSizes_27 : decode cX11_findSizes 27 = .ok (.iconst 0, 1) := by decide +kernel
theorem dX11_findSizes_28 : decode cX11_findSizes 28 = .ok (.istore 4, 2) := by decide +kernel
theorem dX11_findSizes_30 : decode cX11_findSizes 30 = .ok (.iload 4, 2) := by decide +kernel
theorem dX11_findSizes_32 : decode cX11_findSizes 32 = .ok (.aload_n 0, 1) := by decide +kernel
theorem dX11_findSizes_33 : decode cX11_findSizes 33 = .ok (.getfield 94, 3) := by decide +kernel
theorem dX11_findSizes_36 : decode cX11_findSizes 36 = .ok (.if_icmp .ge 94, 3) := by decide +kernel
theorem dX11_findSizes_39 : decode cX11_findSizes 39 = .ok (.aload_n 0, 1) := by decide +kernel
theorem dX11_findSizes_40 : decode cX11_findSizes 40 = .ok (.getfield 22, 3) := by decide +kernel
theorem dX11_findSizes_43 : decode cX11_findSizes 43 = .ok (.iload 4, 2) := by decide +kernel
theorem dX11_findSizes_45 : decode cX11_findSizes 45 = .ok (.baload, 1) := by decide +kernel
theorem dX11_findSizes_46 : decode cX11_findSizes 46 = .ok (.ifCond .eq 78, 3) := by decide +kernel
theorem dX11_findSizes_49 : decode cX11_findSizes 49 = .ok (.aload_n 0, 1) := by decide +kernel
theorem dX11_findSizes_50 : decode cX11_findSizes 50 = .ok (.getfield 18, 3) := by decide +kernel
theorem dX11_findSizes_53 : decode cX11_findSizes 53 = .ok (.iload 4, 2) := by decide +kernel
theorem dX11_findSizes_55 : decode cX11_findSizes 55 = .ok (.iaload, 1) := by decide +kernel
theorem dX11_findSizes_56 : decode cX11_findSizes 56 = .ok (.i2l, 1) := by decide +kernel
theorem dX11_findSizes_57 : decode cX11_findSizes 57 = .ok (.aload_n 0, 1) := by decide +kernel
theorem dX11_findSizes_58 : decode cX11_findSizes 58 = .ok (.getfield 116, 3) := by decide +kernel
theorem dX11_findSizes_61 : decode cX11_findSizes 61 = .ok (.lmul, 1) := by decide +kernel
theorem dX11_findSizes_62 : decode cX11_findSizes 62 = .ok (.lstore 5, 2) := by decide +kernel
theorem dX11_findSizes_64 : decode cX11_findSizes 64 = .ok (.iconst 0, 1) := by decide +kernel
theorem dX11_findSizes_65 : decode cX11_findSizes 65 = .ok (.istore 7, 2) := by decide +kernel
theorem dX11_findSizes_67 : decode cX11_findSizes 67 = .ok (.iload 7, 2) := by decide +kernel
theorem dX11_findSizes_69 : decode cX11_findSizes 69 = .ok (.aload_n 0, 1) := by decide +kernel
theorem dX11_findSizes_70 : decode cX11_findSizes 70 = .ok (.getfield 7, 3) := by decide +kernel
theorem dX11_findSizes_73 : decode cX11_findSizes 73 = .ok (.if_icmp .ge 33, 3) := by decide +kernel
theorem dX11_findSizes_76 : decode cX11_findSizes 76 = .ok (.lload 5, 2) := by decide +kernel
theorem dX11_findSizes_78 : decode cX11_findSizes 78 = .ok (.aload_n 0, 1) := by decide +kernel
theorem dX11_findSizes_79 : decode cX11_findSizes 79 = .ok (.getfield 15, 3) := by decide +kernel
theorem dX11_findSizes_82 : decode cX11_findSizes 82 = .ok (.iload 4, 2) := by decide +kernel
theorem dX11_findSizes_84 : decode cX11_findSizes 84 = .ok (.aaload, 1) := by decide +kernel
theorem dX11_findSizes_85 : decode cX11_findSizes 85 = .ok (.iload 7, 2) := by decide +kernel
theorem dX11_findSizes_87 : decode cX11_findSizes 87 = .ok (.iaload, 1) := by decide +kernel
theorem dX11_findSizes_88 : decode cX11_findSizes 88 = .ok (.i2l, 1) := by decide +kernel
theorem dX11_findSizes_89 : decode cX11_findSizes 89 = .ok (.aload_n 0, 1) := by decide +kernel
theorem dX11_findSizes_90 : decode cX11_findSizes 90 = .ok (.getfield 47, 3) := by decide +kernel
theorem dX11_findSizes_93 : decode cX11_findSizes 93 = .ok (.iload 7, 2) := by decide +kernel
theorem dX11_findSizes_95 : decode cX11_findSizes 95 = .ok (.laload, 1) := by decide +kernel
theorem dX11_findSizes_96 : decode cX11_findSizes 96 = .ok (.lmul, 1) := by decide +kernel
theorem dX11_findSizes_97 : decode cX11_findSizes 97 = .ok (.lsub, 1) := by decide +kernel
theorem dX11_findSizes_98 : decode cX11_findSizes 98 = .ok (.lstore 5, 2) := by decide +kernel
theorem dX11_findSizes_100 : decode cX11_findSizes 100 = .ok (.iinc 7 1, 3) := by decide +kernel
theorem dX11_findSizes_103 : decode cX11_findSizes 103 = .ok (.goto (-36), 3) := by decide +kernel
theorem dX11_findSizes_106 : decode cX11_findSizes 106 = .ok (.lload_n 2, 1) := by decide +kernel
theorem dX11_findSizes_107 : decode cX11_findSizes 107 = .ok (.lload 5, 2) := by decide +kernel
theorem dX11_findSizes_109 : decode cX11_findSizes 109 = .ok (.lconst 0, 1) := by decide +kernel
theorem dX11_findSizes_110 : decode cX11_findSizes 110 = .ok (.lcmp, 1) := by decide +kernel
theorem dX11_findSizes_111 : decode cX11_findSizes 111 = .ok (.ifCond .ge 9, 3) := by decide +kernel
theorem dX11_findSizes_114 : decode cX11_findSizes 114 = .ok (.lload 5, 2) := by decide +kernel
theorem dX11_findSizes_116 : decode cX11_findSizes 116 = .ok (.lneg, 1) := by decide +kernel
theorem dX11_findSizes_117 : decode cX11_findSizes 117 = .ok (.goto 5, 3) := by decide +kernel
theorem dX11_findSizes_120 : decode cX11_findSizes 120 = .ok (.lload 5, 2) := by decide +kernel
theorem dX11_findSizes_122 : decode cX11_findSizes 122 = .ok (.ladd, 1) := by decide +kernel
theorem dX11_findSizes_123 : decode cX11_findSizes 123 = .ok (.lstore_n 2, 1) := by decide +kernel
theorem dX11_findSizes_124 : decode cX11_findSizes 124 = .ok (.iinc 4 1, 3) := by decide +kernel
theorem dX11_findSizes_127 : decode cX11_findSizes 127 = .ok (.goto (-97), 3) := by decide +kernel
theorem dX11_findSizes_130 : decode cX11_findSizes 130 = .ok (.aload_n 0, 1) := by decide +kernel
theorem dX11_findSizes_131 : decode cX11_findSizes 131 = .ok (.getfield 201, 3) := by decide +kernel
theorem dX11_findSizes_134 : decode cX11_findSizes 134 = .ok (.lconst 0, 1) := by decide +kernel
theorem dX11_findSizes_135 : decode cX11_findSizes 135 = .ok (.lcmp, 1) := by decide +kernel
theorem dX11_findSizes_136 : decode cX11_findSizes 136 = .ok (.ifCond .eq 22, 3) := by decide +kernel
theorem dX11_findSizes_139 : decode cX11_findSizes 139 = .ok (.lload_n 2, 1) := by decide +kernel
theorem dX11_findSizes_140 : decode cX11_findSizes 140 = .ok (.aload_n 0, 1) := by decide +kernel
theorem dX11_findSizes_141 : decode cX11_findSizes 141 = .ok (.getfield 116, 3) := by decide +kernel
theorem dX11_findSizes_144 : decode cX11_findSizes 144 = .ok (.aload_n 0, 1) := by decide +kernel
theorem dX11_findSizes_145 : decode cX11_findSizes 145 = .ok (.getfield 208, 3) := by decide +kernel
theorem dX11_findSizes_148 : decode cX11_findSizes 148 = .ok (.aload_n 0, 1) := by decide +kernel
theorem dX11_findSizes_149 : decode cX11_findSizes 149 = .ok (.getfield 201, 3) := by decide +kernel
theorem dX11_findSizes_152 : decode cX11_findSizes 152 = .ok (.invokestatic 182, 3) := by decide +kernel
theorem dX11_findSizes_155 : decode cX11_findSizes 155 = .ok (.ifCond .ge 56, 3) := by decide +kernel
theorem dX11_findSizes_158 : decode cX11_findSizes 158 = .ok (.aload_n 0, 1) := by decide +kernel
theorem dX11_findSizes_159 : decode cX11_findSizes 159 = .ok (.lload_n 2, 1) := by decide +kernel
theorem dX11_findSizes_160 : decode cX11_findSizes 160 = .ok (.putfield 208, 3) := by decide +kernel
theorem dX11_findSizes_163 : decode cX11_findSizes 163 = .ok (.aload_n 0, 1) := by decide +kernel
theorem dX11_findSizes_164 : decode cX11_findSizes 164 = .ok (.aload_n 0, 1) := by decide +kernel
theorem dX11_findSizes_165 : decode cX11_findSizes 165 = .ok (.getfield 116, 3) := by decide +kernel
theorem dX11_findSizes_168 : decode cX11_findSizes 168 = .ok (.putfield 201, 3) := by decide +kernel
theorem dX11_findSizes_171 : decode cX11_findSizes 171 = .ok (.aload_n 0, 1) := by decide +kernel
theorem dX11_findSizes_172 : decode cX11_findSizes 172 = .ok (.aload_n 0, 1) := by decide +kernel
theorem dX11_findSizes_173 : decode cX11_findSizes 173 = .ok (.getfield 116, 3) := by decide +kernel
theorem dX11_findSizes_176 : decode cX11_findSizes 176 = .ok (.putfield 211, 3) := by decide +kernel
theorem dX11_findSizes_179 : decode cX11_findSizes 179 = .ok (.iconst 0, 1) := by decide +kernel
theorem dX11_findSizes_180 : decode cX11_findSizes 180 = .ok (.istore 4, 2) := by decide +kernel
theorem dX11_findSizes_182 : decode cX11_findSizes 182 = .ok (.iload 4, 2) := by decide +kernel
theorem dX11_findSizes_184 : decode cX11_findSizes 184 = .ok (.aload_n 0, 1) := by decide +kernel
theorem dX11_findSizes_185 : decode cX11_findSizes 185 = .ok (.getfield 7, 3) := by decide +kernel
theorem dX11_findSizes_188 : decode cX11_findSizes 188 = .ok (.if_icmp .ge 23, 3) := by decide +kernel
theorem dX11_findSizes_191 : decode cX11_findSizes 191 = .ok (.aload_n 0, 1) := by decide +kernel
theorem dX11_findSizes_192 : decode cX11_findSizes 192 = .ok (.getfield 62, 3) := by decide +kernel
theorem dX11_findSizes_195 : decode cX11_findSizes 195 = .ok (.iload 4, 2) := by decide +kernel
theorem dX11_findSizes_197 : decode cX11_findSizes 197 = .ok (.aload_n 0, 1) := by decide +kernel
theorem dX11_findSizes_198 : decode cX11_findSizes 198 = .ok (.getfield 47, 3) := by decide +kernel
theorem dX11_findSizes_201 : decode cX11_findSizes 201 = .ok (.iload 4, 2) := by decide +kernel
theorem dX11_findSizes_203 : decode cX11_findSizes 203 = .ok (.laload, 1) := by decide +kernel
theorem dX11_findSizes_204 : decode cX11_findSizes 204 = .ok (.lastore, 1) := by decide +kernel
theorem dX11_findSizes_205 : decode cX11_findSizes 205 = .ok (.iinc 4 1, 3) := by decide +kernel
theorem dX11_findSizes_208 : decode cX11_findSizes 208 = .ok (.goto (-26), 3) := by decide +kernel
theorem dX11_findSizes_211 : decode cX11_findSizes 211 = .ok (.aload_n 0, 1) := by decide +kernel
theorem dX11_findSizes_212 : decode cX11_findSizes 212 = .ok (.aload_n 0, 1) := by decide +kernel
theorem dX11_findSizes_213 : decode cX11_findSizes 213 = .ok (.getfield 7, 3) := by decide +kernel
theorem dX11_findSizes_216 : decode cX11_findSizes 216 = .ok (.invokevirtual 195, 3) := by decide +kernel
theorem dX11_findSizes_219 : decode cX11_findSizes 219 = .ok (.istore_n 1, 1) := by decide +kernel
theorem dX11_findSizes_220 : decode cX11_findSizes 220 = .ok (.goto (-206), 3) := by decide +kernel
theorem dX11_findSizes_223 : decode cX11_findSizes 223 = .ok (.return_, 1) := by decide +kernel
theorem dX11_sizes_0 : decode cX11_sizes 0 = .ok (.aload_n 0, 1) := by decide +kernel
theorem dX11_sizes_1 : decode cX11_sizes 1 = .ok (.invokevirtual 214, 3) := by decide +kernel
theorem dX11_sizes_4 : decode cX11_sizes 4 = .ok (.ifCond .ne 7, 3) := by decide +kernel
theorem dX11_sizes_7 : decode cX11_sizes 7 = .ok (.ldc2_w 83, 3) := by decide +kernel
theorem dX11_sizes_10 : decode cX11_sizes 10 = .ok (.lreturn, 1) := by decide +kernel
theorem dX11_sizes_11 : decode cX11_sizes 11 = .ok (.aload_n 0, 1) := by decide +kernel
theorem dX11_sizes_12 : decode cX11_sizes 12 = .ok (.invokevirtual 217, 3) := by decide +kernel
theorem dX11_sizes_15 : decode cX11_sizes 15 = .ok (.aload_n 0, 1) := by decide +kernel
theorem dX11_sizes_16 : decode cX11_sizes 16 = .ok (.getfield 208, 3) := by decide +kernel
theorem dX11_sizes_19 : decode cX11_sizes 19 = .ok (.aload_n 0, 1) := by decide +kernel
theorem dX11_sizes_20 : decode cX11_sizes 20 = .ok (.getfield 201, 3) := by decide +kernel
theorem dX11_sizes_23 : decode cX11_sizes 23 = .ok (.iload_n 1, 1) := by decide +kernel
theorem dX11_sizes_24 : decode cX11_sizes 24 = .ok (.invokestatic 163, 3) := by decide +kernel
theorem dX11_sizes_27 : decode cX11_sizes 27 = .ok (.lreturn, 1) := by decide +kernel
theorem dX11_sized_0 : decode cX11_sized 0 = .ok (.aload_n 0, 1) := by decide +kernel
theorem dX11_sized_1 : decode cX11_sized 1 = .ok (.invokevirtual 214, 3) := by decide +kernel
theorem dX11_sized_4 : decode cX11_sized 4 = .ok (.ifCond .eq 11, 3) := by decide +kernel
theorem dX11_sized_7 : decode cX11_sized 7 = .ok (.aload_n 0, 1) := by decide +kernel
theorem dX11_sized_8 : decode cX11_sized 8 = .ok (.iload_n 1, 1) := by decide +kernel
theorem dX11_sized_9 : decode cX11_sized 9 = .ok (.invokevirtual 157, 3) := by decide +kernel
theorem dX11_sized_12 : decode cX11_sized 12 = .ok (.ifCond .ne 7, 3) := by decide +kernel
theorem dX11_sized_15 : decode cX11_sized 15 = .ok (.ldc2_w 83, 3) := by decide +kernel
theorem dX11_sized_18 : decode cX11_sized 18 = .ok (.lreturn, 1) := by decide +kernel
theorem dX11_sized_19 : decode cX11_sized 19 = .ok (.aload_n 0, 1) := by decide +kernel
theorem dX11_sized_20 : decode cX11_sized 20 = .ok (.invokevirtual 217, 3) := by decide +kernel
theorem dX11_sized_23 : decode cX11_sized 23 = .ok (.aload_n 0, 1) := by decide +kernel
theorem dX11_sized_24 : decode cX11_sized 24 = .ok (.getfield 62, 3) := by decide +kernel
theorem dX11_sized_27 : decode cX11_sized 27 = .ok (.iload_n 1, 1) := by decide +kernel
theorem dX11_sized_28 : decode cX11_sized 28 = .ok (.laload, 1) := by decide +kernel
theorem dX11_sized_29 : decode cX11_sized 29 = .ok (.aload_n 0, 1) := by decide +kernel
theorem dX11_sized_30 : decode cX11_sized 30 = .ok (.getfield 211, 3) := by decide +kernel
theorem dX11_sized_33 : decode cX11_sized 33 = .ok (.iload_n 2, 1) := by decide +kernel
theorem dX11_sized_34 : decode cX11_sized 34 = .ok (.invokestatic 163, 3) := by decide +kernel
theorem dX11_sized_37 : decode cX11_sized 37 = .ok (.lreturn, 1) := by decide +kernel
theorem dX11_level_0 : decode cX11_level 0 = .ok (.aload_n 0, 1) := by decide +kernel
theorem dX11_level_1 : decode cX11_level 1 = .ok (.invokevirtual 214, 3) := by decide +kernel
theorem dX11_level_4 : decode cX11_level 4 = .ok (.ifCond .ne 7, 3) := by decide +kernel
theorem dX11_level_7 : decode cX11_level 7 = .ok (.ldc2_w 83, 3) := by decide +kernel
theorem dX11_level_10 : decode cX11_level 10 = .ok (.lreturn, 1) := by decide +kernel
theorem dX11_level_11 : decode cX11_level 11 = .ok (.lconst 0, 1) := by decide +kernel
theorem dX11_level_12 : decode cX11_level 12 = .ok (.lstore_n 2, 1) := by decide +kernel
theorem dX11_level_13 : decode cX11_level 13 = .ok (.lconst 1, 1) := by decide +kernel
theorem dX11_level_14 : decode cX11_level 14 = .ok (.lstore 4, 2) := by decide +kernel
theorem dX11_level_16 : decode cX11_level 16 = .ok (.aload_n 0, 1) := by decide +kernel
theorem dX11_level_17 : decode cX11_level 17 = .ok (.aload_n 0, 1) := by decide +kernel
theorem dX11_level_18 : decode cX11_level 18 = .ok (.getfield 7, 3) := by decide +kernel
theorem dX11_level_21 : decode cX11_level 21 = .ok (.iconst 1, 1) := by decide +kernel
theorem dX11_level_22 : decode cX11_level 22 = .ok (.iadd, 1) := by decide +kernel
theorem dX11_level_23 : decode cX11_level 23 = .ok (.invokevirtual 192, 3) := by decide +kernel
theorem dX11_level_26 : decode cX11_level 26 = .ok (.istore 6, 2) := by decide +kernel
theorem dX11_level_28 : decode cX11_level 28 = .ok (.iload 6, 2) := by decide +kernel
theorem dX11_level_30 : decode cX11_level 30 = .ok (.ifCond .eq 242, 3) := by decide +kernel
theorem dX11_level_33 : decode cX11_level 33 = .ok (.lconst 0, 1) := by decide +kernel
theorem dX11_level_34 : decode cX11_level 34 = .ok (.lstore 7, 2) := by decide +kernel
theorem dX11_level_36 : decode cX11_level 36 = .ok (.lconst 0, 1) := by decide +kernel
theorem dX11_level_37 : decode cX11_level 37 = .ok (.lstore 9, 2) := by decide +kernel
theorem dX11_level_39 : decode cX11_level 39 = .ok (.iconst 0, 1) := by decide +kernel
theorem dX11_level_40 : decode cX11_level 40 = .ok (.istore 11, 2) := by decide +kernel
theorem dX11_level_42 : decode cX11_level 42 = .ok (.iload 11, 2) := by decide +kernel
theorem dX11_level_44 : decode cX11_level 44 = .ok (.aload_n 0, 1) := by decide +kernel
theorem dX11_level_45 : decode cX11_level 45 = .ok (.getfield 7, 3) := by decide +kernel
theorem dX11_level_48 : decode cX11_level 48 = .ok (.if_icmp .gt 165, 3) := by decide +kernel
theorem dX11_level_51 : decode cX11_level 51 = .ok (.iconst 0, 1) := by decide +kernel
theorem dX11_level_52 : decode cX11_level 52 = .ok (.istore 12, 2) := by decide +kernel
theorem dX11_level_54 : decode cX11_level 54 = .ok (.iconst 0, 1) := by decide +kernel
theorem dX11_level_55 : decode cX11_level 55 = .ok (.istore 13, 2) := by decide +kernel
theorem dX11_level_57 : decode cX11_level 57 = .ok (.iload 13, 2) := by decide +kernel
theorem dX11_level_59 : decode cX11_level 59 = .ok (.aload_n 0, 1) := by decide +kernel
theorem dX11_level_60 : decode cX11_level 60 = .ok (.getfield 7, 3) := by decide +kernel
theorem dX11_level_63 : decode cX11_level 63 = .ok (.if_icmp .gt 66, 3) := by decide +kernel
theorem dX11_level_66 : decode cX11_level 66 = .ok (.iload 13, 2) := by decide +kernel
theorem dX11_level_68 : decode cX11_level 68 = .ok (.iload 11, 2) := by decide +kernel
theorem dX11_level_70 : decode cX11_level 70 = .ok (.if_icmp .ne 6, 3) := by decide +kernel
theorem dX11_level_73 : decode cX11_level 73 = .ok (.goto 50, 3) := by decide +kernel
theorem dX11_level_76 : decode cX11_level 76 = .ok (.iconst 0, 1) := by decide +kernel
theorem dX11_level_77 : decode cX11_level 77 = .ok (.istore 14, 2) := by decide +kernel
theorem dX11_level_79 : decode cX11_level 79 = .ok (.iload 14, 2) := by decide +kernel
theorem dX11_level_81 : decode cX11_level 81 = .ok (.aload_n 0, 1) := by decide +kernel
theorem dX11_level_82 : decode cX11_level 82 = .ok (.getfield 7, 3) := by decide +kernel
theorem dX11_level_85 : decode cX11_level 85 = .ok (.if_icmp .ge 35, 3) := by decide +kernel
theorem dX11_level_88 : decode cX11_level 88 = .ok (.aload_n 0, 1) := by decide +kernel
theorem dX11_level_89 : decode cX11_level 89 = .ok (.getfield 41, 3) := by decide +kernel
theorem dX11_level_92 : decode cX11_level 92 = .ok (.iload 12, 2) := by decide +kernel
theorem dX11_level_94 : decode cX11_level 94 = .ok (.aaload, 1) := by decide +kernel
theorem dX11_level_95 : decode cX11_level 95 = .ok (.iload 14, 2) := by decide +kernel
theorem dX11_level_97 : decode cX11_level 97 = .ok (.aload_n 0, 1) := by decide +kernel
theorem dX11_level_98 : decode cX11_level 98 = .ok (.getfield 15, 3) := by decide +kernel
theorem dX11_level_101 : decode cX11_level 101 = .ok (.aload_n 0, 1) := by decide +kernel
theorem dX11_level_102 : decode cX11_level 102 = .ok (.getfield 56, 3) := by decide +kernel
theorem dX11_level_105 : decode cX11_level 105 = .ok (.iload 13, 2) := by decide +kernel
theorem dX11_level_107 : decode cX11_level 107 = .ok (.iaload, 1) := by decide +kernel
theorem dX11_level_108 : decode cX11_level 108 = .ok (.aaload, 1) := by decide +kernel
theorem dX11_level_109 : decode cX11_level 109 = .ok (.iload 14, 2) := by decide +kernel
theorem dX11_level_111 : decode cX11_level 111 = .ok (.iaload, 1) := by decide +kernel
theorem dX11_level_112 : decode cX11_level 112 = .ok (.i2l, 1) := by decide +kernel
theorem dX11_level_113 : decode cX11_level 113 = .ok (.lastore, 1) := by decide +kernel
theorem dX11_level_114 : decode cX11_level 114 = .ok (.iinc 14 1, 3) := by decide +kernel
theorem dX11_level_117 : decode cX11_level 117 = .ok (.goto (-38), 3) := by decide +kernel
theorem dX11_level_120 : decode cX11_level 120 = .ok (.iinc 12 1, 3) := by decide +kernel
theorem dX11_level_123 : decode cX11_level 123 = .ok (.iinc 13 1, 3) := by decide +kernel
theorem dX11_level_126 : decode cX11_level 126 = .ok (.goto (-69), 3) := by decide +kernel
theorem dX11_level_129 : decode cX11_level 129 = .ok (.aload_n 0, 1) := by decide +kernel
theorem dX11_level_130 : decode cX11_level 130 = .ok (.aload_n 0, 1) := by decide +kernel
theorem dX11_level_131 : decode cX11_level 131 = .ok (.getfield 7, 3) := by decide +kernel
theorem dX11_level_134 : decode cX11_level 134 = .ok (.invokevirtual 112, 3) := by decide +kernel
theorem dX11_level_137 : decode cX11_level 137 = .ok (.lstore 13, 2) := by decide +kernel
theorem dX11_level_139 : decode cX11_level 139 = .ok (.lload 7, 2) := by decide +kernel
theorem dX11_level_141 : decode cX11_level 141 = .ok (.iload 11, 2) := by decide +kernel
theorem dX11_level_143 : decode cX11_level 143 = .ok (.iconst 2, 1) := by decide +kernel
theorem dX11_level_144 : decode cX11_level 144 = .ok (.irem, 1) := by decide +kernel
theorem dX11_level_145 : decode cX11_level 145 = .ok (.ifCond .ne 22, 3) := by decide +kernel
theorem dX11_level_148 : decode cX11_level 148 = .ok (.lload 13, 2) := by decide +kernel
theorem dX11_level_150 : decode cX11_level 150 = .ok (.aload_n 0, 1) := by decide +kernel
theorem dX11_level_151 : decode cX11_level 151 = .ok (.getfield 18, 3) := by decide +kernel
theorem dX11_level_154 : decode cX11_level 154 = .ok (.aload_n 0, 1) := by decide +kernel
theorem dX11_level_155 : decode cX11_level 155 = .ok (.getfield 56, 3) := by decide +kernel
theorem dX11_level_158 : decode cX11_level 158 = .ok (.iload 11, 2) := by decide +kernel
theorem dX11_level_160 : decode cX11_level 160 = .ok (.iaload, 1) := by decide +kernel
theorem dX11_level_161 : decode cX11_level 161 = .ok (.iaload, 1) := by decide +kernel
theorem dX11_level_162 : decode cX11_level 162 = .ok (.i2l, 1) := by decide +kernel
theorem dX11_level_163 : decode cX11_level 163 = .ok (.lmul, 1) := by decide +kernel
theorem dX11_level_164 : decode cX11_level 164 = .ok (.goto 20, 3) := by decide +kernel
theorem dX11_level_167 : decode cX11_level 167 = .ok (.lload 13, 2) := by decide +kernel
theorem dX11_level_169 : decode cX11_level 169 = .ok (.lneg, 1) := by decide +kernel
theorem dX11_level_170 : decode cX11_level 170 = .ok (.aload_n 0, 1) := by decide +kernel
theorem dX11_level_171 : decode cX11_level 171 = .ok (.getfield 18, 3) := by decide +kernel
theorem dX11_level_174 : decode cX11_level 174 = .ok (.aload_n 0, 1) := by decide +kernel
theorem dX11_level_175 : decode cX11_level 175 = .ok (.getfield 56, 3) := by decide +kernel
theorem dX11_level_178 : decode cX11_level 178 = .ok (.iload 11, 2) := by decide +kernel
theorem dX11_level_180 : decode cX11_level 180 = .ok (.iaload, 1) := by decide +kernel
theorem dX11_level_181 : decode cX11_level 181 = .ok (.iaload, 1) := by decide +kernel
theorem dX11_level_182 : decode cX11_level 182 = .ok (.i2l, 1) := by decide +kernel
theorem dX11_level_183 : decode cX11_level 183 = .ok (.lmul, 1) := by decide +kernel
theorem dX11_level_184 : decode cX11_level 184 = .ok (.ladd, 1) := by decide +kernel
theorem dX11_level_185 : decode cX11_level 185 = .ok (.lstore 7, 2) := by decide +kernel
theorem dX11_level_187 : decode cX11_level 187 = .ok (.lload 9, 2) := by decide +kernel
theorem dX11_level_189 : decode cX11_level 189 = .ok (.lload 13, 2) := by decide +kernel
theorem dX11_level_191 : decode cX11_level 191 = .ok (.lconst 0, 1) := by decide +kernel
theorem dX11_level_192 : decode cX11_level 192 = .ok (.lcmp, 1) := by decide +kernel
theorem dX11_level_193 : decode cX11_level 193 = .ok (.ifCond .ge 9, 3) := by decide +kernel
theorem dX11_level_196 : decode cX11_level 196 = .ok (.lload 13, 2) := by decide +kernel
theorem dX11_level_198 : decode cX11_level 198 = .ok (.lneg, 1) := by decide +kernel
theorem dX11_level_199 : decode cX11_level 199 = .ok (.goto 5, 3) := by decide +kernel
theorem dX11_level_202 : decode cX11_level 202 = .ok (.lload 13, 2) := by decide +kernel
theorem dX11_level_204 : decode cX11_level 204 = .ok (.ladd, 1) := by decide +kernel
theorem dX11_level_205 : decode cX11_level 205 = .ok (.lstore 9, 2) := by decide +kernel
theorem dX11_level_207 : decode cX11_level 207 = .ok (.iinc 11 1, 3) := by decide +kernel
theorem dX11_level_210 : decode cX11_level 210 = .ok (.goto (-168), 3) := by decide +kernel
theorem dX11_level_213 : decode cX11_level 213 = .ok (.lload 7, 2) := by decide +kernel
theorem dX11_level_215 : decode cX11_level 215 = .ok (.lconst 0, 1) := by decide +kernel
theorem dX11_level_216 : decode cX11_level 216 = .ok (.lcmp, 1) := by decide +kernel
theorem dX11_level_217 : decode cX11_level 217 = .ok (.ifCond .ge 9, 3) := by decide +kernel
theorem dX11_level_220 : decode cX11_level 220 = .ok (.lload 7, 2) := by decide +kernel
theorem dX11_level_222 : decode cX11_level 222 = .ok (.lneg, 1) := by decide +kernel
theorem dX11_level_223 : decode cX11_level 223 = .ok (.goto 5, 3) := by decide +kernel
theorem dX11_level_226 : decode cX11_level 226 = .ok (.lload 7, 2) := by decide +kernel
theorem dX11_level_228 : decode cX11_level 228 = .ok (.lstore 7, 2) := by decide +kernel
theorem dX11_level_230 : decode cX11_level 230 = .ok (.lload 9, 2) := by decide +kernel
theorem dX11_level_232 : decode cX11_level 232 = .ok (.lconst 0, 1) := by decide +kernel
theorem dX11_level_233 : decode cX11_level 233 = .ok (.lcmp, 1) := by decide +kernel
theorem dX11_level_234 : decode cX11_level 234 = .ok (.ifCond .le 23, 3) := by decide +kernel
theorem dX11_level_237 : decode cX11_level 237 = .ok (.lload 7, 2) := by decide +kernel
theorem dX11_level_239 : decode cX11_level 239 = .ok (.lload 9, 2) := by decide +kernel
theorem dX11_level_241 : decode cX11_level 241 = .ok (.lload_n 2, 1) := by decide +kernel
theorem dX11_level_242 : decode cX11_level 242 = .ok (.lload 4, 2) := by decide +kernel
theorem dX11_level_244 : decode cX11_level 244 = .ok (.invokestatic 182, 3) := by decide +kernel
theorem dX11_level_247 : decode cX11_level 247 = .ok (.ifCond .le 10, 3) := by decide +kernel
theorem dX11_level_250 : decode cX11_level 250 = .ok (.lload 7, 2) := by decide +kernel
theorem dX11_level_252 : decode cX11_level 252 = .ok (.lstore_n 2, 1) := by decide +kernel
theorem dX11_level_253 : decode cX11_level 253 = .ok (.lload 9, 2) := by decide +kernel
theorem dX11_level_255 : decode cX11_level 255 = .ok (.lstore 4, 2) := by decide +kernel
theorem dX11_level_257 : decode cX11_level 257 = .ok (.aload_n 0, 1) := by decide +kernel
theorem dX11_level_258 : decode cX11_level 258 = .ok (.aload_n 0, 1) := by decide +kernel
theorem dX11_level_259 : decode cX11_level 259 = .ok (.getfield 7, 3) := by decide +kernel
theorem dX11_level_262 : decode cX11_level 262 = .ok (.iconst 1, 1) := by decide +kernel
theorem dX11_level_263 : decode cX11_level 263 = .ok (.iadd, 1) := by decide +kernel
theorem dX11_level_264 : decode cX11_level 264 = .ok (.invokevirtual 195, 3) := by decide +kernel
theorem dX11_level_267 : decode cX11_level 267 = .ok (.istore 6, 2) := by decide +kernel
theorem dX11_level_269 : decode cX11_level 269 = .ok (.goto (-241), 3) := by decide +kernel
theorem dX11_level_272 : decode cX11_level 272 = .ok (.lload_n 2, 1) := by decide +kernel
theorem dX11_level_273 : decode cX11_level 273 = .ok (.lload 4, 2) := by decide +kernel
theorem dX11_level_275 : decode cX11_level 275 = .ok (.iload_n 1, 1) := by decide +kernel
theorem dX11_level_276 : decode cX11_level 276 = .ok (.invokestatic 163, 3) := by decide +kernel
theorem dX11_level_279 : decode cX11_level 279 = .ok (.lreturn, 1) := by decide +kernel
theorem dX11_pattern_0 : decode cX11_pattern 0 = .ok (.iload_n 1, 1) := by decide +kernel
theorem dX11_pattern_1 : decode cX11_pattern 1 = .ok (.istore_n 2, 1) := by decide +kernel
theorem dX11_pattern_2 : decode cX11_pattern 2 = .ok (.aload_n 0, 1) := by decide +kernel
theorem dX11_pattern_3 : decode cX11_pattern 3 = .ok (.iconst 0, 1) := by decide +kernel
theorem dX11_pattern_4 : decode cX11_pattern 4 = .ok (.putfield 220, 3) := by decide +kernel
theorem dX11_pattern_7 : decode cX11_pattern 7 = .ok (.iconst 0, 1) := by decide +kernel
theorem dX11_pattern_8 : decode cX11_pattern 8 = .ok (.istore_n 3, 1) := by decide +kernel
theorem dX11_pattern_9 : decode cX11_pattern 9 = .ok (.iload_n 3, 1) := by decide +kernel
theorem dX11_pattern_10 : decode cX11_pattern 10 = .ok (.aload_n 0, 1) := by decide +kernel
theorem dX11_pattern_11 : decode cX11_pattern 11 = .ok (.getfield 7, 3) := by decide +kernel
theorem dX11_pattern_14 : decode cX11_pattern 14 = .ok (.if_icmp .ge 67, 3) := by decide +kernel
theorem dX11_pattern_17 : decode cX11_pattern 17 = .ok (.aload_n 0, 1) := by decide +kernel
theorem dX11_pattern_18 : decode cX11_pattern 18 = .ok (.getfield 65, 3) := by decide +kernel
theorem dX11_pattern_21 : decode cX11_pattern 21 = .ok (.iload_n 3, 1) := by decide +kernel
theorem dX11_pattern_22 : decode cX11_pattern 22 = .ok (.iload_n 2, 1) := by decide +kernel
theorem dX11_pattern_23 : decode cX11_pattern 23 = .ok (.iconst 3, 1) := by decide +kernel
theorem dX11_pattern_24 : decode cX11_pattern 24 = .ok (.irem, 1) := by decide +kernel
theorem dX11_pattern_25 : decode cX11_pattern 25 = .ok (.iconst 1, 1) := by decide +kernel
theorem dX11_pattern_26 : decode cX11_pattern 26 = .ok (.isub, 1) := by decide +kernel
theorem dX11_pattern_27 : decode cX11_pattern 27 = .ok (.iastore, 1) := by decide +kernel
theorem dX11_pattern_28 : decode cX11_pattern 28 = .ok (.iload_n 2, 1) := by decide +kernel
theorem dX11_pattern_29 : decode cX11_pattern 29 = .ok (.iconst 3, 1) := by decide +kernel
theorem dX11_pattern_30 : decode cX11_pattern 30 = .ok (.idiv, 1) := by decide +kernel
theorem dX11_pattern_31 : decode cX11_pattern 31 = .ok (.istore_n 2, 1) := by decide +kernel
theorem dX11_pattern_32 : decode cX11_pattern 32 = .ok (.aload_n 0, 1) := by decide +kernel
theorem dX11_pattern_33 : decode cX11_pattern 33 = .ok (.getfield 71, 3) := by decide +kernel
theorem dX11_pattern_36 : decode cX11_pattern 36 = .ok (.iload_n 3, 1) := by decide +kernel
theorem dX11_pattern_37 : decode cX11_pattern 37 = .ok (.lconst 0, 1) := by decide +kernel
theorem dX11_pattern_38 : decode cX11_pattern 38 = .ok (.lastore, 1) := by decide +kernel
theorem dX11_pattern_39 : decode cX11_pattern 39 = .ok (.aload_n 0, 1) := by decide +kernel
theorem dX11_pattern_40 : decode cX11_pattern 40 = .ok (.getfield 74, 3) := by decide +kernel
theorem dX11_pattern_43 : decode cX11_pattern 43 = .ok (.iload_n 3, 1) := by decide +kernel
theorem dX11_pattern_44 : decode cX11_pattern 44 = .ok (.lconst 0, 1) := by decide +kernel
theorem dX11_pattern_45 : decode cX11_pattern 45 = .ok (.lastore, 1) := by decide +kernel
theorem dX11_pattern_46 : decode cX11_pattern 46 = .ok (.aload_n 0, 1) := by decide +kernel
theorem dX11_pattern_47 : decode cX11_pattern 47 = .ok (.getfield 65, 3) := by decide +kernel
theorem dX11_pattern_50 : decode cX11_pattern 50 = .ok (.iload_n 3, 1) := by decide +kernel
theorem dX11_pattern_51 : decode cX11_pattern 51 = .ok (.iaload, 1) := by decide +kernel
theorem dX11_pattern_52 : decode cX11_pattern 52 = .ok (.ifCond .eq 23, 3) := by decide +kernel
theorem dX11_pattern_55 : decode cX11_pattern 55 = .ok (.aload_n 0, 1) := by decide +kernel
theorem dX11_pattern_56 : decode cX11_pattern 56 = .ok (.getfield 68, 3) := by decide +kernel
theorem dX11_pattern_59 : decode cX11_pattern 59 = .ok (.aload_n 0, 1) := by decide +kernel
theorem dX11_pattern_60 : decode cX11_pattern 60 = .ok (.getfield 220, 3) := by decide +kernel
theorem dX11_pattern_63 : decode cX11_pattern 63 = .ok (.iload_n 3, 1) := by decide +kernel
theorem dX11_pattern_64 : decode cX11_pattern 64 = .ok (.iastore, 1) := by decide +kernel
theorem dX11_pattern_65 : decode cX11_pattern 65 = .ok (.aload_n 0, 1) := by decide +kernel
theorem dX11_pattern_66 : decode cX11_pattern 66 = .ok (.dup, 1) := by decide +kernel
theorem dX11_pattern_67 : decode cX11_pattern 67 = .ok (.getfield 220, 3) := by decide +kernel
theorem dX11_pattern_70 : decode cX11_pattern 70 = .ok (.iconst 1, 1) := by decide +kernel
theorem dX11_pattern_71 : decode cX11_pattern 71 = .ok (.iadd, 1) := by decide +kernel
theorem dX11_pattern_72 : decode cX11_pattern 72 = .ok (.putfield 220, 3) := by decide +kernel
theorem dX11_pattern_75 : decode cX11_pattern 75 = .ok (.iinc 3 1, 3) := by decide +kernel
theorem dX11_pattern_78 : decode cX11_pattern 78 = .ok (.goto (-69), 3) := by decide +kernel
theorem dX11_pattern_81 : decode cX11_pattern 81 = .ok (.iconst 0, 1) := by decide +kernel
theorem dX11_pattern_82 : decode cX11_pattern 82 = .ok (.istore_n 3, 1) := by decide +kernel
theorem dX11_pattern_83 : decode cX11_pattern 83 = .ok (.iload_n 3, 1) := by decide +kernel
theorem dX11_pattern_84 : decode cX11_pattern 84 = .ok (.aload_n 0, 1) := by decide +kernel
theorem dX11_pattern_85 : decode cX11_pattern 85 = .ok (.getfield 220, 3) := by decide +kernel
theorem dX11_pattern_88 : decode cX11_pattern 88 = .ok (.if_icmp .ge 55, 3) := by decide +kernel
theorem dX11_pattern_91 : decode cX11_pattern 91 = .ok (.iconst 0, 1) := by decide +kernel
theorem dX11_pattern_92 : decode cX11_pattern 92 = .ok (.istore 4, 2) := by decide +kernel
theorem dX11_pattern_94 : decode cX11_pattern 94 = .ok (.iload 4, 2) := by decide +kernel
theorem dX11_pattern_96 : decode cX11_pattern 96 = .ok (.aload_n 0, 1) := by decide +kernel
theorem dX11_pattern_97 : decode cX11_pattern 97 = .ok (.getfield 220, 3) := by decide +kernel
theorem dX11_pattern_100 : decode cX11_pattern 100 = .ok (.if_icmp .ge 37, 3) := by decide +kernel
theorem dX11_pattern_103 : decode cX11_pattern 103 = .ok (.aload_n 0, 1) := by decide +kernel
theorem dX11_pattern_104 : decode cX11_pattern 104 = .ok (.getfield 41, 3) := by decide +kernel
theorem dX11_pattern_107 : decode cX11_pattern 107 = .ok (.iload_n 3, 1) := by decide +kernel
theorem dX11_pattern_108 : decode cX11_pattern 108 = .ok (.aaload, 1) := by decide +kernel
theorem dX11_pattern_109 : decode cX11_pattern 109 = .ok (.iload 4, 2) := by decide +kernel
theorem dX11_pattern_111 : decode cX11_pattern 111 = .ok (.aload_n 0, 1) := by decide +kernel
theorem dX11_pattern_112 : decode cX11_pattern 112 = .ok (.getfield 31, 3) := by decide +kernel
theorem dX11_pattern_115 : decode cX11_pattern 115 = .ok (.aload_n 0, 1) := by decide +kernel
theorem dX11_pattern_116 : decode cX11_pattern 116 = .ok (.getfield 68, 3) := by decide +kernel
theorem dX11_pattern_119 : decode cX11_pattern 119 = .ok (.iload_n 3, 1) := by decide +kernel
theorem dX11_pattern_120 : decode cX11_pattern 120 = .ok (.iaload, 1) := by decide +kernel
theorem dX11_pattern_121 : decode cX11_pattern 121 = .ok (.aaload, 1) := by decide +kernel
theorem dX11_pattern_122 : decode cX11_pattern 122 = .ok (.aload_n 0, 1) := by decide +kernel
theorem dX11_pattern_123 : decode cX11_pattern 123 = .ok (.getfield 68, 3) := by decide +kernel
theorem dX11_pattern_126 : decode cX11_pattern 126 = .ok (.iload 4, 2) := by decide +kernel
theorem dX11_pattern_128 : decode cX11_pattern 128 = .ok (.iaload, 1) := by decide +kernel
theorem dX11_pattern_129 : decode cX11_pattern 129 = .ok (.laload, 1) := by decide +kernel
theorem dX11_pattern_130 : decode cX11_pattern 130 = .ok (.lastore, 1) := by decide +kernel
theorem dX11_pattern_131 : decode cX11_pattern 131 = .ok (.iinc 4 1, 3) := by decide +kernel
theorem dX11_pattern_134 : decode cX11_pattern 134 = .ok (.goto (-40), 3) := by decide +kernel
theorem dX11_pattern_137 : decode cX11_pattern 137 = .ok (.iinc 3 1, 3) := by decide +kernel
theorem dX11_pattern_140 : decode cX11_pattern 140 = .ok (.goto (-57), 3) := by decide +kernel
theorem dX11_pattern_143 : decode cX11_pattern 143 = .ok (.aload_n 0, 1) := by decide +kernel
theorem dX11_pattern_144 : decode cX11_pattern 144 = .ok (.aload_n 0, 1) := by decide +kernel
theorem dX11_pattern_145 : decode cX11_pattern 145 = .ok (.aload_n 0, 1) := by decide +kernel
theorem dX11_pattern_146 : decode cX11_pattern 146 = .ok (.getfield 220, 3) := by decide +kernel
theorem dX11_pattern_149 : decode cX11_pattern 149 = .ok (.invokevirtual 112, 3) := by decide +kernel
theorem dX11_pattern_152 : decode cX11_pattern 152 = .ok (.putfield 223, 3) := by decide +kernel
theorem dX11_pattern_155 : decode cX11_pattern 155 = .ok (.iconst 0, 1) := by decide +kernel
theorem dX11_pattern_156 : decode cX11_pattern 156 = .ok (.istore_n 3, 1) := by decide +kernel
theorem dX11_pattern_157 : decode cX11_pattern 157 = .ok (.iload_n 3, 1) := by decide +kernel
theorem dX11_pattern_158 : decode cX11_pattern 158 = .ok (.aload_n 0, 1) := by decide +kernel
theorem dX11_pattern_159 : decode cX11_pattern 159 = .ok (.getfield 220, 3) := by decide +kernel
theorem dX11_pattern_162 : decode cX11_pattern 162 = .ok (.if_icmp .ge 181, 3) := by decide +kernel
theorem dX11_pattern_165 : decode cX11_pattern 165 = .ok (.iconst 0, 1) := by decide +kernel
theorem dX11_pattern_166 : decode cX11_pattern 166 = .ok (.istore 4, 2) := by decide +kernel
theorem dX11_pattern_168 : decode cX11_pattern 168 = .ok (.iload 4, 2) := by decide +kernel
theorem dX11_pattern_170 : decode cX11_pattern 170 = .ok (.aload_n 0, 1) := by decide +kernel
theorem dX11_pattern_171 : decode cX11_pattern 171 = .ok (.getfield 220, 3) := by decide +kernel
theorem dX11_pattern_174 : decode cX11_pattern 174 = .ok (.if_icmp .ge 163, 3) := by decide +kernel
theorem dX11_pattern_177 : decode cX11_pattern 177 = .ok (.aload_n 0, 1) := by decide +kernel
theorem dX11_pattern_178 : decode cX11_pattern 178 = .ok (.getfield 220, 3) := by decide +kernel
theorem dX11_pattern_181 : decode cX11_pattern 181 = .ok (.iconst 1, 1) := by decide +kernel
theorem dX11_pattern_182 : decode cX11_pattern 182 = .ok (.if_icmp .ne 7, 3) := by decide +kernel
theorem dX11_pattern_185 : decode cX11_pattern 185 = .ok (.lconst 1, 1) := by decide +kernel
theorem dX11_pattern_186 : decode cX11_pattern 186 = .ok (.goto 80, 3) := by decide +kernel
theorem dX11_pattern_189 : decode cX11_pattern 189 = .ok (.aload_n 0, 1) := by decide +kernel
theorem dX11_pattern_190 : decode cX11_pattern 190 = .ok (.getfield 220, 3) := by decide +kernel
theorem dX11_pattern_193 : decode cX11_pattern 193 = .ok (.iconst 2, 1) := by decide +kernel
theorem dX11_pattern_194 : decode cX11_pattern 194 = .ok (.if_icmp .ne 45, 3) := by decide +kernel
theorem dX11_pattern_197 : decode cX11_pattern 197 = .ok (.iload 4, 2) := by decide +kernel
theorem dX11_pattern_199 : decode cX11_pattern 199 = .ok (.iload_n 3, 1) := by decide +kernel
theorem dX11_pattern_200 : decode cX11_pattern 200 = .ok (.iadd, 1) := by decide +kernel
theorem dX11_pattern_201 : decode cX11_pattern 201 = .ok (.iconst 1, 1) := by decide +kernel
theorem dX11_pattern_202 : decode cX11_pattern 202 = .ok (.iand, 1) := by decide +kernel
theorem dX11_pattern_203 : decode cX11_pattern 203 = .ok (.ifCond .ne 19, 3) := by decide +kernel
theorem dX11_pattern_206 : decode cX11_pattern 206 = .ok (.aload_n 0, 1) := by decide +kernel
theorem dX11_pattern_207 : decode cX11_pattern 207 = .ok (.getfield 41, 3) := by decide +kernel
theorem dX11_pattern_210 : decode cX11_pattern 210 = .ok (.iconst 1, 1) := by decide +kernel
theorem dX11_pattern_211 : decode cX11_pattern 211 = .ok (.iload 4, 2) := by decide +kernel
theorem dX11_pattern_213 : decode cX11_pattern 213 = .ok (.isub, 1) := by decide +kernel
theorem dX11_pattern_214 : decode cX11_pattern 214 = .ok (.aaload, 1) := by decide +kernel
theorem dX11_pattern_215 : decode cX11_pattern 215 = .ok (.iconst 1, 1) := by decide +kernel
theorem dX11_pattern_216 : decode cX11_pattern 216 = .ok (.iload_n 3, 1) := by decide +kernel
theorem dX11_pattern_217 : decode cX11_pattern 217 = .ok (.isub, 1) := by decide +kernel
theorem dX11_pattern_218 : decode cX11_pattern 218 = .ok (.laload, 1) := by decide +kernel
theorem dX11_pattern_219 : decode cX11_pattern 219 = .ok (.goto 47, 3) := by decide +kernel
theorem dX11_pattern_222 : decode cX11_pattern 222 = .ok (.aload_n 0, 1) := by decide +kernel
theorem dX11_pattern_223 : decode cX11_pattern 223 = .ok (.getfield 41, 3) := by decide +kernel
theorem dX11_pattern_226 : decode cX11_pattern 226 = .ok (.iconst 1, 1) := by decide +kernel
theorem dX11_pattern_227 : decode cX11_pattern 227 = .ok (.iload 4, 2) := by decide +kernel
theorem dX11_pattern_229 : decode cX11_pattern 229 = .ok (.isub, 1) := by decide +kernel
theorem dX11_pattern_230 : decode cX11_pattern 230 = .ok (.aaload, 1) := by decide +kernel
theorem dX11_pattern_231 : decode cX11_pattern 231 = .ok (.iconst 1, 1) := by decide +kernel
theorem dX11_pattern_232 : decode cX11_pattern 232 = .ok (.iload_n 3, 1) := by decide +kernel
theorem dX11_pattern_233 : decode cX11_pattern 233 = .ok (.isub, 1) := by decide +kernel
theorem dX11_pattern_234 : decode cX11_pattern 234 = .ok (.laload, 1) := by decide +kernel
theorem dX11_pattern_235 : decode cX11_pattern 235 = .ok (.lneg, 1) := by decide +kernel
theorem dX11_pattern_236 : decode cX11_pattern 236 = .ok (.goto 30, 3) := by decide +kernel
theorem dX11_pattern_239 : decode cX11_pattern 239 = .ok (.iload 4, 2) := by decide +kernel
theorem dX11_pattern_241 : decode cX11_pattern 241 = .ok (.iload_n 3, 1) := by decide +kernel
theorem dX11_pattern_242 : decode cX11_pattern 242 = .ok (.iadd, 1) := by decide +kernel
theorem dX11_pattern_243 : decode cX11_pattern 243 = .ok (.iconst 1, 1) := by decide +kernel
theorem dX11_pattern_244 : decode cX11_pattern 244 = .ok (.iand, 1) := by decide +kernel
theorem dX11_pattern_245 : decode cX11_pattern 245 = .ok (.ifCond .ne 13, 3) := by decide +kernel
theorem dX11_pattern_248 : decode cX11_pattern 248 = .ok (.aload_n 0, 1) := by decide +kernel
theorem dX11_pattern_249 : decode cX11_pattern 249 = .ok (.iload 4, 2) := by decide +kernel
theorem dX11_pattern_251 : decode cX11_pattern 251 = .ok (.iload_n 3, 1) := by decide +kernel
theorem dX11_pattern_252 : decode cX11_pattern 252 = .ok (.invokevirtual 108, 3) := by decide +kernel
theorem dX11_pattern_255 : decode cX11_pattern 255 = .ok (.goto 11, 3) := by decide +kernel
theorem dX11_pattern_258 : decode cX11_pattern 258 = .ok (.aload_n 0, 1) := by decide +kernel
theorem dX11_pattern_259 : decode cX11_pattern 259 = .ok (.iload 4, 2) := by decide +kernel
theorem dX11_pattern_261 : decode cX11_pattern 261 = .ok (.iload_n 3, 1) := by decide +kernel
theorem dX11_pattern_262 : decode cX11_pattern 262 = .ok (.invokevirtual 108, 3) := by decide +kernel
theorem dX11_pattern_265 : decode cX11_pattern 265 = .ok (.lneg, 1) := by decide +kernel
theorem dX11_pattern_266 : decode cX11_pattern 266 = .ok (.lstore 5, 2) := by decide +kernel
theorem dX11_pattern_268 : decode cX11_pattern 268 = .ok (.aload_n 0, 1) := by decide +kernel
theorem dX11_pattern_269 : decode cX11_pattern 269 = .ok (.getfield 71, 3) := by decide +kernel
theorem dX11_pattern_272 : decode cX11_pattern 272 = .ok (.aload_n 0, 1) := by decide +kernel
theorem dX11_pattern_273 : decode cX11_pattern 273 = .ok (.getfield 68, 3) := by decide +kernel
theorem dX11_pattern_276 : decode cX11_pattern 276 = .ok (.iload_n 3, 1) := by decide +kernel
theorem dX11_pattern_277 : decode cX11_pattern 277 = .ok (.iaload, 1) := by decide +kernel
theorem dX11_pattern_278 : decode cX11_pattern 278 = .ok (.dup2, 1) := by decide +kernel
theorem dX11_pattern_279 : decode cX11_pattern 279 = .ok (.laload, 1) := by decide +kernel
theorem dX11_pattern_280 : decode cX11_pattern 280 = .ok (.ldc2_w 226, 3) := by decide +kernel
theorem dX11_pattern_283 : decode cX11_pattern 283 = .ok (.lload 5, 2) := by decide +kernel
theorem dX11_pattern_285 : decode cX11_pattern 285 = .ok (.lmul, 1) := by decide +kernel
theorem dX11_pattern_286 : decode cX11_pattern 286 = .ok (.aload_n 0, 1) := by decide +kernel
theorem dX11_pattern_287 : decode cX11_pattern 287 = .ok (.getfield 34, 3) := by decide +kernel
theorem dX11_pattern_290 : decode cX11_pattern 290 = .ok (.aload_n 0, 1) := by decide +kernel
theorem dX11_pattern_291 : decode cX11_pattern 291 = .ok (.getfield 68, 3) := by decide +kernel
theorem dX11_pattern_294 : decode cX11_pattern 294 = .ok (.iload 4, 2) := by decide +kernel
theorem dX11_pattern_296 : decode cX11_pattern 296 = .ok (.iaload, 1) := by decide +kernel
theorem dX11_pattern_297 : decode cX11_pattern 297 = .ok (.laload, 1) := by decide +kernel
theorem dX11_pattern_298 : decode cX11_pattern 298 = .ok (.lmul, 1) := by decide +kernel
theorem dX11_pattern_299 : decode cX11_pattern 299 = .ok (.ladd, 1) := by decide +kernel
theorem dX11_pattern_300 : decode cX11_pattern 300 = .ok (.lastore, 1) := by decide +kernel
theorem dX11_pattern_301 : decode cX11_pattern 301 = .ok (.aload_n 0, 1) := by decide +kernel
theorem dX11_pattern_302 : decode cX11_pattern 302 = .ok (.getfield 74, 3) := by decide +kernel
theorem dX11_pattern_305 : decode cX11_pattern 305 = .ok (.aload_n 0, 1) := by decide +kernel
theorem dX11_pattern_306 : decode cX11_pattern 306 = .ok (.getfield 68, 3) := by decide +kernel
theorem dX11_pattern_309 : decode cX11_pattern 309 = .ok (.iload_n 3, 1) := by decide +kernel
theorem dX11_pattern_310 : decode cX11_pattern 310 = .ok (.iaload, 1) := by decide +kernel
theorem dX11_pattern_311 : decode cX11_pattern 311 = .ok (.dup2, 1) := by decide +kernel
theorem dX11_pattern_312 : decode cX11_pattern 312 = .ok (.laload, 1) := by decide +kernel
theorem dX11_pattern_313 : decode cX11_pattern 313 = .ok (.lload 5, 2) := by decide +kernel
theorem dX11_pattern_315 : decode cX11_pattern 315 = .ok (.aload_n 0, 1) := by decide +kernel
theorem dX11_pattern_316 : decode cX11_pattern 316 = .ok (.getfield 65, 3) := by decide +kernel
theorem dX11_pattern_319 : decode cX11_pattern 319 = .ok (.aload_n 0, 1) := by decide +kernel
theorem dX11_pattern_320 : decode cX11_pattern 320 = .ok (.getfield 68, 3) := by decide +kernel
theorem dX11_pattern_323 : decode cX11_pattern 323 = .ok (.iload 4, 2) := by decide +kernel
theorem dX11_pattern_325 : decode cX11_pattern 325 = .ok (.iaload, 1) := by decide +kernel
theorem dX11_pattern_326 : decode cX11_pattern 326 = .ok (.iaload, 1) := by decide +kernel
theorem dX11_pattern_327 : decode cX11_pattern 327 = .ok (.i2l, 1) := by decide +kernel
theorem dX11_pattern_328 : decode cX11_pattern 328 = .ok (.lmul, 1) := by decide +kernel
theorem dX11_pattern_329 : decode cX11_pattern 329 = .ok (.lsub, 1) := by decide +kernel
theorem dX11_pattern_330 : decode cX11_pattern 330 = .ok (.lastore, 1) := by decide +kernel
theorem dX11_pattern_331 : decode cX11_pattern 331 = .ok (.iinc 4 1, 3) := by decide +kernel
theorem dX11_pattern_334 : decode cX11_pattern 334 = .ok (.goto (-166), 3) := by decide +kernel
theorem dX11_pattern_337 : decode cX11_pattern 337 = .ok (.iinc 3 1, 3) := by decide +kernel
theorem dX11_pattern_340 : decode cX11_pattern 340 = .ok (.goto (-183), 3) := by decide +kernel
theorem dX11_pattern_343 : decode cX11_pattern 343 = .ok (.return_, 1) := by decide +kernel
theorem dX11_patterns_0 : decode cX11_patterns 0 = .ok (.iload_n 0, 1) := by decide +kernel
theorem dX11_patterns_1 : decode cX11_patterns 1 = .ok (.iconst 1, 1) := by decide +kernel
theorem dX11_patterns_2 : decode cX11_patterns 2 = .ok (.if_icmp .ne 7, 3) := by decide +kernel
theorem dX11_patterns_5 : decode cX11_patterns 5 = .ok (.iconst 3, 1) := by decide +kernel
theorem dX11_patterns_6 : decode cX11_patterns 6 = .ok (.goto 15, 3) := by decide +kernel
theorem dX11_patterns_9 : decode cX11_patterns 9 = .ok (.iload_n 0, 1) := by decide +kernel
theorem dX11_patterns_10 : decode cX11_patterns 10 = .ok (.iconst 2, 1) := by decide +kernel
theorem dX11_patterns_11 : decode cX11_patterns 11 = .ok (.if_icmp .ne 8, 3) := by decide +kernel
theorem dX11_patterns_14 : decode cX11_patterns 14 = .ok (.bipush 9, 2) := by decide +kernel
theorem dX11_patterns_16 : decode cX11_patterns 16 = .ok (.goto 5, 3) := by decide +kernel
theorem dX11_patterns_19 : decode cX11_patterns 19 = .ok (.bipush 27, 2) := by decide +kernel
theorem dX11_patterns_21 : decode cX11_patterns 21 = .ok (.ireturn, 1) := by decide +kernel
theorem dX11_isRight_0 : decode cX11_isRight 0 = .ok (.iconst 0, 1) := by decide +kernel
theorem dX11_isRight_1 : decode cX11_isRight 1 = .ok (.istore_n 3, 1) := by decide +kernel
theorem dX11_isRight_2 : decode cX11_isRight 2 = .ok (.iload_n 3, 1) := by decide +kernel
theorem dX11_isRight_3 : decode cX11_isRight 3 = .ok (.aload_n 0, 1) := by decide +kernel
theorem dX11_isRight_4 : decode cX11_isRight 4 = .ok (.getfield 7, 3) := by decide +kernel
theorem dX11_isRight_7 : decode cX11_isRight 7 = .ok (.if_icmp .ge 169, 3) := by decide +kernel
theorem dX11_isRight_10 : decode cX11_isRight 10 = .ok (.aload_n 0, 1) := by decide +kernel
theorem dX11_isRight_11 : decode cX11_isRight 11 = .ok (.getfield 71, 3) := by decide +kernel
theorem dX11_isRight_14 : decode cX11_isRight 14 = .ok (.iload_n 3, 1) := by decide +kernel
theorem dX11_isRight_15 : decode cX11_isRight 15 = .ok (.laload, 1) := by decide +kernel
theorem dX11_isRight_16 : decode cX11_isRight 16 = .ok (.lload_n 1, 1) := by decide +kernel
theorem dX11_isRight_17 : decode cX11_isRight 17 = .ok (.aload_n 0, 1) := by decide +kernel
theorem dX11_isRight_18 : decode cX11_isRight 18 = .ok (.getfield 74, 3) := by decide +kernel
theorem dX11_isRight_21 : decode cX11_isRight 21 = .ok (.iload_n 3, 1) := by decide +kernel
theorem dX11_isRight_22 : decode cX11_isRight 22 = .ok (.laload, 1) := by decide +kernel
theorem dX11_isRight_23 : decode cX11_isRight 23 = .ok (.lmul, 1) := by decide +kernel
theorem dX11_isRight_24 : decode cX11_isRight 24 = .ok (.ladd, 1) := by decide +kernel
theorem dX11_isRight_25 : decode cX11_isRight 25 = .ok (.lstore 4, 2) := by decide +kernel
theorem dX11_isRight_27 : decode cX11_isRight 27 = .ok (.aload_n 0, 1) := by decide +kernel
theorem dX11_isRight_28 : decode cX11_isRight 28 = .ok (.getfield 65, 3) := by decide +kernel
theorem dX11_isRight_31 : decode cX11_isRight 31 = .ok (.iload_n 3, 1) := by decide +kernel
theorem dX11_isRight_32 : decode cX11_isRight 32 = .ok (.iaload, 1) := by decide +kernel
theorem dX11_isRight_33 : decode cX11_isRight 33 = .ok (.ifCond .eq 19, 3) := by decide +kernel
theorem dX11_isRight_36 : decode cX11_isRight 36 = .ok (.lload 4, 2) := by decide +kernel
theorem dX11_isRight_38 : decode cX11_isRight 38 = .ok (.invokestatic 228, 3) := by decide +kernel
theorem dX11_isRight_41 : decode cX11_isRight 41 = .ok (.aload_n 0, 1) := by decide +kernel
theorem dX11_isRight_42 : decode cX11_isRight 42 = .ok (.getfield 65, 3) := by decide +kernel
theorem dX11_isRight_45 : decode cX11_isRight 45 = .ok (.iload_n 3, 1) := by decide +kernel
theorem dX11_isRight_46 : decode cX11_isRight 46 = .ok (.iaload, 1) := by decide +kernel
theorem dX11_isRight_47 : decode cX11_isRight 47 = .ok (.if_icmp .eq 5, 3) := by decide +kernel
theorem dX11_isRight_50 : decode cX11_isRight 50 = .ok (.iconst 0, 1) := by decide +kernel
theorem dX11_isRight_51 : decode cX11_isRight 51 = .ok (.ireturn, 1) := by decide +kernel
theorem dX11_isRight_52 : decode cX11_isRight 52 = .ok (.aload_n 0, 1) := by decide +kernel
theorem dX11_isRight_53 : decode cX11_isRight 53 = .ok (.getfield 65, 3) := by decide +kernel
theorem dX11_isRight_56 : decode cX11_isRight 56 = .ok (.iload_n 3, 1) := by decide +kernel
theorem dX11_isRight_57 : decode cX11_isRight 57 = .ok (.iaload, 1) := by decide +kernel
theorem dX11_isRight_58 : decode cX11_isRight 58 = .ok (.ifCond .ne 112, 3) := by decide +kernel
theorem dX11_isRight_61 : decode cX11_isRight 61 = .ok (.ldc2_w 226, 3) := by decide +kernel
theorem dX11_isRight_64 : decode cX11_isRight 64 = .ok (.aload_n 0, 1) := by decide +kernel
theorem dX11_isRight_65 : decode cX11_isRight 65 = .ok (.getfield 34, 3) := by decide +kernel
theorem dX11_isRight_68 : decode cX11_isRight 68 = .ok (.iload_n 3, 1) := by decide +kernel
theorem dX11_isRight_69 : decode cX11_isRight 69 = .ok (.laload, 1) := by decide +kernel
theorem dX11_isRight_70 : decode cX11_isRight 70 = .ok (.lmul, 1) := by decide +kernel
theorem dX11_isRight_71 : decode cX11_isRight 71 = .ok (.aload_n 0, 1) := by decide +kernel
theorem dX11_isRight_72 : decode cX11_isRight 72 = .ok (.getfield 223, 3) := by decide +kernel
theorem dX11_isRight_75 : decode cX11_isRight 75 = .ok (.lmul, 1) := by decide +kernel
theorem dX11_isRight_76 : decode cX11_isRight 76 = .ok (.lstore 6, 2) := by decide +kernel
theorem dX11_isRight_78 : decode cX11_isRight 78 = .ok (.iconst 0, 1) := by decide +kernel
theorem dX11_isRight_79 : decode cX11_isRight 79 = .ok (.istore 8, 2) := by decide +kernel
theorem dX11_isRight_81 : decode cX11_isRight 81 = .ok (.iload 8, 2) := by decide +kernel
theorem dX11_isRight_83 : decode cX11_isRight 83 = .ok (.aload_n 0, 1) := by decide +kernel
theorem dX11_isRight_84 : decode cX11_isRight 84 = .ok (.getfield 220, 3) := by decide +kernel
theorem dX11_isRight_87 : decode cX11_isRight 87 = .ok (.if_icmp .ge 56, 3) := by decide +kernel
theorem dX11_isRight_90 : decode cX11_isRight 90 = .ok (.lload 6, 2) := by decide +kernel
theorem dX11_isRight_92 : decode cX11_isRight 92 = .ok (.aload_n 0, 1) := by decide +kernel
theorem dX11_isRight_93 : decode cX11_isRight 93 = .ok (.getfield 31, 3) := by decide +kernel
theorem dX11_isRight_96 : decode cX11_isRight 96 = .ok (.iload_n 3, 1) := by decide +kernel
theorem dX11_isRight_97 : decode cX11_isRight 97 = .ok (.aaload, 1) := by decide +kernel
theorem dX11_isRight_98 : decode cX11_isRight 98 = .ok (.aload_n 0, 1) := by decide +kernel
theorem dX11_isRight_99 : decode cX11_isRight 99 = .ok (.getfield 68, 3) := by decide +kernel
theorem dX11_isRight_102 : decode cX11_isRight 102 = .ok (.iload 8, 2) := by decide +kernel
theorem dX11_isRight_104 : decode cX11_isRight 104 = .ok (.iaload, 1) := by decide +kernel
theorem dX11_isRight_105 : decode cX11_isRight 105 = .ok (.laload, 1) := by decide +kernel
theorem dX11_isRight_106 : decode cX11_isRight 106 = .ok (.aload_n 0, 1) := by decide +kernel
theorem dX11_isRight_107 : decode cX11_isRight 107 = .ok (.getfield 71, 3) := by decide +kernel
theorem dX11_isRight_110 : decode cX11_isRight 110 = .ok (.aload_n 0, 1) := by decide +kernel
theorem dX11_isRight_111 : decode cX11_isRight 111 = .ok (.getfield 68, 3) := by decide +kernel
theorem dX11_isRight_114 : decode cX11_isRight 114 = .ok (.iload 8, 2) := by decide +kernel
theorem dX11_isRight_116 : decode cX11_isRight 116 = .ok (.iaload, 1) := by decide +kernel
theorem dX11_isRight_117 : decode cX11_isRight 117 = .ok (.laload, 1) := by decide +kernel
theorem dX11_isRight_118 : decode cX11_isRight 118 = .ok (.lload_n 1, 1) := by decide +kernel
theorem dX11_isRight_119 : decode cX11_isRight 119 = .ok (.aload_n 0, 1) := by decide +kernel
theorem dX11_isRight_120 : decode cX11_isRight 120 = .ok (.getfield 74, 3) := by decide +kernel
theorem dX11_isRight_123 : decode cX11_isRight 123 = .ok (.aload_n 0, 1) := by decide +kernel
theorem dX11_isRight_124 : decode cX11_isRight 124 = .ok (.getfield 68, 3) := by decide +kernel
theorem dX11_isRight_127 : decode cX11_isRight 127 = .ok (.iload 8, 2) := by decide +kernel
theorem dX11_isRight_129 : decode cX11_isRight 129 = .ok (.iaload, 1) := by decide +kernel
theorem dX11_isRight_130 : decode cX11_isRight 130 = .ok (.laload, 1) := by decide +kernel
theorem dX11_isRight_131 : decode cX11_isRight 131 = .ok (.lmul, 1) := by decide +kernel
theorem dX11_isRight_132 : decode cX11_isRight 132 = .ok (.ladd, 1) := by decide +kernel
theorem dX11_isRight_133 : decode cX11_isRight 133 = .ok (.lmul, 1) := by decide +kernel
theorem dX11_isRight_134 : decode cX11_isRight 134 = .ok (.lsub, 1) := by decide +kernel
theorem dX11_isRight_135 : decode cX11_isRight 135 = .ok (.lstore 6, 2) := by decide +kernel
theorem dX11_isRight_137 : decode cX11_isRight 137 = .ok (.iinc 8 1, 3) := by decide +kernel
theorem dX11_isRight_140 : decode cX11_isRight 140 = .ok (.goto (-59), 3) := by decide +kernel
theorem dX11_isRight_143 : decode cX11_isRight 143 = .ok (.lload 6, 2) := by decide +kernel
theorem dX11_isRight_145 : decode cX11_isRight 145 = .ok (.lconst 0, 1) := by decide +kernel
theorem dX11_isRight_146 : decode cX11_isRight 146 = .ok (.lcmp, 1) := by decide +kernel
theorem dX11_isRight_147 : decode cX11_isRight 147 = .ok (.ifCond .ge 9, 3) := by decide +kernel
theorem dX11_isRight_150 : decode cX11_isRight 150 = .ok (.lload 6, 2) := by decide +kernel
theorem dX11_isRight_152 : decode cX11_isRight 152 = .ok (.lneg, 1) := by decide +kernel
theorem dX11_isRight_153 : decode cX11_isRight 153 = .ok (.goto 5, 3) := by decide +kernel
theorem dX11_isRight_156 : decode cX11_isRight 156 = .ok (.lload 6, 2) := by decide +kernel
theorem dX11_isRight_158 : decode cX11_isRight 158 = .ok (.lload_n 1, 1) := by decide +kernel
theorem dX11_isRight_159 : decode cX11_isRight 159 = .ok (.aload_n 0, 1) := by decide +kernel
theorem dX11_isRight_160 : decode cX11_isRight 160 = .ok (.getfield 223, 3) := by decide +kernel
theorem dX11_isRight_163 : decode cX11_isRight 163 = .ok (.lmul, 1) := by decide +kernel
theorem dX11_isRight_164 : decode cX11_isRight 164 = .ok (.lcmp, 1) := by decide +kernel
theorem dX11_isRight_165 : decode cX11_isRight 165 = .ok (.ifCond .le 5, 3) := by decide +kernel
theorem dX11_isRight_168 : decode cX11_isRight 168 = .ok (.iconst 0, 1) := by decide +kernel
theorem dX11_isRight_169 : decode cX11_isRight 169 = .ok (.ireturn, 1) := by decide +kernel
theorem dX11_isRight_170 : decode cX11_isRight 170 = .ok (.iinc 3 1, 3) := by decide +kernel
theorem dX11_isRight_173 : decode cX11_isRight 173 = .ok (.goto (-171), 3) := by decide +kernel
theorem dX11_isRight_176 : decode cX11_isRight 176 = .ok (.iconst 1, 1) := by decide +kernel
theorem dX11_isRight_177 : decode cX11_isRight 177 = .ok (.ireturn, 1) := by decide +kernel
theorem dX11_findPattern_0 : decode cX11_findPattern 0 = .ok (.iconst 0, 1) := by decide +kernel
theorem dX11_findPattern_1 : decode cX11_findPattern 1 = .ok (.istore_n 3, 1) := by decide +kernel
theorem dX11_findPattern_2 : decode cX11_findPattern 2 = .ok (.iload_n 3, 1) := by decide +kernel
theorem dX11_findPattern_3 : decode cX11_findPattern 3 = .ok (.aload_n 0, 1) := by decide +kernel
theorem dX11_findPattern_4 : decode cX11_findPattern 4 = .ok (.getfield 7, 3) := by decide +kernel
theorem dX11_findPattern_7 : decode cX11_findPattern 7 = .ok (.invokestatic 234, 3) := by decide +kernel
theorem dX11_findPattern_10 : decode cX11_findPattern 10 = .ok (.if_icmp .ge 24, 3) := by decide +kernel
theorem dX11_findPattern_13 : decode cX11_findPattern 13 = .ok (.aload_n 0, 1) := by decide +kernel
theorem dX11_findPattern_14 : decode cX11_findPattern 14 = .ok (.iload_n 3, 1) := by decide +kernel
theorem dX11_findPattern_15 : decode cX11_findPattern 15 = .ok (.invokevirtual 237, 3) := by decide +kernel
theorem dX11_findPattern_18 : decode cX11_findPattern 18 = .ok (.aload_n 0, 1) := by decide +kernel
theorem dX11_findPattern_19 : decode cX11_findPattern 19 = .ok (.lload_n 1, 1) := by decide +kernel
theorem dX11_findPattern_20 : decode cX11_findPattern 20 = .ok (.invokevirtual 240, 3) := by decide +kernel
theorem dX11_findPattern_23 : decode cX11_findPattern 23 = .ok (.ifCond .eq 5, 3) := by decide +kernel
theorem dX11_findPattern_26 : decode cX11_findPattern 26 = .ok (.iconst 1, 1) := by decide +kernel
theorem dX11_findPattern_27 : decode cX11_findPattern 27 = .ok (.ireturn, 1) := by decide +kernel
theorem dX11_findPattern_28 : decode cX11_findPattern 28 = .ok (.iinc 3 1, 3) := by decide +kernel
theorem dX11_findPattern_31 : decode cX11_findPattern 31 = .ok (.goto (-29), 3) := by decide +kernel
theorem dX11_findPattern_34 : decode cX11_findPattern 34 = .ok (.iconst 0, 1) := by decide +kernel
theorem dX11_findPattern_35 : decode cX11_findPattern 35 = .ok (.ireturn, 1) := by decide +kernel
theorem dX11_barred_0 : decode cX11_barred 0 = .ok (.iload_n 1, 1) := by decide +kernel
theorem dX11_barred_1 : decode cX11_barred 1 = .ok (.ifCond .lt 24, 3) := by decide +kernel
theorem dX11_barred_4 : decode cX11_barred 4 = .ok (.iload_n 1, 1) := by decide +kernel
theorem dX11_barred_5 : decode cX11_barred 5 = .ok (.ldc 244, 2) := by decide +kernel
theorem dX11_barred_7 : decode cX11_barred 7 = .ok (.if_icmp .gt 18, 3) := by decide +kernel
theorem dX11_barred_10 : decode cX11_barred 10 = .ok (.aload_n 0, 1) := by decide +kernel
theorem dX11_barred_11 : decode cX11_barred 11 = .ok (.iload_n 2, 1) := by decide +kernel
theorem dX11_barred_12 : decode cX11_barred 12 = .ok (.invokevirtual 157, 3) := by decide +kernel
theorem dX11_barred_15 : decode cX11_barred 15 = .ok (.ifCond .eq 10, 3) := by decide +kernel
theorem dX11_barred_18 : decode cX11_barred 18 = .ok (.aload_n 0, 1) := by decide +kernel
theorem dX11_barred_19 : decode cX11_barred 19 = .ok (.invokevirtual 214, 3) := by decide +kernel
theorem dX11_barred_22 : decode cX11_barred 22 = .ok (.ifCond .ne 7, 3) := by decide +kernel
theorem dX11_barred_25 : decode cX11_barred 25 = .ok (.ldc2_w 83, 3) := by decide +kernel
theorem dX11_barred_28 : decode cX11_barred 28 = .ok (.lreturn, 1) := by decide +kernel
theorem dX11_barred_29 : decode cX11_barred 29 = .ok (.aload_n 0, 1) := by decide +kernel
theorem dX11_barred_30 : decode cX11_barred 30 = .ok (.iload_n 1, 1) := by decide +kernel
theorem dX11_barred_31 : decode cX11_barred 31 = .ok (.i2l, 1) := by decide +kernel
theorem dX11_barred_32 : decode cX11_barred 32 = .ok (.invokevirtual 245, 3) := by decide +kernel
theorem dX11_barred_35 : decode cX11_barred 35 = .ok (.pop, 1) := by decide +kernel
theorem dX11_barred_36 : decode cX11_barred 36 = .ok (.aload_n 0, 1) := by decide +kernel
theorem dX11_barred_37 : decode cX11_barred 37 = .ok (.getfield 71, 3) := by decide +kernel
theorem dX11_barred_40 : decode cX11_barred 40 = .ok (.iload_n 2, 1) := by decide +kernel
theorem dX11_barred_41 : decode cX11_barred 41 = .ok (.laload, 1) := by decide +kernel
theorem dX11_barred_42 : decode cX11_barred 42 = .ok (.iload_n 1, 1) := by decide +kernel
theorem dX11_barred_43 : decode cX11_barred 43 = .ok (.i2l, 1) := by decide +kernel
theorem dX11_barred_44 : decode cX11_barred 44 = .ok (.aload_n 0, 1) := by decide +kernel
theorem dX11_barred_45 : decode cX11_barred 45 = .ok (.getfield 74, 3) := by decide +kernel
theorem dX11_barred_48 : decode cX11_barred 48 = .ok (.iload_n 2, 1) := by decide +kernel
theorem dX11_barred_49 : decode cX11_barred 49 = .ok (.laload, 1) := by decide +kernel
theorem dX11_barred_50 : decode cX11_barred 50 = .ok (.lmul, 1) := by decide +kernel
theorem dX11_barred_51 : decode cX11_barred 51 = .ok (.ladd, 1) := by decide +kernel
theorem dX11_barred_52 : decode cX11_barred 52 = .ok (.ldc2_w 226, 3) := by decide +kernel
theorem dX11_barred_55 : decode cX11_barred 55 = .ok (.aload_n 0, 1) := by decide +kernel
theorem dX11_barred_56 : decode cX11_barred 56 = .ok (.getfield 223, 3) := by decide +kernel
theorem dX11_barred_59 : decode cX11_barred 59 = .ok (.lmul, 1) := by decide +kernel
theorem dX11_barred_60 : decode cX11_barred 60 = .ok (.iload_n 3, 1) := by decide +kernel
theorem dX11_barred_61 : decode cX11_barred 61 = .ok (.invokestatic 163, 3) := by decide +kernel
theorem dX11_barred_64 : decode cX11_barred 64 = .ok (.lreturn, 1) := by decide +kernel
theorem dX11_cost_0 : decode cX11_cost 0 = .ok (.iload_n 1, 1) := by decide +kernel
theorem dX11_cost_1 : decode cX11_cost 1 = .ok (.ifCond .lt 16, 3) := by decide +kernel
theorem dX11_cost_4 : decode cX11_cost 4 = .ok (.iload_n 1, 1) := by decide +kernel
theorem dX11_cost_5 : decode cX11_cost 5 = .ok (.ldc 244, 2) := by decide +kernel
theorem dX11_cost_7 : decode cX11_cost 7 = .ok (.if_icmp .gt 10, 3) := by decide +kernel
theorem dX11_cost_10 : decode cX11_cost 10 = .ok (.aload_n 0, 1) := by decide +kernel
theorem dX11_cost_11 : decode cX11_cost 11 = .ok (.invokevirtual 214, 3) := by decide +kernel
theorem dX11_cost_14 : decode cX11_cost 14 = .ok (.ifCond .ne 7, 3) := by decide +kernel
theorem dX11_cost_17 : decode cX11_cost 17 = .ok (.ldc2_w 83, 3) := by decide +kernel
theorem dX11_cost_20 : decode cX11_cost 20 = .ok (.lreturn, 1) := by decide +kernel
theorem dX11_cost_21 : decode cX11_cost 21 = .ok (.aload_n 0, 1) := by decide +kernel
theorem dX11_cost_22 : decode cX11_cost 22 = .ok (.iload_n 1, 1) := by decide +kernel
theorem dX11_cost_23 : decode cX11_cost 23 = .ok (.i2l, 1) := by decide +kernel
theorem dX11_cost_24 : decode cX11_cost 24 = .ok (.invokevirtual 245, 3) := by decide +kernel
theorem dX11_cost_27 : decode cX11_cost 27 = .ok (.pop, 1) := by decide +kernel
theorem dX11_cost_28 : decode cX11_cost 28 = .ok (.ldc2_w 248, 3) := by decide +kernel
theorem dX11_cost_31 : decode cX11_cost 31 = .ok (.aload_n 0, 1) := by decide +kernel
theorem dX11_cost_32 : decode cX11_cost 32 = .ok (.getfield 223, 3) := by decide +kernel
theorem dX11_cost_35 : decode cX11_cost 35 = .ok (.lmul, 1) := by decide +kernel
theorem dX11_cost_36 : decode cX11_cost 36 = .ok (.aload_n 0, 1) := by decide +kernel
theorem dX11_cost_37 : decode cX11_cost 37 = .ok (.getfield 104, 3) := by decide +kernel
theorem dX11_cost_40 : decode cX11_cost 40 = .ok (.lmul, 1) := by decide +kernel
theorem dX11_cost_41 : decode cX11_cost 41 = .ok (.lstore_n 3, 1) := by decide +kernel
theorem dX11_cost_42 : decode cX11_cost 42 = .ok (.iconst 0, 1) := by decide +kernel
theorem dX11_cost_43 : decode cX11_cost 43 = .ok (.istore 5, 2) := by decide +kernel
theorem dX11_cost_45 : decode cX11_cost 45 = .ok (.iload 5, 2) := by decide +kernel
theorem dX11_cost_47 : decode cX11_cost 47 = .ok (.aload_n 0, 1) := by decide +kernel
theorem dX11_cost_48 : decode cX11_cost 48 = .ok (.getfield 7, 3) := by decide +kernel
theorem dX11_cost_51 : decode cX11_cost 51 = .ok (.if_icmp .ge 65, 3) := by decide +kernel
theorem dX11_cost_54 : decode cX11_cost 54 = .ok (.aload_n 0, 1) := by decide +kernel
theorem dX11_cost_55 : decode cX11_cost 55 = .ok (.getfield 71, 3) := by decide +kernel
theorem dX11_cost_58 : decode cX11_cost 58 = .ok (.iload 5, 2) := by decide +kernel
theorem dX11_cost_60 : decode cX11_cost 60 = .ok (.laload, 1) := by decide +kernel
theorem dX11_cost_61 : decode cX11_cost 61 = .ok (.iload_n 1, 1) := by decide +kernel
theorem dX11_cost_62 : decode cX11_cost 62 = .ok (.i2l, 1) := by decide +kernel
theorem dX11_cost_63 : decode cX11_cost 63 = .ok (.aload_n 0, 1) := by decide +kernel
theorem dX11_cost_64 : decode cX11_cost 64 = .ok (.getfield 74, 3) := by decide +kernel
theorem dX11_cost_67 : decode cX11_cost 67 = .ok (.iload 5, 2) := by decide +kernel
theorem dX11_cost_69 : decode cX11_cost 69 = .ok (.laload, 1) := by decide +kernel
theorem dX11_cost_70 : decode cX11_cost 70 = .ok (.lmul, 1) := by decide +kernel
theorem dX11_cost_71 : decode cX11_cost 71 = .ok (.ladd, 1) := by decide +kernel
theorem dX11_cost_72 : decode cX11_cost 72 = .ok (.lstore 6, 2) := by decide +kernel
theorem dX11_cost_74 : decode cX11_cost 74 = .ok (.lload_n 3, 1) := by decide +kernel
theorem dX11_cost_75 : decode cX11_cost 75 = .ok (.ldc2_w 250, 3) := by decide +kernel
theorem dX11_cost_78 : decode cX11_cost 78 = .ok (.aload_n 0, 1) := by decide +kernel
theorem dX11_cost_79 : decode cX11_cost 79 = .ok (.getfield 34, 3) := by decide +kernel
theorem dX11_cost_82 : decode cX11_cost 82 = .ok (.iload 5, 2) := by decide +kernel
theorem dX11_cost_84 : decode cX11_cost 84 = .ok (.laload, 1) := by decide +kernel
theorem dX11_cost_85 : decode cX11_cost 85 = .ok (.lmul, 1) := by decide +kernel
theorem dX11_cost_86 : decode cX11_cost 86 = .ok (.lload 6, 2) := by decide +kernel
theorem dX11_cost_88 : decode cX11_cost 88 = .ok (.lmul, 1) := by decide +kernel
theorem dX11_cost_89 : decode cX11_cost 89 = .ok (.iload_n 1, 1) := by decide +kernel
theorem dX11_cost_90 : decode cX11_cost 90 = .ok (.i2l, 1) := by decide +kernel
theorem dX11_cost_91 : decode cX11_cost 91 = .ok (.lload 6, 2) := by decide +kernel
theorem dX11_cost_93 : decode cX11_cost 93 = .ok (.lconst 0, 1) := by decide +kernel
theorem dX11_cost_94 : decode cX11_cost 94 = .ok (.lcmp, 1) := by decide +kernel
theorem dX11_cost_95 : decode cX11_cost 95 = .ok (.ifCond .ge 9, 3) := by decide +kernel
theorem dX11_cost_98 : decode cX11_cost 98 = .ok (.lload 6, 2) := by decide +kernel
theorem dX11_cost_100 : decode cX11_cost 100 = .ok (.lneg, 1) := by decide +kernel
theorem dX11_cost_101 : decode cX11_cost 101 = .ok (.goto 5, 3) := by decide +kernel
theorem dX11_cost_104 : decode cX11_cost 104 = .ok (.lload 6, 2) := by decide +kernel
theorem dX11_cost_106 : decode cX11_cost 106 = .ok (.lmul, 1) := by decide +kernel
theorem dX11_cost_107 : decode cX11_cost 107 = .ok (.ladd, 1) := by decide +kernel
theorem dX11_cost_108 : decode cX11_cost 108 = .ok (.ladd, 1) := by decide +kernel
theorem dX11_cost_109 : decode cX11_cost 109 = .ok (.lstore_n 3, 1) := by decide +kernel
theorem dX11_cost_110 : decode cX11_cost 110 = .ok (.iinc 5 1, 3) := by decide +kernel
theorem dX11_cost_113 : decode cX11_cost 113 = .ok (.goto (-68), 3) := by decide +kernel
theorem dX11_cost_116 : decode cX11_cost 116 = .ok (.lload_n 3, 1) := by decide +kernel
theorem dX11_cost_117 : decode cX11_cost 117 = .ok (.ldc2_w 248, 3) := by decide +kernel
theorem dX11_cost_120 : decode cX11_cost 120 = .ok (.aload_n 0, 1) := by decide +kernel
theorem dX11_cost_121 : decode cX11_cost 121 = .ok (.getfield 223, 3) := by decide +kernel
theorem dX11_cost_124 : decode cX11_cost 124 = .ok (.lmul, 1) := by decide +kernel
theorem dX11_cost_125 : decode cX11_cost 125 = .ok (.iload_n 2, 1) := by decide +kernel
theorem dX11_cost_126 : decode cX11_cost 126 = .ok (.invokestatic 163, 3) := by decide +kernel
theorem dX11_cost_129 : decode cX11_cost 129 = .ok (.lreturn, 1) := by decide +kernel
theorem dX11_bound_0 : decode cX11_bound 0 = .ok (.lload_n 3, 1) := by decide +kernel
theorem dX11_bound_1 : decode cX11_bound 1 = .ok (.lconst 0, 1) := by decide +kernel
theorem dX11_bound_2 : decode cX11_bound 2 = .ok (.lcmp, 1) := by decide +kernel
theorem dX11_bound_3 : decode cX11_bound 3 = .ok (.ifCond .ne 40, 3) := by decide +kernel
theorem dX11_bound_6 : decode cX11_bound 6 = .ok (.aload_n 0, 1) := by decide +kernel
theorem dX11_bound_7 : decode cX11_bound 7 = .ok (.aload_n 0, 1) := by decide +kernel
theorem dX11_bound_8 : decode cX11_bound 8 = .ok (.getfield 252, 3) := by decide +kernel
theorem dX11_bound_11 : decode cX11_bound 11 = .ok (.ifCond .eq 27, 3) := by decide +kernel
theorem dX11_bound_14 : decode cX11_bound 14 = .ok (.iload 5, 2) := by decide +kernel
theorem dX11_bound_16 : decode cX11_bound 16 = .ok (.ifCond .eq 12, 3) := by decide +kernel
theorem dX11_bound_19 : decode cX11_bound 19 = .ok (.lload_n 1, 1) := by decide +kernel
theorem dX11_bound_20 : decode cX11_bound 20 = .ok (.lconst 0, 1) := by decide +kernel
theorem dX11_bound_21 : decode cX11_bound 21 = .ok (.lcmp, 1) := by decide +kernel
theorem dX11_bound_22 : decode cX11_bound 22 = .ok (.ifCond .le 16, 3) := by decide +kernel
theorem dX11_bound_25 : decode cX11_bound 25 = .ok (.goto 9, 3) := by decide +kernel
theorem dX11_bound_28 : decode cX11_bound 28 = .ok (.lload_n 1, 1) := by decide +kernel
theorem dX11_bound_29 : decode cX11_bound 29 = .ok (.lconst 0, 1) := by decide +kernel
theorem dX11_bound_30 : decode cX11_bound 30 = .ok (.lcmp, 1) := by decide +kernel
theorem dX11_bound_31 : decode cX11_bound 31 = .ok (.ifCond .lt 7, 3) := by decide +kernel
theorem dX11_bound_34 : decode cX11_bound 34 = .ok (.iconst 1, 1) := by decide +kernel
theorem dX11_bound_35 : decode cX11_bound 35 = .ok (.goto 4, 3) := by decide +kernel
theorem dX11_bound_38 : decode cX11_bound 38 = .ok (.iconst 0, 1) := by decide +kernel
theorem dX11_bound_39 : decode cX11_bound 39 = .ok (.putfield 252, 3) := by decide +kernel
theorem dX11_bound_42 : decode cX11_bound 42 = .ok (.return_, 1) := by decide +kernel
theorem dX11_bound_43 : decode cX11_bound 43 = .ok (.lload_n 1, 1) := by decide +kernel
theorem dX11_bound_44 : decode cX11_bound 44 = .ok (.lload_n 3, 1) := by decide +kernel
theorem dX11_bound_45 : decode cX11_bound 45 = .ok (.invokestatic 85, 3) := by decide +kernel
theorem dX11_bound_48 : decode cX11_bound 48 = .ok (.lstore 6, 2) := by decide +kernel
theorem dX11_bound_50 : decode cX11_bound 50 = .ok (.lload_n 3, 1) := by decide +kernel
theorem dX11_bound_51 : decode cX11_bound 51 = .ok (.lconst 0, 1) := by decide +kernel
theorem dX11_bound_52 : decode cX11_bound 52 = .ok (.lcmp, 1) := by decide +kernel
theorem dX11_bound_53 : decode cX11_bound 53 = .ok (.ifCond .le 11, 3) := by decide +kernel
theorem dX11_bound_56 : decode cX11_bound 56 = .ok (.lload_n 1, 1) := by decide +kernel
theorem dX11_bound_57 : decode cX11_bound 57 = .ok (.lneg, 1) := by decide +kernel
theorem dX11_bound_58 : decode cX11_bound 58 = .ok (.lload 6, 2) := by decide +kernel
theorem dX11_bound_60 : decode cX11_bound 60 = .ok (.ldiv, 1) := by decide +kernel
theorem dX11_bound_61 : decode cX11_bound 61 = .ok (.goto 7, 3) := by decide +kernel
theorem dX11_bound_64 : decode cX11_bound 64 = .ok (.lload_n 1, 1) := by decide +kernel
theorem dX11_bound_65 : decode cX11_bound 65 = .ok (.lload 6, 2) := by decide +kernel
theorem dX11_bound_67 : decode cX11_bound 67 = .ok (.ldiv, 1) := by decide +kernel
theorem dX11_bound_68 : decode cX11_bound 68 = .ok (.lstore 8, 2) := by decide +kernel
theorem dX11_bound_70 : decode cX11_bound 70 = .ok (.lload_n 3, 1) := by decide +kernel
theorem dX11_bound_71 : decode cX11_bound 71 = .ok (.lconst 0, 1) := by decide +kernel
theorem dX11_bound_72 : decode cX11_bound 72 = .ok (.lcmp, 1) := by decide +kernel
theorem dX11_bound_73 : decode cX11_bound 73 = .ok (.ifCond .le 7, 3) := by decide +kernel
theorem dX11_bound_76 : decode cX11_bound 76 = .ok (.lload_n 3, 1) := by decide +kernel
theorem dX11_bound_77 : decode cX11_bound 77 = .ok (.goto 5, 3) := by decide +kernel
theorem dX11_bound_80 : decode cX11_bound 80 = .ok (.lload_n 3, 1) := by decide +kernel
theorem dX11_bound_81 : decode cX11_bound 81 = .ok (.lneg, 1) := by decide +kernel
theorem dX11_bound_82 : decode cX11_bound 82 = .ok (.lload 6, 2) := by decide +kernel
theorem dX11_bound_84 : decode cX11_bound 84 = .ok (.ldiv, 1) := by decide +kernel
theorem dX11_bound_85 : decode cX11_bound 85 = .ok (.lstore 10, 2) := by decide +kernel
theorem dX11_bound_87 : decode cX11_bound 87 = .ok (.lload_n 3, 1) := by decide +kernel
theorem dX11_bound_88 : decode cX11_bound 88 = .ok (.lconst 0, 1) := by decide +kernel
theorem dX11_bound_89 : decode cX11_bound 89 = .ok (.lcmp, 1) := by decide +kernel
theorem dX11_bound_90 : decode cX11_bound 90 = .ok (.ifCond .le 36, 3) := by decide +kernel
theorem dX11_bound_93 : decode cX11_bound 93 = .ok (.lload 8, 2) := by decide +kernel
theorem dX11_bound_95 : decode cX11_bound 95 = .ok (.lload 10, 2) := by decide +kernel
theorem dX11_bound_97 : decode cX11_bound 97 = .ok (.aload_n 0, 1) := by decide +kernel
theorem dX11_bound_98 : decode cX11_bound 98 = .ok (.getfield 256, 3) := by decide +kernel
theorem dX11_bound_101 : decode cX11_bound 101 = .ok (.aload_n 0, 1) := by decide +kernel
theorem dX11_bound_102 : decode cX11_bound 102 = .ok (.getfield 259, 3) := by decide +kernel
theorem dX11_bound_105 : decode cX11_bound 105 = .ok (.invokestatic 182, 3) := by decide +kernel
theorem dX11_bound_108 : decode cX11_bound 108 = .ok (.ifCond .le 57, 3) := by decide +kernel
theorem dX11_bound_111 : decode cX11_bound 111 = .ok (.aload_n 0, 1) := by decide +kernel
theorem dX11_bound_112 : decode cX11_bound 112 = .ok (.lload 8, 2) := by decide +kernel
theorem dX11_bound_114 : decode cX11_bound 114 = .ok (.putfield 256, 3) := by decide +kernel
theorem dX11_bound_117 : decode cX11_bound 117 = .ok (.aload_n 0, 1) := by decide +kernel
theorem dX11_bound_118 : decode cX11_bound 118 = .ok (.lload 10, 2) := by decide +kernel
theorem dX11_bound_120 : decode cX11_bound 120 = .ok (.putfield 259, 3) := by decide +kernel
theorem dX11_bound_123 : decode cX11_bound 123 = .ok (.goto 42, 3) := by decide +kernel
theorem dX11_bound_126 : decode cX11_bound 126 = .ok (.aload_n 0, 1) := by decide +kernel
theorem dX11_bound_127 : decode cX11_bound 127 = .ok (.getfield 262, 3) := by decide +kernel
theorem dX11_bound_130 : decode cX11_bound 130 = .ok (.lconst 0, 1) := by decide +kernel
theorem dX11_bound_131 : decode cX11_bound 131 = .ok (.lcmp, 1) := by decide +kernel
theorem dX11_bound_132 : decode cX11_bound 132 = .ok (.ifCond .eq 21, 3) := by decide +kernel
theorem dX11_bound_135 : decode cX11_bound 135 = .ok (.lload 8, 2) := by decide +kernel
theorem dX11_bound_137 : decode cX11_bound 137 = .ok (.lload 10, 2) := by decide +kernel
theorem dX11_bound_139 : decode cX11_bound 139 = .ok (.aload_n 0, 1) := by decide +kernel
theorem dX11_bound_140 : decode cX11_bound 140 = .ok (.getfield 265, 3) := by decide +kernel
theorem dX11_bound_143 : decode cX11_bound 143 = .ok (.aload_n 0, 1) := by decide +kernel
theorem dX11_bound_144 : decode cX11_bound 144 = .ok (.getfield 262, 3) := by decide +kernel
theorem dX11_bound_147 : decode cX11_bound 147 = .ok (.invokestatic 182, 3) := by decide +kernel
theorem dX11_bound_150 : decode cX11_bound 150 = .ok (.ifCond .ge 15, 3) := by decide +kernel
theorem dX11_bound_153 : decode cX11_bound 153 = .ok (.aload_n 0, 1) := by decide +kernel
theorem dX11_bound_154 : decode cX11_bound 154 = .ok (.lload 8, 2) := by decide +kernel
theorem dX11_bound_156 : decode cX11_bound 156 = .ok (.putfield 265, 3) := by decide +kernel
theorem dX11_bound_159 : decode cX11_bound 159 = .ok (.aload_n 0, 1) := by decide +kernel
theorem dX11_bound_160 : decode cX11_bound 160 = .ok (.lload 10, 2) := by decide +kernel
theorem dX11_bound_162 : decode cX11_bound 162 = .ok (.putfield 262, 3) := by decide +kernel
theorem dX11_bound_165 : decode cX11_bound 165 = .ok (.return_, 1) := by decide +kernel
theorem dX11_range_0 : decode cX11_range 0 = .ok (.aload_n 0, 1) := by decide +kernel
theorem dX11_range_1 : decode cX11_range 1 = .ok (.iconst 1, 1) := by decide +kernel
theorem dX11_range_2 : decode cX11_range 2 = .ok (.putfield 252, 3) := by decide +kernel
theorem dX11_range_5 : decode cX11_range 5 = .ok (.aload_n 0, 1) := by decide +kernel
theorem dX11_range_6 : decode cX11_range 6 = .ok (.lconst 0, 1) := by decide +kernel
theorem dX11_range_7 : decode cX11_range 7 = .ok (.putfield 256, 3) := by decide +kernel
theorem dX11_range_10 : decode cX11_range 10 = .ok (.aload_n 0, 1) := by decide +kernel
theorem dX11_range_11 : decode cX11_range 11 = .ok (.lconst 1, 1) := by decide +kernel
theorem dX11_range_12 : decode cX11_range 12 = .ok (.putfield 259, 3) := by decide +kernel
theorem dX11_range_15 : decode cX11_range 15 = .ok (.aload_n 0, 1) := by decide +kernel
theorem dX11_range_16 : decode cX11_range 16 = .ok (.lconst 0, 1) := by decide +kernel
theorem dX11_range_17 : decode cX11_range 17 = .ok (.putfield 265, 3) := by decide +kernel
theorem dX11_range_20 : decode cX11_range 20 = .ok (.aload_n 0, 1) := by decide +kernel
theorem dX11_range_21 : decode cX11_range 21 = .ok (.lconst 0, 1) := by decide +kernel
theorem dX11_range_22 : decode cX11_range 22 = .ok (.putfield 262, 3) := by decide +kernel
theorem dX11_range_25 : decode cX11_range 25 = .ok (.iconst 0, 1) := by decide +kernel
theorem dX11_range_26 : decode cX11_range 26 = .ok (.istore_n 1, 1) := by decide +kernel
theorem dX11_range_27 : decode cX11_range 27 = .ok (.iload_n 1, 1) := by decide +kernel
theorem dX11_range_28 : decode cX11_range 28 = .ok (.aload_n 0, 1) := by decide +kernel
theorem dX11_range_29 : decode cX11_range 29 = .ok (.getfield 7, 3) := by decide +kernel
theorem dX11_range_32 : decode cX11_range 32 = .ok (.if_icmp .ge 180, 3) := by decide +kernel
theorem dX11_range_35 : decode cX11_range 35 = .ok (.aload_n 0, 1) := by decide +kernel
theorem dX11_range_36 : decode cX11_range 36 = .ok (.getfield 65, 3) := by decide +kernel
theorem dX11_range_39 : decode cX11_range 39 = .ok (.iload_n 1, 1) := by decide +kernel
theorem dX11_range_40 : decode cX11_range 40 = .ok (.iaload, 1) := by decide +kernel
theorem dX11_range_41 : decode cX11_range 41 = .ok (.ifCond .eq 39, 3) := by decide +kernel
theorem dX11_range_44 : decode cX11_range 44 = .ok (.aload_n 0, 1) := by decide +kernel
theorem dX11_range_45 : decode cX11_range 45 = .ok (.aload_n 0, 1) := by decide +kernel
theorem dX11_range_46 : decode cX11_range 46 = .ok (.getfield 65, 3) := by decide +kernel
theorem dX11_range_49 : decode cX11_range 49 = .ok (.iload_n 1, 1) := by decide +kernel
theorem dX11_range_50 : decode cX11_range 50 = .ok (.iaload, 1) := by decide +kernel
theorem dX11_range_51 : decode cX11_range 51 = .ok (.i2l, 1) := by decide +kernel
theorem dX11_range_52 : decode cX11_range 52 = .ok (.aload_n 0, 1) := by decide +kernel
theorem dX11_range_53 : decode cX11_range 53 = .ok (.getfield 71, 3) := by decide +kernel
theorem dX11_range_56 : decode cX11_range 56 = .ok (.iload_n 1, 1) := by decide +kernel
theorem dX11_range_57 : decode cX11_range 57 = .ok (.laload, 1) := by decide +kernel
theorem dX11_range_58 : decode cX11_range 58 = .ok (.lmul, 1) := by decide +kernel
theorem dX11_range_59 : decode cX11_range 59 = .ok (.aload_n 0, 1) := by decide +kernel
theorem dX11_range_60 : decode cX11_range 60 = .ok (.getfield 65, 3) := by decide +kernel
theorem dX11_range_63 : decode cX11_range 63 = .ok (.iload_n 1, 1) := by decide +kernel
theorem dX11_range_64 : decode cX11_range 64 = .ok (.iaload, 1) := by decide +kernel
theorem dX11_range_65 : decode cX11_range 65 = .ok (.i2l, 1) := by decide +kernel
theorem dX11_range_66 : decode cX11_range 66 = .ok (.aload_n 0, 1) := by decide +kernel
theorem dX11_range_67 : decode cX11_range 67 = .ok (.getfield 74, 3) := by decide +kernel
theorem dX11_range_70 : decode cX11_range 70 = .ok (.iload_n 1, 1) := by decide +kernel
theorem dX11_range_71 : decode cX11_range 71 = .ok (.laload, 1) := by decide +kernel
theorem dX11_range_72 : decode cX11_range 72 = .ok (.lmul, 1) := by decide +kernel
theorem dX11_range_73 : decode cX11_range 73 = .ok (.iconst 1, 1) := by decide +kernel
theorem dX11_range_74 : decode cX11_range 74 = .ok (.invokevirtual 268, 3) := by decide +kernel
theorem dX11_range_77 : decode cX11_range 77 = .ok (.goto 129, 3) := by decide +kernel
theorem dX11_range_80 : decode cX11_range 80 = .ok (.ldc2_w 226, 3) := by decide +kernel
theorem dX11_range_83 : decode cX11_range 83 = .ok (.aload_n 0, 1) := by decide +kernel
theorem dX11_range_84 : decode cX11_range 84 = .ok (.getfield 34, 3) := by decide +kernel
theorem dX11_range_87 : decode cX11_range 87 = .ok (.iload_n 1, 1) := by decide +kernel
theorem dX11_range_88 : decode cX11_range 88 = .ok (.laload, 1) := by decide +kernel
theorem dX11_range_89 : decode cX11_range 89 = .ok (.lmul, 1) := by decide +kernel
theorem dX11_range_90 : decode cX11_range 90 = .ok (.aload_n 0, 1) := by decide +kernel
theorem dX11_range_91 : decode cX11_range 91 = .ok (.getfield 223, 3) := by decide +kernel
theorem dX11_range_94 : decode cX11_range 94 = .ok (.lmul, 1) := by decide +kernel
theorem dX11_range_95 : decode cX11_range 95 = .ok (.lstore_n 2, 1) := by decide +kernel
theorem dX11_range_96 : decode cX11_range 96 = .ok (.lconst 0, 1) := by decide +kernel
theorem dX11_range_97 : decode cX11_range 97 = .ok (.lstore 4, 2) := by decide +kernel
theorem dX11_range_99 : decode cX11_range 99 = .ok (.iconst 0, 1) := by decide +kernel
theorem dX11_range_100 : decode cX11_range 100 = .ok (.istore 6, 2) := by decide +kernel
theorem dX11_range_102 : decode cX11_range 102 = .ok (.iload 6, 2) := by decide +kernel
theorem dX11_range_104 : decode cX11_range 104 = .ok (.aload_n 0, 1) := by decide +kernel
theorem dX11_range_105 : decode cX11_range 105 = .ok (.getfield 220, 3) := by decide +kernel
theorem dX11_range_108 : decode cX11_range 108 = .ok (.if_icmp .ge 71, 3) := by decide +kernel
theorem dX11_range_111 : decode cX11_range 111 = .ok (.lload_n 2, 1) := by decide +kernel
theorem dX11_range_112 : decode cX11_range 112 = .ok (.aload_n 0, 1) := by decide +kernel
theorem dX11_range_113 : decode cX11_range 113 = .ok (.getfield 31, 3) := by decide +kernel
theorem dX11_range_116 : decode cX11_range 116 = .ok (.iload_n 1, 1) := by decide +kernel
theorem dX11_range_117 : decode cX11_range 117 = .ok (.aaload, 1) := by decide +kernel
theorem dX11_range_118 : decode cX11_range 118 = .ok (.aload_n 0, 1) := by decide +kernel
theorem dX11_range_119 : decode cX11_range 119 = .ok (.getfield 68, 3) := by decide +kernel
theorem dX11_range_122 : decode cX11_range 122 = .ok (.iload 6, 2) := by decide +kernel
theorem dX11_range_124 : decode cX11_range 124 = .ok (.iaload, 1) := by decide +kernel
theorem dX11_range_125 : decode cX11_range 125 = .ok (.laload, 1) := by decide +kernel
theorem dX11_range_126 : decode cX11_range 126 = .ok (.aload_n 0, 1) := by decide +kernel
theorem dX11_range_127 : decode cX11_range 127 = .ok (.getfield 71, 3) := by decide +kernel
theorem dX11_range_130 : decode cX11_range 130 = .ok (.aload_n 0, 1) := by decide +kernel
theorem dX11_range_131 : decode cX11_range 131 = .ok (.getfield 68, 3) := by decide +kernel
theorem dX11_range_134 : decode cX11_range 134 = .ok (.iload 6, 2) := by decide +kernel
theorem dX11_range_136 : decode cX11_range 136 = .ok (.iaload, 1) := by decide +kernel
theorem dX11_range_137 : decode cX11_range 137 = .ok (.laload, 1) := by decide +kernel
theorem dX11_range_138 : decode cX11_range 138 = .ok (.lmul, 1) := by decide +kernel
theorem dX11_range_139 : decode cX11_range 139 = .ok (.lsub, 1) := by decide +kernel
theorem dX11_range_140 : decode cX11_range 140 = .ok (.lstore_n 2, 1) := by decide +kernel
theorem dX11_range_141 : decode cX11_range 141 = .ok (.lload 4, 2) := by decide +kernel
theorem dX11_range_143 : decode cX11_range 143 = .ok (.aload_n 0, 1) := by decide +kernel
theorem dX11_range_144 : decode cX11_range 144 = .ok (.getfield 31, 3) := by decide +kernel
theorem dX11_range_147 : decode cX11_range 147 = .ok (.iload_n 1, 1) := by decide +kernel
theorem dX11_range_148 : decode cX11_range 148 = .ok (.aaload, 1) := by decide +kernel
theorem dX11_range_149 : decode cX11_range 149 = .ok (.aload_n 0, 1) := by decide +kernel
theorem dX11_range_150 : decode cX11_range 150 = .ok (.getfield 68, 3) := by decide +kernel
theorem dX11_range_153 : decode cX11_range 153 = .ok (.iload 6, 2) := by decide +kernel
theorem dX11_range_155 : decode cX11_range 155 = .ok (.iaload, 1) := by decide +kernel
theorem dX11_range_156 : decode cX11_range 156 = .ok (.laload, 1) := by decide +kernel
theorem dX11_range_157 : decode cX11_range 157 = .ok (.aload_n 0, 1) := by decide +kernel
theorem dX11_range_158 : decode cX11_range 158 = .ok (.getfield 74, 3) := by decide +kernel
theorem dX11_range_161 : decode cX11_range 161 = .ok (.aload_n 0, 1) := by decide +kernel
theorem dX11_range_162 : decode cX11_range 162 = .ok (.getfield 68, 3) := by decide +kernel
theorem dX11_range_165 : decode cX11_range 165 = .ok (.iload 6, 2) := by decide +kernel
theorem dX11_range_167 : decode cX11_range 167 = .ok (.iaload, 1) := by decide +kernel
theorem dX11_range_168 : decode cX11_range 168 = .ok (.laload, 1) := by decide +kernel
theorem dX11_range_169 : decode cX11_range 169 = .ok (.lmul, 1) := by decide +kernel
theorem dX11_range_170 : decode cX11_range 170 = .ok (.lsub, 1) := by decide +kernel
theorem dX11_range_171 : decode cX11_range 171 = .ok (.lstore 4, 2) := by decide +kernel
theorem dX11_range_173 : decode cX11_range 173 = .ok (.iinc 6 1, 3) := by decide +kernel
theorem dX11_range_176 : decode cX11_range 176 = .ok (.goto (-74), 3) := by decide +kernel
theorem dX11_range_179 : decode cX11_range 179 = .ok (.aload_n 0, 1) := by decide +kernel
theorem dX11_range_180 : decode cX11_range 180 = .ok (.lload_n 2, 1) := by decide +kernel
theorem dX11_range_181 : decode cX11_range 181 = .ok (.lneg, 1) := by decide +kernel
theorem dX11_range_182 : decode cX11_range 182 = .ok (.aload_n 0, 1) := by decide +kernel
theorem dX11_range_183 : decode cX11_range 183 = .ok (.getfield 223, 3) := by decide +kernel
theorem dX11_range_186 : decode cX11_range 186 = .ok (.lload 4, 2) := by decide +kernel
theorem dX11_range_188 : decode cX11_range 188 = .ok (.lsub, 1) := by decide +kernel
theorem dX11_range_189 : decode cX11_range 189 = .ok (.iconst 0, 1) := by decide +kernel
theorem dX11_range_190 : decode cX11_range 190 = .ok (.invokevirtual 268, 3) := by decide +kernel
theorem dX11_range_193 : decode cX11_range 193 = .ok (.aload_n 0, 1) := by decide +kernel
theorem dX11_range_194 : decode cX11_range 194 = .ok (.lload_n 2, 1) := by decide +kernel
theorem dX11_range_195 : decode cX11_range 195 = .ok (.aload_n 0, 1) := by decide +kernel
theorem dX11_range_196 : decode cX11_range 196 = .ok (.getfield 223, 3) := by decide +kernel
theorem dX11_range_199 : decode cX11_range 199 = .ok (.lload 4, 2) := by decide +kernel
theorem dX11_range_201 : decode cX11_range 201 = .ok (.ladd, 1) := by decide +kernel
theorem dX11_range_202 : decode cX11_range 202 = .ok (.iconst 0, 1) := by decide +kernel
theorem dX11_range_203 : decode cX11_range 203 = .ok (.invokevirtual 268, 3) := by decide +kernel
theorem dX11_range_206 : decode cX11_range 206 = .ok (.iinc 1 1, 3) := by decide +kernel
theorem dX11_range_209 : decode cX11_range 209 = .ok (.goto (-182), 3) := by decide +kernel
theorem dX11_range_212 : decode cX11_range 212 = .ok (.aload_n 0, 1) := by decide +kernel
theorem dX11_range_213 : decode cX11_range 213 = .ok (.aload_n 0, 1) := by decide +kernel
theorem dX11_range_214 : decode cX11_range 214 = .ok (.getfield 252, 3) := by decide +kernel
theorem dX11_range_217 : decode cX11_range 217 = .ok (.ifCond .eq 38, 3) := by decide +kernel
theorem dX11_range_220 : decode cX11_range 220 = .ok (.aload_n 0, 1) := by decide +kernel
theorem dX11_range_221 : decode cX11_range 221 = .ok (.getfield 262, 3) := by decide +kernel
theorem dX11_range_224 : decode cX11_range 224 = .ok (.lconst 0, 1) := by decide +kernel
theorem dX11_range_225 : decode cX11_range 225 = .ok (.lcmp, 1) := by decide +kernel
theorem dX11_range_226 : decode cX11_range 226 = .ok (.ifCond .eq 25, 3) := by decide +kernel
theorem dX11_range_229 : decode cX11_range 229 = .ok (.aload_n 0, 1) := by decide +kernel
theorem dX11_range_230 : decode cX11_range 230 = .ok (.getfield 256, 3) := by decide +kernel
theorem dX11_range_233 : decode cX11_range 233 = .ok (.aload_n 0, 1) := by decide +kernel
theorem dX11_range_234 : decode cX11_range 234 = .ok (.getfield 259, 3) := by decide +kernel
theorem dX11_range_237 : decode cX11_range 237 = .ok (.aload_n 0, 1) := by decide +kernel
theorem dX11_range_238 : decode cX11_range 238 = .ok (.getfield 265, 3) := by decide +kernel
theorem dX11_range_241 : decode cX11_range 241 = .ok (.aload_n 0, 1) := by decide +kernel
theorem dX11_range_242 : decode cX11_range 242 = .ok (.getfield 262, 3) := by decide +kernel
theorem dX11_range_245 : decode cX11_range 245 = .ok (.invokestatic 182, 3) := by decide +kernel
theorem dX11_range_248 : decode cX11_range 248 = .ok (.ifCond .ge 7, 3) := by decide +kernel
theorem dX11_range_251 : decode cX11_range 251 = .ok (.iconst 1, 1) := by decide +kernel
theorem dX11_range_252 : decode cX11_range 252 = .ok (.goto 4, 3) := by decide +kernel
theorem dX11_range_255 : decode cX11_range 255 = .ok (.iconst 0, 1) := by decide +kernel
theorem dX11_range_256 : decode cX11_range 256 = .ok (.putfield 252, 3) := by decide +kernel
theorem dX11_range_259 : decode cX11_range 259 = .ok (.return_, 1) := by decide +kernel
theorem dX11_corner_0 : decode cX11_corner 0 = .ok (.lload_n 1, 1) := by decide +kernel
theorem dX11_corner_1 : decode cX11_corner 1 = .ok (.lconst 0, 1) := by decide +kernel
theorem dX11_corner_2 : decode cX11_corner 2 = .ok (.lcmp, 1) := by decide +kernel
theorem dX11_corner_3 : decode cX11_corner 3 = .ok (.ifCond .eq 9, 3) := by decide +kernel
theorem dX11_corner_6 : decode cX11_corner 6 = .ok (.lload_n 3, 1) := by decide +kernel
theorem dX11_corner_7 : decode cX11_corner 7 = .ok (.lconst 0, 1) := by decide +kernel
theorem dX11_corner_8 : decode cX11_corner 8 = .ok (.lcmp, 1) := by decide +kernel
theorem dX11_corner_9 : decode cX11_corner 9 = .ok (.ifCond .ne 4, 3) := by decide +kernel
theorem dX11_corner_12 : decode cX11_corner 12 = .ok (.return_, 1) := by decide +kernel
theorem dX11_corner_13 : decode cX11_corner 13 = .ok (.iconst 0, 1) := by decide +kernel
theorem dX11_corner_14 : decode cX11_corner 14 = .ok (.istore 5, 2) := by decide +kernel
theorem dX11_corner_16 : decode cX11_corner 16 = .ok (.iload 5, 2) := by decide +kernel
theorem dX11_corner_18 : decode cX11_corner 18 = .ok (.aload_n 0, 1) := by decide +kernel
theorem dX11_corner_19 : decode cX11_corner 19 = .ok (.getfield 272, 3) := by decide +kernel
theorem dX11_corner_22 : decode cX11_corner 22 = .ok (.if_icmp .ge 31, 3) := by decide +kernel
theorem dX11_corner_25 : decode cX11_corner 25 = .ok (.aload_n 0, 1) := by decide +kernel
theorem dX11_corner_26 : decode cX11_corner 26 = .ok (.getfield 77, 3) := by decide +kernel
theorem dX11_corner_29 : decode cX11_corner 29 = .ok (.iload 5, 2) := by decide +kernel
theorem dX11_corner_31 : decode cX11_corner 31 = .ok (.laload, 1) := by decide +kernel
theorem dX11_corner_32 : decode cX11_corner 32 = .ok (.aload_n 0, 1) := by decide +kernel
theorem dX11_corner_33 : decode cX11_corner 33 = .ok (.getfield 80, 3) := by decide +kernel
theorem dX11_corner_36 : decode cX11_corner 36 = .ok (.iload 5, 2) := by decide +kernel
theorem dX11_corner_38 : decode cX11_corner 38 = .ok (.laload, 1) := by decide +kernel
theorem dX11_corner_39 : decode cX11_corner 39 = .ok (.lload_n 1, 1) := by decide +kernel
theorem dX11_corner_40 : decode cX11_corner 40 = .ok (.lload_n 3, 1) := by decide +kernel
theorem dX11_corner_41 : decode cX11_corner 41 = .ok (.invokestatic 182, 3) := by decide +kernel
theorem dX11_corner_44 : decode cX11_corner 44 = .ok (.ifCond .le 9, 3) := by decide +kernel
theorem dX11_corner_47 : decode cX11_corner 47 = .ok (.iinc 5 1, 3) := by decide +kernel
theorem dX11_corner_50 : decode cX11_corner 50 = .ok (.goto (-34), 3) := by decide +kernel
theorem dX11_corner_53 : decode cX11_corner 53 = .ok (.iload 5, 2) := by decide +kernel
theorem dX11_corner_55 : decode cX11_corner 55 = .ok (.aload_n 0, 1) := by decide +kernel
theorem dX11_corner_56 : decode cX11_corner 56 = .ok (.getfield 272, 3) := by decide +kernel
theorem dX11_corner_59 : decode cX11_corner 59 = .ok (.if_icmp .ge 26, 3) := by decide +kernel
theorem dX11_corner_62 : decode cX11_corner 62 = .ok (.aload_n 0, 1) := by decide +kernel
theorem dX11_corner_63 : decode cX11_corner 63 = .ok (.getfield 77, 3) := by decide +kernel
theorem dX11_corner_66 : decode cX11_corner 66 = .ok (.iload 5, 2) := by decide +kernel
theorem dX11_corner_68 : decode cX11_corner 68 = .ok (.laload, 1) := by decide +kernel
theorem dX11_corner_69 : decode cX11_corner 69 = .ok (.aload_n 0, 1) := by decide +kernel
theorem dX11_corner_70 : decode cX11_corner 70 = .ok (.getfield 80, 3) := by decide +kernel
theorem dX11_corner_73 : decode cX11_corner 73 = .ok (.iload 5, 2) := by decide +kernel
theorem dX11_corner_75 : decode cX11_corner 75 = .ok (.laload, 1) := by decide +kernel
theorem dX11_corner_76 : decode cX11_corner 76 = .ok (.lload_n 1, 1) := by decide +kernel
theorem dX11_corner_77 : decode cX11_corner 77 = .ok (.lload_n 3, 1) := by decide +kernel
theorem dX11_corner_78 : decode cX11_corner 78 = .ok (.invokestatic 182, 3) := by decide +kernel
theorem dX11_corner_81 : decode cX11_corner 81 = .ok (.ifCond .ne 4, 3) := by decide +kernel
theorem dX11_corner_84 : decode cX11_corner 84 = .ok (.return_, 1) := by decide +kernel
theorem dX11_corner_85 : decode cX11_corner 85 = .ok (.aload_n 0, 1) := by decide +kernel
theorem dX11_corner_86 : decode cX11_corner 86 = .ok (.getfield 272, 3) := by decide +kernel
theorem dX11_corner_89 : decode cX11_corner 89 = .ok (.istore 6, 2) := by decide +kernel
theorem dX11_corner_91 : decode cX11_corner 91 = .ok (.iload 6, 2) := by decide +kernel
theorem dX11_corner_93 : decode cX11_corner 93 = .ok (.iload 5, 2) := by decide +kernel
theorem dX11_corner_95 : decode cX11_corner 95 = .ok (.if_icmp .le 41, 3) := by decide +kernel
theorem dX11_corner_98 : decode cX11_corner 98 = .ok (.aload_n 0, 1) := by decide +kernel
theorem dX11_corner_99 : decode cX11_corner 99 = .ok (.getfield 77, 3) := by decide +kernel
theorem dX11_corner_102 : decode cX11_corner 102 = .ok (.iload 6, 2) := by decide +kernel
theorem dX11_corner_104 : decode cX11_corner 104 = .ok (.aload_n 0, 1) := by decide +kernel
theorem dX11_corner_105 : decode cX11_corner 105 = .ok (.getfield 77, 3) := by decide +kernel
theorem dX11_corner_108 : decode cX11_corner 108 = .ok (.iload 6, 2) := by decide +kernel
theorem dX11_corner_110 : decode cX11_corner 110 = .ok (.iconst 1, 1) := by decide +kernel
theorem dX11_corner_111 : decode cX11_corner 111 = .ok (.isub, 1) := by decide +kernel
theorem dX11_corner_112 : decode cX11_corner 112 = .ok (.laload, 1) := by decide +kernel
theorem dX11_corner_113 : decode cX11_corner 113 = .ok (.lastore, 1) := by decide +kernel
theorem dX11_corner_114 : decode cX11_corner 114 = .ok (.aload_n 0, 1) := by decide +kernel
theorem dX11_corner_115 : decode cX11_corner 115 = .ok (.getfield 80, 3) := by decide +kernel
theorem dX11_corner_118 : decode cX11_corner 118 = .ok (.iload 6, 2) := by decide +kernel
theorem dX11_corner_120 : decode cX11_corner 120 = .ok (.aload_n 0, 1) := by decide +kernel
theorem dX11_corner_121 : decode cX11_corner 121 = .ok (.getfield 80, 3) := by decide +kernel
theorem dX11_corner_124 : decode cX11_corner 124 = .ok (.iload 6, 2) := by decide +kernel
theorem dX11_corner_126 : decode cX11_corner 126 = .ok (.iconst 1, 1) := by decide +kernel
theorem dX11_corner_127 : decode cX11_corner 127 = .ok (.isub, 1) := by decide +kernel
theorem dX11_corner_128 : decode cX11_corner 128 = .ok (.laload, 1) := by decide +kernel
theorem dX11_corner_129 : decode cX11_corner 129 = .ok (.lastore, 1) := by decide +kernel
theorem dX11_corner_130 : decode cX11_corner 130 = .ok (.iinc 6 (-1), 3) := by decide +kernel
theorem dX11_corner_133 : decode cX11_corner 133 = .ok (.goto (-42), 3) := by decide +kernel
theorem dX11_corner_136 : decode cX11_corner 136 = .ok (.aload_n 0, 1) := by decide +kernel
theorem dX11_corner_137 : decode cX11_corner 137 = .ok (.getfield 77, 3) := by decide +kernel
theorem dX11_corner_140 : decode cX11_corner 140 = .ok (.iload 5, 2) := by decide +kernel
theorem dX11_corner_142 : decode cX11_corner 142 = .ok (.lload_n 1, 1) := by decide +kernel
theorem dX11_corner_143 : decode cX11_corner 143 = .ok (.lastore, 1) := by decide +kernel
theorem dX11_corner_144 : decode cX11_corner 144 = .ok (.aload_n 0, 1) := by decide +kernel
theorem dX11_corner_145 : decode cX11_corner 145 = .ok (.getfield 80, 3) := by decide +kernel
theorem dX11_corner_148 : decode cX11_corner 148 = .ok (.iload 5, 2) := by decide +kernel
theorem dX11_corner_150 : decode cX11_corner 150 = .ok (.lload_n 3, 1) := by decide +kernel
theorem dX11_corner_151 : decode cX11_corner 151 = .ok (.lastore, 1) := by decide +kernel
theorem dX11_corner_152 : decode cX11_corner 152 = .ok (.aload_n 0, 1) := by decide +kernel
theorem dX11_corner_153 : decode cX11_corner 153 = .ok (.dup, 1) := by decide +kernel
theorem dX11_corner_154 : decode cX11_corner 154 = .ok (.getfield 272, 3) := by decide +kernel
theorem dX11_corner_157 : decode cX11_corner 157 = .ok (.iconst 1, 1) := by decide +kernel
theorem dX11_corner_158 : decode cX11_corner 158 = .ok (.iadd, 1) := by decide +kernel
theorem dX11_corner_159 : decode cX11_corner 159 = .ok (.putfield 272, 3) := by decide +kernel
theorem dX11_corner_162 : decode cX11_corner 162 = .ok (.return_, 1) := by decide +kernel
theorem dX11_findCorners_0 : decode cX11_findCorners 0 = .ok (.aload_n 0, 1) := by decide +kernel
theorem dX11_findCorners_1 : decode cX11_findCorners 1 = .ok (.iconst 0, 1) := by decide +kernel
theorem dX11_findCorners_2 : decode cX11_findCorners 2 = .ok (.putfield 272, 3) := by decide +kernel
theorem dX11_findCorners_5 : decode cX11_findCorners 5 = .ok (.iconst 0, 1) := by decide +kernel
theorem dX11_findCorners_6 : decode cX11_findCorners 6 = .ok (.istore_n 1, 1) := by decide +kernel
theorem dX11_findCorners_7 : decode cX11_findCorners 7 = .ok (.iload_n 1, 1) := by decide +kernel
theorem dX11_findCorners_8 : decode cX11_findCorners 8 = .ok (.aload_n 0, 1) := by decide +kernel
theorem dX11_findCorners_9 : decode cX11_findCorners 9 = .ok (.getfield 7, 3) := by decide +kernel
theorem dX11_findCorners_12 : decode cX11_findCorners 12 = .ok (.invokestatic 234, 3) := by decide +kernel
theorem dX11_findCorners_15 : decode cX11_findCorners 15 = .ok (.if_icmp .ge 49, 3) := by decide +kernel
theorem dX11_findCorners_18 : decode cX11_findCorners 18 = .ok (.aload_n 0, 1) := by decide +kernel
theorem dX11_findCorners_19 : decode cX11_findCorners 19 = .ok (.iload_n 1, 1) := by decide +kernel
theorem dX11_findCorners_20 : decode cX11_findCorners 20 = .ok (.invokevirtual 237, 3) := by decide +kernel
theorem dX11_findCorners_23 : decode cX11_findCorners 23 = .ok (.aload_n 0, 1) := by decide +kernel
theorem dX11_findCorners_24 : decode cX11_findCorners 24 = .ok (.invokevirtual 275, 3) := by decide +kernel
theorem dX11_findCorners_27 : decode cX11_findCorners 27 = .ok (.aload_n 0, 1) := by decide +kernel
theorem dX11_findCorners_28 : decode cX11_findCorners 28 = .ok (.getfield 252, 3) := by decide +kernel
theorem dX11_findCorners_31 : decode cX11_findCorners 31 = .ok (.ifCond .eq 27, 3) := by decide +kernel
theorem dX11_findCorners_34 : decode cX11_findCorners 34 = .ok (.aload_n 0, 1) := by decide +kernel
theorem dX11_findCorners_35 : decode cX11_findCorners 35 = .ok (.aload_n 0, 1) := by decide +kernel
theorem dX11_findCorners_36 : decode cX11_findCorners 36 = .ok (.getfield 256, 3) := by decide +kernel
theorem dX11_findCorners_39 : decode cX11_findCorners 39 = .ok (.aload_n 0, 1) := by decide +kernel
theorem dX11_findCorners_40 : decode cX11_findCorners 40 = .ok (.getfield 259, 3) := by decide +kernel
theorem dX11_findCorners_43 : decode cX11_findCorners 43 = .ok (.invokevirtual 278, 3) := by decide +kernel
theorem dX11_findCorners_46 : decode cX11_findCorners 46 = .ok (.aload_n 0, 1) := by decide +kernel
theorem dX11_findCorners_47 : decode cX11_findCorners 47 = .ok (.aload_n 0, 1) := by decide +kernel
theorem dX11_findCorners_48 : decode cX11_findCorners 48 = .ok (.getfield 265, 3) := by decide +kernel
theorem dX11_findCorners_51 : decode cX11_findCorners 51 = .ok (.aload_n 0, 1) := by decide +kernel
theorem dX11_findCorners_52 : decode cX11_findCorners 52 = .ok (.getfield 262, 3) := by decide +kernel
theorem dX11_findCorners_55 : decode cX11_findCorners 55 = .ok (.invokevirtual 278, 3) := by decide +kernel
theorem dX11_findCorners_58 : decode cX11_findCorners 58 = .ok (.iinc 1 1, 3) := by decide +kernel
theorem dX11_findCorners_61 : decode cX11_findCorners 61 = .ok (.goto (-54), 3) := by decide +kernel
theorem dX11_findCorners_64 : decode cX11_findCorners 64 = .ok (.return_, 1) := by decide +kernel
theorem dX11_corners_0 : decode cX11_corners 0 = .ok (.aload_n 0, 1) := by decide +kernel
theorem dX11_corners_1 : decode cX11_corners 1 = .ok (.invokevirtual 214, 3) := by decide +kernel
theorem dX11_corners_4 : decode cX11_corners 4 = .ok (.ifCond .ne 5, 3) := by decide +kernel
theorem dX11_corners_7 : decode cX11_corners 7 = .ok (.iconst (-1), 1) := by decide +kernel
theorem dX11_corners_8 : decode cX11_corners 8 = .ok (.ireturn, 1) := by decide +kernel
theorem dX11_corners_9 : decode cX11_corners 9 = .ok (.aload_n 0, 1) := by decide +kernel
theorem dX11_corners_10 : decode cX11_corners 10 = .ok (.invokevirtual 282, 3) := by decide +kernel
theorem dX11_corners_13 : decode cX11_corners 13 = .ok (.aload_n 0, 1) := by decide +kernel
theorem dX11_corners_14 : decode cX11_corners 14 = .ok (.getfield 272, 3) := by decide +kernel
theorem dX11_corners_17 : decode cX11_corners 17 = .ok (.ireturn, 1) := by decide +kernel
theorem dX11_corner__0 : decode cX11_corner_ 0 = .ok (.aload_n 0, 1) := by decide +kernel
theorem dX11_corner__1 : decode cX11_corner_ 1 = .ok (.invokevirtual 214, 3) := by decide +kernel
theorem dX11_corner__4 : decode cX11_corner_ 4 = .ok (.ifCond .ne 7, 3) := by decide +kernel
theorem dX11_corner__7 : decode cX11_corner_ 7 = .ok (.ldc2_w 83, 3) := by decide +kernel
theorem dX11_corner__10 : decode cX11_corner_ 10 = .ok (.lreturn, 1) := by decide +kernel
theorem dX11_corner__11 : decode cX11_corner_ 11 = .ok (.aload_n 0, 1) := by decide +kernel
theorem dX11_corner__12 : decode cX11_corner_ 12 = .ok (.invokevirtual 282, 3) := by decide +kernel
theorem dX11_corner__15 : decode cX11_corner_ 15 = .ok (.iload_n 1, 1) := by decide +kernel
theorem dX11_corner__16 : decode cX11_corner_ 16 = .ok (.ifCond .lt 11, 3) := by decide +kernel
theorem dX11_corner__19 : decode cX11_corner_ 19 = .ok (.iload_n 1, 1) := by decide +kernel
theorem dX11_corner__20 : decode cX11_corner_ 20 = .ok (.aload_n 0, 1) := by decide +kernel
theorem dX11_corner__21 : decode cX11_corner_ 21 = .ok (.getfield 272, 3) := by decide +kernel
theorem dX11_corner__24 : decode cX11_corner_ 24 = .ok (.if_icmp .lt 9, 3) := by decide +kernel
theorem dX11_corner__27 : decode cX11_corner_ 27 = .ok (.ldc2_w 83, 3) := by decide +kernel
theorem dX11_corner__30 : decode cX11_corner_ 30 = .ok (.goto 19, 3) := by decide +kernel
theorem dX11_corner__33 : decode cX11_corner_ 33 = .ok (.aload_n 0, 1) := by decide +kernel
theorem dX11_corner__34 : decode cX11_corner_ 34 = .ok (.getfield 77, 3) := by decide +kernel
theorem dX11_corner__37 : decode cX11_corner_ 37 = .ok (.iload_n 1, 1) := by decide +kernel
theorem dX11_corner__38 : decode cX11_corner_ 38 = .ok (.laload, 1) := by decide +kernel
theorem dX11_corner__39 : decode cX11_corner_ 39 = .ok (.aload_n 0, 1) := by decide +kernel
theorem dX11_corner__40 : decode cX11_corner_ 40 = .ok (.getfield 80, 3) := by decide +kernel
theorem dX11_corner__43 : decode cX11_corner_ 43 = .ok (.iload_n 1, 1) := by decide +kernel
theorem dX11_corner__44 : decode cX11_corner_ 44 = .ok (.laload, 1) := by decide +kernel
theorem dX11_corner__45 : decode cX11_corner_ 45 = .ok (.iload_n 2, 1) := by decide +kernel
theorem dX11_corner__46 : decode cX11_corner_ 46 = .ok (.invokestatic 163, 3) := by decide +kernel
theorem dX11_corner__49 : decode cX11_corner_ 49 = .ok (.lreturn, 1) := by decide +kernel
theorem dX11_count_0 : decode cX11_count 0 = .ok (.iload_n 1, 1) := by decide +kernel
theorem dX11_count_1 : decode cX11_count 1 = .ok (.ifCond .ne 10, 3) := by decide +kernel
theorem dX11_count_4 : decode cX11_count 4 = .ok (.aload_n 0, 1) := by decide +kernel
theorem dX11_count_5 : decode cX11_count 5 = .ok (.getfield 7, 3) := by decide +kernel
theorem dX11_count_8 : decode cX11_count 8 = .ok (.goto 28, 3) := by decide +kernel
theorem dX11_count_11 : decode cX11_count 11 = .ok (.iload_n 1, 1) := by decide +kernel
theorem dX11_count_12 : decode cX11_count 12 = .ok (.iconst 1, 1) := by decide +kernel
theorem dX11_count_13 : decode cX11_count 13 = .ok (.if_icmp .ne 10, 3) := by decide +kernel
theorem dX11_count_16 : decode cX11_count 16 = .ok (.aload_n 0, 1) := by decide +kernel
theorem dX11_count_17 : decode cX11_count 17 = .ok (.getfield 94, 3) := by decide +kernel
theorem dX11_count_20 : decode cX11_count 20 = .ok (.goto 16, 3) := by decide +kernel
theorem dX11_count_23 : decode cX11_count 23 = .ok (.iload_n 1, 1) := by decide +kernel
theorem dX11_count_24 : decode cX11_count 24 = .ok (.iconst 2, 1) := by decide +kernel
theorem dX11_count_25 : decode cX11_count 25 = .ok (.if_icmp .ne 10, 3) := by decide +kernel
theorem dX11_count_28 : decode cX11_count 28 = .ok (.aload_n 0, 1) := by decide +kernel
theorem dX11_count_29 : decode cX11_count 29 = .ok (.invokevirtual 189, 3) := by decide +kernel
theorem dX11_count_32 : decode cX11_count 32 = .ok (.goto 4, 3) := by decide +kernel
theorem dX11_count_35 : decode cX11_count 35 = .ok (.iconst (-1), 1) := by decide +kernel
theorem dX11_count_36 : decode cX11_count 36 = .ok (.ireturn, 1) := by decide +kernel
theorem dJ6_bitCount_0f7a4_0 : decode cJ6_bitCount_0f7a4 0 = .ok (.iload_n 0, 1) := by decide +kernel
theorem dJ6_bitCount_0f7a4_1 : decode cJ6_bitCount_0f7a4 1 = .ok (.iload_n 0, 1) := by decide +kernel
theorem dJ6_bitCount_0f7a4_2 : decode cJ6_bitCount_0f7a4 2 = .ok (.iconst 1, 1) := by decide +kernel
theorem dJ6_bitCount_0f7a4_3 : decode cJ6_bitCount_0f7a4 3 = .ok (.iushr, 1) := by decide +kernel
theorem dJ6_bitCount_0f7a4_4 : decode cJ6_bitCount_0f7a4 4 = .ok (.ldc_w 265, 3) := by decide +kernel
theorem dJ6_bitCount_0f7a4_7 : decode cJ6_bitCount_0f7a4 7 = .ok (.iand, 1) := by decide +kernel
theorem dJ6_bitCount_0f7a4_8 : decode cJ6_bitCount_0f7a4 8 = .ok (.isub, 1) := by decide +kernel
theorem dJ6_bitCount_0f7a4_9 : decode cJ6_bitCount_0f7a4 9 = .ok (.istore_n 0, 1) := by decide +kernel
theorem dJ6_bitCount_0f7a4_10 : decode cJ6_bitCount_0f7a4 10 = .ok (.iload_n 0, 1) := by decide +kernel
theorem dJ6_bitCount_0f7a4_11 : decode cJ6_bitCount_0f7a4 11 = .ok (.ldc_w 266, 3) := by decide +kernel
theorem dJ6_bitCount_0f7a4_14 : decode cJ6_bitCount_0f7a4 14 = .ok (.iand, 1) := by decide +kernel
theorem dJ6_bitCount_0f7a4_15 : decode cJ6_bitCount_0f7a4 15 = .ok (.iload_n 0, 1) := by decide +kernel
theorem dJ6_bitCount_0f7a4_16 : decode cJ6_bitCount_0f7a4 16 = .ok (.iconst 2, 1) := by decide +kernel
theorem dJ6_bitCount_0f7a4_17 : decode cJ6_bitCount_0f7a4 17 = .ok (.iushr, 1) := by decide +kernel
theorem dJ6_bitCount_0f7a4_18 : decode cJ6_bitCount_0f7a4 18 = .ok (.ldc_w 266, 3) := by decide +kernel
theorem dJ6_bitCount_0f7a4_21 : decode cJ6_bitCount_0f7a4 21 = .ok (.iand, 1) := by decide +kernel
theorem dJ6_bitCount_0f7a4_22 : decode cJ6_bitCount_0f7a4 22 = .ok (.iadd, 1) := by decide +kernel
theorem dJ6_bitCount_0f7a4_23 : decode cJ6_bitCount_0f7a4 23 = .ok (.istore_n 0, 1) := by decide +kernel
theorem dJ6_bitCount_0f7a4_24 : decode cJ6_bitCount_0f7a4 24 = .ok (.iload_n 0, 1) := by decide +kernel
theorem dJ6_bitCount_0f7a4_25 : decode cJ6_bitCount_0f7a4 25 = .ok (.iload_n 0, 1) := by decide +kernel
theorem dJ6_bitCount_0f7a4_26 : decode cJ6_bitCount_0f7a4 26 = .ok (.iconst 4, 1) := by decide +kernel
theorem dJ6_bitCount_0f7a4_27 : decode cJ6_bitCount_0f7a4 27 = .ok (.iushr, 1) := by decide +kernel
theorem dJ6_bitCount_0f7a4_28 : decode cJ6_bitCount_0f7a4 28 = .ok (.iadd, 1) := by decide +kernel
theorem dJ6_bitCount_0f7a4_29 : decode cJ6_bitCount_0f7a4 29 = .ok (.ldc_w 267, 3) := by decide +kernel
theorem dJ6_bitCount_0f7a4_32 : decode cJ6_bitCount_0f7a4 32 = .ok (.iand, 1) := by decide +kernel
theorem dJ6_bitCount_0f7a4_33 : decode cJ6_bitCount_0f7a4 33 = .ok (.istore_n 0, 1) := by decide +kernel
theorem dJ6_bitCount_0f7a4_34 : decode cJ6_bitCount_0f7a4 34 = .ok (.iload_n 0, 1) := by decide +kernel
theorem dJ6_bitCount_0f7a4_35 : decode cJ6_bitCount_0f7a4 35 = .ok (.iload_n 0, 1) := by decide +kernel
theorem dJ6_bitCount_0f7a4_36 : decode cJ6_bitCount_0f7a4 36 = .ok (.bipush 8, 2) := by decide +kernel
theorem dJ6_bitCount_0f7a4_38 : decode cJ6_bitCount_0f7a4 38 = .ok (.iushr, 1) := by decide +kernel
theorem dJ6_bitCount_0f7a4_39 : decode cJ6_bitCount_0f7a4 39 = .ok (.iadd, 1) := by decide +kernel
theorem dJ6_bitCount_0f7a4_40 : decode cJ6_bitCount_0f7a4 40 = .ok (.istore_n 0, 1) := by decide +kernel
theorem dJ6_bitCount_0f7a4_41 : decode cJ6_bitCount_0f7a4 41 = .ok (.iload_n 0, 1) := by decide +kernel
theorem dJ6_bitCount_0f7a4_42 : decode cJ6_bitCount_0f7a4 42 = .ok (.iload_n 0, 1) := by decide +kernel
theorem dJ6_bitCount_0f7a4_43 : decode cJ6_bitCount_0f7a4 43 = .ok (.bipush 16, 2) := by decide +kernel
theorem dJ6_bitCount_0f7a4_45 : decode cJ6_bitCount_0f7a4 45 = .ok (.iushr, 1) := by decide +kernel
theorem dJ6_bitCount_0f7a4_46 : decode cJ6_bitCount_0f7a4 46 = .ok (.iadd, 1) := by decide +kernel
theorem dJ6_bitCount_0f7a4_47 : decode cJ6_bitCount_0f7a4 47 = .ok (.istore_n 0, 1) := by decide +kernel
theorem dJ6_bitCount_0f7a4_48 : decode cJ6_bitCount_0f7a4 48 = .ok (.iload_n 0, 1) := by decide +kernel
theorem dJ6_bitCount_0f7a4_49 : decode cJ6_bitCount_0f7a4 49 = .ok (.bipush 63, 2) := by decide +kernel
theorem dJ6_bitCount_0f7a4_51 : decode cJ6_bitCount_0f7a4 51 = .ok (.iand, 1) := by decide +kernel
theorem dJ6_bitCount_0f7a4_52 : decode cJ6_bitCount_0f7a4 52 = .ok (.ireturn, 1) := by decide +kernel
theorem dJ13_signum_95d88_0 : decode cJ13_signum_95d88 0 = .ok (.lload_n 0, 1) := by decide +kernel
theorem dJ13_signum_95d88_1 : decode cJ13_signum_95d88 1 = .ok (.bipush 63, 2) := by decide +kernel
theorem dJ13_signum_95d88_3 : decode cJ13_signum_95d88 3 = .ok (.lshr, 1) := by decide +kernel
theorem dJ13_signum_95d88_4 : decode cJ13_signum_95d88 4 = .ok (.lload_n 0, 1) := by decide +kernel
theorem dJ13_signum_95d88_5 : decode cJ13_signum_95d88 5 = .ok (.lneg, 1) := by decide +kernel
theorem dJ13_signum_95d88_6 : decode cJ13_signum_95d88 6 = .ok (.bipush 63, 2) := by decide +kernel
theorem dJ13_signum_95d88_8 : decode cJ13_signum_95d88 8 = .ok (.lushr, 1) := by decide +kernel
theorem dJ13_signum_95d88_9 : decode cJ13_signum_95d88 9 = .ok (.lor, 1) := by decide +kernel
theorem dJ13_signum_95d88_10 : decode cJ13_signum_95d88 10 = .ok (.l2i, 1) := by decide +kernel
theorem dJ13_signum_95d88_11 : decode cJ13_signum_95d88 11 = .ok (.ireturn, 1) := by decide +kernel
theorem dJ9_floorDiv_f86c9_0 : decode cJ9_floorDiv_f86c9 0 = .ok (.lload_n 0, 1) := by decide +kernel
theorem dJ9_floorDiv_f86c9_1 : decode cJ9_floorDiv_f86c9 1 = .ok (.lload_n 2, 1) := by decide +kernel
theorem dJ9_floorDiv_f86c9_2 : decode cJ9_floorDiv_f86c9 2 = .ok (.ldiv, 1) := by decide +kernel
theorem dJ9_floorDiv_f86c9_3 : decode cJ9_floorDiv_f86c9 3 = .ok (.lstore 4, 2) := by decide +kernel
theorem dJ9_floorDiv_f86c9_5 : decode cJ9_floorDiv_f86c9 5 = .ok (.lload_n 0, 1) := by decide +kernel
theorem dJ9_floorDiv_f86c9_6 : decode cJ9_floorDiv_f86c9 6 = .ok (.lload_n 2, 1) := by decide +kernel
theorem dJ9_floorDiv_f86c9_7 : decode cJ9_floorDiv_f86c9 7 = .ok (.lxor, 1) := by decide +kernel
theorem dJ9_floorDiv_f86c9_8 : decode cJ9_floorDiv_f86c9 8 = .ok (.lconst 0, 1) := by decide +kernel
theorem dJ9_floorDiv_f86c9_9 : decode cJ9_floorDiv_f86c9 9 = .ok (.lcmp, 1) := by decide +kernel
theorem dJ9_floorDiv_f86c9_10 : decode cJ9_floorDiv_f86c9 10 = .ok (.ifCond .ge 17, 3) := by decide +kernel
theorem dJ9_floorDiv_f86c9_13 : decode cJ9_floorDiv_f86c9 13 = .ok (.lload 4, 2) := by decide +kernel
theorem dJ9_floorDiv_f86c9_15 : decode cJ9_floorDiv_f86c9 15 = .ok (.lload_n 2, 1) := by decide +kernel
theorem dJ9_floorDiv_f86c9_16 : decode cJ9_floorDiv_f86c9 16 = .ok (.lmul, 1) := by decide +kernel
theorem dJ9_floorDiv_f86c9_17 : decode cJ9_floorDiv_f86c9 17 = .ok (.lload_n 0, 1) := by decide +kernel
theorem dJ9_floorDiv_f86c9_18 : decode cJ9_floorDiv_f86c9 18 = .ok (.lcmp, 1) := by decide +kernel
theorem dJ9_floorDiv_f86c9_19 : decode cJ9_floorDiv_f86c9 19 = .ok (.ifCond .eq 8, 3) := by decide +kernel
theorem dJ9_floorDiv_f86c9_22 : decode cJ9_floorDiv_f86c9 22 = .ok (.lload 4, 2) := by decide +kernel
theorem dJ9_floorDiv_f86c9_24 : decode cJ9_floorDiv_f86c9 24 = .ok (.lconst 1, 1) := by decide +kernel
theorem dJ9_floorDiv_f86c9_25 : decode cJ9_floorDiv_f86c9 25 = .ok (.lsub, 1) := by decide +kernel
theorem dJ9_floorDiv_f86c9_26 : decode cJ9_floorDiv_f86c9 26 = .ok (.lreturn, 1) := by decide +kernel
theorem dJ9_floorDiv_f86c9_27 : decode cJ9_floorDiv_f86c9 27 = .ok (.lload 4, 2) := by decide +kernel
theorem dJ9_floorDiv_f86c9_29 : decode cJ9_floorDiv_f86c9 29 = .ok (.lreturn, 1) := by decide +kernel
theorem dJ9_abs_0f7a4_0 : decode cJ9_abs_0f7a4 0 = .ok (.iload_n 0, 1) := by decide +kernel
theorem dJ9_abs_0f7a4_1 : decode cJ9_abs_0f7a4 1 = .ok (.ifCond .ge 8, 3) := by decide +kernel
theorem dJ9_abs_0f7a4_4 : decode cJ9_abs_0f7a4 4 = .ok (.iload_n 0, 1) := by decide +kernel
theorem dJ9_abs_0f7a4_5 : decode cJ9_abs_0f7a4 5 = .ok (.ineg, 1) := by decide +kernel
theorem dJ9_abs_0f7a4_6 : decode cJ9_abs_0f7a4 6 = .ok (.goto 4, 3) := by decide +kernel
theorem dJ9_abs_0f7a4_9 : decode cJ9_abs_0f7a4 9 = .ok (.iload_n 0, 1) := by decide +kernel
theorem dJ9_abs_0f7a4_10 : decode cJ9_abs_0f7a4 10 = .ok (.ireturn, 1) := by decide +kernel
theorem dJ9_abs_067f4_0 : decode cJ9_abs_067f4 0 = .ok (.lload_n 0, 1) := by decide +kernel
theorem dJ9_abs_067f4_1 : decode cJ9_abs_067f4 1 = .ok (.lconst 0, 1) := by decide +kernel
theorem dJ9_abs_067f4_2 : decode cJ9_abs_067f4 2 = .ok (.lcmp, 1) := by decide +kernel
theorem dJ9_abs_067f4_3 : decode cJ9_abs_067f4 3 = .ok (.ifCond .ge 8, 3) := by decide +kernel
theorem dJ9_abs_067f4_6 : decode cJ9_abs_067f4 6 = .ok (.lload_n 0, 1) := by decide +kernel
theorem dJ9_abs_067f4_7 : decode cJ9_abs_067f4 7 = .ok (.lneg, 1) := by decide +kernel
theorem dJ9_abs_067f4_8 : decode cJ9_abs_067f4 8 = .ok (.goto 4, 3) := by decide +kernel
theorem dJ9_abs_067f4_11 : decode cJ9_abs_067f4 11 = .ok (.lload_n 0, 1) := by decide +kernel
theorem dJ9_abs_067f4_12 : decode cJ9_abs_067f4 12 = .ok (.lreturn, 1) := by decide +kernel
theorem dL_law_0 : decode cL_law 0 = .ok (.new 7, 3) := by decide +kernel
theorem dL_law_3 : decode cL_law 3 = .ok (.dup, 1) := by decide +kernel
theorem dL_law_4 : decode cL_law 4 = .ok (.invokespecial 9, 3) := by decide +kernel
theorem dL_law_7 : decode cL_law 7 = .ok (.astore_n 1, 1) := by decide +kernel
theorem dL_law_8 : decode cL_law 8 = .ok (.new 10, 3) := by decide +kernel
theorem dL_law_11 : decode cL_law 11 = .ok (.dup, 1) := by decide +kernel
theorem dL_law_12 : decode cL_law 12 = .ok (.invokespecial 12, 3) := by decide +kernel
theorem dL_law_15 : decode cL_law 15 = .ok (.astore_n 2, 1) := by decide +kernel
theorem dL_law_16 : decode cL_law 16 = .ok (.iconst 0, 1) := by decide +kernel
theorem dL_law_17 : decode cL_law 17 = .ok (.istore_n 3, 1) := by decide +kernel
theorem dL_law_18 : decode cL_law 18 = .ok (.iload_n 3, 1) := by decide +kernel
theorem dL_law_19 : decode cL_law 19 = .ok (.aload_n 0, 1) := by decide +kernel
theorem dL_law_20 : decode cL_law 20 = .ok (.arraylength, 1) := by decide +kernel
theorem dL_law_21 : decode cL_law 21 = .ok (.iconst 5, 1) := by decide +kernel
theorem dL_law_22 : decode cL_law 22 = .ok (.isub, 1) := by decide +kernel
theorem dL_law_23 : decode cL_law 23 = .ok (.if_icmp .gt 825, 3) := by decide +kernel
theorem dL_law_26 : decode cL_law 26 = .ok (.aload_n 0, 1) := by decide +kernel
theorem dL_law_27 : decode cL_law 27 = .ok (.iload_n 3, 1) := by decide +kernel
theorem dL_law_28 : decode cL_law 28 = .ok (.iaload, 1) := by decide +kernel
theorem dL_law_29 : decode cL_law 29 = .ok (.bipush 31, 2) := by decide +kernel
theorem dL_law_31 : decode cL_law 31 = .ok (.iand, 1) := by decide +kernel
theorem dL_law_32 : decode cL_law 32 = .ok (.tableswitch 810 0 21 #[104, 127, 180, 229, 262, 285, 298, 332, 366, 390, 424, 468, 512, 546, 580, 604, 638, 662, 706, 740, 753, 787], 104) := by decide +kernel
theorem dL_law_136 : decode cL_law 136 = .ok (.aload_n 1, 1) := by decide +kernel
theorem dL_law_137 : decode cL_law 137 = .ok (.aload_n 0, 1) := by decide +kernel
theorem dL_law_138 : decode cL_law 138 = .ok (.iload_n 3, 1) := by decide +kernel
theorem dL_law_139 : decode cL_law 139 = .ok (.iconst 1, 1) := by decide +kernel
theorem dL_law_140 : decode cL_law 140 = .ok (.iadd, 1) := by decide +kernel
theorem dL_law_141 : decode cL_law 141 = .ok (.iaload, 1) := by decide +kernel
theorem dL_law_142 : decode cL_law 142 = .ok (.invokevirtual 13, 3) := by decide +kernel
theorem dL_law_145 : decode cL_law 145 = .ok (.aload_n 2, 1) := by decide +kernel
theorem dL_law_146 : decode cL_law 146 = .ok (.aload_n 0, 1) := by decide +kernel
theorem dL_law_147 : decode cL_law 147 = .ok (.iload_n 3, 1) := by decide +kernel
theorem dL_law_148 : decode cL_law 148 = .ok (.iconst 1, 1) := by decide +kernel
theorem dL_law_149 : decode cL_law 149 = .ok (.iadd, 1) := by decide +kernel
theorem dL_law_150 : decode cL_law 150 = .ok (.iaload, 1) := by decide +kernel
theorem dL_law_151 : decode cL_law 151 = .ok (.invokevirtual 17, 3) := by decide +kernel
theorem dL_law_154 : decode cL_law 154 = .ok (.if_icmp .eq 688, 3) := by decide +kernel
theorem dL_law_157 : decode cL_law 157 = .ok (.iconst 0, 1) := by decide +kernel
theorem dL_law_158 : decode cL_law 158 = .ok (.ireturn, 1) := by decide +kernel
theorem dL_law_159 : decode cL_law 159 = .ok (.aload_n 1, 1) := by decide +kernel
theorem dL_law_160 : decode cL_law 160 = .ok (.aload_n 0, 1) := by decide +kernel
theorem dL_law_161 : decode cL_law 161 = .ok (.iload_n 3, 1) := by decide +kernel
theorem dL_law_162 : decode cL_law 162 = .ok (.iconst 1, 1) := by decide +kernel
theorem dL_law_163 : decode cL_law 163 = .ok (.iadd, 1) := by decide +kernel
theorem dL_law_164 : decode cL_law 164 = .ok (.iaload, 1) := by decide +kernel
theorem dL_law_165 : decode cL_law 165 = .ok (.aload_n 0, 1) := by decide +kernel
theorem dL_law_166 : decode cL_law 166 = .ok (.iload_n 3, 1) := by decide +kernel
theorem dL_law_167 : decode cL_law 167 = .ok (.iconst 2, 1) := by decide +kernel
theorem dL_law_168 : decode cL_law 168 = .ok (.iadd, 1) := by decide +kernel
theorem dL_law_169 : decode cL_law 169 = .ok (.iaload, 1) := by decide +kernel
theorem dL_law_170 : decode cL_law 170 = .ok (.aload_n 0, 1) := by decide +kernel
theorem dL_law_171 : decode cL_law 171 = .ok (.iload_n 3, 1) := by decide +kernel
theorem dL_law_172 : decode cL_law 172 = .ok (.iconst 3, 1) := by decide +kernel
theorem dL_law_173 : decode cL_law 173 = .ok (.iadd, 1) := by decide +kernel
theorem dL_law_174 : decode cL_law 174 = .ok (.iaload, 1) := by decide +kernel
theorem dL_law_175 : decode cL_law 175 = .ok (.aload_n 0, 1) := by decide +kernel
theorem dL_law_176 : decode cL_law 176 = .ok (.iload_n 3, 1) := by decide +kernel
theorem dL_law_177 : decode cL_law 177 = .ok (.iconst 4, 1) := by decide +kernel
theorem dL_law_178 : decode cL_law 178 = .ok (.iadd, 1) := by decide +kernel
theorem dL_law_179 : decode cL_law 179 = .ok (.iaload, 1) := by decide +kernel
theorem dL_law_180 : decode cL_law 180 = .ok (.invokevirtual 18, 3) := by decide +kernel
theorem dL_law_183 : decode cL_law 183 = .ok (.aload_n 2, 1) := by decide +kernel
theorem dL_law_184 : decode cL_law 184 = .ok (.aload_n 0, 1) := by decide +kernel
theorem dL_law_185 : decode cL_law 185 = .ok (.iload_n 3, 1) := by decide +kernel
theorem dL_law_186 : decode cL_law 186 = .ok (.iconst 1, 1) := by decide +kernel
theorem dL_law_187 : decode cL_law 187 = .ok (.iadd, 1) := by decide +kernel
theorem dL_law_188 : decode cL_law 188 = .ok (.iaload, 1) := by decide +kernel
theorem dL_law_189 : decode cL_law 189 = .ok (.aload_n 0, 1) := by decide +kernel
theorem dL_law_190 : decode cL_law 190 = .ok (.iload_n 3, 1) := by decide +kernel
theorem dL_law_191 : decode cL_law 191 = .ok (.iconst 2, 1) := by decide +kernel
theorem dL_law_192 : decode cL_law 192 = .ok (.iadd, 1) := by decide +kernel
theorem dL_law_193 : decode cL_law 193 = .ok (.iaload, 1) := by decide +kernel
theorem dL_law_194 : decode cL_law 194 = .ok (.aload_n 0, 1) := by decide +kernel
theorem dL_law_195 : decode cL_law 195 = .ok (.iload_n 3, 1) := by decide +kernel
theorem dL_law_196 : decode cL_law 196 = .ok (.iconst 3, 1) := by decide +kernel
theorem dL_law_197 : decode cL_law 197 = .ok (.iadd, 1) := by decide +kernel
theorem dL_law_198 : decode cL_law 198 = .ok (.iaload, 1) := by decide +kernel
theorem dL_law_199 : decode cL_law 199 = .ok (.aload_n 0, 1) := by decide +kernel
theorem dL_law_200 : decode cL_law 200 = .ok (.iload_n 3, 1) := by decide +kernel
theorem dL_law_201 : decode cL_law 201 = .ok (.iconst 4, 1) := by decide +kernel
theorem dL_law_202 : decode cL_law 202 = .ok (.iadd, 1) := by decide +kernel
theorem dL_law_203 : decode cL_law 203 = .ok (.iaload, 1) := by decide +kernel
theorem dL_law_204 : decode cL_law 204 = .ok (.invokevirtual 22, 3) := by decide +kernel
theorem dL_law_207 : decode cL_law 207 = .ok (.if_icmp .eq 635, 3) := by decide +kernel
theorem dL_law_210 : decode cL_law 210 = .ok (.iconst 0, 1) := by decide +kernel
theorem dL_law_211 : decode cL_law 211 = .ok (.ireturn, 1) := by decide +kernel
theorem dL_law_212 : decode cL_law 212 = .ok (.aload_n 1, 1) := by decide +kernel
theorem dL_law_213 : decode cL_law 213 = .ok (.aload_n 0, 1) := by decide +kernel
theorem dL_law_214 : decode cL_law 214 = .ok (.iload_n 3, 1) := by decide +kernel
theorem dL_law_215 : decode cL_law 215 = .ok (.iconst 1, 1) := by decide +kernel
theorem dL_law_216 : decode cL_law 216 = .ok (.iadd, 1) := by decide +kernel
theorem dL_law_217 : decode cL_law 217 = .ok (.iaload, 1) := by decide +kernel
theorem dL_law_218 : decode cL_law 218 = .ok (.aload_n 0, 1) := by decide +kernel
theorem dL_law_219 : decode cL_law 219 = .ok (.iload_n 3, 1) := by decide +kernel
theorem dL_law_220 : decode cL_law 220 = .ok (.iconst 2, 1) := by decide +kernel
theorem dL_law_221 : decode cL_law 221 = .ok (.iadd, 1) := by decide +kernel
theorem dL_law_222 : decode cL_law 222 = .ok (.iaload, 1) := by decide +kernel
theorem dL_law_223 : decode cL_law 223 = .ok (.ifCond .eq 7, 3) := by decide +kernel
theorem dL_law_226 : decode cL_law 226 = .ok (.iconst 1, 1) := by decide +kernel
theorem dL_law_227 : decode cL_law 227 = .ok (.goto 4, 3) := by decide +kernel
theorem dL_law_230 : decode cL_law 230 = .ok (.iconst 0, 1) := by decide +kernel
theorem dL_law_231 : decode cL_law 231 = .ok (.invokevirtual 23, 3) := by decide +kernel
theorem dL_law_234 : decode cL_law 234 = .ok (.aload_n 2, 1) := by decide +kernel
theorem dL_law_235 : decode cL_law 235 = .ok (.aload_n 0, 1) := by decide +kernel
theorem dL_law_236 : decode cL_law 236 = .ok (.iload_n 3, 1) := by decide +kernel
theorem dL_law_237 : decode cL_law 237 = .ok (.iconst 1, 1) := by decide +kernel
theorem dL_law_238 : decode cL_law 238 = .ok (.iadd, 1) := by decide +kernel
theorem dL_law_239 : decode cL_law 239 = .ok (.iaload, 1) := by decide +kernel
theorem dL_law_240 : decode cL_law 240 = .ok (.aload_n 0, 1) := by decide +kernel
theorem dL_law_241 : decode cL_law 241 = .ok (.iload_n 3, 1) := by decide +kernel
theorem dL_law_242 : decode cL_law 242 = .ok (.iconst 2, 1) := by decide +kernel
theorem dL_law_243 : decode cL_law 243 = .ok (.iadd, 1) := by decide +kernel
theorem dL_law_244 : decode cL_law 244 = .ok (.iaload, 1) := by decide +kernel
theorem dL_law_245 : decode cL_law 245 = .ok (.ifCond .eq 7, 3) := by decide +kernel
theorem dL_law_248 : decode cL_law 248 = .ok (.iconst 1, 1) := by decide +kernel
theorem dL_law_249 : decode cL_law 249 = .ok (.goto 4, 3) := by decide +kernel
theorem dL_law_252 : decode cL_law 252 = .ok (.iconst 0, 1) := by decide +kernel
theorem dL_law_253 : decode cL_law 253 = .ok (.invokevirtual 27, 3) := by decide +kernel
theorem dL_law_256 : decode cL_law 256 = .ok (.if_icmp .eq 586, 3) := by decide +kernel
theorem dL_law_259 : decode cL_law 259 = .ok (.iconst 0, 1) := by decide +kernel
theorem dL_law_260 : decode cL_law 260 = .ok (.ireturn, 1) := by decide +kernel
theorem dL_law_261 : decode cL_law 261 = .ok (.aload_n 1, 1) := by decide +kernel
theorem dL_law_262 : decode cL_law 262 = .ok (.aload_n 0, 1) := by decide +kernel
theorem dL_law_263 : decode cL_law 263 = .ok (.iload_n 3, 1) := by decide +kernel
theorem dL_law_264 : decode cL_law 264 = .ok (.iconst 1, 1) := by decide +kernel
theorem dL_law_265 : decode cL_law 265 = .ok (.iadd, 1) := by decide +kernel
theorem dL_law_266 : decode cL_law 266 = .ok (.iaload, 1) := by decide +kernel
theorem dL_law_267 : decode cL_law 267 = .ok (.aload_n 0, 1) := by decide +kernel
theorem dL_law_268 : decode cL_law 268 = .ok (.iload_n 3, 1) := by decide +kernel
theorem dL_law_269 : decode cL_law 269 = .ok (.iconst 2, 1) := by decide +kernel
theorem dL_law_270 : decode cL_law 270 = .ok (.iadd, 1) := by decide +kernel
theorem dL_law_271 : decode cL_law 271 = .ok (.iaload, 1) := by decide +kernel
theorem dL_law_272 : decode cL_law 272 = .ok (.invokevirtual 28, 3) := by decide +kernel
theorem dL_law_275 : decode cL_law 275 = .ok (.aload_n 2, 1) := by decide +kernel
theorem dL_law_276 : decode cL_law 276 = .ok (.aload_n 0, 1) := by decide +kernel
theorem dL_law_277 : decode cL_law 277 = .ok (.iload_n 3, 1) := by decide +kernel
theorem dL_law_278 : decode cL_law 278 = .ok (.iconst 1, 1) := by decide +kernel
theorem dL_law_279 : decode cL_law 279 = .ok (.iadd, 1) := by decide +kernel
theorem dL_law_280 : decode cL_law 280 = .ok (.iaload, 1) := by decide +kernel
theorem dL_law_281 : decode cL_law 281 = .ok (.aload_n 0, 1) := by decide +kernel
theorem dL_law_282 : decode cL_law 282 = .ok (.iload_n 3, 1) := by decide +kernel
theorem dL_law_283 : decode cL_law 283 = .ok (.iconst 2, 1) := by decide +kernel
theorem dL_law_284 : decode cL_law 284 = .ok (.iadd, 1) := by decide +kernel
theorem dL_law_285 : decode cL_law 285 = .ok (.iaload, 1) := by decide +kernel
theorem dL_law_286 : decode cL_law 286 = .ok (.invokevirtual 32, 3) := by decide +kernel
theorem dL_law_289 : decode cL_law 289 = .ok (.if_icmp .eq 553, 3) := by decide +kernel
theorem dL_law_292 : decode cL_law 292 = .ok (.iconst 0, 1) := by decide +kernel
theorem dL_law_293 : decode cL_law 293 = .ok (.ireturn, 1) := by decide +kernel
theorem dL_law_294 : decode cL_law 294 = .ok (.aload_n 1, 1) := by decide +kernel
theorem dL_law_295 : decode cL_law 295 = .ok (.aload_n 0, 1) := by decide +kernel
theorem dL_law_296 : decode cL_law 296 = .ok (.iload_n 3, 1) := by decide +kernel
theorem dL_law_297 : decode cL_law 297 = .ok (.iconst 1, 1) := by decide +kernel
theorem dL_law_298 : decode cL_law 298 = .ok (.iadd, 1) := by decide +kernel
theorem dL_law_299 : decode cL_law 299 = .ok (.iaload, 1) := by decide +kernel
theorem dL_law_300 : decode cL_law 300 = .ok (.invokevirtual 33, 3) := by decide +kernel
theorem dL_law_303 : decode cL_law 303 = .ok (.aload_n 2, 1) := by decide +kernel
theorem dL_law_304 : decode cL_law 304 = .ok (.aload_n 0, 1) := by decide +kernel
theorem dL_law_305 : decode cL_law 305 = .ok (.iload_n 3, 1) := by decide +kernel
theorem dL_law_306 : decode cL_law 306 = .ok (.iconst 1, 1) := by decide +kernel
theorem dL_law_307 : decode cL_law 307 = .ok (.iadd, 1) := by decide +kernel
theorem dL_law_308 : decode cL_law 308 = .ok (.iaload, 1) := by decide +kernel
theorem dL_law_309 : decode cL_law 309 = .ok (.invokevirtual 36, 3) := by decide +kernel
theorem dL_law_312 : decode cL_law 312 = .ok (.if_icmp .eq 530, 3) := by decide +kernel
theorem dL_law_315 : decode cL_law 315 = .ok (.iconst 0, 1) := by decide +kernel
theorem dL_law_316 : decode cL_law 316 = .ok (.ireturn, 1) := by decide +kernel
theorem dL_law_317 : decode cL_law 317 = .ok (.aload_n 1, 1) := by decide +kernel
theorem dL_law_318 : decode cL_law 318 = .ok (.invokevirtual 37, 3) := by decide +kernel
theorem dL_law_321 : decode cL_law 321 = .ok (.aload_n 2, 1) := by decide +kernel
theorem dL_law_322 : decode cL_law 322 = .ok (.invokevirtual 41, 3) := by decide +kernel
theorem dL_law_325 : decode cL_law 325 = .ok (.if_icmp .eq 517, 3) := by decide +kernel
theorem dL_law_328 : decode cL_law 328 = .ok (.iconst 0, 1) := by decide +kernel
theorem dL_law_329 : decode cL_law 329 = .ok (.ireturn, 1) := by decide +kernel
theorem dL_law_330 : decode cL_law 330 = .ok (.aload_n 1, 1) := by decide +kernel
theorem dL_law_331 : decode cL_law 331 = .ok (.aload_n 0, 1) := by decide +kernel
theorem dL_law_332 : decode cL_law 332 = .ok (.iload_n 3, 1) := by decide +kernel
theorem dL_law_333 : decode cL_law 333 = .ok (.iconst 1, 1) := by decide +kernel
theorem dL_law_334 : decode cL_law 334 = .ok (.iadd, 1) := by decide +kernel
theorem dL_law_335 : decode cL_law 335 = .ok (.iaload, 1) := by decide +kernel
theorem dL_law_336 : decode cL_law 336 = .ok (.aload_n 0, 1) := by decide +kernel
theorem dL_law_337 : decode cL_law 337 = .ok (.iload_n 3, 1) := by decide +kernel
theorem dL_law_338 : decode cL_law 338 = .ok (.iconst 2, 1) := by decide +kernel
theorem dL_law_339 : decode cL_law 339 = .ok (.iadd, 1) := by decide +kernel
theorem dL_law_340 : decode cL_law 340 = .ok (.iaload, 1) := by decide +kernel
theorem dL_law_341 : decode cL_law 341 = .ok (.invokevirtual 42, 3) := by decide +kernel
theorem dL_law_344 : decode cL_law 344 = .ok (.aload_n 2, 1) := by decide +kernel
theorem dL_law_345 : decode cL_law 345 = .ok (.aload_n 0, 1) := by decide +kernel
theorem dL_law_346 : decode cL_law 346 = .ok (.iload_n 3, 1) := by decide +kernel
theorem dL_law_347 : decode cL_law 347 = .ok (.iconst 1, 1) := by decide +kernel
theorem dL_law_348 : decode cL_law 348 = .ok (.iadd, 1) := by decide +kernel
theorem dL_law_349 : decode cL_law 349 = .ok (.iaload, 1) := by decide +kernel
theorem dL_law_350 : decode cL_law 350 = .ok (.aload_n 0, 1) := by decide +kernel
theorem dL_law_351 : decode cL_law 351 = .ok (.iload_n 3, 1) := by decide +kernel
theorem dL_law_352 : decode cL_law 352 = .ok (.iconst 2, 1) := by decide +kernel
theorem dL_law_353 : decode cL_law 353 = .ok (.iadd, 1) := by decide +kernel
theorem dL_law_354 : decode cL_law 354 = .ok (.iaload, 1) := by decide +kernel
theorem dL_law_355 : decode cL_law 355 = .ok (.invokevirtual 46, 3) := by decide +kernel
theorem dL_law_358 : decode cL_law 358 = .ok (.lcmp, 1) := by decide +kernel
theorem dL_law_359 : decode cL_law 359 = .ok (.ifCond .eq 483, 3) := by decide +kernel
theorem dL_law_362 : decode cL_law 362 = .ok (.iconst 0, 1) := by decide +kernel
theorem dL_law_363 : decode cL_law 363 = .ok (.ireturn, 1) := by decide +kernel
theorem dL_law_364 : decode cL_law 364 = .ok (.aload_n 1, 1) := by decide +kernel
theorem dL_law_365 : decode cL_law 365 = .ok (.aload_n 0, 1) := by decide +kernel
theorem dL_law_366 : decode cL_law 366 = .ok (.iload_n 3, 1) := by decide +kernel
theorem dL_law_367 : decode cL_law 367 = .ok (.iconst 1, 1) := by decide +kernel
theorem dL_law_368 : decode cL_law 368 = .ok (.iadd, 1) := by decide +kernel
theorem dL_law_369 : decode cL_law 369 = .ok (.iaload, 1) := by decide +kernel
theorem dL_law_370 : decode cL_law 370 = .ok (.aload_n 0, 1) := by decide +kernel
theorem dL_law_371 : decode cL_law 371 = .ok (.iload_n 3, 1) := by decide +kernel
theorem dL_law_372 : decode cL_law 372 = .ok (.iconst 2, 1) := by decide +kernel
theorem dL_law_373 : decode cL_law 373 = .ok (.iadd, 1) := by decide +kernel
theorem dL_law_374 : decode cL_law 374 = .ok (.iaload, 1) := by decide +kernel
theorem dL_law_375 : decode cL_law 375 = .ok (.invokevirtual 47, 3) := by decide +kernel
theorem dL_law_378 : decode cL_law 378 = .ok (.aload_n 2, 1) := by decide +kernel
theorem dL_law_379 : decode cL_law 379 = .ok (.aload_n 0, 1) := by decide +kernel
theorem dL_law_380 : decode cL_law 380 = .ok (.iload_n 3, 1) := by decide +kernel
theorem dL_law_381 : decode cL_law 381 = .ok (.iconst 1, 1) := by decide +kernel
theorem dL_law_382 : decode cL_law 382 = .ok (.iadd, 1) := by decide +kernel
theorem dL_law_383 : decode cL_law 383 = .ok (.iaload, 1) := by decide +kernel
theorem dL_law_384 : decode cL_law 384 = .ok (.aload_n 0, 1) := by decide +kernel
theorem dL_law_385 : decode cL_law 385 = .ok (.iload_n 3, 1) := by decide +kernel
theorem dL_law_386 : decode cL_law 386 = .ok (.iconst 2, 1) := by decide +kernel
theorem dL_law_387 : decode cL_law 387 = .ok (.iadd, 1) := by decide +kernel
theorem dL_law_388 : decode cL_law 388 = .ok (.iaload, 1) := by decide +kernel
theorem dL_law_389 : decode cL_law 389 = .ok (.invokevirtual 50, 3) := by decide +kernel
theorem dL_law_392 : decode cL_law 392 = .ok (.lcmp, 1) := by decide +kernel
theorem dL_law_393 : decode cL_law 393 = .ok (.ifCond .eq 449, 3) := by decide +kernel
theorem dL_law_396 : decode cL_law 396 = .ok (.iconst 0, 1) := by decide +kernel
theorem dL_law_397 : decode cL_law 397 = .ok (.ireturn, 1) := by decide +kernel
theorem dL_law_398 : decode cL_law 398 = .ok (.aload_n 1, 1) := by decide +kernel
theorem dL_law_399 : decode cL_law 399 = .ok (.aload_n 0, 1) := by decide +kernel
theorem dL_law_400 : decode cL_law 400 = .ok (.iload_n 3, 1) := by decide +kernel
theorem dL_law_401 : decode cL_law 401 = .ok (.iconst 1, 1) := by decide +kernel
theorem dL_law_402 : decode cL_law 402 = .ok (.iadd, 1) := by decide +kernel
theorem dL_law_403 : decode cL_law 403 = .ok (.iaload, 1) := by decide +kernel
theorem dL_law_404 : decode cL_law 404 = .ok (.invokevirtual 51, 3) := by decide +kernel
theorem dL_law_407 : decode cL_law 407 = .ok (.aload_n 2, 1) := by decide +kernel
theorem dL_law_408 : decode cL_law 408 = .ok (.aload_n 0, 1) := by decide +kernel
theorem dL_law_409 : decode cL_law 409 = .ok (.iload_n 3, 1) := by decide +kernel
theorem dL_law_410 : decode cL_law 410 = .ok (.iconst 1, 1) := by decide +kernel
theorem dL_law_411 : decode cL_law 411 = .ok (.iadd, 1) := by decide +kernel
theorem dL_law_412 : decode cL_law 412 = .ok (.iaload, 1) := by decide +kernel
theorem dL_law_413 : decode cL_law 413 = .ok (.invokevirtual 55, 3) := by decide +kernel
theorem dL_law_416 : decode cL_law 416 = .ok (.lcmp, 1) := by decide +kernel
theorem dL_law_417 : decode cL_law 417 = .ok (.ifCond .eq 425, 3) := by decide +kernel
theorem dL_law_420 : decode cL_law 420 = .ok (.iconst 0, 1) := by decide +kernel
theorem dL_law_421 : decode cL_law 421 = .ok (.ireturn, 1) := by decide +kernel
theorem dL_law_422 : decode cL_law 422 = .ok (.aload_n 1, 1) := by decide +kernel
theorem dL_law_423 : decode cL_law 423 = .ok (.aload_n 0, 1) := by decide +kernel
theorem dL_law_424 : decode cL_law 424 = .ok (.iload_n 3, 1) := by decide +kernel
theorem dL_law_425 : decode cL_law 425 = .ok (.iconst 1, 1) := by decide +kernel
theorem dL_law_426 : decode cL_law 426 = .ok (.iadd, 1) := by decide +kernel
theorem dL_law_427 : decode cL_law 427 = .ok (.iaload, 1) := by decide +kernel
theorem dL_law_428 : decode cL_law 428 = .ok (.aload_n 0, 1) := by decide +kernel
theorem dL_law_429 : decode cL_law 429 = .ok (.iload_n 3, 1) := by decide +kernel
theorem dL_law_430 : decode cL_law 430 = .ok (.iconst 2, 1) := by decide +kernel
theorem dL_law_431 : decode cL_law 431 = .ok (.iadd, 1) := by decide +kernel
theorem dL_law_432 : decode cL_law 432 = .ok (.iaload, 1) := by decide +kernel
theorem dL_law_433 : decode cL_law 433 = .ok (.invokevirtual 56, 3) := by decide +kernel
theorem dL_law_436 : decode cL_law 436 = .ok (.aload_n 2, 1) := by decide +kernel
theorem dL_law_437 : decode cL_law 437 = .ok (.aload_n 0, 1) := by decide +kernel
theorem dL_law_438 : decode cL_law 438 = .ok (.iload_n 3, 1) := by decide +kernel
theorem dL_law_439 : decode cL_law 439 = .ok (.iconst 1, 1) := by decide +kernel
theorem dL_law_440 : decode cL_law 440 = .ok (.iadd, 1) := by decide +kernel
theorem dL_law_441 : decode cL_law 441 = .ok (.iaload, 1) := by decide +kernel
theorem dL_law_442 : decode cL_law 442 = .ok (.aload_n 0, 1) := by decide +kernel
theorem dL_law_443 : decode cL_law 443 = .ok (.iload_n 3, 1) := by decide +kernel
theorem dL_law_444 : decode cL_law 444 = .ok (.iconst 2, 1) := by decide +kernel
theorem dL_law_445 : decode cL_law 445 = .ok (.iadd, 1) := by decide +kernel
theorem dL_law_446 : decode cL_law 446 = .ok (.iaload, 1) := by decide +kernel
theorem dL_law_447 : decode cL_law 447 = .ok (.invokevirtual 59, 3) := by decide +kernel
theorem dL_law_450 : decode cL_law 450 = .ok (.lcmp, 1) := by decide +kernel
theorem dL_law_451 : decode cL_law 451 = .ok (.ifCond .eq 391, 3) := by decide +kernel
theorem dL_law_454 : decode cL_law 454 = .ok (.iconst 0, 1) := by decide +kernel
theorem dL_law_455 : decode cL_law 455 = .ok (.ireturn, 1) := by decide +kernel
theorem dL_law_456 : decode cL_law 456 = .ok (.aload_n 1, 1) := by decide +kernel
theorem dL_law_457 : decode cL_law 457 = .ok (.aload_n 0, 1) := by decide +kernel
theorem dL_law_458 : decode cL_law 458 = .ok (.iload_n 3, 1) := by decide +kernel
theorem dL_law_459 : decode cL_law 459 = .ok (.iconst 1, 1) := by decide +kernel
theorem dL_law_460 : decode cL_law 460 = .ok (.iadd, 1) := by decide +kernel
theorem dL_law_461 : decode cL_law 461 = .ok (.iaload, 1) := by decide +kernel
theorem dL_law_462 : decode cL_law 462 = .ok (.aload_n 0, 1) := by decide +kernel
theorem dL_law_463 : decode cL_law 463 = .ok (.iload_n 3, 1) := by decide +kernel
theorem dL_law_464 : decode cL_law 464 = .ok (.iconst 2, 1) := by decide +kernel
theorem dL_law_465 : decode cL_law 465 = .ok (.iadd, 1) := by decide +kernel
theorem dL_law_466 : decode cL_law 466 = .ok (.iaload, 1) := by decide +kernel
theorem dL_law_467 : decode cL_law 467 = .ok (.aload_n 0, 1) := by decide +kernel
theorem dL_law_468 : decode cL_law 468 = .ok (.iload_n 3, 1) := by decide +kernel
theorem dL_law_469 : decode cL_law 469 = .ok (.iconst 3, 1) := by decide +kernel
theorem dL_law_470 : decode cL_law 470 = .ok (.iadd, 1) := by decide +kernel
theorem dL_law_471 : decode cL_law 471 = .ok (.iaload, 1) := by decide +kernel
theorem dL_law_472 : decode cL_law 472 = .ok (.invokevirtual 60, 3) := by decide +kernel
theorem dL_law_475 : decode cL_law 475 = .ok (.aload_n 2, 1) := by decide +kernel
theorem dL_law_476 : decode cL_law 476 = .ok (.aload_n 0, 1) := by decide +kernel
theorem dL_law_477 : decode cL_law 477 = .ok (.iload_n 3, 1) := by decide +kernel
theorem dL_law_478 : decode cL_law 478 = .ok (.iconst 1, 1) := by decide +kernel
theorem dL_law_479 : decode cL_law 479 = .ok (.iadd, 1) := by decide +kernel
theorem dL_law_480 : decode cL_law 480 = .ok (.iaload, 1) := by decide +kernel
theorem dL_law_481 : decode cL_law 481 = .ok (.aload_n 0, 1) := by decide +kernel
theorem dL_law_482 : decode cL_law 482 = .ok (.iload_n 3, 1) := by decide +kernel
theorem dL_law_483 : decode cL_law 483 = .ok (.iconst 2, 1) := by decide +kernel
theorem dL_law_484 : decode cL_law 484 = .ok (.iadd, 1) := by decide +kernel
theorem dL_law_485 : decode cL_law 485 = .ok (.iaload, 1) := by decide +kernel
theorem dL_law_486 : decode cL_law 486 = .ok (.aload_n 0, 1) := by decide +kernel
theorem dL_law_487 : decode cL_law 487 = .ok (.iload_n 3, 1) := by decide +kernel
theorem dL_law_488 : decode cL_law 488 = .ok (.iconst 3, 1) := by decide +kernel
theorem dL_law_489 : decode cL_law 489 = .ok (.iadd, 1) := by decide +kernel
theorem dL_law_490 : decode cL_law 490 = .ok (.iaload, 1) := by decide +kernel
theorem dL_law_491 : decode cL_law 491 = .ok (.invokevirtual 64, 3) := by decide +kernel
theorem dL_law_494 : decode cL_law 494 = .ok (.lcmp, 1) := by decide +kernel
theorem dL_law_495 : decode cL_law 495 = .ok (.ifCond .eq 347, 3) := by decide +kernel
theorem dL_law_498 : decode cL_law 498 = .ok (.iconst 0, 1) := by decide +kernel
theorem dL_law_499 : decode cL_law 499 = .ok (.ireturn, 1) := by decide +kernel
theorem dL_law_500 : decode cL_law 500 = .ok (.aload_n 1, 1) := by decide +kernel
theorem dL_law_501 : decode cL_law 501 = .ok (.aload_n 0, 1) := by decide +kernel
theorem dL_law_502 : decode cL_law 502 = .ok (.iload_n 3, 1) := by decide +kernel
theorem dL_law_503 : decode cL_law 503 = .ok (.iconst 1, 1) := by decide +kernel
theorem dL_law_504 : decode cL_law 504 = .ok (.iadd, 1) := by decide +kernel
theorem dL_law_505 : decode cL_law 505 = .ok (.iaload, 1) := by decide +kernel
theorem dL_law_506 : decode cL_law 506 = .ok (.aload_n 0, 1) := by decide +kernel
theorem dL_law_507 : decode cL_law 507 = .ok (.iload_n 3, 1) := by decide +kernel
theorem dL_law_508 : decode cL_law 508 = .ok (.iconst 2, 1) := by decide +kernel
theorem dL_law_509 : decode cL_law 509 = .ok (.iadd, 1) := by decide +kernel
theorem dL_law_510 : decode cL_law 510 = .ok (.iaload, 1) := by decide +kernel
theorem dL_law_511 : decode cL_law 511 = .ok (.aload_n 0, 1) := by decide +kernel
theorem dL_law_512 : decode cL_law 512 = .ok (.iload_n 3, 1) := by decide +kernel
theorem dL_law_513 : decode cL_law 513 = .ok (.iconst 3, 1) := by decide +kernel
theorem dL_law_514 : decode cL_law 514 = .ok (.iadd, 1) := by decide +kernel
theorem dL_law_515 : decode cL_law 515 = .ok (.iaload, 1) := by decide +kernel
theorem dL_law_516 : decode cL_law 516 = .ok (.invokevirtual 65, 3) := by decide +kernel
theorem dL_law_519 : decode cL_law 519 = .ok (.aload_n 2, 1) := by decide +kernel
theorem dL_law_520 : decode cL_law 520 = .ok (.aload_n 0, 1) := by decide +kernel
theorem dL_law_521 : decode cL_law 521 = .ok (.iload_n 3, 1) := by decide +kernel
theorem dL_law_522 : decode cL_law 522 = .ok (.iconst 1, 1) := by decide +kernel
theorem dL_law_523 : decode cL_law 523 = .ok (.iadd, 1) := by decide +kernel
theorem dL_law_524 : decode cL_law 524 = .ok (.iaload, 1) := by decide +kernel
theorem dL_law_525 : decode cL_law 525 = .ok (.aload_n 0, 1) := by decide +kernel
theorem dL_law_526 : decode cL_law 526 = .ok (.iload_n 3, 1) := by decide +kernel
theorem dL_law_527 : decode cL_law 527 = .ok (.iconst 2, 1) := by decide +kernel
theorem dL_law_528 : decode cL_law 528 = .ok (.iadd, 1) := by decide +kernel
theorem dL_law_529 : decode cL_law 529 = .ok (.iaload, 1) := by decide +kernel
theorem dL_law_530 : decode cL_law 530 = .ok (.aload_n 0, 1) := by decide +kernel
theorem dL_law_531 : decode cL_law 531 = .ok (.iload_n 3, 1) := by decide +kernel
theorem dL_law_532 : decode cL_law 532 = .ok (.iconst 3, 1) := by decide +kernel
theorem dL_law_533 : decode cL_law 533 = .ok (.iadd, 1) := by decide +kernel
theorem dL_law_534 : decode cL_law 534 = .ok (.iaload, 1) := by decide +kernel
theorem dL_law_535 : decode cL_law 535 = .ok (.invokevirtual 68, 3) := by decide +kernel
theorem dL_law_538 : decode cL_law 538 = .ok (.lcmp, 1) := by decide +kernel
theorem dL_law_539 : decode cL_law 539 = .ok (.ifCond .eq 303, 3) := by decide +kernel
theorem dL_law_542 : decode cL_law 542 = .ok (.iconst 0, 1) := by decide +kernel
theorem dL_law_543 : decode cL_law 543 = .ok (.ireturn, 1) := by decide +kernel
theorem dL_law_544 : decode cL_law 544 = .ok (.aload_n 1, 1) := by decide +kernel
theorem dL_law_545 : decode cL_law 545 = .ok (.aload_n 0, 1) := by decide +kernel
theorem dL_law_546 : decode cL_law 546 = .ok (.iload_n 3, 1) := by decide +kernel
theorem dL_law_547 : decode cL_law 547 = .ok (.iconst 1, 1) := by decide +kernel
theorem dL_law_548 : decode cL_law 548 = .ok (.iadd, 1) := by decide +kernel
theorem dL_law_549 : decode cL_law 549 = .ok (.iaload, 1) := by decide +kernel
theorem dL_law_550 : decode cL_law 550 = .ok (.aload_n 0, 1) := by decide +kernel
theorem dL_law_551 : decode cL_law 551 = .ok (.iload_n 3, 1) := by decide +kernel
theorem dL_law_552 : decode cL_law 552 = .ok (.iconst 2, 1) := by decide +kernel
theorem dL_law_553 : decode cL_law 553 = .ok (.iadd, 1) := by decide +kernel
theorem dL_law_554 : decode cL_law 554 = .ok (.iaload, 1) := by decide +kernel
theorem dL_law_555 : decode cL_law 555 = .ok (.invokevirtual 69, 3) := by decide +kernel
theorem dL_law_558 : decode cL_law 558 = .ok (.aload_n 2, 1) := by decide +kernel
theorem dL_law_559 : decode cL_law 559 = .ok (.aload_n 0, 1) := by decide +kernel
theorem dL_law_560 : decode cL_law 560 = .ok (.iload_n 3, 1) := by decide +kernel
theorem dL_law_561 : decode cL_law 561 = .ok (.iconst 1, 1) := by decide +kernel
theorem dL_law_562 : decode cL_law 562 = .ok (.iadd, 1) := by decide +kernel
theorem dL_law_563 : decode cL_law 563 = .ok (.iaload, 1) := by decide +kernel
theorem dL_law_564 : decode cL_law 564 = .ok (.aload_n 0, 1) := by decide +kernel
theorem dL_law_565 : decode cL_law 565 = .ok (.iload_n 3, 1) := by decide +kernel
theorem dL_law_566 : decode cL_law 566 = .ok (.iconst 2, 1) := by decide +kernel
theorem dL_law_567 : decode cL_law 567 = .ok (.iadd, 1) := by decide +kernel
theorem dL_law_568 : decode cL_law 568 = .ok (.iaload, 1) := by decide +kernel
theorem dL_law_569 : decode cL_law 569 = .ok (.invokevirtual 72, 3) := by decide +kernel
theorem dL_law_572 : decode cL_law 572 = .ok (.lcmp, 1) := by decide +kernel
theorem dL_law_573 : decode cL_law 573 = .ok (.ifCond .eq 269, 3) := by decide +kernel
theorem dL_law_576 : decode cL_law 576 = .ok (.iconst 0, 1) := by decide +kernel
theorem dL_law_577 : decode cL_law 577 = .ok (.ireturn, 1) := by decide +kernel
theorem dL_law_578 : decode cL_law 578 = .ok (.aload_n 1, 1) := by decide +kernel
theorem dL_law_579 : decode cL_law 579 = .ok (.aload_n 0, 1) := by decide +kernel
theorem dL_law_580 : decode cL_law 580 = .ok (.iload_n 3, 1) := by decide +kernel
theorem dL_law_581 : decode cL_law 581 = .ok (.iconst 1, 1) := by decide +kernel
theorem dL_law_582 : decode cL_law 582 = .ok (.iadd, 1) := by decide +kernel
theorem dL_law_583 : decode cL_law 583 = .ok (.iaload, 1) := by decide +kernel
theorem dL_law_584 : decode cL_law 584 = .ok (.aload_n 0, 1) := by decide +kernel
theorem dL_law_585 : decode cL_law 585 = .ok (.iload_n 3, 1) := by decide +kernel
theorem dL_law_586 : decode cL_law 586 = .ok (.iconst 2, 1) := by decide +kernel
theorem dL_law_587 : decode cL_law 587 = .ok (.iadd, 1) := by decide +kernel
theorem dL_law_588 : decode cL_law 588 = .ok (.iaload, 1) := by decide +kernel
theorem dL_law_589 : decode cL_law 589 = .ok (.invokevirtual 73, 3) := by decide +kernel
theorem dL_law_592 : decode cL_law 592 = .ok (.aload_n 2, 1) := by decide +kernel
theorem dL_law_593 : decode cL_law 593 = .ok (.aload_n 0, 1) := by decide +kernel
theorem dL_law_594 : decode cL_law 594 = .ok (.iload_n 3, 1) := by decide +kernel
theorem dL_law_595 : decode cL_law 595 = .ok (.iconst 1, 1) := by decide +kernel
theorem dL_law_596 : decode cL_law 596 = .ok (.iadd, 1) := by decide +kernel
theorem dL_law_597 : decode cL_law 597 = .ok (.iaload, 1) := by decide +kernel
theorem dL_law_598 : decode cL_law 598 = .ok (.aload_n 0, 1) := by decide +kernel
theorem dL_law_599 : decode cL_law 599 = .ok (.iload_n 3, 1) := by decide +kernel
theorem dL_law_600 : decode cL_law 600 = .ok (.iconst 2, 1) := by decide +kernel
theorem dL_law_601 : decode cL_law 601 = .ok (.iadd, 1) := by decide +kernel
theorem dL_law_602 : decode cL_law 602 = .ok (.iaload, 1) := by decide +kernel
theorem dL_law_603 : decode cL_law 603 = .ok (.invokevirtual 76, 3) := by decide +kernel
theorem dL_law_606 : decode cL_law 606 = .ok (.lcmp, 1) := by decide +kernel
theorem dL_law_607 : decode cL_law 607 = .ok (.ifCond .eq 235, 3) := by decide +kernel
theorem dL_law_610 : decode cL_law 610 = .ok (.iconst 0, 1) := by decide +kernel
theorem dL_law_611 : decode cL_law 611 = .ok (.ireturn, 1) := by decide +kernel
theorem dL_law_612 : decode cL_law 612 = .ok (.aload_n 1, 1) := by decide +kernel
theorem dL_law_613 : decode cL_law 613 = .ok (.aload_n 0, 1) := by decide +kernel
theorem dL_law_614 : decode cL_law 614 = .ok (.iload_n 3, 1) := by decide +kernel
theorem dL_law_615 : decode cL_law 615 = .ok (.iconst 1, 1) := by decide +kernel
theorem dL_law_616 : decode cL_law 616 = .ok (.iadd, 1) := by decide +kernel
theorem dL_law_617 : decode cL_law 617 = .ok (.iaload, 1) := by decide +kernel
theorem dL_law_618 : decode cL_law 618 = .ok (.invokevirtual 77, 3) := by decide +kernel
theorem dL_law_621 : decode cL_law 621 = .ok (.aload_n 2, 1) := by decide +kernel
theorem dL_law_622 : decode cL_law 622 = .ok (.aload_n 0, 1) := by decide +kernel
theorem dL_law_623 : decode cL_law 623 = .ok (.iload_n 3, 1) := by decide +kernel
theorem dL_law_624 : decode cL_law 624 = .ok (.iconst 1, 1) := by decide +kernel
theorem dL_law_625 : decode cL_law 625 = .ok (.iadd, 1) := by decide +kernel
theorem dL_law_626 : decode cL_law 626 = .ok (.iaload, 1) := by decide +kernel
theorem dL_law_627 : decode cL_law 627 = .ok (.invokevirtual 80, 3) := by decide +kernel
theorem dL_law_630 : decode cL_law 630 = .ok (.lcmp, 1) := by decide +kernel
theorem dL_law_631 : decode cL_law 631 = .ok (.ifCond .eq 211, 3) := by decide +kernel
theorem dL_law_634 : decode cL_law 634 = .ok (.iconst 0, 1) := by decide +kernel
theorem dL_law_635 : decode cL_law 635 = .ok (.ireturn, 1) := by decide +kernel
theorem dL_law_636 : decode cL_law 636 = .ok (.aload_n 1, 1) := by decide +kernel
theorem dL_law_637 : decode cL_law 637 = .ok (.aload_n 0, 1) := by decide +kernel
theorem dL_law_638 : decode cL_law 638 = .ok (.iload_n 3, 1) := by decide +kernel
theorem dL_law_639 : decode cL_law 639 = .ok (.iconst 1, 1) := by decide +kernel
theorem dL_law_640 : decode cL_law 640 = .ok (.iadd, 1) := by decide +kernel
theorem dL_law_641 : decode cL_law 641 = .ok (.iaload, 1) := by decide +kernel
theorem dL_law_642 : decode cL_law 642 = .ok (.aload_n 0, 1) := by decide +kernel
theorem dL_law_643 : decode cL_law 643 = .ok (.iload_n 3, 1) := by decide +kernel
theorem dL_law_644 : decode cL_law 644 = .ok (.iconst 2, 1) := by decide +kernel
theorem dL_law_645 : decode cL_law 645 = .ok (.iadd, 1) := by decide +kernel
theorem dL_law_646 : decode cL_law 646 = .ok (.iaload, 1) := by decide +kernel
theorem dL_law_647 : decode cL_law 647 = .ok (.invokevirtual 81, 3) := by decide +kernel
theorem dL_law_650 : decode cL_law 650 = .ok (.aload_n 2, 1) := by decide +kernel
theorem dL_law_651 : decode cL_law 651 = .ok (.aload_n 0, 1) := by decide +kernel
theorem dL_law_652 : decode cL_law 652 = .ok (.iload_n 3, 1) := by decide +kernel
theorem dL_law_653 : decode cL_law 653 = .ok (.iconst 1, 1) := by decide +kernel
theorem dL_law_654 : decode cL_law 654 = .ok (.iadd, 1) := by decide +kernel
theorem dL_law_655 : decode cL_law 655 = .ok (.iaload, 1) := by decide +kernel
theorem dL_law_656 : decode cL_law 656 = .ok (.aload_n 0, 1) := by decide +kernel
theorem dL_law_657 : decode cL_law 657 = .ok (.iload_n 3, 1) := by decide +kernel
theorem dL_law_658 : decode cL_law 658 = .ok (.iconst 2, 1) := by decide +kernel
theorem dL_law_659 : decode cL_law 659 = .ok (.iadd, 1) := by decide +kernel
theorem dL_law_660 : decode cL_law 660 = .ok (.iaload, 1) := by decide +kernel
theorem dL_law_661 : decode cL_law 661 = .ok (.invokevirtual 84, 3) := by decide +kernel
theorem dL_law_664 : decode cL_law 664 = .ok (.lcmp, 1) := by decide +kernel
theorem dL_law_665 : decode cL_law 665 = .ok (.ifCond .eq 177, 3) := by decide +kernel
theorem dL_law_668 : decode cL_law 668 = .ok (.iconst 0, 1) := by decide +kernel
theorem dL_law_669 : decode cL_law 669 = .ok (.ireturn, 1) := by decide +kernel
theorem dL_law_670 : decode cL_law 670 = .ok (.aload_n 1, 1) := by decide +kernel
theorem dL_law_671 : decode cL_law 671 = .ok (.aload_n 0, 1) := by decide +kernel
theorem dL_law_672 : decode cL_law 672 = .ok (.iload_n 3, 1) := by decide +kernel
theorem dL_law_673 : decode cL_law 673 = .ok (.iconst 1, 1) := by decide +kernel
theorem dL_law_674 : decode cL_law 674 = .ok (.iadd, 1) := by decide +kernel
theorem dL_law_675 : decode cL_law 675 = .ok (.iaload, 1) := by decide +kernel
theorem dL_law_676 : decode cL_law 676 = .ok (.invokevirtual 85, 3) := by decide +kernel
theorem dL_law_679 : decode cL_law 679 = .ok (.aload_n 2, 1) := by decide +kernel
theorem dL_law_680 : decode cL_law 680 = .ok (.aload_n 0, 1) := by decide +kernel
theorem dL_law_681 : decode cL_law 681 = .ok (.iload_n 3, 1) := by decide +kernel
theorem dL_law_682 : decode cL_law 682 = .ok (.iconst 1, 1) := by decide +kernel
theorem dL_law_683 : decode cL_law 683 = .ok (.iadd, 1) := by decide +kernel
theorem dL_law_684 : decode cL_law 684 = .ok (.iaload, 1) := by decide +kernel
theorem dL_law_685 : decode cL_law 685 = .ok (.invokevirtual 88, 3) := by decide +kernel
theorem dL_law_688 : decode cL_law 688 = .ok (.lcmp, 1) := by decide +kernel
theorem dL_law_689 : decode cL_law 689 = .ok (.ifCond .eq 153, 3) := by decide +kernel
theorem dL_law_692 : decode cL_law 692 = .ok (.iconst 0, 1) := by decide +kernel
theorem dL_law_693 : decode cL_law 693 = .ok (.ireturn, 1) := by decide +kernel
theorem dL_law_694 : decode cL_law 694 = .ok (.aload_n 1, 1) := by decide +kernel
theorem dL_law_695 : decode cL_law 695 = .ok (.aload_n 0, 1) := by decide +kernel
theorem dL_law_696 : decode cL_law 696 = .ok (.iload_n 3, 1) := by decide +kernel
theorem dL_law_697 : decode cL_law 697 = .ok (.iconst 1, 1) := by decide +kernel
theorem dL_law_698 : decode cL_law 698 = .ok (.iadd, 1) := by decide +kernel
theorem dL_law_699 : decode cL_law 699 = .ok (.iaload, 1) := by decide +kernel
theorem dL_law_700 : decode cL_law 700 = .ok (.aload_n 0, 1) := by decide +kernel
theorem dL_law_701 : decode cL_law 701 = .ok (.iload_n 3, 1) := by decide +kernel
theorem dL_law_702 : decode cL_law 702 = .ok (.iconst 2, 1) := by decide +kernel
theorem dL_law_703 : decode cL_law 703 = .ok (.iadd, 1) := by decide +kernel
theorem dL_law_704 : decode cL_law 704 = .ok (.iaload, 1) := by decide +kernel
theorem dL_law_705 : decode cL_law 705 = .ok (.aload_n 0, 1) := by decide +kernel
theorem dL_law_706 : decode cL_law 706 = .ok (.iload_n 3, 1) := by decide +kernel
theorem dL_law_707 : decode cL_law 707 = .ok (.iconst 3, 1) := by decide +kernel
theorem dL_law_708 : decode cL_law 708 = .ok (.iadd, 1) := by decide +kernel
theorem dL_law_709 : decode cL_law 709 = .ok (.iaload, 1) := by decide +kernel
theorem dL_law_710 : decode cL_law 710 = .ok (.invokevirtual 89, 3) := by decide +kernel
theorem dL_law_713 : decode cL_law 713 = .ok (.aload_n 2, 1) := by decide +kernel
theorem dL_law_714 : decode cL_law 714 = .ok (.aload_n 0, 1) := by decide +kernel
theorem dL_law_715 : decode cL_law 715 = .ok (.iload_n 3, 1) := by decide +kernel
theorem dL_law_716 : decode cL_law 716 = .ok (.iconst 1, 1) := by decide +kernel
theorem dL_law_717 : decode cL_law 717 = .ok (.iadd, 1) := by decide +kernel
theorem dL_law_718 : decode cL_law 718 = .ok (.iaload, 1) := by decide +kernel
theorem dL_law_719 : decode cL_law 719 = .ok (.aload_n 0, 1) := by decide +kernel
theorem dL_law_720 : decode cL_law 720 = .ok (.iload_n 3, 1) := by decide +kernel
theorem dL_law_721 : decode cL_law 721 = .ok (.iconst 2, 1) := by decide +kernel
theorem dL_law_722 : decode cL_law 722 = .ok (.iadd, 1) := by decide +kernel
theorem dL_law_723 : decode cL_law 723 = .ok (.iaload, 1) := by decide +kernel
theorem dL_law_724 : decode cL_law 724 = .ok (.aload_n 0, 1) := by decide +kernel
theorem dL_law_725 : decode cL_law 725 = .ok (.iload_n 3, 1) := by decide +kernel
theorem dL_law_726 : decode cL_law 726 = .ok (.iconst 3, 1) := by decide +kernel
theorem dL_law_727 : decode cL_law 727 = .ok (.iadd, 1) := by decide +kernel
theorem dL_law_728 : decode cL_law 728 = .ok (.iaload, 1) := by decide +kernel
theorem dL_law_729 : decode cL_law 729 = .ok (.invokevirtual 92, 3) := by decide +kernel
theorem dL_law_732 : decode cL_law 732 = .ok (.lcmp, 1) := by decide +kernel
theorem dL_law_733 : decode cL_law 733 = .ok (.ifCond .eq 109, 3) := by decide +kernel
theorem dL_law_736 : decode cL_law 736 = .ok (.iconst 0, 1) := by decide +kernel
theorem dL_law_737 : decode cL_law 737 = .ok (.ireturn, 1) := by decide +kernel
theorem dL_law_738 : decode cL_law 738 = .ok (.aload_n 1, 1) := by decide +kernel
theorem dL_law_739 : decode cL_law 739 = .ok (.aload_n 0, 1) := by decide +kernel
theorem dL_law_740 : decode cL_law 740 = .ok (.iload_n 3, 1) := by decide +kernel
theorem dL_law_741 : decode cL_law 741 = .ok (.iconst 1, 1) := by decide +kernel
theorem dL_law_742 : decode cL_law 742 = .ok (.iadd, 1) := by decide +kernel
theorem dL_law_743 : decode cL_law 743 = .ok (.iaload, 1) := by decide +kernel
theorem dL_law_744 : decode cL_law 744 = .ok (.aload_n 0, 1) := by decide +kernel
theorem dL_law_745 : decode cL_law 745 = .ok (.iload_n 3, 1) := by decide +kernel
theorem dL_law_746 : decode cL_law 746 = .ok (.iconst 2, 1) := by decide +kernel
theorem dL_law_747 : decode cL_law 747 = .ok (.iadd, 1) := by decide +kernel
theorem dL_law_748 : decode cL_law 748 = .ok (.iaload, 1) := by decide +kernel
theorem dL_law_749 : decode cL_law 749 = .ok (.invokevirtual 93, 3) := by decide +kernel
theorem dL_law_752 : decode cL_law 752 = .ok (.aload_n 2, 1) := by decide +kernel
theorem dL_law_753 : decode cL_law 753 = .ok (.aload_n 0, 1) := by decide +kernel
theorem dL_law_754 : decode cL_law 754 = .ok (.iload_n 3, 1) := by decide +kernel
theorem dL_law_755 : decode cL_law 755 = .ok (.iconst 1, 1) := by decide +kernel
theorem dL_law_756 : decode cL_law 756 = .ok (.iadd, 1) := by decide +kernel
theorem dL_law_757 : decode cL_law 757 = .ok (.iaload, 1) := by decide +kernel
theorem dL_law_758 : decode cL_law 758 = .ok (.aload_n 0, 1) := by decide +kernel
theorem dL_law_759 : decode cL_law 759 = .ok (.iload_n 3, 1) := by decide +kernel
theorem dL_law_760 : decode cL_law 760 = .ok (.iconst 2, 1) := by decide +kernel
theorem dL_law_761 : decode cL_law 761 = .ok (.iadd, 1) := by decide +kernel
theorem dL_law_762 : decode cL_law 762 = .ok (.iaload, 1) := by decide +kernel
theorem dL_law_763 : decode cL_law 763 = .ok (.invokevirtual 96, 3) := by decide +kernel
theorem dL_law_766 : decode cL_law 766 = .ok (.lcmp, 1) := by decide +kernel
theorem dL_law_767 : decode cL_law 767 = .ok (.ifCond .eq 75, 3) := by decide +kernel
theorem dL_law_770 : decode cL_law 770 = .ok (.iconst 0, 1) := by decide +kernel
theorem dL_law_771 : decode cL_law 771 = .ok (.ireturn, 1) := by decide +kernel
theorem dL_law_772 : decode cL_law 772 = .ok (.aload_n 1, 1) := by decide +kernel
theorem dL_law_773 : decode cL_law 773 = .ok (.invokevirtual 97, 3) := by decide +kernel
theorem dL_law_776 : decode cL_law 776 = .ok (.aload_n 2, 1) := by decide +kernel
theorem dL_law_777 : decode cL_law 777 = .ok (.invokevirtual 100, 3) := by decide +kernel
theorem dL_law_780 : decode cL_law 780 = .ok (.if_icmp .eq 62, 3) := by decide +kernel
theorem dL_law_783 : decode cL_law 783 = .ok (.iconst 0, 1) := by decide +kernel
theorem dL_law_784 : decode cL_law 784 = .ok (.ireturn, 1) := by decide +kernel
theorem dL_law_785 : decode cL_law 785 = .ok (.aload_n 1, 1) := by decide +kernel
theorem dL_law_786 : decode cL_law 786 = .ok (.aload_n 0, 1) := by decide +kernel
theorem dL_law_787 : decode cL_law 787 = .ok (.iload_n 3, 1) := by decide +kernel
theorem dL_law_788 : decode cL_law 788 = .ok (.iconst 1, 1) := by decide +kernel
theorem dL_law_789 : decode cL_law 789 = .ok (.iadd, 1) := by decide +kernel
theorem dL_law_790 : decode cL_law 790 = .ok (.iaload, 1) := by decide +kernel
theorem dL_law_791 : decode cL_law 791 = .ok (.aload_n 0, 1) := by decide +kernel
theorem dL_law_792 : decode cL_law 792 = .ok (.iload_n 3, 1) := by decide +kernel
theorem dL_law_793 : decode cL_law 793 = .ok (.iconst 2, 1) := by decide +kernel
theorem dL_law_794 : decode cL_law 794 = .ok (.iadd, 1) := by decide +kernel
theorem dL_law_795 : decode cL_law 795 = .ok (.iaload, 1) := by decide +kernel
theorem dL_law_796 : decode cL_law 796 = .ok (.invokevirtual 101, 3) := by decide +kernel
theorem dL_law_799 : decode cL_law 799 = .ok (.aload_n 2, 1) := by decide +kernel
theorem dL_law_800 : decode cL_law 800 = .ok (.aload_n 0, 1) := by decide +kernel
theorem dL_law_801 : decode cL_law 801 = .ok (.iload_n 3, 1) := by decide +kernel
theorem dL_law_802 : decode cL_law 802 = .ok (.iconst 1, 1) := by decide +kernel
theorem dL_law_803 : decode cL_law 803 = .ok (.iadd, 1) := by decide +kernel
theorem dL_law_804 : decode cL_law 804 = .ok (.iaload, 1) := by decide +kernel
theorem dL_law_805 : decode cL_law 805 = .ok (.aload_n 0, 1) := by decide +kernel
theorem dL_law_806 : decode cL_law 806 = .ok (.iload_n 3, 1) := by decide +kernel
theorem dL_law_807 : decode cL_law 807 = .ok (.iconst 2, 1) := by decide +kernel
theorem dL_law_808 : decode cL_law 808 = .ok (.iadd, 1) := by decide +kernel
theorem dL_law_809 : decode cL_law 809 = .ok (.iaload, 1) := by decide +kernel
theorem dL_law_810 : decode cL_law 810 = .ok (.invokevirtual 104, 3) := by decide +kernel
theorem dL_law_813 : decode cL_law 813 = .ok (.lcmp, 1) := by decide +kernel
theorem dL_law_814 : decode cL_law 814 = .ok (.ifCond .eq 28, 3) := by decide +kernel
theorem dL_law_817 : decode cL_law 817 = .ok (.iconst 0, 1) := by decide +kernel
theorem dL_law_818 : decode cL_law 818 = .ok (.ireturn, 1) := by decide +kernel
theorem dL_law_819 : decode cL_law 819 = .ok (.aload_n 1, 1) := by decide +kernel
theorem dL_law_820 : decode cL_law 820 = .ok (.aload_n 0, 1) := by decide +kernel
theorem dL_law_821 : decode cL_law 821 = .ok (.iload_n 3, 1) := by decide +kernel
theorem dL_law_822 : decode cL_law 822 = .ok (.iconst 1, 1) := by decide +kernel
theorem dL_law_823 : decode cL_law 823 = .ok (.iadd, 1) := by decide +kernel
theorem dL_law_824 : decode cL_law 824 = .ok (.iaload, 1) := by decide +kernel
theorem dL_law_825 : decode cL_law 825 = .ok (.invokevirtual 105, 3) := by decide +kernel
theorem dL_law_828 : decode cL_law 828 = .ok (.aload_n 2, 1) := by decide +kernel
theorem dL_law_829 : decode cL_law 829 = .ok (.aload_n 0, 1) := by decide +kernel
theorem dL_law_830 : decode cL_law 830 = .ok (.iload_n 3, 1) := by decide +kernel
theorem dL_law_831 : decode cL_law 831 = .ok (.iconst 1, 1) := by decide +kernel
theorem dL_law_832 : decode cL_law 832 = .ok (.iadd, 1) := by decide +kernel
theorem dL_law_833 : decode cL_law 833 = .ok (.iaload, 1) := by decide +kernel
theorem dL_law_834 : decode cL_law 834 = .ok (.invokevirtual 109, 3) := by decide +kernel
theorem dL_law_837 : decode cL_law 837 = .ok (.if_icmp .eq 5, 3) := by decide +kernel
theorem dL_law_840 : decode cL_law 840 = .ok (.iconst 0, 1) := by decide +kernel
theorem dL_law_841 : decode cL_law 841 = .ok (.ireturn, 1) := by decide +kernel
theorem dL_law_842 : decode cL_law 842 = .ok (.iinc 3 5, 3) := by decide +kernel
theorem dL_law_845 : decode cL_law 845 = .ok (.goto (-827), 3) := by decide +kernel
theorem dL_law_848 : decode cL_law 848 = .ok (.iconst 1, 1) := by decide +kernel
theorem dL_law_849 : decode cL_law 849 = .ok (.ireturn, 1) := by decide +kernel
